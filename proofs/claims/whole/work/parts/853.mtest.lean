/-! the reference reads tests: points where it stands -/
section de
variable (N : Nat) (Q : zSt → Prop) (tp : Nat × (Nat → Nat))
def tK (f : Nat) (r : Int32) (τ : zSt) : Prop := (r = 0 → w_X12_test_2 N Q f (0 : Int32) τ) ∧ (¬ r = 0 → w_X12_test_2 N Q f (1 : Int32) τ)
def TO (s : zP) (μ : zSt) : Prop := ∀ f, tp.1 + 1 < f + s.1 → w_X12_test_2 N Q f (1 : Int32) μ
def TC (s : zP) (μ : zSt) : Prop := ∀ f g, tp.1 < f + s.1 → tp.1 < g + s.1 → w_X12_goesOnTest_0 N (tK N Q f) g μ
def TD (s : zP) (μ : zSt) : Prop := ∀ (f : Nat) (K : zSt → Prop) (n : Nat), tp.1 < f + s.1 → s.2.2.1 < n → (∀ τ, τ.1 4 = 0 → (∀ g, tp.1 < g + s.1 → w_X12_goesOnTest_0 N (tK N Q f) g τ) → K τ) → w_X12_dropsNots_0 N K n μ
end de
def mD {α : Type} (μ : zSt) (r : Except (Nat × Nat) α) (A : α → zSt → Prop) (F : zSt → Prop) : Prop := (∀ s ν, r = .ok s → mFr μ ν → A s ν) ∧ (∀ e ν, r = .error e → mFr μ ν → mBc ν e 2 → F ν)
section mv
variable {N : Nat} {Q : zSt → Prop} {tp : Nat × (Nat → Nat)} {μ ν υ : zSt} {s u : zP} {St X : List Nat} {b d n : Nat} {na : Nat → Nat} {S : zP → zE} {GQ : Int32 → zSt → Prop}
theorem mD_t {α : Type} {r : Except (Nat × Nat) α} {A : α → zSt → Prop} {F : zSt → Prop} (f : mFr μ ν) (h : mD μ r A F) : mD ν r A F := ⟨fun s υ e g => h.1 s υ e (mFr_t f g), fun e υ he g => h.2 e υ he (mFr_t f g)⟩
theorem mD_b {α β : Type} {r : Except (Nat × Nat) α} {g : α → Except (Nat × Nat) β} {A : β → zSt → Prop} {B : α → zSt → Prop} {F : zSt → Prop} (h : mD μ (bdP r g) A F) (h2 : ∀ s ν, r = .ok s → mFr μ ν → mD ν (g s) A F → B s ν) : mD μ r B F := by
  refine ⟨fun s ν e f => h2 s ν e f (mD_t f ?_), fun e ν he f hb => h.2 e ν ?_ f hb⟩
  · rw [e] at h; exact h
  · rw [he]; rfl
theorem test_f {f j : Nat} {e : Nat × Nat} {x : Int32} (hN : 1100 < N) (hf : 1 ≤ f) (hb : mBc μ e j) (hF : Q μ) : w_X12_test_2 N Q f x μ := by
  have h110 : ∀ n, 1 ≤ n → w_X12_test_110 N Q n μ := fun n hn => by
    cases n with
    | zero => exact absurd hn (by decide)
    | succ n =>
      show b_X12_test_110 N (w_X12_test_110 N Q n) Q μ
      unfold b_X12_test_110
      exact br_f (mBc_n hb) hF
  cases f with
  | zero => exact absurd hf (by decide)
  | succ f =>
    show b_X12_test_2 N (w_X12_test_2 N Q f) Q x μ
    unfold b_X12_test_2
    exact ⟨fun _ => h110 N (by omega), fun _ => br_f (mBc_n hb) (h110 N (by omega))⟩
theorem tK_f {f j : Nat} {e : Nat × Nat} {r : Int32} (hN : 1100 < N) (hf : 1 ≤ f) (hb : mBc μ e j) (hF : Q μ) : tK N Q f r μ := ⟨fun _ => test_f hN hf hb hF, fun _ => test_f hN hf hb hF⟩
theorem nots_f {K : zSt → Prop} {n j : Nat} {e : Nat × Nat} (hn : 1 ≤ n) (hb : mBc μ e j) (hF : K μ) : w_X12_dropsNots_0 N K n μ := by
  cases n with
  | zero => exact absurd hn (by decide)
  | succ n =>
    show b_X12_dropsNots_0 N (w_X12_dropsNots_0 N K n) K μ
    unfold b_X12_dropsNots_0
    exact br_f (mBc_n hb) hF
/-- no not waits: on to what follows -/
theorem tD_c (hX : nhd [16] St) (h : mK ν tp u St b) (hc : TC N Q tp u ν) : TD N Q tp u ν := by
  intro f K n hf hn hK
  obtain ⟨n', rfl⟩ : ∃ n', n = n' + 1 := ⟨n - 1, by omega⟩
  show b_X12_dropsNots_0 N (w_X12_dropsNots_0 N K n') K ν
  unfold b_X12_dropsNots_0
  exact br_t h.2.1.2.1 (m_isOnN (c := 16) hX (by decide) (by decide) h (br_t rfl (hK ν h.2.1.2.1 (fun g hg => hc f g hf hg))))
/-- a not waits: written -/
theorem tD_n (h : mK ν tp u (16 :: St) b) (ho : 1 ≤ u.2.2.1) (hc : ∀ υ, mFr ν υ → mK υ tp (emP 11 (dnP u)) St b → TD N Q tp (emP 11 (dnP u)) υ) : TD N Q tp u ν := by
  intro f K n hf hn hK
  obtain ⟨n', rfl⟩ : ∃ n', n = n' + 1 := ⟨n - 1, by omega⟩
  show b_X12_dropsNots_0 N (w_X12_dropsNots_0 N K n') K ν
  unfold b_X12_dropsNots_0
  refine br_t h.2.1.2.1 (m_isOn (c := 16) (by decide) (by decide) h (br_f (by decide) (nm_e ?_)))
  obtain ⟨a1, a2, a3, a4, a5, a6, a7⟩ := h
  have k1 : mK (zI ν 11 (ν.1 11 - 1)) tp (dnP u) (gR 11 :: St) b := ⟨a1, a2, ⟨by show u.2.2.1 - 1 ≤ 6; have := a3.1; omega, by show ν.1 11 - 1 = nI (u.2.2.1 - 1); rw [a3.2, nI_s1 ho]⟩, a4, a5, a6, a7⟩
  refine m_drops (v := 11) k1 (fun υ f1 k2 => ?_)
  exact hc υ (mFr_t (mFr_f (I := [11]) (fr_I fr_r (by decide)) (subl rfl)) f1) k2 f K n' hf (by show u.2.2.1 - 1 < n'; omega) hK
/-- whether a bracket is open -/
theorem wtk_g {w : Nat → Int32} : ∀ {S : List Nat} {k : Nat}, wtk w S → k < S.length → w k = nI (S.getD (S.length - 1 - k) 0)
  | [], k, _, hk => absurd hk (Nat.not_lt_zero _)
  | v :: S, k, h, hk => by
    have hk : k < S.length + 1 := hk
    by_cases c : k = S.length
    · rw [c, h.1]
      show nI v = nI ((v :: S).getD (S.length + 1 - 1 - S.length) 0)
      rw [show S.length + 1 - 1 - S.length = 0 by omega]; rfl
    · rw [wtk_g h.2 (show k < S.length by omega)]
      show _ = nI ((v :: S).getD (S.length + 1 - 1 - k) 0)
      rw [show S.length + 1 - 1 - k = (S.length - 1 - k) + 1 by omega]; rfl
theorem m_has (hN : 1100 < N) (h : mK μ tp s St b) (hS : ∀ v, v ∈ St → v < 100) (hQ : GQ (b32 (decide (25 ∈ St))) μ) : w_X12_hasSquare N μ GQ := by
  have hbd := mK_bd h
  have h4 := h.2.2.2.1
  refine loopU (S := Unit) (fun f k _ => w_X12_hasSquare_2 N GQ f (nI k) μ) (fun k _ => ∀ j, j < k → ¬ St.getD (St.length - 1 - j) 0 = 25) St.length ?_ ?_ N 0 () (Nat.zero_le _) (by omega) (fun j hj => absurd hj (Nat.not_lt_zero _))
  · intro f _ hI
    show b_X12_hasSquare_2 N (w_X12_hasSquare_2 N GQ f) GQ (nI St.length) μ
    have e : ¬ 25 ∈ St := fun z => by
      obtain ⟨i, hi, e⟩ := List.mem_iff_getElem.mp z
      refine hI (St.length - 1 - i) (by omega) ?_
      rw [show St.length - 1 - (St.length - 1 - i) = i by omega, List.getD_eq_getElem?_getD, List.getElem?_eq_getElem hi, e]; rfl
    rw [decide_eq_false e] at hQ
    unfold b_X12_hasSquare_2
    rw [h4.1]
    exact br_t (nI_le (Nat.le_refl _) (by omega)) hQ
  · intro f k _ hk hI ih
    show b_X12_hasSquare_2 N (w_X12_hasSquare_2 N GQ f) GQ (nI k) μ
    have hg := wtk_g h4.2 hk
    have hm : St.getD (St.length - 1 - k) 0 ∈ St := by
      rw [List.getD_eq_getElem?_getD, List.getElem?_eq_getElem (show St.length - 1 - k < St.length by omega)]
      exact List.getElem_mem _
    have hlt := hS _ hm
    unfold b_X12_hasSquare_2
    rw [h4.1, nI_clamp (n := k) (by omega), hg, nI_1, show (25 : Int32) = nI 25 from rfl, nI_eq (by omega) (by decide)]
    refine br_f (nI_ge hk (by omega)) ⟨vp_in_nI (by omega) (by decide), fun z => ?_, fun z => nm_e (ih () (fun j hj => ?_))⟩
    · rw [z] at hm
      rw [decide_eq_true hm] at hQ; exact hQ
    · by_cases q : j = k
      · rw [q]; exact z
      · exact hI j (by omega)
theorem gR_9 : gR 9 = 14 ∧ gR 10 = 15 ∧ gR 11 = 16 ∧ gR 12 = 17 := by decide
/-- and, or: what waits is written, then it waits itself -/
theorem m_87 : ∀ (P : List Nat) (f : Nat) (μ : zSt) (s : zP), P.length < f → (∀ v, v ∈ P → v = 9) → nhd [14] St → mK μ tp s (P.map gR ++ St) b → s.2.2.2.length + P.length + St.length < s.1 → (∀ ν, mFr μ ν → mK ν tp (emL P s) (14 :: St) b → GQ 1 ν) → w_X12_goesOnTest_87 N GQ f μ
  | [], 0, _, _, hf, _, _, _, _, _ => absurd hf (Nat.not_lt_zero _)
  | v :: P, 0, _, _, hf, _, _, _, _, _ => absurd hf (Nat.not_lt_zero _)
  | [], f + 1, μ, s, hf, hP, hX, h, hl, hQ => by
    show b_X12_goesOnTest_87 N (w_X12_goesOnTest_87 N GQ f) GQ μ
    have h : mK μ tp s St b := h
    have hl : s.2.2.2.length + 0 + St.length < s.1 := hl
    unfold b_X12_goesOnTest_87
    refine m_isOnN (c := 14) hX (by decide) (by decide) h (br_t rfl ?_)
    exact m_pushW (v := 14) h (by omega) (fun ν f1 k1 => hQ ν f1 (by rw [emL_0]; exact k1))
  | v :: P, f + 1, μ, s, hf, hP, hX, h, hl, hQ => by
    show b_X12_goesOnTest_87 N (w_X12_goesOnTest_87 N GQ f) GQ μ
    have hv := hP v (List.mem_cons_self ..)
    subst hv
    have h : mK μ tp s (gR 9 :: (P.map gR ++ St)) b := h
    have hl : s.2.2.2.length + (P.length + 1) + St.length < s.1 := hl
    unfold b_X12_goesOnTest_87
    refine m_isOn (c := 14) (by decide) (by decide) h (br_f (by decide) (m_drops h (fun ν f1 k1 => m_87 P f ν (emP 9 s) (Nat.lt_of_succ_lt_succ hf) (fun x hx => hP x (List.mem_cons_of_mem _ hx)) hX k1 ?_ (fun υ f2 k2 => hQ υ (mFr_t f1 f2) (by rw [emL_c] at k2; exact k2)))))
    show (s.2.2.2 ++ [9]).length + P.length + St.length < s.1
    rw [List.length_append]
    show s.2.2.2.length + 1 + P.length + St.length < s.1
    omega
theorem m_137 : ∀ (P : List Nat) (f : Nat) (μ : zSt) (s : zP), P.length < f → (∀ v, v ∈ P → v = 9 ∨ v = 10) → nhd [14, 15] St → mK μ tp s (P.map gR ++ St) b → s.2.2.2.length + P.length + St.length < s.1 → (∀ ν, mFr μ ν → mK ν tp (emL P s) (15 :: St) b → GQ 1 ν) → w_X12_goesOnTest_137 N GQ f μ
  | [], 0, _, _, hf, _, _, _, _, _ => absurd hf (Nat.not_lt_zero _)
  | v :: P, 0, _, _, hf, _, _, _, _, _ => absurd hf (Nat.not_lt_zero _)
  | [], f + 1, μ, s, hf, hP, hX, h, hl, hQ => by
    show b_X12_goesOnTest_137 N (w_X12_goesOnTest_137 N GQ f) GQ μ
    have h : mK μ tp s St b := h
    have hl : s.2.2.2.length + 0 + St.length < s.1 := hl
    unfold b_X12_goesOnTest_137
    refine m_isOnN (c := 14) hX (by decide) (by decide) h (br_t rfl (m_isOnN (c := 15) hX (by decide) (by decide) h (br_t rfl ?_)))
    exact m_pushW (v := 15) h (by omega) (fun ν f1 k1 => hQ ν f1 (by rw [emL_0]; exact k1))
  | v :: P, f + 1, μ, s, hf, hP, hX, h, hl, hQ => by
    show b_X12_goesOnTest_137 N (w_X12_goesOnTest_137 N GQ f) GQ μ
    have hv := hP v (List.mem_cons_self ..)
    have h : mK μ tp s (gR v :: (P.map gR ++ St)) b := h
    have hl : s.2.2.2.length + (P.length + 1) + St.length < s.1 := hl
    have hg : gR v = 14 ∨ gR v = 15 := by rcases hv with e | e <;> rw [e]; exact Or.inl rfl; exact Or.inr rfl
    have go : b_X12_goesOnTest_155 N (w_X12_goesOnTest_137 N GQ f) GQ μ := by
      unfold b_X12_goesOnTest_155
      refine m_drops h (fun ν f1 k1 => m_137 P f ν (emP v s) (Nat.lt_of_succ_lt_succ hf) (fun x hx => hP x (List.mem_cons_of_mem _ hx)) hX k1 ?_ (fun υ f2 k2 => hQ υ (mFr_t f1 f2) (by rw [emL_c] at k2; exact k2)))
      show (s.2.2.2 ++ [v]).length + P.length + St.length < s.1
      rw [List.length_append]
      show s.2.2.2.length + 1 + P.length + St.length < s.1
      omega
    unfold b_X12_goesOnTest_137
    refine m_isOn (c := 14) (by decide) (by omega) h ⟨fun z => m_isOn (c := 15) (by decide) (by omega) h ⟨fun y => ?_, fun _ => go⟩, fun _ => go⟩
    have z := of_decide_eq_false (b32_0.mp z)
    have y := of_decide_eq_false (b32_0.mp y)
    omega
/-- down to the bracket -/
theorem m_33 {K : zSt → Prop} : ∀ (P : List Nat) (f : Nat) (μ : zSt) (s : zP), P.length < f → (∀ v, v ∈ P → v = 9 ∨ v = 10) → mK μ tp s (P.map gR ++ 25 :: St) b → 1 ≤ s.2.2.1 → (∀ ν, mFr μ ν → mK ν tp (dnP (emL P s)) St b → w_X12_dropsNots_0 N K N ν) → w_X12_goesOnTest_33 N K GQ f μ
  | [], 0, _, _, hf, _, _, _, _ => absurd hf (Nat.not_lt_zero _)
  | v :: P, 0, _, _, hf, _, _, _, _ => absurd hf (Nat.not_lt_zero _)
  | [], f + 1, μ, s, hf, hP, h, ho, hQ => by
    show b_X12_goesOnTest_33 N K (w_X12_goesOnTest_33 N K GQ f) GQ μ
    have h : mK μ tp s (25 :: St) b := h
    have hq := h
    obtain ⟨a1, a2, a3, ⟨a4, a41, a42⟩, a5, a6, a7⟩ := h
    have a4 : μ.1 10 = nI (St.length + 1) := a4
    have a7 : s.2.2.2.length + (St.length + 1) ≤ s.1 := a7
    unfold b_X12_goesOnTest_33
    refine m_isOn (c := 25) (by decide) (by decide) hq (br_f (by decide) (nm_e (nm_e ?_)))
    refine hQ _ (mFr_f (I := [10, 11]) (fr_I (fr_I fr_r (by decide)) (by decide)) (subl rfl)) ?_
    rw [emL_0]
    refine ⟨a1, a2, ⟨by show s.2.2.1 - 1 ≤ 6; have := a3.1; omega, ?_⟩, ⟨?_, a42⟩, a5, a6, by show s.2.2.2.length + St.length ≤ s.1; omega⟩
    · show μ.1 11 - 1 = nI (s.2.2.1 - 1)
      rw [a3.2, nI_s1 ho]
    · show μ.1 10 - 1 = nI St.length
      rw [a4, nI_pred]
  | v :: P, f + 1, μ, s, hf, hP, h, ho, hQ => by
    show b_X12_goesOnTest_33 N K (w_X12_goesOnTest_33 N K GQ f) GQ μ
    have hv := hP v (List.mem_cons_self ..)
    have h : mK μ tp s (gR v :: (P.map gR ++ 25 :: St)) b := h
    have hg : gR v = 14 ∨ gR v = 15 := by rcases hv with e | e <;> rw [e]; exact Or.inl rfl; exact Or.inr rfl
    unfold b_X12_goesOnTest_33
    refine m_isOn (c := 25) (by decide) (by omega) h (br_t (b32_0.mpr (decide_eq_false (by omega))) (m_drops h (fun ν f1 k1 => m_33 P f ν (emP v s) (Nat.lt_of_succ_lt_succ hf) (fun x hx => hP x (List.mem_cons_of_mem _ hx)) k1 ho (fun υ f2 k2 => hQ υ (mFr_t f1 f2) (by rw [emL_c] at k2; exact k2)))))
end mv
