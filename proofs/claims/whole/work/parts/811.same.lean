/-! shapes of nets: one net is another with the persons renamed -/
def rnN (o : List Nat) (a : Nat) : Nat → Nat
  | 0 => 0
  | P + 1 => if a.testBit P = true then rnN o a P ||| 2 ^ prN (oG o (loN P)) (oG o (hiN P)) else rnN o a P
def smF (n a b : Nat) : Nat → List Nat → Bool
  | 0, _ => false
  | f + 1, o => if rnN o a (n * (n - 1) / 2) = b then true else match nxO n o with
    | none => false
    | some o' => smF n a b f o'
theorem hl_n : ∀ n, n < 6 → ∀ P, P < n * (n - 1) / 2 → P < 45 ∧ hiN P < n ∧ loN P < n := by decide +kernel
theorem rn_lt {n : Nat} {o : List Nat} {a : Nat} (h5 : n ≤ 5) (ho : okO n o) : ∀ P, P ≤ n * (n - 1) / 2 → rnN o a P < 2 ^ (n * (n - 1) / 2)
  | 0, _ => Nat.two_pow_pos _
  | P + 1, hP => by
    have h1 := rn_lt (a := a) h5 ho P (by omega)
    obtain ⟨q1, q2, q3⟩ := hl_n n (by omega) P (by omega)
    have h4 := hiN_ok P q1
    have hne : oG o (loN P) ≠ oG o (hiN P) := ho.2.2 _ _ h4.2.2.1 q2
    rw [rnN]
    split
    · exact Nat.or_lt_two_pow h1 (p2lt (prN_pc (ho.2.1 _ q3) (ho.2.1 _ q2) hne))
    · exact h1
section sm
variable {N : Nat} {σ τ μ ν : zSt} {tp : Nat × (Nat → Nat)} {fa : Int32 × Int32} {l : zL} {net : Nat} {x : Int32} {ba rg : Nat → Int64} {ls : Nat × (Nat → Int64)} {cm : Nat × (Nat → Int64) × (Nat → Int32)} {li : Int64} {oc : Nat → Int32}
theorem m_same26 {a b : Nat} {o : List Nat} {k15 : Int64 → Int64 → Int32 → Int32 → zSt → Prop} {Q : Int32 → zSt → Prop} (hN : 1100 < N) (h5 : lPn l ≤ 5) (ho : okO (lPn l) o) (ha : a < 2 ^ lPc l) (h : MR μ tp fa l net x ba rg ls cm li oc) (hO : mOr μ (lPn l) o) (hE : ((lg_cmp (lN (rnN o a (lPc l))) (lN b)) = 0 → Q (1 : Int32) μ) ∧ (¬ (lg_cmp (lN (rnN o a (lPc l))) (lN b)) = 0 → w_X12_goesOn_ N (nI (lPn l)) μ (fun r3 τ4 => k15 (lN a) (lN b) (nI (lPn l)) r3 τ4))) : w_X12_isSameShape_26 N k15 Q N (lN a) (lN b) (nI (lPn l)) (0 : Int64) (0 : Int32) μ := by
  have hpc := pc_le (l := l) (by omega)
  have h45 : a < 2 ^ 45 := Nat.lt_of_lt_of_le ha (Nat.pow_le_pow_right (by decide) hpc)
  refine loopU (S := Unit) (fun f P _ => w_X12_isSameShape_26 N k15 Q f (lN a) (lN b) (nI (lPn l)) (lN (rnN o a P)) (nI P) μ) (fun _ _ => True) (lPc l) ?_ ?_ N 0 () (Nat.zero_le _) (by omega) trivial
  · intro f _ _
    show b_X12_isSameShape_26 N k15 (w_X12_isSameShape_26 N k15 Q f) Q (lN a) (lN b) (nI (lPn l)) (lN (rnN o a (lPc l))) (nI (lPc l)) μ
    unfold b_X12_isSameShape_26
    refine m_pairs (Mp h) (by omega) ?_
    rw [show lPn l * (lPn l - 1) / 2 = lPc l from rfl]
    exact br_t (nI_le (Nat.le_refl _) (by omega)) hE
  · intro f P _ hP _ ih
    have ih := ih () trivial
    rw [rnN] at ih
    show b_X12_isSameShape_26 N k15 (w_X12_isSameShape_26 N k15 Q f) Q (lN a) (lN b) (nI (lPn l)) (lN (rnN o a P)) (nI P) μ
    obtain ⟨q1, q2, q3⟩ := hl_n (lPn l) (by omega) P hP
    have b1 := ho.2.1 _ q2
    have b2 := ho.2.1 _ q3
    unfold b_X12_isSameShape_26
    refine m_pairs (Mp h) (by omega) ?_
    rw [show lPn l * (lPn l - 1) / 2 = lPc l from rfl, nI_1 P]
    refine br_f (nI_ge hP (by omega)) (m_isTied (by omega) (by omega) ?_)
    cases ht : a.testBit P with
    | false =>
      rw [ht, if_neg (by decide)] at ih
      exact br_t rfl (nm_e ih)
    | true =>
      rw [ht, if_pos rfl] at ih
      refine br_f (by decide) (m_lowOf (by omega) q1 ⟨vp_in_nI (by omega) (by decide), m_highOf (by omega) q1 ⟨vp_in_nI (by omega) (by decide), ?_⟩⟩)
      rw [nI_clamp (n := loN P) (by omega), nI_clamp (n := hiN P) (by omega), hO _ q3, hO _ q2]
      refine m_tied (by omega) (by omega) ?_
      rw [fb_orL]
      exact nm_e (nm_e ih)
theorem m_same15 {a b : Nat} {Q : Int32 → zSt → Prop} (hN : 1100 < N) (hf : fewB l = true) (ha : a < 2 ^ lPc l) (hb : b < 2 ^ lPc l) : ∀ (f g : Nat) (o : List Nat) (μ : zSt), f + 1 < g → chk (lPn l) f o = true → MR μ tp fa l net x ba rg ls cm li oc → mOr μ (lPn l) o → (∀ τ, MR τ tp fa l net x ba rg ls cm li oc → Q (b32 (smF (lPn l) a b f o)) τ) → w_X12_isSameShape_15 N Q g (lN a) (lN b) (nI (lPn l)) (1 : Int32) μ
  | 0, _, _, _, _, hc, _, _, _ => absurd (show false = true from hc) (by decide)
  | f + 1, 0, _, _, hg, _, _, _, _ => absurd hg (Nat.not_lt_zero _)
  | f + 1, 1, _, _, hg, _, _, _, _ => absurd hg (by omega)
  | f + 1, g + 2, o, μ, hg, hc, h, hO, hQ => by
    show b_X12_isSameShape_15 N (w_X12_isSameShape_15 N Q (g + 1)) Q (lN a) (lN b) (nI (lPn l)) (1 : Int32) μ
    have hp := few_pc hf
    have h1024 := few_2 hf
    have h2 : 2 ≤ lPn l := by
      unfold fewB at hf
      rw [Bool.and_eq_true, decide_eq_true_eq] at hf
      exact hf.1
    obtain ⟨ho, hc2⟩ := chk_s hc
    have hr := rn_lt (a := a) hp.1 ho (lPc l) (Nat.le_refl _)
    have hr : rnN o a (lPc l) < 2 ^ lPc l := hr
    unfold b_X12_isSameShape_15
    refine br_f (show ¬ (1 : Int32) = 0 by decide) (m_same26 hN hp.1 ho ha h hO ?_)
    rw [lg_cmp_eq, lN_eq (by omega) (by omega)]
    rw [smF, show lPn l * (lPn l - 1) / 2 = lPc l from rfl] at hQ
    refine ⟨fun q => ?_, fun q => ?_⟩
    · rw [if_pos q] at hQ
      exact hQ μ h
    · rw [if_neg q] at hQ
      refine m_advance hN h2 hp.1 ho hO (fun e => ?_) (fun o' e τ f1 o1 => ?_)
      · rw [e] at hQ
        show b_X12_isSameShape_15 N (w_X12_isSameShape_15 N Q g) Q (lN a) (lN b) (nI (lPn l)) (0 : Int32) μ
        unfold b_X12_isSameShape_15
        exact br_t rfl (hQ μ h)
      · rw [e] at hQ
        exact m_same15 hN hf ha hb f (g + 1) o' τ (by omega) (hc2 o' e) (M_or f1 h) o1 hQ
theorem m_same {a b : Nat} {Q : Int32 → zSt → Prop} (hN : 1100 < N) (hf : fewB l = true) (ha : a < 2 ^ lPc l) (hb : b < 2 ^ lPc l) (h : MR μ tp fa l net x ba rg ls cm li oc) (hQ : ∀ τ, MR τ tp fa l net x ba rg ls cm li oc → Q (b32 (smF (lPn l) a b 120 (List.range (lPn l)))) τ) : w_X12_isSameShape N (lN a) (lN b) μ Q := by
  have hp := few_pc hf
  have h2 : 2 ≤ lPn l := by
    have hf := hf
    unfold fewB at hf
    rw [Bool.and_eq_true, decide_eq_true_eq] at hf
    exact hf.1
  exact m_many (Mp h) (m_start hN hp.1 (fun τ f1 o1 => m_same15 hN hf ha hb 120 N (List.range (lPn l)) τ (by omega) (chk_all _ (by omega) h2) (M_or f1 h) o1 hQ))
end sm
