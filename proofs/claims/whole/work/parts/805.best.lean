/-! few persons: the best net, what is lost by rest -/
def fewB (l : zL) : Bool := decide (2 ≤ lPn l) && decide (lPn l ≤ 5)
def wAll (l : zL) (x : Int32) (n : Nat) : Int64 := twS l (fun _ => x) n (lPn l)
/-- the best of the nets 0 .. i -/
def bsN (l : zL) (x : Int32) : Nat → Nat
  | 0 => 0
  | i + 1 => if mayv l (i + 1) = true ∧ wAll l x (bsN l x i) < wAll l x (i + 1) then i + 1 else bsN l x i
def bstA (l : zL) (x : Int32) : Int64 := if fewB l = true then lN (bsN l x (2 ^ lPc l - 1)) else -1
def betB (hi : Bool) (w v : Int64) : Bool := if hi = true then decide (w < v) else decide (v < w)
theorem bet_f (w v : Int64) : betB false w v = decide (v < w) := rfl
theorem bet_t (w v : Int64) : betB true w v = decide (w < v) := rfl
def losS (l : zL) (x : Int32) (kind : Nat) (hi : Bool) : Nat → Bool × Int64
  | 0 => (false, 0)
  | i + 1 => if mayv l i = true ∧ (rstO l (fun _ => x) i kind).isSome = false then (if (losS l x kind hi i).1 = false then (true, wAll l x i) else if betB hi (wAll l x i) (losS l x kind hi i).2 = true then (true, wAll l x i) else losS l x kind hi i) else losS l x kind hi i
def losA (l : zL) (x : Int32) (k : Int32) (hi : Bool) : Int64 := if fewB l = true ∧ kinB k = true then (if (losS l x k.toNatClampNeg hi (2 ^ lPc l)).1 = false then -1 else wAll l x (bsN l x (2 ^ lPc l - 1)) - (losS l x k.toNatClampNeg hi (2 ^ lPc l)).2) else -1
theorem few_pc {l : zL} (h : fewB l = true) : lPn l ≤ 5 ∧ lPc l ≤ 10 ∧ 1 ≤ lPc l := by
  unfold fewB at h
  rw [Bool.and_eq_true, decide_eq_true_eq, decide_eq_true_eq] at h
  have : ∀ n, n ≤ 5 → 2 ≤ n → n * (n - 1) / 2 ≤ 10 ∧ 1 ≤ n * (n - 1) / 2 := by decide
  exact ⟨h.2, this _ h.2 h.1⟩
theorem few_2 {l : zL} (h : fewB l = true) : 2 ≤ 2 ^ lPc l ∧ 2 ^ lPc l ≤ 1024 := by
  have h1 := few_pc h
  have a : 2 ^ 1 ≤ 2 ^ lPc l := Nat.pow_le_pow_right (by decide) h1.2.2
  have b : 2 ^ lPc l ≤ 2 ^ 10 := Nat.pow_le_pow_right (by decide) h1.2.1
  exact ⟨a, b⟩
theorem may_0 (l : zL) : mayv l 0 = true := mayv_t (Nat.zero_and _) (fun p _ => by
  have : dg (lPn l) 0 p = 0 := fb_ct_zero.mpr (fun k _ => by unfold td; rw [Nat.zero_testBit, Bool.and_false])
  omega)
theorem bsN_le (l : zL) (x : Int32) : ∀ i, bsN l x i ≤ i
  | 0 => Nat.le_refl _
  | i + 1 => by
    have := bsN_le l x i
    rw [bsN]
    split <;> omega
theorem lgN_ge {a b : Nat} (ha : a < 2 ^ 31) (hb : b < 2 ^ 31) : 0 ≤ lg_cmp (lN a) (lN b) ↔ b ≤ a := by rw [lg_cmp_ge, lN_le hb ha]
section bs
variable {N : Nat} {σ τ μ ν : zSt} {tp : Nat × (Nat → Nat)} {fa : Int32 × Int32} {l : zL} {net : Nat} {x : Int32} {ba rg : Nat → Int64} {ls : Nat × (Nat → Int64)} {cm : Nat × (Nat → Int64) × (Nat → Int32)} {li : Int64} {oc : Nat → Int32}
theorem Xa {n : Nat} {Q : Int64 → zSt → Prop} (hN : 1100 < N) (h : XR σ tp fa l net x ba rg ls cm li oc) (hn : n < 2 ^ lPc l) (hQ : ∀ τ, XR τ tp fa l net x ba rg ls cm li oc → Q (wAll l x n) τ) : w_X10_inAll N (lN n) σ Q :=
  x_inAll (by omega) h.2.2.1 hn (fun τ f g => hQ τ (XR_s (xS_F f) g h))
theorem Ma {n : Nat} {Q : Int64 → zSt → Prop} (hN : 1100 < N) (h : MR μ tp fa l net x ba rg ls cm li oc) (hn : n < 2 ^ lPc l) (hQ : ∀ τ, MR τ tp fa l net x ba rg ls cm li oc → Q (wAll l x n) τ) : w_X12_worthOfAll N (lN n) μ Q :=
  m_ofAll hN h.2.2.1 hn (fun τ f g => hQ τ (MR_s (mS_F f) g h))
theorem Xy {n : Nat} {Q : Int32 → zSt → Prop} (hN : 1100 < N) (h : XR σ tp fa l net x ba rg ls cm li oc) (hn : n < 2 ^ lPc l) (hQ : Q (b32 (mayv l n)) σ) : w_X4_may N (lN n) σ Q := x_may (by omega) h.2.2.1 hn hQ
theorem My {n : Nat} {Q : Int32 → zSt → Prop} (hN : 1100 < N) (h : MR μ tp fa l net x ba rg ls cm li oc) (hn : n < 2 ^ lPc l) (hQ : Q (b32 (mayv l n)) μ) : w_X12_may N (lN n) μ Q := m_may (by omega) h.2.2.1 hn hQ
theorem Xr {n kind : Nat} {Q : Int32 → zSt → Prop} (hN : 1100 < N) (h : XR σ tp fa l net x ba rg ls cm li oc) (hk : kind < 6) (h5 : lPn l ≤ 5) (hn : n < 2 ^ lPc l) (hm : mayv l n = true) (hQ : ∀ τ, XR τ tp fa l net x ba rg ls cm li oc → Q (b32 (rstO l (fun _ => x) n kind).isSome) τ) : w_X0_endRest N (lN n) (nI kind) 0 σ Q :=
  x_endRest hN h.2.2.1 h.2.2.2.1 (ex_ok2 h.2.2.2.2.1.1) hk (fun _ => h5) hn (fun _ _ => hm) (fun τ f g _ => hQ τ (XR_s (xS_2 f) g h))
theorem Mr {n kind : Nat} {Q : Int32 → zSt → Prop} (hN : 1100 < N) (h : MR μ tp fa l net x ba rg ls cm li oc) (hk : kind < 6) (h5 : lPn l ≤ 5) (hn : n < 2 ^ lPc l) (hQ : ∀ τ, MR τ tp fa l net x ba rg ls cm li oc → Q (b32 (!(rstO l (fun _ => x) n kind).isSome)) τ) : w_X12_isRest N (lN n) (nI kind) μ Q :=
  m_isRest hN h.2.2.1 (ex_ok2 h.2.2.2.2.1.1) hk (fun _ => h5) hn (fun τ f g _ => hQ τ (MR_s (mS_5 f) g h))
theorem Xp (h : XR σ tp fa l net x ba rg ls cm li oc) : σ.1 2 = nI (lPc l) := h.2.2.1.2.2.1.2.1
theorem Mp (h : MR μ tp fa l net x ba rg ls cm li oc) : μ.2.2.1 1 1 = nI (lPn l) := h.2.2.1.2.2.1.1
theorem x_few {Q : Int32 → zSt → Prop} (h : XR σ tp fa l net x ba rg ls cm li oc) (hQ : Q (b32 (fewB l)) σ) : w_X11_areFew N σ Q := by
  have h10 := h.2.2.1.1.1
  unfold w_X11_areFew
  rw [h.2.2.1.2.2.1.1]
  unfold fewB at hQ
  refine ⟨fun q => ?_, fun q => ⟨fun q2 => ?_, fun q2 => ?_⟩⟩
  · have q : lPn l < 2 := (nI_ltI (b := 2) (by omega) (by omega)).mp q
    rw [decide_eq_false (by omega)] at hQ; exact hQ
  · have q2 : 5 < lPn l := (nI_ltI (a := 5) (by omega) (by omega)).mp q2
    rw [decide_eq_false (p := lPn l ≤ 5) (by omega), Bool.and_false] at hQ; exact hQ
  · have q : ¬ lPn l < 2 := fun z => q ((nI_ltI (b := 2) (by omega) (by omega)).mpr z)
    have q2 : ¬ 5 < lPn l := fun z => q2 ((nI_ltI (a := 5) (by omega) (by omega)).mpr z)
    rw [decide_eq_true (p := 2 ≤ lPn l) (by omega), decide_eq_true (p := lPn l ≤ 5) (by omega)] at hQ; exact hQ
theorem m_few {Q : Int32 → zSt → Prop} (h : MR μ tp fa l net x ba rg ls cm li oc) (hQ : Q (b32 (fewB l)) μ) : w_X12_areFew N μ Q := by
  have h10 := h.2.2.1.1.1
  unfold w_X12_areFew
  refine m_many (Mp h) (m_isIn ⟨b32_zb _, ?_⟩)
  have e : (decide ((2 : Int64) ≤ (nI (lPn l)).toInt64) && decide ((nI (lPn l)).toInt64 ≤ (5 : Int64))) = fewB l := by
    unfold fewB
    rw [nI_l (by omega)]
    congr 1
    · exact decide_eq_decide.mpr (lN_le (a := 2) (by omega) (by omega))
    · exact decide_eq_decide.mpr (lN_le (b := 5) (by omega) (by omega))
  rw [e]; exact hQ
theorem x_kind {k : Int32} {Q : Int32 → zSt → Prop} (hQ : Q (b32 (kinB k)) σ) : w_X11_isKind N k σ Q := by
  unfold w_X11_isKind
  unfold kinB at hQ
  refine ⟨fun q => ?_, fun q => ⟨fun q2 => ?_, fun q2 => ?_⟩⟩
  · rw [decide_eq_false (nle_lt.mpr q)] at hQ; exact hQ
  · rw [decide_eq_false (nlt_le.mpr q2), Bool.and_false] at hQ; exact hQ
  · rw [decide_eq_true (nlt_le.mp q), decide_eq_true (nle_lt.mp q2)] at hQ; exact hQ
theorem x_bestNet {Q : Int64 → zSt → Prop} (hN : 1100 < N) (hf : fewB l = true) (h : XR σ tp fa l net x ba rg ls cm li oc) (hQ : ∀ τ, XR τ tp fa l net x ba rg ls cm li oc → Q (lN (bsN l x (2 ^ lPc l - 1))) τ) : w_X11_bestNet N σ Q := by
  have h2 := few_2 hf
  have hp := few_pc hf
  refine Xa (n := 0) hN h (by omega) (fun τ h1 => ?_)
  rw [Xp h1, oneJ (by omega)]
  refine nm_e ?_
  refine loopU (fun f i (s : zSt) => w_X11_bestNet_25 N Q f (lN (bsN l x i)) (wAll l x (bsN l x i)) (lN (2 ^ lPc l)) (lN (i + 1)) s) (fun _ s => XR s tp fa l net x ba rg ls cm li oc) (2 ^ lPc l - 1) ?_ ?_ N 0 τ (Nat.zero_le _) (by omega) h1
  · intro f s hs
    show b_X11_bestNet_25 N (w_X11_bestNet_25 N Q f) Q (lN (bsN l x (2 ^ lPc l - 1))) (wAll l x (bsN l x (2 ^ lPc l - 1))) (lN (2 ^ lPc l)) (lN (2 ^ lPc l - 1 + 1)) s
    unfold b_X11_bestNet_25
    exact br_t ((lgN_ge (by omega) (by omega)).mpr (by omega)) (hQ s hs)
  · intro f i s hi hs ih
    show b_X11_bestNet_25 N (w_X11_bestNet_25 N Q f) Q (lN (bsN l x i)) (wAll l x (bsN l x i)) (lN (2 ^ lPc l)) (lN (i + 1)) s
    unfold b_X11_bestNet_25
    rw [bsN] at ih
    rw [lN_1]
    refine br_f (fun z => by have := (lgN_ge (by omega) (by omega)).mp z; omega) (Xy hN hs (by omega) ⟨fun q => ?_, fun q => Xa hN hs (by omega) (fun s2 hs2 => ?_)⟩)
    · rw [if_neg (fun z => by rw [b32_0.mp q] at z; exact absurd z.1 (by decide))] at ih
      exact nm_e (ih s hs)
    · rw [lg_cmp_le]
      refine ⟨fun q2 => ?_, fun q2 => Xa hN hs2 (by omega) (fun s3 hs3 => ?_)⟩
      · rw [if_neg (fun z => Int64.not_le.mpr z.2 q2)] at ih
        exact nm_e (ih s2 hs2)
      · rw [if_pos ⟨b32_n.mp q, Int64.not_le.mp q2⟩] at ih
        exact nm_e (ih s3 hs3)
theorem X_best {Q : Int64 → zSt → Prop} (hN : 1100 < N) (h : XR σ tp fa l net x ba rg ls cm li oc) (hQ : ∀ τ, XR τ tp fa l net x ba rg ls cm li oc → Q (bstA l x) τ) : w_X11_best N σ Q := by
  unfold bstA at hQ
  refine x_few h ⟨fun q => ?_, fun q => ?_⟩
  · rw [if_neg (by rw [b32_0.mp q]; decide)] at hQ; exact hQ σ h
  · rw [if_pos (b32_n.mp q)] at hQ
    exact x_bestNet hN (b32_n.mp q) h hQ
theorem m_best1 {Q : Int64 → zSt → Prop} (hN : 1100 < N) (hf : fewB l = true) (h : MR μ tp fa l net x ba rg ls cm li oc) (hQ : ∀ τ, MR τ tp fa l net x ba rg ls cm li oc → Q (lN (bsN l x (2 ^ lPc l - 1))) τ) (f0 : Nat) (hf0 : 1025 < f0) : w_X12_best_20 N Q f0 (lN 0) (wAll l x 0) (lN 1) μ := by
  have h2 := few_2 hf
  have hp := few_pc hf
  have h10 := h.2.2.1.1.1
  refine loopU (fun f i (s : zSt) => w_X12_best_20 N Q f (lN (bsN l x i)) (wAll l x (bsN l x i)) (lN (i + 1)) s) (fun _ s => MR s tp fa l net x ba rg ls cm li oc) (2 ^ lPc l - 1) ?_ ?_ f0 0 μ (Nat.zero_le _) (by omega) h
  · intro f s hs
    show b_X12_best_20 N (w_X12_best_20 N Q f) Q (lN (bsN l x (2 ^ lPc l - 1))) (wAll l x (bsN l x (2 ^ lPc l - 1))) (lN (2 ^ lPc l - 1 + 1)) s
    unfold b_X12_best_20
    refine m_pairs (Mp hs) h10 ?_
    rw [show lPn l * (lPn l - 1) / 2 = lPc l from rfl, oneJ (by omega)]
    exact br_t ((lgN_ge (by omega) (by omega)).mpr (by omega)) (hQ s hs)
  · intro f i s hi hs ih
    show b_X12_best_20 N (w_X12_best_20 N Q f) Q (lN (bsN l x i)) (wAll l x (bsN l x i)) (lN (i + 1)) s
    unfold b_X12_best_20
    have hb := bsN_le l x i
    rw [bsN] at ih
    refine m_pairs (Mp hs) h10 ?_
    rw [show lPn l * (lPn l - 1) / 2 = lPc l from rfl, oneJ (by omega), lN_1 (i + 1)]
    refine br_f (fun z => by have := (lgN_ge (by omega) (by omega)).mp z; omega) (My hN hs (by omega) ⟨fun q => ?_, fun q => Ma hN hs (by omega) (fun s2 hs2 => br_f ?_ ⟨fun q2 => ?_, fun q2 => ?_⟩)⟩)
    · rw [if_neg (fun z => by rw [b32_0.mp q] at z; exact absurd z.1 (by decide))] at ih
      exact nm_e (ih s hs)
    · rw [lg_cmp_eq]; exact lN_m1 (by omega)
    · rw [if_pos ⟨b32_n.mp q, (lg_cmp_gt _ _).mp q2⟩] at ih
      unfold b_X12_best_70
      rw [lN_1 (i + 1)]
      exact nm_e (ih s2 hs2)
    · rw [if_neg (fun z => q2 ((lg_cmp_gt _ _).mpr z.2))] at ih
      exact nm_e (ih s2 hs2)
theorem m_best0 {Q : Int64 → zSt → Prop} (hN : 1100 < N) (hf : fewB l = true) (h : MR μ tp fa l net x ba rg ls cm li oc) (hQ : ∀ τ, MR τ tp fa l net x ba rg ls cm li oc → Q (lN (bsN l x (2 ^ lPc l - 1))) τ) : ∀ f0, 1100 < f0 → w_X12_best_20 N Q f0 (-1 : Int64) (0 : Int64) (0 : Int64) μ
  | 0, z => absurd z (by omega)
  | f0 + 1, hf0 => by
    have h2 := few_2 hf
    have hp := few_pc hf
    have h10 := h.2.2.1.1.1
    show b_X12_best_20 N (w_X12_best_20 N Q f0) Q (-1 : Int64) (0 : Int64) (lN 0) μ
    unfold b_X12_best_20
    refine m_pairs (Mp h) h10 ?_
    rw [show lPn l * (lPn l - 1) / 2 = lPc l from rfl, oneJ (by omega)]
    refine br_f (fun z => by have := (lgN_ge (by omega) (by omega)).mp z; omega) (My hN h (by omega) ?_)
    rw [may_0]
    refine br_f (show ¬ (1 : Int32) = 0 by decide) (Ma hN h (by omega) (fun s2 hs2 => br_t ((lg_cmp_eq _ _).mpr rfl) ?_))
    unfold b_X12_best_70
    rw [lN_1 0]
    exact nm_e (m_best1 hN hf hs2 hQ f0 (by omega))
theorem M_best {Q : Int64 → zSt → Prop} (hN : 1100 < N) (h : MR μ tp fa l net x ba rg ls cm li oc) (hQ : ∀ τ, MR τ tp fa l net x ba rg ls cm li oc → Q (bstA l x) τ) : w_X12_best N μ Q := by
  unfold bstA at hQ
  refine m_few h ⟨fun q => ?_, fun q => ?_⟩
  · rw [if_neg (by rw [b32_0.mp q]; decide)] at hQ; exact hQ μ h
  · rw [if_pos (b32_n.mp q)] at hQ
    exact m_best0 hN (b32_n.mp q) h hQ N hN
end bs
