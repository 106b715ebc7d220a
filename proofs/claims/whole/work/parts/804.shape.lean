/-! shapes that nets are set to -/
theorem prN64 : ∀ a, a < 10 → ∀ b, b < 10 → prN a b < 62 := by decide +kernel
def wiJ (a b M : Nat) : Nat → Nat
  | 0 => M
  | k + 1 => wiJ a b M k ||| 2 ^ prN (a + k) b
def wiI (a : Nat) : Nat → Nat
  | 0 => 0
  | t + 1 => wiJ a (a + 1 + t) (wiI a t) (t + 1)
def cirS (b : Nat) : Nat → Nat × Nat × Nat
  | 0 => (0, 0, 0)
  | i + 1 => if i = b then cirS b i else if (cirS b i).2.2 = 0 then ((cirS b i).1, i + 1, i + 1) else ((cirS b i).1 ||| 2 ^ prN ((cirS b i).2.2 - 1) i, (cirS b i).2.1, i + 1)
def cirA (n b : Nat) (c : Bool) : Nat := if c = true ∧ (cirS b n).2.1 ≠ (cirS b n).2.2 then (cirS b n).1 ||| 2 ^ prN ((cirS b n).2.1 - 1) ((cirS b n).2.2 - 1) else (cirS b n).1
def frI (f : Nat) : Int32 := if f = 0 then -1 else nI (f - 1)
def linN : Nat → Nat
  | 0 => 0
  | i + 1 => linN i ||| 2 ^ prN i (i + 1)
def stN (p : Nat) : Nat → Nat
  | 0 => 0
  | i + 1 => if i = p then stN p i else stN p i ||| 2 ^ prN p i
def twJ (p i M : Nat) : Nat → Nat
  | 0 => M
  | k + 1 => if decide (p ≤ i + 1 + k) = decide (p ≤ i) then twJ p i M k ||| 2 ^ prN i (i + 1 + k) else twJ p i M k
def twI (p n : Nat) : Nat → Nat
  | 0 => 0
  | i + 1 => twJ p i (twI p n i) (n - (i + 1))
theorem frI_n {f : Nat} (h : f ≠ 0) : frI f = nI (f - 1) := if_neg h
theorem frI_m : ∀ f, f ≤ 10 → (frI f = -1 ↔ f = 0) := by decide +kernel
theorem frI_j : ∀ f, f ≤ 10 → ∀ g, g ≤ 10 → (frI f = frI g ↔ f = g) := by decide +kernel
theorem cir_ok (b : Nat) : ∀ i, (cirS b i).2.1 ≤ i ∧ (cirS b i).2.2 ≤ i ∧ ((cirS b i).2.1 = 0 ↔ (cirS b i).2.2 = 0)
  | 0 => ⟨Nat.le_refl _, Nat.le_refl _, Iff.rfl⟩
  | i + 1 => by
    have h := cir_ok b i
    rw [cirS]
    by_cases q : i = b
    · rw [if_pos q]; exact ⟨by omega, by omega, h.2.2⟩
    · rw [if_neg q]
      by_cases q2 : (cirS b i).2.2 = 0
      · rw [if_pos q2]; exact ⟨Nat.le_refl _, Nat.le_refl _, Iff.rfl⟩
      · rw [if_neg q2]
        have : ¬ (cirS b i).2.1 = 0 := fun z => q2 (h.2.2.mp z)
        refine ⟨?_, Nat.le_refl _, ?_⟩
        · show (cirS b i).2.1 ≤ i + 1
          omega
        · show (cirS b i).2.1 = 0 ↔ i + 1 = 0
          omega
theorem sh_all : ∀ n, n ≤ 10 → wiI 0 (n - 1) = 2 ^ (n * (n - 1) / 2) - 1 := by decide +kernel
theorem sh_star : ∀ n, n ≤ 10 → ∀ p, p < n → stU 45 p &&& (2 ^ (n * (n - 1) / 2) - 1) = stN p n := by decide +kernel
theorem sh_line : ∀ n, n ≤ 10 → linN (n - 1) = (cirS n n).1 := by decide +kernel
theorem sh_two : ∀ n, n ≤ 10 → ∀ p, p < n → wiI 0 (p - 1) ||| wiI p (n - (p + 1)) = twI p n n := by decide +kernel
theorem sh_ring : ∀ n, n ≤ 10 → ∀ b, b ≤ n → (3 ≤ n ∧ b = n ∨ 4 ≤ n ∧ b < n) → (cirS b n).2.1 ≠ 0 ∧ (cirS b n).2.1 ≠ (cirS b n).2.2 := by decide +kernel
theorem sh_c0 (n b : Nat) : cirA n b false = (cirS b n).1 := if_neg (fun z => absurd z.1 (by decide))
def shaA (l : zL) (k p : Int32) : Int64 :=
  if k = 0 then 0 else if k = 1 then lN (wiI 0 (lPn l - 1)) else if k = 2 then (if perB l p = true then lN (stN p.toNatClampNeg (lPn l)) else -1) else if k = 3 then lN (cirS (lPn l) (lPn l)).1 else if k = 4 then (if 3 ≤ lPn l then lN (cirA (lPn l) (lPn l) true) else -1) else if k = 5 then (if perB l p = true then lN (twI p.toNatClampNeg (lPn l) (lPn l)) else -1) else if k = 6 then (if perB l p = true then (if 4 ≤ lPn l then lN (cirA (lPn l) p.toNatClampNeg true ||| stN p.toNatClampNeg (lPn l)) else -1) else -1) else -1
section sp
variable {N : Nat} {σ τ μ ν : zSt} {tp : Nat × (Nat → Nat)} {fa : Int32 × Int32} {l : zL} {net : Nat} {x : Int32} {ba rg : Nat → Int64} {ls : Nat × (Nat → Int64)} {cm : Nat × (Nat → Int64) × (Nat → Int32)} {li : Int64} {oc : Nat → Int32}
theorem x_within {a e : Nat} {Q : Int64 → zSt → Prop} (hN : 1100 < N) (ha : a ≤ 10) (he : e ≤ 10) (hQ : Q (lN (wiI a (e - (a + 1)))) σ) : w_X3_within N (nI a) (nI e) σ Q := by
  unfold w_X3_within
  rw [nI_1]
  refine nm_e ?_
  refine loopU (S := Unit) (fun f t _ => w_X3_within_7 N Q f (nI a) (nI e) (lN (wiI a t)) (nI (a + 1 + t)) σ) (fun _ _ => True) (e - (a + 1)) ?_ ?_ N 0 () (Nat.zero_le _) (by omega) trivial
  · intro f _ _
    show b_X3_within_7 N (w_X3_within_7 N Q f) Q (nI a) (nI e) (lN (wiI a (e - (a + 1)))) (nI (a + 1 + (e - (a + 1)))) σ
    unfold b_X3_within_7
    exact br_t (nI_le (by omega) (by omega)) hQ
  · intro f t _ ht _ ih
    show b_X3_within_7 N (w_X3_within_7 N Q f) Q (nI a) (nI e) (lN (wiI a t)) (nI (a + 1 + t)) σ
    unfold b_X3_within_7
    refine br_f (nI_ge (by omega) (by omega)) ?_
    refine loopU (S := Unit) (fun g k _ => w_X3_within_16 N (w_X3_within_7 N Q f) Q g (nI a) (nI e) (lN (wiJ a (a + 1 + t) (wiI a t) k)) (nI (a + 1 + t)) (nI (a + k)) σ) (fun _ _ => True) (t + 1) ?_ ?_ N 0 () (Nat.zero_le _) (by omega) trivial
    · intro g _ _
      show b_X3_within_16 N (w_X3_within_7 N Q f) (w_X3_within_16 N (w_X3_within_7 N Q f) Q g) Q (nI a) (nI e) (lN (wiI a (t + 1))) (nI (a + 1 + t)) (nI (a + (t + 1))) σ
      unfold b_X3_within_16
      rw [nI_1]
      exact br_t (nI_le (by omega) (by omega)) (nm_e (ih () trivial))
    · intro g k _ hk _ ih2
      show b_X3_within_16 N (w_X3_within_7 N Q f) (w_X3_within_16 N (w_X3_within_7 N Q f) Q g) Q (nI a) (nI e) (lN (wiJ a (a + 1 + t) (wiI a t) k)) (nI (a + 1 + t)) (nI (a + k)) σ
      unfold b_X3_within_16
      refine br_f (nI_ge (by omega) (by omega)) (x_number (by omega) (by omega) ?_)
      have hp := prN64 (a + k) (by omega) (a + 1 + t) (by omega)
      rw [orL1 _ (by omega), nI_1 (a + k)]
      exact nm_e (nm_e (ih2 () trivial))
theorem x_star3 {p n : Nat} {Q : Int64 → zSt → Prop} (hT : xT σ) (hn : n ≤ 10) (hp : p < n) (hQ : Q (lN (stN p n)) σ) : w_X3_star N (nI p) (nI n) σ Q := by
  unfold w_X3_star w_X3_count
  have hpc : n * (n - 1) / 2 < 62 := by
    have : ∀ n, n ≤ 10 → n * (n - 1) / 2 < 62 := by decide
    exact this n hn
  have h1 : 1 ≤ 2 ^ (n * (n - 1) / 2) := Nat.two_pow_pos _
  rw [prc n (by omega)]
  show _ ∧ Q (σ.2.2.2 2 (nI p).toNatClampNeg &&& (((1 : Int64) <<< ((nI (n * (n - 1) / 2)).toInt64 &&& 63)) - (1 : Int64))) σ
  rw [oneJ (by omega), nI_clamp (by omega), hT.2 p (by omega), show (1 : Int64) = lN 1 from rfl, lN_sub h1, fb_andL, sh_star n hn p hp]
  exact ⟨vp_in_nI (by omega) (by decide), hQ⟩
theorem x_circle {n b : Nat} {x2 : Int32} {c : Bool} {Q : Int64 → zSt → Prop} (hN : 1100 < N) (hn : n ≤ 10) (hx : ∀ i, i < n → (nI i = x2 ↔ i = b)) (hQ : Q (lN (cirA n b c)) σ) : w_X3_circle N (nI n) x2 (b32 c) σ Q := by
  refine loopU (S := Unit) (fun f i _ => w_X3_circle_12 N Q f (nI n) x2 (b32 c) (lN (cirS b i).1) (frI (cirS b i).2.1) (frI (cirS b i).2.2) (nI i) σ) (fun _ _ => True) n ?_ ?_ N 0 () (Nat.zero_le _) (by omega) trivial
  · intro f _ _
    show b_X3_circle_12 N (w_X3_circle_12 N Q f) Q (nI n) x2 (b32 c) (lN (cirS b n).1) (frI (cirS b n).2.1) (frI (cirS b n).2.2) (nI n) σ
    unfold b_X3_circle_12
    have ho := cir_ok b n
    unfold cirA at hQ
    refine br_t (nI_le (Nat.le_refl _) (by omega)) ⟨fun q => ?_, fun q => ⟨fun q2 => ?_, fun q2 => ?_⟩⟩
    · rw [if_neg (fun z => by have := b32_0.mp q; rw [this] at z; exact absurd z.1 (by decide))] at hQ
      exact hQ
    · rw [if_neg (fun z => z.2 ((frI_j _ (by omega) _ (by omega)).mp q2))] at hQ
      exact hQ
    · have q2 : (cirS b n).2.1 ≠ (cirS b n).2.2 := fun z => q2 (congrArg frI z)
      rw [if_pos ⟨b32_n.mp q, q2⟩] at hQ
      have z1 : (cirS b n).2.1 ≠ 0 := fun z => q2 (z.trans (ho.2.2.mp z).symm)
      have z2 : (cirS b n).2.2 ≠ 0 := fun z => z1 (ho.2.2.mpr z)
      have hp := prN64 ((cirS b n).2.1 - 1) (by omega) ((cirS b n).2.2 - 1) (by omega)
      rw [frI_n z1, frI_n z2]
      refine x_number (by omega) (by omega) ?_
      rw [orL1 _ (by omega)]
      exact hQ
  · intro f i _ hi _ ih
    have ih := ih () trivial
    rw [cirS] at ih
    show b_X3_circle_12 N (w_X3_circle_12 N Q f) Q (nI n) x2 (b32 c) (lN (cirS b i).1) (frI (cirS b i).2.1) (frI (cirS b i).2.2) (nI i) σ
    unfold b_X3_circle_12
    have ho := cir_ok b i
    rw [nI_1]
    refine br_f (nI_ge hi (by omega)) ⟨fun q => ?_, fun q => ⟨fun q2 => ?_, fun q2 => ?_⟩⟩
    · rw [if_pos ((hx i hi).mp q)] at ih
      exact nm_e ih
    · rw [if_neg (fun z => q ((hx i hi).mpr z)), if_pos ((frI_m _ (by omega)).mp q2)] at ih
      exact nm_e ih
    · have q2 : (cirS b i).2.2 ≠ 0 := fun z => q2 ((frI_m _ (by omega)).mpr z)
      rw [if_neg (fun z => q ((hx i hi).mpr z)), if_neg q2] at ih
      have hp := prN64 ((cirS b i).2.2 - 1) (by omega) i (by omega)
      rw [frI_n q2]
      refine x_number (by omega) (by omega) ?_
      rw [orL1 _ (by omega)]
      exact nm_e (nm_e ih)
theorem m_tied {a b : Nat} {Q : Int64 → zSt → Prop} (ha : a < 10) (hb : b < 10) (hQ : Q (lN (2 ^ prN a b)) μ) : w_X12_tied N (nI a) (nI b) μ Q := by
  refine m_pairOf ha hb ?_
  have hp := prN64 a ha b hb
  show Q _ μ
  rw [oneJ (by omega)]
  exact hQ
theorem m_star3 {p n : Nat} {Q : Int64 → zSt → Prop} (hN : 1100 < N) (hP : μ.2.2.1 1 1 = nI n) (hn : n ≤ 10) (hp : p < n) (hQ : Q (lN (stN p n)) μ) : w_X12_star N (nI p) μ Q := by
  refine loopU (S := Unit) (fun f i _ => w_X12_star_5 N Q f (nI p) (lN (stN p i)) (nI i) μ) (fun _ _ => True) n ?_ ?_ N 0 () (Nat.zero_le _) (by omega) trivial
  · intro f _ _
    show b_X12_star_5 N (w_X12_star_5 N Q f) Q (nI p) (lN (stN p n)) (nI n) μ
    unfold b_X12_star_5
    exact m_many hP (br_t (nI_le (Nat.le_refl _) (by omega)) hQ)
  · intro f i _ hi _ ih
    have ih := ih () trivial
    rw [stN] at ih
    show b_X12_star_5 N (w_X12_star_5 N Q f) Q (nI p) (lN (stN p i)) (nI i) μ
    unfold b_X12_star_5
    rw [nI_1]
    refine m_many hP (br_f (nI_ge hi (by omega)) ⟨fun q => ?_, fun q => ?_⟩)
    · rw [if_pos ((nI_eq (by omega) (by omega)).mp q)] at ih
      exact nm_e ih
    · rw [if_neg (fun z => q (congrArg nI z))] at ih
      refine m_tied (by omega) (by omega) ?_
      rw [fb_orL]
      exact nm_e (nm_e ih)
theorem m_ringBut {n b : Nat} {x1 : Int32} {Q : Int64 → zSt → Prop} (hN : 1100 < N) (hP : μ.2.2.1 1 1 = nI n) (hn : n ≤ 10) (hx : ∀ i, i < n → (nI i = x1 ↔ i = b)) (hr : (cirS b n).2.1 ≠ 0 ∧ (cirS b n).2.1 ≠ (cirS b n).2.2) (hQ : Q (lN (cirA n b true)) μ) : w_X12_ringBut N x1 μ Q := by
  refine loopU (S := Unit) (fun f i _ => w_X12_ringBut_11 N Q f x1 (lN (cirS b i).1) (frI (cirS b i).2.1) (frI (cirS b i).2.2) (nI i) μ) (fun _ _ => True) n ?_ ?_ N 0 () (Nat.zero_le _) (by omega) trivial
  · intro f _ _
    show b_X12_ringBut_11 N (w_X12_ringBut_11 N Q f) Q x1 (lN (cirS b n).1) (frI (cirS b n).2.1) (frI (cirS b n).2.2) (nI n) μ
    unfold b_X12_ringBut_11
    have ho := cir_ok b n
    unfold cirA at hQ
    rw [if_pos ⟨rfl, hr.2⟩] at hQ
    have z2 : (cirS b n).2.2 ≠ 0 := fun z => hr.1 (ho.2.2.mpr z)
    rw [frI_n hr.1, frI_n z2]
    refine m_many hP (br_t (nI_le (Nat.le_refl _) (by omega)) (m_tied (by omega) (by omega) ?_))
    rw [fb_orL]
    exact hQ
  · intro f i _ hi _ ih
    have ih := ih () trivial
    rw [cirS] at ih
    show b_X12_ringBut_11 N (w_X12_ringBut_11 N Q f) Q x1 (lN (cirS b i).1) (frI (cirS b i).2.1) (frI (cirS b i).2.2) (nI i) μ
    unfold b_X12_ringBut_11
    have ho := cir_ok b i
    rw [nI_1]
    refine m_many hP (br_f (nI_ge hi (by omega)) ⟨fun q => ?_, fun q => ⟨fun q2 => ?_, fun q2 => ?_⟩⟩)
    · rw [if_pos ((hx i hi).mp q)] at ih
      exact nm_e ih
    · rw [if_neg (fun z => q ((hx i hi).mpr z)), if_pos (ho.2.2.mp ((frI_m _ (by omega)).mp q2))] at ih
      exact nm_e ih
    · have q2 : (cirS b i).2.2 ≠ 0 := fun z => q2 ((frI_m _ (by omega)).mpr (ho.2.2.mpr z))
      rw [if_neg (fun z => q ((hx i hi).mpr z)), if_neg q2] at ih
      rw [frI_n q2]
      refine m_tied (by omega) (by omega) ?_
      rw [fb_orL]
      exact nm_e (nm_e ih)
theorem m_line {n : Nat} {Q : Int64 → zSt → Prop} (hN : 1100 < N) (hn : n ≤ 10) (hQ : Q (lN (linN (n - 1))) μ) : w_X12_shape_86 N Q N (nI n) (0 : Int64) (1 : Int32) μ := by
  refine loopU (S := Unit) (fun f i _ => w_X12_shape_86 N Q f (nI n) (lN (linN i)) (nI (i + 1)) μ) (fun _ _ => True) (n - 1) ?_ ?_ N 0 () (Nat.zero_le _) (by omega) trivial
  · intro f _ _
    show b_X12_shape_86 N (w_X12_shape_86 N Q f) Q (nI n) (lN (linN (n - 1))) (nI (n - 1 + 1)) μ
    unfold b_X12_shape_86
    exact br_t (nI_le (by omega) (by omega)) hQ
  · intro f i _ hi _ ih
    have ih := ih () trivial
    rw [linN] at ih
    show b_X12_shape_86 N (w_X12_shape_86 N Q f) Q (nI n) (lN (linN i)) (nI (i + 1)) μ
    unfold b_X12_shape_86
    have e1 : nI (i + 1) - 1 = nI i := by rw [show (1 : Int32) = nI 1 from rfl, pk_sub (by omega)]; rfl
    rw [e1, nI_1]
    refine br_f (nI_ge (by omega) (by omega)) (m_tied (by omega) (by omega) ?_)
    rw [fb_orL]
    exact nm_e (nm_e ih)
theorem m_two {n p : Nat} {Q : Int64 → zSt → Prop} (hN : 1100 < N) (hn : n ≤ 10) (hp : p < n) (hQ : Q (lN (twI p n n)) μ) : w_X12_shape_148 N Q N (nI p) (nI n) (0 : Int64) (0 : Int32) μ := by
  refine loopU (S := Unit) (fun f i _ => w_X12_shape_148 N Q f (nI p) (nI n) (lN (twI p n i)) (nI i) μ) (fun _ _ => True) n ?_ ?_ N 0 () (Nat.zero_le _) (by omega) trivial
  · intro f _ _
    show b_X12_shape_148 N (w_X12_shape_148 N Q f) Q (nI p) (nI n) (lN (twI p n n)) (nI n) μ
    unfold b_X12_shape_148
    exact br_t (nI_le (Nat.le_refl _) (by omega)) hQ
  · intro f i _ hi _ ih
    show b_X12_shape_148 N (w_X12_shape_148 N Q f) Q (nI p) (nI n) (lN (twI p n i)) (nI i) μ
    unfold b_X12_shape_148
    rw [nI_1]
    refine br_f (nI_ge hi (by omega)) (nm_e ?_)
    refine loopU (S := Unit) (fun g k _ => w_X12_shape_160 N (w_X12_shape_148 N Q f) Q g (nI p) (nI n) (lN (twJ p i (twI p n i) k)) (nI i) (nI (i + 1 + k)) μ) (fun _ _ => True) (n - (i + 1)) ?_ ?_ N 0 () (Nat.zero_le _) (by omega) trivial
    · intro g _ _
      show b_X12_shape_160 N (w_X12_shape_148 N Q f) (w_X12_shape_160 N (w_X12_shape_148 N Q f) Q g) Q (nI p) (nI n) (lN (twI p n (i + 1))) (nI i) (nI (i + 1 + (n - (i + 1)))) μ
      unfold b_X12_shape_160
      rw [nI_1]
      exact br_t (nI_le (by omega) (by omega)) (nm_e (ih () trivial))
    · intro g k _ hk _ ih2
      have ih2 := ih2 () trivial
      rw [twJ] at ih2
      show b_X12_shape_160 N (w_X12_shape_148 N Q f) (w_X12_shape_160 N (w_X12_shape_148 N Q f) Q g) Q (nI p) (nI n) (lN (twJ p i (twI p n i) k)) (nI i) (nI (i + 1 + k)) μ
      have yes : decide (p ≤ i + 1 + k) = decide (p ≤ i) → ∀ s, b_X12_shape_188 N (w_X12_shape_148 N Q f) (w_X12_shape_160 N (w_X12_shape_148 N Q f) Q g) Q (nI p) (nI n) (lN (twJ p i (twI p n i) k)) (nI i) (nI (i + 1 + k)) s s μ := fun z s => by
        rw [if_pos z] at ih2
        unfold b_X12_shape_188
        rw [nI_1 (i + 1 + k)]
        refine br_t rfl (m_tied (by omega) (by omega) ?_)
        rw [fb_orL]
        exact nm_e (nm_e ih2)
      have no : ¬ decide (p ≤ i + 1 + k) = decide (p ≤ i) → ∀ s t, ¬ t = s → b_X12_shape_188 N (w_X12_shape_148 N Q f) (w_X12_shape_160 N (w_X12_shape_148 N Q f) Q g) Q (nI p) (nI n) (lN (twJ p i (twI p n i) k)) (nI i) (nI (i + 1 + k)) s t μ := fun z s t hst => by
        rw [if_neg z] at ih2
        unfold b_X12_shape_188
        rw [nI_1 (i + 1 + k)]
        exact br_f hst (nm_e ih2)
      have nle : ∀ {a b : Nat}, a < 2 ^ 31 → b < 2 ^ 31 → (nI a ≤ nI b ↔ a ≤ b) := fun ha hb => nI_leI ha hb
      unfold b_X12_shape_160
      refine br_f (nI_ge (by omega) (by omega)) ⟨fun q => ?_, fun q => ?_⟩
      · have q := (nle (by omega) (by omega)).mp q
        unfold b_X12_shape_177
        exact br_t (nI_le (by omega) (by omega)) (yes (by rw [decide_eq_true q, decide_eq_true (by omega)]) _)
      · have q : ¬ p ≤ i := fun z => q ((nle (by omega) (by omega)).mpr z)
        unfold b_X12_shape_177
        refine ⟨fun q2 => ?_, fun q2 => ?_⟩
        · have q2 := (nle (by omega) (by omega)).mp q2
          exact no (by rw [decide_eq_true q2, decide_eq_false q]; decide) _ _ (by decide)
        · have q2 : ¬ p ≤ i + 1 + k := fun z => q2 ((nle (by omega) (by omega)).mpr z)
          exact yes (by rw [decide_eq_false q2, decide_eq_false q]) _
theorem X_shape {k p : Int32} {Q : Int64 → zSt → Prop} (hN : 1100 < N) (h : XR σ tp fa l net x ba rg ls cm li oc) (hQ : XR σ tp fa l net x ba rg ls cm li oc → Q (shaA l k p) σ) : w_X11_shape N k p σ Q := by
  have hq := hQ h
  obtain ⟨b1, b2, b3, b4, b5, b6, b7, b8, b9, b10, b11, b12⟩ := id h
  have h10 := b3.1.1
  have hn := b3.2.2.1.1
  have hT : xT σ := b3.2.2.2.2.1
  unfold shaA at hq
  unfold w_X11_shape
  rw [hn]
  have hxn : ∀ i, i < lPn l → (nI i = nI (lPn l) ↔ i = lPn l) := fun i hi => nI_eq (by omega) (by omega)
  refine nm_e ⟨fun q => ?_, fun q => ⟨fun q1 => ?_, fun q1 => ⟨fun q2 => ?_, fun q2 => ⟨fun q3 => ?_, fun q3 => ⟨fun q4 => ?_, fun q4 => ⟨fun q5 => ?_, fun q5 => ⟨fun q6 => ?_, fun q6 => ?_⟩⟩⟩⟩⟩⟩⟩
  · rw [if_pos q] at hq; exact hq
  · rw [if_neg q, if_pos q1] at hq
    exact x_within (a := 0) hN (by omega) h10 hq
  · rw [if_neg q, if_neg q1, if_pos q2] at hq
    refine x_isPer hn ⟨fun z => ?_, fun z => ?_⟩
    · rw [if_neg (by rw [b32_0.mp z]; decide)] at hq; exact hq
    · have z := b32_n.mp z
      obtain ⟨j, hj, e1, e2⟩ := per_t h10 z
      rw [if_pos z, e2] at hq
      rw [e1]
      exact x_star3 hT h10 hj hq
  · rw [if_neg q, if_neg q1, if_neg q2, if_pos q3, ← sh_c0] at hq
    exact x_circle (c := false) hN h10 hxn hq
  · rw [if_neg q, if_neg q1, if_neg q2, if_neg q3, if_pos q4] at hq
    refine ⟨fun z => ?_, fun z => ?_⟩
    · rw [if_neg (fun y => by have := (nI_ltI (b := 3) (by omega) (by omega)).mp z; omega)] at hq; exact hq
    · rw [if_pos (Nat.not_lt.mp (fun y => z ((nI_ltI (b := 3) (by omega) (by omega)).mpr y)))] at hq
      exact x_circle (c := true) hN h10 hxn hq
  · rw [if_neg q, if_neg q1, if_neg q2, if_neg q3, if_neg q4, if_pos q5] at hq
    refine x_isPer hn ⟨fun z => ?_, fun z => ?_⟩
    · rw [if_neg (by rw [b32_0.mp z]; decide)] at hq; exact hq
    · have z := b32_n.mp z
      obtain ⟨j, hj, e1, e2⟩ := per_t h10 z
      rw [if_pos z, e2, ← sh_two _ h10 j hj] at hq
      rw [e1]
      refine x_within (a := 0) hN (by omega) (by omega) (x_within hN (by omega) h10 ?_)
      rw [fb_orL]
      exact hq
  · rw [if_neg q, if_neg q1, if_neg q2, if_neg q3, if_neg q4, if_neg q5, if_pos q6] at hq
    refine x_isPer hn ⟨fun z => ?_, fun z => ?_⟩
    · rw [if_neg (by rw [b32_0.mp z]; decide)] at hq; exact hq
    · have z := b32_n.mp z
      obtain ⟨j, hj, e1, e2⟩ := per_t h10 z
      rw [if_pos z, e2] at hq
      refine ⟨fun y => ?_, fun y => ?_⟩
      · rw [if_neg (fun w => by have := (nI_ltI (b := 4) (by omega) (by omega)).mp y; omega)] at hq; exact hq
      · rw [if_pos (Nat.not_lt.mp (fun w => y ((nI_ltI (b := 4) (by omega) (by omega)).mpr w)))] at hq
        rw [e1]
        refine x_circle (c := true) (b := j) hN h10 (fun i hi => nI_eq (by omega) (by omega)) (x_star3 hT h10 hj ?_)
        rw [fb_orL]
        exact hq
  · rw [if_neg q, if_neg q1, if_neg q2, if_neg q3, if_neg q4, if_neg q5, if_neg q6] at hq
    exact hq
theorem M_shape {k p : Int32} {Q : Int64 → zSt → Prop} (hN : 1100 < N) (h : MR μ tp fa l net x ba rg ls cm li oc) (hQ : MR μ tp fa l net x ba rg ls cm li oc → Q (shaA l k p) μ) : w_X12_shape N k p μ Q := by
  have hq := hQ h
  obtain ⟨b1, b2, b3, b4, b5, b6, b7, b8, b9, b10, b11, b12⟩ := id h
  have h10 := b3.1.1
  have hn := b3.2.2.1.1
  unfold shaA at hq
  unfold w_X12_shape
  refine m_many hn ⟨fun q => ?_, fun q => ⟨fun q1 => ?_, fun q1 => ⟨fun q2 => ?_, fun q2 => ⟨fun q3 => ?_, fun q3 => ⟨fun q4 => ?_, fun q4 => ⟨fun q5 => ?_, fun q5 => ⟨fun q6 => ?_, fun q6 => ?_⟩⟩⟩⟩⟩⟩⟩
  · rw [if_pos q] at hq; exact hq
  · rw [if_neg q, if_pos q1, sh_all _ h10] at hq
    refine m_pairs hn h10 ?_
    have hpc : lPn l * (lPn l - 1) / 2 < 62 := by
      have : ∀ n, n ≤ 10 → n * (n - 1) / 2 < 62 := by decide
      exact this _ h10
    have h1 : 1 ≤ 2 ^ (lPn l * (lPn l - 1) / 2) := Nat.two_pow_pos _
    rw [oneJ (by omega), show (1 : Int64) = lN 1 from rfl, lN_sub h1]
    exact hq
  · rw [if_neg q, if_neg q1, if_pos q2] at hq
    refine m_isPer h10 hn ⟨fun z => ?_, fun z => ?_⟩
    · rw [if_neg (by rw [b32_0.mp z]; decide)] at hq; exact hq
    · have z := b32_n.mp z
      obtain ⟨j, hj, e1, e2⟩ := per_t h10 z
      rw [if_pos z, e2] at hq
      rw [e1]
      exact m_star3 hN hn h10 hj hq
  · rw [if_neg q, if_neg q1, if_neg q2, if_pos q3, ← sh_line _ h10] at hq
    exact m_line hN h10 hq
  · rw [if_neg q, if_neg q1, if_neg q2, if_neg q3, if_pos q4] at hq
    refine ⟨fun z => ?_, fun z => ?_⟩
    · have z : 3 ≤ lPn l := (nI_leI (a := 3) (by omega) (by omega)).mp z
      rw [if_pos z] at hq
      exact m_ringBut hN hn h10 (fun i hi => ⟨fun w => absurd w (m1_ne (by omega)), fun w => absurd w (by omega)⟩) (sh_ring _ h10 _ (Nat.le_refl _) (Or.inl ⟨z, rfl⟩)) hq
    · rw [if_neg (fun y => z ((nI_leI (a := 3) (by omega) (by omega)).mpr y))] at hq; exact hq
  · rw [if_neg q, if_neg q1, if_neg q2, if_neg q3, if_neg q4, if_pos q5] at hq
    refine m_isPer h10 hn ⟨fun z => ?_, fun z => ?_⟩
    · rw [if_neg (by rw [b32_0.mp z]; decide)] at hq; exact hq
    · have z := b32_n.mp z
      obtain ⟨j, hj, e1, e2⟩ := per_t h10 z
      rw [if_pos z, e2] at hq
      rw [e1]
      exact m_two hN h10 hj hq
  · rw [if_neg q, if_neg q1, if_neg q2, if_neg q3, if_neg q4, if_neg q5, if_pos q6] at hq
    refine m_isPer h10 hn ⟨fun z => ?_, fun z => ?_⟩
    · rw [if_neg (by rw [b32_0.mp z]; decide)] at hq; exact hq
    · have z := b32_n.mp z
      obtain ⟨j, hj, e1, e2⟩ := per_t h10 z
      rw [if_pos z, e2] at hq
      refine ⟨fun y => ?_, fun y => ?_⟩
      · have y : 4 ≤ lPn l := (nI_leI (a := 4) (by omega) (by omega)).mp y
        rw [if_pos y] at hq
        rw [e1]
        refine m_ringBut (b := j) hN hn h10 (fun i hi => nI_eq (by omega) (by omega)) (sh_ring _ h10 j (by omega) (Or.inr ⟨y, hj⟩)) (m_star3 hN hn h10 hj ?_)
        rw [fb_orL]
        exact hq
      · rw [if_neg (fun w => y ((nI_leI (a := 4) (by omega) (by omega)).mpr w))] at hq; exact hq
  · rw [if_neg q, if_neg q1, if_neg q2, if_neg q3, if_neg q4, if_neg q5, if_neg q6] at hq
    exact hq
end sp
