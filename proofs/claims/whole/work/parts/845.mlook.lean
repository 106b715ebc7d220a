/-! the reference looks at the tape -/
def mTape (μ : zSt) (tp : Nat × (Nat → Nat)) : Prop := tp.1 ≤ 800 ∧ μ.1 2 = nI tp.1 ∧ ∀ k, k < tp.1 → tp.2 k < 256 ∧ μ.2.2.1 0 k = nI (tp.2 k)
def mEn (v : Int32) (p : Nat) (g : Bool) : Prop := if g = true then v = nI p else v.toInt < (p : Int)
def mPos (μ : zSt) (tp : Nat × (Nat → Nat)) (p : Nat) (g : Bool) : Prop := p ≤ tp.1 ∧ μ.1 4 = 0 ∧ (∃ a, μ.1 1 = nI a ∧ p ≤ a ∧ a ≤ sT tp p) ∧ mEn (μ.1 3) p g ∧ μ.1 5 = -1
def mBd (μ : zSt) (e : Nat × Nat) : Prop := μ.1 4 = nI e.1 ∧ μ.1 5 = nI e.2
section ml
variable {N : Nat} {tp : Nat × (Nat → Nat)} {Q : Int32 → zSt → Prop} {μ ν : zSt} {p : Nat} {g : Bool} {s : zP}
theorem mTp_b (h : mTape μ tp) : ∀ k, k < tp.1 → tp.2 k < 256 := fun k hk => (h.2.2 k hk).1
theorem mTp_f {I J A B : List Nat} (f : fr I J A B μ ν) (hI : 2 ∉ I) (hA : 0 ∉ A) (h : mTape μ tp) : mTape ν tp := by
  unfold mTape; rw [f.1 2 hI, f.2.2.1 0 hA]; exact h
theorem en_i {v : Int32} (h : mEn v p g) (hp : sT tp p < 2 ^ 31) : nI (sT tp p) = v ↔ g = true ∧ sT tp p = p := by
  have hge := sT_ge tp p
  unfold mEn at h
  cases g with
  | true =>
    rw [if_pos rfl] at h
    rw [h, nI_eq hp (by omega)]
    exact ⟨fun z => ⟨rfl, z⟩, fun z => z.2⟩
  | false =>
    rw [if_neg (by decide)] at h
    refine ⟨fun z => ?_, fun z => absurd z.1 (by decide)⟩
    rw [← z, nI_toInt hp] at h
    omega
/-- at the place where something comes -/
def mAt (μ : zSt) (tp : Nat × (Nat → Nat)) (p : Nat) : Prop := μ.1 1 = nI (sT tp p)
theorem m_letter (hb : ∀ k, k < tp.1 → tp.2 k < 256) (hQ : Q (b32 (lB tp p)) μ) : w_X12_isLetter N (chI tp p) μ Q := in_l (lBI hb) hQ
theorem m_digit (hb : ∀ k, k < tp.1 → tp.2 k < 256) (hQ : Q (b32 (dB tp p)) μ) : w_X12_isDigit N (chI tp p) μ Q := in_d (dBI hb) hQ
theorem m_tp (h : mTape μ tp) (hp : p < tp.1) : μ.2.2.1 0 p = chI tp p := by rw [(h.2.2 p hp).2]; exact (if_pos hp).symm
theorem m_look (hN : 1100 < N) (hT : mTape μ tp) (h : mPos μ tp p g) (hQ : ∀ ν, fr [1] [] [] [] μ ν → mAt ν tp p → mPos ν tp p g → Q (chI tp (sT tp p)) ν) : w_X12_look N μ Q := by
  obtain ⟨h1, h2, ⟨a, h3, h4, h5⟩, h6, h65⟩ := h
  have h8 := hT.1
  have hb := mTp_b hT
  have hs := sT_le h1
  refine loopU (fun f i (s : zSt) => w_X12_look_0 N Q f s) (fun i s => fr [1] [] [] [] μ s ∧ s.1 1 = nI (a + i)) (sT tp p - a) ?_ ?_ N 0 μ (Nat.zero_le _) (by omega) ⟨fr_r, h3⟩
  · intro f s hs2
    show b_X12_look_0 N (w_X12_look_0 N Q f) Q s
    have e : s.1 1 = nI (sT tp p) := by rw [hs2.2, show a + (sT tp p - a) = sT tp p by omega]
    have hTs := mTp_f hs2.1 (by decide) (by decide) hT
    have hq := hQ s hs2.1 e ⟨h1, by rw [hs2.1.1 4 (by decide)]; exact h2, ⟨_, e, by omega, Nat.le_refl _⟩, by rw [hs2.1.1 3 (by decide)]; exact h6, by rw [hs2.1.1 5 (by decide)]; exact h65⟩
    have g52 : b_X12_look_52 N Q s := by
      unfold b_X12_look_52
      rw [e, hTs.2.1, nI_leI (by omega) (by omega), nI_clamp (n := sT tp p) (by omega)]
      refine ⟨fun z => ?_, fun z => ⟨vp_in_nI (by omega) (by decide), ?_⟩⟩
      · rw [(chI_e hb).mpr z] at hq; exact hq
      · rw [m_tp hTs (by omega)]; exact hq
    have nk := sT_k (tp := tp) (p := p) h8
    unfold b_X12_look_0
    rw [e, hTs.2.1, nI_leI (by omega) (by omega), nI_clamp (n := sT tp p) (by omega)]
    refine ⟨fun _ => g52, fun z => ⟨vp_in_nI (by omega) (by decide), ?_⟩⟩
    rw [m_tp hTs (by omega)]
    refine ⟨fun w => ?_, fun w => ⟨vp_in_nI (by omega) (by decide), fun v => ?_, fun v => g52⟩⟩
    · rw [(kBI hb).mpr (Or.inl w)] at nk; exact absurd nk (by decide)
    · rw [(kBI hb).mpr (Or.inr v)] at nk; exact absurd nk (by decide)
  · intro f i s hi hs2 ih
    show b_X12_look_0 N (w_X12_look_0 N Q f) Q s
    have hTs := mTp_f hs2.1 (by decide) (by decide) hT
    have hk : kB tp (a + i) = true := enF_in (P := kB tp) (p := p) (by omega) (by show a + i < sT tp p; omega)
    have hl := kB_lt hk
    have g39 : b_X12_look_39 N (w_X12_look_0 N Q f) Q s := by
      unfold b_X12_look_39
      rw [hs2.2, nI_1]
      exact nm_e (ih _ ⟨fr_I hs2.1 (by decide), zI_1s⟩)
    unfold b_X12_look_0
    rw [hs2.2, hTs.2.1, nI_leI (by omega) (by omega), nI_clamp (n := a + i) (by omega), m_tp hTs hl]
    refine br_f (by omega) ⟨vp_in_nI (by omega) (by decide), fun _ => g39, fun w => ⟨vp_in_nI (by omega) (by decide), fun _ => g39, fun v => ?_⟩⟩
    rcases (kBI hb).mp hk with y | y
    · exact absurd y w
    · exact absurd y v
theorem m_isHere {w : Nat} (hN : 1100 < N) (hw : w < 19) (hT : mTape μ tp) (h : mPos μ tp p g) (hQ : ∀ ν, fr [1] [] [] [] μ ν → mAt ν tp p → mPos ν tp p g → Q (b32 (decide (wT tp p g = w))) ν) : w_X12_isHere N w μ Q := by
  have h8 := hT.1
  have hb := mTp_b hT
  have hs := sT_le h.1
  obtain ⟨o1, o2, o3, o4⟩ := own_l w hw
  have hwt := wT_is (tp := tp) (p := p) (g := g) hw
  unfold w_X12_isHere
  refine br_t h.2.1 (m_look hN hT h (fun ν f1 a1 p1 => m_letter hb ⟨fun z => ?_, fun z => ?_⟩))
  · have z := b32_0.mp z
    have hq := hQ ν f1 a1 p1
    rw [decide_eq_false (fun e => by rw [(kT_1 (hwt.mp e).1).1] at z; exact absurd z (by decide))] at hq
    exact hq
  · have hl := b32_n.mp z
    have hTν := mTp_f f1 (by decide) (by decide) hT
    have hE := eT_le (tp := tp) hs
    have hg := eT_gt h8 (lB_lt hl)
    have heE : eT tp (sT tp p) = enF (lB tp) (sT tp p) := eT_l hl
    have a1' : ν.1 1 = nI (sT tp p) := a1
    rw [a1', en_i p1.2.2.2.1 (by omega)]
    refine ⟨fun y => ?_, fun y => nm_e ?_⟩
    · have hq := hQ ν f1 a1 p1
      rw [decide_eq_false (fun e => (kT_1 (hwt.mp e).1).2 y)] at hq
      exact hq
    · have hk1 : kT tp p g = 1 := by rw [kT_l hl, if_neg y]
      -- the run's end
      refine loopU (S := Unit) (fun f i _ => w_X12_isHere_35 N w Q f (nI (sT tp p + i)) ν) (fun _ _ => True) (eT tp (sT tp p) - sT tp p) ?_ ?_ N 0 () (Nat.zero_le _) (by omega) trivial
      · intro f _ _
        show b_X12_isHere_35 N w (w_X12_isHere_35 N w Q f) Q (nI (sT tp p + (eT tp (sT tp p) - sT tp p))) ν
        rw [show sT tp p + (eT tp (sT tp p) - sT tp p) = eT tp (sT tp p) by omega]
        have g61 : b_X12_isHere_61 N w Q (nI (eT tp (sT tp p))) ν := by
          unfold b_X12_isHere_61
          rw [a1', pk_sub (by omega), show Int32.ofNat (m_wl w) = nI (m_wl w) from rfl, nI_eq (by omega) (by omega)]
          refine ⟨fun c => ?_, fun c => ?_⟩
          · refine loopU (S := Unit) (fun f i _ => w_X12_isHere_76 N w Q f (nI i) ν) (fun i _ => ∀ k, k < i → tp.2 (sT tp p + k) = (wdL w).getD k 0) (m_wl w) ?_ ?_ N 0 () (Nat.zero_le _) (by omega) (fun k hk => absurd hk (Nat.not_lt_zero _))
            · intro f _ hI
              show b_X12_isHere_76 N w (w_X12_isHere_76 N w Q f) Q (nI (m_wl w)) ν
              have hq := hQ ν f1 a1 p1
              rw [decide_eq_true (hwt.mpr ⟨hk1, c, hI⟩)] at hq
              unfold b_X12_isHere_76
              exact br_t (nI_le (Nat.le_refl _) (by omega)) hq
            · intro f i _ hi hI ih
              show b_X12_isHere_76 N w (w_X12_isHere_76 N w Q f) Q (nI i) ν
              have hr := run_l hl i (by omega)
              have ho := o4 i hi
              unfold b_X12_isHere_76
              rw [a1', nI_add, nI_clamp (n := sT tp p + i) (by omega), nI_clamp (n := i) (by omega), own_c w hw i hi, (hTν.2.2 (sT tp p + i) (by omega)).2, nI_1, nI_eq (by omega) (by omega)]
              refine br_f (nI_ge hi (by omega)) ⟨vp_in_nI (by omega) (by decide), vp_in_nI hi (by omega), fun e => nm_e (ih () (fun k hk => ?_)), fun e => ?_⟩
              · by_cases q : k = i
                · rw [q]; exact e
                · exact hI k (by omega)
              · have hq := hQ ν f1 a1 p1
                rw [decide_eq_false (fun e2 => e ((hwt.mp e2).2.2 i hi))] at hq
                exact hq
          · have hq := hQ ν f1 a1 p1
            rw [decide_eq_false (fun e => c (hwt.mp e).2.1)] at hq
            exact hq
        have hn : lB tp (eT tp (sT tp p)) = false := by rw [heE]; exact enF_o (lP h8) _
        unfold b_X12_isHere_35
        rw [hTν.2.1, nI_leI (by omega) (by omega), nI_clamp (n := eT tp (sT tp p)) (by omega)]
        refine ⟨fun _ => g61, fun z => ⟨vp_in_nI (by omega) (by decide), ?_⟩⟩
        rw [m_tp hTν (by omega)]
        exact m_letter hb (by rw [hn]; exact br_t rfl g61)
      · intro f i _ hi _ ih
        show b_X12_isHere_35 N w (w_X12_isHere_35 N w Q f) Q (nI (sT tp p + i)) ν
        have hk : lB tp (sT tp p + i) = true := enF_in (P := lB tp) (p := sT tp p) (by omega) (by omega)
        unfold b_X12_isHere_35
        rw [hTν.2.1, nI_leI (by omega) (by omega), nI_clamp (n := sT tp p + i) (by omega), m_tp hTν (by omega), nI_1]
        refine br_f (by omega) ⟨vp_in_nI (by omega) (by decide), m_letter hb ?_⟩
        rw [hk]
        exact br_f (by decide) (nm_e (ih () trivial))
theorem mPos_n (h8 : tp.1 ≤ 800) (hs : sT tp p < tp.1) (h4 : ν.1 4 = 0) (h5 : ν.1 5 = -1) (h1 : ν.1 1 = nI (eT tp (sT tp p))) (h3 : mEn (ν.1 3) (eT tp (sT tp p)) g) : mPos ν tp (eT tp (sT tp p)) g := ⟨eT_le (by omega), h4, ⟨_, h1, Nat.le_refl _, sT_ge _ _⟩, h3, h5⟩
theorem m_takes {w : Nat} (hN : 1100 < N) (hw : w < 19) (hT : mTape μ tp) (h : mPos μ tp p g) (h0 : ¬ wT tp p g = w → ∀ ν, fr [1] [] [] [] μ ν → mAt ν tp p → mPos ν tp p g → Q 0 ν) (h1 : wT tp p g = w → ∀ ν, fr [1, 3] [] [] [] μ ν → mPos ν tp (eT tp (sT tp p)) (wnB tp (sT tp p)) → Q 1 ν) : w_X12_takes N w μ Q := by
  have h8 := hT.1
  unfold w_X12_takes
  refine m_isHere hN hw hT h (fun ν f1 a1 p1 => ⟨fun z => h0 (of_decide_eq_false (b32_0.mp z)) ν f1 a1 p1, fun z => nm_e (nm_e ?_)⟩)
  have e := of_decide_eq_true (b32_n.mp z)
  have hi := (wT_is hw).mp e
  have hl := (kT_1 hi.1).1
  have hg := eT_gt h8 (lB_lt hl)
  have e1 : ν.1 1 + Int32.ofNat (m_wl w) = nI (eT tp (sT tp p)) := by
    rw [show ν.1 1 = nI (sT tp p) from a1, show Int32.ofNat (m_wl w) = nI (m_wl w) from rfl, nI_add]
    congr 1
    have := hi.2.1
    omega
  have hwn : wnB tp (sT tp p) = true := by unfold wnB; rw [hl]; rfl
  refine h1 e _ (fr_I (fr_I (fr_w f1 (subl rfl) (subl rfl) (subl rfl) (subl rfl)) (by decide)) (by decide)) (mPos_n h8 (lB_lt hl) p1.2.1 p1.2.2.2.2 e1 ?_)
  rw [hwn]
  show (zI ν 1 (ν.1 1 + Int32.ofNat (m_wl w))).1 1 = nI (eT tp (sT tp p))
  exact e1
theorem m_fail {k q : Int32} {Q : zSt → Prop} (h : μ.1 4 = 0) (hQ : Q (zI (zI μ 4 k) 5 q)) : w_X12_fail N k q μ Q := by
  unfold w_X12_fail
  exact br_t h (nm_e (nm_e hQ))
theorem m_fl {k q : Nat} {Q : zSt → Prop} (h : μ.1 4 = 0) (hQ : ∀ ν, fr [4, 5] [] [] [] μ ν → mBd ν (k, q) → Q ν) : w_X12_fail N (nI k) (nI q) μ Q := m_fail h (hQ _ (fr_I (fr_I fr_r (by decide)) (by decide)) ⟨rfl, rfl⟩)
theorem m_asks {w : Nat} {Q : zSt → Prop} (hN : 1100 < N) (hw : w < 19) (hT : mTape μ tp) (h : mPos μ tp p g) (h0 : ¬ wT tp p g = w → ∀ ν, fr [1, 3, 4, 5] [] [] [] μ ν → mBd ν (1, sT tp p) → Q ν) (h1 : wT tp p g = w → ∀ ν, fr [1, 3] [] [] [] μ ν → mPos ν tp (eT tp (sT tp p)) (wnB tp (sT tp p)) → Q ν) : w_X12_asks N w μ Q := by
  unfold w_X12_asks
  refine br_t h.2.1 (m_takes hN hw hT h (fun e ν f1 a1 p1 => br_t rfl ?_) (fun e ν f1 p1 => br_f (by decide) (h1 e ν f1 p1)))
  rw [show ν.1 1 = nI (sT tp p) from a1]
  exact m_fl (k := 1) p1.2.1 (fun υ f2 b2 => h0 e υ (fr_t (fr_w f1 (subl rfl) (subl rfl) (subl rfl) (subl rfl)) (fr_w f2 (subl rfl) (subl rfl) (subl rfl) (subl rfl))) b2)
/-- signs -/
def sgn (c : Nat) : Prop := c < 256 ∧ ¬ (97 ≤ c ∧ c ≤ 122) ∧ ¬ (48 ≤ c ∧ c ≤ 57)
theorem sg_i {c : Nat} (hc : sgn c) : isB tp p g c = true ↔ chT tp (sT tp p) = c := by
  constructor
  · intro h
    have h2 := is_i.mp h
    rw [← vT_s h2.1]; exact h2.2
  · intro h
    have hl : lB tp (sT tp p) = false := by
      cases e : lB tp (sT tp p) with
      | false => rfl
      | true => have := lB_i.mp e; rw [h] at this; exact absurd this hc.2.1
    have hd : dB tp (sT tp p) = false := by
      cases e : dB tp (sT tp p) with
      | false => rfl
      | true => have := dB_i.mp e; rw [h] at this; exact absurd this hc.2.2
    have hlt : sT tp p < tp.1 := ch_lt (by have := hc.1; omega)
    have hk : kT tp p g = 3 := by rw [kT_s hl hd, if_pos hlt]
    exact is_i.mpr ⟨hk, by rw [vT_s hk]; exact h⟩
theorem sg_e {c : Nat} (h : isB tp p g c = true) : sT tp p < tp.1 ∧ eT tp (sT tp p) = sT tp p + 1 ∧ wnB tp (sT tp p) = false := by
  obtain ⟨h1, h2, h3⟩ := kT_3 (is_i.mp h).1
  refine ⟨h3, ?_, ?_⟩
  · unfold eT; rw [if_neg (by rw [h1]; decide), if_neg (by rw [h2]; decide), if_pos h3]
  · unfold wnB; rw [h1, h2]; rfl
/-- one sign on -/
theorem mPos_s {c : Nat} {v : Int32} (h8 : tp.1 ≤ 800) (h : isB tp p g c = true) (a1 : ν.1 1 = nI (sT tp p)) (p1 : mPos ν tp p g) (hv : v = ν.1 1 + 1) : mPos (zI ν 1 v) tp (eT tp (sT tp p)) (wnB tp (sT tp p)) := by
  obtain ⟨g1, g2, g3⟩ := sg_e h
  have hge := sT_ge tp p
  refine mPos_n h8 g1 p1.2.1 p1.2.2.2.2 ?_ ?_
  · show v = _
    rw [hv, a1, nI_1, g2]
  · rw [g3]
    show mEn (ν.1 3) (eT tp (sT tp p)) false
    have h3 := p1.2.2.2.1
    unfold mEn at h3 ⊢
    rw [if_neg (by decide)]
    cases g with
    | true =>
      rw [if_pos rfl] at h3
      rw [h3, nI_toInt (by omega)]
      omega
    | false =>
      rw [if_neg (by decide)] at h3
      omega
theorem m_takesSign {c : Nat} (hN : 1100 < N) (hc : sgn c) (hT : mTape μ tp) (h : mPos μ tp p g) (h0 : isB tp p g c = false → ∀ ν, fr [1] [] [] [] μ ν → mAt ν tp p → mPos ν tp p g → Q 0 ν) (h1 : isB tp p g c = true → ∀ ν, fr [1] [] [] [] μ ν → ν.1 1 = nI (eT tp (sT tp p)) → mPos ν tp (eT tp (sT tp p)) (wnB tp (sT tp p)) → Q 1 ν) : w_X12_takesSign N (nI c) μ Q := by
  have h8 := hT.1
  have hb := mTp_b hT
  unfold w_X12_takesSign
  refine br_t h.2.1 (m_look hN hT h (fun ν f1 a1 p1 => ?_))
  rw [chI_c hb hc.1]
  refine ⟨fun e => nm_e ?_, fun e => ?_⟩
  · have hi := (sg_i (g := g) hc).mpr e
    refine h1 hi _ (fr_I f1 (by decide)) ?_ (mPos_s h8 hi a1 p1 rfl)
    show ν.1 1 + 1 = _
    rw [show ν.1 1 = nI (sT tp p) from a1, nI_1, (sg_e hi).2.1]
  · have hi : isB tp p g c = false := by
      cases z : isB tp p g c with
      | false => rfl
      | true => exact absurd ((sg_i hc).mp z) e
    exact h0 hi ν f1 a1 p1
theorem m_asksSign {c : Nat} {Q : zSt → Prop} (hN : 1100 < N) (hc : sgn c) (hT : mTape μ tp) (h : mPos μ tp p g) (h0 : isB tp p g c = false → ∀ ν, fr [1, 4, 5] [] [] [] μ ν → mBd ν (1, sT tp p) → Q ν) (h1 : isB tp p g c = true → ∀ ν, fr [1] [] [] [] μ ν → mPos ν tp (eT tp (sT tp p)) (wnB tp (sT tp p)) → Q ν) : w_X12_asksSign N (nI c) μ Q := by
  unfold w_X12_asksSign
  refine br_t h.2.1 (m_takesSign hN hc hT h (fun e ν f1 a1 p1 => br_t rfl ?_) (fun e ν f1 _ p1 => br_f (by decide) (h1 e ν f1 p1)))
  rw [show ν.1 1 = nI (sT tp p) from a1]
  exact m_fl (k := 1) p1.2.1 (fun υ f2 b2 => h0 e υ (fr_t (fr_w f1 (subl rfl) (subl rfl) (subl rfl) (subl rfl)) (fr_w f2 (subl rfl) (subl rfl) (subl rfl) (subl rfl))) b2)
end ml
