/-! gifts, and ties good for all -/
def nedV (l : zL) (e : Nat → Int32) (net k p : Nat) : Int64 := if tw l e (bdf net (2 ^ k)) p - tw l e net p < 0 then 0 else tw l e (bdf net (2 ^ k)) p - tw l e net p
def losV (l : zL) (e : Nat → Int32) (net k q : Nat) : Int64 := if tw l e net q - tw l e (bdf net (2 ^ k)) q < 0 then 0 else tw l e net q - tw l e (bdf net (2 ^ k)) q
def othK (k p : Nat) : Nat := if loN k = p then hiN k else loN k
def pasV (l : zL) (e : Nat → Int32) (net k p : Nat) : Int64 := if losV l e net k (othK k p) < nedV l e net k p then losV l e net k (othK k p) else nedV l e net k p
def giV (l : zL) (e : Nat → Int32) (net : Nat) (h : Bool) (k p : Nat) : Int64 := if h = true then nedV l e net k p - pasV l e net k p else pasV l e net k p
def giS (l : zL) (e : Nat → Int32) (net : Nat) (h : Bool) : Nat → Int64
  | 0 => 0
  | k + 1 => if net.testBit k = true then giS l e net h k + (giV l e net h k (loN k) + giV l e net h k (hiN k)) else giS l e net h k
def gifA (l : zL) (x : Int32) (net : Nat) (w : Int32) : Int64 := if w = 2 then (if (addO l (fun _ => x) net).isSome = true then 0 else 1) else if w = 0 then giS l (fun _ => x) net false (lPc l) else if w = 1 then giS l (fun _ => x) net true (lPc l) else -1
def gftA (l : zL) (x : Int32) (net : Nat) (p k : Int32) (h : Bool) : Int64 := if 0 ≤ k ∧ k < nI (lPc l) then (if net.testBit k.toNatClampNeg = true then (if p = nI (loN k.toNatClampNeg) ∨ p = nI (hiN k.toNatClampNeg) then giV l (fun _ => x) net h k.toNatClampNeg p.toNatClampNeg else -1) else -1) else -1
def gooB (l : zL) (e : Nat → Int32) (net : Nat) (b : Bool) (k : Nat) : Bool := decide (net.testBit k = b) && (mayv l (net ^^^ 2 ^ k) && (!decide (twS l e (net ^^^ 2 ^ k) (lPn l) ≤ twS l e net (lPn l)) && !movB l e net k))
def gooA (l : zL) (x : Int32) (net : Nat) (b : Bool) : Int64 := lN (msk (gooB l (fun _ => x) net b) (lPc l))
theorem le0_lt {v : Int64} : (if v ≤ 0 then 0 else v) = if v < 0 then 0 else v := by
  by_cases h : v < 0
  · rw [if_pos h, if_pos (by rw [fa_le64]; rw [fa_lt64] at h; omega)]
  · rw [if_neg h]
    by_cases h2 : v ≤ 0
    · rw [if_pos h2, fa_eq64]
      rw [fa_lt64] at h
      rw [fa_le64] at h2
      omega
    · rw [if_neg h2]
theorem ned_0 {l : zL} {e : Nat → Int32} {net k p : Nat} : 0 ≤ nedV l e net k p := by
  unfold nedV
  by_cases h : tw l e (bdf net (2 ^ k)) p - tw l e net p < 0
  · rw [if_pos h]; exact Int64.le_refl _
  · rw [if_neg h]; exact Int64.not_lt.mp h
theorem pas_is {l : zL} {e : Nat → Int32} {net k p : Nat} : (if 0 < tw l e net (othK k p) - tw l e (bdf net (2 ^ k)) (othK k p) then (if nedV l e net k p ≤ tw l e net (othK k p) - tw l e (bdf net (2 ^ k)) (othK k p) then nedV l e net k p else tw l e net (othK k p) - tw l e (bdf net (2 ^ k)) (othK k p)) else 0) = pasV l e net k p := by
  have hn := ned_0 (l := l) (e := e) (net := net) (k := k) (p := p)
  unfold pasV losV
  generalize nedV l e net k p = nd at *
  generalize tw l e net (othK k p) - tw l e (bdf net (2 ^ k)) (othK k p) = v at *
  have h0 : (0 : Int64).toInt = 0 := by decide
  rw [fa_le64, h0] at hn
  by_cases c1 : 0 < v
  · have c2 : ¬ v < 0 := by rw [fa_lt64] at c1 ⊢; omega
    rw [if_pos c1, if_neg c2]
    by_cases c3 : nd ≤ v
    · rw [if_pos c3, if_neg (by rw [fa_lt64]; rw [fa_le64] at c3; omega)]
    · rw [if_neg c3, if_pos (Int64.not_le.mp c3)]
  · rw [if_neg c1]
    have e1 : (if v < 0 then (0 : Int64) else v) = 0 := by
      by_cases c2 : v < 0
      · rw [if_pos c2]
      · rw [if_neg c2, fa_eq64]
        rw [fa_lt64] at c1 c2
        omega
    rw [e1]
    by_cases c3 : 0 < nd
    · rw [if_pos c3]
    · rw [if_neg c3, fa_eq64]
      rw [fa_lt64] at c3
      omega
section gf
variable {N : Nat} {σ τ μ ν : zSt} {tp : Nat × (Nat → Nat)} {fa : Int32 × Int32} {l : zL} {net : Nat} {x : Int32} {ba rg : Nat → Int64} {ls : Nat × (Nat → Int64)} {cm : Nat × (Nat → Int64) × (Nat → Int32)} {li : Int64} {oc : Nat → Int32}
theorem X_giftOf {k p : Nat} {b : Bool} {Q : Int64 → zSt → Prop} (hN : 1100 < N) (h : XR σ tp fa l net x ba rg ls cm li oc) (hk : k < lPc l) (hp : p < lPn l) (hQ : ∀ τ, XR τ tp fa l net x ba rg ls cm li oc → Q (giV l (fun _ => x) net b k p) τ) : w_X11_giftOf N (nI p) (nI k) (b32 b) σ Q := by
  obtain ⟨b1, b2, b3, b4, b5, b6, b7, b8, b9, b10, b11, b12⟩ := id h
  have h10 := b3.1.1
  have hpc := pc_le h10
  have hlo := lo_pc h10 hk
  have hhi := hi_pc h10 hk
  have hv : vp_in (nI k) 45 := vp_in_nI (by omega) (by decide)
  have htb : bdf net (2 ^ k) < 2 ^ lPc l := bdf_lt b6.1
  have hot : othK k p < lPn l := by
    unfold othK
    by_cases c : loN k = p
    · rw [if_pos c]; exact hhi
    · rw [if_neg c]; exact hlo
  unfold w_X11_giftOf
  rw [b6.2, oneJ (by omega), bdfJ, nI_clamp (n := k) (by omega), (b3.2.2.2.2.1.1 k (by omega)).1, (b3.2.2.2.2.1.1 k (by omega)).2]
  have key : b_X11_giftOf_48 N Q (nI p) (b32 b) (lN (bdf net (2 ^ k))) (nI (othK k p)) σ := by
    unfold b_X11_giftOf_48
    refine x_of (by omega) b3 hp htb (fun τ1 f1 g1 => ?_)
    have n1 : τ1.2.1 0 = lN net := (f1.2.1 0 (by decide)).trans b6.2
    rw [n1]
    refine x_of (by omega) g1 hp b6.1 (fun τ2 f2 g2 => nm_e ?_)
    have f12 := fr_t f1 f2
    have n2 : τ2.2.1 0 = lN net := (f12.2.1 0 (by decide)).trans b6.2
    rw [n2]
    refine x_of (by omega) g2 hot b6.1 (fun τ3 f3 g3 => x_of (by omega) g3 hot htb (fun τ4 f4 g4 => nm_e (nm_e ?_)))
    have hX := XR_s (xS_F (fr_t (fr_t f12 f3) f4)) g4 h
    have hq := hQ τ4 hX
    unfold giV at hq
    cases b with
    | true => rw [if_pos rfl] at hq; exact br_f (show ¬ (1 : Int32) = 0 by decide) hq
    | false => rw [if_neg (by decide)] at hq; exact br_t rfl hq
  unfold othK at key
  refine nm_e ⟨hv, fun q => ⟨hv, ?_⟩, fun q => ⟨hv, ?_⟩⟩
  · rw [if_pos ((nI_eq (by omega) (by omega)).mp q)] at key; exact key
  · rw [if_neg (fun z => q (by rw [z]))] at key; exact key
theorem X_gifts {w : Int32} {Q : Int64 → zSt → Prop} (hN : 1100 < N) (h : XR σ tp fa l net x ba rg ls cm li oc) (hQ : ∀ τ, XR τ tp fa l net x ba rg ls cm li oc → Q (gifA l x net w) τ) : w_X11_gifts N w σ Q := by
  obtain ⟨b1, b2, b3, b4, b5, b6, b7, b8, b9, b10, b11, b12⟩ := id h
  have h10 := b3.1.1
  have hpc := pc_le h10
  have h45 := net45 h10 b6.1
  unfold w_X11_gifts
  unfold gifA at hQ
  have loop : ∀ b : Bool, w = b32 b → (∀ τ, XR τ tp fa l net x ba rg ls cm li oc → Q (giS l (fun _ => x) net b (lPc l)) τ) → w_X11_gifts_43 N Q N w 0 0 σ := by
    intro b hb hQ2
    refine loopU (S := zSt) (fun f k τ => w_X11_gifts_43 N Q f w (giS l (fun _ => x) net b k) (nI k) τ) (fun k τ => XR τ tp fa l net x ba rg ls cm li oc) (lPc l) ?_ ?_ N 0 σ (Nat.zero_le _) (by omega) h
    · intro f τ t0
      show b_X11_gifts_43 N (w_X11_gifts_43 N Q f) Q w (giS l (fun _ => x) net b (lPc l)) (nI (lPc l)) τ
      unfold b_X11_gifts_43
      rw [t0.2.2.1.2.2.1.2.1]
      exact br_t (nI_le (Nat.le_refl _) (by omega)) (hQ2 τ t0)
    · intro f k τ hk t0 ih
      show b_X11_gifts_43 N (w_X11_gifts_43 N Q f) Q w (giS l (fun _ => x) net b k) (nI k) τ
      unfold b_X11_gifts_43
      have hlo := lo_pc h10 hk
      have hhi := hi_pc h10 hk
      have hT := t0.2.2.1.2.2.2.2.1.1 k (by omega)
      have hv : vp_in (nI k) 45 := vp_in_nI (by omega) (by decide)
      have ihs : ∀ υ, XR υ tp fa l net x ba rg ls cm li oc → w_X11_gifts_43 N Q f w (giS l (fun _ => x) net b (k + 1)) (nI (k + 1)) υ := ih
      rw [giS] at ihs
      rw [t0.2.2.1.2.2.1.2.1, t0.2.2.2.2.2.1.2, lg_cmp_eq, bitJ (by omega) (by omega), nI_1, nI_clamp (n := k) (by omega), hT.1]
      have two : net.testBit k = true → b_X11_gifts_93 N (w_X11_gifts_43 N Q f) Q w (nI k) (b32 b) (nI k) (nI (loN k)) (giS l (fun _ => x) net b k) τ := fun hb1 => by
        unfold b_X11_gifts_93
        refine X_giftOf hN t0 hk hlo (fun υ u0 => ⟨hv, ?_⟩)
        have hT2 := u0.2.2.1.2.2.2.2.1.1 k (by omega)
        rw [nI_clamp (n := k) (by omega), hT2.2]
        have one : b_X11_gifts_119 N (w_X11_gifts_43 N Q f) Q w (nI k) (b32 b) (nI k) (nI (hiN k)) (giV l (fun _ => x) net b k (loN k)) (giS l (fun _ => x) net b k) υ := by
          unfold b_X11_gifts_119
          refine X_giftOf hN u0 hk hhi (fun ω w0 => nm_e (nm_e ?_))
          have := ihs ω w0
          rw [if_pos hb1] at this
          rw [nI_1]; exact this
        refine ⟨fun q => ?_, fun q => ?_⟩
        · have e1 : b = true := by
            cases b with
            | true => rfl
            | false => rw [hb] at q; exact absurd q (by decide)
          subst e1; exact one
        · have e1 : b = false := by
            cases b with
            | false => rfl
            | true => exact absurd hb q
          subst e1; exact one
      refine br_f (nI_ge hk (by omega)) ⟨fun hb1 => nm_e ?_, fun hb1 => ⟨hv, ?_⟩⟩
      · have := ihs τ t0
        rw [if_neg (by rw [hb1]; decide)] at this
        exact this
      · have hb1 : net.testBit k = true := by simpa using hb1
        refine ⟨fun q => ?_, fun q => ?_⟩
        · have e1 : b = true := by
            cases b with
            | true => rfl
            | false => rw [hb] at q; exact absurd q (by decide)
          subst e1; exact two hb1
        · have e1 : b = false := by
            cases b with
            | false => rfl
            | true => exact absurd hb q
          subst e1; exact two hb1
  refine ⟨fun q => ?_, fun q => ⟨fun q2 => ?_, fun q2 => ⟨fun q3 => ?_, fun q3 => ?_⟩⟩⟩
  · rw [if_pos q] at hQ
    rw [b6.2]
    refine x_firstAdd (by omega) b3 (ex_ok2 b5.1) b6.1 (fun τ f1 g1 _ => ?_)
    have hq := hQ τ (XR_s (xS_2 f1) g1 h)
    unfold addO at hq
    cases ha : (fstO (gadd l (fun _ => x) net) (lPc l) 0).isSome with
    | true => rw [ha, if_pos rfl] at hq; exact br_f (by decide) hq
    | false => rw [ha, if_neg (by decide)] at hq; exact br_t rfl hq
  · rw [if_neg q, if_pos q2] at hQ
    exact loop false q2 hQ
  · rw [if_neg q, if_neg q2, if_pos q3] at hQ
    exact loop true q3 hQ
  · rw [if_neg q, if_neg q2, if_neg q3] at hQ
    exact hQ σ h
theorem X_gift {p k : Int32} {b : Bool} {Q : Int64 → zSt → Prop} (hN : 1100 < N) (h : XR σ tp fa l net x ba rg ls cm li oc) (hQ : ∀ τ, XR τ tp fa l net x ba rg ls cm li oc → Q (gftA l x net p k b) τ) : w_X11_gift N p k (b32 b) σ Q := by
  obtain ⟨b1, b2, b3, b4, b5, b6, b7, b8, b9, b10, b11, b12⟩ := id h
  have h10 := b3.1.1
  have hpc := pc_le h10
  have h45 := net45 h10 b6.1
  unfold w_X11_gift
  unfold gftA at hQ
  rw [b3.2.2.1.2.1]
  refine ⟨fun q => ?_, fun q => ⟨fun q2 => ?_, fun q2 => ?_⟩⟩
  · rw [if_neg (fun z => nlt_le.mpr z.1 q)] at hQ; exact hQ σ h
  · rw [if_neg (fun z => nle_lt.mpr z.2 q2)] at hQ; exact hQ σ h
  · obtain ⟨j, hj, e1, e2⟩ := ixc (by omega) (nlt_le.mp q) (nle_lt.mp q2)
    rw [if_pos ⟨nlt_le.mp q, nle_lt.mp q2⟩, e2] at hQ
    have hlo := lo_pc h10 hj
    have hhi := hi_pc h10 hj
    have hT := b3.2.2.2.2.1.1 j (by omega)
    have hv : vp_in (nI j) 45 := vp_in_nI (by omega) (by decide)
    rw [e1, b6.2, lg_cmp_eq, bitJ (by omega) (by omega), nI_clamp (n := j) (by omega), hT.1, hT.2]
    have go : ∀ m, m < lPn l → p = nI m → (∀ τ, XR τ tp fa l net x ba rg ls cm li oc → Q (giV l (fun _ => x) net b j m) τ) → b_X11_gift_62 N Q p (nI j) (b32 b) σ := fun m hm em hq => by
      unfold b_X11_gift_62
      rw [em]
      exact X_giftOf hN h hj hm hq
    refine ⟨fun q3 => ?_, fun q3 => ⟨hv, fun q4 => ?_, fun q4 => ⟨hv, fun q5 => ?_, fun q5 => ?_⟩⟩⟩
    · rw [if_neg (by rw [q3]; decide)] at hQ; exact hQ σ h
    · have q3 : net.testBit j = true := by simpa using q3
      rw [if_pos q3, if_pos (Or.inl q4), q4, nI_clamp (by omega)] at hQ
      exact go _ hlo q4 hQ
    · have q3 : net.testBit j = true := by simpa using q3
      rw [if_pos q3, if_pos (Or.inr q5), q5, nI_clamp (by omega)] at hQ
      exact go _ hhi q5 hQ
    · have q3 : net.testBit j = true := by simpa using q3
      rw [if_pos q3, if_neg (fun z => z.elim q4 q5)] at hQ
      exact hQ σ h
theorem X_good {b : Bool} {Q : Int64 → zSt → Prop} (hN : 1100 < N) (h : XR σ tp fa l net x ba rg ls cm li oc) (hQ : ∀ τ, XR τ tp fa l net x ba rg ls cm li oc → Q (gooA l x net b) τ) : w_X11_good N (b32 b) σ Q := by
  obtain ⟨b1, b2, b3, b4, b5, b6, b7, b8, b9, b10, b11, b12⟩ := id h
  have h10 := b3.1.1
  have hpc := pc_le h10
  have h45 := net45 h10 b6.1
  unfold w_X11_good
  rw [b6.2]
  refine x_inAll (by omega) b3 b6.1 (fun τ0 f0 g0 => ?_)
  have hX0 := XR_s (xS_F f0) g0 h
  refine loopU (S := zSt) (fun f k τ => w_X11_good_18 N Q f (b32 b) (lN (msk (gooB l (fun _ => x) net b) k)) (twS l (fun _ => x) net (lPn l)) (nI k) τ) (fun k τ => XR τ tp fa l net x ba rg ls cm li oc) (lPc l) ?_ ?_ N 0 τ0 (Nat.zero_le _) (by omega) hX0
  · intro f τ t0
    show b_X11_good_18 N (w_X11_good_18 N Q f) Q (b32 b) (lN (msk (gooB l (fun _ => x) net b) (lPc l))) (twS l (fun _ => x) net (lPn l)) (nI (lPc l)) τ
    unfold b_X11_good_18
    rw [t0.2.2.1.2.2.1.2.1]
    exact br_t (nI_le (Nat.le_refl _) (by omega)) (hQ τ t0)
  · intro f k τ hk t0 ih
    show b_X11_good_18 N (w_X11_good_18 N Q f) Q (b32 b) (lN (msk (gooB l (fun _ => x) net b) k)) (twS l (fun _ => x) net (lPn l)) (nI k) τ
    unfold b_X11_good_18
    have htb : net ^^^ 2 ^ k < 2 ^ lPc l := Nat.xor_lt_two_pow b6.1 (p2lt hk)
    have ihs : ∀ υ, XR υ tp fa l net x ba rg ls cm li oc → w_X11_good_18 N Q f (b32 b) (lN (msk (gooB l (fun _ => x) net b) k ||| (if gooB l (fun _ => x) net b k then 2 ^ k else 0))) (twS l (fun _ => x) net (lPn l)) (nI (k + 1)) υ := ih
    have hgb : gooB l (fun _ => x) net b k = (decide (net.testBit k = b) && (mayv l (net ^^^ 2 ^ k) && (!decide (twS l (fun _ => x) (net ^^^ 2 ^ k) (lPn l) ≤ twS l (fun _ => x) net (lPn l)) && !movB l (fun _ => x) net k))) := rfl
    have no : ∀ υ, XR υ tp fa l net x ba rg ls cm li oc → gooB l (fun _ => x) net b k = false → w_X11_good_18 N Q f (b32 b) (lN (msk (gooB l (fun _ => x) net b) k)) (twS l (fun _ => x) net (lPn l)) (nI (k + 1)) υ := fun υ u0 hf => by
      have := ihs υ u0
      rw [hf] at this
      simp only [Bool.false_eq_true, if_false, Nat.or_zero] at this
      exact this
    have main : ∀ s0 : Int32, (s0 = b32 b ↔ net.testBit k = b) → b_X11_good_53 N (w_X11_good_18 N Q f) Q (b32 b) (lN (msk (gooB l (fun _ => x) net b) k)) (twS l (fun _ => x) net (lPn l)) (nI k) (lN (2 ^ k)) s0 τ := by
      intro s0 hs
      unfold b_X11_good_53
      rw [t0.2.2.2.2.2.1.2, fb_xorL, nI_1]
      refine ⟨fun q => x_may (by omega) t0.2.2.1 htb ⟨fun q2 => nm_e (no τ t0 ?_), fun q2 => ?_⟩, fun q => nm_e (no τ t0 ?_)⟩
      · rw [hgb, b32_0.mp q2]; simp
      · have hm : mayv l (net ^^^ 2 ^ k) = true := by
          cases hh : mayv l (net ^^^ 2 ^ k) with
          | true => rfl
          | false => exact absurd (b32_0.mpr hh) q2
        rw [t0.2.2.2.2.2.1.2, fb_xorL]
        refine x_inAll (by omega) t0.2.2.1 htb (fun υ f1 g1 => ?_)
        have u0 := XR_s (xS_F f1) g1 t0
        rw [lg_cmp_le]
        refine ⟨fun q3 => nm_e (no υ u0 ?_), fun q3 => ?_⟩
        · rw [hgb, decide_eq_true q3]; simp
        · rw [u0.2.2.2.2.2.1.2]
          refine x_moves (by omega) g1 (ex_ok2 b5.1) hk b6.1 (fun ω f2 g2 => ?_)
          have w0 := XR_s (xS_F f2) g2 u0
          cases hmv : movB l (fun _ => x) net k with
          | true => exact br_f (by decide) (nm_e (no ω w0 (by rw [hgb, hmv]; simp)))
          | false =>
            refine br_t rfl (nm_e (nm_e ?_))
            rw [fb_orL]
            have hgt : gooB l (fun _ => x) net b k = true := by rw [hgb, decide_eq_true (hs.mp q), hm, decide_eq_false q3, hmv]; rfl
            have := ihs ω w0
            rw [hgt] at this
            simp only [if_true] at this
            exact this
      · rw [hgb, decide_eq_false (fun z => q (hs.mpr z))]; rfl
    rw [t0.2.2.1.2.2.1.2.1, oneJ (by omega)]
    refine br_f (nI_ge hk (by omega)) (nm_e ?_)
    rw [t0.2.2.2.2.2.1.2, lg_cmp_eq, fb_bitL (by omega)]
    refine ⟨fun hb => main 0 ?_, fun hb => main 1 ?_⟩
    · rw [hb]; cases b <;> decide
    · have hb : net.testBit k = true := by simpa using hb
      rw [hb]; cases b <;> decide
end gf
