/-! a lie -/
def lieE (x : Int32) (p k : Nat) : Nat → Int32 := fun q => if q = p then x + nI k else x
def lieN (l : zL) (x : Int32) (p k : Nat) : Nat := if (wlkR l (lieE x p k) 0).2.2 = true ∧ (wlkR l (lieE x p k) 0).2.1 = 0 then pth l (lieE x p k) 0 (wlkR l (lieE x p k) 0).1 else 0
def lieW (l : zL) (x : Int32) (p k : Nat) : Int64 := tw l (fun _ => x) (lieN l x p k) p
def lieS (l : zL) (x : Int32) (p : Nat) : Nat → Nat × Int64
  | 0 => (0, lieW l x p 0)
  | k + 1 => if lieW l x p (k + 1) ≤ (lieS l x p k).2 then lieS l x p k else (k + 1, lieW l x p (k + 1))
def lieB (l : zL) (p : Int32) : Bool := perB l p && decide (lPn l ≤ 6)
def lieA (l : zL) (x : Int32) (p : Int32) : Int32 := if lieB l p = true then nI (lieS l x p.toNatClampNeg 20).1 else -1
def lieT (l : zL) (x : Int32) (p : Int32) (li : Int64) : Int64 := if lieB l p = true then (lieS l x p.toNatClampNeg 20).2 else li
theorem lieS_le {l : zL} {x : Int32} {p : Nat} : ∀ k, (lieS l x p k).1 ≤ k
  | 0 => Nat.le_refl _
  | k + 1 => by
    have ih := lieS_le (l := l) (x := x) (p := p) k
    rw [lieS]
    by_cases c : lieW l x p (k + 1) ≤ (lieS l x p k).2
    · rw [if_pos c]; omega
    · rw [if_neg c]; exact Nat.le_refl _
theorem lie_ok {x : Int32} {p k : Nat} (hx : exI x) (hk : k ≤ 20) : eOk (lieE x p k) := fun q _ => by
  unfold exI at hx
  unfold lieE
  by_cases c : q = p
  · rw [if_pos c]
    have e1 : (nI k).toInt = (k : Int) := nI_toInt (by omega)
    rw [fb_addI (by omega) (by omega)]
    omega
  · rw [if_neg c]; omega
/-- a net without ties is worth nothing -/
theorem td_0 (a b : Nat) : td 0 a b = false := by unfold td; rw [Nat.zero_testBit, Bool.and_false]
theorem rs_00 {n a : Nat} : ∀ k b, rs n 0 a k b = decide (b = a)
  | 0, b => rfl
  | k + 1, b => by
    rw [rs, rs_00 k b]
    have : (List.range n).any (fun c => rs n 0 a k c && td 0 c b) = false := by
      apply Bool.eq_false_iff.mpr
      intro h
      obtain ⟨c, _, h2⟩ := List.any_eq_true.mp h
      rw [td_0, Bool.and_false] at h2
      exact absurd h2 (by decide)
    rw [this, Bool.or_false]
theorem wv_0 {l : zL} {p : Nat} : ∀ q, wv l 0 p q = 0
  | 0 => rfl
  | q + 1 => by
    rw [wv, wv_0 q]
    unfold wst
    by_cases c : q = p
    · rw [if_pos (Or.inl c)]
    · have : dv (lPn l) 0 p q = -1 := by
        unfold dv ds
        rw [first_no (fun j _ => by rw [rs_00]; exact decide_eq_false c), if_neg (Nat.lt_irrefl _)]
      rw [if_pos (Or.inr this)]
theorem tw_0 {l : zL} {e : Nat → Int32} {p : Nat} : tw l e 0 p = 0 := by
  unfold tw
  have : dg (lPn l) 0 p = 0 := fb_ct_zero.mpr (fun k _ => td_0 p k)
  rw [wv_0, this]
  have e1 : (nI 0).toInt64 = 0 := by decide
  rw [e1, Int64.zero_mul, Int64.sub_zero]
section le
variable {N : Nat} {σ τ μ ν : zSt} {tp : Nat × (Nat → Nat)} {fa : Int32 × Int32} {l : zL} {net : Nat} {x : Int32} {ba rg : Nat → Int64} {ls : Nat × (Nat → Int64)} {cm : Nat × (Nat → Int64) × (Nat → Int32)} {li : Int64} {oc : Nat → Int32}
theorem X_lie {p : Int32} {Q : Int32 → zSt → Prop} (hN : 1100 < N) (h : XR σ tp fa l net x ba rg ls cm li oc) (hQ : ∀ τ, XR τ tp fa l net x ba rg ls cm (lieT l x p li) oc → Q (lieA l x p) τ) : w_X11_lie N p σ Q := by
  obtain ⟨b1, b2, b3, b4, b5, b6, b7, b8, b9, b10, b11, b12⟩ := id h
  have h10 := b3.1.1
  have no : lieB l p = false → Q (-1) σ := fun hf => by
    unfold lieA lieT at hQ
    rw [hf, if_neg (by decide), if_neg (by decide)] at hQ
    exact hQ σ h
  have el : lieB l p = (perB l p && decide (lPn l ≤ 6)) := rfl
  unfold w_X11_lie
  refine x_isPer b3.2.2.1.1 ⟨fun q => no (by rw [el, b32_0.mp q]; rfl), fun q => ?_⟩
  have hp : perB l p = true := by
    cases hh : perB l p with
    | true => rfl
    | false => exact absurd (b32_0.mpr hh) q
  rw [b3.2.2.1.1]
  refine ⟨fun q2 => ?_, fun q2 => no ?_⟩
  · have q2 : lPn l ≤ 6 := (nI_leI (b := 6) (by omega) (by omega)).mp q2
    rw [hp, decide_eq_true q2] at el
    have el : lieB l p = true := el
    obtain ⟨pn, hpn, e1, e2⟩ := per_t h10 hp
    unfold lieA lieT at hQ
    rw [el, if_pos rfl, if_pos rfl, e2] at hQ
    rw [e1]
    refine loopU (S := Int32 × zSt) (fun f k s => w_X11_lie_29 N Q f (nI pn) s.1 (nI k) s.2) (fun k s => ∃ w, XR s.2 tp fa l net x ba rg ls cm (w) oc ∧ ((k = 0 ∧ s.1 = -1) ∨ ∃ j, k = j + 1 ∧ s.1 = nI (lieS l x pn j).1 ∧ w = (lieS l x pn j).2)) 21 ?_ ?_ N 0 (-1, σ) (Nat.zero_le _) (by omega) ⟨li, h, Or.inl ⟨rfl, rfl⟩⟩
    · intro f s ⟨w, s0, s1⟩
      show b_X11_lie_29 N (w_X11_lie_29 N Q f) Q (nI pn) s.1 (nI 21) s.2
      unfold b_X11_lie_29
      refine br_t (nI_lt (a := 20) (b := 21) (by omega) (by omega)) ?_
      rcases s1 with ⟨z, _⟩ | ⟨j, z1, z2, z3⟩
      · exact absurd z (by decide)
      · have e3 : j = 20 := by omega
        subst e3
        rw [z2]
        rw [z3] at s0
        exact hQ s.2 s0
    · intro f k s hk ⟨w, s0, s1⟩ ih
      show b_X11_lie_29 N (w_X11_lie_29 N Q f) Q (nI pn) s.1 (nI k) s.2
      unfold b_X11_lie_29
      refine br_f (nI_nlt (a := 20) (by omega) (by omega)) ?_
      unfold w_X10_pretend
      refine nm_e (nm_e ?_)
      obtain ⟨c1, c2, c3, c4, c5, c6, c7, c8, c9, c10, c11, c12⟩ := id s0
      obtain ⟨d1, d2, d3, d4, d5, d6, d7, d8⟩ := c3
      have fp : fr [26, 27] [] [] [] s.2 (zI (zI s.2 26 (nI pn)) 27 (nI k)) := fr_I (fr_I fr_r (by decide)) (by decide)
      have gp : xG (zI (zI s.2 26 (nI pn)) 27 (nI k)) l (lieE x pn k) := by
        refine ⟨d1, d2, xP_fr fp (notin rfl) (by decide) (notin rfl) d3, xR_fr fp (by decide) (notin rfl) d4, xT_fr fp (notin rfl) (by decide) d5, d6, d7, fun q hq => ?_⟩
        show (if nI q = nI pn then s.2.1 25 + nI k else s.2.1 25) = lieE x pn k q
        unfold lieE
        rw [c5.2.1]
        by_cases c : q = pn
        · rw [if_pos c, if_pos (by rw [c])]
        · rw [if_neg c, if_neg (fun z => c ((nI_eq (by omega) (by omega)).mp z))]
      refine x_from (a := 0) (by omega) gp (lie_ok b5.1 (by omega)) (Nat.two_pow_pos _) (fun υ f1 g1 hW => nm_e (nm_e ?_))
      obtain ⟨w1, w2, w3, w4, w5, w6, w7⟩ := hW
      generalize hω : zI (zI υ 26 (-1)) 27 0 = ω
      have fω : fr [26, 27] [] [] [] υ ω := by rw [← hω]; exact fr_I (fr_I fr_r (by decide)) (by decide)
      have o26 : ω.1 26 = -1 := by rw [← hω]; rfl
      clear hω
      have fs : fr [6, 26, 27, 30, 31, 32] [4] [13, 28, 29] [3, 5, 6, 10] s.2 ω := fr_t (fr_t (fr_w fp (subl rfl) (subl rfl) (subl rfl) (subl rfl)) (fr_w f1 (subl rfl) (subl rfl) (subl rfl) (subl rfl))) (fr_w fω (subl rfl) (subl rfl) (subl rfl) (subl rfl))
      have gω : xG ω l (fun _ => x) := by
        obtain ⟨p1, p2, p3, p4, p5, p6, p7, p8⟩ := g1
        refine ⟨p1, p2, xP_fr fω (notin rfl) (by decide) (notin rfl) p3, xR_fr fω (by decide) (notin rfl) p4, xT_fr fω (notin rfl) (by decide) p5, ?_, ?_, xE_ex ((fs.1 25 (by decide)).trans c5.2.1) o26⟩
        · unfold xD; rw [fω.2.1 4 (by decide), fω.2.2.1 28 (by decide)]; exact p6
        · unfold xC; rw [fω.2.2.2 5 (by decide), fω.2.2.2 6 (by decide)]; exact p7
      have hXω : XR ω tp fa l net x ba rg ls cm w oc := by
        refine ⟨?_, ?_, gω, ?_, ⟨b5.1, (fs.1 25 (by decide)).trans c5.2.1, o26⟩, ?_, ?_, ?_, ?_, ?_, ?_, ?_⟩
        · unfold xTp; rw [fs.1 0 (by decide), fs.2.2.1 2 (by decide)]; exact c1
        · rw [fs.1 8 (by decide), fs.1 9 (by decide), fs.2.2.1 14 (by decide)]; exact c2
        · exact fun i hi => by rw [fs.2.2.2 7 (by decide), fs.2.2.2 8 (by decide)]; exact c4 i hi
        · rw [fs.2.1 0 (by decide)]; exact c6
        · rw [fs.2.2.2 0 (by decide)]; exact c7
        · rw [fs.2.2.2 1 (by decide)]; exact c8
        · rw [fs.1 34 (by decide), fs.2.2.2 11 (by decide)]; exact c9
        · rw [fs.1 35 (by decide), fs.2.2.2 12 (by decide), fs.2.2.1 33 (by decide)]; exact c10
        · rw [fs.2.1 1 (by decide)]; exact c11
        · rw [fs.2.2.1 1 (by decide)]; exact c12
      have fin : ∀ r, r = lieN l x pn k → r < 2 ^ lPc l → b_X11_lie_92 N (w_X11_lie_29 N Q f) Q (nI pn) s.1 (nI k) (lN r) ω := by
        intro r hr hrl
        unfold b_X11_lie_92 b_X11_lie_121
        refine x_of (by omega) gω hpn hrl (fun ψ f2 g2 => ?_)
        have hXψ := XR_s (xS_F f2) g2 hXω
        have elw : tw l (fun _ => x) r pn = lieW l x pn k := by rw [hr]; rfl
        rw [elw, nI_1]
        have put : ∀ ζ : zSt, ζ = zJ ψ 1 (lieW l x pn k) → XR ζ tp fa l net x ba rg ls cm (lieW l x pn k) oc := fun ζ hζ => by
          rw [hζ]
          obtain ⟨z1, z2, z3, z4, z5, z6, z7, z8, z9, z10, z11, z12⟩ := hXψ
          exact ⟨z1, z2, xG_fr (I := []) (J := [1]) (A := []) (B := []) (fr_J fr_r (by decide)) (notin rfl) (notin rfl) (notin rfl) (notin rfl) z3, z4, z5, z6, z7, z8, z9, z10, rfl, z12⟩
        rcases s1 with ⟨y1, y2⟩ | ⟨j, y1, y2, y3⟩
        · subst y1
          exact br_t y2 (nm_e (nm_e (ih (nI 0, _) ⟨lieW l x pn 0, put _ rfl, Or.inr ⟨0, rfl, rfl, rfl⟩⟩)))
        · have hle := lieS_le (l := l) (x := x) (p := pn) j
          have hS : lieS l x pn (j + 1) = if lieW l x pn (j + 1) ≤ (lieS l x pn j).2 then lieS l x pn j else (j + 1, lieW l x pn (j + 1)) := rfl
          rw [y2]
          refine br_f (m1_ne (by omega)) ?_
          rw [hXψ.2.2.2.2.2.2.2.2.2.2.1, lg_cmp_le, y3]
          subst y1
          refine ⟨fun z => nm_e ?_, fun z => nm_e (nm_e ?_)⟩
          · rw [if_pos z] at hS
            exact ih (nI (lieS l x pn j).1, ψ) ⟨w, hXψ, Or.inr ⟨j + 1, rfl, by rw [hS], by rw [hS, y3]⟩⟩
          · rw [if_neg z] at hS
            exact ih (nI (j + 1), _) ⟨lieW l x pn (j + 1), put _ rfl, Or.inr ⟨j + 1, rfl, by rw [hS], by rw [hS]⟩⟩
      have o32 : ω.1 32 = b32 (wlkR l (lieE x pn k) 0).2.2 := (fω.1 32 (by decide)).trans w5
      have o31 : ω.1 31 = nI (wlkR l (lieE x pn k) 0).2.1 := (fω.1 31 (by decide)).trans w4
      have o30 : ω.1 30 = nI (wlkR l (lieE x pn k) 0).1 := (fω.1 30 (by decide)).trans w3
      rw [o32, o31]
      refine ⟨fun z => ?_, fun z => ⟨fun z2 => ?_, fun z2 => ?_⟩⟩
      · exact fin 0 (by unfold lieN; rw [if_neg (fun y => by rw [b32_0.mp z] at y; exact absurd y.1 (by decide))]) (Nat.two_pow_pos _)
      · have hz : (wlkR l (lieE x pn k) 0).2.2 = true := by
          cases hh : (wlkR l (lieE x pn k) 0).2.2 with
          | true => rfl
          | false => exact absurd (b32_0.mpr hh) z
        have hz2 : (wlkR l (lieE x pn k) 0).2.1 = 0 := (nI_eq (b := 0) (by omega) (by omega)).mp z2
        unfold w_X9_lastNet
        rw [o30, nI_clamp (n := (wlkR l (lieE x pn k) 0).1) (by omega), fω.2.2.2 10 (by decide), (w6 _ (Nat.le_refl _)).1]
        exact ⟨vp_in_nI (by omega) (by decide), fin _ (by unfold lieN; rw [if_pos ⟨hz, hz2⟩]) (w6 _ (Nat.le_refl _)).2⟩
      · have hz2 : ¬ (wlkR l (lieE x pn k) 0).2.1 = 0 := fun y => z2 (by rw [y]; rfl)
        exact fin 0 (by unfold lieN; rw [if_neg (fun y => hz2 y.2)]) (Nat.two_pow_pos _)
  · have q2 : ¬ lPn l ≤ 6 := fun z => q2 (nI_le (b := 6) z (by omega))
    rw [el, decide_eq_false q2, Bool.and_false]
theorem M_lie {p : Int32} {Q : Int32 → zSt → Prop} (hN : 1100 < N) (h : MR μ tp fa l net x ba rg ls cm li oc) (hQ : ∀ ν, MR ν tp fa l net x ba rg ls cm (lieT l x p li) oc → Q (lieA l x p) ν) : w_X12_lie N p μ Q := by
  obtain ⟨b1, b2, b3, b4, b5, b6, b7, b8, b9, b10, b11, b12⟩ := id h
  have h10 := b3.1.1
  have no : lieB l p = false → Q (-1) μ := fun hf => by
    unfold lieA lieT at hQ
    rw [hf, if_neg (by decide), if_neg (by decide)] at hQ
    exact hQ μ h
  have el : lieB l p = (perB l p && decide (lPn l ≤ 6)) := rfl
  unfold w_X12_lie
  refine m_isPer h10 b3.2.2.1.1 ⟨fun q => no (by rw [el, b32_0.mp q]; rfl), fun q => m_many b3.2.2.1.1 ?_⟩
  have hp : perB l p = true := by
    cases hh : perB l p with
    | true => rfl
    | false => exact absurd (b32_0.mpr hh) q
  refine ⟨fun q2 => ?_, fun q2 => no ?_⟩
  · have q2 : lPn l ≤ 6 := (nI_leI (b := 6) (by omega) (by omega)).mp q2
    rw [hp, decide_eq_true q2] at el
    have el : lieB l p = true := el
    obtain ⟨pn, hpn, e1, e2⟩ := per_t h10 hp
    unfold lieA lieT at hQ
    rw [el, if_pos rfl, if_pos rfl, e2] at hQ
    rw [e1]
    refine loopU (S := (Int32 × Int64) × zSt) (fun f k s => w_X12_lie_26 N Q f (nI pn) s.1.1 s.1.2 (nI k) s.2) (fun k s => MR s.2 tp fa l net x ba rg ls cm li oc ∧ ((k = 0 ∧ s.1.1 = -1) ∨ ∃ j, k = j + 1 ∧ s.1.1 = nI (lieS l x pn j).1 ∧ s.1.2 = (lieS l x pn j).2)) 21 ?_ ?_ N 0 ((-1, 0), μ) (Nat.zero_le _) (by omega) ⟨h, Or.inl ⟨rfl, rfl⟩⟩
    · intro f s ⟨s0, s1⟩
      show b_X12_lie_26 N (w_X12_lie_26 N Q f) Q (nI pn) s.1.1 s.1.2 (nI 21) s.2
      unfold b_X12_lie_26
      refine br_t (nI_lt (a := 20) (b := 21) (by omega) (by omega)) (nm_e (nm_e ?_))
      rcases s1 with ⟨z, _⟩ | ⟨j, z1, z2, z3⟩
      · exact absurd z (by decide)
      · have e3 : j = 20 := by omega
        subst e3
        rw [z2]
        obtain ⟨c1, c2, c3, c4, c5, c6, c7, c8, c9, c10, c11, c12⟩ := s0
        exact hQ _ ⟨c1, c2, mG_fr (I := [29]) (J := [6]) (A := []) (B := []) (fr_J (fr_I fr_r (by decide)) (by decide)) (notin rfl) (by decide) (notin rfl) (notin rfl) c3, c4, c5, c6, c7, c8, c9, c10, Or.inr ⟨by show ¬ (1 : Int32) = 0; decide, z3.symm⟩, c12⟩
    · intro f k s hk ⟨s0, s1⟩ ih
      show b_X12_lie_26 N (w_X12_lie_26 N Q f) Q (nI pn) s.1.1 s.1.2 (nI k) s.2
      unfold b_X12_lie_26
      refine br_f (nI_nlt (a := 20) (by omega) (by omega)) (nm_e (nm_e ?_))
      obtain ⟨c1, c2, c3, c4, c5, c6, c7, c8, c9, c10, c11, c12⟩ := id s0
      obtain ⟨d1, d2, d3, d4, d5, d6, d7⟩ := c3
      have fp : fr [16, 17] [] [] [] s.2 (zI (zI s.2 16 (nI pn)) 17 (nI k)) := fr_I (fr_I fr_r (by decide)) (by decide)
      have gp : mG (zI (zI s.2 16 (nI pn)) 17 (nI k)) l (lieE x pn k) := by
        refine ⟨d1, d2, mP_fr fp (notin rfl) (by decide) d3, mR_fr fp (notin rfl) d4, fun q hq => ?_, d6, d7⟩
        show (if nI q = nI pn then s.2.1 14 + nI k else s.2.1 14) = lieE x pn k q
        unfold lieE
        rw [c5.2.1]
        by_cases c : q = pn
        · rw [if_pos c, if_pos (by rw [c])]
        · rw [if_neg c, if_neg (fun z => c ((nI_eq (by omega) (by omega)).mp z))]
      refine m_goes (a := 0) hN gp (lie_ok b5.1 (by omega)) (Nat.two_pow_pos _) (fun υ f1 g1 hW => nm_e ?_)
      obtain ⟨w1, w2, w3, w4, w5, w6, w7⟩ := hW
      generalize hω : zI υ 16 (-1) = ω
      have fω : fr [16] [] [] [] υ ω := by rw [← hω]; exact fr_I fr_r (by decide)
      have o16 : ω.1 16 = -1 := by rw [← hω]; rfl
      clear hω
      have fs : fr [15, 16, 17, 18, 19, 24] [1, 4] [12, 13] [2, 3, 4, 5] s.2 ω := fr_t (fr_t (fr_w fp (subl rfl) (subl rfl) (subl rfl) (subl rfl)) (fr_w f1 (subl rfl) (subl rfl) (subl rfl) (subl rfl))) (fr_w fω (subl rfl) (subl rfl) (subl rfl) (subl rfl))
      have o14 : ω.1 14 = x := (fs.1 14 (by decide)).trans c5.2.1
      have gω : mG ω l (fun _ => x) := by
        obtain ⟨p1, p2, p3, p4, p5, p6, p7⟩ := g1
        refine ⟨p1, p2, mP_fr fω (notin rfl) (by decide) p3, mR_fr fω (notin rfl) p4, mE_ex o14 o16, ?_, ?_⟩
        · rw [fω.2.1 1 (by decide)]
          rcases p6 with z | ⟨nn, z1, z2, z3⟩
          · exact Or.inl z
          · exact Or.inr ⟨nn, z1, z2, mLk_fr fω (by decide) (notin rfl) z3⟩
        · intro h5
          rw [fω.1 19 (by decide)]
          rcases p7 h5 with z | ⟨z1, z2⟩
          · exact Or.inl z
          · exact Or.inr ⟨z1, by unfold mTb; rw [fω.2.2.2 3 (by decide)]; exact z2⟩
      have hXω : MR ω tp fa l net x ba rg ls cm li oc := by
        refine ⟨?_, ?_, gω, ?_, ⟨b5.1, o14, o16⟩, ?_, ?_, ?_, ?_, ?_, ?_, ?_⟩
        · unfold mTp; rw [fs.1 0 (by decide), fs.2.2.1 0 (by decide)]; exact c1
        · rw [fs.1 6 (by decide), fs.1 7 (by decide)]; exact c2
        · unfold mNm; rw [fs.2.2.2 0 (by decide)]; exact c4
        · rw [fs.2.1 0 (by decide)]; exact c6
        · unfold mBa; rw [fs.1 22 (by decide), fs.1 23 (by decide), fs.2.1 3 (by decide)]; exact c7
        · unfold mRg; rw [fs.1 25 (by decide), fs.1 26 (by decide), fs.2.1 5 (by decide)]; exact c8
        · rw [fs.1 27 (by decide), fs.2.2.2 6 (by decide)]; exact c9
        · rw [fs.1 28 (by decide), fs.2.2.2 7 (by decide), fs.2.2.1 16 (by decide)]; exact c10
        · unfold mLi; rw [fs.1 29 (by decide), fs.2.1 6 (by decide)]; exact c11
        · unfold mOc; rw [fs.1 30 (by decide), fs.2.2.1 17 (by decide)]; exact c12
      have fin : ∀ (v : Int64) (ψ : zSt), v = lieW l x pn k → MR ψ tp fa l net x ba rg ls cm li oc → b_X12_lie_83 N (w_X12_lie_26 N Q f) Q (nI pn) s.1.1 s.1.2 (nI k) v ψ := by
        intro v ψ hv hψ
        unfold b_X12_lie_83
        rw [hv, nI_1]
        rcases s1 with ⟨y1, y2⟩ | ⟨j, y1, y2, y3⟩
        · subst y1
          exact br_t y2 (nm_e (ih ((nI 0, lieW l x pn 0), ψ) ⟨hψ, Or.inr ⟨0, rfl, rfl, rfl⟩⟩))
        · have hle := lieS_le (l := l) (x := x) (p := pn) j
          have hS : lieS l x pn (j + 1) = if lieW l x pn (j + 1) ≤ (lieS l x pn j).2 then lieS l x pn j else (j + 1, lieW l x pn (j + 1)) := rfl
          rw [y2, y3]
          refine br_f (m1_ne (by omega)) ?_
          rw [lg_cmp_gt]
          subst y1
          refine ⟨fun z => nm_e ?_, fun z => nm_e ?_⟩
          · rw [if_neg (fun y => Int64.not_le.mpr z y)] at hS
            exact ih ((nI (j + 1), lieW l x pn (j + 1)), ψ) ⟨hψ, Or.inr ⟨j + 1, rfl, by rw [hS], by rw [hS]⟩⟩
          · rw [if_pos (Int64.not_lt.mp z)] at hS
            exact ih ((nI (lieS l x pn j).1, (lieS l x pn j).2), ψ) ⟨hψ, Or.inr ⟨j + 1, rfl, by rw [hS], by rw [hS]⟩⟩
      have o24 : ω.1 24 = (if (wlkR l (lieE x pn k) 0).2.1 = 0 then -1 else nI ((wlkR l (lieE x pn k) 0).1 - (wlkR l (lieE x pn k) 0).2.1)) := (fω.1 24 (by decide)).trans w5
      have zero : ¬ ((wlkR l (lieE x pn k) 0).2.2 = true ∧ (wlkR l (lieE x pn k) 0).2.1 = 0) → (0 : Int64) = lieW l x pn k := fun hz => by
        unfold lieW lieN
        rw [if_neg hz, tw_0]
      unfold wlN
      cases hb : (wlkR l (lieE x pn k) 0).2.2 with
      | false =>
        rw [if_neg (by decide)]
        refine br_t rfl ?_
        unfold b_X12_lie_70
        exact fin 0 ω (zero (fun y => by rw [hb] at y; exact absurd y.1 (by decide))) hXω
      | true =>
        rw [if_pos rfl, o24]
        refine br_f (m1_ne (by omega)) ?_
        by_cases c : (wlkR l (lieE x pn k) 0).2.1 = 0
        · rw [if_pos c]
          refine br_t rfl ?_
          rw [fω.2.1 4 (by decide), w3]
          refine m_of hN gω hpn w4 (fun ψ f2 g2 => fin _ ψ ?_ (MR_s (mS_F f2) g2 hXω))
          unfold lieW lieN
          rw [if_pos ⟨hb, c⟩]
        · rw [if_neg c]
          refine br_f (m1_ne (by omega)) ?_
          unfold b_X12_lie_70
          exact fin 0 ω (zero (fun y => c y.2)) hXω
  · have q2 : ¬ lPn l ≤ 6 := fun z => q2 (nI_le (b := 6) z (by omega))
    rw [el, decide_eq_false q2, Bool.and_false]
end le
