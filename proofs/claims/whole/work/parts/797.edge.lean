/-! edges -/
def edgC (l : zL) (k a b : Int32) : Bool := decide (lPn l ≤ 6) && ((decide (0 ≤ k) && decide (k < 5)) && (extB a && (extB b && (decide (a ≤ b) && decide (b - a ≤ 200)))))
def edgV (a b : Int32) (m : Bool) (i : Nat) : Int32 := if m = true then b - nI i else a + nI i
def edgF (l : zL) (net kind : Nat) (a b : Int32) (m : Bool) : Nat → Nat → Int32
  | 0, _ => -1000000000
  | r + 1, i => if (rstO l (fun _ => edgV a b m i) net kind).isSome = true then edgF l net kind a b m r (i + 1) else edgV a b m i
def edgA (l : zL) (net : Nat) (k a b : Int32) (m : Bool) : Int32 := if edgC l k a b = true then edgF l net k.toNatClampNeg a b m ((b - a).toNatClampNeg + 1) 0 else -1000000001
theorem ext_t {a : Int32} (h : extB a = true) : exI a := by
  unfold extB at h
  rw [Bool.and_eq_true, decide_eq_true_eq, decide_eq_true_eq, fa_le, fa_le, lit_m1000, lit_1000] at h
  exact h
theorem edg_sp {a b : Int32} (ha : exI a) (hb : exI b) (h : a ≤ b) (h2 : b - a ≤ 200) : ∃ s, s ≤ 200 ∧ b - a = nI s ∧ b.toInt = a.toInt + s := by
  unfold exI at ha hb
  have e1 : (b - a).toInt = b.toInt - a.toInt := fb_subI (by omega) (by omega)
  rw [fa_le] at h h2
  have e2 : (200 : Int32).toInt = 200 := by decide
  refine ⟨(b.toInt - a.toInt).toNat, by omega, ?_, by omega⟩
  rw [fa_eq, nI_toInt (by omega), e1]
  omega
theorem edg_in {a b : Int32} {m : Bool} {s i : Nat} (ha : exI a) (hb : exI b) (hs : s ≤ 200) (hab : b.toInt = a.toInt + s) (hi : i ≤ s) : exI (edgV a b m i) ∧ ¬ edgV a b m i = -1000000000 := by
  unfold exI at ha hb
  have e1 : (nI i).toInt = (i : Int) := nI_toInt (by omega)
  have key : exI (edgV a b m i) := by
    unfold edgV exI
    cases m with
    | true => rw [if_pos rfl, fb_subI (by omega) (by omega)]; omega
    | false => rw [if_neg (by decide), fb_addI (by omega) (by omega)]; omega
  refine ⟨key, fun z => ?_⟩
  rw [z] at key
  have := key.1
  have e9 : (-1000000000 : Int32).toInt = -1000000000 := by decide
  omega
section eg
variable {N : Nat} {σ τ μ ν : zSt} {tp : Nat × (Nat → Nat)} {fa : Int32 × Int32} {l : zL} {net : Nat} {x : Int32} {ba rg : Nat → Int64} {ls : Nat × (Nat → Int64)} {cm : Nat × (Nat → Int64) × (Nat → Int32)} {li : Int64} {oc : Nat → Int32}
theorem X_setx {t : Int32} (ht : exI t) (h : XR σ tp fa l net x ba rg ls cm li oc) : XR (zI σ 25 t) tp fa l net (t) ba rg ls cm li oc := by
  obtain ⟨b1, b2, b3, b4, b5, b6, b7, b8, b9, b10, b11, b12⟩ := h
  obtain ⟨c1, c2, c3, c4, c5, c6, c7, c8⟩ := b3
  have f : fr [25] [] [] [] σ (zI σ 25 t) := fr_I fr_r (by decide)
  exact ⟨b1, b2, ⟨c1, c2, xP_fr f (notin rfl) (by decide) (notin rfl) c3, xR_fr f (by decide) (notin rfl) c4, xT_fr f (notin rfl) (by decide) c5, c6, c7, xE_ex zI_1s b5.2.2⟩, b4, ⟨ht, zI_1s, b5.2.2⟩, b6, b7, b8, b9, b10, b11, b12⟩
theorem M_setx {t : Int32} (ht : exI t) (h : MR μ tp fa l net x ba rg ls cm li oc) : MR (zI μ 14 t) tp fa l net (t) ba rg ls cm li oc := by
  obtain ⟨b1, b2, b3, b4, b5, b6, b7, b8, b9, b10, b11, b12⟩ := h
  obtain ⟨c1, c2, c3, c4, c5, c6, c7⟩ := b3
  have f : fr [14] [] [] [] μ (zI μ 14 t) := fr_I fr_r (by decide)
  exact ⟨b1, b2, ⟨c1, c2, mP_fr f (notin rfl) (by decide) c3, mR_fr f (notin rfl) c4, mE_ex zI_1s b5.2.2, c6, c7⟩, b4, ⟨ht, zI_1s, b5.2.2⟩, b6, b7, b8, b9, b10, b11, b12⟩
theorem X_edge {k a b : Int32} {m : Bool} {Q : Int32 → zSt → Prop} (hN : 1100 < N) (h : XR σ tp fa l net x ba rg ls cm li oc) (hQ : ∀ τ, XR τ tp fa l net x ba rg ls cm li oc → Q (edgA l net k a b m) τ) : w_X11_edge N k a b (b32 m) σ Q := by
  obtain ⟨b1, b2, b3, b4, b5, b6, b7, b8, b9, b10, b11, b12⟩ := id h
  have h10 := b3.1.1
  have ec : edgC l k a b = (decide (lPn l ≤ 6) && ((decide (0 ≤ k) && decide (k < 5)) && (extB a && (extB b && (decide (a ≤ b) && decide (b - a ≤ 200)))))) := rfl
  have no : edgC l k a b = false → Q (-1000000001) σ := fun hf => by
    have := hQ σ h
    unfold edgA at this
    rw [hf, if_neg (by decide)] at this
    exact this
  have yes : edgC l k a b = true → w_X11_edge_73 N Q N k a b (b32 m) x (-1000000000) 0 σ := fun hc => by
    unfold edgA at hQ
    rw [hc, if_pos rfl] at hQ
    rw [hc, eq_comm] at ec
    simp only [Bool.and_eq_true, decide_eq_true_eq] at ec
    obtain ⟨c1, ⟨c2, c3⟩, c4, c5, c6, c7⟩ := ec
    obtain ⟨j, hj, e1, e2⟩ := ixc (n := 5) (by decide) c2 c3
    have ha := ext_t c4
    have hb := ext_t c5
    obtain ⟨s, hs, es, eab⟩ := edg_sp ha hb c6 c7
    rw [es, nI_clamp (by omega), e2] at hQ
    refine loopU (S := Int32 × zSt) (fun f i p => w_X11_edge_73 N Q f k a b (b32 m) x p.1 (nI i) p.2) (fun i p => (∃ y, XR p.2 tp fa l net (y) ba rg ls cm li oc) ∧ ((p.1 = -1000000000 ∧ edgF l net j a b m (s + 1 - i) i = edgF l net j a b m (s + 1) 0) ∨ (¬ p.1 = -1000000000 ∧ p.1 = edgF l net j a b m (s + 1) 0))) (s + 1) ?_ ?_ N 0 (-1000000000, σ) (Nat.zero_le _) (by omega) ⟨⟨x, h⟩, Or.inl ⟨rfl, rfl⟩⟩
    · intro f p ⟨⟨y, p0⟩, p1⟩
      show b_X11_edge_73 N (w_X11_edge_73 N Q f) Q k a b (b32 m) x p.1 (nI (s + 1)) p.2
      unfold b_X11_edge_73
      rw [es]
      refine br_t (nI_lt (Nat.lt_succ_self _) (by omega)) (nm_e ?_)
      have hq := hQ _ (X_setx b5.1 p0)
      have e3 : p.1 = edgF l net j a b m (s + 1) 0 := by
        rcases p1 with ⟨q1, q2⟩ | ⟨q1, q2⟩
        · rw [Nat.sub_self] at q2
          rw [q1]; exact q2
        · exact q2
      rw [e3]; exact hq
    · intro f i p hi ⟨⟨y, p0⟩, p1⟩ ih
      show b_X11_edge_73 N (w_X11_edge_73 N Q f) Q k a b (b32 m) x p.1 (nI i) p.2
      unfold b_X11_edge_73
      rw [es]
      refine br_f (nI_nlt (by omega) (by omega)) ?_
      rcases p1 with ⟨q1, q2⟩ | ⟨q1, q2⟩
      · obtain ⟨hin, hne⟩ := edg_in (m := m) ha hb hs eab (show i ≤ s by omega)
        rw [show s + 1 - i = (s + 1 - (i + 1)) + 1 by omega, edgF] at q2
        have go : ∀ t, t = edgV a b m i → b_X11_edge_105 N (w_X11_edge_73 N Q f) Q k a b (b32 m) x p.1 (nI i) t p.2 := by
          intro t et
          unfold b_X11_edge_105
          have hX := X_setx (t := t) (by rw [et]; exact hin) p0
          refine nm_e ?_
          rw [hX.2.2.2.2.2.1.2, e1, nI_1]
          refine x_endRest hN hX.2.2.1 hX.2.2.2.1 (ex_ok2 (by rw [et]; exact hin)) (by omega) (fun z => absurd z (by omega)) b6.1 (fun _ z => absurd z (by omega)) (fun τ f1 g1 _ => ?_)
          have hX2 := XR_s (xS_2 f1) g1 hX
          rw [← et] at q2
          cases ho : (rstO l (fun _ => t) net j).isSome with
          | true =>
            rw [ho, if_pos rfl] at q2
            refine br_f (by decide) (nm_e ?_)
            rw [← e1]
            exact ih (p.1, τ) ⟨⟨t, hX2⟩, Or.inl ⟨q1, q2⟩⟩
          | false =>
            rw [ho, if_neg (by decide)] at q2
            refine br_t rfl (nm_e ?_)
            rw [← e1]
            exact ih (t, τ) ⟨⟨t, hX2⟩, Or.inr ⟨by rw [et]; exact hne, q2⟩⟩
        refine br_t q1 ⟨fun z => go _ ?_, fun z => go _ ?_⟩
        · unfold edgV
          cases m with
          | false => rw [if_neg (by decide)]
          | true => exact absurd z (by decide)
        · unfold edgV
          cases m with
          | true => rw [if_pos rfl]
          | false => exact absurd rfl z
      · refine br_f q1 (nm_e ?_)
        have hq := hQ _ (X_setx b5.1 p0)
        rw [q2]; exact hq
  unfold w_X11_edge w_X11_isKind
  have x0 : ∀ q : Int32, w_X11_canBeExtra N q σ (fun r τ => r = b32 (extB q) ∧ τ = σ) := fun q => by
    unfold w_X11_canBeExtra extB
    refine ⟨fun z => ⟨?_, rfl⟩, fun z => ⟨fun z2 => ⟨?_, rfl⟩, fun z2 => ⟨?_, rfl⟩⟩⟩
    · rw [decide_eq_false (fun w => nlt_le.mpr w z)]; rfl
    · rw [decide_eq_false (fun w => nlt_le.mpr w z2), Bool.and_false]; rfl
    · rw [decide_eq_true (nlt_le.mp z), decide_eq_true (nlt_le.mp z2)]; rfl
  have xc : ∀ (q : Int32) (P : Int32 → zSt → Prop), P (b32 (extB q)) σ → w_X11_canBeExtra N q σ P := fun q P hP => by
    unfold w_X11_canBeExtra
    unfold extB at hP
    refine ⟨fun z => ?_, fun z => ⟨fun z2 => ?_, fun z2 => ?_⟩⟩
    · rw [decide_eq_false (fun w => nlt_le.mpr w z)] at hP; exact hP
    · rw [decide_eq_false (fun w => nlt_le.mpr w z2), Bool.and_false] at hP; exact hP
    · rw [decide_eq_true (nlt_le.mp z), decide_eq_true (nlt_le.mp z2)] at hP; exact hP
  have five : ∀ z : ¬ k < 0, ¬ 6 ≤ k → (k = 5 ∨ k < 5) := fun z z2 => by
    have z2 := nle_lt.mp z2
    rw [fa_lt] at z2 ⊢
    rw [fa_eq]
    have e5 : (5 : Int32).toInt = 5 := by decide
    have e6 : (6 : Int32).toInt = 6 := by decide
    omega
  have k5 : ¬ (5 : Int32) < 5 := by decide
  refine ⟨fun q => br_t rfl (no ?_), fun q => ⟨fun q2 => br_t rfl (no ?_), fun q2 => br_f (by decide) ⟨fun q3 => no ?_, fun q3 => ?_⟩⟩⟩
  · rw [ec, decide_eq_false (fun z => nlt_le.mpr z q)]; simp
  · have : ¬ k < 5 := fun z => by
      rw [fa_lt] at z
      rw [fa_le] at q2
      have e5 : (5 : Int32).toInt = 5 := by decide
      have e6 : (6 : Int32).toInt = 6 := by decide
      omega
    rw [ec, decide_eq_false this]; simp
  · rw [ec, q3, decide_eq_false k5]; simp
  · have hk5 := (five q q2).resolve_left q3
    rw [b3.2.2.1.1]
    refine ⟨fun q4 => no ?_, fun q4 => xc a _ ?_⟩
    · have q4 : 6 < lPn l := (nI_ltI (a := 6) (by omega) (by omega)).mp q4
      rw [ec, decide_eq_false (by omega)]; rfl
    · have q4 : lPn l ≤ 6 := by
        rcases Nat.lt_or_ge 6 (lPn l) with g | g
        · exact absurd (nI_lt (a := 6) g (by omega)) q4
        · exact g
      rw [decide_eq_true q4, decide_eq_true (nlt_le.mp q), decide_eq_true hk5] at ec
      cases c4 : extB a with
      | false => exact br_t rfl (no (by rw [ec, c4]; rfl))
      | true =>
        refine br_f (by decide) (xc b _ ?_)
        cases c5 : extB b with
        | false => exact br_t rfl (no (by rw [ec, c4, c5]; rfl))
        | true =>
          rw [c4, c5] at ec
          refine br_f (by decide) ⟨fun z => no ?_, fun z => ⟨fun z2 => ?_, fun z2 => no ?_⟩⟩
          · rw [ec, decide_eq_false (fun w => nlt_le.mpr w z)]; rfl
          · rw [b5.2.1]
            exact nm_e (yes (by rw [ec, decide_eq_true (nlt_le.mp z), decide_eq_true z2]; rfl))
          · rw [ec, decide_eq_false z2]; simp
theorem in04 (k : Int32) : (decide ((0 : Int64) ≤ k.toInt64) && decide (k.toInt64 ≤ (4 : Int64))) = (decide (0 ≤ k) && decide (k < 5)) := by
  have h0 : (0 : Int64) = (0 : Int32).toInt64 := by decide
  have h1 : (4 : Int64) = (4 : Int32).toInt64 := by decide
  rw [h0, h1]
  apply Bool.eq_iff_iff.mpr
  simp only [Bool.and_eq_true, decide_eq_true_eq]
  rw [fa_wide_le, fa_wide_le, fa_le, fa_le, fa_lt]
  have e0 : (0 : Int32).toInt = 0 := by decide
  have e4 : (4 : Int32).toInt = 4 := by decide
  have e5 : (5 : Int32).toInt = 5 := by decide
  omega
theorem M_edge {k a b : Int32} {m : Bool} {Q : Int32 → zSt → Prop} (hN : 1100 < N) (h : MR μ tp fa l net x ba rg ls cm li oc) (hQ : ∀ ν, MR ν tp fa l net x ba rg ls cm li oc → Q (edgA l net k a b m) ν) : w_X12_edge N k a b (b32 m) μ Q := by
  obtain ⟨b1, b2, b3, b4, b5, b6, b7, b8, b9, b10, b11, b12⟩ := id h
  have h10 := b3.1.1
  have ec : edgC l k a b = (decide (lPn l ≤ 6) && ((decide (0 ≤ k) && decide (k < 5)) && (extB a && (extB b && (decide (a ≤ b) && decide (b - a ≤ 200)))))) := rfl
  have no : edgC l k a b = false → Q (-1000000001) μ := fun hf => by
    have := hQ μ h
    unfold edgA at this
    rw [hf, if_neg (by decide)] at this
    exact this
  have yes : edgC l k a b = true → w_X12_edge_78 N Q N k a b (b32 m) x (-1000000000) 0 0 μ := fun hc => by
    unfold edgA at hQ
    rw [hc, if_pos rfl] at hQ
    rw [hc, eq_comm] at ec
    simp only [Bool.and_eq_true, decide_eq_true_eq] at ec
    obtain ⟨c1, ⟨c2, c3⟩, c4, c5, c6, c7⟩ := ec
    obtain ⟨j, hj, e1, e2⟩ := ixc (n := 5) (by decide) c2 c3
    have ha := ext_t c4
    have hb := ext_t c5
    obtain ⟨s, hs, es, eab⟩ := edg_sp ha hb c6 c7
    rw [es, nI_clamp (by omega), e2] at hQ
    refine loopU (S := (Int32 × Int32) × zSt) (fun f i p => w_X12_edge_78 N Q f k a b (b32 m) x p.1.1 p.1.2 (nI i) p.2) (fun i p => (∃ y, MR p.2 tp fa l net (y) ba rg ls cm li oc) ∧ ((p.1.1 = -1000000000 ∧ p.1.2 = 0 ∧ edgF l net j a b m (s + 1 - i) i = edgF l net j a b m (s + 1) 0) ∨ (¬ p.1.2 = 0 ∧ p.1.1 = edgF l net j a b m (s + 1) 0))) (s + 1) ?_ ?_ N 0 ((-1000000000, 0), μ) (Nat.zero_le _) (by omega) ⟨⟨x, h⟩, Or.inl ⟨rfl, rfl, rfl⟩⟩
    · intro f p ⟨⟨y, p0⟩, p1⟩
      show b_X12_edge_78 N (w_X12_edge_78 N Q f) Q k a b (b32 m) x p.1.1 p.1.2 (nI (s + 1)) p.2
      unfold b_X12_edge_78
      rw [es]
      refine br_t (nI_lt (Nat.lt_succ_self _) (by omega)) (nm_e ?_)
      have hq := hQ _ (M_setx b5.1 p0)
      have e3 : p.1.1 = edgF l net j a b m (s + 1) 0 := by
        rcases p1 with ⟨q1, _, q2⟩ | ⟨q1, q2⟩
        · rw [Nat.sub_self] at q2
          rw [q1]; exact q2
        · exact q2
      rw [e3]; exact hq
    · intro f i p hi ⟨⟨y, p0⟩, p1⟩ ih
      show b_X12_edge_78 N (w_X12_edge_78 N Q f) Q k a b (b32 m) x p.1.1 p.1.2 (nI i) p.2
      unfold b_X12_edge_78
      rw [es]
      refine br_f (nI_nlt (by omega) (by omega)) ?_
      rcases p1 with ⟨q1, q3, q2⟩ | ⟨q1, q2⟩
      · obtain ⟨hin, hne⟩ := edg_in (m := m) ha hb hs eab (show i ≤ s by omega)
        rw [show s + 1 - i = (s + 1 - (i + 1)) + 1 by omega, edgF] at q2
        have go : ∀ t, t = edgV a b m i → b_X12_edge_108 N (w_X12_edge_78 N Q f) Q k a b (b32 m) x p.1.1 (nI i) t p.2 := by
          intro t et
          unfold b_X12_edge_108
          have hX := M_setx (t := t) (by rw [et]; exact hin) p0
          refine nm_e ?_
          rw [hX.2.2.2.2.2.1.2, e1, nI_1]
          refine m_isRest hN hX.2.2.1 (ex_ok2 (by rw [et]; exact hin)) (by omega) (fun z => absurd z (by omega)) b6.1 (fun τ f1 g1 _ => ?_)
          have hX2 := MR_s (mS_5 f1) g1 hX
          rw [← et] at q2
          cases ho : (rstO l (fun _ => t) net j).isSome with
          | true =>
            rw [ho, if_pos rfl] at q2
            refine br_t rfl (nm_e ?_)
            rw [← e1]
            exact ih ((p.1.1, 0), τ) ⟨⟨t, hX2⟩, Or.inl ⟨q1, rfl, q2⟩⟩
          | false =>
            rw [ho, if_neg (by decide)] at q2
            refine br_f (by decide) ?_
            rw [hX2.2.2.2.2.1.2.1]
            refine nm_e (nm_e ?_)
            rw [← e1]
            exact ih ((t, 1), τ) ⟨⟨t, hX2⟩, Or.inr ⟨by show ¬ (1 : Int32) = 0; decide, q2⟩⟩
        refine br_t q3 ⟨fun z => go _ ?_, fun z => go _ ?_⟩
        · unfold edgV
          cases m with
          | false => rw [if_neg (by decide)]
          | true => exact absurd z (by decide)
        · unfold edgV
          cases m with
          | true => rw [if_pos rfl]
          | false => exact absurd rfl z
      · refine br_f q1 (nm_e ?_)
        have hq := hQ _ (M_setx b5.1 p0)
        rw [q2]; exact hq
  unfold w_X12_edge
  refine m_many b3.2.2.1.1 ⟨fun q4 => no ?_, fun q4 => m_isIn ?_⟩
  · have q4 : 6 < lPn l := (nI_ltI (a := 6) (by omega) (by omega)).mp q4
    rw [ec, decide_eq_false (by omega)]; rfl
  · have q4 : lPn l ≤ 6 := by
      rcases Nat.lt_or_ge 6 (lPn l) with g | g
      · exact absurd (nI_lt (a := 6) g (by omega)) q4
      · exact g
    rw [in04]
    rw [decide_eq_true q4] at ec
    cases ck : (decide (0 ≤ k) && decide (k < 5)) with
    | false => exact br_t rfl (no (by rw [ec, ck]; rfl))
    | true =>
      rw [ck] at ec
      refine br_f (by decide) (m_isIn ?_)
      rw [ext_is]
      cases c4 : extB a with
      | false => exact br_t rfl (no (by rw [ec, c4]; rfl))
      | true =>
        rw [c4] at ec
        have e5 : (decide (a.toInt64 ≤ b.toInt64) && decide (b.toInt64 ≤ (1000 : Int64))) = (extB b && decide (a ≤ b)) := by
          have ha := ext_t c4
          unfold exI at ha
          unfold extB
          have h1 : (1000 : Int64) = (1000 : Int32).toInt64 := by decide
          rw [h1]
          apply Bool.eq_iff_iff.mpr
          simp only [Bool.and_eq_true, decide_eq_true_eq]
          rw [fa_wide_le, fa_wide_le, fa_le, fa_le, fa_le, lit_m1000, lit_1000]
          omega
        refine br_f (by decide) (m_isIn ?_)
        rw [e5]
        cases c5 : extB b with
        | false => exact br_t rfl (no (by rw [ec, c5]; rfl))
        | true =>
          rw [c5] at ec
          rw [Bool.true_and]
          by_cases c6 : a ≤ b
          · rw [decide_eq_true c6] at ec ⊢
            refine br_f (by decide) ⟨fun z2 => ?_, fun z2 => no ?_⟩
            · rw [b5.2.1]
              exact nm_e (yes (by rw [ec, decide_eq_true z2]; rfl))
            · rw [ec, decide_eq_false z2]; rfl
          · rw [decide_eq_false c6] at ec ⊢
            exact br_t rfl (no (by rw [ec]; rfl))
end eg
