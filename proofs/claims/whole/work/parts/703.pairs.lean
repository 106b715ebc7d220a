/-! new Pairs(): low, high, stars -/
def stU : Nat → Nat → Nat
  | 0, _ => 0
  | P + 1, q => if loN P = q ∨ hiN P = q then stU P q ||| 2 ^ P else stU P q
def pIv (P : Nat) (σ : zSt) : Prop := (∀ p, p < P → σ.2.2.1 0 p = nI (loN p) ∧ σ.2.2.1 1 p = nI (hiN p)) ∧ ∀ q, q < 10 → σ.2.2.2 0 q = lN (stU P q)
theorem orL1 (s : Nat) {P : Nat} (hP : P < 64) : lN s ||| ((1 : Int64) <<< ((nI P).toInt64 &&& 63)) = lN (s ||| 2 ^ P) := by
  rw [show (1 : Int64) = lN 1 from rfl, wb_shl 1 hP, Nat.one_mul, fb_orL]
theorem p_inner {N : Nat} {k : Int32 → Int32 → zSt → Prop} {Q : zSt → Prop} {b : Nat} (hb : 1 ≤ b) (hb10 : b < 10) (hk : ∀ σ, pIv (b * (b + 1) / 2) σ → k (nI (b * (b + 1) / 2)) (nI (b + 1)) σ) : ∀ (m f a : Nat) (σ : zSt), a ≤ b → b - a = m → m < f → pIv (b * (b - 1) / 2 + a) σ → w_X3_init_40 N k Q f (nI (b * (b - 1) / 2 + a)) (nI b) (nI a) σ := by
  intro m
  induction m with
  | zero =>
    intro f a σ hab hm hf hI
    obtain ⟨f, rfl⟩ : ∃ g, f = g + 1 := ⟨f - 1, by omega⟩
    have ha : a = b := by omega
    subst ha
    have e : a * (a - 1) / 2 + a = a * (a + 1) / 2 := by
      have h2 : a = 1 ∨ a = 2 ∨ a = 3 ∨ a = 4 ∨ a = 5 ∨ a = 6 ∨ a = 7 ∨ a = 8 ∨ a = 9 := by omega
      rcases h2 with h | h | h | h | h | h | h | h | h <;> subst h <;> rfl
    show b_X3_init_40 N k (w_X3_init_40 N k Q f) Q _ _ _ σ
    unfold b_X3_init_40
    refine ⟨fun _ v1 e1 => ?_, fun q => absurd (nI_le (Nat.le_refl _) (by omega)) q⟩
    rw [e1, nI_1, e]
    rw [e] at hI
    exact hk σ hI
  | succ m ih =>
    intro f a σ hab hm hf hI
    obtain ⟨f, rfl⟩ : ∃ g, f = g + 1 := ⟨f - 1, by omega⟩
    have ha : a < b := by omega
    obtain ⟨eh, el⟩ := prN_hl a (by omega) b hb10 ha
    have hpr : prN a b = b * (b - 1) / 2 + a := if_pos ha
    rw [hpr] at eh el
    have hP45 : b * (b - 1) / 2 + a < 45 := by rw [← hpr]; exact (prN_ok a (by omega) b hb10 (by omega)).1
    generalize hPe : b * (b - 1) / 2 + a = P at *
    show b_X3_init_40 N k (w_X3_init_40 N k Q f) Q _ _ _ σ
    unfold b_X3_init_40
    have cP : (nI P).toNatClampNeg = P := nI_clamp (by omega)
    have ca : (nI a).toNatClampNeg = a := nI_clamp (by omega)
    have cb : (nI b).toNatClampNeg = b := nI_clamp (by omega)
    have vP : vp_in (nI P) 45 := vp_in_nI hP45 (by decide)
    have va : vp_in (nI a) 10 := vp_in_nI (by omega) (by decide)
    have vb : vp_in (nI b) 10 := vp_in_nI hb10 (by decide)
    refine ⟨fun q => absurd q (nI_ge ha (by omega)), fun _ => ⟨vP, ?_⟩⟩
    intro τ2 e2
    refine ⟨vP, ?_⟩
    intro τ3 e3
    refine ⟨va, va, ?_⟩
    intro τ4 e4
    refine ⟨vb, vb, ?_⟩
    intro τ5 e5 v6 e6 v7 e7
    rw [e6, e7, nI_1, nI_1]
    have hP1 : P + 1 = b * (b - 1) / 2 + (a + 1) := by omega
    rw [hP1]
    refine ih f (a + 1) τ5 (by omega) (by omega) (by omega) ?_
    rw [← hP1]
    rw [cP] at e2 e3
    rw [ca] at e4
    rw [cb] at e5
    refine ⟨fun p hp => ?_, fun q hq => ?_⟩
    · have l0 : τ5.2.2.1 0 = upd (σ.2.2.1 0) P (nI a) := by rw [e5, e4, e3, e2]; rfl
      have l1 : τ5.2.2.1 1 = upd (σ.2.2.1 1) P (nI b) := by rw [e5, e4, e3, e2]; rfl
      rw [l0, l1]
      rcases Nat.lt_or_ge p P with g | g
      · rw [pk_un (by omega), pk_un (by omega)]
        exact hI.1 p g
      · have : p = P := by omega
        subst this
        rw [pk_us, pk_us, el, eh]
        exact ⟨rfl, rfl⟩
    · have s4 : τ4.2.2.2 0 = vp_updL (σ.2.2.2 0) a ((σ.2.2.2 0 a) ||| ((1 : Int64) <<< ((nI P).toInt64 &&& 63))) := by rw [e4, e3, e2]; rfl
      have s5 : τ5.2.2.2 0 = vp_updL (τ4.2.2.2 0) b ((τ4.2.2.2 0 b) ||| ((1 : Int64) <<< ((nI P).toInt64 &&& 63))) := by rw [e5]; rfl
      have hab2 : b ≠ a := by omega
      rw [s5]
      have hst : stU (P + 1) q = if loN P = q ∨ hiN P = q then stU P q ||| 2 ^ P else stU P q := rfl
      rw [hst, el, eh]
      by_cases hqb : q = b
      · subst hqb
        rw [pk_uLs, s4, pk_uLn hab2, hI.2 q hq, orL1 _ (by omega), if_pos (Or.inr rfl)]
      · rw [pk_uLn hqb, s4]
        by_cases hqa : q = a
        · subst hqa
          rw [pk_uLs, hI.2 q hq, orL1 _ (by omega), if_pos (Or.inl rfl)]
        · rw [pk_uLn hqa, hI.2 q hq, if_neg (by omega)]
theorem p_outer {N : Nat} {Q : zSt → Prop} (hN : 20 ≤ N) (hQ : ∀ σ, pIv 45 σ → Q σ) : ∀ (m f b : Nat) (σ : zSt), 1 ≤ b → b ≤ 10 → 10 - b = m → m < f → pIv (b * (b - 1) / 2) σ → w_X3_init_32 N Q f (nI (b * (b - 1) / 2)) (nI b) σ := by
  intro m
  induction m with
  | zero =>
    intro f b σ h1 h10 hm hf hI
    obtain ⟨f, rfl⟩ : ∃ g, f = g + 1 := ⟨f - 1, by omega⟩
    have hb : b = 10 := by omega
    subst hb
    show b_X3_init_32 N (w_X3_init_32 N Q f) Q _ _ σ
    unfold b_X3_init_32
    exact ⟨fun _ => hQ σ hI, fun q => absurd (nI_le (a := 10) (b := 10) (by omega) (by omega)) q⟩
  | succ m ih =>
    intro f b σ h1 h10 hm hf hI
    obtain ⟨f, rfl⟩ : ∃ g, f = g + 1 := ⟨f - 1, by omega⟩
    show b_X3_init_32 N (w_X3_init_32 N Q f) Q _ _ σ
    unfold b_X3_init_32
    refine ⟨fun q => absurd q (nI_ge (a := b) (b := 10) (by omega) (by omega)), fun _ => ?_⟩
    have e : (b + 1) * (b + 1 - 1) / 2 = b * (b + 1) / 2 := by rw [Nat.add_sub_cancel, Nat.mul_comm]
    refine p_inner h1 (by omega) (fun σ hσ => ?_) b N 0 σ (Nat.zero_le _) (by omega) (by omega) hI
    have := ih f (b + 1) σ (by omega) (by omega) (by omega) (by omega) (by rw [e]; exact hσ)
    rw [e] at this
    exact this
/-- new Pairs() leaves the numbers of all pairs -/
theorem p_init {N : Nat} {Q : zSt → Prop} (hN : 20 ≤ N) (hQ : ∀ σ, pIv 45 σ → Q σ) : w_X3_init_32 N Q N (0 : Int32) (1 : Int32) zS0 :=
  p_outer hN hQ 9 N 1 zS0 (by omega) (by omega) (by omega) (by omega) ⟨fun p hp => absurd hp (by simp), fun q _ => rfl⟩
