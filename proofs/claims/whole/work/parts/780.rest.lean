/-! at rest by a kind, or the first change that ends it -/
def cutO (l : zL) (e : Nat → Int32) (net : Nat) : zO := fstO (gcut l e net) (lPc l) 0
def addO (l : zL) (e : Nat → Int32) (net : Nat) : zO := fstO (gadd l e net) (lPc l) 0
def sevA (l : zL) (e : Nat → Int32) (net : Nat) : zO := fstO (gsev l e net) (lPn l) 0
def swaO (l : zL) (e : Nat → Int32) (net : Nat) : zO := fstO (gswap l e net) (lPn l) 0
def togO (l : zL) (e : Nat → Int32) (net : Nat) : zO := fstO (gtog l e net) (lPc l) 0
def setO (l : zL) (e : Nat → Int32) (net : Nat) : zO := fstO (gset l e net) (2 ^ lPc l) 0
def rstO (l : zL) (e : Nat → Int32) (net kind : Nat) : zO := match kind with
  | 0 => cutO l e net
  | 1 => (cutO l e net).or (addO l e net)
  | 2 => (cutO l e net).or ((addO l e net).or (sevA l e net))
  | 3 => (cutO l e net).or ((addO l e net).or (swaO l e net))
  | 4 => togO l e net
  | _ => setO l e net
def mF5 (σ τ : zSt) : Prop := fr [15, 18, 19, 20, 21] [1, 2] [12, 13] [2, 3, 4] σ τ
theorem mF_5 {σ τ : zSt} (h : mF3 σ τ) : mF5 σ τ := fr_w h (subl rfl) (subl rfl) (subl rfl) (subl rfl)
theorem mF_54 {σ τ : zSt} (h : mF4 σ τ) : mF5 σ τ := fr_w h (subl rfl) (subl rfl) (subl rfl) (subl rfl)
theorem xI_2 {σ τ : zSt} (h : xF2 σ τ) (hI : xI σ) : xI τ := fun s hs => by rw [h.2.2.2 7 (by decide), h.2.2.2 8 (by decide)]; exact hI s hs
theorem or_n {a b : zO} (h : a = none) : a.or b = b := by rw [h]; rfl
theorem or_s {a b : zO} {x : Nat × Nat × Nat} (h : a = some x) : a.or b = some x := by rw [h]; rfl
/-! a cut, or an add by which both gain, is a change of a set -/
theorem fst_get {g : Nat → zO} : ∀ (m k : Nat), (fstO g m k).isSome = true → ∃ j, k ≤ j ∧ j < k + m ∧ (g j).isSome = true
  | 0, k, h => absurd h (show ¬ (none : zO).isSome = true by decide)
  | m + 1, k, h => by
    cases hg : g k with
    | some x => exact ⟨k, Nat.le_refl _, by omega, by rw [hg]; rfl⟩
    | none =>
      rw [fstO, hg] at h
      obtain ⟨j, h1, h2, h3⟩ := fst_get m (k + 1) h
      exact ⟨j, by omega, by omega, h3⟩
theorem fst_put {g : Nat → zO} : ∀ (m k j : Nat), k ≤ j → j < k + m → (g j).isSome = true → (fstO g m k).isSome = true
  | 0, k, j, h1, h2, _ => by omega
  | m + 1, k, j, h1, h2, h => by
    rw [fstO]
    cases hg : g k with
    | some x => rfl
    | none =>
      have hj : k + 1 ≤ j := by
        rcases Nat.lt_or_ge k j with g1 | g1
        · exact g1
        · have ej : j = k := by omega
          rw [ej, hg] at h
          exact absurd h (by decide)
      exact fst_put m (k + 1) j hj (by omega) h
theorem frs_ne {c : Nat → Bool} : ∀ (m a s : Nat), 1 ≤ a → a ≤ s → s < a + m → c s = true → ¬ frs c m a = 0
  | 0, a, s, _, h1, h2, _ => by omega
  | m + 1, a, s, h0, h1, h2, h => by
    rw [frs]
    by_cases q : c a = true
    · rw [if_pos q]; omega
    · rw [if_neg q]
      have hs : ¬ a = s := fun z => q (by rw [z]; exact h)
      exact frs_ne m (a + 1) s (by omega) (by omega) (by omega) h
theorem gset_some {l : zL} {e : Nat → Int32} {net to s : Nat} (hm : mayv l to = true) (hne : to ≠ net) (h1 : 1 ≤ s) (h2 : s < 2 ^ lPn l) (hs : cS l e net to s = true) : (gset l e net to).isSome = true := by
  unfold gset
  rw [if_pos ⟨hm, hne⟩, if_neg (frs_ne (2 ^ lPn l - 1) 1 s (by omega) h1 (by omega) hs)]
  rfl
theorem td_sub {a b : Nat} (h : ∀ j, a.testBit j = true → b.testBit j = true) (p q : Nat) (ht : td a p q = true) : td b p q = true := by
  unfold td at ht ⊢
  rw [Bool.and_eq_true] at ht ⊢
  exact ⟨ht.1, h _ ht.2⟩
theorem may_sub {l : zL} {a b : Nat} (h : ∀ j, a.testBit j = true → b.testBit j = true) (hb : mayv l b = true) : mayv l a = true := by
  unfold mayv at hb
  rw [Bool.and_eq_true, decide_eq_true_eq] at hb
  refine mayv_t ?_ (fun p hp => ?_)
  · apply bit_ext
    intro j
    have h1 : (b &&& lBa l).testBit j = false := by rw [hb.1, Nat.zero_testBit]
    rw [Nat.testBit_and] at h1
    rw [Nat.zero_testBit, Nat.testBit_and]
    cases ha : a.testBit j with
    | false => rfl
    | true => rw [h j ha] at h1; exact h1
  · have h1 := of_decide_eq_true (List.all_eq_true.mp hb.2 p (List.mem_range.mpr hp))
    have h2 : dg (lPn l) a p ≤ dg (lPn l) b p := fb_ct_sub (fun q _ hq => td_sub h p q hq)
    omega
theorem one_sub {l : zL} {e : Nat → Int32} {net to p : Nat} (hp : p < lPn l) (hg : gnB l e net to p = true) (j : Nat) (hj : (2 ^ p).testBit j = true) : (gnM l e net to).testBit j = true := by
  rw [Nat.testBit_two_pow] at hj
  have ej : p = j := of_decide_eq_true hj
  subst ej
  rw [gnM, msk_bit, hg, decide_eq_true hp]; rfl
theorem can_cut {l : zL} {net k s : Nat} (hs : s.testBit (loN k) = true ∨ s.testBit (hiN k) = true) : canM l net (bdf net (2 ^ k)) s = true := by
  unfold canM
  rw [List.all_eq_true]
  intro j _
  have hj := bdf_bit net (2 ^ k) j
  rw [Nat.testBit_two_pow] at hj
  by_cases e : k = j
  · subst e
    have hj : (bdf net (2 ^ k)).testBit k = false := by rw [hj]; simp
    rcases hs with h | h <;> simp [hj, h]
  · have hj : (bdf net (2 ^ k)).testBit j = net.testBit j := by rw [hj]; simp [e]
    cases hb : net.testBit j <;> simp [hj, hb]
theorem can_both {l : zL} {net k s : Nat} (h1 : s.testBit (loN k) = true) (h2 : s.testBit (hiN k) = true) : canM l net (net ||| 2 ^ k) s = true := by
  unfold canM
  rw [List.all_eq_true]
  intro j _
  have hj : (net ||| 2 ^ k).testBit j = (net.testBit j || decide (k = j)) := by rw [Nat.testBit_or, Nat.testBit_two_pow]
  by_cases e : k = j
  · subst e
    simp [h1, h2]
  · have hj : (net ||| 2 ^ k).testBit j = net.testBit j := by rw [hj]; simp [e]
    cases hb : net.testBit j <;> simp [hj, hb]
theorem gcut_set {l : zL} {e : Nat → Int32} {net k : Nat} (h10 : lPn l ≤ 10) (hk : k < lPc l) (hm : mayv l net = true) (h : (gcut l e net k).isSome = true) : (gset l e net (bdf net (2 ^ k))).isSome = true := by
  have hlo := lo_pc h10 hk
  have hhi := hi_pc h10 hk
  unfold gcut at h
  by_cases hb : net.testBit k = true
  · rw [if_pos hb] at h
    have key : ∀ p, p < lPn l → p = loN k ∨ p = hiN k → gnB l e net (bdf net (2 ^ k)) p = true → (gset l e net (bdf net (2 ^ k))).isSome = true := by
      intro p hp hor hg
      refine gset_some (s := 2 ^ p) (may_sub (fun j hj => ?_) hm) (Nat.ne_of_lt (cut_lt hb)) Nat.one_le_two_pow (p2lt hp) ?_
      · rw [bdf_bit, Bool.and_eq_true] at hj; exact hj.1
      unfold cS
      rw [Bool.and_eq_true, decide_eq_true_eq, bdf_0]
      refine ⟨one_sub hp hg, can_cut ?_⟩
      rcases hor with z | z
      · exact Or.inl (by rw [← z]; exact Nat.testBit_two_pow_self)
      · exact Or.inr (by rw [← z]; exact Nat.testBit_two_pow_self)
    by_cases q : gnB l e net (bdf net (2 ^ k)) (loN k) = true
    · exact key _ hlo (Or.inl rfl) q
    · rw [if_neg q] at h
      by_cases r : gnB l e net (bdf net (2 ^ k)) (hiN k) = true
      · exact key _ hhi (Or.inr rfl) r
      · rw [if_neg r] at h
        exact absurd h (by decide)
  · rw [if_neg hb] at h
    exact absurd h (by decide)
theorem cut_set {l : zL} {e : Nat → Int32} {net : Nat} (h10 : lPn l ≤ 10) (hn : net < 2 ^ lPc l) (hm : mayv l net = true) (h : (fstO (gcut l e net) (lPc l) 0).isSome = true) : (fstO (gset l e net) (2 ^ lPc l) 0).isSome = true := by
  obtain ⟨k, _, h2, h3⟩ := fst_get _ _ h
  exact fst_put _ _ (bdf net (2 ^ k)) (Nat.zero_le _) (by rw [Nat.zero_add]; exact bdf_lt hn) (gcut_set h10 (by omega) hm h3)
/-- an add by which both gain -/
def gbth (l : zL) (e : Nat → Int32) (net k : Nat) : zO := if net.testBit k = true then none else if (gnB l e net (net ||| 2 ^ k) (loN k) && (gnB l e net (net ||| 2 ^ k) (hiN k) && mayv l (net ||| 2 ^ k))) = true then some (5, 2 ^ loN k ||| 2 ^ hiN k, net ||| 2 ^ k) else none
theorem or_self_bit {net k : Nat} : net ||| 2 ^ k = net ↔ net.testBit k = true := by
  constructor
  · intro h
    rw [← h, Nat.testBit_or, Nat.testBit_two_pow_self, Bool.or_true]
  · intro h
    apply bit_ext
    intro j
    rw [Nat.testBit_or, Nat.testBit_two_pow]
    by_cases e : k = j
    · subst e; simp [h]
    · simp [e]
theorem gbth_set {l : zL} {e : Nat → Int32} {net k : Nat} (h10 : lPn l ≤ 10) (hk : k < lPc l) (h : (gbth l e net k).isSome = true) : (gset l e net (net ||| 2 ^ k)).isSome = true := by
  have hlo := lo_pc h10 hk
  have hhi := hi_pc h10 hk
  unfold gbth at h
  by_cases hb : net.testBit k = true
  · rw [if_pos hb] at h
    exact absurd h (by decide)
  rw [if_neg hb] at h
  by_cases c : (gnB l e net (net ||| 2 ^ k) (loN k) && (gnB l e net (net ||| 2 ^ k) (hiN k) && mayv l (net ||| 2 ^ k))) = true
  · rw [Bool.and_eq_true, Bool.and_eq_true] at c
    refine gset_some (s := 2 ^ loN k ||| 2 ^ hiN k) c.2.2 (fun z => hb (or_self_bit.mp z)) (Nat.le_trans (Nat.one_le_two_pow (n := loN k)) Nat.left_le_or) (Nat.or_lt_two_pow (p2lt hlo) (p2lt hhi)) ?_
    unfold cS
    rw [Bool.and_eq_true, decide_eq_true_eq, bdf_0]
    refine ⟨fun j hj => ?_, can_both ?_ ?_⟩
    · rw [Nat.testBit_or, Bool.or_eq_true] at hj
      rcases hj with z | z
      · exact one_sub hlo c.1 j z
      · exact one_sub hhi c.2.1 j z
    · rw [Nat.testBit_or, Nat.testBit_two_pow_self, Bool.true_or]
    · rw [Nat.testBit_or, Nat.testBit_two_pow_self, Bool.or_true]
  · rw [if_neg c] at h
    exact absurd h (by decide)
theorem both_set {l : zL} {e : Nat → Int32} {net : Nat} (h10 : lPn l ≤ 10) (hn : net < 2 ^ lPc l) (h : (fstO (gbth l e net) (lPc l) 0).isSome = true) : (fstO (gset l e net) (2 ^ lPc l) 0).isSome = true := by
  obtain ⟨k, _, h2, h3⟩ := fst_get _ _ h
  have hk : k < lPc l := by omega
  exact fst_put _ _ (net ||| 2 ^ k) (Nat.zero_le _) (by rw [Nat.zero_add]; exact Nat.or_lt_two_pow hn (p2lt hk)) (gbth_set h10 hk h3)
theorem b32_n1 {b : Bool} (h : ¬ b32 b = 0) : b = true := by
  cases b with
  | true => rfl
  | false => exact absurd rfl h
section rr
variable {N : Nat} {σ μ : zSt} {l : zL} {e : Nat → Int32} {Q : Int32 → zSt → Prop}
theorem x_firstBoth {net : Nat} (hN : 801 < N) (hG : xG σ l e) (hn : net < 2 ^ lPc l) (hQ : ∀ τ, xF2 σ τ → xG τ l e → Q (b32 (fstO (gbth l e net) (lPc l) 0).isSome) τ) : w_X0_firstBothGain N (lN net) σ Q := by
  have h10 := hG.1.1
  have hpc := pc_le h10
  have h45 := net45 h10 hn
  refine loopU (S := zSt) (fun f k τ => w_X0_firstBothGain_2 N Q f (lN net) (nI k) τ) (fun k τ => xF2 σ τ ∧ xG τ l e ∧ fstO (gbth l e net) (lPc l - k) k = fstO (gbth l e net) (lPc l) 0) (lPc l) ?_ ?_ N 0 σ (Nat.zero_le _) (by omega) ⟨fr_r, hG, rfl⟩
  · intro f τ ⟨h0, h1, h2⟩
    show b_X0_firstBothGain_2 N (w_X0_firstBothGain_2 N Q f) Q (lN net) (nI (lPc l)) τ
    unfold b_X0_firstBothGain_2
    rw [h1.2.2.1.2.1]
    have hz := fst_e h2
    rw [hz] at hQ
    exact br_t (nI_le (Nat.le_refl _) (by omega)) (hQ τ h0 h1)
  · intro f k τ hk ⟨h0, h1, h2⟩ ih
    show b_X0_firstBothGain_2 N (w_X0_firstBothGain_2 N Q f) Q (lN net) (nI k) τ
    unfold b_X0_firstBothGain_2
    have hlo := lo_pc h10 hk
    have hhi := hi_pc h10 hk
    have hk45 : k < 45 := by omega
    have hv : vp_in (nI k) 45 := vp_in_nI hk45 (by decide)
    have htb : net ||| 2 ^ k < 2 ^ lPc l := Nat.or_lt_two_pow hn (p2lt hk)
    have ht45 := net45 h10 htb
    rw [h1.2.2.1.2.1, oneJ (by omega), fb_orL, nI_clamp (n := k) (by omega), nI_1, (h1.2.2.2.2.1.1 k hk45).1]
    refine br_f (nI_ge hk (by omega)) (nm_e ?_)
    rw [lg_cmp_eq, fb_lN_inj (by omega) (by omega), or_self_bit]
    refine ⟨fun hb => nm_e (ih τ ⟨h0, h1, fst_n hk (by unfold gbth; rw [if_pos hb]) h2⟩), fun hb => ⟨hv, ?_⟩⟩
    have hg : gbth l e net k = if (gnB l e net (net ||| 2 ^ k) (loN k) && (gnB l e net (net ||| 2 ^ k) (hiN k) && mayv l (net ||| 2 ^ k))) = true then some (5, 2 ^ loN k ||| 2 ^ hiN k, net ||| 2 ^ k) else none := by unfold gbth; rw [if_neg hb]
    generalize net ||| 2 ^ k = to at *
    refine x_gains hN h1 hlo hn htb (fun υ f1 g1 => ⟨fun q => nm_e ?_, fun q => ⟨hv, ?_⟩⟩)
    · exact ih υ ⟨fr_t h0 (xF_2 f1), g1, fst_n hk (by rw [hg, b32_0.mp q]; rfl) h2⟩
    rw [(g1.2.2.2.2.1.1 k hk45).2]
    have q := b32_n1 q
    refine x_gains hN g1 hhi hn htb (fun ω f2 g2 => ?_)
    have ff := fr_t (fr_t h0 (xF_2 f1)) (xF_2 f2)
    refine ⟨fun r => nm_e ?_, fun r => x_may hN g2 htb ⟨fun s => nm_e ?_, fun s => ?_⟩⟩
    · exact ih ω ⟨ff, g2, fst_n hk (by rw [hg, q, b32_0.mp r]; rfl) h2⟩
    · exact ih ω ⟨ff, g2, fst_n hk (by rw [hg, q, b32_n1 r, b32_0.mp s]; rfl) h2⟩
    · have hs := (fst_s hk (show gbth l e net k = some (5, 2 ^ loN k ||| 2 ^ hiN k, to) by rw [hg, q, b32_n1 r, b32_n1 s]; rfl)).symm.trans h2
      rw [← hs] at hQ
      exact x_bothOf g2.2.2.2.2.1 hk45 (x_found (s := 5) ff g2 (fun τ a b _ => hQ τ a b))
theorem x_endRest {net kind : Nat} {a : Int32} (hN : 1100 < N) (hG : xG σ l e) (hI : xI σ) (he : eOk e) (hk : kind < 6) (h5 : kind = 5 → lPn l ≤ 5) (hn : net < 2 ^ lPc l) (hm : a = 0 → kind = 5 → mayv l net = true) (hQ0 : ∀ τ, xF2 σ τ → xG τ l e → (¬ a = 0 → xO τ (rstO l e net kind)) → Q (b32 (rstO l e net kind).isSome) τ) : w_X0_endRest N (lN net) (nI kind) a σ Q := by
  unfold w_X0_endRest
  have hQ : ∀ τ, xF2 σ τ → xG τ l e → xO τ (rstO l e net kind) → Q (b32 (rstO l e net kind).isSome) τ := fun τ f g o => hQ0 τ f g (fun _ => o)
  have hN2 : 801 < N := by omega
  have hks : kind = 0 ∨ kind = 1 ∨ kind = 2 ∨ kind = 3 ∨ kind = 4 ∨ kind = 5 := by omega
  rcases hks with q | q | q | q | q | q <;> subst q
  · exact br_t rfl (x_firstCut hN2 hG hn (fun τ h0 h1 h2 => ⟨b32_zb _, hQ τ h0 h1 h2⟩))
  · refine br_f (by decide) (br_t rfl (x_firstCut hN2 hG hn (fun τ h0 h1 h2 => ?_)))
    have hr : rstO l e net 1 = (fstO (gcut l e net) (lPc l) 0).or (addO l e net) := rfl
    cases hc : fstO (gcut l e net) (lPc l) 0 with
    | some x =>
      rw [hc] at h2
      rw [or_s hc] at hr
      rw [hr] at hQ
      exact br_f (show ¬ (1 : Int32) = 0 by decide) (hQ τ h0 h1 h2)
    | none =>
      rw [or_n hc] at hr
      rw [hr] at hQ
      refine br_t rfl (x_firstAdd hN2 h1 he hn (fun υ u0 u1 u2 => ?_))
      have hq := hQ υ (fr_t h0 u0) u1 u2
      unfold addO at hq
      cases ha : fstO (gadd l e net) (lPc l) 0 with
      | some x => rw [ha] at hq; exact br_f (show ¬ (1 : Int32) = 0 by decide) hq
      | none => rw [ha] at hq; exact br_t rfl hq
  · refine br_f (by decide) (br_f (by decide) (br_t rfl (x_firstCut hN2 hG hn (fun τ h0 h1 h2 => ?_))))
    have hr : rstO l e net 2 = (fstO (gcut l e net) (lPc l) 0).or ((fstO (gadd l e net) (lPc l) 0).or (sevA l e net)) := rfl
    cases hc : fstO (gcut l e net) (lPc l) 0 with
    | some x =>
      rw [hc] at h2
      rw [or_s hc] at hr
      rw [hr] at hQ
      exact br_f (show ¬ (1 : Int32) = 0 by decide) (hQ τ h0 h1 h2)
    | none =>
      rw [or_n hc] at hr
      refine br_t rfl (x_firstAdd hN2 h1 he hn (fun υ u0 u1 u2 => ?_))
      cases ha : fstO (gadd l e net) (lPc l) 0 with
      | some x =>
        rw [ha] at u2
        rw [or_s ha] at hr
        rw [hr] at hQ
        exact br_f (show ¬ (1 : Int32) = 0 by decide) (hQ υ (fr_t h0 u0) u1 u2)
      | none =>
        rw [or_n ha] at hr
        rw [hr] at hQ
        refine br_t rfl (x_firstSev hN2 u1 hn (fun ω w0 w1 w2 => ?_))
        have hq := hQ ω (fr_t (fr_t h0 u0) w0) w1 w2
        unfold sevA at hq
        cases hs : fstO (gsev l e net) (lPn l) 0 with
        | some x => rw [hs] at hq; exact br_f (show ¬ (1 : Int32) = 0 by decide) hq
        | none => rw [hs] at hq; exact br_t rfl hq
  · refine br_f (by decide) (br_f (by decide) (br_f (by decide) (br_t rfl (x_firstCut hN2 hG hn (fun τ h0 h1 h2 => ?_)))))
    have hr : rstO l e net 3 = (fstO (gcut l e net) (lPc l) 0).or ((fstO (gadd l e net) (lPc l) 0).or (swaO l e net)) := rfl
    cases hc : fstO (gcut l e net) (lPc l) 0 with
    | some x =>
      rw [hc] at h2
      rw [or_s hc] at hr
      rw [hr] at hQ
      exact br_f (show ¬ (1 : Int32) = 0 by decide) (hQ τ h0 h1 h2)
    | none =>
      rw [or_n hc] at hr
      refine br_t rfl (x_firstAdd hN2 h1 he hn (fun υ u0 u1 u2 => ?_))
      cases ha : fstO (gadd l e net) (lPc l) 0 with
      | some x =>
        rw [ha] at u2
        rw [or_s ha] at hr
        rw [hr] at hQ
        exact br_f (show ¬ (1 : Int32) = 0 by decide) (hQ υ (fr_t h0 u0) u1 u2)
      | none =>
        rw [or_n ha] at hr
        rw [hr] at hQ
        refine br_t rfl (x_firstSwap hN2 u1 hn (fun ω w0 w1 w2 => ?_))
        have hq := hQ ω (fr_t (fr_t h0 u0) w0) w1 w2
        unfold swaO at hq
        cases hs : fstO (gswap l e net) (lPn l) 0 with
        | some x => rw [hs] at hq; exact br_f (show ¬ (1 : Int32) = 0 by decide) hq
        | none => rw [hs] at hq; exact br_t rfl hq
  · exact br_f (by decide) (br_f (by decide) (br_f (by decide) (br_f (by decide) (br_t rfl (x_firstTog hN2 hG hn (fun τ h0 h1 h2 => ⟨b32_zb _, hQ τ h0 h1 h2⟩))))))
  · have h5 := h5 rfl
    have hr : rstO l e net 5 = fstO (gset l e net) (2 ^ lPc l) 0 := rfl
    rw [hr] at hQ hQ0
    have hset : ∀ ψ, xF2 σ ψ → xG ψ l e → b_X0_endRest_155 N Q (lN net) ψ := by
      intro ψ f g
      unfold b_X0_endRest_155
      refine x_firstSet hN g (xI_2 f hI) h5 hn (fun τ h0 h1 h2 => ?_)
      have hq := hQ τ (fr_t f h0) h1 h2
      cases hc : fstO (gset l e net) (2 ^ lPc l) 0 with
      | some x => rw [hc] at hq; exact br_f (show ¬ (1 : Int32) = 0 by decide) hq
      | none => rw [hc] at hq; exact br_t rfl hq
    refine br_f (by decide) (br_f (by decide) (br_f (by decide) (br_f (by decide) (br_f (by decide) (br_t rfl ⟨fun za => ?_, fun _ => hset σ fr_r hG⟩)))))
    have one : ∀ τ, xF2 σ τ → xG τ l e → (fstO (gset l e net) (2 ^ lPc l) 0).isSome = true → Q 1 τ := fun τ f g h => by
      have hq := hQ0 τ f g (fun z => absurd za z)
      rw [h] at hq
      exact hq
    refine x_firstCut hN2 hG hn (fun τ h0 h1 _ => ⟨fun _ => ?_, fun r => one τ h0 h1 (cut_set hG.1.1 hn (hm za rfl) (b32_n1 r))⟩)
    exact x_firstBoth hN2 h1 hn (fun υ u0 u1 => ⟨fun _ => hset υ (fr_t h0 u0) u1, fun r => one υ (fr_t h0 u0) u1 (both_set hG.1.1 hn (b32_n1 r))⟩)
theorem m_isRest {net kind : Nat} (hN : 1100 < N) (hG : mG μ l e) (he : eOk e) (hk : kind < 6) (h5 : kind = 5 → lPn l ≤ 5) (hn : net < 2 ^ lPc l) (hQ : ∀ τ, mF5 μ τ → mG τ l e → mO τ (rstO l e net kind) → Q (b32 (!(rstO l e net kind).isSome)) τ) : w_X12_isRest N (lN net) (nI kind) μ Q := by
  unfold w_X12_isRest
  refine m_begins hN hG hn (fun τ0 f0 g0 w0 => ?_)
  have f5 := mF_54 f0
  have hks : kind = 0 ∨ kind = 1 ∨ kind = 2 ∨ kind = 3 ∨ kind = 4 ∨ kind = 5 := by omega
  rcases hks with q | q | q | q | q | q <;> subst q
  · refine br_f (by decide) (br_f (by decide) (m_findsCut hN g0 w0 hn (fun τ h0 h1 h2 => ?_)))
    have hq := hQ τ (fr_t f5 (mF_5 h0)) h1 h2
    have hr : rstO l e net 0 = fstO (gcut l e net) (lPc l) 0 := rfl
    rw [hr] at hq
    cases hc : fstO (gcut l e net) (lPc l) 0 with
    | some x => rw [hc] at hq; exact br_f (show ¬ (1 : Int32) = 0 by decide) hq
    | none =>
      rw [hc] at hq
      refine br_t rfl (br_t (by decide) ?_)
      unfold b_X12_isRest_65
      exact br_f (by decide) (br_f (by decide) hq)
  · refine br_f (by decide) (br_f (by decide) (m_findsCut hN g0 w0 hn (fun τ h0 h1 h2 => ?_)))
    have hr : rstO l e net 1 = (fstO (gcut l e net) (lPc l) 0).or (fstO (gadd l e net) (lPc l) 0) := rfl
    cases hc : fstO (gcut l e net) (lPc l) 0 with
    | some x =>
      rw [hc] at h2
      rw [or_s hc] at hr
      rw [hr] at hQ
      exact br_f (show ¬ (1 : Int32) = 0 by decide) (hQ τ (fr_t f5 (mF_5 h0)) h1 h2)
    | none =>
      rw [or_n hc] at hr
      rw [hr] at hQ
      refine br_t rfl (br_f (by decide) (m_findsAdd hN h1 he (now_3 h0 w0) hn (fun υ u0 u1 u2 => ?_)))
      have hq := hQ υ (fr_t f5 (mF_5 (fr_t h0 u0))) u1 u2
      cases ha : fstO (gadd l e net) (lPc l) 0 with
      | some x => rw [ha] at hq; exact br_f (show ¬ (1 : Int32) = 0 by decide) hq
      | none =>
        rw [ha] at hq
        refine br_t rfl ?_
        unfold b_X12_isRest_65
        exact br_f (by decide) (br_f (by decide) hq)
  · refine br_f (by decide) (br_f (by decide) (m_findsCut hN g0 w0 hn (fun τ h0 h1 h2 => ?_)))
    have hr : rstO l e net 2 = (fstO (gcut l e net) (lPc l) 0).or ((fstO (gadd l e net) (lPc l) 0).or (fstO (gsev l e net) (lPn l) 0)) := rfl
    cases hc : fstO (gcut l e net) (lPc l) 0 with
    | some x =>
      rw [hc] at h2
      rw [or_s hc] at hr
      rw [hr] at hQ
      exact br_f (show ¬ (1 : Int32) = 0 by decide) (hQ τ (fr_t f5 (mF_5 h0)) h1 h2)
    | none =>
      rw [or_n hc] at hr
      refine br_t rfl (br_f (by decide) (m_findsAdd hN h1 he (now_3 h0 w0) hn (fun υ u0 u1 u2 => ?_)))
      have h01 := fr_t h0 u0
      cases ha : fstO (gadd l e net) (lPc l) 0 with
      | some x =>
        rw [ha] at u2
        rw [or_s ha] at hr
        rw [hr] at hQ
        exact br_f (show ¬ (1 : Int32) = 0 by decide) (hQ υ (fr_t f5 (mF_5 h01)) u1 u2)
      | none =>
        rw [or_n ha] at hr
        rw [hr] at hQ
        refine br_t rfl ?_
        unfold b_X12_isRest_65
        refine br_t rfl (m_findsSev hN u1 (now_3 h01 w0) hn (fun ω p0 p1 p2 => ?_))
        have hq := hQ ω (fr_t f5 (mF_5 (fr_t h01 p0))) p1 p2
        cases hs : fstO (gsev l e net) (lPn l) 0 with
        | some x => rw [hs] at hq; exact br_f (show ¬ (1 : Int32) = 0 by decide) hq
        | none => rw [hs] at hq; exact br_t rfl hq
  · refine br_f (by decide) (br_f (by decide) (m_findsCut hN g0 w0 hn (fun τ h0 h1 h2 => ?_)))
    have hr : rstO l e net 3 = (fstO (gcut l e net) (lPc l) 0).or ((fstO (gadd l e net) (lPc l) 0).or (fstO (gswap l e net) (lPn l) 0)) := rfl
    cases hc : fstO (gcut l e net) (lPc l) 0 with
    | some x =>
      rw [hc] at h2
      rw [or_s hc] at hr
      rw [hr] at hQ
      exact br_f (show ¬ (1 : Int32) = 0 by decide) (hQ τ (fr_t f5 (mF_5 h0)) h1 h2)
    | none =>
      rw [or_n hc] at hr
      refine br_t rfl (br_f (by decide) (m_findsAdd hN h1 he (now_3 h0 w0) hn (fun υ u0 u1 u2 => ?_)))
      have h01 := fr_t h0 u0
      cases ha : fstO (gadd l e net) (lPc l) 0 with
      | some x =>
        rw [ha] at u2
        rw [or_s ha] at hr
        rw [hr] at hQ
        exact br_f (show ¬ (1 : Int32) = 0 by decide) (hQ υ (fr_t f5 (mF_5 h01)) u1 u2)
      | none =>
        rw [or_n ha] at hr
        rw [hr] at hQ
        refine br_t rfl ?_
        unfold b_X12_isRest_65
        refine br_f (by decide) (br_t rfl (m_findsSwap hN u1 (now_3 h01 w0) hn (fun ω p0 p1 p2 => ?_)))
        have hq := hQ ω (fr_t f5 (mF_5 (fr_t h01 p0))) p1 p2
        cases hs : fstO (gswap l e net) (lPn l) 0 with
        | some x => rw [hs] at hq; exact br_f (show ¬ (1 : Int32) = 0 by decide) hq
        | none => rw [hs] at hq; exact br_t rfl hq
  · refine br_t rfl (m_findsTog hN g0 w0 hn (fun τ h0 h1 h2 => ?_))
    have hq := hQ τ (fr_t f5 (mF_5 h0)) h1 h2
    have hr : rstO l e net 4 = fstO (gtog l e net) (lPc l) 0 := rfl
    rw [hr] at hq
    cases hc : fstO (gtog l e net) (lPc l) 0 with
    | some x => rw [hc] at hq; exact br_f (show ¬ (1 : Int32) = 0 by decide) hq
    | none => rw [hc] at hq; exact br_t rfl hq
  · refine br_f (by decide) (br_t rfl (m_findsSet hN g0 w0 (h5 rfl) hn (fun τ h0 h1 h2 => ?_)))
    have hq := hQ τ (fr_t f5 (mF_5 h0)) h1 h2
    have hr : rstO l e net 5 = fstO (gset l e net) (2 ^ lPc l) 0 := rfl
    rw [hr] at hq
    cases hc : fstO (gset l e net) (2 ^ lPc l) 0 with
    | some x => rw [hc] at hq; exact br_f (show ¬ (1 : Int32) = 0 by decide) hq
    | none => rw [hc] at hq; exact br_t rfl hq
end rr
