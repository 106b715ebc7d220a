/-! persons come in an order: the net that comes of it -/
def oG (o : List Nat) (k : Nat) : Nat := o.getD k 0
def okO (n : Nat) (o : List Nat) : Prop := o.length = n ∧ (∀ k, k < n → oG o k < n) ∧ ∀ j k, j < k → k < n → oG o j ≠ oG o k
def nqN (l : zL) (x : Int32) (p m s0 : Nat) : Nat → Nat
  | 0 => s0
  | q + 1 => if m.testBit q = true ∧ addB l (fun _ => x) (nqN l x p m s0 q) (prN p q) = true then nqN l x p m s0 q ||| 2 ^ prN p q else nqN l x p m s0 q
def noN (l : zL) (x : Int32) (n : Nat) (o : List Nat) : Nat → Nat × Nat
  | 0 => (0, 0)
  | k + 1 => (nqN l x (oG o k) (noN l x n o k).2 (noN l x n o k).1 n, (noN l x n o k).2 ||| 2 ^ oG o k)
theorem orI1 {m k : Nat} (hk : k < 31) : nI m ||| ((1 : Int32) <<< (nI k &&& 31)) = nI (m ||| 2 ^ k) := by
  have := oneI hk
  rw [show (1 : Int32) <<< (nI k &&& 31) = nI (2 ^ k) from this, fa_or]
theorem bitI1 {m k : Nat} (hm : m < 2 ^ 31) (hk : k < 31) : ((nI m >>> (nI k &&& 31)) &&& (1 : Int32)) = 0 ↔ m.testBit k = false := bitI hm hk
theorem prN_inj (a : Nat) (ha : a < 10) (b : Nat) (hb : b < 10) (c : Nat) (hc : c < 10) (d : Nat) (hd : d < 10) (hab : a ≠ b) (hcd : c ≠ d) (h : prN a b = prN c d) : (a = c ∧ b = d) ∨ (a = d ∧ b = c) := by
  have hP := (prN_ok c hc d hd hcd).1
  have h1 := (prN_is a ha b hb (prN c d) hP hab).mp h
  have h2 := (prN_is c hc d hd (prN c d) hP hcd).mp rfl
  omega
/-- the net's pairs lie in the mask, or are p's with one before q -/
def nqI (m p q s : Nat) : Prop := ∀ a b, a < 10 → b < 10 → a ≠ b → s.testBit (prN a b) = true → (m.testBit a = true ∧ m.testBit b = true) ∨ (a = p ∧ b < q ∧ m.testBit b = true) ∨ (b = p ∧ a < q ∧ m.testBit a = true)
theorem nq_lt {l : zL} {x : Int32} {p m s0 n : Nat} (hn : n = lPn l) (hp : p < n) (hm : m.testBit p = false) (h0 : s0 < 2 ^ lPc l) : ∀ q, q ≤ n → nqN l x p m s0 q < 2 ^ lPc l
  | 0, _ => h0
  | q + 1, hq => by
    have h1 := nq_lt (x := x) hn hp hm h0 q (by omega)
    rw [nqN]
    split
    · rename_i z
      have hne : p ≠ q := fun e => by rw [e, z.1] at hm; exact absurd hm (by decide)
      exact Nat.or_lt_two_pow h1 (p2lt (by rw [hn] at hp hq; exact prN_pc hp (by omega) hne))
    · exact h1
theorem nq_inv {l : zL} {x : Int32} {p m s0 : Nat} (hp : p < 10) (hm : m.testBit p = false) (h0 : nqI m p 0 s0) : ∀ q, q ≤ 10 → nqI m p q (nqN l x p m s0 q)
  | 0, _ => h0
  | q + 1, hq => by
    have h1 := nq_inv (l := l) (x := x) hp hm h0 q (by omega)
    have up : ∀ s, nqI m p q s → nqI m p (q + 1) s := fun s hs a b ha hb hab hbit => by
      rcases hs a b ha hb hab hbit with z | z | z
      · exact Or.inl z
      · exact Or.inr (Or.inl ⟨z.1, by omega, z.2.2⟩)
      · exact Or.inr (Or.inr ⟨z.1, by omega, z.2.2⟩)
    rw [nqN]
    split
    · rename_i z
      have hne : p ≠ q := fun e => by rw [e, z.1] at hm; exact absurd hm (by decide)
      intro a b ha hb hab hbit
      rw [Nat.testBit_or, Bool.or_eq_true] at hbit
      rcases hbit with y | y
      · exact up _ h1 a b ha hb hab y
      · rw [Nat.testBit_two_pow, decide_eq_true_eq] at y
        rcases prN_inj a ha b hb p hp q (by omega) hab hne y.symm with w | w
        · exact Or.inr (Or.inl ⟨w.1, by omega, by rw [w.2]; exact z.1⟩)
        · exact Or.inr (Or.inr ⟨w.2, by omega, by rw [w.1]; exact z.1⟩)
    · exact up _ h1
theorem nq_no {m p q s : Nat} (hp : p < 10) (hq : q < 10) (hm : m.testBit p = false) (hqm : m.testBit q = true) (h : nqI m p q s) : s.testBit (prN p q) = false := by
  have hne : p ≠ q := fun e => by rw [e, hqm] at hm; exact absurd hm (by decide)
  cases hb : s.testBit (prN p q) with
  | false => rfl
  | true =>
    exfalso
    rcases h p q hp hq hne hb with z | z | z
    · rw [hm] at z; exact absurd z.1 (by decide)
    · omega
    · exact hne z.1.symm
theorem no_ok {l : zL} {x : Int32} {n : Nat} {o : List Nat} (hn : n = lPn l) (h10 : n ≤ 10) (ho : okO n o) : ∀ k, k ≤ n → (noN l x n o k).1 < 2 ^ lPc l ∧ (noN l x n o k).2 < 2 ^ 10 ∧ (∀ a, (noN l x n o k).2.testBit a = true ↔ ∃ j, j < k ∧ oG o j = a) ∧ ∀ p, p < 10 → nqI (noN l x n o k).2 p 0 (noN l x n o k).1
  | 0, _ => ⟨Nat.two_pow_pos _, show 0 < 2 ^ 10 by decide, fun a => by
      constructor
      · intro h
        rw [show (noN l x n o 0).2 = 0 from rfl, Nat.zero_testBit] at h
        exact absurd h (by decide)
      · rintro ⟨j, hj, _⟩
        exact absurd hj (Nat.not_lt_zero _), fun p _ a b _ _ _ hb => by
      rw [show (noN l x n o 0).1 = 0 from rfl, Nat.zero_testBit] at hb
      exact absurd hb (by decide)⟩
  | k + 1, hk => by
    obtain ⟨h1, h2, h3, h4⟩ := no_ok (x := x) hn h10 ho k (by omega)
    have hp := ho.2.1 k (by omega)
    have hm : (noN l x n o k).2.testBit (oG o k) = false := by
      cases hb : (noN l x n o k).2.testBit (oG o k) with
      | false => rfl
      | true =>
        obtain ⟨j, hj, e⟩ := (h3 _).mp hb
        exact absurd e (ho.2.2 j k hj (by omega))
    refine ⟨nq_lt hn hp hm h1 n (Nat.le_refl _), Nat.or_lt_two_pow h2 (Nat.pow_lt_pow_right (by decide) (by omega)), fun a => ?_, fun p hp2 a b ha hb hab hbit => ?_⟩
    · show ((noN l x n o k).2 ||| 2 ^ oG o k).testBit a = true ↔ _
      rw [Nat.testBit_or, Bool.or_eq_true, h3, Nat.testBit_two_pow, decide_eq_true_eq]
      constructor
      · rintro (⟨j, hj, e⟩ | e)
        · exact ⟨j, by omega, e⟩
        · exact ⟨k, by omega, e⟩
      · rintro ⟨j, hj, e⟩
        by_cases z : j = k
        · subst z; exact Or.inr e
        · exact Or.inl ⟨j, by omega, e⟩
    · have hh : ∀ c, (noN l x n o k).2.testBit c = true ∨ c = oG o k → (noN l x n o (k + 1)).2.testBit c = true := fun c hc => by
        show ((noN l x n o k).2 ||| 2 ^ oG o k).testBit c = true
        rw [Nat.testBit_or, Bool.or_eq_true, Nat.testBit_two_pow, decide_eq_true_eq]
        rcases hc with z | z
        · exact Or.inl z
        · exact Or.inr z.symm
      refine Or.inl ?_
      rcases nq_inv (l := l) (x := x) (p := oG o k) (by omega) hm (h4 (oG o k) (by omega)) n h10 a b ha hb hab hbit with z | z | z
      · exact ⟨hh a (Or.inl z.1), hh b (Or.inl z.2)⟩
      · exact ⟨hh a (Or.inr z.1), hh b (Or.inl z.2.2)⟩
      · exact ⟨hh a (Or.inl z.2.2), hh b (Or.inr z.1)⟩
def xOr (σ : zSt) (n : Nat) (o : List Nat) : Prop := σ.1 33 = nI n ∧ ∀ k, k < n → σ.2.2.1 31 k = nI (oG o k)
def mOr (μ : zSt) (n : Nat) (o : List Nat) : Prop := ∀ k, k < n → μ.2.2.1 15 k = nI (oG o k)
theorem xOr_F {σ τ : zSt} {n : Nat} {o : List Nat} (f : xF σ τ) (h : xOr σ n o) : xOr τ n o := by
  unfold xOr; rw [f.1 33 (by decide), f.2.2.1 31 (by decide)]; exact h
theorem mOr_4 {μ ν : zSt} {n : Nat} {o : List Nat} (f : mF4 μ ν) (h : mOr μ n o) : mOr ν n o := by
  unfold mOr; rw [f.2.2.1 15 (by decide)]; exact h
theorem mOr_F {μ ν : zSt} {n : Nat} {o : List Nat} (f : mF μ ν) (h : mOr μ n o) : mOr ν n o := by
  unfold mOr; rw [f.2.2.1 15 (by decide)]; exact h
section no
variable {N : Nat} {σ τ μ ν : zSt} {tp : Nat × (Nat → Nat)} {fa : Int32 × Int32} {l : zL} {net : Nat} {x : Int32} {ba rg : Nat → Int64} {ls : Nat × (Nat → Int64)} {cm : Nat × (Nat → Int64) × (Nat → Int32)} {li : Int64} {oc : Nat → Int32}
theorem Xn (h : XR σ tp fa l net x ba rg ls cm li oc) : σ.1 1 = nI (lPn l) := h.2.2.1.2.2.1.1
theorem x_netO {o : List Nat} {Q : Int64 → zSt → Prop} (hN : 1100 < N) (h5 : lPn l ≤ 5) (ho : okO (lPn l) o) (h : XR σ tp fa l net x ba rg ls cm li oc) (hO : xOr σ (lPn l) o) (hQ : ∀ τ, XR τ tp fa l net x ba rg ls cm li oc → xOr τ (lPn l) o → Q (lN (noN l x (lPn l) o (lPn l)).1) τ) : w_X11_netOfOrder N σ Q := by
  refine loopU (fun f k (s : zSt) => w_X11_netOfOrder_7 N Q f (lN (noN l x (lPn l) o k).1) (nI (noN l x (lPn l) o k).2) (nI k) s) (fun _ s => XR s tp fa l net x ba rg ls cm li oc ∧ xOr s (lPn l) o) (lPn l) ?_ ?_ N 0 σ (Nat.zero_le _) (by omega) ⟨h, hO⟩
  · intro f s hs
    show b_X11_netOfOrder_7 N (w_X11_netOfOrder_7 N Q f) Q (lN (noN l x (lPn l) o (lPn l)).1) (nI (noN l x (lPn l) o (lPn l)).2) (nI (lPn l)) s
    unfold b_X11_netOfOrder_7
    exact br_t (by rw [Xn hs.1]; exact nI_le (Nat.le_refl _) (by omega)) (hQ s hs.1 hs.2)
  · intro f k s hk hs ih
    show b_X11_netOfOrder_7 N (w_X11_netOfOrder_7 N Q f) Q (lN (noN l x (lPn l) o k).1) (nI (noN l x (lPn l) o k).2) (nI k) s
    obtain ⟨a1, a2, a3, a4⟩ := no_ok (x := x) rfl (by omega) ho k (by omega)
    have hp := ho.2.1 k hk
    have hm : (noN l x (lPn l) o k).2.testBit (oG o k) = false := by
      cases hb : (noN l x (lPn l) o k).2.testBit (oG o k) with
      | false => rfl
      | true =>
        obtain ⟨j, hj, e⟩ := (a3 _).mp hb
        exact absurd e (ho.2.2 j k hj (by omega))
    have i0 := a4 (oG o k) (by omega)
    unfold b_X11_netOfOrder_7
    rw [nI_clamp (by omega), hs.2.2 k hk]
    refine br_f (by rw [Xn hs.1]; exact nI_ge hk (by omega)) (br_f (nI_ge (b := 5) (by omega) (by omega)) ⟨vp_in_nI (by omega) (by decide), nm_e ?_⟩)
    refine loopU (fun g q (t : zSt) => w_X11_netOfOrder_47 N (w_X11_netOfOrder_7 N Q f) Q g (lN (nqN l x (oG o k) (noN l x (lPn l) o k).2 (noN l x (lPn l) o k).1 q)) (nI (noN l x (lPn l) o k).2) (nI k) (nI (oG o k)) (nI q) t) (fun _ t => XR t tp fa l net x ba rg ls cm li oc ∧ xOr t (lPn l) o) (lPn l) ?_ ?_ N 0 s (Nat.zero_le _) (by omega) hs
    · intro g t ht
      show b_X11_netOfOrder_47 N (w_X11_netOfOrder_7 N Q f) (w_X11_netOfOrder_47 N (w_X11_netOfOrder_7 N Q f) Q g) Q (lN (noN l x (lPn l) o (k + 1)).1) (nI (noN l x (lPn l) o k).2) (nI k) (nI (oG o k)) (nI (lPn l)) t
      unfold b_X11_netOfOrder_47
      rw [orI1 (by omega), nI_1 k]
      exact br_t (by rw [Xn ht.1]; exact nI_le (Nat.le_refl _) (by omega)) (nm_e (nm_e (ih t ht)))
    · intro g q t hq ht ih2
      show b_X11_netOfOrder_47 N (w_X11_netOfOrder_7 N Q f) (w_X11_netOfOrder_47 N (w_X11_netOfOrder_7 N Q f) Q g) Q (lN (nqN l x (oG o k) (noN l x (lPn l) o k).2 (noN l x (lPn l) o k).1 q)) (nI (noN l x (lPn l) o k).2) (nI k) (nI (oG o k)) (nI q) t
      have i1 := nq_inv (l := l) (x := x) (p := oG o k) (by omega) hm i0 q (by omega)
      have i2 := nq_lt (x := x) rfl hp hm a1 q (by omega)
      rw [nqN] at ih2
      unfold b_X11_netOfOrder_47
      rw [nI_1 q]
      refine br_f (by rw [Xn ht.1]; exact nI_ge hq (by omega)) ⟨fun z => ?_, fun z => ?_⟩
      · have z := (bitI1 (by omega) (by omega)).mp z
        rw [if_neg (fun y => by rw [z] at y; exact absurd y.1 (by decide))] at ih2
        exact nm_e (ih2 t ht)
      · have z : (noN l x (lPn l) o k).2.testBit q = true := by
          cases hb : (noN l x (lPn l) o k).2.testBit q with
          | true => rfl
          | false => exact absurd ((bitI1 (by omega) (by omega)).mpr hb) z
        have hne : oG o k ≠ q := fun e => by rw [e, z] at hm; exact absurd hm (by decide)
        have hpr : prN (oG o k) q < lPc l := prN_pc hp hq hne
        have h64 := prN64 (oG o k) (by omega) q (by omega)
        have hbit := nq_no (by omega) (by omega) hm z i1
        refine x_number (by omega) (by omega) (x_moves (by omega) ht.1.2.2.1 (ex_ok2 ht.1.2.2.2.2.1.1) hpr i2 (fun t2 f2 g2 => ?_))
        have ht2 : XR t2 tp fa l net x ba rg ls cm li oc ∧ xOr t2 (lPn l) o := ⟨XR_s (xS_F f2) g2 ht.1, xOr_F f2 ht.2⟩
        have em : movB l (fun _ => x) (nqN l x (oG o k) (noN l x (lPn l) o k).2 (noN l x (lPn l) o k).1 q) (prN (oG o k) q) = addB l (fun _ => x) (nqN l x (oG o k) (noN l x (lPn l) o k).2 (noN l x (lPn l) o k).1 q) (prN (oG o k) q) := by
          unfold movB
          rw [hbit, if_neg (by decide)]
        rw [em, orL1 _ (by omega), show (0 : Int64) = lN 0 from rfl, fb_orL, Nat.or_zero]
        refine ⟨fun y => ?_, fun y => ?_⟩
        · rw [if_neg (fun w => by rw [b32_0.mp y] at w; exact absurd w.2 (by decide))] at ih2
          exact nm_e (nm_e (ih2 t2 ht2))
        · rw [if_pos ⟨z, b32_n.mp y⟩] at ih2
          exact nm_e (nm_e (ih2 t2 ht2))
theorem m_netO {o : List Nat} {Q : Int64 → zSt → Prop} (hN : 1100 < N) (h5 : lPn l ≤ 5) (ho : okO (lPn l) o) (h : MR μ tp fa l net x ba rg ls cm li oc) (hO : mOr μ (lPn l) o) (hQ : ∀ τ, MR τ tp fa l net x ba rg ls cm li oc → mOr τ (lPn l) o → Q (lN (noN l x (lPn l) o (lPn l)).1) τ) : w_X12_netOf N (nI (lPn l)) μ Q := by
  refine loopU (fun f k (s : zSt) => w_X12_netOf_8 N Q f (nI (lPn l)) (lN (noN l x (lPn l) o k).1) (nI (noN l x (lPn l) o k).2) (nI k) s) (fun _ s => MR s tp fa l net x ba rg ls cm li oc ∧ mOr s (lPn l) o) (lPn l) ?_ ?_ N 0 μ (Nat.zero_le _) (by omega) ⟨h, hO⟩
  · intro f s hs
    show b_X12_netOf_8 N (w_X12_netOf_8 N Q f) Q (nI (lPn l)) (lN (noN l x (lPn l) o (lPn l)).1) (nI (noN l x (lPn l) o (lPn l)).2) (nI (lPn l)) s
    unfold b_X12_netOf_8
    exact br_t (nI_le (Nat.le_refl _) (by omega)) (hQ s hs.1 hs.2)
  · intro f k s hk hs ih
    show b_X12_netOf_8 N (w_X12_netOf_8 N Q f) Q (nI (lPn l)) (lN (noN l x (lPn l) o k).1) (nI (noN l x (lPn l) o k).2) (nI k) s
    obtain ⟨a1, a2, a3, a4⟩ := no_ok (x := x) rfl (by omega) ho k (by omega)
    have hp := ho.2.1 k hk
    have hm : (noN l x (lPn l) o k).2.testBit (oG o k) = false := by
      cases hb : (noN l x (lPn l) o k).2.testBit (oG o k) with
      | false => rfl
      | true =>
        obtain ⟨j, hj, e⟩ := (a3 _).mp hb
        exact absurd e (ho.2.2 j k hj (by omega))
    unfold b_X12_netOf_8
    rw [nI_clamp (by omega), hs.2 k hk]
    refine br_f (nI_ge hk (by omega)) ⟨vp_in_nI (by omega) (by decide), nm_e ?_⟩
    refine loopU (fun g q (t : zSt) => w_X12_netOf_26 N (w_X12_netOf_8 N Q f) Q g (nI (lPn l)) (lN (nqN l x (oG o k) (noN l x (lPn l) o k).2 (noN l x (lPn l) o k).1 q)) (nI (noN l x (lPn l) o k).2) (nI k) (nI (oG o k)) (nI q) t) (fun _ t => MR t tp fa l net x ba rg ls cm li oc ∧ mOr t (lPn l) o) (lPn l) ?_ ?_ N 0 s (Nat.zero_le _) (by omega) hs
    · intro g t ht
      show b_X12_netOf_26 N (w_X12_netOf_8 N Q f) (w_X12_netOf_26 N (w_X12_netOf_8 N Q f) Q g) Q (nI (lPn l)) (lN (noN l x (lPn l) o (k + 1)).1) (nI (noN l x (lPn l) o k).2) (nI k) (nI (oG o k)) (nI (lPn l)) t
      unfold b_X12_netOf_26
      refine m_many (Mp ht.1) ?_
      rw [orI1 (by omega), nI_1 k]
      exact br_t (nI_le (Nat.le_refl _) (by omega)) (nm_e (nm_e (ih t ht)))
    · intro g q t hq ht ih2
      show b_X12_netOf_26 N (w_X12_netOf_8 N Q f) (w_X12_netOf_26 N (w_X12_netOf_8 N Q f) Q g) Q (nI (lPn l)) (lN (nqN l x (oG o k) (noN l x (lPn l) o k).2 (noN l x (lPn l) o k).1 q)) (nI (noN l x (lPn l) o k).2) (nI k) (nI (oG o k)) (nI q) t
      have i2 := nq_lt (x := x) rfl hp hm a1 q (by omega)
      rw [nqN] at ih2
      unfold b_X12_netOf_26
      refine m_many (Mp ht.1) ?_
      rw [nI_1 q]
      refine br_f (nI_ge hq (by omega)) ⟨fun z => ?_, fun z => ?_⟩
      · have z := (bitI1 (by omega) (by omega)).mp z
        rw [if_neg (fun y => by rw [z] at y; exact absurd y.1 (by decide))] at ih2
        exact nm_e (ih2 t ht)
      · have z : (noN l x (lPn l) o k).2.testBit q = true := by
          cases hb : (noN l x (lPn l) o k).2.testBit q with
          | true => rfl
          | false => exact absurd ((bitI1 (by omega) (by omega)).mpr hb) z
        have hne : oG o k ≠ q := fun e => by rw [e, z] at hm; exact absurd hm (by decide)
        have hpr : prN (oG o k) q < lPc l := prN_pc hp hq hne
        have h64 := prN64 (oG o k) (by omega) q (by omega)
        refine m_begins hN ht.1.2.2.1 i2 (fun t1 f1 g1 w1 => m_pairOf (by omega) (by omega) (m_isAdd hN g1 (ex_ok2 ht.1.2.2.2.2.1.1) w1 hpr i2 (fun t2 f2 g2 => ?_)))
        have ht2 : MR t2 tp fa l net x ba rg ls cm li oc ∧ mOr t2 (lPn l) o := ⟨MR_s (mS_F f2) g2 (MR_s (mS_4 f1) g1 ht.1), mOr_F f2 (mOr_4 f1 ht.2)⟩
        refine ⟨fun y => ?_, fun y => m_tied (by omega) (by omega) ?_⟩
        · rw [if_neg (fun w => by rw [b32_0.mp y] at w; exact absurd w.2 (by decide))] at ih2
          exact nm_e (ih2 t2 ht2)
        · rw [if_pos ⟨z, b32_n.mp y⟩] at ih2
          rw [fb_orL]
          exact nm_e (nm_e (ih2 t2 ht2))
end no
