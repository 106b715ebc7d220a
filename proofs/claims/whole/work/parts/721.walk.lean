/-! walks with all between below k; the table of shortest ones, phase by phase -/
def wk (n net k : Nat) : Nat → Nat → Nat → Prop
  | 0, a, b => a = b
  | L + 1, a, b => ∃ c, c < n ∧ td net a c = true ∧ ((L = 0 ∧ c = b) ∨ (c < k ∧ wk n net k L c b))
section wa
variable {n net : Nat}
theorem wk_mono {k k' : Nat} (h : k ≤ k') : ∀ (L a b : Nat), wk n net k L a b → wk n net k' L a b
  | 0, _, _, q => q
  | L + 1, _, _, ⟨c, h1, h2, h3⟩ => ⟨c, h1, h2, h3.imp id (fun q => ⟨Nat.lt_of_lt_of_le q.1 h, wk_mono h L _ _ q.2⟩)⟩
theorem wk_1 {k a b : Nat} (hb : b < n) (h : td net a b = true) : wk n net k 1 a b := ⟨b, hb, h, Or.inl ⟨rfl, rfl⟩⟩
theorem wk_join {k c b L2 : Nat} (hc : c < k) (h2 : wk n net k L2 c b) : ∀ (L1 a : Nat), wk n net k L1 a c → wk n net k (L1 + L2) a b
  | 0, a, q => by
    have e : a = c := q
    subst e
    rw [Nat.zero_add]; exact h2
  | L1 + 1, a, ⟨d, h3, h4, h5⟩ => by
    rw [show L1 + 1 + L2 = (L1 + L2) + 1 by omega]
    rcases h5 with ⟨e1, e2⟩ | ⟨e1, e2⟩
    · subst e1; subst e2
      rw [Nat.zero_add]
      exact ⟨d, h3, h4, Or.inr ⟨hc, h2⟩⟩
    · exact ⟨d, h3, h4, Or.inr ⟨e1, wk_join hc h2 L1 d e2⟩⟩
theorem wk_cut {k b : Nat} : ∀ (L a : Nat), wk n net (k + 1) L a b → wk n net k L a b ∨ ∃ L1 L2, L1 + L2 ≤ L ∧ wk n net k L1 a k ∧ wk n net k L2 k b
  | 0, _, q => Or.inl q
  | L + 1, a, ⟨c, h1, h2, h3⟩ => by
    rcases h3 with ⟨e1, e2⟩ | ⟨hc, h4⟩
    · exact Or.inl ⟨c, h1, h2, Or.inl ⟨e1, e2⟩⟩
    · by_cases e : c = k
      · subst e
        rcases wk_cut L c h4 with h5 | ⟨L1, L2, h5, h6, h7⟩
        · exact Or.inr ⟨1, L, by omega, wk_1 h1 h2, h5⟩
        · exact Or.inr ⟨1, L2, by omega, wk_1 h1 h2, h7⟩
      · have hck : c < k := by omega
        rcases wk_cut L c h4 with h5 | ⟨L1, L2, h5, h6, h7⟩
        · exact Or.inl ⟨c, h1, h2, Or.inr ⟨hck, h5⟩⟩
        · exact Or.inr ⟨L1 + 1, L2, by omega, ⟨c, h1, h2, Or.inr ⟨hck, h6⟩⟩, h7⟩
theorem wk_toK {k a L : Nat} (h : wk n net (k + 1) L a k) : ∃ L', L' ≤ L ∧ wk n net k L' a k := by
  rcases wk_cut L a h with h | ⟨L1, L2, h1, h2, _⟩
  · exact ⟨L, Nat.le_refl _, h⟩
  · exact ⟨L1, by omega, h2⟩
theorem wk_ofK {k b L : Nat} (h : wk n net (k + 1) L k b) : ∃ L', L' ≤ L ∧ wk n net k L' k b := by
  rcases wk_cut L k h with h | ⟨L1, L2, h1, _, h2⟩
  · exact ⟨L, Nat.le_refl _, h⟩
  · exact ⟨L2, by omega, h2⟩
theorem wk_join1 {k a b L1 L2 : Nat} (h1 : wk n net k L1 a k) (h2 : wk n net k L2 k b) : wk n net (k + 1) (L1 + L2) a b :=
  wk_join (Nat.lt_succ_self k) (wk_mono (Nat.le_succ k) _ _ _ h2) L1 a (wk_mono (Nat.le_succ k) _ _ _ h1)
theorem wk_short : ∀ (k L a b : Nat), wk n net k L a b → ∃ L', L' ≤ 2 ^ k ∧ wk n net k L' a b
  | 0, 0, _, _, h => ⟨0, Nat.zero_le _, h⟩
  | 0, L + 1, _, _, ⟨c, h1, h2, h3⟩ => by
    rcases h3 with ⟨e1, e2⟩ | ⟨h3, _⟩
    · exact ⟨1, Nat.le_refl _, ⟨c, h1, h2, Or.inl ⟨rfl, e2⟩⟩⟩
    · exact absurd h3 (Nat.not_lt_zero _)
  | k + 1, L, a, b, h => by
    have e : 2 ^ (k + 1) = 2 ^ k + 2 ^ k := by rw [Nat.pow_succ]; omega
    rcases wk_cut L a h with h1 | ⟨L1, L2, _, h2, h3⟩
    · obtain ⟨L', g1, g2⟩ := wk_short k L a b h1
      exact ⟨L', by omega, wk_mono (Nat.le_succ k) _ _ _ g2⟩
    · obtain ⟨L1', g1, g2⟩ := wk_short k L1 a k h2
      obtain ⟨L2', g3, g4⟩ := wk_short k L2 k b h3
      exact ⟨L1' + L2', by omega, wk_join1 g2 g4⟩
/-- v is the length of a shortest walk -/
def fw (n net k : Nat) (v : Int32) (a b : Nat) : Prop := (v = -1 ∧ ∀ L, ¬ wk n net k L a b) ∨ ∃ m, v = nI m ∧ wk n net k m a b ∧ ∀ L, wk n net k L a b → m ≤ L
theorem fw_le {k a b m : Nat} (h : wk n net k m a b) (hm : ∀ L, wk n net k L a b → m ≤ L) (hk : k ≤ 10) : m ≤ 1024 := by
  obtain ⟨L, h1, h2⟩ := wk_short k m a b h
  have h3 := hm L h2
  have h4 : 2 ^ k ≤ 2 ^ 10 := Nat.pow_le_pow_right (by decide) hk
  omega
theorem fw_toK {k a : Nat} {v : Int32} (h : fw n net (k + 1) v a k) : fw n net k v a k := by
  rcases h with ⟨h1, h2⟩ | ⟨m, h1, h2, h3⟩
  · exact Or.inl ⟨h1, fun L q => h2 L (wk_mono (Nat.le_succ k) _ _ _ q)⟩
  · obtain ⟨L, g1, g2⟩ := wk_toK h2
    have g3 := h3 L (wk_mono (Nat.le_succ k) _ _ _ g2)
    have e : L = m := by omega
    subst e
    exact Or.inr ⟨L, h1, g2, fun L' q => h3 L' (wk_mono (Nat.le_succ k) _ _ _ q)⟩
theorem fw_ofK {k b : Nat} {v : Int32} (h : fw n net (k + 1) v k b) : fw n net k v k b := by
  rcases h with ⟨h1, h2⟩ | ⟨m, h1, h2, h3⟩
  · exact Or.inl ⟨h1, fun L q => h2 L (wk_mono (Nat.le_succ k) _ _ _ q)⟩
  · obtain ⟨L, g1, g2⟩ := wk_ofK h2
    have g3 := h3 L (wk_mono (Nat.le_succ k) _ _ _ g2)
    have e : L = m := by omega
    subst e
    exact Or.inr ⟨L, h1, g2, fun L' q => h3 L' (wk_mono (Nat.le_succ k) _ _ _ q)⟩
/-- one place of a phase: nothing by way of k -/
theorem fw_no {k a b : Nat} {v x y : Int32} (hv : fw n net k v a b) (hx : fw n net k x a k) (hy : fw n net k y k b) (h : x = -1 ∨ y = -1) (hk : k < 10) : fw n net (k + 1) v a b := by
  have hn : ∀ L1 L2, wk n net k L1 a k → wk n net k L2 k b → False := by
    intro L1 L2 q1 q2
    rcases hx with ⟨_, g⟩ | ⟨m, e1, e2, e3⟩
    · exact g _ q1
    · rcases hy with ⟨_, g⟩ | ⟨m', f1, f2, f3⟩
      · exact g _ q2
      · rcases h with h | h
        · exact m1_ne (n := m) (by have := fw_le e2 e3 (by omega); omega) (e1.symm.trans h)
        · exact m1_ne (n := m') (by have := fw_le f2 f3 (by omega); omega) (f1.symm.trans h)
  rcases hv with ⟨h1, h2⟩ | ⟨m, h1, h2, h3⟩
  · refine Or.inl ⟨h1, fun L q => ?_⟩
    rcases wk_cut L a q with q | ⟨L1, L2, _, q1, q2⟩
    · exact h2 L q
    · exact hn _ _ q1 q2
  · refine Or.inr ⟨m, h1, wk_mono (Nat.le_succ k) _ _ _ h2, fun L q => ?_⟩
    rcases wk_cut L a q with q | ⟨L1, L2, _, q1, q2⟩
    · exact h3 L q
    · exact absurd (hn _ _ q1 q2) id
/-- by way of k, where that is shorter -/
theorem fw_by {k a b x y : Nat} {v : Int32} (hv : fw n net k v a b) (hx : fw n net k (nI x) a k) (hy : fw n net k (nI y) k b) (hx2 : x < 2 ^ 20) (hy2 : y < 2 ^ 20) (hk : k < 10) : fw n net (k + 1) (if v = -1 ∨ nI (x + y) < v then nI (x + y) else v) a b := by
  rcases hx with ⟨h, _⟩ | ⟨mx, e1, e2, e3⟩
  · exact absurd h (m1_ne (by omega))
  rcases hy with ⟨h, _⟩ | ⟨my, f1, f2, f3⟩
  · exact absurd h (m1_ne (by omega))
  have bx := fw_le e2 e3 (by omega)
  have byy := fw_le f2 f3 (by omega)
  have ex : x = mx := (nI_eq (by omega) (by omega)).mp e1
  have ey : y = my := (nI_eq (by omega) (by omega)).mp f1
  subst ex; subst ey
  rcases hv with ⟨h1, h2⟩ | ⟨m, h1, h2, h3⟩
  · rw [if_pos (Or.inl h1)]
    refine Or.inr ⟨x + y, rfl, wk_join1 e2 f2, fun L q => ?_⟩
    rcases wk_cut L a q with q | ⟨L1, L2, q0, q1, q2⟩
    · exact absurd q (h2 L)
    · have := e3 _ q1
      have := f3 _ q2
      omega
  · have bm := fw_le h2 h3 (by omega)
    subst h1
    by_cases hlt : x + y < m
    · rw [if_pos (Or.inr ((nI_ltI (by omega) (by omega)).mpr hlt))]
      refine Or.inr ⟨x + y, rfl, wk_join1 e2 f2, fun L q => ?_⟩
      rcases wk_cut L a q with q | ⟨L1, L2, q0, q1, q2⟩
      · have := h3 L q
        omega
      · have := e3 _ q1
        have := f3 _ q2
        omega
    · rw [if_neg (fun q => q.elim (m1_ne (by omega)) (fun q => hlt ((nI_ltI (by omega) (by omega)).mp q)))]
      refine Or.inr ⟨m, rfl, wk_mono (Nat.le_succ k) _ _ _ h2, fun L q => ?_⟩
      rcases wk_cut L a q with q | ⟨L1, L2, q0, q1, q2⟩
      · exact h3 L q
      · have := e3 _ q1
        have := f3 _ q2
        omega
/-- the first phase: ties alone -/
theorem fw_0 {a b : Nat} (hb : b < n) : fw n net 0 (if a = b then 0 else if td net a b then 1 else -1) a b := by
  by_cases e : a = b
  · rw [if_pos e]
    exact Or.inr ⟨0, rfl, e, fun L _ => Nat.zero_le L⟩
  · rw [if_neg e]
    cases ht : td net a b with
    | true =>
      refine Or.inr ⟨1, rfl, wk_1 hb ht, fun L q => ?_⟩
      cases L with
      | zero => exact absurd q e
      | succ L => omega
    | false =>
      refine Or.inl ⟨rfl, fun L q => ?_⟩
      cases L with
      | zero => exact e q
      | succ L =>
        obtain ⟨c, h1, h2, h3⟩ := q
        rcases h3 with ⟨_, e2⟩ | ⟨h3, _⟩
        · subst e2; rw [ht] at h2; exact absurd h2 (by decide)
        · exact absurd h3 (Nat.not_lt_zero _)
/-- levels and walks -/
theorem rs_wk {s : Nat} : ∀ (L j a b : Nat), a < n → rs n net s j a = true → wk n net n L a b → rs n net s (j + L) b = true
  | 0, _, _, _, _, h, q => by
    have e := q
    subst e; exact h
  | L + 1, j, a, b, ha, h, ⟨c, h1, h2, h3⟩ => by
    have h4 : rs n net s (j + 1) c = true := rs_s.mpr (Or.inr ⟨a, ha, h, h2⟩)
    rcases h3 with ⟨e1, e2⟩ | ⟨_, h5⟩
    · subst e1; subst e2; exact h4
    · have := rs_wk L (j + 1) c b h1 h4 h5
      rwa [show j + (L + 1) = j + 1 + L by omega]
theorem wk_rs {a : Nat} : ∀ (K b : Nat), b < n → rs n net a K b = true → ∃ L, L ≤ K ∧ wk n net n L a b
  | 0, b, _, h => by
    have e : b = a := by simpa [rs] using h
    exact ⟨0, Nat.le_refl _, e.symm⟩
  | K + 1, b, hb, h => by
    rcases rs_s.mp h with h1 | ⟨c, h1, h2, h3⟩
    · obtain ⟨L, g1, g2⟩ := wk_rs K b hb h1
      exact ⟨L, by omega, g2⟩
    · obtain ⟨L, g1, g2⟩ := wk_rs K c h1 h2
      exact ⟨L + 1, by omega, wk_join h1 (wk_1 hb h3) L a g2⟩
theorem first_is {p : Nat → Bool} {n v : Nat} (hv : v < n) (h : p v = true) (hm : ∀ j, j < v → p j = false) : fa_first p n = v := by
  have h1 := fa_first_no p n
  have h2 := fa_first_le p n
  rcases Nat.lt_trichotomy (fa_first p n) v with g | g | g
  · have := fa_first_yes p n (by omega)
    rw [hm _ g] at this; exact absurd this (by decide)
  · exact g
  · have := h1 v g
    rw [h] at this; exact absurd this (by decide)
theorem first_no {p : Nat → Bool} {n : Nat} (hm : ∀ j, j < n → p j = false) : fa_first p n = n := by
  have h2 := fa_first_le p n
  rcases Nat.lt_or_ge (fa_first p n) n with g | g
  · have := fa_first_yes p n g
    rw [hm _ g] at this; exact absurd this (by decide)
  · omega
/-- the last phase tells the ways -/
theorem fw_dv {a b : Nat} {v : Int32} (ha : a < n) (hb : b < n) (h : fw n net n v a b) : v = dv n net a b := by
  have h0 : rs n net a 0 a = true := by simp [rs]
  rcases h with ⟨h1, h2⟩ | ⟨m, h1, h2, h3⟩
  · have : ds n net a b = n := first_no (fun j hj => by
      cases hr : rs n net a j b with
      | false => rfl
      | true =>
        obtain ⟨L, _, g⟩ := wk_rs j b hb hr
        exact absurd g (h2 L))
    rw [dv, this, if_neg (Nat.lt_irrefl n)]; exact h1
  · have h4 := rs_wk m 0 a b ha h0 h2
    rw [Nat.zero_add] at h4
    obtain ⟨L, g1, g2⟩ := wk_rs (n - 1) b hb (rs_end ha hb h4)
    have h5 := h3 L g2
    have : ds n net a b = m := first_is (by omega) h4 (fun j hj => by
      cases hr : rs n net a j b with
      | false => rfl
      | true =>
        obtain ⟨L', g3, g4⟩ := wk_rs j b hb hr
        have := h3 L' g4
        omega)
    rw [dv, this, if_pos (by omega)]; exact h1
end wa
