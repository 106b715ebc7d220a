/-! what reading gives is good: orders of sums and tests -/
section gd
variable {tp : Nat × (Nat → Nat)} {S : zP → zE} {s : zP}
def gS (tp : Nat × (Nat → Nat)) (S : zP → zE) (D : Nat → Nat) (b : Bool) (d : Nat) : Prop := ∀ s : zP, 7 ≤ d + s.2.2.1 → s.2.2.1 ≤ 6 → gE (gV (D s.2.2.1) b s) (S s)
def dS (o : Nat) : Nat := 3 * (7 - o)
def dF (o : Nat) : Nat := 4 * (7 - o)
theorem er1 {α : Type} {G : α → Prop} {q : Nat} : gE G (.error (1, q)) := (⟨by decide, by decide⟩ : 1 ≤ 1 ∧ 1 ≤ 5)
/-- what stands in brackets -/
theorem gV_in {D : Nat} {b : Bool} {s1 s2 s3 : zP} (h1 : s.1 < s1.1 ∧ s.2.2.1 < 6 ∧ s1.2.2.1 = s.2.2.1 + 1 ∧ s1.2.2.2 = s.2.2.2) (h2 : gV D b s1 s2) (h3 : s2.1 < s3.1 ∧ s3.2.2.1 = s2.2.2.1 - 1 ∧ s3.2.2.2 = s2.2.2.2) : gV D b s s3 := by
  obtain ⟨a1, a2, e, a3, a4, a5⟩ := h2
  exact ⟨by omega, by omega, e, by rw [h3.2.2, a3, h1.2.2.2], by omega, a5⟩
theorem paP_g {d : Nat} (h8 : tp.1 ≤ 800) (hS : gS tp S dS true d) (hd : 7 ≤ d + 1 + s.2.2.1) (ho : s.2.2.1 ≤ 6) : gE (gV (dS s.2.2.1 - 2) true s) (paP tp S s) := by
  have hD : dS s.2.2.1 = 3 * (7 - s.2.2.1) := rfl
  have inn : ∀ s1 : zP, s1.2.2.1 = s.2.2.1 + 1 → s.2.2.1 < 6 → gE (gV (dS s.2.2.1 - 3) true s1) (S s1) := fun s1 e1 e2 => by
    have := hS s1 (by omega) (by omega)
    have e : dS s1.2.2.1 = dS s.2.2.1 - 3 := by show 3 * (7 - s1.2.2.1) = 3 * (7 - s.2.2.1) - 3; omega
    rw [e] at this
    exact this
  have cho : ∀ v, v < 6 → ¬ kS tp s = 0 → gE (gV (dS s.2.2.1 - 2) true s) (chP tp S v s) := fun v hv hk => by
    have n0 := nx_gt h8 hk
    unfold chP
    by_cases c : iS tp 40 (nxP tp s) = true
    · rw [if_pos c]
      unfold chP2
      refine gE_b (toP_g h8 (by have := (iS_k c).1; omega)) (fun s1 _ g1 => ?_)
      have g12 : s.2.2.1 < 6 := g1.2.1
      have g13 : s1.2.2.1 = s.2.2.1 + 1 := g1.2.2.1
      have g14 : s1.2.2.2 = s.2.2.2 := g1.2.2.2
      refine gE_b (inn s1 g13 g12) (fun s2 _ g2 => ?_)
      refine gE_b (tsP_g (c := 44) h8) (fun s3 _ g3 => ?_)
      have g32 : s3.2.2.1 = s2.2.2.1 := g3.2.1
      obtain ⟨a1, a2, e, a3, a4, a5⟩ := g2
      refine gE_b (inn s3 (by omega) g12) (fun s4 _ g4 => ?_)
      obtain ⟨b1, b2, e', b3, b4, b5⟩ := g4
      refine gE_b (tsP_g (c := 41) h8) (fun s5 _ g5 => ?_)
      have g52 : s5.2.2.1 = s4.2.2.1 - 1 := g5.2.1
      have g53 := g5.2.2
      have g11 := g1.1
      have g31 := g3.1
      have g51 := g5.1
      refine (⟨by show s.1 < s5.1; omega, by show s5.2.2.1 = s.2.2.1; omega, e ++ (e' ++ [v]), ?_, ?_, fun ts ht => ?_⟩ : gV (dS s.2.2.1 - 2) true s (emP v s5))
      · show s5.2.2.2 ++ [v] = _
        rw [g53, b3, g3.2.2, a3, g14, List.append_assoc, List.append_assoc]
      · rw [List.length_append, List.length_append]
        show e.length + (e'.length + 1) + s.1 ≤ s5.1
        omega
      · exact tyL_a (a5 ts (by omega)) (tyL_a (b5 (true :: ts) (by show ts.length + 1 + _ ≤ 64; omega)) (tyL_1 (ty_op hv) (by show ts.length + 1 ≤ 64; omega)))
    · rw [if_neg c]; exact er1
  unfold paP
  by_cases c1 : kS tp s = 2
  · rw [if_pos c1]
    by_cases c : zS tp s ≤ 4
    · rw [if_pos c]
      have := vT_4 c1
      exact gV_leaf h8 (by omega) (fun ts => ty_leaf (Or.inl ⟨by omega, by omega⟩)) (by omega)
    · rw [if_neg c]; exact er1
  rw [if_neg c1]
  by_cases c2 : iS tp 40 s = true
  · rw [if_pos c2]
    refine gE_b (toP_g h8 (by have := (iS_k c2).1; omega)) (fun s1 _ g1 => ?_)
    refine gE_b (inn s1 g1.2.2.1 g1.2.1) (fun s2 _ g2 => ?_)
    exact gE_w (tsP_g (c := 41) h8) (fun s3 g3 => gV_w (gV_in g1 g2 g3) (by omega))
  rw [if_neg c2]
  by_cases c3 : wS tp s = 17
  · rw [if_pos c3]; exact cho 4 (by decide) (by have := wS_k (by decide) c3; omega)
  rw [if_neg c3]
  by_cases c4 : wS tp s = 18
  · rw [if_pos c4]; exact cho 5 (by decide) (by have := wS_k (by decide) c4; omega)
  rw [if_neg c4]
  by_cases c5 : 12 ≤ wS tp s ∧ wS tp s ≤ 16
  · rw [if_pos c5]
    exact gV_leaf h8 (by have := wS_k (tp := tp) (s := s) (w := wS tp s) (by omega) rfl; omega) (fun ts => ty_leaf (Or.inr ⟨by omega, by omega⟩)) (by omega)
  · rw [if_neg c5]; exact er1
theorem iS_n {c : Nat} (h : iS tp c s = true) : ¬ kS tp s = 0 := by have := (iS_k h).1; omega
theorem iS_lt {c : Nat} (h : iS tp c s = true) : s.1 < tp.1 := by
  have h1 := kT_n0 (iS_n h)
  have h2 := sT_ge tp s.1
  omega
theorem wS_lt {w : Nat} (hw : w < 19) (h : wS tp s = w) : s.1 < tp.1 ∧ ¬ kS tp s = 0 := by
  have h0 : ¬ kS tp s = 0 := by have := wS_k hw h; omega
  have h1 := kT_n0 h0
  have h2 := sT_ge tp s.1
  exact ⟨by omega, h0⟩
theorem prL_g {d : Nat} (h8 : tp.1 ≤ 800) (hS : gS tp S dS true d) : ∀ (f : Nat) (s : zP), tp.1 < f + s.1 → 1 ≤ f → 7 ≤ d + 1 + s.2.2.1 → s.2.2.1 ≤ 6 → gE (gL (dS s.2.2.1 - 1) true s) (prL tp S f s)
  | 0, _, _, h, _, _ => absurd h (by decide)
  | f + 1, s, hf, _, hd, ho => by
    have hD : dS s.2.2.1 = 3 * (7 - s.2.2.1) := rfl
    have turn : ∀ v, v < 6 → s.1 < tp.1 → ¬ kS tp s = 0 → gE (gL (dS s.2.2.1 - 1) true s) (bdP (paP tp S (nxP tp s)) (fun u => prL tp S f (emP v u))) := fun v hv hl hk => by
      refine gE_b (paP_g (s := nxP tp s) h8 hS hd ho) (fun u _ gu => ?_)
      have n1 := nx_gt h8 hk
      have u1 := gu.1
      have u2 : u.2.2.1 = s.2.2.1 := gu.2.1
      have h3 := prL_g h8 hS f (emP v u) (by show tp.1 < f + u.1; omega) (by omega) (by show 7 ≤ d + 1 + u.2.2.1; omega) (by show u.2.2.1 ≤ 6; omega)
      have e : dS (emP v u).2.2.1 = dS s.2.2.1 := by show dS u.2.2.1 = _; rw [u2]
      rw [e] at h3
      exact gE_w h3 (fun s' h => gL_t (D := dS s.2.2.1 - 2) (nx_d h8 hk) gu (by omega) (fun ts => ty_op hv) h)
    rw [prL]
    by_cases c1 : iS tp 42 s = true
    · rw [if_pos c1]; exact turn 2 (by decide) (iS_lt c1) (iS_n c1)
    rw [if_neg c1]
    by_cases c2 : iS tp 47 s = true
    · rw [if_pos c2]; exact turn 3 (by decide) (iS_lt c2) (iS_n c2)
    rw [if_neg c2]; exact gL_r
theorem prP_g {d : Nat} (h8 : tp.1 ≤ 800) (hS : gS tp S dS true d) (hd : 7 ≤ d + 1 + s.2.2.1) (ho : s.2.2.1 ≤ 6) : gE (gV (dS s.2.2.1 - 1) true s) (prP tp S s) := by
  have hD : dS s.2.2.1 = 3 * (7 - s.2.2.1) := rfl
  unfold prP
  refine gE_b (paP_g h8 hS hd ho) (fun u _ gu => ?_)
  have u2 : u.2.2.1 = s.2.2.1 := gu.2.1
  have h3 := prL_g h8 hS 801 u (by omega) (by decide) (by omega) (by omega)
  rw [u2] at h3
  exact gE_w h3 (fun s' h => gV_L (gV_w gu (by omega)) h)
theorem suL_g {d : Nat} (h8 : tp.1 ≤ 800) (hS : gS tp S dS true d) : ∀ (f : Nat) (s : zP), tp.1 < f + s.1 → 1 ≤ f → 7 ≤ d + 1 + s.2.2.1 → s.2.2.1 ≤ 6 → gE (gL (dS s.2.2.1) true s) (suL tp S f s)
  | 0, _, _, h, _, _ => absurd h (by decide)
  | f + 1, s, hf, _, hd, ho => by
    have hD : dS s.2.2.1 = 3 * (7 - s.2.2.1) := rfl
    have turn : ∀ v, v < 6 → s.1 < tp.1 → ¬ kS tp s = 0 → gE (gL (dS s.2.2.1) true s) (bdP (prP tp S (nxP tp s)) (fun u => suL tp S f (emP v u))) := fun v hv hl hk => by
      refine gE_b (prP_g (s := nxP tp s) h8 hS hd ho) (fun u _ gu => ?_)
      have n1 := nx_gt h8 hk
      have u1 := gu.1
      have u2 : u.2.2.1 = s.2.2.1 := gu.2.1
      have h3 := suL_g h8 hS f (emP v u) (by show tp.1 < f + u.1; omega) (by omega) (by show 7 ≤ d + 1 + u.2.2.1; omega) (by show u.2.2.1 ≤ 6; omega)
      have e : dS (emP v u).2.2.1 = dS s.2.2.1 := by show dS u.2.2.1 = _; rw [u2]
      rw [e] at h3
      exact gE_w h3 (fun s' h => gL_t (D := dS s.2.2.1 - 1) (nx_d h8 hk) gu (by omega) (fun ts => ty_op hv) h)
    rw [suL]
    by_cases c1 : iS tp 43 s = true
    · rw [if_pos c1]; exact turn 0 (by decide) (iS_lt c1) (iS_n c1)
    rw [if_neg c1]
    by_cases c2 : iS tp 45 s = true
    · rw [if_pos c2]; exact turn 1 (by decide) (iS_lt c2) (iS_n c2)
    rw [if_neg c2]; exact gL_r
theorem suP_g (h8 : tp.1 ≤ 800) : ∀ d, gS tp (suP tp d) dS true d
  | 0 => fun s h1 h2 => absurd h1 (by omega)
  | d + 1 => fun s h1 h2 => by
    have hD : dS s.2.2.1 = 3 * (7 - s.2.2.1) := rfl
    have hS := suP_g h8 d
    rw [suP]
    refine gE_b (prP_g h8 hS (by omega) h2) (fun u _ gu => ?_)
    have u2 : u.2.2.1 = s.2.2.1 := gu.2.1
    have h3 := suL_g h8 hS 801 u (by omega) (by decide) (by omega) (by omega)
    rw [u2] at h3
    exact gE_w h3 (fun s' h => gV_L (gV_w gu (by omega)) h)
/-! tests -/
theorem noG_lt {na : Nat → Nat} {v : Nat} : ∀ f k, noG na v f k = 99 ∨ (noG na v f k < k + f ∧ k ≤ noG na v f k ∧ na (noG na v f k) = v)
  | 0, _ => Or.inl rfl
  | f + 1, k => by
    rw [noG]
    by_cases c : na k = v
    · rw [if_pos c]; exact Or.inr ⟨by omega, by omega, c⟩
    · rw [if_neg c]
      rcases noG_lt (na := na) (v := v) f (k + 1) with z | z
      · exact Or.inl z
      · exact Or.inr ⟨by omega, by omega, z.2.2⟩
theorem naP_g : gE (fun v => v = vT tp s.1 ∧ kS tp s = 1 ∧ wS tp s = 99 ∧ zS tp s ≤ 6) (naP tp s) := by
  unfold naP
  by_cases c1 : kS tp s = 1 ∧ wS tp s = 99
  · rw [if_pos c1]
    by_cases c2 : zS tp s ≤ 6
    · rw [if_pos c2]; exact ⟨rfl, c1.1, c1.2, c2⟩
    · rw [if_neg c2]; exact er1
  · rw [if_neg c1]; exact er1
theorem peP_g {n but : Nat} {na : Nat → Nat} (hn : n ≤ 10) : gE (fun v => v < n ∧ kS tp s = 1) (peP tp n na but s) := by
  unfold peP
  refine gE_b naP_g (fun v _ hv => ?_)
  by_cases c : noF na n v = 99 ∨ noF na n v = but
  · rw [if_pos c]; exact (⟨by decide, by decide⟩ : 1 ≤ 3 ∧ 3 ≤ 5)
  · rw [if_neg c]
    rcases noG_lt (na := na) (v := v) n 0 with z | z
    · exact absurd (Or.inl z) c
    · exact ⟨by have := z.1; unfold noF; omega, hv.2.1⟩
theorem nuP_g {lim : Nat} : gE (fun v => v = vT tp s.1 ∧ kS tp s = 2 ∧ zS tp s ≤ 4 ∧ v ≤ lim) (nuP tp lim s) := by
  unfold nuP
  by_cases c1 : kS tp s = 2
  · rw [if_pos c1]
    by_cases c2 : zS tp s ≤ 4
    · rw [if_pos c2]
      by_cases c3 : vT tp s.1 ≤ lim
      · rw [if_pos c3]; exact ⟨rfl, c1, c2, c3⟩
      · rw [if_neg c3]; exact (⟨by decide, by decide⟩ : 1 ≤ 2 ∧ 2 ≤ 5)
    · rw [if_neg c2]; exact er1
  · rw [if_neg c1]; exact er1
theorem cmP_g (h8 : tp.1 ≤ 800) (ho : s.2.2.1 ≤ 6) : gE (gV (dF s.2.2.1) false s) (cmP tp s) := by
  have hD : dS s.2.2.1 = 3 * (7 - s.2.2.1) := rfl
  have hF : dF s.2.2.1 = 4 * (7 - s.2.2.1) := rfl
  unfold cmP
  refine gE_b (suP_g h8 9 s (by omega) ho) (fun s1 _ g1 => ?_)
  obtain ⟨a1, a2, e, a3, a4, a5⟩ := g1
  have two : ∀ v, 6 ≤ v → v < 9 → ¬ kS tp s1 = 0 → gE (gV (dF s.2.2.1) false s) (cmP2 tp v s1) := fun v h6 h9 hk => by
    unfold cmP2
    have n1 := nx_gt h8 hk
    refine gE_b (suP_g h8 9 (nxP tp s1) (by omega) (by show s1.2.2.1 ≤ 6; omega)) (fun u _ gu => ?_)
    obtain ⟨b1, b2, e', b3, b4, b5⟩ := gu
    have b2 : u.2.2.1 = s1.2.2.1 := b2
    have b3 : u.2.2.2 = s1.2.2.2 ++ e' := b3
    have hd : dS (nxP tp s1).2.2.1 = dS s.2.2.1 := by show dS s1.2.2.1 = _; rw [a2]
    rw [hd] at b5
    refine (⟨by show s.1 < u.1; omega, by show u.2.2.1 = s.2.2.1; omega, e ++ (e' ++ [v]), ?_, ?_, fun ts ht => ?_⟩ : gV (dF s.2.2.1) false s (emP v u))
    · show u.2.2.2 ++ [v] = _
      rw [b3, a3, List.append_assoc, List.append_assoc]
    · rw [List.length_append, List.length_append]
      show e.length + (e'.length + 1) + s.1 ≤ u.1
      omega
    · exact tyL_a (a5 ts (by omega)) (tyL_a (b5 (true :: ts) (by show ts.length + 1 + _ ≤ 64; omega)) (tyL_1 (ty_cm h6 h9) (by show ts.length + 1 ≤ 64; omega)))
  by_cases c1 : iS tp 60 s1 = true
  · rw [if_pos c1]; exact two 6 (by decide) (by decide) (iS_n c1)
  rw [if_neg c1]
  by_cases c2 : iS tp 62 s1 = true
  · rw [if_pos c2]; exact two 7 (by decide) (by decide) (iS_n c2)
  rw [if_neg c2]
  by_cases c3 : iS tp 61 s1 = true
  · rw [if_pos c3]; exact two 8 (by decide) (by decide) (iS_n c3)
  rw [if_neg c3]; exact er1
theorem boL_g {d : Nat} (h8 : tp.1 ≤ 800) (hS : gS tp S dF false d) : ∀ (f : Nat) (s : zP), tp.1 < f + s.1 → 1 ≤ f → 7 ≤ d + s.2.2.1 → s.2.2.1 ≤ 6 → gE (gL (dF s.2.2.1 + 1) false s) (boL tp S f s)
  | 0, _, _, h, _, _ => absurd h (by decide)
  | f + 1, s, hf, _, hd, ho => by
    rw [boL]
    by_cases c1 : wS tp s = 8
    · rw [if_pos c1]
      obtain ⟨hl, hk⟩ := wS_lt (by decide) c1
      refine gE_b (hS (nxP tp s) hd ho) (fun u _ gu => ?_)
      have n1 := nx_gt h8 hk
      have u1 := gu.1
      have u2 : u.2.2.1 = s.2.2.1 := gu.2.1
      have h3 := boL_g h8 hS f (emP 9 u) (by show tp.1 < f + u.1; omega) (by omega) (by show 7 ≤ d + u.2.2.1; omega) (by show u.2.2.1 ≤ 6; omega)
      have e : dF (emP 9 u).2.2.1 = dF s.2.2.1 := by show dF u.2.2.1 = _; rw [u2]
      rw [e] at h3
      exact gE_w h3 (fun s' h => gL_t (D := dF s.2.2.1) (nx_d h8 hk) gu (by omega) (fun ts => ty_bo (by decide) (by decide)) h)
    · rw [if_neg c1]; exact gL_r
theorem boP_g {d : Nat} (h8 : tp.1 ≤ 800) (hS : gS tp S dF false d) (hd : 7 ≤ d + s.2.2.1) (ho : s.2.2.1 ≤ 6) : gE (gV (dF s.2.2.1 + 1) false s) (boP tp S s) := by
  unfold boP
  refine gE_b (hS s hd ho) (fun u _ gu => ?_)
  have u2 : u.2.2.1 = s.2.2.1 := gu.2.1
  have h3 := boL_g h8 hS 801 u (by omega) (by decide) (by omega) (by omega)
  rw [u2] at h3
  exact gE_w h3 (fun s' h => gV_L (gV_w gu (by omega)) h)
theorem teL_g {d : Nat} (h8 : tp.1 ≤ 800) (hS : gS tp S dF false d) : ∀ (f : Nat) (s : zP), tp.1 < f + s.1 → 1 ≤ f → 7 ≤ d + s.2.2.1 → s.2.2.1 ≤ 6 → gE (gL (dF s.2.2.1 + 2) false s) (teL tp S f s)
  | 0, _, _, h, _, _ => absurd h (by decide)
  | f + 1, s, hf, _, hd, ho => by
    rw [teL]
    by_cases c1 : wS tp s = 7
    · rw [if_pos c1]
      obtain ⟨hl, hk⟩ := wS_lt (by decide) c1
      refine gE_b (boP_g (s := nxP tp s) h8 hS hd ho) (fun u _ gu => ?_)
      have n1 := nx_gt h8 hk
      have u1 := gu.1
      have u2 : u.2.2.1 = s.2.2.1 := gu.2.1
      have h3 := teL_g h8 hS f (emP 10 u) (by show tp.1 < f + u.1; omega) (by omega) (by show 7 ≤ d + u.2.2.1; omega) (by show u.2.2.1 ≤ 6; omega)
      have e : dF (emP 10 u).2.2.1 = dF s.2.2.1 := by show dF u.2.2.1 = _; rw [u2]
      rw [e] at h3
      exact gE_w h3 (fun s' h => gL_t (D := dF s.2.2.1 + 1) (nx_d h8 hk) gu (by omega) (fun ts => ty_bo (by decide) (by decide)) h)
    · rw [if_neg c1]; exact gL_r
theorem teP_g {d : Nat} (h8 : tp.1 ≤ 800) (hS : gS tp S dF false d) (hd : 7 ≤ d + s.2.2.1) (ho : s.2.2.1 ≤ 6) : gE (gV (dF s.2.2.1 + 2) false s) (teP tp S s) := by
  unfold teP
  refine gE_b (boP_g h8 hS hd ho) (fun u _ gu => ?_)
  have u2 : u.2.2.1 = s.2.2.1 := gu.2.1
  have h3 := teL_g h8 hS 801 u (by omega) (by decide) (by omega) (by omega)
  rw [u2] at h3
  exact gE_w h3 (fun s' h => gV_L (gV_w gu (by omega)) h)
theorem faP_g {d n : Nat} {na : Nat → Nat} (h8 : tp.1 ≤ 800) (hn : n ≤ 10) (hS : gS tp S dF false d) (hd : 7 ≤ d + 1 + s.2.2.1) (ho : s.2.2.1 ≤ 6) : gE (gV (dF s.2.2.1) false s) (faP tp n na S s) := by
  have hF : dF s.2.2.1 = 4 * (7 - s.2.2.1) := rfl
  unfold faP
  by_cases c1 : wS tp s = 9
  · rw [if_pos c1]
    obtain ⟨hl, hk⟩ := wS_lt (by decide) c1
    refine gE_b (toP_g h8 hk) (fun s1 _ g1 => ?_)
    have g13 := g1.2.2.1
    refine gE_b (hS s1 (by omega) (by omega)) (fun s2 _ g2 => ?_)
    obtain ⟨a1, a2, e, a3, a4, a5⟩ := g2
    have g11 := g1.1
    have hd1 : dF s1.2.2.1 ≤ dF s.2.2.1 := by show 4 * (7 - s1.2.2.1) ≤ 4 * (7 - s.2.2.1); omega
    refine (⟨by show s.1 < s2.1; omega, by show s2.2.2.1 - 1 = s.2.2.1; omega, e ++ [11], ?_, ?_, fun ts ht => ?_⟩ : gV (dF s.2.2.1) false s (emP 11 (dnP s2)))
    · show s2.2.2.2 ++ [11] = _
      rw [a3, g1.2.2.2, List.append_assoc]
    · rw [List.length_append]
      show e.length + 1 + s.1 ≤ s2.1
      omega
    · exact tyL_a (a5 ts (by omega)) (tyL_1 ty_no (by show ts.length + 1 ≤ 64; omega))
  rw [if_neg c1]
  by_cases c2 : iS tp 91 s = true
  · rw [if_pos c2]
    refine gE_b (toP_g h8 (iS_n c2)) (fun s1 _ g1 => ?_)
    have g12 := g1.2.1
    have g13 := g1.2.2.1
    refine gE_b (teP_g h8 hS (by omega) (by omega)) (fun s2 _ g2 => ?_)
    have hd1 : dF s1.2.2.1 + 2 ≤ dF s.2.2.1 := by show 4 * (7 - s1.2.2.1) + 2 ≤ 4 * (7 - s.2.2.1); omega
    exact gE_w (tsP_g (c := 93) h8) (fun s3 g3 => gV_w (gV_in g1 g2 g3) hd1)
  rw [if_neg c2]
  by_cases c3 : wS tp s = 10
  · rw [if_pos c3]
    exact gV_leaf h8 (wS_lt (by decide) c3).2 (fun ts => ty_al) (by omega)
  rw [if_neg c3]
  by_cases c4 : wS tp s = 11
  · rw [if_pos c4]
    have n1 := nx_gt h8 (wS_lt (by decide) c4).2
    refine gE_b (peP_g (s := nxP tp s) hn) (fun v _ hv => ?_)
    have hv1 := hv.1
    have n2 := nx_gt (s := nxP tp s) h8 (by have := hv.2; omega)
    exact (⟨by show s.1 < (nxP tp (nxP tp s)).1; omega, rfl, [30 + v], rfl, by show 1 + s.1 ≤ (nxP tp (nxP tp s)).1; omega, fun ts ht => tyL_1 (ty_is (by omega) (by omega)) (by show ts.length + 1 ≤ 64; omega)⟩ : gV (dF s.2.2.1) false s (nxP tp (emP (30 + v) (nxP tp s))))
  rw [if_neg c4]
  exact cmP_g h8 ho
theorem fcP_g {n : Nat} {na : Nat → Nat} (h8 : tp.1 ≤ 800) (hn : n ≤ 10) : ∀ d, gS tp (fcP tp n na d) dF false d
  | 0 => fun s h1 h2 => absurd h1 (by omega)
  | d + 1 => fun s h1 h2 => by
    rw [fcP]
    exact faP_g h8 hn (fcP_g h8 hn d) (by omega) h2
end gd
