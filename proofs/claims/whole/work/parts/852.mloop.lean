/-! the reference reads products and sums: loops -/
def okP (P : List Nat) : Prop := P = [] ∨ P = [2] ∨ P = [3]
def okA (P : List Nat) : Prop := P = [] ∨ P = [0] ∨ P = [1]
theorem okP_4 {P : List Nat} (h : okP P) : ∀ v, v ∈ P → v = 2 ∨ v = 3 := fun v hv => by
  rcases h with e | e | e
  · rw [e] at hv; exact absurd hv (List.not_mem_nil)
  · rw [e] at hv; exact Or.inl (List.mem_singleton.mp hv)
  · rw [e] at hv; exact Or.inr (List.mem_singleton.mp hv)
theorem okA_4 {P : List Nat} (h : okA P) : ∀ v, v ∈ P → v = 0 ∨ v = 1 := fun v hv => by
  rcases h with e | e | e
  · rw [e] at hv; exact absurd hv (List.not_mem_nil)
  · rw [e] at hv; exact Or.inl (List.mem_singleton.mp hv)
  · rw [e] at hv; exact Or.inr (List.mem_singleton.mp hv)
theorem okPA {P A : List Nat} (h : okP P) (h2 : okA A) : ∀ v, v ∈ P ++ A → v < 4 := fun v hv => by
  rcases List.mem_append.mp hv with z | z
  · have := okP_4 h v z; omega
  · have := okA_4 h2 v z; omega
theorem nhd_34 {A St : List Nat} (h : okA A) (hX : nhd [1, 2, 3, 4] St) : nhd [3, 4] (A.map gR ++ St) := fun v S' e => by
  rcases h with z | z | z
  · rw [z] at e
    have h1 := hX v S' e
    exact ⟨fun y => h1.1 (by simp only [List.mem_cons, List.not_mem_nil, or_false] at y ⊢; omega), h1.2⟩
  · rw [z] at e
    have e : gR 0 :: St = v :: S' := e
    injection e with e1 e2
    rw [← e1]; exact ⟨by decide, by decide⟩
  · rw [z] at e
    have e : gR 1 :: St = v :: S' := e
    injection e with e1 e2
    rw [← e1]; exact ⟨by decide, by decide⟩
theorem map_a {P A St : List Nat} : P.map gR ++ (A.map gR ++ St) = (P ++ A).map gR ++ St := by rw [List.map_append, List.append_assoc]
section mu
variable {N : Nat} {Q : zSt → Prop} {x1 : Int32} {tp : Nat × (Nat → Nat)} {μ ν υ : zSt} {s u : zP} {St L A : List Nat} {b m d : Nat} {S : zP → zE}
theorem m_prL (hN : 1100 < N) (hS : mSum N Q x1 tp S d) (hG : gS tp S dS true d) (hA : okA A) (hl : lvl St b m) (hX : nhd [1, 2, 3, 4] St) : ∀ (f' : Nat) (s : zP) (ν : zSt) (P : List Nat), tp.1 < f' + s.1 → 1 ≤ f' → okP P → mKp ν tp s P (A.map gR ++ St) b → 7 ≤ d + 1 + s.2.2.1 → mC ν (prL tp S f' s) (fun u υ => ∀ P', okP P' → mKp υ tp u P' (A.map gR ++ St) b → iS tp 42 u = false → iS tp 47 u = false → PC N Q x1 tp u υ) (FF Q x1) → PC N Q x1 tp s ν
  | 0, _, _, _, _, h, _, _, _, _ => absurd h (by decide)
  | f' + 1, s, ν, P, hf', _, hP, kp, hd, hC => by
    rw [prL] at hC
    have turn : ∀ v, (v = 2 ∧ iS tp 42 s = true) ∨ (v = 3 ∧ iS tp 47 s = true) → mC ν (bdP (paP tp S (nxP tp s)) (fun u => prL tp S f' (emP v u))) (fun u υ => ∀ P', okP P' → mKp υ tp u P' (A.map gR ++ St) b → iS tp 42 u = false → iS tp 47 u = false → PC N Q x1 tp u υ) (FF Q x1) → PC N Q x1 tp s ν := fun v hv hq f g hf hg => by
      obtain ⟨c, hc, hk⟩ := kp
      have h8 := hk.1.1
      have ho : s.2.2.1 ≤ 6 := hk.2.2.1.1
      have hk0 : ¬ kS tp s = 0 := by rcases hv with z | z <;> exact iS_n z.2
      have hlt : s.1 < tp.1 := by rcases hv with z | z <;> exact iS_lt z.2
      have n41 : iS tp 41 s = false := by rcases hv with z | z <;> exact iS_ne z.2 (by decide)
      have n1 := nx_gt h8 hk0
      rw [map_a] at hk
      refine m_c0 hN hk hl (P20 (okPA hP hA)) (by omega) (fun z => absurd (show iS tp 41 s = true from z) (by rw [n41]; decide)) (fun ν1 f1 k1 => ?_)
      rw [← map_a] at k1
      refine m_118m hN k1 (okP_4 hP) (nhd_34 hA hX) hv (fun ν2 f2 k2 => ?_)
      rw [mKp_e hc] at k2
      have hbl := lvl_b hl
      have po : PO N Q x1 tp (nxP tp s) ν2 := by
        refine m_part hN hS hG k2 (by show b ≤ (A.map gR ++ St).length + 1; rw [List.length_append]; omega) hd (mC_b (mC_t (mFr_t f1 f2) hq) (fun u ν3 e3 f3 q3 k3 => ?_))
        have g3 := gE_o (paP_g (s := nxP tp s) h8 hG hd ho) e3
        have o3 : u.2.2.1 = s.2.2.1 := g3.2.1
        have p3 := g3.1
        have := m_prL hN hS hG hA hl hX f' (emP v u) ν3 [v] (by show tp.1 < f' + u.1; omega) (by omega) (by rcases hv with z | z <;> rw [z.1]; exact Or.inr (Or.inl rfl); exact Or.inr (Or.inr rfl)) ⟨u.2.2.2, rfl, k3⟩ (by show 7 ≤ d + 1 + u.2.2.1; omega) q3
        exact this
      exact ⟨fun z => absurd z (by decide), fun _ => sums_o (u := nxP tp s) hN h8 (by omega) (mK_le k2) (by omega) k2.2.1.2.1 po (by omega)⟩
    by_cases c1 : iS tp 42 s = true
    · rw [if_pos c1] at hC; exact turn 2 (Or.inl ⟨rfl, c1⟩) hC
    rw [if_neg c1] at hC
    by_cases c2 : iS tp 47 s = true
    · rw [if_pos c2] at hC; exact turn 3 (Or.inr ⟨rfl, c2⟩) hC
    rw [if_neg c2] at hC
    exact hC.1 s ν rfl mFr_r P hP kp (by simpa using c1) (by simpa using c2)
theorem m_prP (hN : 1100 < N) (hS : mSum N Q x1 tp S d) (hG : gS tp S dS true d) (hA : okA A) (hl : lvl St b m) (hX : nhd [1, 2, 3, 4] St) (h : mK μ tp s (A.map gR ++ St) b) (hd : 7 ≤ d + 1 + s.2.2.1) (hC : mC μ (prP tp S s) (fun u υ => ∀ P', okP P' → mKp υ tp u P' (A.map gR ++ St) b → iS tp 42 u = false → iS tp 47 u = false → PC N Q x1 tp u υ) (FF Q x1)) : PO N Q x1 tp s μ := by
  have h8 := h.1.1
  have ho : s.2.2.1 ≤ 6 := h.2.2.1.1
  have hbl := lvl_b hl
  unfold prP at hC
  refine m_part hN hS hG h (by rw [List.length_append]; omega) hd (mC_b hC (fun u ν e f q k => ?_))
  have g3 := gE_o (paP_g h8 hG hd ho) e
  have o3 : u.2.2.1 = s.2.2.1 := g3.2.1
  exact m_prL hN hS hG hA hl hX 801 u ν [] (by omega) (by decide) (Or.inl rfl) ⟨u.2.2.2, by rw [List.append_nil], k⟩ (by omega) q
theorem m_suL (hN : 1100 < N) (hS : mSum N Q x1 tp S d) (hG : gS tp S dS true d) (hl : lvl St b m) (hX : nhd [1, 2, 3, 4] St) : ∀ (f' : Nat) (s : zP) (ν : zSt) (P A : List Nat), tp.1 < f' + s.1 → 1 ≤ f' → okP P → okA A → mKp ν tp s (P ++ A) St b → iS tp 42 s = false → iS tp 47 s = false → 7 ≤ d + 1 + s.2.2.1 → mC ν (suL tp S f' s) (fun u υ => ∀ L, (∀ v, v ∈ L → v < 4) → mKp υ tp u L St b → nop tp u → PC N Q x1 tp u υ) (FF Q x1) → PC N Q x1 tp s ν
  | 0, _, _, _, _, _, h, _, _, _, _, _, _, _ => absurd h (by decide)
  | f' + 1, s, ν, P, A, hf', _, hP, hA, kp, h42, h47, hd, hC => by
    rw [suL] at hC
    have turn : ∀ v, (v = 0 ∧ iS tp 43 s = true) ∨ (v = 1 ∧ iS tp 45 s = true) → mC ν (bdP (prP tp S (nxP tp s)) (fun u => suL tp S f' (emP v u))) (fun u υ => ∀ L, (∀ v, v ∈ L → v < 4) → mKp υ tp u L St b → nop tp u → PC N Q x1 tp u υ) (FF Q x1) → PC N Q x1 tp s ν := fun v hv hq f g hf hg => by
      obtain ⟨c, hc, hk⟩ := kp
      have h8 := hk.1.1
      have ho : s.2.2.1 ≤ 6 := hk.2.2.1.1
      have hk0 : ¬ kS tp s = 0 := by rcases hv with z | z <;> exact iS_n z.2
      have hlt : s.1 < tp.1 := by rcases hv with z | z <;> exact iS_lt z.2
      have n41 : iS tp 41 s = false := by rcases hv with z | z <;> exact iS_ne z.2 (by decide)
      have n1 := nx_gt h8 hk0
      refine m_c0 hN hk hl (P20 (okPA hP hA)) (by omega) (fun z => absurd (show iS tp 41 s = true from z) (by rw [n41]; decide)) (fun ν1 f1 k1 => ?_)
      refine m_118p hN k1 (okPA hP hA) hX h42 h47 hv (fun ν2 f2 k2 => ?_)
      rw [mKp_e hc] at k2
      have hAv : okA [v] := by rcases hv with z | z <;> rw [z.1]; exact Or.inr (Or.inl rfl); exact Or.inr (Or.inr rfl)
      have po : PO N Q x1 tp (nxP tp s) ν2 := by
        refine m_prP (A := [v]) hN hS hG hAv hl hX k2 hd (mC_b (mC_t (mFr_t f1 f2) hq) (fun u ν3 e3 f3 q3 P' hP' kp' g42 g47 => ?_))
        have g3 := gE_o (prP_g (s := nxP tp s) h8 hG hd ho) e3
        have o3 : u.2.2.1 = s.2.2.1 := g3.2.1
        have p3 := g3.1
        obtain ⟨c', hc', hk'⟩ := kp'
        rw [map_a] at hk'
        have := m_suL hN hS hG hl hX f' (emP v u) ν3 P' [v] (by show tp.1 < f' + u.1; omega) (by omega) hP' hAv ⟨c', by show u.2.2.2 ++ [v] = _; rw [hc', List.append_assoc], hk'⟩ g42 g47 (by show 7 ≤ d + 1 + u.2.2.1; omega) q3
        exact this
      exact ⟨fun z => absurd z (by decide), fun _ => sums_o (u := nxP tp s) hN h8 (by omega) (mK_le k2) (by omega) k2.2.1.2.1 po (by omega)⟩
    by_cases c1 : iS tp 43 s = true
    · rw [if_pos c1] at hC; exact turn 0 (Or.inl ⟨rfl, c1⟩) hC
    rw [if_neg c1] at hC
    by_cases c2 : iS tp 45 s = true
    · rw [if_pos c2] at hC; exact turn 1 (Or.inr ⟨rfl, c2⟩) hC
    rw [if_neg c2] at hC
    exact hC.1 s ν rfl mFr_r (P ++ A) (okPA hP hA) kp ⟨h42, h47, by simpa using c1, by simpa using c2⟩
theorem m_sumD (hN : 1100 < N) (h8 : tp.1 ≤ 800) : ∀ d, mSum N Q x1 tp (suP tp d) d
  | 0 => fun μ s St b m h hl hX hd hC => by
    have : s.2.2.1 ≤ 6 := h.2.2.1.1
    omega
  | d + 1 => fun μ s St b m h hl hX hd hC => by
    have hS := m_sumD hN h8 d
    have hG := suP_g (tp := tp) h8 d
    have ho : s.2.2.1 ≤ 6 := h.2.2.1.1
    rw [suP] at hC
    refine m_prP (A := []) hN hS hG (Or.inl rfl) hl hX h (by omega) (mC_b hC (fun u ν e f q P' hP' kp' g42 g47 => ?_))
    have g3 := gE_o (prP_g h8 hG (by omega) ho) e
    have o3 : u.2.2.1 = s.2.2.1 := g3.2.1
    exact m_suL hN hS hG hl hX 801 u ν P' [] (by omega) (by decide) hP' (Or.inl rfl) (by rw [List.append_nil]; exact kp') g42 g47 (by omega) q
/-- sums -/
theorem m_sums (hN : 1100 < N) (h : mK μ tp s St b) (hX : nhd [1, 2, 3, 4] St) (hC : mC μ (suP tp 9 s) (fun u ν => mK ν tp u St b → Q ν) Q) : w_X12_sums N μ Q := by
  have h8 := h.1.1
  have hle := mK_le h
  obtain ⟨a1, a2, a3, a4, a5, a6, a7⟩ := h
  unfold w_X12_sums
  rw [a5, a4.1]
  refine nm_e (nm_e ?_)
  have k1 : mK (zI μ 13 (nI St.length)) tp s St St.length := ⟨a1, a2, a3, a4, rfl, a6, a7⟩
  have F1 : mFr μ (zI μ 13 (nI St.length)) := mFr_f (I := [13]) (fr_I fr_r (by decide)) (subl rfl)
  have hl : lvl St St.length 99 := Or.inl ⟨rfl, rfl⟩
  have back : ∀ ν, mFr ν (zI ν 13 (nI b)) := fun ν => mFr_f (I := [13]) (fr_I fr_r (by decide)) (subl rfl)
  have po : PO N Q (nI b) tp s (zI μ 13 (nI St.length)) := by
    refine m_sumD hN h8 9 _ s St St.length 99 k1 hl hX (by omega) ⟨fun u ν e f P hP kp hn => ?_, fun e ν he f hb => hC.2 e _ he (mFr_t F1 (mFr_t f (back ν))) hb⟩
    intro f2 g2 hf2 hg2
    obtain ⟨c, hc, hk⟩ := kp
    have hle2 : u.1 ≤ tp.1 := hk.2.1.1
    refine m_c0 hN hk hl (P20 hP) (by omega) (fun _ => by omega) (fun ν2 f3 k3 => m_118n hN k3 hl (P20 hP) hn (fun _ ν3 f4 k4 => ⟨fun _ => ?_, fun z => absurd rfl z⟩) (fun e => by omega) (fun e => by omega))
    have hf1 : 1 ≤ f2 := by omega
    obtain ⟨f5, rfl⟩ : ∃ f5, f2 = f5 + 1 := ⟨f2 - 1, by omega⟩
    show b_X12_sums_15 N (w_X12_sums_15 N Q f5) Q (nI b) (0 : Int32) ν3
    unfold b_X12_sums_15
    have hbd := mK_bd k4
    have hll : (P.map gR ++ St).length = P.length + St.length := by rw [List.length_append, List.length_map]
    refine br_t rfl (m_toBase rfl P N ν3 _ (by omega) k4 (fun ν4 f5 k5 => ?_))
    rw [mKp_e hc] at k5
    obtain ⟨b1, b2, b3, b4, b5, b6, b7⟩ := k5
    exact hC.1 u _ e (mFr_t F1 (mFr_t f (mFr_t f3 (mFr_t f4 (mFr_t f5 (back ν4)))))) ⟨b1, b2, b3, b4, rfl, b6, b7⟩
  exact sums_o (u := s) hN h8 (by omega) hle (by omega) k1.2.1.2.1 po (by omega)
end mu
