/-! new TieStreet(): what it leaves -/
def chN (i : Nat) : Nat := ([119, 104, 111, 32, 97, 116, 32, 99, 111, 115, 116, 32, 119, 104, 101, 110, 32, 110, 101, 119, 115, 32, 98, 97, 114, 32, 109, 111, 115, 116, 32, 111, 114, 32, 97, 110, 100, 32, 110, 111, 116, 32, 97, 108, 108, 32, 105, 115, 32, 119, 97, 121, 115, 32, 109, 105, 108, 101, 115, 32, 109, 105, 110, 101, 32, 116, 104, 101, 105, 114, 115, 32, 116, 105, 101, 115, 32, 109, 105, 110, 32, 109, 97, 120, 32] : List Nat).getD i 0
def rdN : Nat → Nat × Nat
  | 0 => (0, 30)
  | i + 1 => if chN i = 32 then ((rdN i).1 + 1, 30) else ((rdN i).1, (rdN i).2 - 5)
def rdA : Nat → Nat → Nat
  | 0, _ => 0
  | i + 1, k => if chN i = 32 then rdA i k else if k = (rdN i).1 then rdA i k ||| ((chN i - 96) * 2 ^ ((rdN i).2 - 5)) else rdA i k
theorem rd_c : ((List.range 85).all fun i => decide (zch (nI i) = nI (chN i)) && decide ((rdN i).1 < 19)) = true := by decide +kernel
theorem rd_d : ((List.range 85).all fun i => decide (chN i = 32) || (decide (¬ nI (chN i) = (32 : Int32)) && (decide (nI (rdN i).2 + (-5 : Int32) = nI ((rdN i).2 - 5)) && decide (((nI (chN i) - (97 : Int32)) + (1 : Int32)) <<< ((nI (rdN i).2 + (-5 : Int32)) &&& 31) = nI ((chN i - 96) * 2 ^ ((rdN i).2 - 5)))))) = true := by decide +kernel
theorem rd_own : ((List.range 19).all fun k => decide (rdA 85 k = owdN k)) = true := by decide +kernel
theorem rd_c1 {i : Nat} (hi : i < 85) : zch (nI i) = nI (chN i) ∧ (rdN i).1 < 19 := by
  have h := List.all_eq_true.mp rd_c i (List.mem_range.mpr hi)
  rw [Bool.and_eq_true, decide_eq_true_eq, decide_eq_true_eq] at h
  exact h
theorem rd_d1 {i : Nat} (hi : i < 85) (hq : ¬ chN i = 32) : ¬ nI (chN i) = (32 : Int32) ∧ nI (rdN i).2 + (-5 : Int32) = nI ((rdN i).2 - 5) ∧ ((nI (chN i) - (97 : Int32)) + (1 : Int32)) <<< ((nI (rdN i).2 + (-5 : Int32)) &&& 31) = nI ((chN i - 96) * 2 ^ ((rdN i).2 - 5)) := by
  have h := List.all_eq_true.mp rd_d i (List.mem_range.mpr hi)
  rw [decide_eq_false hq, Bool.false_or, Bool.and_eq_true, Bool.and_eq_true, decide_eq_true_eq, decide_eq_true_eq, decide_eq_true_eq] at h
  exact h
theorem rd_o1 {k : Nat} (hk : k < 19) : rdA 85 k = owdN k := of_decide_eq_true (List.all_eq_true.mp rd_own k (List.mem_range.mpr hk))
section xn
variable {N : Nat} {σ τ : zSt} {Q : zSt → Prop}
theorem x_words (hN : 100 < N) (h0 : ∀ k, σ.2.2.1 0 k = 0) (hQ : ∀ τ, fr [] [] [0] [] σ τ → (∀ i, i < 19 → τ.2.2.1 0 i = nI (owdN i)) → Q τ) : w_X5_init_49 N Q N (0 : Int32) (30 : Int32) (0 : Int32) σ := by
  refine loopU (fun f i (s : zSt) => w_X5_init_49 N Q f (nI (rdN i).1) (nI (rdN i).2) (nI i) s) (fun i s => fr [] [] [0] [] σ s ∧ ∀ k, k < 19 → s.2.2.1 0 k = nI (rdA i k)) 85 ?_ ?_ N 0 σ (Nat.zero_le _) (by omega) ⟨fr_r, fun k _ => h0 k⟩
  · intro f s hs
    show b_X5_init_49 N (w_X5_init_49 N Q f) Q (nI (rdN 85).1) (nI (rdN 85).2) (nI 85) s
    unfold b_X5_init_49
    exact br_t (nI_le (Nat.le_refl _) (by omega)) (hQ s hs.1 (fun i hi => by rw [hs.2 i hi, rd_o1 hi]))
  · intro f i s hi hs ih
    obtain ⟨c1, c2⟩ := rd_c1 hi
    show b_X5_init_49 N (w_X5_init_49 N Q f) Q (nI (rdN i).1) (nI (rdN i).2) (nI i) s
    unfold b_X5_init_49
    rw [nI_clamp (n := (rdN i).1) (by omega), c1]
    refine br_f (show ¬ nI 85 ≤ nI i from nI_ge hi (by omega)) (br_f (show ¬ nI 19 ≤ nI (rdN i).1 from nI_ge c2 (by omega)) ⟨vp_in_nI hi (by decide), nm_e ?_⟩)
    by_cases q : chN i = 32
    · refine br_t (by rw [q]; rfl) (nm_e (nm_e ?_))
      rw [nI_1, nI_1]
      have e : rdN (i + 1) = ((rdN i).1 + 1, 30) := by
        show (if chN i = 32 then ((rdN i).1 + 1, 30) else ((rdN i).1, (rdN i).2 - 5)) = _
        rw [if_pos q]
      have h := ih s ⟨hs.1, fun k hk => by
        rw [hs.2 k hk]
        show nI (rdA i k) = nI (if chN i = 32 then rdA i k else if k = (rdN i).1 then rdA i k ||| ((chN i - 96) * 2 ^ ((rdN i).2 - 5)) else rdA i k)
        rw [if_pos q]⟩
      rw [e] at h
      exact h
    · obtain ⟨d0, d1, d2⟩ := rd_d1 hi q
      refine br_f d0 (nm_e ⟨vp_in_nI c2 (by decide), vp_in_nI c2 (by decide), nm_e (nm_e ?_)⟩)
      rw [d2, d1, nI_1]
      have e : rdN (i + 1) = ((rdN i).1, (rdN i).2 - 5) := by
        show (if chN i = 32 then ((rdN i).1 + 1, 30) else ((rdN i).1, (rdN i).2 - 5)) = _
        rw [if_neg q]
      have h := ih (zA s 0 (upd (s.2.2.1 0) (rdN i).1 (s.2.2.1 0 (rdN i).1 ||| nI ((chN i - 96) * 2 ^ ((rdN i).2 - 5))))) ⟨fr_A hs.1 (by decide), fun k hk => by
        show upd (s.2.2.1 0) (rdN i).1 (s.2.2.1 0 (rdN i).1 ||| nI ((chN i - 96) * 2 ^ ((rdN i).2 - 5))) k = nI (if chN i = 32 then rdA i k else if k = (rdN i).1 then rdA i k ||| ((chN i - 96) * 2 ^ ((rdN i).2 - 5)) else rdA i k)
        rw [if_neg q]
        by_cases z : k = (rdN i).1
        · rw [if_pos z, z, pk_us, hs.2 _ c2, fa_or]
        · rw [if_neg z, pk_un z, hs.2 k hk]⟩
      rw [e] at h
      exact h
end xn
def cnU (s p : Nat) : Nat := (if s.testBit (loN p) = true then 1 else 0) + (if s.testBit (hiN p) = true then 1 else 0)
def fIn (s : Nat) : Nat → Nat := msk (fun k => s.testBit (loN k) && s.testBit (hiN k))
def fTo (s : Nat) : Nat → Nat := msk (fun k => s.testBit (loN k) || s.testBit (hiN k))
theorem ch_all : ((List.range 32).all fun s => (List.range 10).all fun p => decide (((nI s >>> (nI (loN p) &&& 31)) &&& (1 : Int32)) + ((nI s >>> (nI (hiN p) &&& 31)) &&& (1 : Int32)) = nI (cnU s p)) && (decide (fIn s p ||| (if cnU s p = 2 then 2 ^ p else 0) = fIn s (p + 1)) && (decide (fTo s p ||| (if cnU s p < 1 then 0 else 2 ^ p) = fTo s (p + 1)) && decide (cnU s p ≤ 2)))) = true := by decide +kernel
theorem ch_1 {s p : Nat} (hs : s < 32) (hp : p < 10) : ((nI s >>> (nI (loN p) &&& 31)) &&& (1 : Int32)) + ((nI s >>> (nI (hiN p) &&& 31)) &&& (1 : Int32)) = nI (cnU s p) ∧ fIn s p ||| (if cnU s p = 2 then 2 ^ p else 0) = fIn s (p + 1) ∧ fTo s p ||| (if cnU s p < 1 then 0 else 2 ^ p) = fTo s (p + 1) ∧ cnU s p ≤ 2 := by
  have h := List.all_eq_true.mp (List.all_eq_true.mp ch_all s (List.mem_range.mpr hs)) p (List.mem_range.mpr hp)
  rw [Bool.and_eq_true, Bool.and_eq_true, Bool.and_eq_true, decide_eq_true_eq, decide_eq_true_eq, decide_eq_true_eq, decide_eq_true_eq] at h
  exact h
def cPo (s p t : Nat) : Nat := if t < s then 10 else if t = s then p else 0
theorem cPo_s (s p : Nat) : cPo s p s = p := by
  unfold cPo
  rw [if_neg (Nat.lt_irrefl _), if_pos rfl]
theorem cPo_n {s p q t : Nat} (h : ¬ t = s) : cPo s p t = cPo s q t := by
  unfold cPo
  rw [if_neg h, if_neg h]
theorem cPo_u (s t : Nat) : cPo (s + 1) 0 t = cPo s 10 t := by
  unfold cPo
  by_cases h : t < s
  · rw [if_pos h, if_pos (by omega)]
  · by_cases h2 : t = s
    · rw [if_pos (by omega), if_neg h, if_pos h2]
    · rw [if_neg (by omega), if_neg h, if_neg h2]
      by_cases h3 : t = s + 1
      · rw [if_pos h3]
      · rw [if_neg h3]
def cSt (σ : zSt) (s p : Nat) : Prop := ∀ t, σ.2.2.2 0 t = lN (fIn t (cPo s p t)) ∧ σ.2.2.2 1 t = lN (fTo t (cPo s p t))
section xo
variable {N : Nat} {σ τ : zSt} {Q : zSt → Prop}
theorem x_118 {k48 : Int32 → zSt → Prop} {k57 : Int32 → Int32 → zSt → Prop} {s p : Nat} (hs : s < 32) (hp : p < 10) (h : cSt σ s p) (hk : ∀ τ, fr [] [] [] [0, 1] σ τ → cSt τ s (p + 1) → k57 (nI s) (nI (p + 1)) τ) : b_X0_init_118 N k48 k57 Q (nI s) (nI p) (nI (cnU s p)) (lN (if cnU s p = 2 then 2 ^ p else 0)) (σ.2.2.2 0 s) (nI s) σ := by
  obtain ⟨c1, c2, c3, c4⟩ := ch_1 hs hp
  have fin : ∀ v : Nat, v = (if cnU s p < 1 then 0 else 2 ^ p) → k57 (nI s) (nI (p + 1)) (zB (zB σ 0 (vp_updL (σ.2.2.2 0) s (σ.2.2.2 0 s ||| lN (if cnU s p = 2 then 2 ^ p else 0)))) 1 (vp_updL (σ.2.2.2 1) s (σ.2.2.2 1 s ||| lN v))) := by
    intro v hv
    refine hk _ (fr_B (fr_B fr_r (by decide)) (by decide)) (fun t => ?_)
    show vp_updL (σ.2.2.2 0) s (σ.2.2.2 0 s ||| lN (if cnU s p = 2 then 2 ^ p else 0)) t = _ ∧ vp_updL (σ.2.2.2 1) s (σ.2.2.2 1 s ||| lN v) t = _
    by_cases q : t = s
    · rw [q, pk_uLs, pk_uLs, (h s).1, (h s).2, fb_orL, fb_orL, cPo_s, cPo_s, c2, hv, c3]
      exact ⟨rfl, rfl⟩
    · rw [pk_uLn q, pk_uLn q, (h t).1, (h t).2, cPo_n (p := p) (q := p + 1) q]
      exact ⟨rfl, rfl⟩
  unfold b_X0_init_118
  rw [nI_clamp (n := s) (by omega), nI_1, oneJ (by omega)]
  refine ⟨vp_in_nI hs (by decide), nm_e ⟨vp_in_nI hs (by decide), ?_⟩⟩
  by_cases q : cnU s p < 1
  · exact br_t ((nI_ltI (a := cnU s p) (b := 1) (by omega) (by omega)).mpr q) ⟨vp_in_nI hs (by decide), nm_e (nm_e (fin 0 (by rw [if_pos q])))⟩
  · exact br_f (fun z => q ((nI_ltI (a := cnU s p) (b := 1) (by omega) (by omega)).mp z)) ⟨vp_in_nI hs (by decide), nm_e (nm_e (fin (2 ^ p) (by rw [if_neg q])))⟩
def xLH (σ : zSt) : Prop := ∀ p, p < 45 → σ.2.2.1 3 p = nI (loN p) ∧ σ.2.2.1 4 p = nI (hiN p)
theorem x_57 {k48 : Int32 → zSt → Prop} {s : Nat} (hN : 100 < N) (hs : s < 32) (hL : xLH σ) (h : cSt σ s 0) (hk : ∀ τ, fr [] [] [] [0, 1] σ τ → cSt τ (s + 1) 0 → k48 (nI (s + 1)) τ) : w_X0_init_57 N k48 Q N (nI s) (0 : Int32) σ := by
  have e10 : ((5 : Int32) * ((5 : Int32) - (1 : Int32))) / (2 : Int32) = nI 10 := by decide
  refine loopU (fun f i (τ : zSt) => w_X0_init_57 N k48 Q f (nI s) (nI i) τ) (fun i τ => fr [] [] [] [0, 1] σ τ ∧ cSt τ s i) 10 ?_ ?_ N 0 σ (Nat.zero_le _) (by omega) ⟨fr_r, h⟩
  · intro f τ hτ
    show b_X0_init_57 N k48 (w_X0_init_57 N k48 Q f) Q (nI s) (nI 10) τ
    unfold b_X0_init_57 w_X3_count_2
    rw [e10, nI_1]
    exact br_t (nI_le (Nat.le_refl _) (by omega)) (nm_e (hk τ hτ.1 (fun t => by rw [cPo_u]; exact hτ.2 t)))
  · intro f i τ hi hτ ih
    obtain ⟨c1, c2, c3, c4⟩ := ch_1 hs hi
    show b_X0_init_57 N k48 (w_X0_init_57 N k48 Q f) Q (nI s) (nI i) τ
    unfold b_X0_init_57 w_X3_count_2
    have l1 : τ.2.2.1 3 i = nI (loN i) := by rw [hτ.1.2.2.1 3 (by decide)]; exact (hL i (by omega)).1
    have l2 : τ.2.2.1 4 i = nI (hiN i) := by rw [hτ.1.2.2.1 4 (by decide)]; exact (hL i (by omega)).2
    rw [e10]
    dsimp only
    rw [nI_clamp (n := i) (by omega), l1, l2, c1, nI_clamp (n := s) (by omega), oneJ (by omega)]
    refine br_f (nI_ge hi (by omega)) ⟨vp_in_nI (by omega) (by decide), vp_in_nI (by omega) (by decide), nm_e ⟨vp_in_nI hs (by decide), ?_⟩⟩
    have g : b_X0_init_118 N k48 (w_X0_init_57 N k48 Q f) Q (nI s) (nI i) (nI (cnU s i)) (lN (if cnU s i = 2 then 2 ^ i else 0)) (τ.2.2.2 0 s) (nI s) τ := x_118 hs hi hτ.2 (fun υ fυ hυ => ih υ ⟨fr_t hτ.1 fυ, hυ⟩)
    by_cases q : cnU s i = 2
    · rw [if_pos q] at g
      exact br_t (by rw [q]; rfl) g
    · rw [if_neg q] at g
      exact br_f (fun z => q ((nI_eq (a := cnU s i) (b := 2) (by omega) (by omega)).mp z)) g
theorem x_sets (hN : 100 < N) (hL : xLH σ) (h0 : ∀ t, σ.2.2.2 0 t = 0 ∧ σ.2.2.2 1 t = 0) (hQ : ∀ τ, fr [] [] [] [0, 1] σ τ → (∀ s, s < 32 → τ.2.2.2 0 s = lN (insM s) ∧ τ.2.2.2 1 s = lN (touM s)) → Q τ) : w_X0_init_48 N Q N (0 : Int32) σ := by
  refine loopU (fun f i (τ : zSt) => w_X0_init_48 N Q f (nI i) τ) (fun i τ => fr [] [] [] [0, 1] σ τ ∧ cSt τ i 0) 32 ?_ ?_ N 0 σ (Nat.zero_le _) (by omega) ⟨fr_r, fun t => ?_⟩
  · intro f τ hτ
    show b_X0_init_48 N (w_X0_init_48 N Q f) Q (nI 32) τ
    unfold b_X0_init_48
    refine br_t (nI_le (Nat.le_refl _) (by omega)) (hQ τ hτ.1 (fun s hs => ?_))
    have h := hτ.2 s
    rw [show cPo 32 0 s = 10 from if_pos hs] at h
    exact h
  · intro f i τ hi hτ ih
    show b_X0_init_48 N (w_X0_init_48 N Q f) Q (nI i) τ
    unfold b_X0_init_48
    refine br_f (show ¬ nI 32 ≤ nI i from nI_ge hi (by omega)) (x_57 hN hi (fun p hp => ?_) hτ.2 (fun υ fυ hυ => ih υ ⟨fr_t hτ.1 fυ, hυ⟩))
    rw [hτ.1.2.2.1 3 (by decide), hτ.1.2.2.1 4 (by decide)]
    exact hL p hp
  · have e : cPo 0 0 t = 0 := by
      unfold cPo
      rw [if_neg (Nat.not_lt_zero _)]
      by_cases z : t = 0
      · rw [if_pos z]
      · rw [if_neg z]
    rw [e]
    exact h0 t
theorem x_octs (hN : 1100 < N) (hQ : ∀ τ, fr [] [] [1] [] σ τ → (∀ k, k < 10 → τ.2.2.1 1 k = -1) → Q τ) : w_J7_fill_53178_2 N (-1 : Int32) σ Q := by
  refine loopU (fun f i (s : zSt) => w_J7_fill_53178_2_5 N Q f (-1 : Int32) (nI i) (nI 10) s) (fun i s => fr [] [] [1] [] σ s ∧ ∀ k, k < i → s.2.2.1 1 k = -1) 10 ?_ ?_ N 0 σ (Nat.zero_le _) (by omega) ⟨fr_r, fun k hk => absurd hk (Nat.not_lt_zero _)⟩
  · intro f s hs
    show b_J7_fill_53178_2_5 N (w_J7_fill_53178_2_5 N Q f) Q (-1 : Int32) (nI 10) (nI 10) s
    unfold b_J7_fill_53178_2_5
    exact br_t (nI_le (Nat.le_refl _) (by omega)) (hQ s hs.1 hs.2)
  · intro f i s hi hs ih
    show b_J7_fill_53178_2_5 N (w_J7_fill_53178_2_5 N Q f) Q (-1 : Int32) (nI i) (nI 10) s
    unfold b_J7_fill_53178_2_5
    rw [nI_clamp (n := i) (by omega), nI_1]
    refine br_f (nI_ge hi (by omega)) ⟨vp_in_nI hi (by decide), nm_e (nm_e (ih _ ⟨fr_A hs.1 (by decide), fun k hk => ?_⟩))⟩
    show upd (s.2.2.1 1) i (-1 : Int32) k = -1
    by_cases q : k = i
    · rw [q]; exact pk_us
    · rw [pk_un q]; exact hs.2 k (by omega)
end xo
