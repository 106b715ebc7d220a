/-! gains, cuts and adds of both sides -/
def eOk (e : Nat → Int32) : Prop := ∀ p, p < 10 → -2000 ≤ (e p).toInt ∧ (e p).toInt ≤ 2000
def bdL (x : Int64) : Prop := -1000000000000 ≤ x.toInt ∧ x.toInt ≤ 1000000000000
theorem mul_b {d : Nat} {x : Int} (hd : d ≤ 10) (h1 : -2000 ≤ x) (h2 : x ≤ 2000) : -20000 ≤ (d : Int) * x ∧ (d : Int) * x ≤ 20000 := by
  have hd0 : (0 : Int) ≤ d := by omega
  constructor
  · have a1 : (d : Int) * (-2000) ≤ (d : Int) * x := Int.mul_le_mul_of_nonneg_left h1 hd0
    omega
  · have a1 : (d : Int) * x ≤ (d : Int) * 2000 := Int.mul_le_mul_of_nonneg_left h2 hd0
    omega
theorem tw_b {l : zL} {e : Nat → Int32} {net p : Nat} (hl : lPok l) (hr : lRok l) (he : eOk e) (hp : p < lPn l) : bdL (tw l e net p) := by
  have h10 := hl.1
  have h1 := wv_ok (net := net) hl hr hp (lPn l) (Nat.le_refl _)
  have hd := dg_le (lPn l) net p
  have h2 := he p (by omega)
  unfold tw bdL
  generalize dg (lPn l) net p = d at *
  generalize wv l net p (lPn l) = w at *
  have h3 : (nI d).toInt64.toInt = (d : Int) := by rw [nI_l (by omega), pf_lI (by omega)]
  have h4 : (e p).toInt64.toInt = (e p).toInt := Int32.toInt_toInt64 _
  have hm := mul_b (d := d) (by omega) h2.1 h2.2
  have h5 : ((nI d).toInt64 * (e p).toInt64).toInt = (d : Int) * (e p).toInt := by
    rw [fb_mulL (by rw [h3, h4]; omega) (by rw [h3, h4]; omega), h3, h4]
  generalize (d : Int) * (e p).toInt = m at *
  rw [fb_subL (by omega) (by omega)]
  omega
theorem bd_sub {a b : Int64} (ha : bdL a) (hb : bdL b) : (a - b ≤ 0 ↔ a ≤ b) ∧ (0 ≤ a - b ↔ b ≤ a) ∧ (a - b < 0 ↔ a < b) ∧ (0 < a - b ↔ b < a) := by
  unfold bdL at ha hb
  have h : (a - b).toInt = a.toInt - b.toInt := fb_subL (by omega) (by omega)
  have h0 : (0 : Int64).toInt = 0 := by decide
  simp only [fa_le64, fa_lt64, h, h0]
  omega
theorem bd_two {a b c d : Int64} (ha : bdL a) (hb : bdL b) (hc : bdL c) (hd : bdL d) (h1 : b ≤ a) (h2 : d ≤ c) : (a - b) + (c - d) ≤ 0 ↔ (a ≤ b ∧ c ≤ d) := by
  unfold bdL at ha hb hc hd
  have e1 : (a - b).toInt = a.toInt - b.toInt := fb_subL (by omega) (by omega)
  have e2 : (c - d).toInt = c.toInt - d.toInt := fb_subL (by omega) (by omega)
  have h : ((a - b) + (c - d)).toInt = (a - b).toInt + (c - d).toInt := fb_addL (by omega) (by omega)
  have h0 : (0 : Int64).toInt = 0 := by decide
  simp only [fa_le64, h, h0, e1, e2] at h1 h2 ⊢
  omega
/-- a pair is cut, or made -/
theorem lt_bit {x y i : Nat} (hx : x.testBit i = false) (hy : y.testBit i = true) (h : ∀ j, i < j → x.testBit j = y.testBit j) : x < y := by
  have h1 : x / 2 ^ (i + 1) = y / 2 ^ (i + 1) := by
    apply bit_ext
    intro j
    rw [Nat.testBit_div_two_pow, Nat.testBit_div_two_pow]
    exact h _ (by omega)
  rw [Nat.pow_succ, ← Nat.div_div_eq_div_mul, ← Nat.div_div_eq_div_mul] at h1
  rw [Nat.testBit_eq_decide_div_mod_eq] at hx hy
  have h2 := of_decide_eq_false hx
  have h3 := of_decide_eq_true hy
  rcases Nat.lt_or_ge x y with g | g
  · exact g
  · have h4 : y / 2 ^ i ≤ x / 2 ^ i := Nat.div_le_div_right g
    omega
theorem cut_lt {net k : Nat} (h : net.testBit k = true) : bdf net (2 ^ k) < net := by
  refine lt_bit (i := k) ?_ h (fun j hj => ?_)
  · rw [bdf_bit, Nat.testBit_two_pow_self]; simp
  · rw [bdf_bit, Nat.testBit_two_pow]
    have : ¬ k = j := by omega
    simp [this]
theorem xor_t {net k : Nat} (h : net.testBit k = true) : net ^^^ 2 ^ k = bdf net (2 ^ k) := by
  apply bit_ext
  intro j
  rw [fb_bit_flip, bdf_bit, Nat.testBit_two_pow]
  by_cases e : j = k
  · subst e; simp [h]
  · have : ¬ k = j := fun q => e q.symm
    simp [e, this]
theorem xor_f {net k : Nat} (h : net.testBit k = false) : net ^^^ 2 ^ k = net ||| 2 ^ k := by
  apply bit_ext
  intro j
  rw [fb_bit_flip, fb_bit_set]
  by_cases e : j = k
  · subst e; simp [h]
  · simp [e]
theorem or_ge (net k : Nat) : net ≤ net ||| 2 ^ k := Nat.left_le_or
theorem p2lt {k m : Nat} (h : k < m) : 2 ^ k < 2 ^ m := Nat.pow_lt_pow_right (by decide) h
def gnB (l : zL) (e : Nat → Int32) (net to p : Nat) : Bool := !decide (tw l e to p ≤ tw l e net p)
def addB (l : zL) (e : Nat → Int32) (net k : Nat) : Bool := mayv l (net ||| 2 ^ k) && (decide (tw l e net (loN k) ≤ tw l e (net ||| 2 ^ k) (loN k)) && (decide (tw l e net (hiN k) ≤ tw l e (net ||| 2 ^ k) (hiN k)) && (gnB l e net (net ||| 2 ^ k) (loN k) || gnB l e net (net ||| 2 ^ k) (hiN k))))
def movB (l : zL) (e : Nat → Int32) (net k : Nat) : Bool := if net.testBit k = true then (gnB l e net (bdf net (2 ^ k)) (loN k) || gnB l e net (bdf net (2 ^ k)) (hiN k)) else addB l e net k
theorem hi_pc {n k : Nat} (hn : n ≤ 10) (hk : k < n * (n - 1) / 2) : hiN k < n := by
  have h45 : k < 45 := Nat.lt_of_lt_of_le hk (tri_mono (b := 10) hn)
  obtain ⟨g1, g2, g3, g4, g5⟩ := hiN_ok k h45
  rcases Nat.lt_or_ge (hiN k) n with g | g
  · exact g
  · have := tri_mono g
    omega
theorem lo_pc {n k : Nat} (hn : n ≤ 10) (hk : k < n * (n - 1) / 2) : loN k < n := by
  have h45 : k < 45 := Nat.lt_of_lt_of_le hk (tri_mono (b := 10) hn)
  obtain ⟨g1, g2, g3, g4, g5⟩ := hiN_ok k h45
  have := hi_pc hn hk
  omega
section mv
variable {N : Nat} {σ : zSt} {l : zL} {e : Nat → Int32} {Q : Int32 → zSt → Prop}
theorem x_gains {net to p : Nat} (hN : 801 < N) (hG : xG σ l e) (hp : p < lPn l) (hn : net < 2 ^ lPc l) (ht : to < 2 ^ lPc l) (hQ : ∀ τ, xF σ τ → xG τ l e → Q (b32 (gnB l e net to p)) τ) : w_X0_gains N (lN net) (lN to) (nI p) σ Q := by
  unfold w_X0_gains
  refine x_of hN hG hp ht (fun τ f1 g1 => x_of hN g1 hp hn (fun υ f2 g2 => ?_))
  have := hQ υ (fr_t f1 f2) g2
  unfold gnB at this
  simp only [lg_cmp_le]
  refine ⟨fun q => ?_, fun q => ?_⟩
  · rw [decide_eq_true q] at this; exact this
  · rw [decide_eq_false q] at this; exact this
theorem x_moves {net k : Nat} (hN : 801 < N) (hG : xG σ l e) (he : eOk e) (hk : k < lPc l) (hn : net < 2 ^ lPc l) (hQ : ∀ τ, xF σ τ → xG τ l e → Q (b32 (movB l e net k)) τ) : w_X0_moves N (lN net) (nI k) σ Q := by
  have h10 := hG.1.1
  have hpc := pc_le h10
  have hlo := lo_pc h10 hk
  have hhi := hi_pc h10 hk
  have h45 := net45 h10 hn
  have hk45 : k < 45 := by omega
  have hT := hG.2.2.2.2.1.1 k hk45
  have hv : vp_in (nI k) 45 := vp_in_nI hk45 (by decide)
  have hck : (nI k).toNatClampNeg = k := nI_clamp (by omega)
  have h2k : 2 ^ k < 2 ^ lPc l := p2lt hk
  have htb : net ^^^ 2 ^ k < 2 ^ lPc l := Nat.xor_lt_two_pow hn h2k
  have ht45 := net45 h10 htb
  unfold w_X0_moves
  rw [oneJ (by omega), fb_xorL]
  refine nm_e ?_
  have bb := fun (net p : Nat) (hp : p < lPn l) => tw_b (net := net) hG.1 hG.2.1 he hp
  have lo3 : ∀ τ, xF σ τ → τ.2.2.1 3 k = nI (loN k) := fun τ h => (congrFun (h.2.2.1 3 (by decide)) k).trans hT.1
  have hi4 : ∀ τ, xF σ τ → τ.2.2.1 4 k = nI (hiN k) := fun τ h => (congrFun (h.2.2.1 4 (by decide)) k).trans hT.2
  cases hb : net.testBit k with
  | true =>
    have hlt := cut_lt hb
    have ex := xor_t hb
    rw [ex] at htb ht45 ⊢
    unfold movB at hQ
    rw [hb, if_pos rfl] at hQ
    generalize bdf net (2 ^ k) = to at *
    refine br_f (fun q => ?_) ?_
    · rw [lg_cmp_ge, pk_lLE (by omega) (by omega)] at q; omega
    unfold b_X0_moves_19
    refine br_f (by decide) ?_
    unfold b_X0_moves_40
    rw [hck, lo3 σ fr_r]
    refine ⟨hv, x_of hN hG hlo htb (fun τ f1 g1 => ⟨hv, ?_⟩)⟩
    rw [lo3 τ f1]
    refine x_of hN g1 hlo hn (fun υ f2 g2 => nm_e (br_f (by decide) ?_))
    have f12 := fr_t f1 f2
    have s1 := bd_sub (bb to (loN k) hlo) (bb net (loN k) hlo)
    rw [lg_cmp_le, s1.1]
    refine ⟨fun q => ?_, fun q => ⟨zb_1, ?_⟩⟩
    · unfold b_X0_moves_103
      rw [hck, hi4 υ f12]
      refine ⟨hv, x_of hN g2 hhi htb (fun ω f3 g3 => ⟨hv, ?_⟩)⟩
      rw [hi4 ω (fr_t f12 f3)]
      refine x_of hN g3 hhi hn (fun ψ f4 g4 => nm_e (br_f (by decide) ?_))
      have s2 := bd_sub (bb to (hiN k) hhi) (bb net (hiN k) hhi)
      have hq := hQ ψ (fr_t (fr_t f12 f3) f4) g4
      unfold gnB at hq
      rw [decide_eq_true q] at hq
      rw [lg_cmp_le, s2.1]
      refine ⟨fun r => ?_, fun r => ?_⟩
      · rw [decide_eq_true r] at hq; exact hq
      · rw [decide_eq_false r] at hq; exact hq
    · have hq := hQ υ f12 g2
      unfold gnB at hq
      rw [decide_eq_false q] at hq
      exact hq
  | false =>
    have hge := or_ge net k
    have ex := xor_f hb
    rw [ex] at htb ht45 ⊢
    unfold movB at hQ
    rw [hb, if_neg (by decide)] at hQ
    unfold addB at hQ
    generalize net ||| 2 ^ k = to at *
    refine br_t (by rw [lg_cmp_ge, pk_lLE (by omega) (by omega)]; omega) ?_
    unfold b_X0_moves_19
    refine br_t rfl (x_may hN hG htb ⟨fun q => ?_, fun q => ?_⟩)
    · have hq := hQ σ fr_r hG
      rw [b32_0.mp q] at hq
      exact hq
    have hm : mayv l to = true := by
      cases h : mayv l to with
      | true => rfl
      | false => exact absurd (b32_0.mpr h) q
    rw [hm] at hQ
    unfold b_X0_moves_40
    rw [hck, lo3 σ fr_r]
    refine ⟨hv, x_of hN hG hlo htb (fun τ f1 g1 => ⟨hv, ?_⟩)⟩
    rw [lo3 τ f1]
    refine x_of hN g1 hlo hn (fun υ f2 g2 => nm_e (br_t rfl ?_))
    have f12 := fr_t f1 f2
    have s1 := bd_sub (bb to (loN k) hlo) (bb net (loN k) hlo)
    rw [lg_cmp_ge, s1.2.1]
    refine ⟨fun q => ?_, fun q => ⟨zb_0, ?_⟩⟩
    · unfold b_X0_moves_103
      rw [hck, hi4 υ f12]
      refine ⟨hv, x_of hN g2 hhi htb (fun ω f3 g3 => ⟨hv, ?_⟩)⟩
      rw [hi4 ω (fr_t f12 f3)]
      refine x_of hN g3 hhi hn (fun ψ f4 g4 => nm_e (br_t rfl ?_))
      have s2 := bd_sub (bb to (hiN k) hhi) (bb net (hiN k) hhi)
      have hq := hQ ψ (fr_t (fr_t f12 f3) f4) g4
      unfold gnB at hq
      rw [decide_eq_true q] at hq
      rw [lg_cmp_lt, s2.2.2.1, lg_cmp_gt, s1.2.2.2, lg_cmp_le, s2.1]
      refine ⟨fun r => ?_, fun r => ⟨fun r2 => ?_, fun r2 => ⟨fun r3 => ?_, fun r3 => ?_⟩⟩⟩
      · rw [decide_eq_false (fun z => (Int64.not_le.mpr r) z)] at hq; exact hq
      · rw [decide_eq_true (Int64.not_lt.mp r), decide_eq_false (fun z => (Int64.not_le.mpr r2) z)] at hq; exact hq
      · rw [decide_eq_true (Int64.not_lt.mp r), decide_eq_true (Int64.not_lt.mp r2), decide_eq_true r3] at hq; exact hq
      · rw [decide_eq_true (Int64.not_lt.mp r), decide_eq_true (Int64.not_lt.mp r2), decide_eq_false r3] at hq; exact hq
    · have hq := hQ υ f12 g2
      rw [decide_eq_false q] at hq
      exact hq
end mv
