/-! swaps: by persons, and by pairs -/
def perP (p : Nat) (h : Nat → zO) (q : Nat) : zO := if q = p then none else h q
def pairP (p : Nat) (h : Nat → zO) (k : Nat) : zO := if loN k = p then h (hiN k) else if hiN k = p then h (loN k) else none
theorem fst_add (g : Nat → zO) : ∀ (a b k : Nat), fstO g (a + b) k = (fstO g a k).or (fstO g b (k + a))
  | 0, b, k => by rw [Nat.zero_add]; rfl
  | a + 1, b, k => by
    rw [show a + 1 + b = (a + b) + 1 by omega, fstO, fstO, fst_add g a b (k + 1), Option.or_assoc, show k + (a + 1) = k + 1 + a by omega]
theorem fst_cong {g h : Nat → zO} : ∀ (m k k2 : Nat), (∀ j, j < m → g (k + j) = h (k2 + j)) → fstO g m k = fstO h m k2
  | 0, _, _, _ => rfl
  | m + 1, k, k2, hh => by
    rw [fstO, fstO, fst_cong m (k + 1) (k2 + 1) (fun j hj => by
      have := hh (j + 1) (by omega)
      rw [show k + 1 + j = k + (j + 1) by omega, show k2 + 1 + j = k2 + (j + 1) by omega]; exact this)]
    have := hh 0 (by omega)
    rw [Nat.add_zero, Nat.add_zero] at this
    rw [this]
theorem fst_none {g : Nat → zO} : ∀ (m k : Nat), (∀ j, j < m → g (k + j) = none) → fstO g m k = none
  | 0, _, _ => rfl
  | m + 1, k, hh => by
    have h0 := hh 0 (by omega)
    rw [Nat.add_zero] at h0
    rw [fstO, h0, fst_none m (k + 1) (fun j hj => by
      have := hh (j + 1) (by omega)
      rw [show k + 1 + j = k + (j + 1) by omega]; exact this)]
    rfl
theorem fst_only {g : Nat → zO} {i : Nat} : ∀ (m k : Nat), i < m → (∀ j, j < m → j ≠ i → g (k + j) = none) → fstO g m k = g (k + i) := by
  intro m k hi hh
  rw [show m = i + (1 + (m - i - 1)) by omega, fst_add, fst_none i k (fun j hj => hh j (by omega) (by omega)), fst_add]
  rw [fst_none (m - i - 1) (k + i + 1) (fun j hj => by
    have := hh (i + 1 + j) (by omega) (by omega)
    rw [show k + i + 1 + j = k + (i + 1 + j) by omega]; exact this)]
  show none.or (((g (k + i)).or none).or none) = _
  cases g (k + i) <;> rfl
theorem pair_per (p : Nat) (h : Nat → zO) : ∀ n, n ≤ 10 → fstO (pairP p h) (n * (n - 1) / 2) 0 = if p < n then fstO (perP p h) n 0 else none
  | 0, _ => by rw [if_neg (Nat.not_lt_zero _)]; rfl
  | n + 1, hn => by
    have ih := pair_per p h n (by omega)
    have e0 : (n + 1) * (n + 1 - 1) / 2 = n * (n - 1) / 2 + n := by
      have h2 : n = 0 ∨ n = 1 ∨ n = 2 ∨ n = 3 ∨ n = 4 ∨ n = 5 ∨ n = 6 ∨ n = 7 ∨ n = 8 ∨ n = 9 := by omega
      rcases h2 with h | h | h | h | h | h | h | h | h | h <;> subst h <;> rfl
    have hpr : ∀ j, j < n → prN j n = n * (n - 1) / 2 + j := fun j hj => if_pos hj
    have hk : ∀ j, j < n → loN (n * (n - 1) / 2 + j) = j ∧ hiN (n * (n - 1) / 2 + j) = n := fun j hj => by
      have := prN_hl j (by omega) n (by omega) hj
      rw [hpr j hj] at this
      exact ⟨this.2, this.1⟩
    have hT : ∀ j, j < n → pairP p h (n * (n - 1) / 2 + j) = if j = p then h n else if n = p then h j else none := fun j hj => by
      unfold pairP
      rw [(hk j hj).1, (hk j hj).2]
    rw [e0, fst_add, ih, Nat.zero_add]
    have es : fstO (perP p h) (n + 1) 0 = (fstO (perP p h) n 0).or (perP p h n) := by
      rw [fst_add, Nat.zero_add]
      show (fstO (perP p h) n 0).or ((perP p h n).or none) = _
      rw [Option.or_none]
    rcases Nat.lt_trichotomy p n with g | g | g
    · rw [if_pos g, if_pos (by omega), es]
      congr 1
      rw [fst_only (i := p) n (n * (n - 1) / 2) g (fun j hj hne => by rw [hT j hj, if_neg hne, if_neg (by omega)]), hT p g, if_pos rfl]
      unfold perP
      rw [if_neg (by omega)]
    · subst g
      rw [if_neg (Nat.lt_irrefl _), if_pos (Nat.lt_succ_self _), es]
      have e1 : perP p h p = none := if_pos rfl
      rw [e1, Option.or_none]
      show none.or _ = _
      rw [Option.none_or]
      refine fst_cong p (p * (p - 1) / 2) 0 (fun j hj => ?_)
      rw [hT j hj, if_neg (by omega), if_pos rfl, Nat.zero_add]
      unfold perP
      rw [if_neg (by omega)]
    · rw [if_neg (by omega), if_neg (by omega), Option.none_or]
      exact fst_none _ _ (fun j hj => by rw [hT j hj, if_neg (by omega), if_neg (by omega)])
def swpB (l : zL) (e : Nat → Int32) (net to p q : Nat) : Bool := mayv l to && (gnB l e net to p && decide (tw l e net q ≤ tw l e to q))
def gsw (l : zL) (e : Nat → Int32) (net p c q : Nat) : zO := if net.testBit (prN p q) = true then none else if swpB l e net (bdf net (2 ^ c) ||| 2 ^ prN p q) p q = true then some (3, 2 ^ p ||| 2 ^ q, bdf net (2 ^ c) ||| 2 ^ prN p q) else none
def gold (l : zL) (e : Nat → Int32) (net p q : Nat) : zO := if net.testBit (prN p q) = true then fstO (perP p (gsw l e net p (prN p q))) (lPn l) 0 else none
def gswap (l : zL) (e : Nat → Int32) (net p : Nat) : zO := fstO (perP p (gold l e net p)) (lPn l) 0
theorem prN_pc {n a b : Nat} (ha : a < n) (hb : b < n) (h : a ≠ b) : prN a b < n * (n - 1) / 2 := by
  unfold prN
  by_cases c : a < b
  · rw [if_pos c]
    have := tri_mono (show b + 1 ≤ n by omega)
    have e : (b + 1) * (b + 1 - 1) / 2 = b * (b - 1) / 2 + b := by
      rw [Nat.add_sub_cancel, show (b + 1) * b = b * (b - 1) + b * 2 by
        cases b with
        | zero => rfl
        | succ b => rw [Nat.add_sub_cancel, ← Nat.mul_add, Nat.mul_comm]]
      rw [Nat.add_mul_div_right _ _ (by decide)]
    omega
  · rw [if_neg c]
    have := tri_mono (show a + 1 ≤ n by omega)
    have e : (a + 1) * (a + 1 - 1) / 2 = a * (a - 1) / 2 + a := by
      rw [Nat.add_sub_cancel, show (a + 1) * a = a * (a - 1) + a * 2 by
        cases a with
        | zero => rfl
        | succ b => rw [Nat.add_sub_cancel, ← Nat.mul_add, Nat.mul_comm]]
      rw [Nat.add_mul_div_right _ _ (by decide)]
    omega
section xs
variable {N : Nat} {σ : zSt} {l : zL} {e : Nat → Int32} {Q : Int32 → zSt → Prop}
theorem x_number {a b : Nat} (ha : a < 10) (hb : b < 10) (hQ : Q (nI (prN a b)) σ) : w_X3_number N (nI a) (nI b) σ Q := by
  unfold w_X3_number
  refine nm_e (nm_e ?_)
  by_cases h : a < b
  · have h1 : ¬ nI b < nI a := nI_nlt (by omega) (by omega)
    have h2 : nI a < nI b := nI_lt h (by omega)
    rw [if_neg h1, if_pos h2, prc b (by omega), nI_add]
    rw [prN, if_pos h] at hQ
    exact hQ
  · rw [prN, if_neg h] at hQ
    by_cases h3 : b < a
    · have h1 : nI b < nI a := nI_lt h3 (by omega)
      have h2 : ¬ nI a < nI b := nI_nlt (by omega) (by omega)
      rw [if_pos h1, if_neg h2, prc a (by omega), nI_add]
      exact hQ
    · have h4 : a = b := by omega
      subst h4
      have h2 : ¬ nI a < nI a := nI_nlt (Nat.le_refl _) (by omega)
      rw [if_neg h2, prc a (by omega), nI_add]
      exact hQ
theorem x_swaps {net p c : Nat} {σ0 : zSt} (hN : 801 < N) (hn : net < 2 ^ lPc l) (hp : p < lPn l) (hc : c < lPc l) (hb : net.testBit c = true) (h00 : xF2 σ0 σ) (hG : xG σ l e) (hQ : ∀ τ, xF2 σ0 τ → xG τ l e → xO τ (fstO (perP p (gsw l e net p c)) (lPn l) 0) → Q (b32 (fstO (perP p (gsw l e net p c)) (lPn l) 0).isSome) τ) : w_X0_swapsAway N (lN net) (nI p) (nI c) σ Q := by
  have h10 := hG.1.1
  have hpc := pc_le h10
  have h45 := net45 h10 hn
  refine loopU (S := zSt) (fun f q τ => w_X0_swapsAway_3 N Q f (lN net) (nI p) (nI c) (nI q) τ) (fun q τ => xF2 σ0 τ ∧ xG τ l e ∧ fstO (perP p (gsw l e net p c)) (lPn l - q) q = fstO (perP p (gsw l e net p c)) (lPn l) 0) (lPn l) ?_ ?_ N 0 σ (Nat.zero_le _) (by omega) ⟨h00, hG, rfl⟩
  · intro f τ ⟨h0, h1, h2⟩
    show b_X0_swapsAway_3 N (w_X0_swapsAway_3 N Q f) Q (lN net) (nI p) (nI c) (nI (lPn l)) τ
    unfold b_X0_swapsAway_3
    rw [h1.2.2.1.1]
    have hz := fst_e h2
    rw [hz] at hQ
    exact br_t (nI_le (Nat.le_refl _) (by omega)) (hQ τ h0 h1 xO_n)
  · intro f q τ hq ⟨h0, h1, h2⟩ ih
    show b_X0_swapsAway_3 N (w_X0_swapsAway_3 N Q f) Q (lN net) (nI p) (nI c) (nI q) τ
    unfold b_X0_swapsAway_3
    rw [h1.2.2.1.1]
    refine br_f (nI_ge hq (by omega)) ⟨fun r => ?_, fun r => x_number (by omega) (by omega) ?_⟩
    · have r := (nI_eq (by omega) (by omega)).mp r
      unfold b_X0_swapsAway_32
      refine nm_e (br_f ?_ (nm_e ?_))
      · rw [lg_cmp_eq, bitJ (by omega) (by omega), hb]; decide
      · rw [nI_1]
        exact ih τ ⟨h0, h1, fst_n hq (by unfold perP; rw [if_pos r]) h2⟩
    · have r : ¬ q = p := fun z => r (by rw [z])
      have hpr := prN_pc hp hq (fun z => r z.symm)
      have hpr2 : prN p q < lPc l := hpr
      have hgp : perP p (gsw l e net p c) q = gsw l e net p c q := if_neg r
      have htb : bdf net (2 ^ c) ||| 2 ^ prN p q < 2 ^ lPc l := Nat.or_lt_two_pow (bdf_lt hn) (p2lt hpr2)
      have hg : gsw l e net p c q = if net.testBit (prN p q) = true then none else if swpB l e net (bdf net (2 ^ c) ||| 2 ^ prN p q) p q = true then some (3, 2 ^ p ||| 2 ^ q, bdf net (2 ^ c) ||| 2 ^ prN p q) else none := rfl
      have e1 : (1 : Int32) <<< (nI p &&& 31) = nI (2 ^ p) := oneI (by omega)
      have e2 : (1 : Int32) <<< (nI q &&& 31) = nI (2 ^ q) := oneI (by omega)
      unfold b_X0_swapsAway_32
      rw [oneJ (by omega), oneJ (by omega), bdfJ, fb_orL, lg_cmp_eq, bitJ (by omega) (by omega), e1, e2, fa_or, nI_1]
      generalize bdf net (2 ^ c) ||| 2 ^ prN p q = to at *
      refine nm_e ⟨fun ht => x_may hN h1 htb ⟨fun m0 => nm_e ?_, fun m0 => ?_⟩, fun ht => nm_e ?_⟩
      · have m0 := b32_0.mp m0
        exact ih τ ⟨h0, h1, fst_n hq (by rw [hgp, hg, if_neg (by rw [ht]; decide)]; unfold swpB; rw [m0]; rfl) h2⟩
      · have hm : mayv l to = true := by
          cases h : mayv l to with
          | true => rfl
          | false => exact absurd (b32_0.mpr h) m0
        rw [if_neg (by rw [ht]; decide)] at hg
        unfold swpB gnB at hg
        rw [hm, Bool.true_and] at hg
        refine x_of hN h1 hp htb (fun υ1 f1 g1 => x_of hN g1 hp hn (fun υ2 f2 g2 => ?_))
        have ff := fr_t h0 (xF_2 (fr_t f1 f2))
        rw [lg_cmp_le]
        refine ⟨fun z => nm_e ?_, fun z => ?_⟩
        · rw [decide_eq_true z] at hg
          exact ih υ2 ⟨ff, g2, fst_n hq (hgp.trans hg) h2⟩
        · rw [decide_eq_false z] at hg
          refine x_of hN g2 hq htb (fun υ3 f3 g3 => x_of hN g3 hq hn (fun υ4 f4 g4 => ?_))
          have ff2 := fr_t ff (xF_2 (fr_t f3 f4))
          rw [lg_cmp_lt]
          refine ⟨fun z2 => nm_e ?_, fun z2 => ?_⟩
          · rw [decide_eq_false (fun w => Int64.not_le.mpr z2 w)] at hg
            exact ih υ4 ⟨ff2, g4, fst_n hq (hgp.trans hg) h2⟩
          · rw [decide_eq_true (Int64.not_lt.mp z2)] at hg
            have hs := (fst_s hq (hgp.trans hg)).symm.trans h2
            rw [← hs] at hQ
            exact x_found (s := 3) ff2 g4 hQ
      · have ht : net.testBit (prN p q) = true := by simpa using ht
        exact ih τ ⟨h0, h1, fst_n hq (by rw [hgp, hg, if_pos ht]) h2⟩
theorem x_firstSwap {net : Nat} (hN : 801 < N) (hG : xG σ l e) (hn : net < 2 ^ lPc l) (hQ : ∀ τ, xF2 σ τ → xG τ l e → xO τ (fstO (gswap l e net) (lPn l) 0) → Q (b32 (fstO (gswap l e net) (lPn l) 0).isSome) τ) : w_X0_firstSwap N (lN net) σ Q := by
  have h10 := hG.1.1
  have hpc := pc_le h10
  have h45 := net45 h10 hn
  refine loopU (S := zSt) (fun f p τ => w_X0_firstSwap_2 N Q f (lN net) (nI p) τ) (fun p τ => xF2 σ τ ∧ xG τ l e ∧ fstO (gswap l e net) (lPn l - p) p = fstO (gswap l e net) (lPn l) 0) (lPn l) ?_ ?_ N 0 σ (Nat.zero_le _) (by omega) ⟨fr_r, hG, rfl⟩
  · intro f τ ⟨h0, h1, h2⟩
    show b_X0_firstSwap_2 N (w_X0_firstSwap_2 N Q f) Q (lN net) (nI (lPn l)) τ
    unfold b_X0_firstSwap_2
    rw [h1.2.2.1.1]
    have hz := fst_e h2
    rw [hz] at hQ
    exact br_t (nI_le (Nat.le_refl _) (by omega)) (hQ τ h0 h1 xO_n)
  · intro f p τ hp ⟨h0, h1, h2⟩ ih
    show b_X0_firstSwap_2 N (w_X0_firstSwap_2 N Q f) Q (lN net) (nI p) τ
    unfold b_X0_firstSwap_2
    rw [h1.2.2.1.1]
    refine br_f (nI_ge hp (by omega)) ?_
    have hgp : gswap l e net p = fstO (perP p (gold l e net p)) (lPn l) 0 := rfl
    refine loopU (S := zSt) (fun g q τ => w_X0_firstSwap_16 N (w_X0_firstSwap_2 N Q f) Q g (lN net) (nI p) (nI q) τ) (fun q τ => xF2 σ τ ∧ xG τ l e ∧ fstO (perP p (gold l e net p)) (lPn l - q) q = gswap l e net p) (lPn l) ?_ ?_ N 0 τ (Nat.zero_le _) (by omega) ⟨h0, h1, rfl⟩
    · intro g υ ⟨u0, u1, u2⟩
      show b_X0_firstSwap_16 N (w_X0_firstSwap_2 N Q f) (w_X0_firstSwap_16 N (w_X0_firstSwap_2 N Q f) Q g) Q (lN net) (nI p) (nI (lPn l)) υ
      unfold b_X0_firstSwap_16
      rw [u1.2.2.1.1, nI_1]
      exact br_t (nI_le (Nat.le_refl _) (by omega)) (nm_e (ih υ ⟨u0, u1, fst_n hp (fst_e u2) h2⟩))
    · intro g q υ hq ⟨u0, u1, u2⟩ ih2
      show b_X0_firstSwap_16 N (w_X0_firstSwap_2 N Q f) (w_X0_firstSwap_16 N (w_X0_firstSwap_2 N Q f) Q g) Q (lN net) (nI p) (nI q) υ
      unfold b_X0_firstSwap_16
      rw [u1.2.2.1.1, nI_1 q]
      refine br_f (nI_ge hq (by omega)) ⟨fun r => nm_e ?_, fun r => x_number (by omega) (by omega) ?_⟩
      · have r := (nI_eq (by omega) (by omega)).mp r
        exact ih2 υ ⟨u0, u1, fst_n hq (by unfold perP; rw [if_pos r]) u2⟩
      · have r : ¬ q = p := fun z => r (by rw [z])
        have hpr : prN p q < lPc l := prN_pc hp hq (fun z => r z.symm)
        have hgo : perP p (gold l e net p) q = gold l e net p q := if_neg r
        rw [lg_cmp_eq, bitJ (by omega) (by omega)]
        refine ⟨fun hb => nm_e ?_, fun hb => x_number (by omega) (by omega) ?_⟩
        · exact ih2 υ ⟨u0, u1, fst_n hq (by rw [hgo]; unfold gold; rw [if_neg (by rw [hb]; decide)]) u2⟩
        · have hb : net.testBit (prN p q) = true := by simpa using hb
          have hgo2 : gold l e net p q = fstO (perP p (gsw l e net p (prN p q))) (lPn l) 0 := if_pos hb
          refine x_swaps hN hn hp hpr hb u0 u1 (fun ω w0 w1 w2 => ?_)
          cases hf : fstO (perP p (gsw l e net p (prN p q))) (lPn l) 0 with
          | none => exact br_t rfl (nm_e (ih2 ω ⟨w0, w1, fst_n hq (by rw [hgo, hgo2, hf]) u2⟩))
          | some r3 =>
            rw [hf] at w2
            have hs := (fst_s hq (hgo.trans (hgo2.trans hf))).symm.trans u2
            have hs2 := (fst_s hp hs.symm).symm.trans h2
            rw [← hs2] at hQ
            exact br_f (show ¬ (1 : Int32) = 0 by decide) (hQ ω w0 w1 w2)
end xs
