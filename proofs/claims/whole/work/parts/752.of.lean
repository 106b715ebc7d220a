/-! the class's worths: kept by keys; all together -/
def xC (σ : zSt) (l : zL) : Prop := ∀ s, s < 8192 → σ.2.2.2 5 s = -1 ∨ ∃ net p, net < 2 ^ lPc l ∧ p < lPn l ∧ σ.2.2.2 5 s = lN (net * lPn l + p) ∧ σ.2.2.2 6 s = wv l net p (lPn l)
/-- what a tie costs each beyond the rules -/
def xE (σ : zSt) (e : Nat → Int32) : Prop := ∀ p, p < 10 → (if nI p = σ.1 26 then σ.1 25 + σ.1 27 else σ.1 25) = e p
def tw (l : zL) (e : Nat → Int32) (net p : Nat) : Int64 := wv l net p (lPn l) - (nI (dg (lPn l) net p)).toInt64 * (e p).toInt64
def twS (l : zL) (e : Nat → Int32) (net : Nat) : Nat → Int64
  | 0 => 0
  | p + 1 => twS l e net p + tw l e net p
def xG (σ : zSt) (l : zL) (e : Nat → Int32) : Prop := lPok l ∧ lRok l ∧ xP σ l ∧ xR σ l ∧ xT σ ∧ xD σ ∧ xC σ l ∧ xE σ e
def xF (σ τ : zSt) : Prop := fr [6] [4] [13, 28, 29] [3, 5, 6] σ τ
theorem xP_fr {σ τ : zSt} {l : zL} {I J A B : List Nat} (h : fr I J A B σ τ) (hI : ∀ k, k ∈ [1, 2] → k ∉ I) (hJ : 2 ∉ J) (hA : ∀ k, k ∈ [5, 6, 7] → k ∉ A) (hX : xP σ l) : xP τ l := by
  obtain ⟨x1, x2, x3, x4⟩ := hX
  refine ⟨(h.1 1 (hI 1 (by decide))).trans x1, (h.1 2 (hI 2 (by decide))).trans x2, (h.2.1 2 hJ).trans x3, ?_⟩
  rw [h.2.2.1 5 (hA 5 (by decide)), h.2.2.1 6 (hA 6 (by decide)), h.2.2.1 7 (hA 7 (by decide))]
  exact x4
theorem xT_fr {σ τ : zSt} {I J A B : List Nat} (h : fr I J A B σ τ) (hA : ∀ k, k ∈ [3, 4] → k ∉ A) (hB : 2 ∉ B) (hX : xT σ) : xT τ := by
  unfold xT
  rw [h.2.2.1 3 (hA 3 (by decide)), h.2.2.1 4 (hA 4 (by decide)), h.2.2.2 2 hB]
  exact hX
theorem xE_fr {σ τ : zSt} {e : Nat → Int32} {I J A B : List Nat} (h : fr I J A B σ τ) (hI : ∀ k, k ∈ [25, 26, 27] → k ∉ I) (hX : xE σ e) : xE τ e := by
  unfold xE
  rw [h.1 25 (hI 25 (by decide)), h.1 26 (hI 26 (by decide)), h.1 27 (hI 27 (by decide))]
  exact hX
theorem xG_F {σ τ : zSt} {l : zL} {e : Nat → Int32} (h : xF σ τ) (hD : xD τ) (hC : xC τ l) (hG : xG σ l e) : xG τ l e := by
  obtain ⟨g1, g2, g3, g4, g5, _, _, g8⟩ := hG
  exact ⟨g1, g2, xP_fr h (notin rfl) (by decide) (notin rfl) g3, xR_fr h (by decide) (notin rfl) g4, xT_fr h (notin rfl) (by decide) g5, hD, hC, xE_fr h (notin rfl) g8⟩
theorem key_1 {n a b c d : Nat} (hb : b < n) (hd : d < n) (h : a * n + b = c * n + d) : a = c ∧ b = d := by
  have h1 : (a * n + b) / n = a := by rw [Nat.mul_comm, Nat.mul_add_div (by omega), Nat.div_eq_of_lt hb]; rfl
  have h2 : (c * n + d) / n = c := by rw [Nat.mul_comm, Nat.mul_add_div (by omega), Nat.div_eq_of_lt hd]; rfl
  have h3 : a = c := by rw [← h1, h, h2]
  subst h3
  exact ⟨rfl, by omega⟩
theorem key_lt {n net p : Nat} (hn : n ≤ 10) (hp : p < n) (h : net < 2 ^ 45) : net * n + p < 2 ^ 50 := by
  have : net * n ≤ net * 10 := Nat.mul_le_mul_left _ hn
  omega
section xo
variable {N : Nat} {σ : zSt} {l : zL} {e : Nat → Int32}
theorem x_of102 {net p s : Nat} {m : Int64} {Q : Int64 → zSt → Prop} (hG : xG σ l e) (hp : p < lPn l) (hnet : net < 2 ^ lPc l) (hs : s < 8192) (hk : σ.2.2.2 6 s = wv l net p (lPn l)) (hm : m = (e p).toInt64) (hQ : Q (tw l e net p) σ) : b_X10_of_102 N Q (lN net) (nI p) (nI s) m σ := by
  obtain ⟨g1, g2, g3, g4, g5, g6, g7, g8⟩ := hG
  have h10 := g1.1
  unfold b_X10_of_102
  rw [nI_clamp (n := p) (by omega), nI_clamp (n := s) (by omega), hk]
  refine ⟨fun q => ⟨vp_in_nI (by omega) (by decide), ?_⟩, fun _ => ⟨vp_in_nI (by omega) (by decide), vp_in_nI (by omega) (by decide), x_star h10 (td_lt hnet) (by omega) (net45 h10 hnet) (g5.2 p (by omega)) ?_⟩⟩
  · have q : m = 0 := (lg_cmp_eq _ _).mp q
    unfold tw at hQ
    rw [← hm, q, Int64.mul_zero, Int64.sub_zero] at hQ
    exact hQ
  · unfold tw at hQ
    rw [hm, Int64.mul_comm]
    exact hQ
theorem x_of76 {net p s : Nat} {Q : Int64 → zSt → Prop} (hG : xG σ l e) (hp : p < lPn l) (hnet : net < 2 ^ lPc l) (hs : s < 8192) (hk : σ.2.2.2 6 s = wv l net p (lPn l)) (hQ : Q (tw l e net p) σ) : b_X10_of_76 N Q (lN net) (nI p) (nI s) σ := by
  have h10 := hG.1.1
  have g8 := hG.2.2.2.2.2.2.2 p (by omega)
  unfold b_X10_of_76
  refine ⟨fun q => x_of102 hG hp hnet hs hk ?_ hQ, fun q => x_of102 hG hp hnet hs hk ?_ hQ⟩
  · rw [if_pos q] at g8
    rw [g8]
  · rw [if_neg q] at g8
    rw [g8]
theorem x_of34 {net p : Nat} {w : Int64} {Q : Int64 → zSt → Prop} (hN : 801 < N) (hG : xG σ l e) (hp : p < lPn l) (hnet : net < 2 ^ lPc l) (hQ : ∀ τ, xF σ τ → xG τ l e → Q (tw l e net p) τ) : b_X10_of_34 N Q (lN net) (nI p) (lN (net * lPn l + p)) w σ := by
  obtain ⟨g1, g2, g3, g4, g5, g6, g7, g8⟩ := id hG
  have h10 := g1.1
  have h45 := net45 h10 hnet
  have kl := key_lt h10 hp h45
  unfold b_X10_of_34
  obtain ⟨s, hs, es⟩ := pk_andE w.toInt32 (m := (8191 : Int32)) 13 (by decide)
  rw [es]
  have hs : s < 8192 := hs
  have hv : vp_in (nI s) 8192 := vp_in_nI hs (by decide)
  refine nm_e ?_
  rw [nI_clamp (n := s) (by omega)]
  simp only [lg_cmp_eq]
  refine ⟨hv, fun q => ?_, fun q => ?_⟩
  · rcases g7 s hs with h | ⟨net', p', k1, k2, k3, k4⟩
    · exact absurd (q.symm.trans h) (lN_m1 (by omega))
    · have kl2 := key_lt h10 k2 (net45 h10 k1)
      have := (fb_lN_inj (by omega) (by omega)).mp (q.symm.trans k3)
      obtain ⟨e1, e2⟩ := key_1 hp k2 this
      subst e1; subst e2
      exact x_of76 hG hp hnet hs k4 (hQ σ fr_r hG)
  · refine x_reckon hN g1 g2 hp hnet g4 g3 g5 g6 (fun τ f1 hD => ⟨hv, nm_e ⟨hv, nm_e ?_⟩⟩)
    have f2 : xF σ (zB (zB τ 6 (vp_updL (τ.2.2.2 6) s (wv l net p (lPn l)))) 5 (vp_updL ((zB τ 6 (vp_updL (τ.2.2.2 6) s (wv l net p (lPn l)))).2.2.2 5) s (lN (net * lPn l + p)))) := fr_B (fr_B (fr_w f1 (subl rfl) (subl rfl) (subl rfl) (subl rfl)) (by decide)) (by decide)
    have hG2 := xG_F (l := l) (e := e) f2 hD (fun t ht => by
      rw [zB_4s, zB_4n (show (5 : Nat) ≠ 6 by decide), zB_4n (show (6 : Nat) ≠ 5 by decide), zB_4s]
      by_cases e : t = s
      · subst e
        rw [pk_uLs, pk_uLs]
        exact Or.inr ⟨net, p, hnet, hp, rfl, rfl⟩
      · rw [pk_uLn e, pk_uLn e, f1.2.2.2 5 (by decide), f1.2.2.2 6 (by decide)]
        exact g7 t ht) hG
    refine x_of76 hG2 hp hnet hs ?_ (hQ _ f2 hG2)
    rw [zB_4n (show (6 : Nat) ≠ 5 by decide), zB_4s, pk_uLs]
theorem x_of {net p : Nat} {Q : Int64 → zSt → Prop} (hN : 801 < N) (hG : xG σ l e) (hp : p < lPn l) (hnet : net < 2 ^ lPc l) (hQ : ∀ τ, xF σ τ → xG τ l e → Q (tw l e net p) τ) : w_X10_of N (lN net) (nI p) σ Q := by
  have h10 := hG.1.1
  unfold w_X10_of
  have ek : lN net * (σ.1 1).toInt64 + (nI p).toInt64 = lN (net * lPn l + p) := by
    rw [hG.2.2.1.1, nI_l (by omega), nI_l (by omega), lN_mul, lN_add]
  rw [ek]
  refine nm_e ⟨fun _ => ?_, fun _ => x_of34 hN hG hp hnet hQ⟩
  unfold w_X10_mix
  exact x_of34 hN hG hp hnet hQ
theorem x_inAll {net : Nat} {Q : Int64 → zSt → Prop} (hN : 801 < N) (hG : xG σ l e) (hnet : net < 2 ^ lPc l) (hQ : ∀ τ, xF σ τ → xG τ l e → Q (twS l e net (lPn l)) τ) : w_X10_inAll N (lN net) σ Q := by
  have h10 := hG.1.1
  refine loopU (S := zSt) (fun f p τ => w_X10_inAll_5 N Q f (lN net) (twS l e net p) (nI p) τ) (fun p τ => xF σ τ ∧ xG τ l e) (lPn l) ?_ ?_ N 0 σ (Nat.zero_le _) (by omega) ⟨fr_r, hG⟩
  · intro f τ ⟨h0, h1⟩
    show b_X10_inAll_5 N (w_X10_inAll_5 N Q f) Q (lN net) (twS l e net (lPn l)) (nI (lPn l)) τ
    unfold b_X10_inAll_5
    rw [h1.2.2.1.1]
    exact br_t (nI_le (Nat.le_refl _) (by omega)) (hQ τ h0 h1)
  · intro f p τ hp ⟨h0, h1⟩ ih
    show b_X10_inAll_5 N (w_X10_inAll_5 N Q f) Q (lN net) (twS l e net p) (nI p) τ
    unfold b_X10_inAll_5
    rw [h1.2.2.1.1]
    refine br_f (nI_ge hp (by omega)) (x_of hN h1 hp hnet (fun υ f1 g1 => nm_e (nm_e ?_)))
    rw [nI_1]
    exact ih υ ⟨fr_t h0 f1, g1⟩
end xo
