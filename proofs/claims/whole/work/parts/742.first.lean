/-! a land: persons, places, most, barred, names, rules: how many, kinds, where sum and test begin, where it stops, orders -/
abbrev zL : Type := Nat × (Nat → Nat) × (Nat → Nat) × Nat × (Nat → Nat) × Nat × (Nat → Nat) × (Nat → Nat) × (Nat → Nat) × (Nat → Nat) × (Nat → Nat)
def lPn (l : zL) : Nat := l.1
def lPl (l : zL) : Nat → Nat := l.2.1
def lMo (l : zL) : Nat → Nat := l.2.2.1
def lBa (l : zL) : Nat := l.2.2.2.1
def lNa (l : zL) : Nat → Nat := l.2.2.2.2.1
def lRc (l : zL) : Nat := l.2.2.2.2.2.1
def lKi (l : zL) : Nat → Nat := l.2.2.2.2.2.2.1
def lSu (l : zL) : Nat → Nat := l.2.2.2.2.2.2.2.1
def lTe (l : zL) : Nat → Nat := l.2.2.2.2.2.2.2.2.1
def lSt (l : zL) : Nat → Nat := l.2.2.2.2.2.2.2.2.2.1
def lCo (l : zL) : Nat → Nat := l.2.2.2.2.2.2.2.2.2.2
def lPc (l : zL) : Nat := lPn l * (lPn l - 1) / 2
/-- the rules of a land are good -/
def lRok (l : zL) : Prop := lRc l ≤ 20 ∧ ∀ r, r < lRc l → lKi l r < 2 ∧ lSu l r ≤ lTe l r ∧ lTe l r ≤ lSt l r ∧ lSt l r ≤ 800 ∧ tyr (lCo l) (lTe l r - lSu l r) (lSu l r) [] [true] ∧ tyr (lCo l) (lSt l r - lTe l r) (lTe l r) [] [false]
/-- the class holds these rules -/
def xR (σ : zSt) (l : zL) : Prop := σ.1 4 = nI (lRc l) ∧ ∀ r, r < lRc l → σ.2.2.1 8 r = nI (lKi l r) ∧ σ.2.2.1 9 r = nI (lSu l r) ∧ σ.2.2.1 10 r = nI (lTe l r) ∧ σ.2.2.1 11 r = nI (lSt l r) ∧ ∀ k, lSu l r ≤ k → k < lSt l r → σ.2.2.1 12 k = nI (lCo l k)
def rowv (fc : Nat → Int64) (me : Nat) (co : Nat → Nat) (i e : Nat) : Int64 := (run fc me co (e - i) i []).headD 0
def fsum (fc : Nat → Int64) (me : Nat) (l : zL) (kind : Nat) : Nat → Nat → Int64
  | 0, _ => 0
  | k + 1, r => if lKi l r = kind then (if rowv fc me (lCo l) (lTe l r) (lSt l r) = 0 then fsum fc me l kind k (r + 1) else rowv fc me (lCo l) (lSu l r) (lTe l r)) else fsum fc me l kind k (r + 1)
theorem fsum_s (fc : Nat → Int64) (me : Nat) (l : zL) (kind k r : Nat) : fsum fc me l kind (k + 1) r = if lKi l r = kind then (if rowv fc me (lCo l) (lTe l r) (lSt l r) = 0 then fsum fc me l kind k (r + 1) else rowv fc me (lCo l) (lSu l r) (lTe l r)) else fsum fc me l kind k (r + 1) := rfl
theorem okst_1 {b : Bool} : ∀ {st : List Int64}, okst [b] st → ∃ v, st = [v] ∧ okv b v
  | [v], h => ⟨v, rfl, h.1⟩
  | [], h => absurd h id
  | _ :: _ :: _, h => absurd h.2 id
/-- the loop's state within a row: sorts, stack, heap -/
def rIv (fc : Nat → Int64) (me : Nat) (co : Nat → Nat) (b : Bool) (i0 e : Nat) (ok : zSt → Prop) (i : Nat) (s : (List Bool × List Int64) × zSt) : Prop :=
  okst s.1.1 s.1.2 ∧ s.1.1.length ≤ 64 ∧ tyr co (e - i) i s.1.1 [b] ∧ run fc me co (e - i) i s.1.2 = run fc me co (e - i0) i0 [] ∧ ok s.2
theorem rIv_0 {fc : Nat → Int64} {me : Nat} {co : Nat → Nat} {b : Bool} {i0 e : Nat} {ok : zSt → Prop} {σ : zSt} (h : tyr co (e - i0) i0 [] [b]) (ho : ok σ) : rIv fc me co b i0 e ok i0 (([], []), σ) := ⟨trivial, Nat.zero_le _, h, rfl, ho⟩
theorem rIv_e {fc : Nat → Int64} {me : Nat} {co : Nat → Nat} {b : Bool} {i0 e : Nat} {ok : zSt → Prop} {s : (List Bool × List Int64) × zSt} (h : rIv fc me co b i0 e ok e s) : s.1.2 = [rowv fc me co i0 e] ∧ okv b (rowv fc me co i0 e) := by
  obtain ⟨h1, _, h2, h3, _⟩ := h
  rw [Nat.sub_self] at h2 h3
  have e1 : s.1.1 = [b] := h2
  have e2 : s.1.2 = run fc me co (e - i0) i0 [] := h3
  rw [e1] at h1
  obtain ⟨v, hv, ho⟩ := okst_1 h1
  unfold rowv
  rw [← e2, hv]
  exact ⟨rfl, ho⟩
/-- one turn of it -/
theorem rIv_s {fc : Nat → Int64} {me : Nat} {co : Nat → Nat} {b : Bool} {i0 e : Nat} {ok : zSt → Prop} {i : Nat} {s : (List Bool × List Int64) × zSt} (hfc : ∀ k, k < 5 → okv true (fc k)) (hi : i < e) (h : rIv fc me co b i0 e ok i s) : ∃ us, ty (co i) s.1.1 = some us ∧ us.length ≤ 64 ∧ s.1.1.length = s.1.2.length ∧ s.1.1.length ≤ 64 ∧ us.length = (ex fc me (co i) s.1.2).length ∧ ∀ τ, ok τ → rIv fc me co b i0 e ok (i + 1) ((us, ex fc me (co i) s.1.2), τ) := by
  obtain ⟨h1, h2, h3, h4, h5⟩ := h
  have e1 : e - i = (e - (i + 1)) + 1 := by omega
  rw [e1] at h3 h4
  obtain ⟨us, g1, g2, g3⟩ := h3
  have g4 := ex_ok (me := me) hfc g1 h1
  exact ⟨us, g1, g2, okst_len h1, h2, okst_len g4, fun τ hτ => ⟨g4, g2, g3, h4, hτ⟩⟩
section xg
variable {N : Nat} {σ : zSt} {Q : Int64 → zSt → Prop} {l : zL} {me : Nat}
theorem x_fs91 {r : Nat} (hN : 801 < N) (hr : r < 20) (hl : lSu l r ≤ lTe l r ∧ lTe l r ≤ 800 ∧ tyr (lCo l) (lTe l r - lSu l r) (lSu l r) [] [true]) (hfc : ∀ k, k < 5 → okv true (xfc σ k)) (hme : me < 2 ^ 31) (hf : σ.1 6 = nI me) (h10 : σ.2.2.1 10 r = nI (lTe l r)) (hc : ∀ k, lSu l r ≤ k → k < lTe l r → σ.2.2.1 12 k = nI (lCo l k)) (τ : zSt) (h0 : fr [] [] [] [3] σ τ) (hQ : ∀ τ, fr [] [] [] [3] σ τ → Q (rowv (xfc σ) me (lCo l) (lSu l r) (lTe l r)) τ) : w_X6_firstSum_91 N Q N (nI r) 0 (nI (lSu l r)) τ := by
  refine loopU (S := (List Bool × List Int64) × zSt) (fun f i s => w_X6_firstSum_91 N Q f (nI r) (nI s.1.2.length) (nI i) s.2) (fun i s => rIv (xfc σ) me (lCo l) true (lSu l r) (lTe l r) (fun τ => fr [] [] [] [3] σ τ) i s ∧ stk (s.2.2.2.2 3) s.1.2 ∧ lSu l r ≤ i) (lTe l r) ?_ ?_ N (lSu l r) (([], []), τ) hl.1 (by omega) ⟨rIv_0 hl.2.2 h0, trivial, Nat.le_refl _⟩
  · intro f s ⟨hI, hs, _⟩
    obtain ⟨e1, e2⟩ := rIv_e hI
    have h0 := hI.2.2.2.2
    show b_X6_firstSum_91 N (w_X6_firstSum_91 N Q f) Q (nI r) (nI s.1.2.length) (nI (lTe l r)) s.2
    unfold b_X6_firstSum_91
    rw [nI_clamp (by omega), h0.2.2.1 10 (by decide), h10]
    refine ⟨vp_in_nI (by omega) (by decide), br_t (nI_le (Nat.le_refl _) (by omega)) ?_⟩
    rw [e1] at hs
    rw [show s.2.2.2.2 3 0 = _ from hs.1]
    exact hQ s.2 h0
  · intro f i s hi ⟨hI, hs, hge⟩ ih
    have h0 := hI.2.2.2.2
    obtain ⟨us, g1, g2, g3, g4, g5, g6⟩ := rIv_s hfc hi hI
    show b_X6_firstSum_91 N (w_X6_firstSum_91 N Q f) Q (nI r) (nI s.1.2.length) (nI i) s.2
    unfold b_X6_firstSum_91
    rw [nI_clamp (n := r) (by omega), nI_clamp (n := i) (by omega), h0.2.2.1 10 (by decide), h10, h0.2.2.1 12 (by decide), hc i hge hi]
    refine ⟨vp_in_nI (by omega) (by decide), br_f (nI_ge hi (by omega)) (br_f (nI_ge (b := 800) (by omega) (by omega)) ⟨vp_in_nI (by omega) (by decide), ?_⟩)⟩
    have ex13 : xfc s.2 = xfc σ := by unfold xfc; rw [h0.2.2.1 13 (by decide)]
    refine x_apply g1 g3 g2 g4 hme ((h0.1 6 (by decide)).trans hf) hs (fun g hg => nm_e ?_)
    rw [ex13] at hg
    have := ih ((us, ex (xfc σ) me (lCo l i) s.1.2), zB s.2 3 g) ⟨g6 _ (fr_B h0 (by decide)), by rw [zB_4s]; exact hg, by omega⟩
    rw [g5, nI_1]; exact this
theorem x_fs30 {r : Nat} {x1 : Int32} {k2 : Int32 → Int32 → zSt → Prop} (hN : 801 < N) (hr : r < 20) (hl : lTe l r ≤ lSt l r ∧ lSt l r ≤ 800 ∧ tyr (lCo l) (lSt l r - lTe l r) (lTe l r) [] [false]) (hfc : ∀ k, k < 5 → okv true (xfc σ k)) (hme : me < 2 ^ 31) (hf : σ.1 6 = nI me) (h11 : σ.2.2.1 11 r = nI (lSt l r)) (hc : ∀ k, lTe l r ≤ k → k < lSt l r → σ.2.2.1 12 k = nI (lCo l k)) (τ : zSt) (h0 : fr [] [] [] [3] σ τ) (hQ : ∀ τ, fr [] [] [] [3] σ τ → τ.2.2.2 3 0 = rowv (xfc σ) me (lCo l) (lTe l r) (lSt l r) → b_X6_firstSum_70 N k2 Q x1 (nI r) τ) : w_X6_firstSum_30 N k2 Q N x1 (nI r) 0 (nI (lTe l r)) τ := by
  refine loopU (S := (List Bool × List Int64) × zSt) (fun f i s => w_X6_firstSum_30 N k2 Q f x1 (nI r) (nI s.1.2.length) (nI i) s.2) (fun i s => rIv (xfc σ) me (lCo l) false (lTe l r) (lSt l r) (fun τ => fr [] [] [] [3] σ τ) i s ∧ stk (s.2.2.2.2 3) s.1.2 ∧ lTe l r ≤ i) (lSt l r) ?_ ?_ N (lTe l r) (([], []), τ) hl.1 (by omega) ⟨rIv_0 hl.2.2 h0, trivial, Nat.le_refl _⟩
  · intro f s ⟨hI, hs, _⟩
    obtain ⟨e1, e2⟩ := rIv_e hI
    have h0 := hI.2.2.2.2
    show b_X6_firstSum_30 N k2 (w_X6_firstSum_30 N k2 Q f) Q x1 (nI r) (nI s.1.2.length) (nI (lSt l r)) s.2
    unfold b_X6_firstSum_30
    rw [nI_clamp (by omega), h0.2.2.1 11 (by decide), h11]
    refine ⟨vp_in_nI (by omega) (by decide), br_t (nI_le (Nat.le_refl _) (by omega)) ?_⟩
    rw [e1] at hs
    exact hQ s.2 h0 hs.1
  · intro f i s hi ⟨hI, hs, hge⟩ ih
    have h0 := hI.2.2.2.2
    obtain ⟨us, g1, g2, g3, g4, g5, g6⟩ := rIv_s hfc hi hI
    show b_X6_firstSum_30 N k2 (w_X6_firstSum_30 N k2 Q f) Q x1 (nI r) (nI s.1.2.length) (nI i) s.2
    unfold b_X6_firstSum_30
    rw [nI_clamp (n := r) (by omega), nI_clamp (n := i) (by omega), h0.2.2.1 11 (by decide), h11, h0.2.2.1 12 (by decide), hc i hge hi]
    refine ⟨vp_in_nI (by omega) (by decide), br_f (nI_ge hi (by omega)) (br_f (nI_ge (b := 800) (by omega) (by omega)) ⟨vp_in_nI (by omega) (by decide), ?_⟩)⟩
    have ex13 : xfc s.2 = xfc σ := by unfold xfc; rw [h0.2.2.1 13 (by decide)]
    refine x_apply g1 g3 g2 g4 hme ((h0.1 6 (by decide)).trans hf) hs (fun g hg => nm_e ?_)
    rw [ex13] at hg
    have := ih ((us, ex (xfc σ) me (lCo l i) s.1.2), zB s.2 3 g) ⟨g6 _ (fr_B h0 (by decide)), by rw [zB_4s]; exact hg, by omega⟩
    rw [g5, nI_1]; exact this
/-- the first rule of a kind whose test holds -/
theorem x_firstSum {kind : Nat} (hN : 801 < N) (hkd : kind < 2 ^ 31) (hR : lRok l) (hX : xR σ l) (hfc : ∀ k, k < 5 → okv true (xfc σ k)) (hme : me < 2 ^ 31) (hf : σ.1 6 = nI me) (hQ : ∀ τ, fr [] [] [] [3] σ τ → Q (fsum (xfc σ) me l kind (lRc l) 0) τ) : w_X6_firstSum N (nI kind) σ Q := by
  have h20 := hR.1
  refine loopU (S := zSt) (fun f r τ => w_X6_firstSum_2 N Q f (nI kind) (nI r) τ) (fun r τ => fr [] [] [] [3] σ τ ∧ fsum (xfc σ) me l kind (lRc l - r) r = fsum (xfc σ) me l kind (lRc l) 0) (lRc l) ?_ ?_ N 0 σ (Nat.zero_le _) (by omega) ⟨fr_r, rfl⟩
  · intro f τ ⟨h0, h1⟩
    show b_X6_firstSum_2 N (w_X6_firstSum_2 N Q f) Q (nI kind) (nI (lRc l)) τ
    unfold b_X6_firstSum_2
    rw [(h0.1 4 (by decide)).trans hX.1]
    refine br_t (nI_le (Nat.le_refl _) (by omega)) ?_
    rw [Nat.sub_self] at h1
    have := hQ τ h0
    rw [← h1] at this
    exact this
  · intro f r τ hr ⟨h0, h1⟩ ih
    show b_X6_firstSum_2 N (w_X6_firstSum_2 N Q f) Q (nI kind) (nI r) τ
    unfold b_X6_firstSum_2
    obtain ⟨q1, q2, q3, q4, q5, q6⟩ := hR.2 r hr
    obtain ⟨x1, x2, x3, x4, x5⟩ := hX.2 r hr
    rw [(h0.1 4 (by decide)).trans hX.1, nI_clamp (n := r) (by omega), h0.2.2.1 8 (by decide), x1, h0.2.2.1 10 (by decide), x3]
    have hrc : lRc l - r = (lRc l - (r + 1)) + 1 := by omega
    rw [hrc] at h1
    rw [fsum_s] at h1
    refine br_f (nI_ge hr (by omega)) ⟨vp_in_nI (by omega) (by decide), fun e => ⟨vp_in_nI (by omega) (by decide), nm_e ?_⟩, fun e => nm_e ?_⟩
    · have e := (nI_eq (by omega) hkd).mp e
      rw [if_pos e] at h1
      refine x_fs30 (l := l) (me := me) hN (by omega) ⟨q3, q4, q6⟩ hfc hme hf x4 (fun k g1 g2 => x5 k (by omega) g2) τ h0 (fun υ hυ hv => ?_)
      unfold b_X6_firstSum_70
      rw [hv, nI_clamp (n := r) (by omega), hυ.2.2.1 9 (by decide), x2]
      simp only [lg_cmp_eq]
      refine ⟨fun ez => nm_e ?_, fun ez => ⟨vp_in_nI (by omega) (by decide), nm_e ?_⟩⟩
      · rw [if_pos ez] at h1
        rw [nI_1]
        exact ih υ ⟨hυ, h1⟩
      · rw [if_neg ez] at h1
        refine x_fs91 (l := l) (me := me) hN (by omega) ⟨q2, by omega, q5⟩ hfc hme hf x3 (fun k g1 g2 => x5 k g1 (by omega)) υ hυ (fun τ hτ => ?_)
        rw [h1]; exact hQ τ hτ
    · rw [if_neg (fun q => e (by rw [q]))] at h1
      rw [nI_1]
      exact ih τ ⟨h0, h1⟩
end xg
