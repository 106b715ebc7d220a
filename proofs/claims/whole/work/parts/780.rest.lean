/-! at rest by a kind, or the first change that ends it -/
def cutO (l : zL) (e : Nat → Int32) (net : Nat) : zO := fstO (gcut l e net) (lPc l) 0
def addO (l : zL) (e : Nat → Int32) (net : Nat) : zO := fstO (gadd l e net) (lPc l) 0
def sevA (l : zL) (e : Nat → Int32) (net : Nat) : zO := fstO (gsev l e net) (lPn l) 0
def swaO (l : zL) (e : Nat → Int32) (net : Nat) : zO := fstO (gswap l e net) (lPn l) 0
def togO (l : zL) (e : Nat → Int32) (net : Nat) : zO := fstO (gtog l e net) (lPc l) 0
def setO (l : zL) (e : Nat → Int32) (net : Nat) : zO := fstO (gset l e net) (2 ^ lPc l) 0
def rstO (l : zL) (e : Nat → Int32) (net kind : Nat) : zO := match kind with
  | 0 => cutO l e net
  | 1 => (cutO l e net).or (addO l e net)
  | 2 => (cutO l e net).or ((addO l e net).or (sevA l e net))
  | 3 => (cutO l e net).or ((addO l e net).or (swaO l e net))
  | 4 => togO l e net
  | _ => setO l e net
def mF5 (σ τ : zSt) : Prop := fr [15, 18, 19, 20, 21] [1, 2] [12, 13] [2, 3, 4] σ τ
theorem mF_5 {σ τ : zSt} (h : mF3 σ τ) : mF5 σ τ := fr_w h (subl rfl) (subl rfl) (subl rfl) (subl rfl)
theorem mF_54 {σ τ : zSt} (h : mF4 σ τ) : mF5 σ τ := fr_w h (subl rfl) (subl rfl) (subl rfl) (subl rfl)
theorem xI_2 {σ τ : zSt} (h : xF2 σ τ) (hI : xI σ) : xI τ := fun s hs => by rw [h.2.2.2 7 (by decide), h.2.2.2 8 (by decide)]; exact hI s hs
theorem or_n {a b : zO} (h : a = none) : a.or b = b := by rw [h]; rfl
theorem or_s {a b : zO} {x : Nat × Nat × Nat} (h : a = some x) : a.or b = some x := by rw [h]; rfl
section rr
variable {N : Nat} {σ μ : zSt} {l : zL} {e : Nat → Int32} {Q : Int32 → zSt → Prop}
theorem x_endRest {net kind : Nat} (hN : 1100 < N) (hG : xG σ l e) (hI : xI σ) (he : eOk e) (hk : kind < 6) (h5 : kind = 5 → lPn l ≤ 5) (hn : net < 2 ^ lPc l) (hQ : ∀ τ, xF2 σ τ → xG τ l e → xO τ (rstO l e net kind) → Q (b32 (rstO l e net kind).isSome) τ) : w_X0_endRest N (lN net) (nI kind) σ Q := by
  unfold w_X0_endRest
  have hN2 : 801 < N := by omega
  have hks : kind = 0 ∨ kind = 1 ∨ kind = 2 ∨ kind = 3 ∨ kind = 4 ∨ kind = 5 := by omega
  rcases hks with q | q | q | q | q | q <;> subst q
  · exact br_t rfl (x_firstCut hN2 hG hn (fun τ h0 h1 h2 => ⟨b32_zb _, hQ τ h0 h1 h2⟩))
  · refine br_f (by decide) (br_t rfl (x_firstCut hN2 hG hn (fun τ h0 h1 h2 => ?_)))
    have hr : rstO l e net 1 = (fstO (gcut l e net) (lPc l) 0).or (addO l e net) := rfl
    cases hc : fstO (gcut l e net) (lPc l) 0 with
    | some x =>
      rw [hc] at h2
      rw [or_s hc] at hr
      rw [hr] at hQ
      exact br_f (show ¬ (1 : Int32) = 0 by decide) (hQ τ h0 h1 h2)
    | none =>
      rw [or_n hc] at hr
      rw [hr] at hQ
      refine br_t rfl (x_firstAdd hN2 h1 he hn (fun υ u0 u1 u2 => ?_))
      have hq := hQ υ (fr_t h0 u0) u1 u2
      unfold addO at hq
      cases ha : fstO (gadd l e net) (lPc l) 0 with
      | some x => rw [ha] at hq; exact br_f (show ¬ (1 : Int32) = 0 by decide) hq
      | none => rw [ha] at hq; exact br_t rfl hq
  · refine br_f (by decide) (br_f (by decide) (br_t rfl (x_firstCut hN2 hG hn (fun τ h0 h1 h2 => ?_))))
    have hr : rstO l e net 2 = (fstO (gcut l e net) (lPc l) 0).or ((fstO (gadd l e net) (lPc l) 0).or (sevA l e net)) := rfl
    cases hc : fstO (gcut l e net) (lPc l) 0 with
    | some x =>
      rw [hc] at h2
      rw [or_s hc] at hr
      rw [hr] at hQ
      exact br_f (show ¬ (1 : Int32) = 0 by decide) (hQ τ h0 h1 h2)
    | none =>
      rw [or_n hc] at hr
      refine br_t rfl (x_firstAdd hN2 h1 he hn (fun υ u0 u1 u2 => ?_))
      cases ha : fstO (gadd l e net) (lPc l) 0 with
      | some x =>
        rw [ha] at u2
        rw [or_s ha] at hr
        rw [hr] at hQ
        exact br_f (show ¬ (1 : Int32) = 0 by decide) (hQ υ (fr_t h0 u0) u1 u2)
      | none =>
        rw [or_n ha] at hr
        rw [hr] at hQ
        refine br_t rfl (x_firstSev hN2 u1 hn (fun ω w0 w1 w2 => ?_))
        have hq := hQ ω (fr_t (fr_t h0 u0) w0) w1 w2
        unfold sevA at hq
        cases hs : fstO (gsev l e net) (lPn l) 0 with
        | some x => rw [hs] at hq; exact br_f (show ¬ (1 : Int32) = 0 by decide) hq
        | none => rw [hs] at hq; exact br_t rfl hq
  · refine br_f (by decide) (br_f (by decide) (br_f (by decide) (br_t rfl (x_firstCut hN2 hG hn (fun τ h0 h1 h2 => ?_)))))
    have hr : rstO l e net 3 = (fstO (gcut l e net) (lPc l) 0).or ((fstO (gadd l e net) (lPc l) 0).or (swaO l e net)) := rfl
    cases hc : fstO (gcut l e net) (lPc l) 0 with
    | some x =>
      rw [hc] at h2
      rw [or_s hc] at hr
      rw [hr] at hQ
      exact br_f (show ¬ (1 : Int32) = 0 by decide) (hQ τ h0 h1 h2)
    | none =>
      rw [or_n hc] at hr
      refine br_t rfl (x_firstAdd hN2 h1 he hn (fun υ u0 u1 u2 => ?_))
      cases ha : fstO (gadd l e net) (lPc l) 0 with
      | some x =>
        rw [ha] at u2
        rw [or_s ha] at hr
        rw [hr] at hQ
        exact br_f (show ¬ (1 : Int32) = 0 by decide) (hQ υ (fr_t h0 u0) u1 u2)
      | none =>
        rw [or_n ha] at hr
        rw [hr] at hQ
        refine br_t rfl (x_firstSwap hN2 u1 hn (fun ω w0 w1 w2 => ?_))
        have hq := hQ ω (fr_t (fr_t h0 u0) w0) w1 w2
        unfold swaO at hq
        cases hs : fstO (gswap l e net) (lPn l) 0 with
        | some x => rw [hs] at hq; exact br_f (show ¬ (1 : Int32) = 0 by decide) hq
        | none => rw [hs] at hq; exact br_t rfl hq
  · exact br_f (by decide) (br_f (by decide) (br_f (by decide) (br_f (by decide) (br_t rfl (x_firstTog hN2 hG hn (fun τ h0 h1 h2 => ⟨b32_zb _, hQ τ h0 h1 h2⟩))))))
  · exact br_f (by decide) (br_f (by decide) (br_f (by decide) (br_f (by decide) (br_f (by decide) (br_t rfl (x_firstSet hN hG hI (h5 rfl) hn (fun τ h0 h1 h2 => ⟨b32_zb _, hQ τ h0 h1 h2⟩)))))))
theorem m_isRest {net kind : Nat} (hN : 1100 < N) (hG : mG μ l e) (he : eOk e) (hk : kind < 6) (h5 : kind = 5 → lPn l ≤ 5) (hn : net < 2 ^ lPc l) (hQ : ∀ τ, mF5 μ τ → mG τ l e → mO τ (rstO l e net kind) → Q (b32 (!(rstO l e net kind).isSome)) τ) : w_X12_isRest N (lN net) (nI kind) μ Q := by
  unfold w_X12_isRest
  refine m_begins hN hG hn (fun τ0 f0 g0 w0 => ?_)
  have f5 := mF_54 f0
  have hks : kind = 0 ∨ kind = 1 ∨ kind = 2 ∨ kind = 3 ∨ kind = 4 ∨ kind = 5 := by omega
  rcases hks with q | q | q | q | q | q <;> subst q
  · refine br_f (by decide) (br_f (by decide) (m_findsCut hN g0 w0 hn (fun τ h0 h1 h2 => ?_)))
    have hq := hQ τ (fr_t f5 (mF_5 h0)) h1 h2
    have hr : rstO l e net 0 = fstO (gcut l e net) (lPc l) 0 := rfl
    rw [hr] at hq
    cases hc : fstO (gcut l e net) (lPc l) 0 with
    | some x => rw [hc] at hq; exact br_f (show ¬ (1 : Int32) = 0 by decide) hq
    | none =>
      rw [hc] at hq
      refine br_t rfl (br_t (by decide) ?_)
      unfold b_X12_isRest_65
      exact br_f (by decide) (br_f (by decide) hq)
  · refine br_f (by decide) (br_f (by decide) (m_findsCut hN g0 w0 hn (fun τ h0 h1 h2 => ?_)))
    have hr : rstO l e net 1 = (fstO (gcut l e net) (lPc l) 0).or (fstO (gadd l e net) (lPc l) 0) := rfl
    cases hc : fstO (gcut l e net) (lPc l) 0 with
    | some x =>
      rw [hc] at h2
      rw [or_s hc] at hr
      rw [hr] at hQ
      exact br_f (show ¬ (1 : Int32) = 0 by decide) (hQ τ (fr_t f5 (mF_5 h0)) h1 h2)
    | none =>
      rw [or_n hc] at hr
      rw [hr] at hQ
      refine br_t rfl (br_f (by decide) (m_findsAdd hN h1 he (now_3 h0 w0) hn (fun υ u0 u1 u2 => ?_)))
      have hq := hQ υ (fr_t f5 (mF_5 (fr_t h0 u0))) u1 u2
      cases ha : fstO (gadd l e net) (lPc l) 0 with
      | some x => rw [ha] at hq; exact br_f (show ¬ (1 : Int32) = 0 by decide) hq
      | none =>
        rw [ha] at hq
        refine br_t rfl ?_
        unfold b_X12_isRest_65
        exact br_f (by decide) (br_f (by decide) hq)
  · refine br_f (by decide) (br_f (by decide) (m_findsCut hN g0 w0 hn (fun τ h0 h1 h2 => ?_)))
    have hr : rstO l e net 2 = (fstO (gcut l e net) (lPc l) 0).or ((fstO (gadd l e net) (lPc l) 0).or (fstO (gsev l e net) (lPn l) 0)) := rfl
    cases hc : fstO (gcut l e net) (lPc l) 0 with
    | some x =>
      rw [hc] at h2
      rw [or_s hc] at hr
      rw [hr] at hQ
      exact br_f (show ¬ (1 : Int32) = 0 by decide) (hQ τ (fr_t f5 (mF_5 h0)) h1 h2)
    | none =>
      rw [or_n hc] at hr
      refine br_t rfl (br_f (by decide) (m_findsAdd hN h1 he (now_3 h0 w0) hn (fun υ u0 u1 u2 => ?_)))
      have h01 := fr_t h0 u0
      cases ha : fstO (gadd l e net) (lPc l) 0 with
      | some x =>
        rw [ha] at u2
        rw [or_s ha] at hr
        rw [hr] at hQ
        exact br_f (show ¬ (1 : Int32) = 0 by decide) (hQ υ (fr_t f5 (mF_5 h01)) u1 u2)
      | none =>
        rw [or_n ha] at hr
        rw [hr] at hQ
        refine br_t rfl ?_
        unfold b_X12_isRest_65
        refine br_t rfl (m_findsSev hN u1 (now_3 h01 w0) hn (fun ω p0 p1 p2 => ?_))
        have hq := hQ ω (fr_t f5 (mF_5 (fr_t h01 p0))) p1 p2
        cases hs : fstO (gsev l e net) (lPn l) 0 with
        | some x => rw [hs] at hq; exact br_f (show ¬ (1 : Int32) = 0 by decide) hq
        | none => rw [hs] at hq; exact br_t rfl hq
  · refine br_f (by decide) (br_f (by decide) (m_findsCut hN g0 w0 hn (fun τ h0 h1 h2 => ?_)))
    have hr : rstO l e net 3 = (fstO (gcut l e net) (lPc l) 0).or ((fstO (gadd l e net) (lPc l) 0).or (fstO (gswap l e net) (lPn l) 0)) := rfl
    cases hc : fstO (gcut l e net) (lPc l) 0 with
    | some x =>
      rw [hc] at h2
      rw [or_s hc] at hr
      rw [hr] at hQ
      exact br_f (show ¬ (1 : Int32) = 0 by decide) (hQ τ (fr_t f5 (mF_5 h0)) h1 h2)
    | none =>
      rw [or_n hc] at hr
      refine br_t rfl (br_f (by decide) (m_findsAdd hN h1 he (now_3 h0 w0) hn (fun υ u0 u1 u2 => ?_)))
      have h01 := fr_t h0 u0
      cases ha : fstO (gadd l e net) (lPc l) 0 with
      | some x =>
        rw [ha] at u2
        rw [or_s ha] at hr
        rw [hr] at hQ
        exact br_f (show ¬ (1 : Int32) = 0 by decide) (hQ υ (fr_t f5 (mF_5 h01)) u1 u2)
      | none =>
        rw [or_n ha] at hr
        rw [hr] at hQ
        refine br_t rfl ?_
        unfold b_X12_isRest_65
        refine br_f (by decide) (br_t rfl (m_findsSwap hN u1 (now_3 h01 w0) hn (fun ω p0 p1 p2 => ?_)))
        have hq := hQ ω (fr_t f5 (mF_5 (fr_t h01 p0))) p1 p2
        cases hs : fstO (gswap l e net) (lPn l) 0 with
        | some x => rw [hs] at hq; exact br_f (show ¬ (1 : Int32) = 0 by decide) hq
        | none => rw [hs] at hq; exact br_t rfl hq
  · refine br_t rfl (m_findsTog hN g0 w0 hn (fun τ h0 h1 h2 => ?_))
    have hq := hQ τ (fr_t f5 (mF_5 h0)) h1 h2
    have hr : rstO l e net 4 = fstO (gtog l e net) (lPc l) 0 := rfl
    rw [hr] at hq
    cases hc : fstO (gtog l e net) (lPc l) 0 with
    | some x => rw [hc] at hq; exact br_f (show ¬ (1 : Int32) = 0 by decide) hq
    | none => rw [hc] at hq; exact br_t rfl hq
  · refine br_f (by decide) (br_t rfl (m_findsSet hN g0 w0 (h5 rfl) hn (fun τ h0 h1 h2 => ?_)))
    have hq := hQ τ (fr_t f5 (mF_5 h0)) h1 h2
    have hr : rstO l e net 5 = fstO (gset l e net) (2 ^ lPc l) 0 := rfl
    rw [hr] at hq
    cases hc : fstO (gset l e net) (2 ^ lPc l) 0 with
    | some x => rw [hc] at hq; exact br_f (show ¬ (1 : Int32) = 0 by decide) hq
    | none => rw [hc] at hq; exact br_t rfl hq
end rr
