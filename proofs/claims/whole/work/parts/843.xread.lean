/-! the class reads a whole land -/
def xFl (σ τ : zSt) : Prop := fr [7, 8, 9, 10, 11, 12, 13, 14, 15, 16, 17, 18, 19, 20, 21] [3] [15, 16, 17, 18, 19, 20, 21, 22] [] σ τ
def xCl (tp : Nat × (Nat → Nat)) (σ : zSt) (Q : Int32 → zSt → Prop) (r : Except (Nat × Nat) (zQ × Nat)) : Prop := (∀ q τ, r = .ok q → xFl σ τ → xQ τ tp q.1 → τ.1 7 = nI q.2 → Q 1 τ) ∧ (∀ e τ, r = .error e → xFl σ τ → τ.1 8 = nI e.1 → τ.1 9 = nI e.2 → Q 0 τ)
section xr
variable {N : Nat} {tp : Nat × (Nat → Nat)} {Q : Int32 → zSt → Prop} {σ τ : zSt}
theorem xFs_l (f : xFs σ τ) : xFl σ τ := fr_w f (subl rfl) (subl rfl) (subl rfl) (subl rfl)
theorem xCl_t {r : Except (Nat × Nat) (zQ × Nat)} (f : xFl σ τ) (h : xCl tp σ Q r) : xCl tp τ Q r := ⟨fun s υ e f2 k => h.1 s υ e (fr_t f f2) k, fun e υ he f2 => h.2 e υ he (fr_t f f2)⟩
theorem x_readF {i : Nat} (f : Nat) (hf : 1 ≤ f) (hQ : Q 0 σ) : w_X5_read_55 N Q f (0 : Int32) (nI i) σ := by
  cases f with
  | zero => exact absurd hf (by decide)
  | succ f =>
    show b_X5_read_55 N (w_X5_read_55 N Q f) Q (0 : Int32) (nI i) σ
    unfold b_X5_read_55
    exact ⟨fun _ => ⟨zb_0, hQ⟩, fun _ => ⟨fun _ => ⟨zb_0, hQ⟩, fun z => absurd rfl z⟩⟩
theorem xK_f7 {s : zP} {v : Int32} (h : xK σ tp s) : xK (zI σ 7 v) tp s := xK_fr (I := [7]) (J := []) (A := []) (B := []) (fr_I fr_r (by decide)) (notin rfl) (notin rfl) h
theorem x_read55 (hN : 1100 < N) : ∀ (f' f i : Nat) (σ : zSt) (q : zQ), i + f' = 801 → f' < f → i ≤ q.1.1 → xQ σ tp q → qOk q → σ.1 7 = nI i → xCl tp σ Q (laL tp f' i q) → w_X5_read_55 N Q f (1 : Int32) (nI i) σ
  | 0, f, i, σ, q, h1, h2, h3, hx, hq, h7, hQ => by
    have := xK_le hx.1.1
    have := hx.1.1.1.1
    omega
  | f' + 1, 0, i, σ, q, h1, h2, h3, hx, hq, h7, hQ => absurd h2 (Nat.not_lt_zero _)
  | f' + 1, f + 1, i, σ, q, h1, h2, h3, hx, hq, h7, hQ => by
    have hK := hx.1
    have hR := hx.2
    have h8 := hK.1.1.1
    have hk4 : kS tp q.1 ≤ 4 := kT_le
    show b_X5_read_55 N (w_X5_read_55 N Q f) Q (1 : Int32) (nI i) σ
    rw [laL] at hQ
    have e12 : σ.1 12 = nI (kS tp q.1) := hK.1.2.2.1.2.1
    have n0 : nI (kS tp q.1) = (0 : Int32) ↔ kS tp q.1 = 0 := nI_eq (b := 0) (by omega) (by decide)
    unfold b_X5_read_55
    rw [e12, n0]
    by_cases c0 : kS tp q.1 = 0
    · rw [if_pos c0] at hQ
      have hq1 := hQ.1 (q, i) σ rfl fr_r hx h7
      exact ⟨fun _ => ⟨zb_1, hq1⟩, fun _ => ⟨fun z => absurd z (by decide), fun _ => ⟨fun _ => ⟨zb_1, hq1⟩, fun z => absurd c0 z⟩⟩⟩
    rw [if_neg c0] at hQ
    have hlt := kT_n0 c0
    have hge := sT_ge tp q.1.1
    -- what follows a statement
    have cont : xCs tp σ (fun r τ => b_X5_read_172 N (w_X5_read_55 N Q f) Q r (nI i) τ) (stP1 tp q) := by
      refine ⟨fun q' τ e f1 x1 => ?_, fun e τ he f1 h8 h9 => ?_⟩
      · have e7 : τ.1 7 = nI i := by rw [f1.1 7 (by decide)]; exact h7
        unfold b_X5_read_172
        refine br_f (by decide) (x_takeSign (c := 59) hN (by decide) x1.1 (fun z => absurd z (by decide)) ⟨fun s τ2 e2 f2 k2 => br_f (by decide) ?_, fun e τ2 he f2 h8 h9 => br_t rfl ?_⟩)
        · unfold b_X5_read_190
          have es : stP tp q = .ok (s, q'.2.1, q'.2.2) := by unfold stP; rw [e]; show bdP (tsP tp 59 q'.1) _ = _; rw [e2]; rfl
          have gs := gE_o (stP_g h8 hq c0) es
          have gs1 := gs.1
          rw [es] at hQ
          rw [show τ2.1 7 = nI i by rw [f2.1 7 (by decide)]; exact e7, nI_1]
          refine nm_e (nm_e (x_read55 hN f' f (i + 1) _ (s, q'.2.1, q'.2.2) (by omega) (by omega) (by show i + 1 ≤ s.1; have gs1 : q.1.1 < s.1 := gs1; omega) ⟨xK_f7 k2, (show xRd τ2 q'.2.1 q'.2.2 from xRd_f f2 x1.2)⟩ gs.2 zI_1s (xCl_t (fr_I (fr_t (xFs_l f1) (xFs_l (xFr_s f2))) (by decide)) hQ)))
        · unfold b_X5_read_189 b_X5_read_190
          have es : stP tp q = .error e := by unfold stP; rw [‹stP1 tp q = .ok q'›]; show bdP (tsP tp 59 q'.1) _ = _; rw [he]; rfl
          rw [es] at hQ
          rw [nI_1]
          exact nm_e (nm_e (x_readF f (by omega) (hQ.2 e _ rfl (fr_I (fr_t (xFs_l f1) (xFs_l (xFr_s f2))) (by decide)) h8 h9)))
      · unfold b_X5_read_172 b_X5_read_189 b_X5_read_190
        have es : stP tp q = .error e := by unfold stP; rw [he]; rfl
        rw [es] at hQ
        rw [nI_1]
        exact br_t rfl (nm_e (nm_e (x_readF f (by omega) (hQ.2 e _ rfl (fr_I (xFs_l f1) (by decide)) h8 h9))))
    have w0 : σ.1 16 = (0 : Int32) ↔ wS tp q.1 = 0 := xK_w (w := 0) (by decide) hK.1
    have w1 : σ.1 16 = (1 : Int32) ↔ wS tp q.1 = 1 := xK_w (w := 1) (by decide) hK.1
    have w2 : σ.1 16 = (2 : Int32) ↔ wS tp q.1 = 2 := xK_w (w := 2) (by decide) hK.1
    have w3 : σ.1 16 = (3 : Int32) ↔ wS tp q.1 = 3 := xK_w (w := 3) (by decide) hK.1
    have w4 : σ.1 16 = (4 : Int32) ↔ wS tp q.1 = 4 := xK_w (w := 4) (by decide) hK.1
    have w5 : σ.1 16 = (5 : Int32) ↔ wS tp q.1 = 5 := xK_w (w := 5) (by decide) hK.1
    have w6 : σ.1 16 = (6 : Int32) ↔ wS tp q.1 = 6 := xK_w (w := 6) (by decide) hK.1
    unfold stP1 at cont
    have bad : ¬ wS tp q.1 = 0 → ¬ wS tp q.1 = 2 → ¬ wS tp q.1 = 4 → ¬ wS tp q.1 = 5 → ¬ wS tp q.1 = 6 → w_X5_fail N (1 : Int32) (σ.1 13) σ (fun r τ => b_X5_read_172 N (w_X5_read_55 N Q f) Q r (nI i) τ) := fun a0 a2 a4 a5 a6 => by
      rw [if_neg a0, if_neg a2, if_neg a4, if_neg a5, if_neg a6] at cont
      rw [xK_13 hK.1]
      exact xs_fl (k := 1) cont
    refine br_f (nI_ge (b := 800) (by omega) (by decide)) (br_f (by decide) (br_f c0 (nm_e ?_)))
    rw [w0, w1, w2, w3, w4, w5, w6]
    refine ⟨fun a0 => ?_, fun a0 => ⟨fun a1 => bad a0 (by omega) (by omega) (by omega) (by omega), fun a1 => ⟨fun a2 => ?_, fun a2 => ⟨fun a3 => bad a0 a2 (by omega) (by omega) (by omega), fun a3 => ⟨fun a4 => ?_, fun a4 => ⟨fun a5 => ?_, fun a5 => ⟨fun a6 => ?_, fun a6 => bad a0 a2 a4 a5 a6⟩⟩⟩⟩⟩⟩⟩
    · rw [if_pos a0] at cont
      exact x_readWho hN hq hK hR c0 cont
    · rw [if_neg a0, if_pos a2] at cont
      exact x_readRule (k := 0) hN hq hK hR c0 cont
    · rw [if_neg a0, if_neg a2, if_pos a4] at cont
      exact x_readRule (k := 1) hN hq hK hR c0 cont
    · rw [if_neg a0, if_neg a2, if_neg a4, if_pos a5] at cont
      exact x_readBar hN hq hK hR c0 cont
    · rw [if_neg a0, if_neg a2, if_neg a4, if_neg a5, if_pos a6] at cont
      exact x_readMost hN hq hK hR c0 cont
/-- the whole of read: what may differ -/
def xFR (σ τ : zSt) : Prop := fr [7, 8, 9, 10, 11, 12, 13, 14, 15, 16, 17, 18, 19, 20, 21, 23, 24] [3] [15, 16, 17, 18, 19, 20, 21, 22, 24, 25, 26, 27] [] σ τ
theorem x_read (hN : 1100 < N) (hT : xTp σ tp) (ho : ∀ i, i < 19 → σ.2.2.1 14 i = nI (owdN i)) (h1 : ∀ q τ, laP tp = .ok q → xFR σ τ → xQ τ tp q.1 → τ.1 7 = nI q.2 → Q 1 τ) (h2 : ∀ e τ, laP tp = .error e → xFR σ τ → τ.1 8 = nI e.1 → τ.1 9 = nI e.2 → Q 0 τ) : w_X5_read N σ Q := by
  have h8 := hT.1
  have hb := xTp_b hT
  unfold w_X5_read w_X4_clear w_X6_clear
  refine nm_e (nm_e (nm_e (nm_e (nm_e (nm_e (nm_e (nm_e (nm_e (nm_e ?_)))))))))
  generalize hυ : zI (zI (zI (zI (zI (zI (zJ (zI (zI (zI σ 17 (0 : Int32)) 18 (0 : Int32)) 19 (0 : Int32)) 3 (0 : Int64)) 20 (0 : Int32)) 21 (0 : Int32)) 7 (0 : Int32)) 8 (0 : Int32)) 9 (-1 : Int32)) 11 (0 : Int32) = υ
  have f0 : xFR σ υ := by rw [← hυ]; exact fr_I (fr_I (fr_I (fr_I (fr_I (fr_I (fr_J (fr_I (fr_I (fr_I fr_r (by decide)) (by decide)) (by decide)) (by decide)) (by decide)) (by decide)) (by decide)) (by decide)) (by decide)) (by decide)
  have v17 : υ.1 17 = 0 := by rw [← hυ]; rfl
  have v18 : υ.1 18 = 0 := by rw [← hυ]; rfl
  have v19 : υ.1 19 = 0 := by rw [← hυ]; rfl
  have v3 : υ.2.1 3 = 0 := by rw [← hυ]; rfl
  have v20 : υ.1 20 = 0 := by rw [← hυ]; rfl
  have v21 : υ.1 21 = 0 := by rw [← hυ]; rfl
  have v7 : υ.1 7 = 0 := by rw [← hυ]; rfl
  have v8 : υ.1 8 = 0 := by rw [← hυ]; rfl
  have v9 : υ.1 9 = -1 := by rw [← hυ]; rfl
  have v11 : υ.1 11 = 0 := by rw [← hυ]; rfl
  refine x_cut hN (xTp_f f0 (by decide) (by decide) hT) (fun τ f1 c1 t1 => nm_e ?_)
  have f2 : fr [10, 23, 24] [] [24, 25, 26, 27] [] υ (zI τ 10 (-1 : Int32)) := fr_I (fr_w f1 (subl rfl) (subl rfl) (subl rfl) (subl rfl)) (by decide)
  have hTok : xTok (zI τ 10 (-1 : Int32)) tp := by
    refine ⟨h8, c1, t1, fun i hi => ?_, ?_, ?_⟩
    · rw [f2.2.2.1 14 (by decide), f0.2.2.1 14 (by decide)]; exact ho i hi
    · rw [f2.1 8 (by decide)]; exact v8
    · rw [f2.1 9 (by decide)]; exact v9
  unfold w_X5_take
  rw [show (zI τ 10 (-1 : Int32)).1 10 = -1 from rfl, show (-1 : Int32) + 1 = nI 0 by decide, show (zI τ 10 (-1 : Int32)).1 23 = nI (eC tp + 1) from c1]
  have hec := eC_le h8
  refine br_f (nI_ge (a := 0) (by omega) (by omega)) (nm_e ?_)
  have f3 : fr [10, 23, 24] [] [24, 25, 26, 27] [] υ (zI (zI τ 10 (-1 : Int32)) 10 (nI 0)) := fr_I f2 (by decide)
  refine x_take26 (t := 0) hN (xTok_f (I := [10]) (J := []) (A := []) (B := []) (fr_I fr_r (by decide)) (by decide) (notin rfl) hTok) (Nat.zero_le _) rfl (fun τ4 f4 p4 => ?_)
  have f5 : fr [10, 12, 13, 14, 15, 16, 23, 24] [] [24, 25, 26, 27] [] υ τ4 := fr_t (fr_w f3 (subl rfl) (subl rfl) (subl rfl) (subl rfl)) (fr_w f4 (subl rfl) (subl rfl) (subl rfl) (subl rfl))
  have fA : xFR σ τ4 := fr_t f0 (fr_w f5 (subl rfl) (subl rfl) (subl rfl) (subl rfl))
  have hx : xQ τ4 tp (((0, false, 0, []) : zP), la0, 0) := by
    refine ⟨⟨⟨xTok_f f4 (by decide) (notin rfl) (xTok_f (I := [10]) (J := []) (A := []) (B := []) (fr_I fr_r (by decide)) (by decide) (notin rfl) hTok), hb, p4, ⟨by decide, ?_⟩, by decide, ?_, fun k hk => absurd hk (Nat.not_lt_zero _)⟩, Nat.le_refl _⟩, ?_, ?_, ?_, ?_, fun p hp => absurd hp (Nat.not_lt_zero _), ?_, fun r hr => absurd hr (Nat.not_lt_zero _)⟩
    · rw [f5.1 11 (by decide)]; exact v11
    · rw [f5.1 21 (by decide)]; exact v21
    · rw [f5.1 17 (by decide)]; exact v17
    · rw [f5.1 18 (by decide)]; exact v18
    · rw [f5.1 19 (by decide)]; exact v19
    · rw [f5.2.1 3 (by decide)]; exact v3
    · rw [f5.1 20 (by decide)]; exact v20
  refine x_read55 hN 801 N 0 τ4 _ rfl (by omega) (Nat.zero_le _) hx q0_ok (by rw [f5.1 7 (by decide)]; exact v7) ⟨fun q τ e f x y => h1 q τ e (fr_t fA (fr_w f (subl rfl) (subl rfl) (subl rfl) (subl rfl))) x y, fun e τ he f y z => h2 e τ he (fr_t fA (fr_w f (subl rfl) (subl rfl) (subl rfl) (subl rfl))) y z⟩
end xr
