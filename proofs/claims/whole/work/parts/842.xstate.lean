/-! the class reads statements -/
def xRd (σ : zSt) (l : zL) (c : Nat) : Prop := σ.1 17 = nI (lPn l) ∧ σ.1 18 = nI (lPc l) ∧ σ.1 19 = nI c ∧ σ.2.1 3 = lN (lBa l) ∧ (∀ p, p < lPn l → σ.2.2.1 15 p = nI (lNa l p) ∧ σ.2.2.1 16 p = nI (lPl l p) ∧ σ.2.2.1 17 p = nI (lMo l p)) ∧ σ.1 20 = nI (lRc l) ∧ ∀ r, r < lRc l → σ.2.2.1 18 r = nI (lKi l r) ∧ σ.2.2.1 19 r = nI (lSu l r) ∧ σ.2.2.1 20 r = nI (lTe l r) ∧ σ.2.2.1 21 r = nI (lSt l r)
def xQ (σ : zSt) (tp : Nat × (Nat → Nat)) (q : zQ) : Prop := xK σ tp q.1 ∧ xRd σ q.2.1 q.2.2
def xFs (σ τ : zSt) : Prop := fr [8, 9, 10, 11, 12, 13, 14, 15, 16, 17, 18, 19, 20, 21] [3] [15, 16, 17, 18, 19, 20, 21, 22] [] σ τ
def xCs (tp : Nat × (Nat → Nat)) (σ : zSt) (Q : Int32 → zSt → Prop) (r : zF) : Prop := (∀ q τ, r = .ok q → xFs σ τ → xQ τ tp q → Q 1 τ) ∧ (∀ e τ, r = .error e → xFs σ τ → τ.1 8 = nI e.1 → τ.1 9 = nI e.2 → Q 0 τ)
section xw
variable {N : Nat} {tp : Nat × (Nat → Nat)} {Q : Int32 → zSt → Prop} {c : Nat} {l : zL} {σ τ : zSt} {s : zP} {r : zF}
theorem xFr_s (f : xFr σ τ) : xFs σ τ := fr_w f (subl rfl) (subl rfl) (subl rfl) (subl rfl)
theorem xCs_t (f : xFs σ τ) (h : xCs tp σ Q r) : xCs tp τ Q r := ⟨fun s υ e f2 k => h.1 s υ e (fr_t f f2) k, fun e υ he f2 => h.2 e υ he (fr_t f f2)⟩
theorem xCs_b {r : zE} {g : zP → zF} {W : zSt → Prop} (h : xCs tp σ Q (bdP r g)) (h2 : ∀ s τ, r = .ok s → xFr σ τ → xK τ tp s → xCs tp τ Q (g s) → W τ) : xCo tp σ (fun v τ => (v = 0 → Q 0 τ) ∧ (¬ v = 0 → W τ)) r := by
  refine ⟨fun s τ e f k => ⟨fun z => absurd z (by decide), fun _ => h2 s τ e f k (xCs_t (xFr_s f) ?_)⟩, fun e τ he f h8 h9 => ⟨fun _ => h.2 e τ ?_ (xFr_s f) h8 h9, fun z => absurd rfl z⟩⟩
  · rw [e] at h; exact h
  · rw [he]; rfl
theorem xCs_z (h : xCs tp σ Q r) : xCs tp σ (fun v τ => zb v ∧ Q v τ) r := ⟨fun s τ e f k => ⟨zb_1, h.1 s τ e f k⟩, fun e τ he f h8 h9 => ⟨zb_0, h.2 e τ he f h8 h9⟩⟩
theorem xs_fl {k q : Nat} (h : xCs tp σ Q (.error (k, q))) : w_X5_fail N (nI k) (nI q) σ Q := x_fail (h.2 (k, q) _ rfl (fr_I (fr_I fr_r (by decide)) (by decide)) rfl rfl)
theorem xK_fr {I J A B : List Nat} (f : fr I J A B σ τ) (hI : ∀ k, k ∈ [8, 9, 10, 11, 12, 13, 14, 15, 16, 21, 23] → k ∉ I) (hA : ∀ k, k ∈ [14, 22, 24, 25, 26, 27] → k ∉ A) (h : xK σ tp s) : xK τ tp s := by
  obtain ⟨⟨h1, h2, h3, h4, h5⟩, h6⟩ := h
  refine ⟨⟨xTok_f f (fun k hk => hI k (by revert k; decide)) (fun k hk => hA k (by revert k; decide)) h1, h2, xPos_f f (fun k hk => hI k (by revert k; decide)) h3, ⟨h4.1, ?_⟩, h5.1, ?_, ?_⟩, h6⟩
  · rw [f.1 11 (hI 11 (by decide))]; exact h4.2
  · rw [f.1 21 (hI 21 (by decide))]; exact h5.2.1
  · rw [f.2.2.1 22 (hA 22 (by decide))]; exact h5.2.2
theorem xRd_f (f : xFr σ τ) (h : xRd σ l c) : xRd τ l c := by
  unfold xRd
  rw [f.1 17 (by decide), f.1 18 (by decide), f.1 19 (by decide), f.1 20 (by decide), f.2.1 3 (by decide), f.2.2.1 15 (by decide), f.2.2.1 16 (by decide), f.2.2.1 17 (by decide), f.2.2.1 18 (by decide), f.2.2.1 19 (by decide), f.2.2.1 20 (by decide), f.2.2.1 21 (by decide)]
  exact h
theorem xRd_p (h : xRd σ l c) (hn : lPn l ≤ 10) (ho : ∀ p, p < lPn l → nmOk (lNa l p)) : xPe σ (lPn l) (lNa l) := ⟨hn, h.1, fun p hp => ⟨(ho p hp).1, (h.2.2.2.2.1 p hp).1⟩⟩
theorem x_takeWord {w : Nat} (hN : 1100 < N) (hw : w < 19) (h : xK σ tp s) (h1 : wS tp s = w → ∀ τ, xFr σ τ → xK τ tp (nxP tp s) → Q 1 τ) (h2 : ¬ wS tp s = w → ∀ τ, xFr σ τ → τ.1 8 = nI 1 → τ.1 9 = nI (sT tp s.1) → Q 0 τ) : w_X5_takeWord N (nI w) σ Q := by
  unfold w_X5_takeWord
  rw [xK_w hw h.1, xK_13 h.1]
  refine ⟨fun e => xK_tk hN h (wS_lt hw e).2 (fun τ f k => ⟨zb_1, h1 e τ f k⟩), fun e => fl_x (k := 1) (fun τ f h8 h9 => ⟨zb_0, h2 e τ f h8 h9⟩)⟩
theorem x_add {v pl : Nat} {Q : zSt → Prop} (h : xRd σ l c) (hn : lPn l < 10) (hQ : ∀ τ, fr [17, 18] [] [15, 16, 17] [] σ τ → xRd τ (adP l v pl) c → Q τ) : w_X4_add N (nI v) (nI pl) σ Q := by
  obtain ⟨h1, h2, h3, h4, h5, h6, h7⟩ := h
  have hv : vp_in (nI (lPn l)) 10 := vp_in_nI hn (by decide)
  unfold w_X4_add
  rw [h1, nI_clamp (n := lPn l) (by omega)]
  refine br_f (show ¬ nI 10 ≤ nI (lPn l) from nI_ge hn (by decide)) ⟨hv, nm_e ?_⟩
  rw [show (zA σ 15 (upd (σ.2.2.1 15) (lPn l) (nI v))).1 17 = nI (lPn l) from h1, nI_clamp (n := lPn l) (by omega)]
  refine ⟨hv, nm_e ?_⟩
  rw [show (zA (zA σ 15 (upd (σ.2.2.1 15) (lPn l) (nI v))) 16 (upd ((zA σ 15 (upd (σ.2.2.1 15) (lPn l) (nI v))).2.2.1 16) (lPn l) (nI pl))).1 17 = nI (lPn l) from h1, nI_clamp (n := lPn l) (by omega)]
  refine ⟨hv, nm_e (nm_e ?_)⟩
  unfold w_X3_count
  refine nm_e (hQ _ (fr_I (fr_I (fr_A (fr_A (fr_A fr_r (by decide)) (by decide)) (by decide)) (by decide)) (by decide)) ⟨?_, ?_, h3, h4, fun p hp => ?_, h6, h7⟩)
  · show σ.1 17 + 1 = nI (lPn l + 1)
    rw [h1, nI_1]
  · show ((σ.1 17 + 1) * ((σ.1 17 + 1) - (1 : Int32))) / (2 : Int32) = nI ((lPn l + 1) * (lPn l + 1 - 1) / 2)
    rw [h1, nI_1, nI_pred, pk_mul, show (2 : Int32) = nI 2 from rfl, pk_div (by have := Nat.mul_le_mul (show lPn l + 1 ≤ 10 by omega) (show lPn l ≤ 10 by omega); omega) (by decide) (by decide), Nat.add_sub_cancel]
  · have hp : p < lPn l + 1 := hp
    show upd (σ.2.2.1 15) (lPn l) (nI v) p = nI (up1 (lNa l) (lPn l) v p) ∧ upd (σ.2.2.1 16) (lPn l) (nI pl) p = nI (up1 (lPl l) (lPn l) pl p) ∧ upd (σ.2.2.1 17) (lPn l) (9 : Int32) p = nI (up1 (lMo l) (lPn l) 9 p)
    by_cases q : p = lPn l
    · rw [q, pk_us, pk_us, pk_us, up1_s, up1_s, up1_s]; exact ⟨rfl, rfl, rfl⟩
    · rw [pk_un q, pk_un q, pk_un q, up1_n q, up1_n q, up1_n q]; exact h5 p (by omega)
theorem x_addR {k a b st : Nat} {Q : zSt → Prop} (h : xRd σ l c) (hn : lRc l < 20) (e21 : σ.1 21 = nI st) (hQ : ∀ τ, fr [20] [] [18, 19, 20, 21] [] σ τ → xRd τ (adR l k a b st) c → Q τ) : w_X6_add N (nI k) (nI a) (nI b) σ Q := by
  obtain ⟨h1, h2, h3, h4, h5, h6, h7⟩ := h
  have hv : vp_in (nI (lRc l)) 20 := vp_in_nI hn (by decide)
  have hv2 : ∀ τ : zSt, τ.1 20 = nI (lRc l) → vp_in (τ.1 20) 20 := fun τ e => by rw [e]; exact hv
  have hc : ∀ τ : zSt, τ.1 20 = nI (lRc l) → (τ.1 20).toNatClampNeg = lRc l := fun τ e => by rw [e]; exact nI_clamp (by omega)
  unfold w_X6_add
  refine br_f (by rw [h6]; exact nI_ge (b := 20) hn (by decide)) ⟨hv2 _ h6, nm_e ⟨hv2 _ h6, nm_e ⟨hv2 _ h6, nm_e ⟨hv2 _ h6, nm_e (nm_e (hQ _ (fr_I (fr_A (fr_A (fr_A (fr_A fr_r (by decide)) (by decide)) (by decide)) (by decide)) (by decide)) ⟨h1, h2, h3, h4, h5, ?_, fun r hr => ?_⟩))⟩⟩⟩⟩
  · show σ.1 20 + 1 = nI (lRc l + 1)
    rw [h6, nI_1]
  · have hr : r < lRc l + 1 := hr
    show upd (σ.2.2.1 18) (σ.1 20).toNatClampNeg (nI k) r = nI (up1 (lKi l) (lRc l) k r) ∧ upd (σ.2.2.1 19) (σ.1 20).toNatClampNeg (nI a) r = nI (up1 (lSu l) (lRc l) a r) ∧ upd (σ.2.2.1 20) (σ.1 20).toNatClampNeg (nI b) r = nI (up1 (lTe l) (lRc l) b r) ∧ upd (σ.2.2.1 21) (σ.1 20).toNatClampNeg (σ.1 21) r = nI (up1 (lSt l) (lRc l) st r)
    rw [hc σ h6, e21]
    by_cases q : r = lRc l
    · rw [q, pk_us, pk_us, pk_us, pk_us, up1_s, up1_s, up1_s, up1_s]; exact ⟨rfl, rfl, rfl, rfl⟩
    · rw [pk_un q, pk_un q, pk_un q, pk_un q, up1_n q, up1_n q, up1_n q, up1_n q]; exact h7 r (by omega)
theorem x_readWho (hN : 1100 < N) (hq : qOk (s, l, c)) (h : xK σ tp s) (hr : xRd σ l c) (hk : ¬ kS tp s = 0) (hQ : xCs tp σ Q (whP tp s l c)) : w_X5_readWho N σ Q := by
  have h8 := h.1.1.1
  have hn : lPn l ≤ 10 := hq.2.2.1.1
  have ho : ∀ p, p < lPn l → nmOk (lNa l p) := hq.2.2.2.1
  have n10 : nI (lPn l) < (10 : Int32) ↔ lPn l < 10 := nI_ltI (b := 10) (by omega) (by decide)
  unfold whP at hQ
  unfold w_X5_readWho
  rw [hr.1, n10, xK_13 h.1]
  refine ⟨fun c1 => ?_, fun c1 => ?_⟩
  · rw [if_pos c1] at hQ
    unfold whP2 at hQ
    refine xK_tk hN h hk (fun τ1 f1 k1 => ?_)
    have hr1 := xRd_f f1 hr
    refine x_seesName k1.1 (fun v ev => br_f (by decide) (nm_e ?_)) (fun e τ he f h8 h9 => br_t rfl (hQ.2 e τ (by rw [he]; rfl) (xFr_s (fr_t f1 f)) h8 h9))
    obtain ⟨v1, v2, v3, v4, v5⟩ := na_v ev
    have e15 : τ1.1 15 = nI v := by rw [v1]; exact k1.1.2.2.1.2.2.2.2.1 (by show ¬ kS tp (nxP tp s) = 0; omega)
    rw [ev] at hQ
    have hQ : xCs tp σ Q (if noF (lNa l) (lPn l) v = 99 then whP3 tp (nxP tp (nxP tp s)) l c v else .error (3, sT tp (nxP tp s).1)) := hQ
    rw [e15]
    have hno : noF (lNa l) (lPn l) v < 100 := by
      have := noF_lt (na := lNa l) (v := v) hn
      omega
    have nm : whI (noF (lNa l) (lPn l) v) = (-1 : Int32) ↔ noF (lNa l) (lPn l) v = 99 := whI_i (b := 99) hno (by decide)
    refine x_numOf hN (xRd_p hr1 hn ho) v5 ?_
    rw [nm, xK_13 k1.1]
    refine ⟨fun c2 => ?_, fun c2 => ?_⟩
    · rw [if_pos c2] at hQ
      unfold whP3 at hQ
      refine xK_tk hN k1 (by omega) (fun τ2 f2 k2 => ?_)
      refine x_takeWord (w := 1) hN (by decide) k2 (fun e τ3 f3 k3 => br_f (by decide) ?_) (fun e τ3 f3 h8 h9 => br_t rfl (hQ.2 (1, sT tp (nxP tp (nxP tp s)).1) τ3 (by rw [if_neg e]) (xFr_s (fr_t f1 (fr_t f2 f3))) h8 h9))
      rw [if_pos e] at hQ
      refine x_seesNumber (lim := 999) (by decide) k3.1 (fun pl ep => br_f (by decide) ?_) (fun e τ4 he f4 h8 h9 => br_t rfl (hQ.2 e τ4 (by rw [he]; rfl) (xFr_s (fr_t f1 (fr_t f2 (fr_t f3 f4)))) h8 h9))
      have gp := gE_o (nuP_g (tp := tp) (s := nxP tp (nxP tp (nxP tp s))) (lim := 999)) ep
      have e15' : τ3.1 15 = nI pl := by rw [gp.1]; exact k3.1.2.2.1.2.2.2.2.1 (by show ¬ kS tp (nxP tp (nxP tp (nxP tp s))) = 0; have := gp.2.1; omega)
      rw [ep] at hQ
      have hQ : xCs tp σ Q (.ok (nxP tp (nxP tp (nxP tp (nxP tp s))), adP l v pl, c)) := hQ
      rw [e15']
      refine x_add (xRd_f f3 (xRd_f f2 hr1)) c1 (fun τ4 f4 r4 => ?_)
      have k4 := xK_fr f4 (notin rfl) (notin rfl) k3
      refine xK_tk hN k4 (by have := gp.2.1; omega) (fun τ5 f5 k5 => ⟨zb_1, hQ.1 _ τ5 rfl (fr_t (xFr_s (fr_t f1 (fr_t f2 f3))) (fr_t (fr_w f4 (subl rfl) (subl rfl) (subl rfl) (subl rfl)) (xFr_s f5))) ⟨k5, xRd_f f5 r4⟩⟩)
    · rw [if_neg c2] at hQ
      exact xs_fl (k := 3) (xCs_z (xCs_t (xFr_s f1) hQ))
  · rw [if_neg c1] at hQ
    exact xs_fl (k := 5) (xCs_z hQ)
theorem x_readRule {k : Nat} (hN : 1100 < N) (hq : qOk (s, l, c)) (h : xK σ tp s) (hr : xRd σ l c) (hk : ¬ kS tp s = 0) (hQ : xCs tp σ Q (ruP tp k s l c)) : w_X5_readRule N (nI k) σ Q := by
  have h8 := h.1.1.1
  have hn : lPn l ≤ 10 := hq.2.2.1.1
  have ho : ∀ p, p < lPn l → nmOk (lNa l p) := hq.2.2.2.1
  have h0 : s.2.2.1 = 0 := hq.1
  have hrc : lRc l ≤ 20 := hq.2.2.2.2.2.1
  have n20 : nI (lRc l) < (20 : Int32) ↔ lRc l < 20 := nI_ltI (b := 20) (by omega) (by decide)
  unfold ruP at hQ
  unfold w_X5_readRule
  rw [hr.2.2.2.2.2.1, n20, xK_13 h.1]
  refine ⟨fun c1 => ?_, fun c1 => ?_⟩
  · rw [if_pos c1] at hQ
    unfold ruP2 at hQ
    refine xK_tk hN h hk (fun τ1 f1 k1 => nm_e ?_)
    have e21 : τ1.1 21 = nI s.2.2.2.length := k1.1.2.2.2.2.2.1
    rw [e21]
    have n1 := nx_gt h8 hk
    refine x_sum h8 hN 9 τ1 _ _ k1 (by omega) (xCs_b (xCs_t (xFr_s f1) hQ) (fun u τ2 e2 f2 k2 q2 => ?_))
    have g2 := gE_o (suP_g h8 9 (nxP tp s) (by omega) (by show s.2.2.1 ≤ 6; omega)) e2
    have o2 : u.2.2.1 = s.2.2.1 := g2.2.1
    refine x_takeWord (w := 3) hN (by decide) k2 (fun e τ3 f3 k3 => br_f (by decide) (nm_e ?_)) (fun e τ3 f3 h8 h9 => br_t rfl (q2.2 (1, sT tp u.1) τ3 (by rw [if_neg e]) (xFr_s f3) h8 h9))
    rw [if_pos e] at q2
    unfold ruP3 at q2
    have e21' : τ3.1 21 = nI u.2.2.2.length := k3.1.2.2.2.2.2.1
    rw [e21']
    have hr3 := xRd_f f3 (xRd_f f2 (xRd_f f1 hr))
    refine x_test hN (x_facts h8 hn hN 9) (fcP_g h8 hn 9) k3 (xRd_p hr3 hn ho) (by omega) (xCs_b (xCs_t (xFr_s f3) q2) (fun w τ4 e4 f4 k4 q4 => ?_))
    exact x_addR (xRd_f f4 hr3) c1 k4.1.2.2.2.2.2.1 (fun τ5 f5 r5 => q4.1 _ τ5 rfl (fr_w f5 (subl rfl) (subl rfl) (subl rfl) (subl rfl)) ⟨xK_fr f5 (notin rfl) (notin rfl) k4, r5⟩)
  · rw [if_neg c1] at hQ
    exact xs_fl (k := 5) (xCs_z hQ)
theorem x_readBar (hN : 1100 < N) (hq : qOk (s, l, c)) (h : xK σ tp s) (hr : xRd σ l c) (hk : ¬ kS tp s = 0) (hQ : xCs tp σ Q (baP tp s l c)) : w_X5_readBar N σ Q := by
  have h8 := h.1.1.1
  have hn : lPn l ≤ 10 := hq.2.2.1.1
  have ho : ∀ p, p < lPn l → nmOk (lNa l p) := hq.2.2.2.1
  have hc : c ≤ 20 := hq.2.2.2.2.1
  have n20 : nI c < (20 : Int32) ↔ c < 20 := nI_ltI (b := 20) (by omega) (by decide)
  unfold baP at hQ
  unfold w_X5_readBar
  rw [hr.2.2.1, n20, xK_13 h.1]
  refine ⟨fun c1 => ?_, fun c1 => ?_⟩
  · rw [if_pos c1] at hQ
    unfold baP2 at hQ
    refine xK_tk hN h hk (fun τ1 f1 k1 => ?_)
    have hr1 := xRd_f f1 hr
    have hp1 := xRd_p hr1 hn ho
    refine x_seesPerson (but := 99) hN (by decide) k1.1 hp1 (fun a ea => br_f (by decide) ?_) (fun e τ he f h8 h9 => br_t rfl (hQ.2 e τ (by rw [he]; rfl) (xFr_s (fr_t f1 f)) h8 h9))
    obtain ⟨v, ev, a1, a2, _⟩ := pe_v ea
    obtain ⟨v1, v2, v3, v4, v5⟩ := na_v ev
    have e15 : τ1.1 15 = nI v := by rw [v1]; exact k1.1.2.2.1.2.2.2.2.1 (by show ¬ kS tp (nxP tp s) = 0; omega)
    have ga := gE_o (peP_k (tp := tp) (s := nxP tp s) (but := 99) (na := lNa l) hn) ea
    rw [ea] at hQ
    have hQ : xCs tp σ Q (bdP (peP tp (lPn l) (lNa l) a (nxP tp (nxP tp s))) fun b => .ok (nxP tp (nxP tp (nxP tp s)), adB l (prN a b), c + 1)) := hQ
    rw [e15]
    have ha := ga.1
    refine x_numOf hN hp1 v5 ?_
    rw [← a1]
    refine xK_tk hN k1 (by omega) (fun τ2 f2 k2 => ?_)
    have hr2 := xRd_f f2 hr1
    have hp2 := xRd_p hr2 hn ho
    refine x_seesPerson (but := a) hN (by omega) k2.1 hp2 (fun b eb => br_f (by decide) ?_) (fun e τ he f h8 h9 => br_t rfl (hQ.2 e τ (by rw [he]; rfl) (xFr_s (fr_t f1 (fr_t f2 f))) h8 h9))
    obtain ⟨w, ew, b1, b2, _⟩ := pe_v eb
    obtain ⟨w1, w2, w3, w4, w5⟩ := na_v ew
    have e15' : τ2.1 15 = nI w := by rw [w1]; exact k2.1.2.2.1.2.2.2.2.1 (by show ¬ kS tp (nxP tp (nxP tp s)) = 0; omega)
    have gb := gE_o (peP_k (tp := tp) (s := nxP tp (nxP tp s)) (but := a) (na := lNa l) hn) eb
    have hb := gb.1
    rw [eb] at hQ
    have hQ : xCs tp σ Q (.ok (nxP tp (nxP tp (nxP tp s)), adB l (prN a b), c + 1)) := hQ
    rw [e15']
    refine x_numOf hN hp2 w5 ?_
    rw [← b1, show whI a = nI a from if_neg a2, show whI b = nI b from if_neg b2]
    refine x_number (by omega) (by omega) (nm_e (nm_e ?_))
    have h64 := prN64 a (by omega) b (by omega)
    rw [hr2.2.2.2.1, oneJ (by omega), fb_orL]
    have f3 : fr [19] [3] [] [] τ2 (zI (zJ τ2 3 (lN (lBa l ||| 2 ^ prN a b))) 19 ((zJ τ2 3 (lN (lBa l ||| 2 ^ prN a b))).1 19 + 1)) := fr_I (fr_J fr_r (by decide)) (by decide)
    have r3 : xRd (zI (zJ τ2 3 (lN (lBa l ||| 2 ^ prN a b))) 19 ((zJ τ2 3 (lN (lBa l ||| 2 ^ prN a b))).1 19 + 1)) (adB l (prN a b)) (c + 1) := by
      obtain ⟨h1, h2, h3, h4, h5, h6, h7⟩ := hr2
      refine ⟨h1, h2, ?_, rfl, h5, h6, h7⟩
      show τ2.1 19 + 1 = nI (c + 1)
      rw [h3, nI_1]
    refine xK_tk hN (xK_fr f3 (notin rfl) (notin rfl) k2) (by omega) (fun τ5 f5 k5 => ⟨zb_1, hQ.1 _ τ5 rfl (fr_t (xFr_s (fr_t f1 f2)) (fr_t (fr_w f3 (subl rfl) (subl rfl) (subl rfl) (subl rfl)) (xFr_s f5))) ⟨k5, xRd_f f5 r3⟩⟩)
  · rw [if_neg c1] at hQ
    exact xs_fl (k := 5) (xCs_z hQ)
theorem x_readMost (hN : 1100 < N) (hq : qOk (s, l, c)) (h : xK σ tp s) (hr : xRd σ l c) (hk : ¬ kS tp s = 0) (hQ : xCs tp σ Q (moP tp s l c)) : w_X5_readMost N σ Q := by
  have h8 := h.1.1.1
  have hn : lPn l ≤ 10 := hq.2.2.1.1
  have ho : ∀ p, p < lPn l → nmOk (lNa l p) := hq.2.2.2.1
  unfold moP at hQ
  unfold w_X5_readMost
  refine xK_tk hN h hk (fun τ1 f1 k1 => ?_)
  have hr1 := xRd_f f1 hr
  have hp1 := xRd_p hr1 hn ho
  refine x_seesPerson (but := 99) hN (by decide) k1.1 hp1 (fun a ea => br_f (by decide) ?_) (fun e τ he f h8 h9 => br_t rfl (hQ.2 e τ (by rw [he]; rfl) (xFr_s (fr_t f1 f)) h8 h9))
  obtain ⟨v, ev, a1, a2, _⟩ := pe_v ea
  obtain ⟨v1, v2, v3, v4, v5⟩ := na_v ev
  have e15 : τ1.1 15 = nI v := by rw [v1]; exact k1.1.2.2.1.2.2.2.2.1 (by show ¬ kS tp (nxP tp s) = 0; omega)
  have ga := gE_o (peP_k (tp := tp) (s := nxP tp s) (but := 99) (na := lNa l) hn) ea
  have ha := ga.1
  rw [ea] at hQ
  have hQ : xCs tp σ Q (bdP (nuP tp 9 (nxP tp (nxP tp s))) fun v => .ok (nxP tp (nxP tp (nxP tp s)), adM l a v, c)) := hQ
  rw [e15]
  refine x_numOf hN hp1 v5 ?_
  rw [← a1, show whI a = nI a from if_neg a2]
  refine xK_tk hN k1 (by omega) (fun τ2 f2 k2 => ?_)
  have hr2 := xRd_f f2 hr1
  refine x_seesNumber (lim := 9) (by decide) k2.1 (fun w ew => br_f (by decide) ?_) (fun e τ he f h8 h9 => br_t rfl (hQ.2 e τ (by rw [he]; rfl) (xFr_s (fr_t f1 (fr_t f2 f))) h8 h9))
  have gw := gE_o (nuP_g (tp := tp) (s := nxP tp (nxP tp s)) (lim := 9)) ew
  have hk2 : ¬ kS tp (nxP tp (nxP tp s)) = 0 := by have := gw.2.1; omega
  have e15' : τ2.1 15 = nI w := by rw [gw.1]; exact k2.1.2.2.1.2.2.2.2.1 hk2
  rw [ew] at hQ
  have hQ : xCs tp σ Q (.ok (nxP tp (nxP tp (nxP tp s)), adM l a w, c)) := hQ
  unfold w_X4_isPerson
  rw [hr2.1]
  refine br_f (nI_pos (by omega)) (br_f (nI_ge ha (by omega)) (br_f (by decide) ?_))
  rw [e15', nI_clamp (n := a) (by omega)]
  refine ⟨vp_in_nI (by omega) (by decide), nm_e ?_⟩
  have f3 : fr [] [] [17] [] τ2 (zA τ2 17 (upd (τ2.2.2.1 17) a (nI w))) := fr_A fr_r (by decide)
  have r3 : xRd (zA τ2 17 (upd (τ2.2.2.1 17) a (nI w))) (adM l a w) c := by
    obtain ⟨h1, h2, h3, h4, h5, h6, h7⟩ := hr2
    refine ⟨h1, h2, h3, h4, fun p hp => ⟨(h5 p hp).1, (h5 p hp).2.1, ?_⟩, h6, h7⟩
    show upd (τ2.2.2.1 17) a (nI w) p = nI (up1 (lMo l) a w p)
    by_cases q : p = a
    · rw [q, pk_us, up1_s]
    · rw [pk_un q, up1_n q]; exact (h5 p hp).2.2
  unfold b_X5_readMost_67
  exact xK_tk hN (xK_fr f3 (notin rfl) (notin rfl) k2) hk2 (fun τ5 f5 k5 => ⟨zb_1, hQ.1 _ τ5 rfl (fr_t (xFr_s (fr_t f1 f2)) (fr_t (fr_w f3 (subl rfl) (subl rfl) (subl rfl) (subl rfl)) (xFr_s f5))) ⟨k5, xRd_f f5 r3⟩⟩)
end xw
