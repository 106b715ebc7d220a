/-! the law's loop: class and reference hold one state, so their answers are one -/
section lw
variable {N : Nat} {σ τ μ ν : zSt} {tp : Nat × (Nat → Nat)} {fa : Int32 × Int32} {l : zL} {net : Nat} {x : Int32} {ba rg : Nat → Int64} {ls : Nat × (Nat → Int64)} {cm : Nat × (Nat → Int64) × (Nat → Int32)} {li : Int64} {oc : Nat → Int32}
def RR (σ μ : zSt) : Prop := ∃ (tp : Nat × (Nat → Nat)) (fa : Int32 × Int32) (l : zL) (net : Nat) (x : Int32) (ba rg : Nat → Int64) (ls : Nat × (Nat → Int64)) (cm : Nat × (Nat → Int64) × (Nat → Int32)) (li : Int64) (oc : Nat → Int32), XR σ tp fa l net x ba rg ls cm li oc ∧ MR μ tp fa l net x ba rg ls cm li oc
theorem RR_i (h : XR σ tp fa l net x ba rg ls cm li oc) (h2 : MR μ tp fa l net x ba rg ls cm li oc) : RR σ μ := ⟨_, _, _, _, _, _, _, _, _, _, _, h, h2⟩
theorem lgc (a : Int64) : lg_cmp a a = 0 := by rw [lg_cmp_eq]
theorem vi5 {i L : Nat} (h : i + 6 ≤ L) (hL : L ≤ 3072) : vp_in (nI i + (1 : Int32)) L ∧ vp_in (nI i + (2 : Int32)) L ∧ vp_in (nI i + (3 : Int32)) L ∧ vp_in (nI i + (4 : Int32)) L ∧ vp_in (nI i + (5 : Int32)) L := by
  have g : ∀ j, j < 6 → vp_in (nI i + nI j) L := fun j hj => by rw [nI_add]; exact vp_in_nI (by omega) (by omega)
  exact ⟨g 1 (by omega), g 2 (by omega), g 3 (by omega), g 4 (by omega), g 5 (by omega)⟩
theorem lw_nx {i : Nat} {k : Int32 → zSt → zSt → Prop} (hk : ∀ σ μ, RR σ μ → k (nI (i + 6)) σ μ) (h : RR σ μ) : ∀ v : Int32, v = nI i + (6 : Int32) → k v σ μ := fun v e => by
  rw [e, show nI i + (6 : Int32) = nI (i + 6) from nI_add i 6]
  exact hk σ μ h
theorem lw_eI {i : Nat} {k : Int32 → zSt → zSt → Prop} {r : Int32} (hk : ∀ σ μ, RR σ μ → k (nI (i + 6)) σ μ) (h : RR σ μ) : (r = r → ∀ v : Int32, v = nI i + (6 : Int32) → k v σ μ) ∧ (¬ r = r → False) := ⟨fun _ => lw_nx hk h, fun z => z rfl⟩
theorem lw_eL {i : Nat} {k : Int32 → zSt → zSt → Prop} {r : Int64} (hk : ∀ σ μ, RR σ μ → k (nI (i + 6)) σ μ) (h : RR σ μ) : ((lg_cmp r r) = 0 → ∀ v : Int32, v = nI i + (6 : Int32) → k v σ μ) ∧ (¬ (lg_cmp r r) = 0 → False) := ⟨fun _ => lw_nx hk h, fun z => z (lgc r)⟩
variable {i L : Nat} {xs : Nat → Int32} {k : Int32 → zSt → zSt → Prop}
theorem l_176 (hN : 8300 < N) (hi : i + 6 ≤ L) (hL : L ≤ 3072) (h : RR σ μ) (hk : ∀ σ μ, RR σ μ → k (nI (i + 6)) σ μ) : b_law_176 N k L xs (nI i) σ μ := by
  obtain ⟨tp, fa, l, net, x, ba, rg, ls, cm, li, oc, hX, hM⟩ := h
  obtain ⟨v1, v2, v3, v4, v5⟩ := vi5 hi hL
  have h11 : 1100 < N := by omega
  unfold b_law_176
  exact ⟨v1, v2, v3, v4, v5, X_feed h11 hX (fun τ hτ => ⟨v1, v2, v3, v4, v5, M_feed h11 hM (fun ν hν => lw_eI hk (RR_i hτ hν))⟩)⟩
theorem l_239 (hN : 8300 < N) (hi : i + 6 ≤ L) (hL : L ≤ 3072) (h : RR σ μ) (hk : ∀ σ μ, RR σ μ → k (nI (i + 6)) σ μ) : b_law_239 N k L xs (nI i) σ μ := by
  obtain ⟨tp, fa, l, net, x, ba, rg, ls, cm, li, oc, hX, hM⟩ := h
  obtain ⟨v1, v2, v3, v4, v5⟩ := vi5 hi hL
  unfold b_law_239
  exact ⟨v1, X_end hX (fun τ hτ => ⟨v1, M_end hM (fun ν hν => lw_eI hk (RR_i hτ hν))⟩)⟩
theorem l_275 (hN : 8300 < N) (hi : i + 6 ≤ L) (hL : L ≤ 3072) (h : RR σ μ) (hk : ∀ σ μ, RR σ μ → k (nI (i + 6)) σ μ) : b_law_275 N k L xs (nI i) σ μ := by
  obtain ⟨tp, fa, l, net, x, ba, rg, ls, cm, li, oc, hX, hM⟩ := h
  obtain ⟨v1, v2, v3, v4, v5⟩ := vi5 hi hL
  unfold b_law_275
  exact ⟨v1, X_fault hX (fun hτ => ⟨v1, M_fault hM (fun hν => lw_eI hk (RR_i hτ hν))⟩)⟩
theorem l_298 (hN : 8300 < N) (hi : i + 6 ≤ L) (hL : L ≤ 3072) (h : RR σ μ) (hk : ∀ σ μ, RR σ μ → k (nI (i + 6)) σ μ) : b_law_298 N k L xs (nI i) σ μ := by
  obtain ⟨tp, fa, l, net, x, ba, rg, ls, cm, li, oc, hX, hM⟩ := h
  obtain ⟨v1, v2, v3, v4, v5⟩ := vi5 hi hL
  have h11 : 1100 < N := by omega
  unfold b_law_298
  exact ⟨v1, X_has h11 hX (fun hτ => ⟨v1, M_has h11 hM (fun hν => lw_eI hk (RR_i hτ hν))⟩)⟩
theorem l_321 (hN : 8300 < N) (hi : i + 6 ≤ L) (hL : L ≤ 3072) (h : RR σ μ) (hk : ∀ σ μ, RR σ μ → k (nI (i + 6)) σ μ) : b_law_321 N k L xs (nI i) σ μ := by
  obtain ⟨tp, fa, l, net, x, ba, rg, ls, cm, li, oc, hX, hM⟩ := h
  obtain ⟨v1, v2, v3, v4, v5⟩ := vi5 hi hL
  have h11 : 1100 < N := by omega
  unfold b_law_321
  exact ⟨v1, v2, X_letter hX (fun hτ => ⟨v1, v2, M_letter h11 hM (fun hν => lw_eI hk (RR_i hτ hν))⟩)⟩
theorem l_354 (hN : 8300 < N) (hi : i + 6 ≤ L) (hL : L ≤ 3072) (h : RR σ μ) (hk : ∀ σ μ, RR σ μ → k (nI (i + 6)) σ μ) : b_law_354 N k L xs (nI i) σ μ := by
  obtain ⟨tp, fa, l, net, x, ba, rg, ls, cm, li, oc, hX, hM⟩ := h
  obtain ⟨v1, v2, v3, v4, v5⟩ := vi5 hi hL
  have h11 : 1100 < N := by omega
  unfold b_law_354
  exact ⟨v1, v2, X_net h11 hX (fun τ hτ => ⟨v1, v2, M_net h11 hM (fun ν hν => lw_eI hk (RR_i hτ hν))⟩)⟩
theorem l_407 (hN : 8300 < N) (hi : i + 6 ≤ L) (hL : L ≤ 3072) (h : RR σ μ) (hk : ∀ σ μ, RR σ μ → k (nI (i + 6)) σ μ) : b_law_407 N k L xs (nI i) σ μ := by
  obtain ⟨tp, fa, l, net, x, ba, rg, ls, cm, li, oc, hX, hM⟩ := h
  obtain ⟨v1, v2, v3, v4, v5⟩ := vi5 hi hL
  unfold b_law_407
  exact X_netq hX (fun hτ => M_netq hM (fun hν => lw_eL hk (RR_i hτ hν)))
theorem l_421 (hN : 8300 < N) (hi : i + 6 ≤ L) (hL : L ≤ 3072) (h : RR σ μ) (hk : ∀ σ μ, RR σ μ → k (nI (i + 6)) σ μ) : b_law_421 N k L xs (nI i) σ μ := by
  obtain ⟨tp, fa, l, net, x, ba, rg, ls, cm, li, oc, hX, hM⟩ := h
  obtain ⟨v1, v2, v3, v4, v5⟩ := vi5 hi hL
  have h11 : 1100 < N := by omega
  unfold b_law_421
  exact ⟨v1, v2, X_shape h11 hX (fun hτ => ⟨v1, v2, M_shape h11 hM (fun hν => lw_eL hk (RR_i hτ hν))⟩)⟩
theorem l_455 (hN : 8300 < N) (hi : i + 6 ≤ L) (hL : L ≤ 3072) (h : RR σ μ) (hk : ∀ σ μ, RR σ μ → k (nI (i + 6)) σ μ) : b_law_455 N k L xs (nI i) σ μ := by
  obtain ⟨tp, fa, l, net, x, ba, rg, ls, cm, li, oc, hX, hM⟩ := h
  obtain ⟨v1, v2, v3, v4, v5⟩ := vi5 hi hL
  unfold b_law_455
  exact ⟨v1, X_extra hX (fun τ hτ => ⟨v1, M_extra hM (fun ν hν => lw_eI hk (RR_i hτ hν))⟩)⟩
theorem l_478 (hN : 8300 < N) (hi : i + 6 ≤ L) (hL : L ≤ 3072) (h : RR σ μ) (hk : ∀ σ μ, RR σ μ → k (nI (i + 6)) σ μ) : b_law_478 N k L xs (nI i) σ μ := by
  obtain ⟨tp, fa, l, net, x, ba, rg, ls, cm, li, oc, hX, hM⟩ := h
  obtain ⟨v1, v2, v3, v4, v5⟩ := vi5 hi hL
  have h11 : 1100 < N := by omega
  unfold b_law_478
  exact ⟨v1, X_worth h11 hX (fun τ hτ => ⟨v1, M_worth h11 hM (fun ν hν => lw_eL hk (RR_i hτ hν))⟩)⟩
theorem l_502 (hN : 8300 < N) (hi : i + 6 ≤ L) (hL : L ≤ 3072) (h : RR σ μ) (hk : ∀ σ μ, RR σ μ → k (nI (i + 6)) σ μ) : b_law_502 N k L xs (nI i) σ μ := by
  obtain ⟨tp, fa, l, net, x, ba, rg, ls, cm, li, oc, hX, hM⟩ := h
  obtain ⟨v1, v2, v3, v4, v5⟩ := vi5 hi hL
  have h11 : 1100 < N := by omega
  unfold b_law_502
  exact ⟨v1, v2, X_ways h11 hX (fun τ hτ => ⟨v1, v2, M_ways h11 hM (fun ν hν => lw_eI hk (RR_i hτ hν))⟩)⟩
theorem l_535 (hN : 8300 < N) (hi : i + 6 ≤ L) (hL : L ≤ 3072) (h : RR σ μ) (hk : ∀ σ μ, RR σ μ → k (nI (i + 6)) σ μ) : b_law_535 N k L xs (nI i) σ μ := by
  obtain ⟨tp, fa, l, net, x, ba, rg, ls, cm, li, oc, hX, hM⟩ := h
  obtain ⟨v1, v2, v3, v4, v5⟩ := vi5 hi hL
  have h11 : 1100 < N := by omega
  unfold b_law_535
  exact ⟨v1, X_rest h11 hX (fun τ hτ => ⟨v1, M_rest h11 hM (fun ν hν => lw_eI hk (RR_i hτ hν))⟩)⟩
theorem l_558 (hN : 8300 < N) (hi : i + 6 ≤ L) (hL : L ≤ 3072) (h : RR σ μ) (hk : ∀ σ μ, RR σ μ → k (nI (i + 6)) σ μ) : b_law_558 N k L xs (nI i) σ μ := by
  obtain ⟨tp, fa, l, net, x, ba, rg, ls, cm, li, oc, hX, hM⟩ := h
  obtain ⟨v1, v2, v3, v4, v5⟩ := vi5 hi hL
  unfold b_law_558
  exact ⟨v1, X_bars hX (fun hτ => ⟨v1, M_bars hM (fun hν => lw_eL hk (RR_i hτ hν))⟩)⟩
theorem l_582 (hN : 8300 < N) (hi : i + 6 ≤ L) (hL : L ≤ 3072) (h : RR σ μ) (hk : ∀ σ μ, RR σ μ → k (nI (i + 6)) σ μ) : b_law_582 N k L xs (nI i) σ μ := by
  obtain ⟨tp, fa, l, net, x, ba, rg, ls, cm, li, oc, hX, hM⟩ := h
  obtain ⟨v1, v2, v3, v4, v5⟩ := vi5 hi hL
  have h11 : 1100 < N := by omega
  unfold b_law_582
  exact ⟨v1, X_step h11 hX (fun τ hτ => ⟨v1, M_step h11 hM (fun ν hν => lw_eI hk (RR_i hτ hν))⟩)⟩
theorem l_605 (hN : 8300 < N) (hi : i + 6 ≤ L) (hL : L ≤ 3072) (h : RR σ μ) (hk : ∀ σ μ, RR σ μ → k (nI (i + 6)) σ μ) : b_law_605 N k L xs (nI i) σ μ := by
  obtain ⟨tp, fa, l, net, x, ba, rg, ls, cm, li, oc, hX, hM⟩ := h
  obtain ⟨v1, v2, v3, v4, v5⟩ := vi5 hi hL
  have h11 : 1100 < N := by omega
  unfold b_law_605
  exact X_go h11 hX (fun τ hτ => M_go h11 hM (fun ν hν => lw_eI hk (RR_i hτ hν)))
theorem l_618 (hN : 8300 < N) (hi : i + 6 ≤ L) (hL : L ≤ 3072) (h : RR σ μ) (hk : ∀ σ μ, RR σ μ → k (nI (i + 6)) σ μ) : b_law_618 N k L xs (nI i) σ μ := by
  obtain ⟨tp, fa, l, net, x, ba, rg, ls, cm, li, oc, hX, hM⟩ := h
  obtain ⟨v1, v2, v3, v4, v5⟩ := vi5 hi hL
  unfold b_law_618
  exact ⟨v1, X_ring hX (fun hτ => ⟨v1, M_ring hM (fun hν => lw_eL hk (RR_i hτ hν))⟩)⟩
theorem l_642 (hN : 8300 < N) (hi : i + 6 ≤ L) (hL : L ≤ 3072) (h : RR σ μ) (hk : ∀ σ μ, RR σ μ → k (nI (i + 6)) σ μ) : b_law_642 N k L xs (nI i) σ μ := by
  obtain ⟨tp, fa, l, net, x, ba, rg, ls, cm, li, oc, hX, hM⟩ := h
  obtain ⟨v1, v2, v3, v4, v5⟩ := vi5 hi hL
  have h11 : 1100 < N := by omega
  unfold b_law_642
  exact ⟨v1, v2, ⟨fun z => X_all (sh := false) h11 hX (fun τ hτ => ⟨v1, v2, ⟨fun _ => M_all (sh := false) h11 hM (fun ν hν => lw_eI hk (RR_i hτ hν)), fun q => absurd z q⟩⟩), fun z => X_all (sh := true) h11 hX (fun τ hτ => ⟨v1, v2, ⟨fun q => absurd q z, fun _ => M_all (sh := true) h11 hM (fun ν hν => lw_eI hk (RR_i hτ hν))⟩⟩)⟩⟩
theorem l_691 (hN : 8300 < N) (hi : i + 6 ≤ L) (hL : L ≤ 3072) (h : RR σ μ) (hk : ∀ σ μ, RR σ μ → k (nI (i + 6)) σ μ) : b_law_691 N k L xs (nI i) σ μ := by
  obtain ⟨tp, fa, l, net, x, ba, rg, ls, cm, li, oc, hX, hM⟩ := h
  obtain ⟨v1, v2, v3, v4, v5⟩ := vi5 hi hL
  unfold b_law_691
  exact ⟨v1, X_one hX (fun hτ => ⟨v1, M_one hM (fun hν => lw_eL hk (RR_i hτ hν))⟩)⟩
theorem l_715 (hN : 8300 < N) (hi : i + 6 ≤ L) (hL : L ≤ 3072) (h : RR σ μ) (hk : ∀ σ μ, RR σ μ → k (nI (i + 6)) σ μ) : b_law_715 N k L xs (nI i) σ μ := by
  obtain ⟨tp, fa, l, net, x, ba, rg, ls, cm, li, oc, hX, hM⟩ := h
  obtain ⟨v1, v2, v3, v4, v5⟩ := vi5 hi hL
  have h11 : 1100 < N := by omega
  unfold b_law_715
  exact X_best h11 hX (fun τ hτ => M_best h11 hM (fun ν hν => lw_eL hk (RR_i hτ hν)))
theorem l_729 (hN : 8300 < N) (hi : i + 6 ≤ L) (hL : L ≤ 3072) (h : RR σ μ) (hk : ∀ σ μ, RR σ μ → k (nI (i + 6)) σ μ) : b_law_729 N k L xs (nI i) σ μ := by
  obtain ⟨tp, fa, l, net, x, ba, rg, ls, cm, li, oc, hX, hM⟩ := h
  obtain ⟨v1, v2, v3, v4, v5⟩ := vi5 hi hL
  have h11 : 1100 < N := by omega
  unfold b_law_729
  exact ⟨v1, v2, ⟨fun z => X_loss (hi := false) h11 hX (fun τ hτ => ⟨v1, v2, ⟨fun _ => M_loss (hi := false) h11 hM (fun ν hν => lw_eL hk (RR_i hτ hν)), fun q => absurd z q⟩⟩), fun z => X_loss (hi := true) h11 hX (fun τ hτ => ⟨v1, v2, ⟨fun q => absurd q z, fun _ => M_loss (hi := true) h11 hM (fun ν hν => lw_eL hk (RR_i hτ hν))⟩⟩)⟩⟩
theorem l_779 (hN : 8300 < N) (hi : i + 6 ≤ L) (hL : L ≤ 3072) (h : RR σ μ) (hk : ∀ σ μ, RR σ μ → k (nI (i + 6)) σ μ) : b_law_779 N k L xs (nI i) σ μ := by
  obtain ⟨tp, fa, l, net, x, ba, rg, ls, cm, li, oc, hX, hM⟩ := h
  obtain ⟨v1, v2, v3, v4, v5⟩ := vi5 hi hL
  have h11 : 1100 < N := by omega
  unfold b_law_779
  exact X_coming h11 hX (fun τ hτ => M_coming h11 hM (fun ν hν => lw_eI hk (RR_i hτ hν)))
theorem l_792 (hN : 8300 < N) (hi : i + 6 ≤ L) (hL : L ≤ 3072) (h : RR σ μ) (hk : ∀ σ μ, RR σ μ → k (nI (i + 6)) σ μ) : b_law_792 N k L xs (nI i) σ μ := by
  obtain ⟨tp, fa, l, net, x, ba, rg, ls, cm, li, oc, hX, hM⟩ := h
  obtain ⟨v1, v2, v3, v4, v5⟩ := vi5 hi hL
  unfold b_law_792
  exact ⟨v1, v2, ⟨fun z => X_comes hX (fun hτ => ⟨v1, v2, ⟨fun _ => M_comes hM (fun hν => lw_eL hk (RR_i hτ hν)), fun q => absurd z q⟩⟩), fun z => X_comes hX (fun hτ => ⟨v1, v2, ⟨fun q => absurd q z, fun _ => M_comes hM (fun hν => lw_eL hk (RR_i hτ hν))⟩⟩)⟩⟩
theorem l_842 (hN : 8300 < N) (hi : i + 6 ≤ L) (hL : L ≤ 3072) (h : RR σ μ) (hk : ∀ σ μ, RR σ μ → k (nI (i + 6)) σ μ) : b_law_842 N k L xs (nI i) σ μ := by
  obtain ⟨tp, fa, l, net, x, ba, rg, ls, cm, li, oc, hX, hM⟩ := h
  obtain ⟨v1, v2, v3, v4, v5⟩ := vi5 hi hL
  have h11 : 1100 < N := by omega
  unfold b_law_842
  exact ⟨v1, X_gifts h11 hX (fun τ hτ => ⟨v1, M_gifts h11 hM (fun ν hν => lw_eL hk (RR_i hτ hν))⟩)⟩
theorem l_866 (hN : 8300 < N) (hi : i + 6 ≤ L) (hL : L ≤ 3072) (h : RR σ μ) (hk : ∀ σ μ, RR σ μ → k (nI (i + 6)) σ μ) : b_law_866 N k L xs (nI i) σ μ := by
  obtain ⟨tp, fa, l, net, x, ba, rg, ls, cm, li, oc, hX, hM⟩ := h
  obtain ⟨v1, v2, v3, v4, v5⟩ := vi5 hi hL
  have h11 : 1100 < N := by omega
  unfold b_law_866
  exact ⟨v1, v2, v3, ⟨fun z => X_gift (b := false) h11 hX (fun τ hτ => ⟨v1, v2, v3, ⟨fun _ => M_gift (b := false) h11 hM (fun ν hν => lw_eL hk (RR_i hτ hν)), fun q => absurd z q⟩⟩), fun z => X_gift (b := true) h11 hX (fun τ hτ => ⟨v1, v2, v3, ⟨fun q => absurd q z, fun _ => M_gift (b := true) h11 hM (fun ν hν => lw_eL hk (RR_i hτ hν))⟩⟩)⟩⟩
theorem l_926 (hN : 8300 < N) (hi : i + 6 ≤ L) (hL : L ≤ 3072) (h : RR σ μ) (hk : ∀ σ μ, RR σ μ → k (nI (i + 6)) σ μ) : b_law_926 N k L xs (nI i) σ μ := by
  obtain ⟨tp, fa, l, net, x, ba, rg, ls, cm, li, oc, hX, hM⟩ := h
  obtain ⟨v1, v2, v3, v4, v5⟩ := vi5 hi hL
  have h11 : 1100 < N := by omega
  unfold b_law_926
  exact ⟨v1, ⟨fun z => X_good (b := false) h11 hX (fun τ hτ => ⟨v1, ⟨fun _ => M_good (b := false) h11 hM (fun ν hν => lw_eL hk (RR_i hτ hν)), fun q => absurd z q⟩⟩), fun z => X_good (b := true) h11 hX (fun τ hτ => ⟨v1, ⟨fun q => absurd q z, fun _ => M_good (b := true) h11 hM (fun ν hν => lw_eL hk (RR_i hτ hν))⟩⟩)⟩⟩
theorem l_966 (hN : 8300 < N) (hi : i + 6 ≤ L) (hL : L ≤ 3072) (h : RR σ μ) (hk : ∀ σ μ, RR σ μ → k (nI (i + 6)) σ μ) : b_law_966 N k L xs (nI i) σ μ := by
  obtain ⟨tp, fa, l, net, x, ba, rg, ls, cm, li, oc, hX, hM⟩ := h
  obtain ⟨v1, v2, v3, v4, v5⟩ := vi5 hi hL
  have h11 : 1100 < N := by omega
  unfold b_law_966
  exact ⟨v1, v2, v3, v4, ⟨fun z => X_edge (m := false) h11 hX (fun τ hτ => ⟨v1, v2, v3, v4, ⟨fun _ => M_edge (m := false) h11 hM (fun ν hν => lw_eI hk (RR_i hτ hν)), fun q => absurd z q⟩⟩), fun z => X_edge (m := true) h11 hX (fun τ hτ => ⟨v1, v2, v3, v4, ⟨fun q => absurd q z, fun _ => M_edge (m := true) h11 hM (fun ν hν => lw_eI hk (RR_i hτ hν))⟩⟩)⟩⟩
theorem l_1035 (hN : 8300 < N) (hi : i + 6 ≤ L) (hL : L ≤ 3072) (h : RR σ μ) (hk : ∀ σ μ, RR σ μ → k (nI (i + 6)) σ μ) : b_law_1035 N k L xs (nI i) σ μ := by
  obtain ⟨tp, fa, l, net, x, ba, rg, ls, cm, li, oc, hX, hM⟩ := h
  obtain ⟨v1, v2, v3, v4, v5⟩ := vi5 hi hL
  have h11 : 1100 < N := by omega
  unfold b_law_1035
  exact ⟨v1, X_lie h11 hX (fun τ hτ => ⟨v1, M_lie h11 hM (fun ν hν => lw_eI hk (RR_i hτ hν))⟩)⟩
theorem l_1058 (hN : 8300 < N) (hi : i + 6 ≤ L) (hL : L ≤ 3072) (h : RR σ μ) (hk : ∀ σ μ, RR σ μ → k (nI (i + 6)) σ μ) : b_law_1058 N k L xs (nI i) σ μ := by
  obtain ⟨tp, fa, l, net, x, ba, rg, ls, cm, li, oc, hX, hM⟩ := h
  obtain ⟨v1, v2, v3, v4, v5⟩ := vi5 hi hL
  unfold b_law_1058
  exact X_lied hX (fun hτ => M_lied hM (fun hν => lw_eL hk (RR_i hτ hν)))
theorem l_1072 (hN : 8300 < N) (hi : i + 6 ≤ L) (hL : L ≤ 3072) (h : RR σ μ) (hk : ∀ σ μ, RR σ μ → k (nI (i + 6)) σ μ) : b_law_1072 N k L xs (nI i) σ μ := by
  obtain ⟨tp, fa, l, net, x, ba, rg, ls, cm, li, oc, hX, hM⟩ := h
  obtain ⟨v1, v2, v3, v4, v5⟩ := vi5 hi hL
  have h11 : 1100 < N := by omega
  unfold b_law_1072
  exact X_image h11 hX (fun τ hτ => M_image h11 hM (fun ν hν => lw_eI hk (RR_i hτ hν)))
theorem l_1085 (hN : 8300 < N) (hi : i + 6 ≤ L) (hL : L ≤ 3072) (h : RR σ μ) (hk : ∀ σ μ, RR σ μ → k (nI (i + 6)) σ μ) : b_law_1085 N k L xs (nI i) σ μ := by
  obtain ⟨tp, fa, l, net, x, ba, rg, ls, cm, li, oc, hX, hM⟩ := h
  obtain ⟨v1, v2, v3, v4, v5⟩ := vi5 hi hL
  unfold b_law_1085
  exact ⟨v1, X_octet hX (fun hτ => ⟨v1, M_octet hM (fun hν => lw_eI hk (RR_i hτ hν))⟩)⟩
theorem l_1108 (hN : 8300 < N) (hi : i + 6 ≤ L) (hL : L ≤ 3072) (h : RR σ μ) (hk : ∀ σ μ, RR σ μ → k (nI (i + 6)) σ μ) : b_law_1108 N k L xs (nI i) σ μ := by
  obtain ⟨tp, fa, l, net, x, ba, rg, ls, cm, li, oc, hX, hM⟩ := h
  obtain ⟨v1, v2, v3, v4, v5⟩ := vi5 hi hL
  have h11 : 1100 < N := by omega
  unfold b_law_1108
  exact X_on h11 hX (fun τ hτ => M_on h11 hM (fun ν hν => lw_eI hk (RR_i hτ hν)))
theorem l_262 (hN : 8300 < N) (h : RR σ μ) (hk : ∀ σ μ, RR σ μ → k (nI (i + 6)) σ μ) : b_law_262 N k L xs (nI i) σ μ := by
  obtain ⟨tp, fa, l, net, x, ba, rg, ls, cm, li, oc, hX, hM⟩ := h
  unfold b_law_262
  refine X_land hN hX (fun q τ eq hτ => M_land hN hM (fun q2 ν eq2 hν => ?_) (fun e ν he _ => ?_)) (fun e τ he hτ => M_land hN hM (fun q2 ν eq2 _ => ?_) (fun e2 ν he2 hν => ?_))
  · have g := Except.ok.inj (eq.symm.trans eq2)
    subst g
    exact lw_eI hk (RR_i hτ hν)
  · have g := eq.symm.trans he
    cases g
  · have g := he.symm.trans eq2
    cases g
  · have g := Except.error.inj (he.symm.trans he2)
    subst g
    exact lw_eI hk (RR_i hτ hν)
theorem l_in (hL : L ≤ 3072) (hi : i ≤ 4000) (h : ¬ (Int32.ofNat L - (6 : Int32)) < nI i) : i + 6 ≤ L := by
  rcases Nat.lt_or_ge L 6 with g | g
  · refine absurd ?_ h
    have g0 : 0 ≤ (nI i).toInt := by rw [nI_toInt (by omega)]; omega
    rw [fa_lt]
    have g1 : (Int32.ofNat L - (6 : Int32)).toInt < 0 := by
      have g2 : L = 0 ∨ L = 1 ∨ L = 2 ∨ L = 3 ∨ L = 4 ∨ L = 5 := by omega
      rcases g2 with e | e | e | e | e | e <;> rw [e] <;> decide
    omega
  · have e : Int32.ofNat L - (6 : Int32) = nI (L - 6) := by
      have e2 : Int32.ofNat L = nI (L - 6) + nI 6 := by rw [nI_add]; exact congrArg Int32.ofNat (by omega)
      rw [e2]
      exact Int32.add_sub_cancel _ _
    rw [e, nI_ltI (by omega) (by omega)] at h
    omega
theorem l_18 (hN : 8300 < N) (hL : L ≤ 3072) (hi : i ≤ 4000) (h : RR σ μ) (hk : i + 6 ≤ L → ∀ σ μ, RR σ μ → k (nI (i + 6)) σ μ) : b_law_18 N k L xs (nI i) σ μ := by
  unfold b_law_18
  refine ⟨fun _ => trivial, fun z => ?_⟩
  have h6 := l_in hL hi z
  have hk := hk h6
  refine ⟨vp_in_nI (by omega) (by omega), fun v1 _ => ?_⟩
  refine ⟨fun _ => l_176 hN h6 hL h hk, fun _ => ?_⟩
  refine ⟨fun _ => l_239 hN h6 hL h hk, fun _ => ?_⟩
  refine ⟨fun _ => l_262 hN h hk, fun _ => ?_⟩
  refine ⟨fun _ => l_275 hN h6 hL h hk, fun _ => ?_⟩
  refine ⟨fun _ => l_298 hN h6 hL h hk, fun _ => ?_⟩
  refine ⟨fun _ => l_321 hN h6 hL h hk, fun _ => ?_⟩
  refine ⟨fun _ => l_354 hN h6 hL h hk, fun _ => ?_⟩
  refine ⟨fun _ => l_407 hN h6 hL h hk, fun _ => ?_⟩
  refine ⟨fun _ => l_421 hN h6 hL h hk, fun _ => ?_⟩
  refine ⟨fun _ => l_455 hN h6 hL h hk, fun _ => ?_⟩
  refine ⟨fun _ => l_478 hN h6 hL h hk, fun _ => ?_⟩
  refine ⟨fun _ => l_502 hN h6 hL h hk, fun _ => ?_⟩
  refine ⟨fun _ => l_535 hN h6 hL h hk, fun _ => ?_⟩
  refine ⟨fun _ => l_558 hN h6 hL h hk, fun _ => ?_⟩
  refine ⟨fun _ => l_582 hN h6 hL h hk, fun _ => ?_⟩
  refine ⟨fun _ => l_605 hN h6 hL h hk, fun _ => ?_⟩
  refine ⟨fun _ => l_618 hN h6 hL h hk, fun _ => ?_⟩
  refine ⟨fun _ => l_642 hN h6 hL h hk, fun _ => ?_⟩
  refine ⟨fun _ => l_691 hN h6 hL h hk, fun _ => ?_⟩
  refine ⟨fun _ => l_715 hN h6 hL h hk, fun _ => ?_⟩
  refine ⟨fun _ => l_729 hN h6 hL h hk, fun _ => ?_⟩
  refine ⟨fun _ => l_779 hN h6 hL h hk, fun _ => ?_⟩
  refine ⟨fun _ => l_792 hN h6 hL h hk, fun _ => ?_⟩
  refine ⟨fun _ => l_842 hN h6 hL h hk, fun _ => ?_⟩
  refine ⟨fun _ => l_866 hN h6 hL h hk, fun _ => ?_⟩
  refine ⟨fun _ => l_926 hN h6 hL h hk, fun _ => ?_⟩
  refine ⟨fun _ => l_966 hN h6 hL h hk, fun _ => ?_⟩
  refine ⟨fun _ => l_1035 hN h6 hL h hk, fun _ => ?_⟩
  refine ⟨fun _ => l_1058 hN h6 hL h hk, fun _ => ?_⟩
  refine ⟨fun _ => l_1072 hN h6 hL h hk, fun _ => ?_⟩
  refine ⟨fun _ => l_1085 hN h6 hL h hk, fun _ => ?_⟩
  refine ⟨fun _ => l_1108 hN h6 hL h hk, fun _ => ?_⟩
  exact lw_nx hk h
theorem l_go (hN : 8300 < N) (hL : L ≤ 3072) : ∀ (f i : Nat) (σ μ : zSt), i ≤ 4000 → i ≤ L + 6 → L + 7 - i ≤ f → RR σ μ → w_law N L xs f (nI i) σ μ
  | 0, i, _, _, _, h2, h3, _ => by omega
  | f + 1, i, σ, μ, h1, h2, h3, h => by
    show b_law_18 N (w_law N L xs f) L xs (nI i) σ μ
    exact l_18 hN hL h1 h (fun h6 σ μ h => l_go hN hL f (i + 6) σ μ (by omega) (by omega) (by omega) h)
end lw
theorem pure_law (L : Nat) (xs : Nat → Int32) (hL : L ≤ 3072) : zlaw 10000 L xs := by
  unfold zlaw
  refine X_new (by omega) (fun τ hτ => ?_)
  exact l_go (by omega) hL 10000 0 τ zM0 (by omega) (by omega) (by omega) (RR_i hτ M_new)
