/-! feed and has -/
def byN (w : Int32) (s : Nat) : Nat := (w >>> (nI s &&& nI 31)).toBitVec.toNat % 256
theorem byN_lt (w : Int32) (s : Nat) : byN w s < 256 := Nat.mod_lt _ (by decide)
theorem byN_is (w : Int32) (s : Nat) : (w >>> (nI s &&& 31)) &&& 255 = nI (byN w s) := by
  have := pk_and (w >>> (nI s &&& 31)) (m := (255 : Int32)) 8 (by decide)
  exact this
def pushT (tp : Nat × (Nat → Nat)) (v : Nat) : Nat × (Nat → Nat) := (tp.1 + 1, fun j => if j = tp.1 then v else tp.2 j)
def fdW (a b c d e : Int32) (k : Nat) : Int32 := if k < 4 then a else if k < 8 then b else if k < 12 then c else if k < 16 then d else e
def fdK (tp : Nat × (Nat → Nat)) (a b c d e : Int32) : Nat → Nat × (Nat → Nat)
  | 0 => tp
  | k + 1 => pushT (fdK tp a b c d e k) (byN (fdW a b c d e k) (8 * (3 - k % 4)))
def feeT (tp : Nat × (Nat → Nat)) (a b c d e : Int32) : Nat × (Nat → Nat) := if tp.1 ≤ 780 then fdK tp a b c d e 20 else tp
def feeA (tp : Nat × (Nat → Nat)) : Int32 := if tp.1 ≤ 780 then nI (tp.1 + 20) else -1
theorem fdK_1 {tp : Nat × (Nat → Nat)} {a b c d e : Int32} : ∀ k, (fdK tp a b c d e k).1 = tp.1 + k
  | 0 => rfl
  | k + 1 => by
    show (fdK tp a b c d e k).1 + 1 = tp.1 + (k + 1)
    rw [fdK_1 k]; omega
def cntK (l : zL) (kind r : Nat) : Nat := fb_ct (fun q => decide (lKi l q = kind)) r
def hasA (l : zL) (x : Int32) (net : Nat) (w : Int32) : Int32 := if w = 0 then nI (lPn l) else if w = 1 then nI (lPc l) else if w = 2 then nI (cntK l 0 (lRc l)) else if w = 3 then nI (cntK l 1 (lRc l)) else if w = 4 then x else if w = 5 then nI (pop net) else -1
section fh
variable {N : Nat} {σ τ μ ν : zSt} {tp : Nat × (Nat → Nat)} {fa : Int32 × Int32} {l : zL} {net : Nat} {x : Int32} {ba rg : Nat → Int64} {ls : Nat × (Nat → Int64)} {cm : Nat × (Nat → Int64) × (Nat → Int32)} {li : Int64} {oc : Nat → Int32}
theorem X_push {v : Nat} (hv : v < 256) (ht : tp.1 < 800) (h : XR σ tp fa l net x ba rg ls cm li oc) : XR (zI (zA σ 2 (upd (σ.2.2.1 2) tp.1 (nI v))) 0 (nI (tp.1 + 1))) (pushT tp v) fa l net x ba rg ls cm li oc := by
  obtain ⟨b1, b2, b3, b4, b5, b6, b7, b8, b9, b10, b11, b12⟩ := h
  refine ⟨⟨?_, zI_1s, fun k hk => ?_⟩, b2, xG_fr (I := [0]) (J := []) (A := [2]) (B := []) (fr_I (fr_A fr_r (by decide)) (by decide)) (notin rfl) (notin rfl) (notin rfl) (notin rfl) b3, b4, b5, b6, b7, b8, b9, b10, b11, b12⟩
  · show tp.1 + 1 ≤ 800; omega
  · have hk : k < tp.1 + 1 := hk
    show (if k = tp.1 then v else tp.2 k) < 256 ∧ upd (σ.2.2.1 2) tp.1 (nI v) k = nI (if k = tp.1 then v else tp.2 k)
    by_cases c : k = tp.1
    · rw [if_pos c, c, pk_us]; exact ⟨hv, rfl⟩
    · rw [if_neg c, pk_un c]; exact b1.2.2 k (by omega)
theorem M_push {v : Nat} (hv : v < 256) (ht : tp.1 < 800) (h : MR μ tp fa l net x ba rg ls cm li oc) : MR (zI (zA μ 0 (upd (μ.2.2.1 0) tp.1 (nI v))) 0 (nI (tp.1 + 1))) (pushT tp v) fa l net x ba rg ls cm li oc := by
  obtain ⟨b1, b2, b3, b4, b5, b6, b7, b8, b9, b10, b11, b12⟩ := h
  refine ⟨⟨?_, zI_1s, fun k hk => ?_⟩, b2, mG_fr (I := [0]) (J := []) (A := [0]) (B := []) (fr_I (fr_A fr_r (by decide)) (by decide)) (notin rfl) (by decide) (notin rfl) (notin rfl) b3, b4, b5, b6, b7, b8, b9, b10, b11, b12⟩
  · show tp.1 + 1 ≤ 800; omega
  · have hk : k < tp.1 + 1 := hk
    show (if k = tp.1 then v else tp.2 k) < 256 ∧ upd (μ.2.2.1 0) tp.1 (nI v) k = nI (if k = tp.1 then v else tp.2 k)
    by_cases c : k = tp.1
    · rw [if_pos c, c, pk_us]; exact ⟨hv, rfl⟩
    · rw [if_neg c, pk_un c]; exact b1.2.2 k (by omega)
/-- one byte comes behind -/
theorem X_turn {w : Int32} {s : Nat} {k3 : Int32 → Int32 → zSt → Prop} {Q : zSt → Prop} (hs : s < 32) (ht : tp.1 < 800) (h : XR σ tp fa l net x ba rg ls cm li oc) (hk : ∀ τ, XR τ (pushT tp (byN w s)) fa l net x ba rg ls cm li oc → k3 w (nI s + -8) τ) : b_X7_add_3 N k3 Q w (nI s) σ := by
  unfold b_X7_add_3
  rw [h.1.2.1, byN_is, nI_clamp (n := tp.1) (by omega)]
  have e0 : ∀ τ : zSt, τ = zA σ 2 (upd (σ.2.2.1 2) tp.1 (nI (byN w s))) → τ.1 0 + 1 = nI (tp.1 + 1) := fun τ e => by
    rw [e, zA_1, h.1.2.1, nI_1]
  refine br_f (nI_pos (by omega)) (br_f (nI_pos (by omega)) (br_f (nI_ge (b := 800) ht (by omega)) ⟨vp_in_nI ht (by decide), fun τ3 e3 τ4 e4 => nm_e ?_⟩))
  rw [e0 τ3 e3] at e4
  rw [e4, e3]
  exact hk _ (X_push (byN_lt _ _) ht h)
theorem X_add {w : Int32} {Q : zSt → Prop} (hN : 1100 < N) (ht : tp.1 + 4 ≤ 800) (h : XR σ tp fa l net x ba rg ls cm li oc) (hQ : ∀ τ, XR τ (pushT (pushT (pushT (pushT tp (byN w 24)) (byN w 16)) (byN w 8)) (byN w 0)) fa l net x ba rg ls cm li oc → Q τ) : w_X7_add N w σ Q := by
  obtain ⟨n, rfl⟩ : ∃ m, N = m + 5 := ⟨N - 5, by omega⟩
  show b_X7_add_3 (n + 5) (w_X7_add_3 (n + 5) Q (n + 4)) Q w (nI 24) σ
  refine X_turn (by omega) (by omega) h (fun τ1 h1 => ?_)
  show b_X7_add_3 (n + 5) (w_X7_add_3 (n + 5) Q (n + 3)) Q w (nI 16) τ1
  refine X_turn (by omega) (by show tp.1 + 1 < 800; omega) h1 (fun τ2 h2 => ?_)
  show b_X7_add_3 (n + 5) (w_X7_add_3 (n + 5) Q (n + 2)) Q w (nI 8) τ2
  refine X_turn (by omega) (by show tp.1 + 1 + 1 < 800; omega) h2 (fun τ3 h3 => ?_)
  show b_X7_add_3 (n + 5) (w_X7_add_3 (n + 5) Q (n + 1)) Q w (nI 0) τ3
  refine X_turn (by omega) (by show tp.1 + 1 + 1 + 1 < 800; omega) h3 (fun τ4 h4 => ?_)
  show b_X7_add_3 (n + 5) (w_X7_add_3 (n + 5) Q n) Q w (nI 0 + -8) τ4
  unfold b_X7_add_3
  exact br_t (by decide) (hQ τ4 h4)
theorem X_feed {a b c d e : Int32} {Q : Int32 → zSt → Prop} (hN : 1100 < N) (h : XR σ tp fa l net x ba rg ls cm li oc) (hQ : ∀ τ, XR τ (feeT tp a b c d e) fa l net x ba rg ls cm li oc → Q (feeA tp) τ) : w_X11_feed N a b c d e σ Q := by
  have h8 := h.1.1
  unfold w_X11_feed
  rw [h.1.2.1]
  unfold feeT feeA at hQ
  refine ⟨fun q => ?_, fun q => ?_⟩
  · have q : tp.1 ≤ 780 := (nI_leI (b := 780) (by omega) (by omega)).mp q
    rw [if_pos q, if_pos q] at hQ
    refine X_add hN (by omega) h (fun τ1 h1 => X_add hN ?_ h1 (fun τ2 h2 => X_add hN ?_ h2 (fun τ3 h3 => X_add hN ?_ h3 (fun τ4 h4 => X_add hN ?_ h4 (fun τ5 h5 => ?_)))))
    · show tp.1 + 1 + 1 + 1 + 1 + 4 ≤ 800; omega
    · show tp.1 + 1 + 1 + 1 + 1 + 1 + 1 + 1 + 1 + 4 ≤ 800; omega
    · show tp.1 + 1 + 1 + 1 + 1 + 1 + 1 + 1 + 1 + 1 + 1 + 1 + 1 + 4 ≤ 800; omega
    · show tp.1 + 1 + 1 + 1 + 1 + 1 + 1 + 1 + 1 + 1 + 1 + 1 + 1 + 1 + 1 + 1 + 1 + 4 ≤ 800; omega
    · have h6 : XR τ5 (fdK tp a b c d e 20) fa l net x ba rg ls cm li oc := h5
      have e1 : τ5.1 0 = nI (tp.1 + 20) := by
        have := h6.1.2.1
        rw [fdK_1] at this
        exact this
      rw [e1]
      exact hQ τ5 h6
  · have q : ¬ tp.1 ≤ 780 := fun z => q (nI_le (b := 780) z (by omega))
    rw [if_neg q, if_neg q] at hQ
    exact hQ σ h
theorem M_feed {a b c d e : Int32} {Q : Int32 → zSt → Prop} (hN : 1100 < N) (h : MR μ tp fa l net x ba rg ls cm li oc) (hQ : ∀ ν, MR ν (feeT tp a b c d e) fa l net x ba rg ls cm li oc → Q (feeA tp) ν) : w_X12_feed N a b c d e μ Q := by
  have h8 := h.1.1
  unfold w_X12_feed
  rw [h.1.2.1, li_20, nI_add]
  unfold feeT feeA at hQ
  refine ⟨fun q => ?_, fun q => ?_⟩
  · have q : tp.1 + 20 ≤ 800 := (nI_leI (b := 800) (by omega) (by omega)).mp q
    rw [if_pos (by omega), if_pos (by omega)] at hQ
    refine loopU (S := zSt) (fun f k τ => w_X12_feed_18 N Q f a b c d e (nI k) τ) (fun k τ => MR τ (fdK tp a b c d e k) fa l net x ba rg ls cm li oc) 20 ?_ ?_ N 0 μ (Nat.zero_le _) (by omega) h
    · intro f τ t0
      show b_X12_feed_18 N (w_X12_feed_18 N Q f) Q a b c d e (nI 20) τ
      unfold b_X12_feed_18
      have e1 : τ.1 0 = nI (tp.1 + 20) := by
        have := t0.1.2.1
        rw [fdK_1] at this
        exact this
      rw [e1]
      exact br_t (nI_le (a := 20) (Nat.le_refl _) (by omega)) (hQ τ t0)
    · intro f k τ hk t0 ih
      show b_X12_feed_18 N (w_X12_feed_18 N Q f) Q a b c d e (nI k) τ
      unfold b_X12_feed_18
      have e0 : τ.1 0 = nI (tp.1 + k) := by
        have := t0.1.2.1
        rw [fdK_1] at this
        exact this
      have e1 : (fdK tp a b c d e k).1 = tp.1 + k := fdK_1 k
      have go : ∀ w, w = fdW a b c d e k → b_X12_feed_71 N (w_X12_feed_18 N Q f) Q a b c d e (nI k) w τ := by
        intro w hw
        unfold b_X12_feed_71
        have hk4 : k % 4 < 4 := Nat.mod_lt _ (by decide)
        have es : (8 : Int32) * (3 - (nI k - nI k / 4 * 4)) = nI (8 * (3 - k % 4)) := by
          rw [li_4, pk_rem (by omega) (by decide) (by decide), li_3, pk_sub (by omega), li_8, pk_mul]
        rw [es, byN_is, e0, nI_clamp (n := tp.1 + k) (by omega)]
        have ea : ∀ τ1 : zSt, τ1 = zA τ 0 (upd (τ.2.2.1 0) (tp.1 + k) (nI (byN w (8 * (3 - k % 4))))) → τ1.1 0 + 1 = nI (tp.1 + k + 1) := fun τ1 e => by rw [e, zA_1, e0, nI_1]
        refine ⟨vp_in_nI (by omega) (by decide), fun τ1 h1 τ2 h2 => nm_e ?_⟩
        rw [ea τ1 h1] at h2
        rw [h2, h1, nI_1]
        have := M_push (v := byN w (8 * (3 - k % 4))) (byN_lt _ _) (by rw [e1]; omega) t0
        rw [e1, hw] at this
        rw [hw]
        exact ih _ this
      unfold fdW at go
      refine br_f (nI_ge (b := 20) (by omega) (by omega)) ⟨fun z => ⟨fun z2 => ⟨fun z3 => ⟨fun z4 => go _ ?_, fun z4 => go _ ?_⟩, fun z3 => go _ ?_⟩, fun z2 => go _ ?_⟩, fun z => go _ ?_⟩
      · have z : 4 ≤ k := (nI_leI (a := 4) (by omega) (by omega)).mp z
        have z2 : 8 ≤ k := (nI_leI (a := 8) (by omega) (by omega)).mp z2
        have z3 : 12 ≤ k := (nI_leI (a := 12) (by omega) (by omega)).mp z3
        have z4 : 16 ≤ k := (nI_leI (a := 16) (by omega) (by omega)).mp z4
        rw [if_neg (by omega), if_neg (by omega), if_neg (by omega), if_neg (by omega)]
      · have z3 : 12 ≤ k := (nI_leI (a := 12) (by omega) (by omega)).mp z3
        have z4 : ¬ 16 ≤ k := fun y => z4 (nI_le (a := 16) y (by omega))
        rw [if_neg (by omega), if_neg (by omega), if_neg (by omega), if_pos (by omega)]
      · have z2 : 8 ≤ k := (nI_leI (a := 8) (by omega) (by omega)).mp z2
        have z3 : ¬ 12 ≤ k := fun y => z3 (nI_le (a := 12) y (by omega))
        rw [if_neg (by omega), if_neg (by omega), if_pos (by omega)]
      · have z : 4 ≤ k := (nI_leI (a := 4) (by omega) (by omega)).mp z
        have z2 : ¬ 8 ≤ k := fun y => z2 (nI_le (a := 8) y (by omega))
        rw [if_neg (by omega), if_pos (by omega)]
      · have z : ¬ 4 ≤ k := fun y => z (nI_le (a := 4) y (by omega))
        rw [if_pos (by omega)]
  · have q : ¬ tp.1 + 20 ≤ 800 := fun z => q (nI_le (b := 800) z (by omega))
    rw [if_neg (by omega), if_neg (by omega)] at hQ
    exact hQ μ h
theorem x_count {kind : Nat} {Q : Int32 → zSt → Prop} (hN : 1100 < N) (hk : kind < 2 ^ 31) (hR : lRok l) (hX : xR σ l) (hQ : Q (nI (cntK l kind (lRc l))) σ) : w_X6_countOf N (nI kind) σ Q := by
  have h20 := hR.1
  refine loopU (S := Unit) (fun f r _ => w_X6_countOf_4 N Q f (nI kind) (nI (cntK l kind r)) (nI r) σ) (fun _ _ => True) (lRc l) ?_ ?_ N 0 () (Nat.zero_le _) (by omega) trivial
  · intro f _ _
    show b_X6_countOf_4 N (w_X6_countOf_4 N Q f) Q (nI kind) (nI (cntK l kind (lRc l))) (nI (lRc l)) σ
    unfold b_X6_countOf_4
    rw [hX.1]
    exact br_t (nI_le (Nat.le_refl _) (by omega)) hQ
  · intro f r _ hr _ ih
    show b_X6_countOf_4 N (w_X6_countOf_4 N Q f) Q (nI kind) (nI (cntK l kind r)) (nI r) σ
    unfold b_X6_countOf_4
    have ih : w_X6_countOf_4 N Q f (nI kind) (nI (cntK l kind r + if decide (lKi l r = kind) = true then 1 else 0)) (nI (r + 1)) σ := ih () trivial
    have hki := (hR.2 r hr).1
    rw [hX.1, nI_clamp (n := r) (by omega), (hX.2 r hr).1, nI_1, nI_1, Int32.add_zero]
    refine br_f (nI_ge hr (by omega)) ⟨vp_in_nI (by omega) (by decide), fun z => nm_e (nm_e ?_), fun z => nm_e (nm_e ?_)⟩
    · rw [decide_eq_true ((nI_eq (by omega) hk).mp z), if_pos rfl] at ih; exact ih
    · rw [decide_eq_false (fun y => z (by rw [y])), if_neg (by decide)] at ih; exact ih
theorem X_has {w : Int32} {Q : Int32 → zSt → Prop} (hN : 1100 < N) (h : XR σ tp fa l net x ba rg ls cm li oc) (hQ : XR σ tp fa l net x ba rg ls cm li oc → Q (hasA l x net w) σ) : w_X11_has N w σ Q := by
  obtain ⟨b1, b2, b3, b4, b5, b6, b7, b8, b9, b10, b11, b12⟩ := id h
  have h10 := b3.1.1
  have h45 := net45 h10 b6.1
  have hq := hQ h
  unfold hasA at hq
  unfold w_X11_has
  rw [b3.2.2.1.1, b3.2.2.1.2.1, b5.2.1, b6.2]
  refine ⟨fun q => ?_, fun q => ⟨fun q2 => ?_, fun q2 => ⟨fun q3 => ?_, fun q3 => ⟨fun q4 => ?_, fun q4 => ⟨fun q5 => ?_, fun q5 => ⟨fun q6 => ?_, fun q6 => ?_⟩⟩⟩⟩⟩⟩
  · rw [if_pos q] at hq; exact hq
  · rw [if_neg q, if_pos q2] at hq; exact hq
  · rw [if_neg q, if_neg q2, if_pos q3] at hq; exact x_count (kind := 0) hN (by decide) b3.2.1 b3.2.2.2.1 hq
  · rw [if_neg q, if_neg q2, if_neg q3, if_pos q4] at hq; exact x_count (kind := 1) hN (by decide) b3.2.1 b3.2.2.2.1 hq
  · rw [if_neg q, if_neg q2, if_neg q3, if_neg q4, if_pos q5] at hq; exact hq
  · rw [if_neg q, if_neg q2, if_neg q3, if_neg q4, if_neg q5, if_pos q6] at hq
    refine pcL (by omega) ?_
    rw [pop_64 h45]; exact hq
  · rw [if_neg q, if_neg q2, if_neg q3, if_neg q4, if_neg q5, if_neg q6] at hq; exact hq
theorem m_count {kind : Nat} {Q : Int32 → zSt → Prop} (hN : 1100 < N) (hk : kind < 10) (hR : lRok l) (hX : mR μ l) (hQ : Q (nI (cntK l kind (lRc l))) μ) : w_X12_has_52 N Q N (nI (kind + 2)) 0 0 μ := by
  have h20 := hR.1
  refine loopU (S := Unit) (fun f r _ => w_X12_has_52 N Q f (nI (kind + 2)) (nI (cntK l kind r)) (nI r) μ) (fun _ _ => True) (lRc l) ?_ ?_ N 0 () (Nat.zero_le _) (by omega) trivial
  · intro f _ _
    show b_X12_has_52 N (w_X12_has_52 N Q f) Q (nI (kind + 2)) (nI (cntK l kind (lRc l))) (nI (lRc l)) μ
    unfold b_X12_has_52
    rw [hX.1]
    exact br_t (nI_le (Nat.le_refl _) (by omega)) hQ
  · intro f r _ hr _ ih
    show b_X12_has_52 N (w_X12_has_52 N Q f) Q (nI (kind + 2)) (nI (cntK l kind r)) (nI r) μ
    unfold b_X12_has_52
    have ih : w_X12_has_52 N Q f (nI (kind + 2)) (nI (cntK l kind r + if decide (lKi l r = kind) = true then 1 else 0)) (nI (r + 1)) μ := ih () trivial
    have hki := (hR.2 r hr).1
    rw [hX.1, li_20, nI_add, nI_clamp (n := 20 + r) (by omega), (hX.2 r hr).1, li_2, pk_sub (by omega), show kind + 2 - 2 = kind by omega, nI_1, nI_1]
    refine br_f (nI_ge hr (by omega)) ⟨vp_in_nI (by omega) (by decide), fun z => nm_e (nm_e ?_), fun z => nm_e ?_⟩
    · rw [decide_eq_true ((nI_eq (by omega) (by omega)).mp z), if_pos rfl] at ih; exact ih
    · rw [decide_eq_false (fun y => z (by rw [y])), if_neg (by decide)] at ih; exact ih
theorem M_has {w : Int32} {Q : Int32 → zSt → Prop} (hN : 1100 < N) (h : MR μ tp fa l net x ba rg ls cm li oc) (hQ : MR μ tp fa l net x ba rg ls cm li oc → Q (hasA l x net w) μ) : w_X12_has N w μ Q := by
  obtain ⟨b1, b2, b3, b4, b5, b6, b7, b8, b9, b10, b11, b12⟩ := id h
  have h10 := b3.1.1
  have h45 := net45 h10 b6.1
  have hq := hQ h
  unfold hasA at hq
  unfold w_X12_has
  rw [b5.2.1, b6.2]
  refine ⟨fun q => m_many b3.2.2.1.1 ?_, fun q => ⟨fun q2 => m_pairs b3.2.2.1.1 h10 ?_, fun q2 => ⟨fun q3 => ?_, fun q3 => ⟨fun q4 => ?_, fun q4 => ⟨fun q5 => ?_, fun q5 => ⟨fun q6 => ?_, fun q6 => ?_⟩⟩⟩⟩⟩⟩
  · rw [if_pos q] at hq; exact hq
  · rw [if_neg q, if_pos q2] at hq; exact hq
  · rw [if_neg q, if_neg q2, if_pos q3] at hq
    rw [q3]; exact m_count (kind := 0) hN (by decide) b3.2.1 b3.2.2.2.1 hq
  · rw [if_neg q, if_neg q2, if_neg q3, if_pos q4] at hq
    rw [q4]; exact m_count (kind := 1) hN (by decide) b3.2.1 b3.2.2.2.1 hq
  · rw [if_neg q, if_neg q2, if_neg q3, if_neg q4, if_pos q5] at hq; exact hq
  · rw [if_neg q, if_neg q2, if_neg q3, if_neg q4, if_neg q5, if_pos q6] at hq
    exact m_bits (by omega) (by omega) hq
  · rw [if_neg q, if_neg q2, if_neg q3, if_neg q4, if_neg q5, if_neg q6] at hq; exact hq
end fh
