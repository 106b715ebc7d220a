/-! the class marks all nets of a shape -/
theorem prN_up {a b : Nat} (h : a < b) : prN a b = b * (b - 1) / 2 + a := if_pos h
theorem tri_s : ∀ b, b < 10 → b * (b - 1) / 2 + b = (b + 1) * b / 2 := by decide
theorem smF_e {n a b f : Nat} {o : List Nat} (h : rnN o a (n * (n - 1) / 2) = b) : smF n a b (f + 1) o = true := by rw [smF, if_pos h]
theorem smF_n {n a b f : Nat} {o : List Nat} (h : ¬ rnN o a (n * (n - 1) / 2) = b) (e : nxO n o = none) : smF n a b (f + 1) o = false := by rw [smF, if_neg h, e]
theorem smF_s {n a b f : Nat} {o o' : List Nat} (h : ¬ rnN o a (n * (n - 1) / 2) = b) (e : nxO n o = some o') : smF n a b (f + 1) o = smF n a b f o' := by rw [smF, if_neg h, e]
section mk
variable {N n : Nat} {σ τ : zSt} {o : List Nat}
theorem x_renamed {v : Nat} {Q : Int64 → zSt → Prop} (hN : 1100 < N) (h2 : 2 ≤ n) (h5 : n ≤ 5) (ho : okO n o) (hO : xOr σ n o) (hv : v < 2 ^ 45) (hQ : Q (lN (rnN o v (n * (n - 1) / 2))) σ) : w_X2_renamed N (lN v) σ Q := by
  refine loopU (S := Unit) (fun f i _ => w_X2_renamed_5 N Q f (lN v) (lN (rnN o v ((i + 1) * i / 2))) (nI (i + 1)) σ) (fun _ _ => True) (n - 1) ?_ ?_ N 0 () (Nat.zero_le _) (by omega) trivial
  · intro f _ _
    show b_X2_renamed_5 N (w_X2_renamed_5 N Q f) Q (lN v) (lN (rnN o v ((n - 1 + 1) * (n - 1) / 2))) (nI (n - 1 + 1)) σ
    rw [show n - 1 + 1 = n by omega]
    unfold b_X2_renamed_5
    rw [hO.1]
    exact br_t (nI_le (Nat.le_refl _) (by omega)) hQ
  · intro f i _ hi _ ih
    show b_X2_renamed_5 N (w_X2_renamed_5 N Q f) Q (lN v) (lN (rnN o v ((i + 1) * i / 2))) (nI (i + 1)) σ
    unfold b_X2_renamed_5
    rw [hO.1]
    refine br_f (nI_ge (by omega) (by omega)) ?_
    refine loopU (S := Unit) (fun g a _ => w_X2_renamed_17 N (w_X2_renamed_5 N Q f) Q g (lN v) (lN (rnN o v ((i + 1) * i / 2 + a))) (nI (i + 1)) (nI a) σ) (fun _ _ => True) (i + 1) ?_ ?_ N 0 () (Nat.zero_le _) (by omega) trivial
    · intro g _ _
      show b_X2_renamed_17 N (w_X2_renamed_5 N Q f) (w_X2_renamed_17 N (w_X2_renamed_5 N Q f) Q g) Q (lN v) (lN (rnN o v ((i + 1) * i / 2 + (i + 1)))) (nI (i + 1)) (nI (i + 1)) σ
      have e := tri_s (i + 1) (by omega)
      rw [Nat.add_sub_cancel] at e
      unfold b_X2_renamed_17
      rw [e, nI_1 (i + 1)]
      exact br_t (nI_le (Nat.le_refl _) (by omega)) (nm_e (ih () trivial))
    · intro g a _ ha _ ih2
      have ih2 := ih2 () trivial
      have e : prN a (i + 1) = (i + 1) * i / 2 + a := prN_up ha
      have hl := prN_hl a (by omega) (i + 1) (by omega) ha
      have hp := prN64 a (by omega) (i + 1) (by omega)
      have b1 := ho.2.1 a (by omega)
      have b2 := ho.2.1 (i + 1) (by omega)
      rw [show (i + 1) * i / 2 + (a + 1) = ((i + 1) * i / 2 + a) + 1 by omega, rnN, ← e, hl.1, hl.2] at ih2
      show b_X2_renamed_17 N (w_X2_renamed_5 N Q f) (w_X2_renamed_17 N (w_X2_renamed_5 N Q f) Q g) Q (lN v) (lN (rnN o v ((i + 1) * i / 2 + a))) (nI (i + 1)) (nI a) σ
      unfold b_X2_renamed_17
      rw [← e, nI_1 a, nI_clamp (n := a) (by omega), nI_clamp (n := i + 1) (by omega)]
      refine br_f (nI_ge ha (by omega)) (x_number (by omega) (by omega) ?_)
      have h64 := prN64 (oG o a) (by omega) (oG o (i + 1)) (by omega)
      rw [hO.2 a (by omega), hO.2 (i + 1) (by omega), lg_cmp_eq, bitJ (by omega) (by omega)]
      cases ht : v.testBit (prN a (i + 1)) with
      | false =>
        rw [ht, if_neg (by decide)] at ih2
        exact br_t rfl (nm_e ih2)
      | true =>
        rw [ht, if_pos rfl] at ih2
        refine br_f (by decide) ⟨vp_in_nI (by omega) (by decide), vp_in_nI (by omega) (by decide), x_number (by omega) (by omega) ?_⟩
        rw [orL1 _ (by omega)]
        exact nm_e (nm_e ih2)
theorem xOr_0 (f : fr [] [] [0] [] σ τ) (h : xOr σ n o) : xOr τ n o := by
  unfold xOr; rw [f.1 33 (by decide), f.2.2.1 31 (by decide)]; exact h
theorem x_mark11 {v : Nat} {Q : zSt → Prop} (hN : 1100 < N) (h2 : 2 ≤ n) (h5 : n ≤ 5) (hv : v < 2 ^ 45) : ∀ (f g : Nat) (o : List Nat) (σ : zSt), f + 1 < g → f ≤ 120 → chk n f o = true → xOr σ n o → (∀ τ, fr [33] [] [0, 31] [] σ τ → (∀ k, τ.2.2.1 0 k = if smF n v k f o = true then 1 else σ.2.2.1 0 k) → Q τ) → w_X2_mark_11 N Q g (lN v) (1 : Int32) (nI (120 - f)) σ
  | 0, _, _, _, _, _, hc, _, _ => absurd (show false = true from hc) (by decide)
  | f + 1, 0, _, _, hg, _, _, _, _ => absurd hg (Nat.not_lt_zero _)
  | f + 1, 1, _, _, hg, _, _, _, _ => absurd hg (by omega)
  | f + 1, g + 2, o, σ, hg, h120, hc, hO, hQ => by
    show b_X2_mark_11 N (w_X2_mark_11 N Q (g + 1)) Q (lN v) (1 : Int32) (nI (120 - (f + 1))) σ
    obtain ⟨ho, hc2⟩ := chk_s hc
    have hr := rn_lt (a := v) h5 ho (n * (n - 1) / 2) (Nat.le_refl _)
    have hp : n * (n - 1) / 2 ≤ 10 := by
      have : ∀ n, n ≤ 5 → n * (n - 1) / 2 ≤ 10 := by decide
      exact this n h5
    have h10 : 2 ^ (n * (n - 1) / 2) ≤ 2 ^ 10 := Nat.pow_le_pow_right (by decide) hp
    have hr2 : rnN o v (n * (n - 1) / 2) < 1024 := by
      have : 2 ^ 10 = 1024 := by decide
      omega
    unfold b_X2_mark_11
    refine br_f (nI_ge (b := 120) (by omega) (by omega)) (br_f (show ¬ (1 : Int32) = 0 by decide) (x_renamed hN h2 h5 ho hO hv ?_))
    rw [show (1024 : Int32).toInt64 = lN 1024 by decide, lN_i, nI_clamp (n := rnN o v (n * (n - 1) / 2)) (by omega)]
    refine br_f (fun z => by have := (lgN_ge (by omega) (by omega)).mp z; omega) ⟨vp_in_nI hr2 (by decide), nm_e ?_⟩
    have f1 : fr [] [] [0] [] σ (zA σ 0 (upd (σ.2.2.1 0) (rnN o v (n * (n - 1) / 2)) (1 : Int32))) := fr_A fr_r (by decide)
    unfold b_X2_mark_47
    rw [nI_1, show 120 - (f + 1) + 1 = 120 - f by omega]
    refine x_advance hN h2 h5 ho (xOr_0 f1 hO) (fun e => nm_e ?_) (fun o' e τ f2 o2 => nm_e ?_)
    · show b_X2_mark_11 N (w_X2_mark_11 N Q g) Q (lN v) (0 : Int32) (nI (120 - f)) _
      have hq := hQ _ (fr_w f1 (subl rfl) (subl rfl) (subl rfl) (subl rfl)) (fun k => by
        show upd (σ.2.2.1 0) (rnN o v (n * (n - 1) / 2)) 1 k = _
        by_cases q : rnN o v (n * (n - 1) / 2) = k
        · rw [if_pos (smF_e q), q]; exact pk_us
        · rw [if_neg (by rw [smF_n q e]; decide)]; exact pk_un (fun z => q z.symm))
      unfold b_X2_mark_11
      exact ⟨fun _ => hq, fun _ => br_t rfl hq⟩
    · refine x_mark11 hN h2 h5 hv f (g + 1) o' τ (by omega) (by omega) (hc2 o' e) o2 (fun τ2 f3 s3 => hQ τ2 (fr_t (fr_w f1 (subl rfl) (subl rfl) (subl rfl) (subl rfl)) (fr_t (fr_w f2 (subl rfl) (subl rfl) (subl rfl) (subl rfl)) f3)) (fun k => ?_))
      rw [s3 k, f2.2.2.1 0 (by decide)]
      by_cases q : rnN o v (n * (n - 1) / 2) = k
      · rw [if_pos (smF_e q)]
        split
        · rfl
        · show upd (σ.2.2.1 0) (rnN o v (n * (n - 1) / 2)) 1 k = 1
          rw [q]; exact pk_us
      · rw [smF_s q e]
        split
        · rfl
        · show upd (σ.2.2.1 0) (rnN o v (n * (n - 1) / 2)) 1 k = _
          exact pk_un (fun z => q z.symm)
theorem x_mark {v : Nat} {Q : zSt → Prop} (hN : 1100 < N) (h2 : 2 ≤ n) (h5 : n ≤ 5) (hv : v < 2 ^ 45) (hQ : ∀ τ, fr [33] [] [0, 31] [] σ τ → (∀ k, τ.2.2.1 0 k = if smF n v k 120 (List.range n) = true then 1 else σ.2.2.1 0 k) → Q τ) : w_X2_mark N (lN v) (nI n) σ Q := by
  refine x_start hN h5 (fun τ f1 o1 => x_mark11 hN h2 h5 hv 120 N (List.range n) τ (by omega) (by omega) (chk_all _ (by omega) h2) o1 (fun τ2 f2 s2 => hQ τ2 (fr_t (fr_w f1 (subl rfl) (subl rfl) (subl rfl) (subl rfl)) f2) (fun k => ?_)))
  rw [s2 k, f1.2.2.1 0 (by decide)]
end mk
