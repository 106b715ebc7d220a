/-! one of each shape: the class keeps them -/
theorem new_iff {n c v : Nat} {r : Nat → Nat} : newB n c r v = true ↔ ∀ k, k < c → smF n (r k) v 120 (List.range n) = false := ⟨fun h k hk => by
  cases hb : smF n (r k) v 120 (List.range n) with
  | false => rfl
  | true => rw [new_f hk hb] at h; exact absurd h (by decide), new_t⟩
theorem new_s {n c v w : Nat} {r : Nat → Nat} : newB n (c + 1) (fun k => if k = c then v else r k) w = true ↔ newB n c r w = true ∧ smF n v w 120 (List.range n) = false := by
  rw [new_iff, new_iff]
  constructor
  · intro h
    refine ⟨fun k hk => ?_, ?_⟩
    · have := h k (by omega)
      rw [if_neg (show ¬ k = c by omega)] at this
      exact this
    · have := h c (by omega)
      rw [if_pos rfl] at this
      exact this
  · intro h k hk
    by_cases q : k = c
    · rw [if_pos q]; exact h.2
    · rw [if_neg q]; exact h.1 k (by omega)
theorem new_0 {n v : Nat} {r : Nat → Nat} : newB n 0 r v = true := new_t (fun j hj => absurd hj (Nat.not_lt_zero _))
section xk
variable {N : Nat} {σ τ μ ν : zSt} {tp : Nat × (Nat → Nat)} {fa : Int32 × Int32} {l : zL} {net : Nat} {x : Int32} {ba rg : Nat → Int64} {ls : Nat × (Nat → Int64)} {cm : Nat × (Nat → Int64) × (Nat → Int32)} {li : Int64} {oc : Nat → Int32}
theorem X_ls2 {ls' : Nat × (Nat → Int64)} (h : fr [33, 34] [] [0, 31] [11] σ τ) (hX : XR σ tp fa l net x ba rg ls cm li oc) (hc : ls'.1 ≤ 1024 ∧ τ.1 34 = nI ls'.1 ∧ ∀ k, k < ls'.1 → τ.2.2.2 11 k = ls'.2 k) : XR τ tp fa l net x ba rg (ls') cm li oc := by
  obtain ⟨a1, a2, a3, a4, a5, a6, a7, a8, a9, a10, a11, a12⟩ := hX
  refine ⟨?_, ?_, xG_fr h (notin rfl) (notin rfl) (notin rfl) (notin rfl) a3, ?_, ?_, ?_, ?_, ?_, hc, ?_, ?_, ?_⟩
  · unfold xTp; rw [h.1 0 (by decide), h.2.2.1 2 (by decide)]; exact a1
  · rw [h.1 8 (by decide), h.1 9 (by decide), h.2.2.1 14 (by decide)]; exact a2
  · exact fun s hs => by rw [h.2.2.2 7 (by decide), h.2.2.2 8 (by decide)]; exact a4 s hs
  · rw [h.1 25 (by decide), h.1 26 (by decide)]; exact a5
  · rw [h.2.1 0 (by decide)]; exact a6
  · rw [h.2.2.2 0 (by decide)]; exact a7
  · rw [h.2.2.2 1 (by decide)]; exact a8
  · rw [h.1 35 (by decide), h.2.2.2 12 (by decide), h.2.2.1 33 (by decide)]; exact a10
  · rw [h.2.1 1 (by decide)]; exact a11
  · rw [h.2.2.1 1 (by decide)]; exact a12
theorem x_keep {c : Nat} {r : Nat → Nat} {Q : zSt → Prop} (hN : 1100 < N) (hf : fewB l = true) (hc : c ≤ 1024) (hr : ∀ k, k < c → r k < 1024) (h : XR σ tp fa l net x ba rg ((c, fun k => lN (r k))) cm li oc) (hQ : ∀ τ, XR τ tp fa l net x ba rg (((kpF (lPn l) r c).1, fun k => lN ((kpF (lPn l) r c).2 k))) cm li oc → Q τ) : w_X11_keepShapes N σ Q := by
  have h2 : 2 ≤ lPn l := by
    unfold fewB at hf
    rw [Bool.and_eq_true, decide_eq_true_eq] at hf
    exact hf.1
  have h5 := (few_pc hf).1
  obtain ⟨g0, g1, g2⟩ := h.2.2.2.2.2.2.2.2.1
  have hp1 : σ.1 1 = nI (lPn l) := h.2.2.1.2.2.1.1
  unfold w_X11_keepShapes
  refine x_fill0 hN (fun τ f0 z0 => ?_)
  refine loopU (fun f t (s : zSt) => w_X11_keepShapes_12 N Q f (nI (kpF (lPn l) r t).1) (nI t) s) (fun t s => fr [33] [] [0, 31] [11] σ s ∧ (∀ k, k < (kpF (lPn l) r t).1 → s.2.2.2 11 k = lN ((kpF (lPn l) r t).2 k)) ∧ (∀ k, t ≤ k → k < c → s.2.2.2 11 k = lN (r k)) ∧ ∀ k, k < 1024 → s.2.2.1 0 k = if newB (lPn l) (kpF (lPn l) r t).1 (kpF (lPn l) r t).2 k = true then 0 else 1) c ?_ ?_ N 0 τ (Nat.zero_le _) (by omega) ⟨fr_w f0 (subl rfl) (subl rfl) (subl rfl) (subl rfl), fun k hk => absurd hk (Nat.not_lt_zero _), fun k _ hk => by rw [f0.2.2.2 11 (by decide)]; exact g2 k hk, fun k hk => by rw [z0 k hk, if_pos (show newB (lPn l) (kpF (lPn l) r 0).1 (kpF (lPn l) r 0).2 k = true from new_0)]⟩
  · intro f s hs
    show b_X11_keepShapes_12 N (w_X11_keepShapes_12 N Q f) Q (nI (kpF (lPn l) r c).1) (nI c) s
    have hle := kpF_le (n := lPn l) (r := r) c
    have e34 : s.1 34 = nI c := (hs.1.1 34 (by decide)).trans g1
    unfold b_X11_keepShapes_12
    rw [e34]
    exact br_t (nI_le (Nat.le_refl _) (by omega)) (nm_e (hQ _ (X_ls2 (fr_I (fr_w hs.1 (subl rfl) (subl rfl) (subl rfl) (subl rfl)) (by decide)) h ⟨by show (kpF (lPn l) r c).1 ≤ 1024; omega, zI_1s, fun k hk => hs.2.1 k hk⟩)))
  · intro f t s ht hs ih
    obtain ⟨s1, s2, s3, s4⟩ := hs
    show b_X11_keepShapes_12 N (w_X11_keepShapes_12 N Q f) Q (nI (kpF (lPn l) r t).1) (nI t) s
    have hle := kpF_le (n := lPn l) (r := r) t
    have e34 : s.1 34 = nI c := (s1.1 34 (by decide)).trans g1
    have e1 : s.1 1 = nI (lPn l) := (s1.1 1 (by decide)).trans hp1
    have hrt := hr t ht
    have hm := s4 (r t) hrt
    unfold b_X11_keepShapes_12
    rw [e34, nI_clamp (n := t) (by omega), s3 t (Nat.le_refl _) ht, show (1024 : Int32).toInt64 = lN 1024 by decide]
    refine br_f (nI_ge ht (by omega)) ⟨vp_in_nI (by omega) (by decide), nm_e ?_⟩
    rw [lN_i, nI_clamp (n := r t) (by omega), hm, nI_1, nI_clamp (n := (kpF (lPn l) r t).1) (by omega), nI_1]
    refine br_f (fun z => by have := (lgN_ge (by omega) (by omega)).mp z; omega) ⟨vp_in_nI hrt (by decide), ?_⟩
    by_cases q : newB (lPn l) (kpF (lPn l) r t).1 (kpF (lPn l) r t).2 (r t) = true
    · have e : kpF (lPn l) r (t + 1) = ((kpF (lPn l) r t).1 + 1, fun k => if k = (kpF (lPn l) r t).1 then r t else (kpF (lPn l) r t).2 k) := by rw [kpF, if_pos q]
      rw [if_pos q]
      refine br_t rfl ⟨vp_in_nI (by omega) (by decide), nm_e (nm_e ?_)⟩
      rw [show (zB s 11 (vp_updL (s.2.2.2 11) (kpF (lPn l) r t).1 (lN (r t)))).1 1 = nI (lPn l) from e1]
      refine x_mark hN h2 h5 (by omega) (fun τ2 f2 m2 => nm_e ?_)
      rw [show (kpF (lPn l) r t).1 + 1 = (kpF (lPn l) r (t + 1)).1 by rw [e]]
      refine ih τ2 ⟨fr_t (fr_B s1 (by decide)) (fr_w f2 (subl rfl) (subl rfl) (subl rfl) (subl rfl)), fun k hk => ?_, fun k hk hkc => ?_, fun k hk => ?_⟩
      · rw [f2.2.2.2 11 (by decide)]
        rw [e] at hk ⊢
        have hk : k < (kpF (lPn l) r t).1 + 1 := hk
        show vp_updL (s.2.2.2 11) (kpF (lPn l) r t).1 (lN (r t)) k = lN (if k = (kpF (lPn l) r t).1 then r t else (kpF (lPn l) r t).2 k)
        by_cases z : k = (kpF (lPn l) r t).1
        · rw [if_pos z, z]; exact pk_uLs
        · rw [if_neg z, pk_uLn z]; exact s2 k (by omega)
      · rw [f2.2.2.2 11 (by decide)]
        show vp_updL (s.2.2.2 11) (kpF (lPn l) r t).1 (lN (r t)) k = lN (r k)
        rw [pk_uLn (by omega)]; exact s3 k (by omega) hkc
      · rw [m2 k, e]
        show (if smF (lPn l) (r t) k 120 (List.range (lPn l)) = true then 1 else s.2.2.1 0 k) = if newB (lPn l) ((kpF (lPn l) r t).1 + 1) (fun k => if k = (kpF (lPn l) r t).1 then r t else (kpF (lPn l) r t).2 k) k = true then 0 else 1
        by_cases z : smF (lPn l) (r t) k 120 (List.range (lPn l)) = true
        · rw [if_pos z, if_neg (fun w => by rw [(new_s.mp w).2] at z; exact absurd z (by decide))]
        · rw [if_neg z, s4 k hk]
          by_cases w : newB (lPn l) (kpF (lPn l) r t).1 (kpF (lPn l) r t).2 k = true
          · rw [if_pos w, if_pos (new_s.mpr ⟨w, by simpa using z⟩)]
          · rw [if_neg w, if_neg (fun y => w (new_s.mp y).1)]
    · have e : kpF (lPn l) r (t + 1) = kpF (lPn l) r t := by rw [kpF, if_neg q]
      rw [if_neg q]
      refine br_f (by decide) (nm_e ?_)
      rw [show (kpF (lPn l) r t).1 = (kpF (lPn l) r (t + 1)).1 by rw [e]]
      refine ih s ⟨s1, fun k hk => ?_, fun k hk hkc => s3 k (by omega) hkc, fun k hk => ?_⟩
      · rw [e] at hk ⊢; exact s2 k hk
      · rw [e]; exact s4 k hk
theorem X_all {k : Int32} {sh : Bool} {Q : Int32 → zSt → Prop} (hN : 1100 < N) (h : XR σ tp fa l net x ba rg ls cm li oc) (hQ : ∀ τ, XR τ tp fa l net x ba rg (allT l x k sh ls) cm li oc → Q (allA l x k sh) τ) : w_X11_all N k (b32 sh) σ Q := by
  unfold allT allA at hQ
  unfold w_X11_all
  refine x_few h ⟨fun q => ?_, fun q => x_kind ⟨fun q2 => ?_, fun q2 => nm_e ?_⟩⟩
  · rw [if_neg (fun z => by rw [b32_0.mp q] at z; exact absurd z.1 (by decide)), if_neg (fun z => by rw [b32_0.mp q] at z; exact absurd z.1 (by decide))] at hQ; exact hQ σ h
  · rw [if_neg (fun z => by rw [b32_0.mp q2] at z; exact absurd z.2 (by decide)), if_neg (fun z => by rw [b32_0.mp q2] at z; exact absurd z.2 (by decide))] at hQ; exact hQ σ h
  · have hf := b32_n.mp q
    have hk := b32_n.mp q2
    rw [if_pos ⟨hf, hk⟩, if_pos ⟨hf, hk⟩] at hQ
    obtain ⟨j, hj, e1, e2⟩ := kin_t hk
    rw [e2] at hQ
    have h2 := few_2 hf
    have hp := few_pc hf
    rw [e1, show (zI σ 34 (0 : Int32)).1 2 = nI (lPc l) from (zI_1n (by decide)).trans (Xp h), oneJ (by omega)]
    refine nm_e ?_
    have f1 : fr [34] [] [32] [11] σ (zI σ 34 (0 : Int32)) := fr_I fr_r (by decide)
    have h1 : XR (zI σ 34 (0 : Int32)) tp fa l net x ba rg (lsF l x j false 0) cm li oc := X_ls f1 h ⟨Nat.zero_le _, zI_1s, fun k hk => absurd hk (Nat.not_lt_zero _)⟩
    obtain ⟨c1, c2, c3⟩ := all_ok l x j false (2 ^ lPc l)
    refine x_all37 hN hf hj h1 (fun s hs => ⟨fun y => ?_, fun y => ?_⟩)
    · have y := b32_0.mp y
      rw [y] at hQ
      rw [hs.2.2.2.2.2.2.2.2.1.2.1]
      exact hQ s hs
    · have y := b32_n.mp y
      rw [y] at hQ
      refine x_keep (r := (allF l x j false (2 ^ lPc l)).2) hN hf (by show (allF l x j false (2 ^ lPc l)).1 ≤ 1024; omega) (fun k hk => by have := c2 k hk; omega) hs (fun τ2 h2 => ?_)
      rw [← kpF_all] at h2
      rw [h2.2.2.2.2.2.2.2.2.1.2.1]
      exact hQ τ2 h2
end xk
