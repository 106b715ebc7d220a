/-! images -/
def imL (x : Int32) : Nat := (x.toInt + 1000).toNat
def imB (l : zL) (x : Int32) (net k : Nat) : Nat := if k = 0 then lPn l else if k ≤ 6 then net / 2 ^ (8 * (6 - k)) % 256 else if k = 7 then imL x / 256 else imL x % 256
def xrB (f : Nat → Nat) : Nat → Nat
  | 0 => 0
  | k + 1 => xrB f k ^^^ f k
def imgC (l : zL) (x : Int32) (net : Nat) : Nat → Int32 := fun k => if k = 9 then nI (xrB (imB l x net) 9) else nI (imB l x net k)
theorem imL_is {x : Int32} (hx : exI x) : x + 1000 = nI (imL x) ∧ imL x ≤ 2000 := by
  unfold exI at hx
  have h1 : imL x = (x.toInt + 1000).toNat := rfl
  have h2 : (x + 1000).toInt = x.toInt + 1000 := by
    rw [fb_addI (by rw [lit_1000]; omega) (by rw [lit_1000]; omega), lit_1000]
  refine ⟨?_, by omega⟩
  rw [fa_eq, nI_toInt (by omega), h2]
  omega
theorem imB_lt {l : zL} {x : Int32} {net : Nat} (h10 : lPn l ≤ 10) (hx : exI x) (k : Nat) : imB l x net k < 256 := by
  have hl := (imL_is hx).2
  unfold imB
  by_cases c0 : k = 0
  · rw [if_pos c0]; omega
  · rw [if_neg c0]
    by_cases c1 : k ≤ 6
    · rw [if_pos c1]; exact Nat.mod_lt _ (by decide)
    · rw [if_neg c1]
      by_cases c2 : k = 7
      · rw [if_pos c2]; omega
      · rw [if_neg c2]; exact Nat.mod_lt _ (by decide)
theorem xrB_lt {f : Nat → Nat} : ∀ k, (∀ j, j < k → f j < 256) → xrB f k < 256
  | 0, _ => by show 0 < 256; decide
  | k + 1, h => Nat.xor_lt_two_pow (n := 8) (xrB_lt k (fun j hj => h j (by omega))) (h k (by omega))
theorem netby {net s : Nat} (hn : net < 2 ^ 45) (hs : s ≤ 40) : (lN net >>> ((nI s).toInt64 &&& 63)).toInt32 &&& 255 = nI (net / 2 ^ s % 256) := by
  rw [shrL (by omega) (by omega), lN_i, show (255 : Int32) = nI (2 ^ 8 - 1) from rfl, fa_mask]
section im
variable {N : Nat} {σ τ μ ν : zSt} {tp : Nat × (Nat → Nat)} {fa : Int32 × Int32} {l : zL} {net : Nat} {x : Int32} {ba rg : Nat → Int64} {ls : Nat × (Nat → Int64)} {cm : Nat × (Nat → Int64) × (Nat → Int32)} {li : Int64} {oc : Nat → Int32}
theorem X_image {Q : Int32 → zSt → Prop} (hN : 1100 < N) (h : XR σ tp fa l net x ba rg ls cm li oc) (hQ : ∀ τ, XR τ tp fa l net x ba rg ls cm li (imgC l x net) → Q 10 τ) : w_X11_image N σ Q := by
  obtain ⟨b1, b2, b3, b4, b5, b6, b7, b8, b9, b10, b11, b12⟩ := id h
  have h10 := b3.1.1
  have h45 := net45 h10 b6.1
  obtain ⟨x1, x2⟩ := imL_is b5.1
  have hlt := imB_lt (net := net) h10 b5.1
  have fin : ∀ τ, fr [] [] [1] [] σ τ → (∀ k, k < 10 → τ.2.2.1 1 k = imgC l x net k) → XR τ tp fa l net x ba rg ls cm li (imgC l x net) := fun τ f t1 => by
    refine ⟨?_, ?_, xG_fr f (notin rfl) (notin rfl) (notin rfl) (notin rfl) b3, ?_, ?_, ?_, ?_, ?_, ?_, ?_, ?_, t1⟩
    · unfold xTp; rw [f.1 0 (by decide), f.2.2.1 2 (by decide)]; exact b1
    · rw [f.1 8 (by decide), f.1 9 (by decide), f.2.2.1 14 (by decide)]; exact b2
    · exact fun i hi => by rw [f.2.2.2 7 (by decide), f.2.2.2 8 (by decide)]; exact b4 i hi
    · rw [f.1 25 (by decide), f.1 26 (by decide)]; exact b5
    · rw [f.2.1 0 (by decide)]; exact b6
    · rw [f.2.2.2 0 (by decide)]; exact b7
    · rw [f.2.2.2 1 (by decide)]; exact b8
    · rw [f.1 34 (by decide), f.2.2.2 11 (by decide)]; exact b9
    · rw [f.1 35 (by decide), f.2.2.2 12 (by decide), f.2.2.1 33 (by decide)]; exact b10
    · rw [f.2.1 1 (by decide)]; exact b11
  unfold w_X11_image
  refine nm_e ?_
  rw [b3.2.2.1.1]
  refine loopU (S := zSt) (fun f i τ => w_X11_image_15 N Q f (nI (i + 1)) τ) (fun i τ => fr [] [] [1] [] σ τ ∧ ∀ k, k < i + 1 → τ.2.2.1 1 k = nI (imB l x net k)) 6 ?_ ?_ N 0 _ (Nat.zero_le _) (by omega) ⟨fr_A fr_r (by decide), fun k hk => ?_⟩
  · intro f τ ⟨t0, t1⟩
    show b_X11_image_15 N (w_X11_image_15 N Q f) Q (nI 7) τ
    unfold b_X11_image_15
    rw [(t0.1 25 (by decide)).trans b5.2.1, x1]
    refine br_t (nI_lt (a := 6) (b := 7) (by omega) (by omega)) (nm_e ?_)
    have s8 : nI (imL x) >>> ((8 : Int32) &&& 31) = nI (imL x / 2 ^ 8) := pk_shrN (by omega) _ 8 (shI 8 (by decide))
    have s9 : nI (imL x) &&& 255 = nI (imL x % 256) := by rw [show (255 : Int32) = nI (2 ^ 8 - 1) from rfl, fa_mask]
    rw [s8, s9]
    refine nm_e (nm_e ?_)
    generalize hω : zA (zA τ 1 (upd (τ.2.2.1 1) 7 (nI (imL x / 2 ^ 8)))) 1 (upd ((zA τ 1 (upd (τ.2.2.1 1) 7 (nI (imL x / 2 ^ 8)))).2.2.1 1) 8 (nI (imL x % 256))) = ω
    have fω : fr [] [] [1] [] σ ω := by rw [← hω]; exact fr_A (fr_A t0 (by decide)) (by decide)
    have cω : ∀ k, k < 9 → ω.2.2.1 1 k = nI (imB l x net k) := fun k hk => by
      rw [← hω, zA_3s, zA_3s]
      by_cases c8 : k = 8
      · subst c8; rw [pk_us]; rfl
      · rw [pk_un c8]
        by_cases c7 : k = 7
        · subst c7; rw [pk_us]; rfl
        · rw [pk_un c7]; exact t1 k (by omega)
    clear hω
    have key := loopU (S := Unit) (fun f k _ => w_X11_image_89 N Q f (nI (xrB (imB l x net) k)) (nI k) ω) (fun _ _ => True) 9 ?_ ?_ N 0 () (Nat.zero_le _) (by omega) trivial
    · exact key
    · intro g _ _
      show b_X11_image_89 N (w_X11_image_89 N Q g) Q (nI (xrB (imB l x net) 9)) (nI 9) ω
      unfold b_X11_image_89
      refine br_t (nI_le (a := 9) (Nat.le_refl _) (by omega)) (nm_e (hQ _ (fin _ (fr_A fω (by decide)) (fun k hk => ?_))))
      rw [zA_3s]
      unfold imgC
      by_cases c : k = 9
      · rw [if_pos c, c, pk_us]
      · rw [if_neg c, pk_un c]; exact cω k (by omega)
    · intro g k _ hk _ ih
      show b_X11_image_89 N (w_X11_image_89 N Q g) Q (nI (xrB (imB l x net) k)) (nI k) ω
      unfold b_X11_image_89
      rw [nI_clamp (n := k) (by omega), cω k hk, fb_xorI, nI_1]
      exact br_f (nI_ge (b := 9) hk (by omega)) ⟨vp_in_nI (by omega) (by decide), nm_e (nm_e (ih () trivial))⟩
  · intro f i τ hi ⟨t0, t1⟩ ih
    show b_X11_image_15 N (w_X11_image_15 N Q f) Q (nI (i + 1)) τ
    unfold b_X11_image_15
    have es : (8 : Int32) * (6 - nI (i + 1)) = nI (8 * (6 - (i + 1))) := by rw [li_6, pk_sub (by omega), li_8, pk_mul]
    rw [(t0.2.1 0 (by decide)).trans b6.2, es, netby h45 (by omega), nI_clamp (n := i + 1) (by omega), nI_1]
    refine br_f (nI_nlt (a := 6) (by omega) (by omega)) ⟨vp_in_nI (by omega) (by decide), nm_e (nm_e (ih _ ⟨fr_A t0 (by decide), fun k hk => ?_⟩))⟩
    rw [zA_3s]
    by_cases c : k = i + 1
    · subst c
      rw [pk_us]
      unfold imB
      rw [if_neg (by omega), if_pos (by omega)]
    · rw [pk_un c]; exact t1 k (by omega)
  · have e0 : k = 0 := by omega
    subst e0
    rw [zA_3s, pk_us]; rfl
theorem M_write {c : Nat} {v : Int32} {b : Nat} {Q : zSt → Prop} (hc : c < 10) (h30 : μ.1 30 = nI c) (hv : v &&& 255 = nI b) (hQ : ∀ τ, fr [30] [] [17] [] μ τ → τ.1 30 = nI (c + 1) → τ.2.2.1 17 = upd (μ.2.2.1 17) c (nI b) → Q τ) : w_X12_writes N v μ Q := by
  unfold w_X12_writes
  rw [h30, hv, nI_clamp (n := c) (by omega)]
  refine ⟨vp_in_nI hc (by decide), nm_e (nm_e ?_)⟩
  refine hQ _ (fr_I (fr_A fr_r (by decide)) (by decide)) ?_ ?_
  · rw [zI_1s, zA_1, h30, nI_1]
  · rw [zI_2, zA_3s]
theorem M_image {Q : Int32 → zSt → Prop} (hN : 1100 < N) (h : MR μ tp fa l net x ba rg ls cm li oc) (hQ : ∀ ν, MR ν tp fa l net x ba rg ls cm li (imgC l x net) → Q 10 ν) : w_X12_image N μ Q := by
  obtain ⟨b1, b2, b3, b4, b5, b6, b7, b8, b9, b10, b11, b12⟩ := id h
  have h10 := b3.1.1
  have h45 := net45 h10 b6.1
  obtain ⟨x1, x2⟩ := imL_is b5.1
  have hlt := imB_lt (net := net) h10 b5.1
  have fin : ∀ τ, fr [30] [] [17] [] μ τ → τ.1 30 = nI 10 → (∀ k, k < 10 → τ.2.2.1 17 k = imgC l x net k) → MR τ tp fa l net x ba rg ls cm li (imgC l x net) := fun τ f t0 t1 => by
    refine ⟨?_, ?_, mG_fr f (notin rfl) (by decide) (notin rfl) (notin rfl) b3, ?_, ?_, ?_, ?_, ?_, ?_, ?_, ?_, Or.inr ⟨t0, t1⟩⟩
    · unfold mTp; rw [f.1 0 (by decide), f.2.2.1 0 (by decide)]; exact b1
    · rw [f.1 6 (by decide), f.1 7 (by decide)]; exact b2
    · unfold mNm; rw [f.2.2.2 0 (by decide)]; exact b4
    · rw [f.1 14 (by decide), f.1 16 (by decide)]; exact b5
    · rw [f.2.1 0 (by decide)]; exact b6
    · unfold mBa; rw [f.1 22 (by decide), f.1 23 (by decide), f.2.1 3 (by decide)]; exact b7
    · unfold mRg; rw [f.1 25 (by decide), f.1 26 (by decide), f.2.1 5 (by decide)]; exact b8
    · rw [f.1 27 (by decide), f.2.2.2 6 (by decide)]; exact b9
    · rw [f.1 28 (by decide), f.2.2.2 7 (by decide), f.2.2.1 16 (by decide)]; exact b10
    · unfold mLi; rw [f.1 29 (by decide), f.2.1 6 (by decide)]; exact b11
  have ms : ∀ b, b < 256 → nI b &&& 255 = nI b := fun b hb => by rw [show (255 : Int32) = nI (2 ^ 8 - 1) from rfl, fa_mask, Nat.mod_eq_of_lt hb]
  unfold w_X12_image
  refine nm_e (m_many (n := lPn l) b3.2.2.1.1 (M_write (c := 0) (b := lPn l) (by omega) zI_1s (ms _ (by omega)) (fun τ f1 t1 t2 => ?_)))
  have fτ : fr [30] [] [17] [] μ τ := fr_t (fr_I fr_r (by decide)) f1
  refine loopU (S := zSt) (fun f i υ => w_X12_image_16 N Q f (if i < 6 then nI (40 - 8 * i) else -8) υ) (fun i υ => fr [30] [] [17] [] μ υ ∧ υ.1 30 = nI (i + 1) ∧ ∀ k, k < i + 1 → υ.2.2.1 17 k = nI (imB l x net k)) 6 ?_ ?_ N 0 τ (Nat.zero_le _) (by omega) ⟨fτ, t1, fun k hk => ?_⟩
  · intro f υ ⟨u0, u1, u2⟩
    show b_X12_image_16 N (w_X12_image_16 N Q f) Q (-8) υ
    unfold b_X12_image_16
    rw [(u0.1 14 (by decide)).trans b5.2.1, x1]
    have s8 : nI (imL x) >>> ((8 : Int32) &&& 31) = nI (imL x / 2 ^ 8) := pk_shrN (by omega) _ 8 (shI 8 (by decide))
    rw [s8]
    refine br_t (by decide) (M_write (c := 7) (b := imL x / 2 ^ 8) (by omega) u1 (ms _ (by omega)) (fun ω f2 w1 w2 => ?_))
    have fω := fr_t u0 f2
    rw [(fω.1 14 (by decide)).trans b5.2.1, x1]
    refine M_write (c := 8) (b := imL x % 256) (by omega) w1 (by rw [show (255 : Int32) = nI (2 ^ 8 - 1) from rfl, fa_mask]) (fun ψ f3 p1 p2 => ?_)
    have fψ := fr_t fω f3
    have cψ : ∀ k, k < 9 → ψ.2.2.1 17 k = nI (imB l x net k) := fun k hk => by
      rw [p2, w2]
      by_cases c8 : k = 8
      · subst c8; rw [pk_us]; rfl
      · rw [pk_un c8]
        by_cases c7 : k = 7
        · subst c7; rw [pk_us]; rfl
        · rw [pk_un c7]; exact u2 k (by omega)
    have key := loopU (S := Unit) (fun f k _ => w_X12_image_72 N Q f (nI (xrB (imB l x net) k)) (nI k) ψ) (fun _ _ => True) 9 ?_ ?_ N 0 () (Nat.zero_le _) (by omega) trivial
    · exact key
    · intro g _ _
      show b_X12_image_72 N (w_X12_image_72 N Q g) Q (nI (xrB (imB l x net) 9)) (nI 9) ψ
      unfold b_X12_image_72
      refine br_t (nI_le (a := 9) (Nat.le_refl _) (by omega)) (M_write (c := 9) (b := xrB (imB l x net) 9) (by omega) p1 (ms _ (xrB_lt 9 (fun j _ => hlt j))) (fun ζ f4 z1 z2 => ?_))
      rw [z1]
      refine hQ ζ (fin ζ (fr_t fψ f4) z1 (fun k hk => ?_))
      rw [z2]
      unfold imgC
      by_cases c : k = 9
      · rw [if_pos c, c, pk_us]
      · rw [if_neg c, pk_un c]; exact cψ k (by omega)
    · intro g k _ hk _ ih
      show b_X12_image_72 N (w_X12_image_72 N Q g) Q (nI (xrB (imB l x net) k)) (nI k) ψ
      unfold b_X12_image_72
      rw [nI_clamp (n := k) (by omega), cψ k hk, fb_xorI, nI_1]
      exact br_f (nI_ge (b := 9) hk (by omega)) ⟨vp_in_nI (by omega) (by decide), nm_e (nm_e (ih () trivial))⟩
  · intro f i υ hi ⟨u0, u1, u2⟩ ih
    show b_X12_image_16 N (w_X12_image_16 N Q f) Q (if i < 6 then nI (40 - 8 * i) else -8) υ
    rw [if_pos hi]
    unfold b_X12_image_16
    have hby : ((lN net >>> ((nI (40 - 8 * i)).toInt64 &&& 63)) &&& (255 : Int64)).toInt32 &&& 255 = nI (imB l x net (i + 1)) := by
      rw [shrL (by omega) (by omega), show (255 : Int64) = lN (2 ^ 8 - 1) from rfl, fb_maskL, lN_i]
      have e1 : imB l x net (i + 1) = net / 2 ^ (40 - 8 * i) % 2 ^ 8 := by
        unfold imB
        rw [if_neg (by omega), if_pos (by omega), show 8 * (6 - (i + 1)) = 40 - 8 * i by omega]
      rw [e1]
      exact ms _ (Nat.mod_lt _ (by decide))
    rw [(u0.2.1 0 (by decide)).trans b6.2]
    refine br_f (nI_pos (by omega)) (M_write (c := i + 1) (by omega) u1 hby (fun ω f2 w1 w2 => nm_e ?_))
    have en : nI (40 - 8 * i) + -8 = if i + 1 < 6 then nI (40 - 8 * (i + 1)) else -8 := by
      have hi6 : i = 0 ∨ i = 1 ∨ i = 2 ∨ i = 3 ∨ i = 4 ∨ i = 5 := by omega
      rcases hi6 with z | z | z | z | z | z <;> subst z <;> decide
    rw [en]
    refine ih ω ⟨fr_t u0 f2, w1, fun k hk => ?_⟩
    rw [w2]
    by_cases c : k = i + 1
    · subst c; rw [pk_us]
    · rw [pk_un c]; exact u2 k (by omega)
  · have e0 : k = 0 := by omega
    subst e0
    rw [t2, pk_us]; rfl
end im
