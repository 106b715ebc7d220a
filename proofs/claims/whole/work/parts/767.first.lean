/-! the first change of a sort, pair by pair -/
abbrev zO : Type := Option (Nat × Nat × Nat)
def fstO (g : Nat → zO) : Nat → Nat → zO
  | 0, _ => none
  | m + 1, k => (g k).or (fstO g m (k + 1))
theorem fst_n {g : Nat → zO} {pc k : Nat} {X : zO} (hk : k < pc) (h : g k = none) (e : fstO g (pc - k) k = X) : fstO g (pc - (k + 1)) (k + 1) = X := by
  rw [show pc - k = (pc - (k + 1)) + 1 by omega, fstO, h] at e
  exact e
theorem fst_s {g : Nat → zO} {pc k : Nat} {r : Nat × Nat × Nat} (hk : k < pc) (h : g k = some r) : fstO g (pc - k) k = some r := by
  rw [show pc - k = (pc - (k + 1)) + 1 by omega, fstO, h]; rfl
theorem fst_e {g : Nat → zO} {pc : Nat} {X : zO} (e : fstO g (pc - pc) pc = X) : X = none := by
  rw [Nat.sub_self] at e; exact e.symm
def xO (τ : zSt) (o : zO) : Prop := ∀ s w a, o = some (s, w, a) → τ.1 28 = nI s ∧ τ.1 29 = nI w ∧ τ.2.1 5 = lN a
def mO (τ : zSt) (o : zO) : Prop := ∀ s w a, o = some (s, w, a) → τ.1 20 = nI s ∧ τ.1 21 = nI w ∧ τ.2.1 2 = lN a
theorem xO_n {τ : zSt} : xO τ none := fun s w a h => by cases h
theorem mO_n {τ : zSt} : mO τ none := fun s w a h => by cases h
def xF2 (σ τ : zSt) : Prop := fr [6, 28, 29] [4, 5] [13, 28, 29] [3, 5, 6, 9] σ τ
def mF3 (σ τ : zSt) : Prop := fr [15, 18, 19, 20, 21] [1, 2] [12, 13] [2, 3] σ τ
theorem xF_2 {σ τ : zSt} (h : xF σ τ) : xF2 σ τ := fr_w h (subl rfl) (subl rfl) (subl rfl) (subl rfl)
theorem mF_3 {σ τ : zSt} (h : mF σ τ) : mF3 σ τ := fr_w h (subl rfl) (subl rfl) (subl rfl) (subl rfl)
theorem now_3 {μ τ : zSt} {l : zL} {e : Nat → Int32} {net : Nat} (h : mF3 μ τ) (hn : nowI μ l e net) : nowI τ l e net := fun p hp => by rw [h.2.2.2 4 (by decide)]; exact hn p hp
theorem xG_2 {σ τ : zSt} {l : zL} {e : Nat → Int32} (f : fr [28, 29] [5] [] [9] σ τ) (h : xG σ l e) : xG τ l e := by
  obtain ⟨g1, g2, g3, g4, g5, g6, g7, g8⟩ := h
  refine ⟨g1, g2, xP_fr f (notin rfl) (by decide) (notin rfl) g3, xR_fr f (by decide) (notin rfl) g4, xT_fr f (notin rfl) (by decide) g5, ?_, ?_, xE_fr f (notin rfl) g8⟩
  · unfold xD
    rw [f.2.1 4 (by decide), f.2.2.1 28 (by decide)]; exact g6
  · unfold xC
    rw [f.2.2.2 5 (by decide), f.2.2.2 6 (by decide)]; exact g7
theorem mG_2 {μ τ : zSt} {l : zL} {e : Nat → Int32} (f : fr [20, 21] [2] [] [4] μ τ) (h : mG μ l e) : mG τ l e := by
  obtain ⟨g1, g2, g3, g4, g5, g6, g7⟩ := h
  refine ⟨g1, g2, mP_fr f (notin rfl) (by decide) g3, mR_fr f (notin rfl) g4, mE_fr f (notin rfl) g5, ?_, ?_⟩
  · rw [f.2.1 1 (by decide)]
    rcases g6 with h | ⟨net, h1, h2, h3⟩
    · exact Or.inl h
    · exact Or.inr ⟨net, h1, h2, mLk_fr f (by decide) (notin rfl) h3⟩
  · intro h5
    rw [f.1 19 (by decide)]
    rcases g7 h5 with h | ⟨h1, h2⟩
    · exact Or.inl h
    · exact Or.inr ⟨h1, by unfold mTb; rw [f.2.2.2 3 (by decide)]; exact h2⟩
def gcut (l : zL) (e : Nat → Int32) (net k : Nat) : zO := if net.testBit k = true then (if gnB l e net (bdf net (2 ^ k)) (loN k) = true then some (0, 2 ^ loN k, bdf net (2 ^ k)) else if gnB l e net (bdf net (2 ^ k)) (hiN k) = true then some (0, 2 ^ hiN k, bdf net (2 ^ k)) else none) else none
def gadd (l : zL) (e : Nat → Int32) (net k : Nat) : zO := if net.testBit k = true then none else if addB l e net k = true then some (1, 2 ^ loN k ||| 2 ^ hiN k, net ||| 2 ^ k) else none
def togB (l : zL) (e : Nat → Int32) (net to a b : Nat) : Bool := mayv l to && !decide (tw l e to a + tw l e to b ≤ tw l e net a + tw l e net b)
def gtog (l : zL) (e : Nat → Int32) (net k : Nat) : zO := if togB l e net (net ^^^ 2 ^ k) (loN k) (hiN k) = true then some (4, 2 ^ loN k ||| 2 ^ hiN k, net ^^^ 2 ^ k) else none
section xf2
variable {N : Nat} {σ : zSt} {l : zL} {e : Nat → Int32} {Q : Int32 → zSt → Prop}
theorem x_found {s w a : Nat} {σ0 : zSt} (h0 : xF2 σ0 σ) (hG : xG σ l e) (hQ : ∀ τ, xF2 σ0 τ → xG τ l e → xO τ (some (s, w, a)) → Q 1 τ) : w_X0_found N (nI s) (nI w) (lN a) σ (fun r τ => zb r ∧ Q r τ) := by
  unfold w_X0_found
  refine nm_e (nm_e (nm_e ⟨zb_1, hQ _ (fr_J (fr_I (fr_I h0 (by decide)) (by decide)) (by decide)) (xG_2 (fr_J (fr_I (fr_I fr_r (by decide)) (by decide)) (by decide)) hG) ?_⟩))
  intro s' w' a' h
  cases h
  exact ⟨rfl, rfl, rfl⟩
theorem x_bothOf {k : Nat} (hT : xT σ) (hk : k < 45) (hQ : Q (nI (2 ^ loN k ||| 2 ^ hiN k)) σ) : w_X0_bothOf N (nI k) σ Q := by
  obtain ⟨g1, g2, g3, g4, g5⟩ := hiN_ok k hk
  unfold w_X0_bothOf
  have hv : vp_in (nI k) 45 := vp_in_nI hk (by decide)
  rw [nI_clamp (n := k) (by omega), (hT.1 k hk).1, (hT.1 k hk).2]
  have e1 : (1 : Int32) <<< (nI (loN k) &&& 31) = nI (2 ^ loN k) := oneI (by omega)
  have e2 : (1 : Int32) <<< (nI (hiN k) &&& 31) = nI (2 ^ hiN k) := oneI (by omega)
  rw [e1, e2, fa_or]
  exact ⟨hv, hv, hQ⟩
theorem x_firstCut {net : Nat} (hN : 801 < N) (hG : xG σ l e) (hn : net < 2 ^ lPc l) (hQ : ∀ τ, xF2 σ τ → xG τ l e → xO τ (fstO (gcut l e net) (lPc l) 0) → Q (b32 (fstO (gcut l e net) (lPc l) 0).isSome) τ) : w_X0_firstCut N (lN net) σ Q := by
  have h10 := hG.1.1
  have hpc := pc_le h10
  have h45 := net45 h10 hn
  refine loopU (S := zSt) (fun f k τ => w_X0_firstCut_2 N Q f (lN net) (nI k) τ) (fun k τ => xF2 σ τ ∧ xG τ l e ∧ fstO (gcut l e net) (lPc l - k) k = fstO (gcut l e net) (lPc l) 0) (lPc l) ?_ ?_ N 0 σ (Nat.zero_le _) (by omega) ⟨fr_r, hG, rfl⟩
  · intro f τ ⟨h0, h1, h2⟩
    show b_X0_firstCut_2 N (w_X0_firstCut_2 N Q f) Q (lN net) (nI (lPc l)) τ
    unfold b_X0_firstCut_2
    rw [h1.2.2.1.2.1]
    have hz := fst_e h2
    rw [hz] at hQ
    exact br_t (nI_le (Nat.le_refl _) (by omega)) (hQ τ h0 h1 xO_n)
  · intro f k τ hk ⟨h0, h1, h2⟩ ih
    show b_X0_firstCut_2 N (w_X0_firstCut_2 N Q f) Q (lN net) (nI k) τ
    unfold b_X0_firstCut_2
    have hlo := lo_pc h10 hk
    have hhi := hi_pc h10 hk
    have hk45 : k < 45 := by omega
    have hv : vp_in (nI k) 45 := vp_in_nI hk45 (by decide)
    have htb : bdf net (2 ^ k) < 2 ^ lPc l := bdf_lt hn
    have e1 : (1 : Int32) <<< (nI (loN k) &&& 31) = nI (2 ^ loN k) := oneI (by omega)
    have e2 : (1 : Int32) <<< (nI (hiN k) &&& 31) = nI (2 ^ hiN k) := oneI (by omega)
    rw [h1.2.2.1.2.1, oneJ (by omega), bdfJ, nI_clamp (n := k) (by omega), nI_1, lg_cmp_eq, bitJ (by omega) (by omega), (h1.2.2.2.2.1.1 k hk45).1]
    refine br_f (nI_ge hk (by omega)) ⟨fun hb => nm_e ?_, fun hb => nm_e ⟨hv, ?_⟩⟩
    · exact ih τ ⟨h0, h1, fst_n hk (by unfold gcut; rw [if_neg (by rw [hb]; decide)]) h2⟩
    have hb : net.testBit k = true := by simpa using hb
    refine x_gains hN h1 hlo hn htb (fun υ f1 g1 => ⟨fun q => ⟨hv, ?_⟩, fun q => ⟨hv, ?_⟩⟩)
    · have q := b32_0.mp q
      rw [(g1.2.2.2.2.1.1 k hk45).2]
      refine x_gains hN g1 hhi hn htb (fun ω f2 g2 => ⟨fun r => nm_e ?_, fun r => ⟨hv, ?_⟩⟩)
      · have r := b32_0.mp r
        exact ih ω ⟨fr_t (fr_t h0 (xF_2 f1)) (xF_2 f2), g2, fst_n hk (by unfold gcut; rw [if_pos hb, if_neg (by rw [q]; decide), if_neg (by rw [r]; decide)]) h2⟩
      · have r : gnB l e net (bdf net (2 ^ k)) (hiN k) = true := by
          cases hh : gnB l e net (bdf net (2 ^ k)) (hiN k) with
          | true => rfl
          | false => exact absurd (b32_0.mpr hh) r
        have hs := (fst_s hk (show gcut l e net k = some (0, 2 ^ hiN k, bdf net (2 ^ k)) by unfold gcut; rw [if_pos hb, if_neg (by rw [q]; decide), if_pos r])).symm.trans h2
        rw [← hs] at hQ
        rw [(g2.2.2.2.2.1.1 k hk45).2, e2]
        exact x_found (fr_t (fr_t h0 (xF_2 f1)) (xF_2 f2)) g2 hQ
    · have q : gnB l e net (bdf net (2 ^ k)) (loN k) = true := by
        cases hh : gnB l e net (bdf net (2 ^ k)) (loN k) with
        | true => rfl
        | false => exact absurd (b32_0.mpr hh) q
      have hs := (fst_s hk (show gcut l e net k = some (0, 2 ^ loN k, bdf net (2 ^ k)) by unfold gcut; rw [if_pos hb, if_pos q])).symm.trans h2
      rw [← hs] at hQ
      rw [(g1.2.2.2.2.1.1 k hk45).1, e1]
      exact x_found (fr_t h0 (xF_2 f1)) g1 hQ
theorem x_firstAdd {net : Nat} (hN : 801 < N) (hG : xG σ l e) (he : eOk e) (hn : net < 2 ^ lPc l) (hQ : ∀ τ, xF2 σ τ → xG τ l e → xO τ (fstO (gadd l e net) (lPc l) 0) → Q (b32 (fstO (gadd l e net) (lPc l) 0).isSome) τ) : w_X0_firstAdd N (lN net) σ Q := by
  have h10 := hG.1.1
  have hpc := pc_le h10
  have h45 := net45 h10 hn
  refine loopU (S := zSt) (fun f k τ => w_X0_firstAdd_2 N Q f (lN net) (nI k) τ) (fun k τ => xF2 σ τ ∧ xG τ l e ∧ fstO (gadd l e net) (lPc l - k) k = fstO (gadd l e net) (lPc l) 0) (lPc l) ?_ ?_ N 0 σ (Nat.zero_le _) (by omega) ⟨fr_r, hG, rfl⟩
  · intro f τ ⟨h0, h1, h2⟩
    show b_X0_firstAdd_2 N (w_X0_firstAdd_2 N Q f) Q (lN net) (nI (lPc l)) τ
    unfold b_X0_firstAdd_2
    rw [h1.2.2.1.2.1]
    have hz := fst_e h2
    rw [hz] at hQ
    exact br_t (nI_le (Nat.le_refl _) (by omega)) (hQ τ h0 h1 xO_n)
  · intro f k τ hk ⟨h0, h1, h2⟩ ih
    show b_X0_firstAdd_2 N (w_X0_firstAdd_2 N Q f) Q (lN net) (nI k) τ
    unfold b_X0_firstAdd_2
    have hk45 : k < 45 := by omega
    rw [h1.2.2.1.2.1, oneJ (by omega), fb_orL, nI_1, lg_cmp_eq, bitJ (by omega) (by omega)]
    refine br_f (nI_ge hk (by omega)) ⟨fun hb => ?_, fun hb => nm_e ?_⟩
    · have em : movB l e net k = addB l e net k := by unfold movB; rw [if_neg (by rw [hb]; decide)]
      refine x_moves hN h1 he hk hn (fun υ f1 g1 => ⟨fun q => nm_e ?_, fun q => ?_⟩)
      · have q := b32_0.mp q
        rw [em] at q
        exact ih υ ⟨fr_t h0 (xF_2 f1), g1, fst_n hk (by unfold gadd; rw [if_neg (by rw [hb]; decide), if_neg (by rw [q]; decide)]) h2⟩
      · rw [em] at q
        have q : addB l e net k = true := by
          cases hh : addB l e net k with
          | true => rfl
          | false => exact absurd (b32_0.mpr hh) q
        have hs := (fst_s hk (show gadd l e net k = some (1, 2 ^ loN k ||| 2 ^ hiN k, net ||| 2 ^ k) by unfold gadd; rw [if_neg (by rw [hb]; decide), if_pos q])).symm.trans h2
        rw [← hs] at hQ
        exact x_bothOf g1.2.2.2.2.1 hk45 (x_found (s := 1) (fr_t h0 (xF_2 f1)) g1 hQ)
    · have hb : net.testBit k = true := by simpa using hb
      exact ih τ ⟨h0, h1, fst_n hk (by unfold gadd; rw [if_pos hb]) h2⟩
theorem x_firstTog {net : Nat} (hN : 801 < N) (hG : xG σ l e) (hn : net < 2 ^ lPc l) (hQ : ∀ τ, xF2 σ τ → xG τ l e → xO τ (fstO (gtog l e net) (lPc l) 0) → Q (b32 (fstO (gtog l e net) (lPc l) 0).isSome) τ) : w_X0_firstTogether N (lN net) σ Q := by
  have h10 := hG.1.1
  have hpc := pc_le h10
  have h45 := net45 h10 hn
  refine loopU (S := zSt) (fun f k τ => w_X0_firstTogether_2 N Q f (lN net) (nI k) τ) (fun k τ => xF2 σ τ ∧ xG τ l e ∧ fstO (gtog l e net) (lPc l - k) k = fstO (gtog l e net) (lPc l) 0) (lPc l) ?_ ?_ N 0 σ (Nat.zero_le _) (by omega) ⟨fr_r, hG, rfl⟩
  · intro f τ ⟨h0, h1, h2⟩
    show b_X0_firstTogether_2 N (w_X0_firstTogether_2 N Q f) Q (lN net) (nI (lPc l)) τ
    unfold b_X0_firstTogether_2
    rw [h1.2.2.1.2.1]
    have hz := fst_e h2
    rw [hz] at hQ
    exact br_t (nI_le (Nat.le_refl _) (by omega)) (hQ τ h0 h1 xO_n)
  · intro f k τ hk ⟨h0, h1, h2⟩ ih
    show b_X0_firstTogether_2 N (w_X0_firstTogether_2 N Q f) Q (lN net) (nI k) τ
    unfold b_X0_firstTogether_2
    have hlo := lo_pc h10 hk
    have hhi := hi_pc h10 hk
    have hk45 : k < 45 := by omega
    have hv : vp_in (nI k) 45 := vp_in_nI hk45 (by decide)
    have htb : net ^^^ 2 ^ k < 2 ^ lPc l := Nat.xor_lt_two_pow hn (p2lt hk)
    have hg : gtog l e net k = if togB l e net (net ^^^ 2 ^ k) (loN k) (hiN k) = true then some (4, 2 ^ loN k ||| 2 ^ hiN k, net ^^^ 2 ^ k) else none := rfl
    rw [h1.2.2.1.2.1, oneJ (by omega), fb_xorL, nI_clamp (n := k) (by omega), nI_1, (h1.2.2.2.2.1.1 k hk45).1, (h1.2.2.2.2.1.1 k hk45).2]
    generalize net ^^^ 2 ^ k = to at *
    refine br_f (nI_ge hk (by omega)) (nm_e ⟨hv, nm_e ⟨hv, nm_e (x_may hN h1 htb ⟨fun q => nm_e ?_, fun q => ?_⟩)⟩⟩)
    · have q := b32_0.mp q
      exact ih τ ⟨h0, h1, fst_n hk (by rw [hg]; unfold togB; rw [q]; rfl) h2⟩
    have hm : mayv l to = true := by
      cases h : mayv l to with
      | true => rfl
      | false => exact absurd (b32_0.mpr h) q
    unfold togB at hg
    rw [hm, Bool.true_and] at hg
    refine x_of hN h1 hlo htb (fun υ1 f1 g1 => x_of hN g1 hhi htb (fun υ2 f2 g2 => x_of hN g2 hlo hn (fun υ3 f3 g3 => x_of hN g3 hhi hn (fun υ4 f4 g4 => ?_))))
    have ff := fr_t h0 (xF_2 (fr_t (fr_t (fr_t f1 f2) f3) f4))
    rw [lg_cmp_le]
    refine ⟨fun r => nm_e ?_, fun r => ?_⟩
    · rw [decide_eq_true r] at hg
      exact ih υ4 ⟨ff, g4, fst_n hk hg h2⟩
    · rw [decide_eq_false r] at hg
      have hs := (fst_s hk hg).symm.trans h2
      rw [← hs] at hQ
      exact x_bothOf g4.2.2.2.2.1 hk45 (x_found (s := 4) ff g4 hQ)
end xf2
