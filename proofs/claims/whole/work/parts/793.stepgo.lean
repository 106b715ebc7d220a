/-! step and go -/
def mvc (l : zL) (e : Nat → Int32) (net : Nat) : Nat → Nat := fb_ct (fun k => movB l e net k)
def kthP (l : zL) (e : Nat → Int32) (net j : Nat) : Nat := fa_first (fun i => movB l e net i && decide (mvc l e net i = j)) (lPc l)
def drwN (l : zL) (e : Nat → Int32) (net s : Nat) : Nat := ((1103515245 * s + 12345) % 2147483648 / 256) % mvc l e net (lPc l)
def stpA (l : zL) (x : Int32) (net : Nat) (s : Int32) : Int32 := if -1 ≤ s then (if s = -1 then stI l (fun _ => x) net else if mvc l (fun _ => x) net (lPc l) = 0 then -1 else nI (kthP l (fun _ => x) net (drwN l (fun _ => x) net s.toNatClampNeg))) else -2
def stpT (l : zL) (x : Int32) (net : Nat) (s : Int32) : Nat := if stpA l x net s = -1 ∨ stpA l x net s = -2 then net else net ^^^ 2 ^ (stpA l x net s).toNatClampNeg
/-- the drawn pair lies in the row -/
theorem kth_at {l : zL} {e : Nat → Int32} {net j : Nat} {f : Nat → Int32} (hj : j < mvc l e net (lPc l)) (hf : ∀ i, i < lPc l → movB l e net i = true → f (mvc l e net i) = nI i) : f j = nI (kthP l e net j) ∧ kthP l e net j < lPc l := by
  obtain ⟨i, h1, h2, h3⟩ := fb_ct_kth (p := fun k => movB l e net k) hj
  have h2 : movB l e net i = true := h2
  have h3 : mvc l e net i = j := h3
  have e1 : kthP l e net j = i := first_is h1 (by rw [h2, decide_eq_true h3]; rfl) (fun k hk => by
    cases hm : movB l e net k with
    | false => rfl
    | true =>
      have : ¬ mvc l e net k = j := fun z => by
        have := fb_ct_kth_one (p := fun k => movB l e net k) (i := k) (j := i) hm h2 (z.trans h3.symm)
        omega
      rw [decide_eq_false this]; rfl)
  rw [e1]
  exact ⟨by rw [← h3]; exact hf i h1 h2, h1⟩
theorem draw_x {s c : Nat} (hs : s < 2 ^ 31) (hc : 0 < c) (hc2 : c ≤ 45) : ∀ v1 : Int64, v1 = (((1103515245 : Int64) * (nI s).toInt64) + (12345 : Int64)) - (((1103515245 : Int64) * (nI s).toInt64) + (12345 : Int64)) / (2147483648 : Int64) * (2147483648 : Int64) → ((v1 / (256 : Int64)) - (v1 / (256 : Int64)) / (nI c).toInt64 * (nI c).toInt64).toInt32 = nI (((1103515245 * s + 12345) % 2147483648 / 256) % c) := by
  intro v1 h1
  have hM : 1103515245 * s + 12345 < 2 ^ 62 := by
    have : 1103515245 * s ≤ 1103515245 * 2147483648 := Nat.mul_le_mul_left _ (by omega)
    omega
  have e0 : ((1103515245 : Int64) * (nI s).toInt64) + (12345 : Int64) = lN (1103515245 * s + 12345) := by
    rw [nI_l hs, show (1103515245 : Int64) = lN 1103515245 from rfl, show (12345 : Int64) = lN 12345 from rfl, lN_mul, lN_add]
  rw [e0, show (2147483648 : Int64) = lN 2147483648 from rfl, pk_lRem (by omega) (by decide) (by decide)] at h1
  have hm : (1103515245 * s + 12345) % 2147483648 < 2147483648 := Nat.mod_lt _ (by decide)
  rw [h1, show (256 : Int64) = lN 256 from rfl, pk_lDiv (by omega) (by decide) (by decide), nI_l (by omega)]
  have hd : (1103515245 * s + 12345) % 2147483648 / 256 ≤ (1103515245 * s + 12345) % 2147483648 := Nat.div_le_self _ _
  rw [pk_lRem (by omega) hc (by omega), lN_i]
section sg
variable {N : Nat} {σ τ μ ν : zSt} {tp : Nat × (Nat → Nat)} {fa : Int32 × Int32} {l : zL} {net : Nat} {x : Int32} {ba rg : Nat → Int64} {ls : Nat × (Nat → Int64)} {cm : Nat × (Nat → Int64) × (Nat → Int32)} {li : Int64} {oc : Nat → Int32}
theorem stp_lt {e : Nat → Int32} (h : ¬ stI l e net = -1) : stp l e net < lPc l ∧ stI l e net = nI (stp l e net) := by
  unfold stI at h ⊢
  by_cases q : stp l e net < lPc l
  · rw [if_pos q]; exact ⟨q, rfl⟩
  · rw [if_neg q] at h; exact absurd rfl h
theorem X_stp39 {s : Int32} {k : Int32} {Q : Int32 → zSt → Prop} (h : XR τ tp fa l net x ba rg ls cm li oc) (e1 : stpA l x net s = k) (hk : k = -1 ∨ ∃ j, j < lPc l ∧ k = nI j) (hQ : ∀ τ, XR τ tp fa l (stpT l x net s) x ba rg ls cm li oc → Q (stpA l x net s) τ) : b_X11_step_39 N Q k τ := by
  obtain ⟨b1, b2, b3, b4, b5, b6, b7, b8, b9, b10, b11, b12⟩ := id h
  have hpc := pc_le b3.1.1
  unfold b_X11_step_39
  unfold stpT at hQ
  rw [e1] at hQ
  rcases hk with hk | ⟨j, hj, hk⟩
  · rw [hk] at hQ ⊢
    rw [if_pos (Or.inl rfl)] at hQ
    exact br_t rfl (hQ τ h)
  · have n2 : ¬ (nI j = -1 ∨ nI j = -2) := fun z => by
      rcases z with z | z
      · exact m1_ne (by omega) z
      · rw [fa_eq, nI_toInt (by omega)] at z
        have : (-2 : Int32).toInt = -2 := by decide
        omega
    rw [hk] at hQ ⊢
    rw [if_neg n2, nI_clamp (by omega)] at hQ
    refine br_f (m1_ne (by omega)) (nm_e ?_)
    rw [b6.2, oneJ (by omega), fb_xorL]
    exact hQ _ ⟨b1, b2, xG_fr (I := []) (J := [0]) (A := []) (B := []) (fr_J fr_r (by decide)) (notin rfl) (notin rfl) (notin rfl) (notin rfl) b3, b4, b5, ⟨Nat.xor_lt_two_pow b6.1 (p2lt hj), zJ_2s⟩, b7, b8, b9, b10, b11, b12⟩
theorem X_step {s : Int32} {Q : Int32 → zSt → Prop} (hN : 1100 < N) (h : XR σ tp fa l net x ba rg ls cm li oc) (hQ : ∀ τ, XR τ tp fa l (stpT l x net s) x ba rg ls cm li oc → Q (stpA l x net s) τ) : w_X11_step N s σ Q := by
  obtain ⟨b1, b2, b3, b4, b5, b6, b7, b8, b9, b10, b11, b12⟩ := id h
  have h10 := b3.1.1
  have hpc := pc_le h10
  have he := ex_ok2 b5.1
  unfold w_X11_step
  rw [b6.2]
  refine ⟨fun q => ⟨fun q2 => ?_, fun q2 => ?_⟩, fun q => ?_⟩
  · have e1 : stpA l x net s = stI l (fun _ => x) net := by unfold stpA; rw [if_pos q, if_pos q2]
    refine x_firstPair (by omega) b3 he b6.1 (fun τ f1 g1 => ?_)
    refine X_stp39 (XR_s (xS_F f1) g1 h) e1 ?_ hQ
    by_cases z : stI l (fun _ => x) net = -1
    · exact Or.inl z
    · exact Or.inr ⟨_, (stp_lt z).1, (stp_lt z).2⟩
  · have q0 : ¬ s < 0 := fun z => q2 (by
      rw [fa_le] at q
      rw [fa_lt] at z
      rw [fa_eq]
      have e1 : (-1 : Int32).toInt = -1 := by decide
      have e2 : (0 : Int32).toInt = 0 := by decide
      omega)
    obtain ⟨sn, hsn, es⟩ := nI_of q0
    have e1 : stpA l x net s = if mvc l (fun _ => x) net (lPc l) = 0 then -1 else nI (kthP l (fun _ => x) net (drwN l (fun _ => x) net sn)) := by unfold stpA; rw [if_pos q, if_neg q2, es, nI_clamp hsn]
    have hcl : mvc l (fun _ => x) net (lPc l) ≤ 45 := Nat.le_trans (fb_ct_le _ _) hpc
    rw [es]
    refine loopU (S := zSt) (fun f k τ => w_X9_drawnPair_6 N (fun r1 τ2 => b_X11_step_39 N Q r1 τ2) f (lN net) (nI sn) (nI (mvc l (fun _ => x) net k)) (nI k) τ) (fun k τ => fr [6] [4] [13, 28, 29, 30] [3, 5, 6] σ τ ∧ xG τ l (fun _ => x) ∧ ∀ i, i < k → movB l (fun _ => x) net i = true → τ.2.2.1 30 (mvc l (fun _ => x) net i) = nI i) (lPc l) ?_ ?_ N 0 σ (Nat.zero_le _) (by omega) ⟨fr_r, b3, fun i hi => absurd hi (Nat.not_lt_zero _)⟩
    · intro f τ ⟨t0, t1, t2⟩
      show b_X9_drawnPair_6 N (w_X9_drawnPair_6 N _ f) (fun r1 τ2 => b_X11_step_39 N Q r1 τ2) (lN net) (nI sn) (nI (mvc l (fun _ => x) net (lPc l))) (nI (lPc l)) τ
      unfold b_X9_drawnPair_6
      rw [t1.2.2.1.2.1]
      have hX : XR τ tp fa l net x ba rg ls cm li oc := XR_s (fr_w t0 (subl rfl) (subl rfl) (subl rfl) (subl rfl)) t1 h
      refine br_t (nI_le (Nat.le_refl _) (by omega)) ⟨fun z => ?_, fun z => ?_⟩
      · have z : mvc l (fun _ => x) net (lPc l) = 0 := (nI_eq (b := 0) (by omega) (by omega)).mp z
        rw [if_pos z] at e1
        exact X_stp39 hX e1 (Or.inl rfl) hQ
      · have z : ¬ mvc l (fun _ => x) net (lPc l) = 0 := fun w => z (by rw [w]; rfl)
        rw [if_neg z] at e1
        intro v1 hv1
        rw [draw_x hsn (by omega) hcl v1 hv1]
        have hlt : drwN l (fun _ => x) net sn < mvc l (fun _ => x) net (lPc l) := Nat.mod_lt _ (by omega)
        have hkk := kth_at hlt t2
        refine ⟨?_, vp_in_nI (Nat.lt_of_lt_of_le hlt hcl) (by decide), ?_⟩
        · rw [nI_l (by omega)]
          intro w
          have := (fb_lN_inj (b := 0) (by omega) (by omega)).mp w
          omega
        · have ecl : (nI ((1103515245 * sn + 12345) % 2147483648 / 256 % mvc l (fun _ => x) net (lPc l))).toNatClampNeg = drwN l (fun _ => x) net sn := nI_clamp (by
            have : drwN l (fun _ => x) net sn < 2 ^ 31 := by omega
            exact this)
          rw [ecl, hkk.1]
          exact X_stp39 hX e1 (Or.inr ⟨_, hkk.2, rfl⟩) hQ
    · intro f k τ hk ⟨t0, t1, t2⟩ ih
      show b_X9_drawnPair_6 N (w_X9_drawnPair_6 N _ f) (fun r1 τ2 => b_X11_step_39 N Q r1 τ2) (lN net) (nI sn) (nI (mvc l (fun _ => x) net k)) (nI k) τ
      unfold b_X9_drawnPair_6
      rw [t1.2.2.1.2.1]
      have hmk : mvc l (fun _ => x) net k ≤ k := fb_ct_le _ _
      refine br_f (nI_ge hk (by omega)) (x_moves (by omega) t1 he hk b6.1 (fun υ f1 g1 => ?_))
      have ff := fr_t t0 (fr_w f1 (subl rfl) (subl rfl) (subl rfl) (subl rfl))
      have hmc : mvc l (fun _ => x) net (k + 1) = mvc l (fun _ => x) net k + if movB l (fun _ => x) net k then 1 else 0 := rfl
      cases hm : movB l (fun _ => x) net k with
      | false =>
        rw [hm] at hmc
        refine br_t rfl (nm_e ?_)
        rw [nI_1]
        have := ih υ ⟨ff, g1, fun i hi hmi => ?_⟩
        · rw [hmc] at this; exact this
        · have : i ≠ k := fun z => by rw [z, hm] at hmi; exact absurd hmi (by decide)
          rw [f1.2.2.1 30 (by decide)]; exact t2 i (by omega) hmi
      | true =>
        rw [hm] at hmc
        refine br_f (show ¬ (1 : Int32) = 0 by decide) ⟨vp_in_nI (by omega) (by decide), nm_e (nm_e (nm_e ?_))⟩
        rw [nI_1, nI_1, nI_clamp (n := mvc l (fun _ => x) net k) (by omega)]
        have := ih (zA υ 30 (upd (υ.2.2.1 30) (mvc l (fun _ => x) net k) (nI k))) ⟨fr_A ff (by decide), xG_fr (I := []) (J := []) (A := [30]) (B := []) (fr_A fr_r (by decide)) (notin rfl) (notin rfl) (notin rfl) (notin rfl) g1, fun i hi hmi => ?_⟩
        · rw [hmc] at this; exact this
        · rw [zA_3s]
          by_cases z : i = k
          · subst z; rw [pk_us]
          · have hne : mvc l (fun _ => x) net i ≠ mvc l (fun _ => x) net k := fun w => z (fb_ct_kth_one (p := fun k => movB l (fun _ => x) net k) hmi hm w)
            rw [pk_un hne, f1.2.2.1 30 (by decide)]; exact t2 i (by omega) hmi
  · have e1 : stpA l x net s = -2 := by unfold stpA; rw [if_neg q]
    unfold stpT at hQ
    rw [e1, if_pos (Or.inr rfl)] at hQ
    exact hQ σ h
/-- the least net of a ring -/
def mnP (p : Nat → Nat) (a : Nat) : Nat → Nat
  | 0 => p a
  | j + 1 => if p (a + j) < mnP p a j then p (a + j) else mnP p a j
def goR (l : zL) (x : Int32) (net : Nat) : Nat × Nat × Bool := wlkR l (fun _ => x) net
def goT (l : zL) (x : Int32) (net : Nat) : Nat := pth l (fun _ => x) net (goR l x net).1
def goG (l : zL) (x : Int32) (net : Nat) : Nat → Int64 := fun k => if k = 0 then (nI (goR l x net).2.1).toInt64 else if (goR l x net).2.1 = 0 then -1 else lN (mnP (pth l (fun _ => x) net) ((goR l x net).1 - (goR l x net).2.1) (goR l x net).2.1)
theorem mnP_lt {p : Nat → Nat} {a B : Nat} : ∀ j, (∀ i, i ≤ j → p (a + i) < B) → mnP p a j < B
  | 0, h => h 0 (Nat.le_refl _)
  | j + 1, h => by
    rw [mnP]
    by_cases c : p (a + j) < mnP p a j
    · rw [if_pos c]; exact h j (by omega)
    · rw [if_neg c]; exact mnP_lt j (fun i hi => h i (by omega))
theorem X_go {Q : Int32 → zSt → Prop} (hN : 1100 < N) (h : XR σ tp fa l net x ba rg ls cm li oc) (hQ : ∀ τ, XR τ tp fa l (goT l x net) x ba (goG l x net) ls cm li oc → Q (wlN (goR l x net)) τ) : w_X11_go N σ Q := by
  obtain ⟨b1, b2, b3, b4, b5, b6, b7, b8, b9, b10, b11, b12⟩ := id h
  have h10 := b3.1.1
  have hpc := pc_le h10
  have he := ex_ok2 b5.1
  unfold w_X11_go
  rw [b6.2]
  refine x_from (by omega) b3 he b6.1 (fun τ f1 g1 hW => ?_)
  have hX := XR_s (xS_w f1) g1 h
  unfold goT goG goR at hQ
  unfold xWk at hW
  generalize wlkR l (fun _ => x) net = R at *
  obtain ⟨w1, w2, w3, w4, w5, w6, w7⟩ := hW
  unfold w_X9_lastNet
  rw [w3, nI_clamp (n := R.1) (by omega), (w6 R.1 (Nat.le_refl _)).1]
  refine ⟨vp_in_nI (by omega) (by decide), nm_e (nm_e ?_)⟩
  obtain ⟨c1, c2, c3, c4, c5, c6, c7, c8, c9, c10, c11, c12⟩ := hX
  have fin : ∀ v : Int64, v = (if R.2.1 = 0 then -1 else lN (mnP (pth l (fun _ => x) net) (R.1 - R.2.1) R.2.1)) → ∀ υ : zSt, υ = zB (zB (zJ τ 0 (lN (pth l (fun _ => x) net R.1))) 1 (vp_updL (τ.2.2.2 1) 0 (nI R.2.1).toInt64)) 1 (vp_updL (vp_updL (τ.2.2.2 1) 0 (nI R.2.1).toInt64) 1 v) → (υ.1 32 = 0 → Q (-1) υ) ∧ (¬ υ.1 32 = 0 → Q (υ.1 30) υ) := by
    intro v hv υ hυ
    have r0 : υ.1 32 = b32 R.2.2 := by rw [hυ]; exact w5
    have r1 : υ.1 30 = nI R.1 := by rw [hυ]; exact w3
    have hX2 : XR υ tp fa l (pth l (fun _ => x) net R.1) x ba (fun k => if k = 0 then (nI R.2.1).toInt64 else if R.2.1 = 0 then -1 else lN (mnP (pth l (fun _ => x) net) (R.1 - R.2.1) R.2.1)) ls cm li oc := by
      rw [hυ]
      refine ⟨c1, c2, xG_fr (I := []) (J := [0]) (A := []) (B := [1]) (fr_B (fr_B (fr_J fr_r (by decide)) (by decide)) (by decide)) (notin rfl) (notin rfl) (notin rfl) (notin rfl) c3, c4, c5, ⟨(w6 R.1 (Nat.le_refl _)).2, rfl⟩, c7, fun i hi => ?_, c9, c10, c11, c12⟩
      rw [zB_4s]
      have hi2 : i = 0 ∨ i = 1 := by omega
      rcases hi2 with z | z <;> subst z
      · rw [pk_uLn (by decide), pk_uLs]; rfl
      · rw [pk_uLs, hv]; rfl
    have hq := hQ υ hX2
    unfold wlN at hq
    rw [r0, r1]
    cases hb : R.2.2 with
    | true => rw [hb, if_pos rfl] at hq; exact br_f (by decide) hq
    | false => rw [hb, if_neg (by decide)] at hq; exact br_t rfl hq
  have e31 : (zJ τ 0 (lN (pth l (fun _ => x) net R.1))).1 31 = nI R.2.1 := w4
  rw [e31]
  unfold w_X9_leastOfRing
  have e30 : (zB (zJ τ 0 (lN (pth l (fun _ => x) net R.1))) 1 (vp_updL ((zJ τ 0 (lN (pth l (fun _ => x) net R.1))).2.2.2 1) 0 (nI R.2.1).toInt64)).1 30 = nI R.1 := w3
  have e312 : (zB (zJ τ 0 (lN (pth l (fun _ => x) net R.1))) 1 (vp_updL ((zJ τ 0 (lN (pth l (fun _ => x) net R.1))).2.2.2 1) 0 (nI R.2.1).toInt64)).1 31 = nI R.2.1 := w4
  have e10 : ∀ i, (zB (zJ τ 0 (lN (pth l (fun _ => x) net R.1))) 1 (vp_updL ((zJ τ 0 (lN (pth l (fun _ => x) net R.1))).2.2.2 1) 0 (nI R.2.1).toInt64)).2.2.2 10 i = τ.2.2.2 10 i := fun i => rfl
  rw [e30, e312, nI_clamp (n := R.1) (by omega), e10, (w6 R.1 (Nat.le_refl _)).1]
  refine ⟨fun z => nm_e ?_, fun z => ⟨vp_in_nI (by omega) (by decide), nm_e ?_⟩⟩
  · have z : R.2.1 = 0 := (nI_eq (b := 0) (by omega) (by omega)).mp z
    exact fin (-1) (by rw [if_pos z]) _ rfl
  · have z : ¬ R.2.1 = 0 := fun w => z (by rw [w]; rfl)
    rw [pk_sub w2]
    refine nm_e ?_
    rw [w7 z]
    have hmin := loopU (S := Unit) (fun f j _ => w_X9_leastOfRing_31 N (fun r7 τ8 => ∀ τ9 : zSt, τ9 = zB τ8 1 (vp_updL (τ8.2.2.2 1) 1 r7) → (τ9.1 32 = 0 → Q (-1) τ9) ∧ (¬ τ9.1 32 = 0 → Q (τ9.1 30) τ9)) f (lN (mnP (pth l (fun _ => x) net) (R.1 - R.2.1) j)) (nI (R.1 - R.2.1 + j)) (zB (zJ τ 0 (lN (pth l (fun _ => x) net R.1))) 1 (vp_updL ((zJ τ 0 (lN (pth l (fun _ => x) net R.1))).2.2.2 1) 0 (nI R.2.1).toInt64))) (fun _ _ => True) R.2.1 ?_ ?_ N 0 () (Nat.zero_le _) (by omega) trivial
    · have hmin : w_X9_leastOfRing_31 N _ N (lN (pth l (fun _ => x) net (R.1 - R.2.1))) (nI (R.1 - R.2.1 + 0)) _ := hmin
      rw [Nat.add_zero, w7 z] at hmin
      exact hmin
    · intro f _ _
      show b_X9_leastOfRing_31 N _ _ (lN (mnP (pth l (fun _ => x) net) (R.1 - R.2.1) R.2.1)) (nI (R.1 - R.2.1 + R.2.1)) _
      unfold b_X9_leastOfRing_31
      rw [e30, show R.1 - R.2.1 + R.2.1 = R.1 by omega]
      exact br_t (nI_le (Nat.le_refl _) (by omega)) (nm_e (fin _ (by rw [if_neg z]) _ rfl))
    · intro f j _ hj _ ih
      show b_X9_leastOfRing_31 N _ _ (lN (mnP (pth l (fun _ => x) net) (R.1 - R.2.1) j)) (nI (R.1 - R.2.1 + j)) _
      unfold b_X9_leastOfRing_31
      have ih := ih () trivial
      have hb1 := net45 h10 (w6 (R.1 - R.2.1 + j) (by omega)).2
      have hb2 : mnP (pth l (fun _ => x) net) (R.1 - R.2.1) j < 2 ^ 45 := mnP_lt j (fun i hi => net45 h10 (w6 _ (by omega)).2)
      have hv : vp_in (nI (R.1 - R.2.1 + j)) 201 := vp_in_nI (by omega) (by decide)
      rw [e30, nI_clamp (n := R.1 - R.2.1 + j) (by omega), e10, (w6 (R.1 - R.2.1 + j) (by omega)).1, lg_cmp_ge, pk_lLE (by omega) (by omega), nI_1]
      rw [mnP] at ih
      refine br_f (nI_ge (by omega) (by omega)) (br_f (nI_pos (by omega)) ⟨hv, fun w => nm_e ?_, fun w => ⟨hv, nm_e (nm_e ?_)⟩⟩)
      · rw [if_neg (by omega)] at ih; exact ih
      · rw [if_pos (by omega)] at ih; exact ih
end sg
