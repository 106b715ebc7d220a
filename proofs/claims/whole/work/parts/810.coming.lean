/-! all orders of coming -/
def comF (l : zL) (x : Int32) (n : Nat) : Nat → List Nat → Nat × (Nat → Int64) × (Nat → Int32) → Nat × (Nat → Int64) × (Nat → Int32)
  | 0, _, c => c
  | f + 1, o, c => match nxO n o with
    | none => notC c (lN (noN l x n o n).1)
    | some o' => comF l x n f o' (notC c (lN (noN l x n o n).1))
def cmgC (l : zL) (x : Int32) (cm : Nat × (Nat → Int64) × (Nat → Int32)) : Nat × (Nat → Int64) × (Nat → Int32) := if fewB l = true then comF l x (lPn l) 120 (List.range (lPn l)) (0, cm.2) else cm
def cmgA (l : zL) (x : Int32) (cm : Nat × (Nat → Int64) × (Nat → Int32)) : Int32 := if fewB l = true then nI (comF l x (lPn l) 120 (List.range (lPn l)) (0, cm.2)).1 else -1
theorem comF_n {l : zL} {x : Int32} {n f : Nat} {o : List Nat} {c : Nat × (Nat → Int64) × (Nat → Int32)} (h : nxO n o = none) : comF l x n (f + 1) o c = notC c (lN (noN l x n o n).1) := by
  rw [comF, h]
theorem comF_s {l : zL} {x : Int32} {n f : Nat} {o o' : List Nat} {c : Nat × (Nat → Int64) × (Nat → Int32)} (h : nxO n o = some o') : comF l x n (f + 1) o c = comF l x n f o' (notC c (lN (noN l x n o n).1)) := by
  rw [comF, h]
theorem chk_s {n f : Nat} {o : List Nat} (h : chk n (f + 1) o = true) : okO n o ∧ ∀ o', nxO n o = some o' → chk n f o' = true := by
  rw [chk, Bool.and_eq_true] at h
  refine ⟨okB_ok h.1, fun o' e => ?_⟩
  have := h.2
  rw [e] at this
  exact this
theorem xOr_c {σ τ : zSt} {n : Nat} {o : List Nat} (f : fr [35] [] [33] [12] σ τ) (h : xOr σ n o) : xOr τ n o := by
  unfold xOr; rw [f.1 33 (by decide), f.2.2.1 31 (by decide)]; exact h
theorem mOr_c {μ ν : zSt} {n : Nat} {o : List Nat} (f : fr [28] [] [16] [7] μ ν) (h : mOr μ n o) : mOr ν n o := by
  unfold mOr; rw [f.2.2.1 15 (by decide)]; exact h
theorem x_start {N n : Nat} {σ : zSt} {Q : zSt → Prop} (hN : 1100 < N) (h5 : n ≤ 5) (hQ : ∀ τ, fr [33] [] [31] [] σ τ → xOr τ n (List.range n) → Q τ) : w_X2_start N (nI n) σ Q := by
  unfold w_X2_start
  rw [if_neg (fun z => by have := (nI_ltI (a := 5) (by omega) (by omega)).mp z; omega)]
  refine nm_e ?_
  refine loopU (fun f i (s : zSt) => w_X2_start_15 N Q f (nI i) s) (fun i s => fr [33] [] [31] [] σ s ∧ s.1 33 = nI n ∧ ∀ k, k < i → s.2.2.1 31 k = nI k) n ?_ ?_ N 0 _ (Nat.zero_le _) (by omega) ⟨fr_I fr_r (by decide), zI_1s, fun k hk => absurd hk (Nat.not_lt_zero _)⟩
  · intro f s hs
    show b_X2_start_15 N (w_X2_start_15 N Q f) Q (nI n) s
    unfold b_X2_start_15
    rw [hs.2.1]
    exact br_t (nI_le (Nat.le_refl _) (by omega)) (hQ s hs.1 ⟨hs.2.1, fun k hk => by rw [oG_range hk]; exact hs.2.2 k hk⟩)
  · intro f i s hi hs ih
    show b_X2_start_15 N (w_X2_start_15 N Q f) Q (nI i) s
    unfold b_X2_start_15
    rw [hs.2.1, nI_clamp (n := i) (by omega), nI_1]
    refine br_f (nI_ge hi (by omega)) ⟨vp_in_nI (by omega) (by decide), nm_e (nm_e (ih _ ⟨fr_A hs.1 (by decide), hs.2.1, fun k hk => ?_⟩))⟩
    show upd (s.2.2.1 31) i (nI i) k = nI k
    by_cases q : k = i
    · rw [q]; exact pk_us
    · rw [pk_un q]; exact hs.2.2 k (by omega)
theorem m_start {N n : Nat} {μ : zSt} {Q : zSt → Prop} (hN : 1100 < N) (h5 : n ≤ 5) (hQ : ∀ τ, fr [] [] [15] [] μ τ → mOr τ n (List.range n) → Q τ) : w_X12_beginsOrder N (nI n) μ Q := by
  refine loopU (fun f i (s : zSt) => w_X12_beginsOrder_2 N Q f (nI n) (nI i) s) (fun i s => fr [] [] [15] [] μ s ∧ ∀ k, k < i → s.2.2.1 15 k = nI k) n ?_ ?_ N 0 _ (Nat.zero_le _) (by omega) ⟨fr_r, fun k hk => absurd hk (Nat.not_lt_zero _)⟩
  · intro f s hs
    show b_X12_beginsOrder_2 N (w_X12_beginsOrder_2 N Q f) Q (nI n) (nI n) s
    unfold b_X12_beginsOrder_2
    exact br_t (nI_le (Nat.le_refl _) (by omega)) (hQ s hs.1 (fun k hk => by rw [oG_range hk]; exact hs.2 k hk))
  · intro f i s hi hs ih
    show b_X12_beginsOrder_2 N (w_X12_beginsOrder_2 N Q f) Q (nI n) (nI i) s
    unfold b_X12_beginsOrder_2
    rw [nI_clamp (n := i) (by omega), nI_1]
    refine br_f (nI_ge hi (by omega)) ⟨vp_in_nI (by omega) (by decide), nm_e (nm_e (ih _ ⟨fr_A hs.1 (by decide), fun k hk => ?_⟩))⟩
    show upd (s.2.2.1 15) i (nI i) k = nI k
    by_cases q : k = i
    · rw [q]; exact pk_us
    · rw [pk_un q]; exact hs.2 k (by omega)
section co
variable {N : Nat} {σ τ μ ν : zSt} {tp : Nat × (Nat → Nat)} {fa : Int32 × Int32} {l : zL} {net : Nat} {x : Int32} {ba rg : Nat → Int64} {ls : Nat × (Nat → Int64)} {cm : Nat × (Nat → Int64) × (Nat → Int32)} {li : Int64} {oc : Nat → Int32}
theorem X_or (f : fr [33] [] [31] [] σ τ) (h : XR σ tp fa l net x ba rg ls cm li oc) : XR τ tp fa l net x ba rg ls cm li oc :=
  XR_s (fr_w f (subl rfl) (subl rfl) (subl rfl) (subl rfl)) (xG_fr f (notin rfl) (notin rfl) (notin rfl) (notin rfl) h.2.2.1) h
theorem M_or (f : fr [] [] [15] [] μ ν) (h : MR μ tp fa l net x ba rg ls cm li oc) : MR ν tp fa l net x ba rg ls cm li oc :=
  MR_s (fr_w f (subl rfl) (subl rfl) (subl rfl) (subl rfl)) (mG_fr f (notin rfl) (by decide) (notin rfl) (notin rfl) h.2.2.1) h
theorem x_com35 {Q : Int32 → zSt → Prop} (hN : 1100 < N) (hf : fewB l = true) : ∀ (f g : Nat) (o : List Nat) (cm : Nat × (Nat → Int64) × (Nat → Int32)) (σ : zSt), f + 1 < g → f ≤ 120 → chk (lPn l) f o = true → XR σ tp fa l net x ba rg ls cm li oc → xOr σ (lPn l) o → cmS cm → cm.1 + f ≤ 120 → (∀ τ, XR τ tp fa l net x ba rg ls (comF l x (lPn l) f o cm) li oc → Q (nI (comF l x (lPn l) f o cm).1) τ) → w_X11_coming_35 N Q g (1 : Int32) (nI (120 - f)) σ
  | 0, _, _, _, _, _, _, hc, _, _, _, _, _ => absurd (show false = true from hc) (by decide)
  | f + 1, 0, _, _, _, hg, _, _, _, _, _, _, _ => absurd hg (Nat.not_lt_zero _)
  | f + 1, 1, _, _, _, hg, _, _, _, _, _, _, _ => absurd hg (by omega)
  | f + 1, g + 2, o, cm, σ, hg, h120, hc, h, hO, hs, hcm, hQ => by
    show b_X11_coming_35 N (w_X11_coming_35 N Q (g + 1)) Q (1 : Int32) (nI (120 - (f + 1))) σ
    have hp := few_pc hf
    have h2 : 2 ≤ lPn l := by
      unfold fewB at hf
      rw [Bool.and_eq_true, decide_eq_true_eq] at hf
      exact hf.1
    obtain ⟨ho, hc2⟩ := chk_s hc
    unfold b_X11_coming_35
    refine br_f (nI_ge (b := 120) (by omega) (by omega)) (br_f (show ¬ (1 : Int32) = 0 by decide) (x_netO hN hp.1 ho h hO (fun τ t1 t2 => x_note hN t1 hs (by omega) (fun τ2 f2 x2 => x_advance hN h2 hp.1 ho (xOr_c f2 t2) (fun e => ?_) (fun o' e τ3 f3 o3 => ?_)))))
    · rw [comF_n e] at hQ
      rw [nI_1, show 120 - (f + 1) + 1 = 120 - f by omega]
      refine nm_e ?_
      show b_X11_coming_35 N (w_X11_coming_35 N Q g) Q (0 : Int32) (nI (120 - f)) τ2
      have hq := hQ τ2 x2
      have e35 : τ2.1 35 = nI (notC cm (lN (noN l x (lPn l) o (lPn l)).1)).1 := x2.2.2.2.2.2.2.2.2.2.1.2.1
      unfold b_X11_coming_35
      rw [e35]
      exact ⟨fun _ => hq, fun _ => br_t rfl hq⟩
    · rw [comF_s e] at hQ
      rw [nI_1, show 120 - (f + 1) + 1 = 120 - f by omega]
      have hle := not_le1 cm (lN (noN l x (lPn l) o (lPn l)).1)
      exact nm_e (x_com35 hN hf f (g + 1) o' (notC cm (lN (noN l x (lPn l) o (lPn l)).1)) τ3 (by omega) (by omega) (hc2 o' e) (X_or (fr_w f3 (subl rfl) (subl rfl) (subl rfl) (subl rfl)) x2) o3 (not_srt hs) (by omega) hQ)
theorem X_coming {Q : Int32 → zSt → Prop} (hN : 1100 < N) (h : XR σ tp fa l net x ba rg ls cm li oc) (hQ : ∀ τ, XR τ tp fa l net x ba rg ls (cmgC l x cm) li oc → Q (cmgA l x cm) τ) : w_X11_coming N σ Q := by
  unfold cmgC cmgA at hQ
  refine x_few h ⟨fun q => ?_, fun q => ?_⟩
  · rw [if_neg (by rw [b32_0.mp q]; decide), if_neg (by rw [b32_0.mp q]; decide)] at hQ; exact hQ σ h
  · have hf := b32_n.mp q
    have hp := few_pc hf
    have h2 : 2 ≤ lPn l := by
      unfold fewB at hf
      rw [Bool.and_eq_true, decide_eq_true_eq] at hf
      exact hf.1
    rw [if_pos hf, if_pos hf] at hQ
    refine nm_e ?_
    have f1 : fr [35] [] [33] [12] σ (zI σ 35 (0 : Int32)) := fr_I fr_r (by decide)
    have h1 : XR (zI σ 35 (0 : Int32)) tp fa l net x ba rg ls ((0, cm.2)) li oc := X_cm f1 h ⟨Nat.zero_le _, zI_1s, fun k hk => absurd hk (Nat.not_lt_zero _)⟩
    rw [Xn h1]
    refine x_start hN hp.1 (fun τ f2 o2 => ?_)
    exact x_com35 hN hf 120 N (List.range (lPn l)) (0, cm.2) τ (by omega) (by omega) (chk_all _ (by omega) h2) (X_or f2 h1) o2 (fun i j _ hj => absurd hj (Nat.not_lt_zero _)) (by show 0 + 120 ≤ 120; omega) hQ
theorem m_com24 {Q : Int32 → zSt → Prop} (hN : 1100 < N) (hf : fewB l = true) : ∀ (f g : Nat) (o : List Nat) (cm : Nat × (Nat → Int64) × (Nat → Int32)) (μ : zSt), f + 1 < g → chk (lPn l) f o = true → MR μ tp fa l net x ba rg ls cm li oc → mOr μ (lPn l) o → cm.1 + f ≤ 120 → (∀ τ, MR τ tp fa l net x ba rg ls (comF l x (lPn l) f o cm) li oc → Q (nI (comF l x (lPn l) f o cm).1) τ) → w_X12_coming_24 N Q g (1 : Int32) μ
  | 0, _, _, _, _, _, hc, _, _, _, _ => absurd (show false = true from hc) (by decide)
  | f + 1, 0, _, _, _, hg, _, _, _, _, _ => absurd hg (Nat.not_lt_zero _)
  | f + 1, 1, _, _, _, hg, _, _, _, _, _ => absurd hg (by omega)
  | f + 1, g + 2, o, cm, μ, hg, hc, h, hO, hcm, hQ => by
    show b_X12_coming_24 N (w_X12_coming_24 N Q (g + 1)) Q (1 : Int32) μ
    have hp := few_pc hf
    have h2 : 2 ≤ lPn l := by
      unfold fewB at hf
      rw [Bool.and_eq_true, decide_eq_true_eq] at hf
      exact hf.1
    obtain ⟨ho, hc2⟩ := chk_s hc
    unfold b_X12_coming_24
    refine br_f (show ¬ (1 : Int32) = 0 by decide) (m_many (Mp h) (m_netO hN hp.1 ho h hO (fun τ t1 t2 => m_note hN t1 (by omega) (fun τ2 f2 x2 => m_many (Mp x2) (m_advance hN h2 hp.1 ho (mOr_c f2 t2) (fun e => ?_) (fun o' e τ3 f3 o3 => ?_))))))
    · rw [comF_n e] at hQ
      show b_X12_coming_24 N (w_X12_coming_24 N Q g) Q (0 : Int32) τ2
      have hq := hQ τ2 x2
      have e35 : τ2.1 28 = nI (notC cm (lN (noN l x (lPn l) o (lPn l)).1)).1 := x2.2.2.2.2.2.2.2.2.2.1.2.1
      unfold b_X12_coming_24
      rw [e35]
      exact br_t rfl hq
    · rw [comF_s e] at hQ
      have hle := not_le1 cm (lN (noN l x (lPn l) o (lPn l)).1)
      exact m_com24 hN hf f (g + 1) o' (notC cm (lN (noN l x (lPn l) o (lPn l)).1)) τ3 (by omega) (hc2 o' e) (M_or f3 x2) o3 (by omega) hQ
theorem M_coming {Q : Int32 → zSt → Prop} (hN : 1100 < N) (h : MR μ tp fa l net x ba rg ls cm li oc) (hQ : ∀ τ, MR τ tp fa l net x ba rg ls (cmgC l x cm) li oc → Q (cmgA l x cm) τ) : w_X12_coming N μ Q := by
  unfold cmgC cmgA at hQ
  refine m_few h ⟨fun q => ?_, fun q => ?_⟩
  · rw [if_neg (by rw [b32_0.mp q]; decide), if_neg (by rw [b32_0.mp q]; decide)] at hQ; exact hQ μ h
  · have hf := b32_n.mp q
    have hp := few_pc hf
    have h2 : 2 ≤ lPn l := by
      unfold fewB at hf
      rw [Bool.and_eq_true, decide_eq_true_eq] at hf
      exact hf.1
    rw [if_pos hf, if_pos hf] at hQ
    refine nm_e ?_
    have f1 : fr [28] [] [16] [7] μ (zI μ 28 (0 : Int32)) := fr_I fr_r (by decide)
    have h1 : MR (zI μ 28 (0 : Int32)) tp fa l net x ba rg ls ((0, cm.2)) li oc := M_cm f1 h ⟨Nat.zero_le _, zI_1s, fun k hk => absurd hk (Nat.not_lt_zero _)⟩
    refine m_many (Mp h1) (m_start hN hp.1 (fun τ f2 o2 => ?_))
    exact m_com24 hN hf 120 N (List.range (lPn l)) (0, cm.2) τ (by omega) (chk_all _ (by omega) h2) (M_or f2 h1) o2 (by show 0 + 120 ≤ 120; omega) hQ
end co
