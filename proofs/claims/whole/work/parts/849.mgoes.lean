/-! the reference reads sums: points where it stands -/
section dd
variable (N : Nat) (Q : zSt → Prop) (x1 : Int32) (tp : Nat × (Nat → Nat))
def gK (f : Nat) (r : Int32) (τ : zSt) : Prop := (r = 0 → w_X12_sums_15 N Q f x1 (0 : Int32) τ) ∧ (¬ r = 0 → w_X12_sums_15 N Q f x1 (1 : Int32) τ)
def oK (f : Nat) (τ : zSt) : Prop := ((τ.1 4) = 0 → w_X12_goesOn N τ (gK N Q x1 f)) ∧ (¬ (τ.1 4) = 0 → w_X12_sums_15 N Q f x1 (0 : Int32) τ)
def PO (s : zP) (μ : zSt) : Prop := ∀ f g, tp.1 < f + s.1 → tp.1 + 1 < g + s.1 → w_X12_onePart_2 N (oK N Q x1 f) g (1 : Int32) μ
def PC (s : zP) (μ : zSt) : Prop := ∀ f g, tp.1 < f + s.1 → tp.1 < g + s.1 → w_X12_goesOn_0 N (gK N Q x1 f) g μ
def FF (μ : zSt) : Prop := Q (zI μ 13 x1)
end dd
def mBc (μ : zSt) (e : Nat × Nat) (j : Nat) : Prop := mBd μ e ∧ (1 ≤ e.1 ∧ e.1 ≤ 5) ∧ ∃ n, n ≤ 800 + j ∧ μ.1 9 = nI n
def mC {α : Type} (μ : zSt) (r : Except (Nat × Nat) α) (A : α → zSt → Prop) (F : zSt → Prop) : Prop := (∀ s ν, r = .ok s → mFr μ ν → A s ν) ∧ (∀ e ν, r = .error e → mFr μ ν → mBc ν e 1 → F ν)
def mKp (μ : zSt) (tp : Nat × (Nat → Nat)) (u : zP) (P St : List Nat) (b : Nat) : Prop := ∃ c, u.2.2.2 = c ++ P ∧ mK μ tp (u.1, u.2.1, u.2.2.1, c) (P.map gR ++ St) b
section mg
variable {N : Nat} {Q : zSt → Prop} {x1 : Int32} {tp : Nat × (Nat → Nat)} {μ ν υ : zSt} {s u : zP} {St L : List Nat} {b m : Nat} {GQ : Int32 → zSt → Prop}
theorem mC_t {α : Type} {r : Except (Nat × Nat) α} {A : α → zSt → Prop} {F : zSt → Prop} (f : mFr μ ν) (h : mC μ r A F) : mC ν r A F := ⟨fun s υ e g => h.1 s υ e (mFr_t f g), fun e υ he g => h.2 e υ he (mFr_t f g)⟩
theorem mC_b {α β : Type} {r : Except (Nat × Nat) α} {g : α → Except (Nat × Nat) β} {A : β → zSt → Prop} {B : α → zSt → Prop} {F : zSt → Prop} (h : mC μ (bdP r g) A F) (h2 : ∀ s ν, r = .ok s → mFr μ ν → mC ν (g s) A F → B s ν) : mC μ r B F := by
  refine ⟨fun s ν e f => h2 s ν e f (mC_t f ?_), fun e ν he f hb => h.2 e ν ?_ f hb⟩
  · rw [e] at h; exact h
  · rw [he]; rfl
theorem mBc_k {e : Nat × Nat} {j : Nat} (h : mK μ tp s St b) (f : fr [1, 3, 4, 5, 8] [] [] [] μ ν) (hb : mBd ν e) (he : 1 ≤ e.1 ∧ e.1 ≤ 5) : mBc ν e j := ⟨hb, he, s.2.2.2.length, by have := mK_bd h; omega, by rw [f.1 9 (by decide)]; exact h.2.2.2.2.2.1.1⟩
theorem mBc_w {e : Nat × Nat} {j k : Nat} (h : mBc μ e j) (hj : j ≤ k) : mBc μ e k := by
  obtain ⟨h1, h2, n, h3, h4⟩ := h
  exact ⟨h1, h2, n, by omega, h4⟩
theorem mBc_n {e : Nat × Nat} {j : Nat} (h : mBc μ e j) : ¬ μ.1 4 = 0 := by rw [h.1.1]; have := h.2.1; exact nI_ne0 (by omega) (by omega)
theorem sums_f {f j : Nat} {e : Nat × Nat} {x2 : Int32} (hN : 1100 < N) (hf : 1 ≤ f) (hb : mBc μ e j) (hF : FF Q x1 μ) : w_X12_sums_15 N Q f x1 x2 μ := by
  have h53 : ∀ n, 1 ≤ n → w_X12_sums_53 N Q n x1 μ := fun n hn => by
    cases n with
    | zero => exact absurd hn (by decide)
    | succ n =>
      show b_X12_sums_53 N (w_X12_sums_53 N Q n) Q x1 μ
      unfold b_X12_sums_53
      exact br_f (mBc_n hb) (nm_e hF)
  cases f with
  | zero => exact absurd hf (by decide)
  | succ f =>
    show b_X12_sums_15 N (w_X12_sums_15 N Q f) Q x1 x2 μ
    unfold b_X12_sums_15
    exact ⟨fun _ => h53 N (by omega), fun _ => br_f (mBc_n hb) (h53 N (by omega))⟩
theorem gK_f {f j : Nat} {e : Nat × Nat} {r : Int32} (hN : 1100 < N) (hf : 1 ≤ f) (hb : mBc μ e j) (hF : FF Q x1 μ) : gK N Q x1 f r μ := ⟨fun _ => sums_f hN hf hb hF, fun _ => sums_f hN hf hb hF⟩
theorem one_f {f g j : Nat} {e : Nat × Nat} {x : Int32} (hN : 1100 < N) (hf : 1 ≤ f) (hg : 1 ≤ g) (hb : mBc μ e j) (hF : FF Q x1 μ) : w_X12_onePart_2 N (oK N Q x1 f) g x μ := by
  have h146 : b_X12_onePart_146 N (oK N Q x1 f) μ := by
    unfold b_X12_onePart_146
    exact br_f (mBc_n hb) ⟨fun z => absurd z (mBc_n hb), fun _ => sums_f hN hf hb hF⟩
  cases g with
  | zero => exact absurd hg (by decide)
  | succ g =>
    show b_X12_onePart_2 N (w_X12_onePart_2 N (oK N Q x1 f) g) (oK N Q x1 f) x μ
    unfold b_X12_onePart_2
    exact ⟨fun _ => h146, fun _ => br_f (mBc_n hb) h146⟩
/-- after a part -/
theorem oK_c {f : Nat} (hN : 1100 < N) (hf : tp.1 < f + u.1) (h : ν.1 4 = 0) (h8 : tp.1 ≤ 800) (hc : PC N Q x1 tp u ν) : oK N Q x1 f ν := ⟨fun _ => hc f N hf (by omega), fun z => absurd h z⟩
/-- a new turn of sums -/
theorem sums_o {f : Nat} (hN : 1100 < N) (h8 : tp.1 ≤ 800) (hf : tp.1 < f + u.1 + 1) (hlt : u.1 ≤ tp.1) (hf2 : 1 ≤ f) (h : ν.1 4 = 0) (ho : PO N Q x1 tp u ν) (hf3 : tp.1 < (f - 1) + u.1) : w_X12_sums_15 N Q f x1 (1 : Int32) ν := by
  cases f with
  | zero => exact absurd hf2 (by decide)
  | succ f =>
    show b_X12_sums_15 N (w_X12_sums_15 N Q f) Q x1 (1 : Int32) ν
    unfold b_X12_sums_15
    exact br_f (by decide) (br_t h (ho f N hf3 (by omega)))
/-- at a closing or other sign -/
theorem sg41 : sgn 41 := ⟨by decide, by decide, by decide⟩
theorem sg40 : sgn 40 := ⟨by decide, by decide, by decide⟩
theorem sg42 : sgn 42 := ⟨by decide, by decide, by decide⟩
theorem sg43 : sgn 43 := ⟨by decide, by decide, by decide⟩
theorem sg44 : sgn 44 := ⟨by decide, by decide, by decide⟩
theorem sg45 : sgn 45 := ⟨by decide, by decide, by decide⟩
theorem sg47 : sgn 47 := ⟨by decide, by decide, by decide⟩
theorem iS_ne {c c' : Nat} (h : iS tp c s = true) (hn : c ≠ c') : iS tp c' s = false := by
  cases e : iS tp c' s with
  | false => rfl
  | true => exact absurd ((iS_k h).2.symm.trans (iS_k e).2) hn
theorem m_c0 {g : Nat} (hN : 1100 < N) (h : mK μ tp s (L ++ St) b) (hl : lvl St b m) (hL : ∀ v, v ∈ L → v < 20) (hg : 1 ≤ g) (hn : iS tp 41 s = true → ¬ (m = 20 ∨ m = 23 ∨ m = 24)) (hK : ∀ ν, mFr μ ν → mK ν tp s (L ++ St) b → b_X12_goesOn_118 N GQ ν) : w_X12_goesOn_0 N GQ g μ := by
  have hb := mTp_b h.1
  have hm : m < 100 := by rcases hl with ⟨h, _⟩ | ⟨_, h, _⟩ <;> omega
  cases g with
  | zero => exact absurd hg (by decide)
  | succ g =>
    show b_X12_goesOn_0 N (w_X12_goesOn_0 N GQ g) GQ μ
    unfold b_X12_goesOn_0
    refine br_t h.2.1.2.1 (m_look hN h.1 h.2.1 (fun ν f1 a1 p1 => ?_))
    have k1 := mK_lk f1 h p1
    have hq := hK ν (f13_m (f1_13 f1)) k1
    rw [show (41 : Int32) = nI 41 from rfl, chI_c hb (by decide)]
    refine ⟨fun z => ?_, fun _ => hq⟩
    have hi : iS tp 41 s = true := (sg_i sg41).mpr z
    have h3 := hn hi
    refine m_mark hN k1 hl hL (br_f (fun e => h3 (Or.inl ((whI_i (b := 20) hm (by decide)).mp e))) (m_mark hN k1 hl hL (br_f (fun e => h3 (Or.inr (Or.inl ((whI_i (b := 23) hm (by decide)).mp e)))) (m_mark hN k1 hl hL (br_f (fun e => h3 (Or.inr (Or.inr ((whI_i (b := 24) hm (by decide)).mp e)))) hq)))))
theorem m_c1 {g : Nat} (hN : 1100 < N) (h : mK μ tp s (L ++ St) b) (hl : lvl St b m) (hL : ∀ v, v ∈ L → v < 20) (hi : iS tp 41 s = true) (hm : m = 20 ∨ m = 23 ∨ m = 24) (hK : ∀ ν, mFr μ ν → mAt ν tp s.1 → mK ν tp s (L ++ St) b → b_X12_goesOn_43 N (w_X12_goesOn_0 N GQ g) GQ ν) : w_X12_goesOn_0 N GQ (g + 1) μ := by
  have hb := mTp_b h.1
  show b_X12_goesOn_0 N (w_X12_goesOn_0 N GQ g) GQ μ
  unfold b_X12_goesOn_0
  refine br_t h.2.1.2.1 (m_look hN h.1 h.2.1 (fun ν f1 a1 p1 => ?_))
  have k1 := mK_lk f1 h p1
  have hq := hK ν (f13_m (f1_13 f1)) a1 k1
  rw [show (41 : Int32) = nI 41 from rfl, chI_c hb (by decide)]
  refine br_t ((sg_i sg41).mp hi) (m_mark hN k1 hl hL ⟨fun _ => hq, fun z1 => m_mark hN k1 hl hL ⟨fun _ => hq, fun z2 => m_mark hN k1 hl hL (br_t ?_ hq)⟩⟩)
  rcases hm with e | e | e
  · exact absurd (by rw [e]; rfl) z1
  · exact absurd (by rw [e]; rfl) z2
  · rw [e]; rfl
/-- no sign of an order comes -/
def nop (tp : Nat × (Nat → Nat)) (s : zP) : Prop := iS tp 42 s = false ∧ iS tp 47 s = false ∧ iS tp 43 s = false ∧ iS tp 45 s = false
theorem m_118n (hN : 1100 < N) (h : mK μ tp s (L ++ St) b) (hl : lvl St b m) (hL : ∀ v, v ∈ L → v < 20) (hn : nop tp s) (h99 : m = 99 → ∀ ν, mFr μ ν → mK ν tp s (L ++ St) b → GQ 0 ν) (h21 : m = 21 ∨ m = 22 → ∀ ν, mFr μ ν → mK ν tp s (L ++ St) b → b_X12_goesOn_322 N GQ ν) (hbad : m = 20 ∨ m = 23 ∨ m = 24 → ∀ ν, mFr μ ν → mBc ν (1, sT tp s.1) 1 → GQ 0 ν) : b_X12_goesOn_118 N GQ μ := by
  have hm : m < 100 := by rcases hl with ⟨h, _⟩ | ⟨_, h, _⟩ <;> omega
  have hm2 : m = 99 ∨ (20 ≤ m ∧ m ≤ 24) := by rcases hl with ⟨h, _⟩ | ⟨h1, h2, _⟩ <;> omega
  have no : ∀ {c : Nat}, iS tp c s = false → ¬ isB tp s.1 s.2.1 c = true := fun e z => by
    have z : iS tp _ s = true := z
    rw [e] at z; exact absurd z (by decide)
  unfold b_X12_goesOn_118
  refine m_takesSign (c := 42) hN sg42 h.1 h.2.1 (fun _ ν1 f1 a1 p1 => br_t rfl ?_) (fun e => absurd e (no hn.1))
  have k1 := mK_lk f1 h p1
  refine m_takesSign (c := 47) hN sg47 k1.1 k1.2.1 (fun _ ν2 f2 a2 p2 => br_t rfl ?_) (fun e => absurd e (no hn.2.1))
  have k2 := mK_lk f2 k1 p2
  refine m_takesSign (c := 43) hN sg43 k2.1 k2.2.1 (fun _ ν3 f3 a3 p3 => br_t rfl ?_) (fun e => absurd e (no hn.2.2.1))
  have k3 := mK_lk f3 k2 p3
  refine m_takesSign (c := 45) hN sg45 k3.1 k3.2.1 (fun _ ν4 f4 a4 p4 => br_t rfl ?_) (fun e => absurd e (no hn.2.2.2))
  have k4 := mK_lk f4 k3 p4
  have fA : fr [1] [] [] [] μ ν4 := fr_t f1 (fr_t f2 (fr_t f3 f4))
  have fM := f13_m (f1_13 fA)
  have w21 : whI m = (21 : Int32) ↔ m = 21 := whI_i (b := 21) hm (by decide)
  have w22 : whI m = (22 : Int32) ↔ m = 22 := whI_i (b := 22) hm (by decide)
  have w99 : whI m = (-1 : Int32) ↔ m = 99 := whI_i (b := 99) hm (by decide)
  refine m_mark hN k4 hl hL ⟨fun z => h21 (Or.inl (w21.mp z)) ν4 fM k4, fun z1 => m_mark hN k4 hl hL ⟨fun z => h21 (Or.inr (w22.mp z)) ν4 fM k4, fun z2 => m_mark hN k4 hl hL ⟨fun z => h99 (w99.mp z) ν4 fM k4, fun z3 => br_t k4.2.1.2.1 ?_⟩⟩⟩
  have z1 : ¬ m = 21 := fun q => z1 (w21.mpr q)
  have z2 : ¬ m = 22 := fun q => z2 (w22.mpr q)
  have z3 : ¬ m = 99 := fun q => z3 (w99.mpr q)
  rw [show ν4.1 1 = nI (sT tp s.1) from a4]
  refine m_fl (k := 1) k4.2.1.2.1 (fun υ f5 b5 => hbad (by omega) υ (mFr_t fM (mFr_f f5 (subl rfl))) (mBc_k k4 (fr_w f5 (subl rfl) (subl rfl) (subl rfl) (subl rfl)) b5 (show 1 ≤ 1 ∧ 1 ≤ 5 by decide)))
/-- an order's sign comes -/
theorem emL_n {P : List Nat} : emL P (nxP tp s) = nxP tp (emL P s) := rfl
theorem tape_b {c : Nat} (hT : mTape ν tp) (h : iS tp c s = true) (a1 : ν.1 1 = nI (eT tp (sT tp s.1))) : vp_in (ν.1 1 - 1) 800 ∧ ν.2.2.1 0 (ν.1 1 - 1).toNatClampNeg = nI c := by
  have h8 := hT.1
  obtain ⟨g1, g2, g3⟩ := sg_e (p := s.1) (g := s.2.1) h
  have hc := (sg_i (tp := tp) (p := s.1) (g := s.2.1) (c := c))
  rw [a1, g2, nI_pred, nI_clamp (n := sT tp s.1) (by omega)]
  refine ⟨vp_in_nI (by omega) (by decide), ?_⟩
  rw [(hT.2.2 _ g1).2, ← ch_t g1, ← vT_s (g := s.2.1) (iS_k h).1, (iS_k h).2]
theorem m_118m {P : List Nat} {v : Nat} (hN : 1100 < N) (h : mK μ tp s (P.map gR ++ St) b) (hP : ∀ v, v ∈ P → v = 2 ∨ v = 3) (hX : nhd [3, 4] St) (hv : (v = 2 ∧ iS tp 42 s = true) ∨ (v = 3 ∧ iS tp 47 s = true)) (hQ : ∀ ν, mFr μ ν → mK ν tp (nxP tp (emL P s)) (gR v :: St) b → GQ 1 ν) : b_X12_goesOn_118 N GQ μ := by
  have h8 := h.1.1
  have hbd := mK_bd h
  have hll : (P.map gR ++ St).length = P.length + St.length := by rw [List.length_append, List.length_map]
  have h7 := h.2.2.2.2.2.2
  have fin : ∀ ν, mFr μ ν → mK ν tp (nxP tp s) (P.map gR ++ St) b → ν.1 1 = nI (eT tp (sT tp s.1)) → ¬ kS tp s = 0 → ∀ c, iS tp c s = true → (v = 2 ∧ c = 42) ∨ (v = 3 ∧ c = 47) → b_X12_goesOn_136 N GQ ν := fun ν f k a hk c hc hvc => by
    have n1 := nx_gt h8 hk
    obtain ⟨t1, t2⟩ := tape_b k.1 hc a
    have hlen : (nxP tp s).2.2.2.length + P.length + St.length < (nxP tp s).1 := by show s.2.2.2.length + P.length + St.length < _; omega
    unfold b_X12_goesOn_136
    rw [t2]
    refine ⟨t1, fun z => ?_, fun z => ?_⟩
    · have z : nI c = nI 42 := z
      rw [nI_eq (by omega) (by decide)] at z
      have e : v = 2 := by omega
      rw [e] at hQ
      exact m_158 (w := 3) P N ν (nxP tp s) (by omega) hP hX k hlen (fun υ f2 k2 => hQ υ (mFr_t f f2) k2)
    · have z : ¬ nI c = nI 42 := z
      rw [nI_eq (by omega) (by decide)] at z
      have e : v = 3 := by omega
      rw [e] at hQ
      exact m_158 (w := 4) P N ν (nxP tp s) (by omega) hP hX k hlen (fun υ f2 k2 => hQ υ (mFr_t f f2) k2)
  unfold b_X12_goesOn_118
  refine m_takesSign (c := 42) hN sg42 h.1 h.2.1 (fun e ν1 f1 a1 p1 => br_t rfl ?_) (fun e ν1 f1 a1 p1 => br_f (by decide) ?_)
  · have k1 := mK_lk f1 h p1
    have e : iS tp 42 s = false := e
    have hv2 : v = 3 ∧ iS tp 47 s = true := hv.resolve_left (fun z => by rw [e] at z; exact absurd z.2 (by decide))
    refine m_takesSign (c := 47) hN sg47 k1.1 k1.2.1 (fun e2 => absurd (show iS tp 47 s = true from hv2.2) (by rw [show iS tp 47 s = false from e2]; decide)) (fun e2 ν2 f2 a2 p2 => br_f (by decide) ?_)
    exact fin ν2 (mFr_t (f13_m (f1_13 f1)) (f13_m (f1_13 f2))) (mK_nx (f1_13 f2) k1 p2) a2 (iS_n hv2.2) 47 hv2.2 (Or.inr ⟨hv2.1, rfl⟩)
  · have e : iS tp 42 s = true := e
    have hv2 : v = 2 := by
      rcases hv with z | z
      · exact z.1
      · rw [iS_ne e (by decide)] at z; exact absurd z.2 (by decide)
    exact fin ν1 (f13_m (f1_13 f1)) (mK_nx (f1_13 f1) h p1) a1 (iS_n e) 42 e (Or.inl ⟨hv2, rfl⟩)
theorem m_118p {P : List Nat} {v : Nat} (hN : 1100 < N) (h : mK μ tp s (P.map gR ++ St) b) (hP : ∀ v, v ∈ P → v < 4) (hX : nhd [1, 2, 3, 4] St) (h42 : iS tp 42 s = false) (h47 : iS tp 47 s = false) (hv : (v = 0 ∧ iS tp 43 s = true) ∨ (v = 1 ∧ iS tp 45 s = true)) (hQ : ∀ ν, mFr μ ν → mK ν tp (nxP tp (emL P s)) (gR v :: St) b → GQ 1 ν) : b_X12_goesOn_118 N GQ μ := by
  have h8 := h.1.1
  have hbd := mK_bd h
  have hll : (P.map gR ++ St).length = P.length + St.length := by rw [List.length_append, List.length_map]
  have h7 := h.2.2.2.2.2.2
  have no : ∀ {c : Nat}, iS tp c s = false → ¬ isB tp s.1 s.2.1 c = true := fun e z => by
    have z : iS tp _ s = true := z
    rw [e] at z; exact absurd z (by decide)
  have fin : ∀ ν, mFr μ ν → mK ν tp (nxP tp s) (P.map gR ++ St) b → ν.1 1 = nI (eT tp (sT tp s.1)) → ¬ kS tp s = 0 → ∀ c, iS tp c s = true → (v = 0 ∧ c = 43) ∨ (v = 1 ∧ c = 45) → b_X12_goesOn_221 N GQ ν := fun ν f k a hk c hc hvc => by
    have n1 := nx_gt h8 hk
    obtain ⟨t1, t2⟩ := tape_b k.1 hc a
    have hlen : (nxP tp s).2.2.2.length + P.length + St.length < (nxP tp s).1 := by show s.2.2.2.length + P.length + St.length < _; omega
    unfold b_X12_goesOn_221
    rw [t2]
    refine ⟨t1, fun z => ?_, fun z => ?_⟩
    · have z : nI c = nI 43 := z
      rw [nI_eq (by omega) (by decide)] at z
      have e : v = 0 := by omega
      rw [e] at hQ
      exact m_243 (w := 1) P N ν (nxP tp s) (by omega) hP hX k hlen (fun υ f2 k2 => hQ υ (mFr_t f f2) k2)
    · have z : ¬ nI c = nI 43 := z
      rw [nI_eq (by omega) (by decide)] at z
      have e : v = 1 := by omega
      rw [e] at hQ
      exact m_243 (w := 2) P N ν (nxP tp s) (by omega) hP hX k hlen (fun υ f2 k2 => hQ υ (mFr_t f f2) k2)
  unfold b_X12_goesOn_118
  refine m_takesSign (c := 42) hN sg42 h.1 h.2.1 (fun _ ν1 f1 a1 p1 => br_t rfl ?_) (fun e => absurd e (no h42))
  have k1 := mK_lk f1 h p1
  refine m_takesSign (c := 47) hN sg47 k1.1 k1.2.1 (fun _ ν2 f2 a2 p2 => br_t rfl ?_) (fun e => absurd e (no h47))
  have k2 := mK_lk f2 k1 p2
  have fM : mFr μ ν2 := f13_m (f1_13 (fr_t f1 f2))
  refine m_takesSign (c := 43) hN sg43 k2.1 k2.2.1 (fun e ν3 f3 a3 p3 => br_t rfl ?_) (fun e ν3 f3 a3 p3 => br_f (by decide) ?_)
  · have k3 := mK_lk f3 k2 p3
    have e : iS tp 43 s = false := e
    have hv2 : v = 1 ∧ iS tp 45 s = true := hv.resolve_left (fun z => by rw [e] at z; exact absurd z.2 (by decide))
    refine m_takesSign (c := 45) hN sg45 k3.1 k3.2.1 (fun e2 => absurd (show iS tp 45 s = true from hv2.2) (by rw [show iS tp 45 s = false from e2]; decide)) (fun e2 ν4 f4 a4 p4 => br_f (by decide) ?_)
    exact fin ν4 (mFr_t fM (mFr_t (f13_m (f1_13 f3)) (f13_m (f1_13 f4)))) (mK_nx (f1_13 f4) k3 p4) a4 (iS_n hv2.2) 45 hv2.2 (Or.inr ⟨hv2.1, rfl⟩)
  · have e : iS tp 43 s = true := e
    have hv2 : v = 0 := by
      rcases hv with z | z
      · exact z.1
      · rw [iS_ne e (by decide)] at z; exact absurd z.2 (by decide)
    exact fin ν3 (mFr_t fM (f13_m (f1_13 f3))) (mK_nx (f1_13 f3) k2 p3) a3 (iS_n e) 43 e (Or.inl ⟨hv2, rfl⟩)
end mg
