/-! the reference reads facts and tests -/
def okAn (P : List Nat) : Prop := P = [] ∨ P = [9]
def okOr (P : List Nat) : Prop := P = [] ∨ P = [10]
def lq (St : List Nat) : Prop := St = [] ∨ ∃ S', St = 25 :: S'
theorem okAn_9 {P : List Nat} (h : okAn P) : ∀ v, v ∈ P → v = 9 := fun v hv => by
  rcases h with e | e
  · rw [e] at hv; exact absurd hv (List.not_mem_nil)
  · rw [e] at hv; exact List.mem_singleton.mp hv
theorem okBO {P A : List Nat} (h : okAn P) (h2 : okOr A) : ∀ v, v ∈ P ++ A → v = 9 ∨ v = 10 := fun v hv => by
  rcases List.mem_append.mp hv with z | z
  · exact Or.inl (okAn_9 h v z)
  · rcases h2 with e | e
    · rw [e] at z; exact absurd z (List.not_mem_nil)
    · rw [e] at z; exact Or.inr (List.mem_singleton.mp z)
theorem nhd_c {X : List Nat} {m : Nat} {St : List Nat} (h1 : m ∉ X) (h : m < 100) : nhd X (m :: St) := fun v S' e => by
  injection e with e1 e2
  subst e1
  exact ⟨h1, h⟩
theorem nhd_l {X : List Nat} {St : List Nat} (h : lq St) (hx : 25 ∉ X) : nhd X St := fun v S' e => by
  rcases h with z | ⟨S2, z⟩
  · rw [z] at e; exact (nomatch e)
  · rw [z] at e
    injection e with e1 e2
    subst e1
    exact ⟨hx, by decide⟩
theorem nhd_o {X A St : List Nat} (hA : okOr A) (h : lq St) (hx : 25 ∉ X) (hx2 : 15 ∉ X) : nhd X (A.map gR ++ St) := by
  rcases hA with e | e
  · rw [e]; exact nhd_l h hx
  · rw [e]; exact nhd_c (m := 15) hx2 (by decide)
def bS (St : List Nat) : Prop := ∀ v, v ∈ St → v < 100
theorem bS_c {v : Nat} {St : List Nat} (hv : v < 100) (h : bS St) : bS (v :: St) := fun x hx => by
  rcases List.mem_cons.mp hx with z | z
  · rw [z]; exact hv
  · exact h x z
theorem bS_m {L St : List Nat} (hL : ∀ v, v ∈ L → v = 9 ∨ v = 10) (h : bS St) : bS (L.map gR ++ St) := fun x hx => by
  rcases List.mem_append.mp hx with z | z
  · obtain ⟨w, h1, h2⟩ := List.mem_map.mp z
    rcases hL w h1 with e | e
    · rw [e] at h2; rw [← h2]; decide
    · rw [e] at h2; rw [← h2]; decide
  · exact h x z
theorem sq_m {L St : List Nat} (hL : ∀ v, v ∈ L → v = 9 ∨ v = 10) : 25 ∈ L.map gR ++ St ↔ 25 ∈ St := by
  refine ⟨fun h => ?_, fun h => List.mem_append.mpr (Or.inr h)⟩
  rcases List.mem_append.mp h with z | z
  · obtain ⟨w, h1, h2⟩ := List.mem_map.mp z
    rcases hL w h1 with e | e
    · rw [e] at h2; exact absurd h2 (by decide)
    · rw [e] at h2; exact absurd h2 (by decide)
  · exact z
section mf
variable {N : Nat} {Q : zSt → Prop} {tp : Nat × (Nat → Nat)} {μ ν υ : zSt} {s u : zP} {St X A T : List Nat} {b d n : Nat} {na : Nat → Nat} {S : zP → zE} {GQ : Int32 → zSt → Prop}
theorem sg91 : sgn 91 := ⟨by decide, by decide, by decide⟩
theorem sg93 : sgn 93 := ⟨by decide, by decide, by decide⟩
theorem sg60 : sgn 60 := ⟨by decide, by decide, by decide⟩
theorem sg61 : sgn 61 := ⟨by decide, by decide, by decide⟩
theorem sg62 : sgn 62 := ⟨by decide, by decide, by decide⟩
theorem iS_w {c w : Nat} (hw : w < 19) (h : wS tp s = w) : iS tp c s = false := by
  cases e : iS tp c s with
  | false => rfl
  | true => have h1 := (iS_k e).1; have h2 := wS_k hw h; omega
theorem mPe_m (f : mFr μ ν) (h : mPe μ n na) : mPe ν n na := mPe_f f.1 (by decide) (by decide) h
theorem m_t0 {g : Nat} (hN : 1100 < N) (h : mK μ tp s T b) (hB : bS T) (hg : 1 ≤ g) (hn : iS tp 93 s = true → ¬ 25 ∈ T) (hK : ∀ ν, mFr μ ν → mK ν tp s T b → b_X12_goesOnTest_76 N GQ ν) : w_X12_goesOnTest_0 N GQ g μ := by
  have hb := mTp_b h.1
  cases g with
  | zero => exact absurd hg (by decide)
  | succ g =>
    show b_X12_goesOnTest_0 N (w_X12_goesOnTest_0 N GQ g) GQ μ
    unfold b_X12_goesOnTest_0
    refine br_t h.2.1.2.1 (m_look hN h.1 h.2.1 (fun ν f1 a1 p1 => ?_))
    have k1 := mK_lk f1 h p1
    have hq := hK ν (f13_m (f1_13 f1)) k1
    rw [show (93 : Int32) = nI 93 from rfl, chI_c hb (by decide)]
    refine ⟨fun z => m_has hN k1 hB ?_, fun _ => hq⟩
    rw [decide_eq_false (hn ((sg_i sg93).mpr z))]
    exact br_t rfl hq
theorem m_76n (hN : 1100 < N) (h : mK μ tp s T b) (hB : bS T) (h8 : ¬ wS tp s = 8) (h7 : ¬ wS tp s = 7) (h0 : ¬ 25 ∈ T → ∀ ν, mFr μ ν → mK ν tp s T b → GQ 0 ν) (hbad : 25 ∈ T → ∀ ν, mFr μ ν → mBc ν (1, sT tp s.1) 2 → GQ 0 ν) : b_X12_goesOnTest_76 N GQ μ := by
  unfold b_X12_goesOnTest_76
  refine m_takes (w := 8) hN (by decide) h.1 h.2.1 (fun _ ν1 f1 a1 p1 => br_t rfl ?_) (fun e => absurd e h8)
  have k1 := mK_lk f1 h p1
  refine m_takes (w := 7) hN (by decide) k1.1 k1.2.1 (fun _ ν2 f2 a2 p2 => br_t rfl ?_) (fun e => absurd e h7)
  have k2 := mK_lk f2 k1 p2
  have F2 : mFr μ ν2 := f13_m (f1_13 (fr_t f1 f2))
  refine br_t k2.2.1.2.1 (m_has hN k2 hB ⟨fun z => h0 (of_decide_eq_false (b32_0.mp z)) ν2 F2 k2, fun z => ?_⟩)
  rw [show ν2.1 1 = nI (sT tp s.1) from a2]
  exact m_fl (k := 1) k2.2.1.2.1 (fun υ f3 b3 => hbad (of_decide_eq_true (b32_n.mp z)) υ (mFr_t F2 (mFr_f f3 (subl rfl))) (mBc_k k2 (fr_w f3 (subl rfl) (subl rfl) (subl rfl) (subl rfl)) b3 (show 1 ≤ 1 ∧ 1 ≤ 5 by decide)))
theorem m_76a {P : List Nat} (hN : 1100 < N) (h : mK μ tp s (P.map gR ++ St) b) (hP : ∀ v, v ∈ P → v = 9) (hX : nhd [14] St) (h8 : wS tp s = 8) (hQ : ∀ ν, mFr μ ν → mK ν tp (nxP tp (emL P s)) (14 :: St) b → GQ 1 ν) : b_X12_goesOnTest_76 N GQ μ := by
  have hbd := mK_bd h
  have hll : (P.map gR ++ St).length = P.length + St.length := by rw [List.length_append, List.length_map]
  have h7 := h.2.2.2.2.2.2
  have n1 := nx_gt h.1.1 (wS_lt (by decide) h8).2
  unfold b_X12_goesOnTest_76
  refine m_takes (w := 8) hN (by decide) h.1 h.2.1 (fun e => absurd h8 e) (fun e ν1 f1 p1 => br_f (by decide) ?_)
  have k1 := mK_nx f1 h p1
  exact m_87 P N ν1 (nxP tp s) (by omega) hP hX k1 (by show s.2.2.2.length + P.length + St.length < _; omega) (fun υ f2 k2 => hQ υ (mFr_t (f13_m f1) f2) k2)
theorem m_76o {P : List Nat} (hN : 1100 < N) (h : mK μ tp s (P.map gR ++ St) b) (hP : ∀ v, v ∈ P → v = 9 ∨ v = 10) (hX : nhd [14, 15] St) (h7w : wS tp s = 7) (hQ : ∀ ν, mFr μ ν → mK ν tp (nxP tp (emL P s)) (15 :: St) b → GQ 1 ν) : b_X12_goesOnTest_76 N GQ μ := by
  have hbd := mK_bd h
  have hll : (P.map gR ++ St).length = P.length + St.length := by rw [List.length_append, List.length_map]
  have h7 := h.2.2.2.2.2.2
  have n1 := nx_gt h.1.1 (wS_lt (by decide) h7w).2
  unfold b_X12_goesOnTest_76
  refine m_takes (w := 8) hN (by decide) h.1 h.2.1 (fun _ ν1 f1 a1 p1 => br_t rfl ?_) (fun e => absurd (show wS tp s = 8 from e) (by omega))
  have k1 := mK_lk f1 h p1
  refine m_takes (w := 7) hN (by decide) k1.1 k1.2.1 (fun e => absurd h7w e) (fun e ν2 f2 p2 => br_f (by decide) ?_)
  have k2 := mK_nx f2 k1 p2
  exact m_137 P N ν2 (nxP tp s) (by omega) hP hX k2 (by show s.2.2.2.length + P.length + St.length < _; omega) (fun υ f3 k3 => hQ υ (mFr_t (f13_m (f1_13 f1)) (mFr_t (f13_m f2) f3)) k3)
def mFct (N : Nat) (Q : zSt → Prop) (tp : Nat × (Nat → Nat)) (n : Nat) (na : Nat → Nat) (S : zP → zE) (d : Nat) : Prop := ∀ μ s X b, mK μ tp s X b → mPe μ n na → bS X → nhd [1, 2, 3, 4] X → 7 ≤ d + s.2.2.1 → mD μ (S s) (fun u ν => mK ν tp u X b → TD N Q tp u ν) Q → TO N Q tp s μ
theorem m_boL (hN : 1100 < N) (hS : mFct N Q tp n na S d) (hG : gS tp S dF false d) (hA : okOr A) (hl : lq St) (hB : bS St) : ∀ (f' : Nat) (s : zP) (ν : zSt) (P : List Nat), tp.1 < f' + s.1 → 1 ≤ f' → okAn P → mKp ν tp s P (A.map gR ++ St) b → mPe ν n na → 7 ≤ d + s.2.2.1 → mD ν (boL tp S f' s) (fun u υ => ∀ P', okAn P' → mKp υ tp u P' (A.map gR ++ St) b → ¬ wS tp u = 8 → TC N Q tp u υ) Q → TC N Q tp s ν
  | 0, _, _, _, _, h, _, _, _, _, _ => absurd h (by decide)
  | f' + 1, s, ν, P, hf', _, hP, kp, hp, hd, hC => by
    rw [boL] at hC
    by_cases c1 : wS tp s = 8
    · rw [if_pos c1] at hC
      intro f g hf hg
      obtain ⟨c, hc, hk⟩ := kp
      have h8 := hk.1.1
      have ho : s.2.2.1 ≤ 6 := hk.2.2.1.1
      obtain ⟨hlt, hk0⟩ := wS_lt (by decide) c1
      have n1 := nx_gt h8 hk0
      have hBX : bS (A.map gR ++ St) := bS_m (fun v hv => okBO (Or.inl rfl) hA v hv) hB
      refine m_t0 hN hk (bS_m (fun v hv => Or.inl (okAn_9 hP v hv)) hBX) (by omega) (fun z => absurd (show iS tp 93 s = true from z) (by rw [iS_w (by decide) c1]; decide)) (fun ν1 f1 k1 => ?_)
      refine m_76a hN k1 (okAn_9 hP) (nhd_o hA hl (by decide) (by decide)) c1 (fun ν2 f2 k2 => ⟨fun z => absurd z (by decide), fun _ => ?_⟩)
      rw [mKp_e hc] at k2
      have to : TO N Q tp (nxP tp s) ν2 := by
        refine hS ν2 _ _ b k2 (mPe_m (mFr_t f1 f2) hp) (bS_c (by decide) hBX) (nhd_c (by decide) (by decide)) hd (mD_b (mD_t (mFr_t f1 f2) hC) (fun u ν3 e3 f3 q3 k3 => ?_))
        have g3 := gE_o (hG (nxP tp s) hd ho) e3
        have o3 : u.2.2.1 = s.2.2.1 := g3.2.1
        have p3 := g3.1
        refine tD_c (nhd_c (by decide) (by decide)) k3 ?_
        have := m_boL hN hS hG hA hl hB f' (emP 9 u) ν3 [9] (by show tp.1 < f' + u.1; omega) (by omega) (Or.inr rfl) ⟨u.2.2.2, rfl, k3⟩ (mPe_m (mFr_t f1 (mFr_t f2 f3)) hp) (by show 7 ≤ d + u.2.2.1; omega) q3
        exact this
      exact to f (by omega)
    · rw [if_neg c1] at hC
      exact hC.1 s ν rfl mFr_r P hP kp c1
theorem m_boP (hN : 1100 < N) (hS : mFct N Q tp n na S d) (hG : gS tp S dF false d) (hA : okOr A) (hl : lq St) (hB : bS St) (h : mK μ tp s (A.map gR ++ St) b) (hp : mPe μ n na) (hd : 7 ≤ d + s.2.2.1) (hC : mD μ (boP tp S s) (fun u υ => ∀ P', okAn P' → mKp υ tp u P' (A.map gR ++ St) b → ¬ wS tp u = 8 → TC N Q tp u υ) Q) : TO N Q tp s μ := by
  have h8 := h.1.1
  have ho : s.2.2.1 ≤ 6 := h.2.2.1.1
  unfold boP at hC
  have hBX : bS (A.map gR ++ St) := bS_m (fun v hv => okBO (Or.inl rfl) hA v hv) hB
  refine hS μ s _ b h hp hBX (nhd_o hA hl (by decide) (by decide)) hd (mD_b hC (fun u ν e f q k => ?_))
  have g3 := gE_o (hG s hd ho) e
  have o3 : u.2.2.1 = s.2.2.1 := g3.2.1
  refine tD_c (nhd_o hA hl (by decide) (by decide)) k ?_
  exact m_boL hN hS hG hA hl hB 801 u ν [] (by omega) (by decide) (Or.inl rfl) ⟨u.2.2.2, by rw [List.append_nil], k⟩ (mPe_m f hp) (by omega) q
theorem m_teL (hN : 1100 < N) (hS : mFct N Q tp n na S d) (hG : gS tp S dF false d) (hl : lq St) (hB : bS St) : ∀ (f' : Nat) (s : zP) (ν : zSt) (P A : List Nat), tp.1 < f' + s.1 → 1 ≤ f' → okAn P → okOr A → mKp ν tp s (P ++ A) St b → ¬ wS tp s = 8 → mPe ν n na → 7 ≤ d + s.2.2.1 → mD ν (teL tp S f' s) (fun u υ => ∀ L, (∀ v, v ∈ L → v = 9 ∨ v = 10) → mKp υ tp u L St b → ¬ wS tp u = 8 → ¬ wS tp u = 7 → TC N Q tp u υ) Q → TC N Q tp s ν
  | 0, _, _, _, _, _, h, _, _, _, _, _, _, _ => absurd h (by decide)
  | f' + 1, s, ν, P, A, hf', _, hP, hA, kp, hn8, hp, hd, hC => by
    rw [teL] at hC
    by_cases c1 : wS tp s = 7
    · rw [if_pos c1] at hC
      intro f g hf hg
      obtain ⟨c, hc, hk⟩ := kp
      have h8 := hk.1.1
      have ho : s.2.2.1 ≤ 6 := hk.2.2.1.1
      obtain ⟨hlt, hk0⟩ := wS_lt (by decide) c1
      have n1 := nx_gt h8 hk0
      refine m_t0 hN hk (bS_m (okBO hP hA) hB) (by omega) (fun z => absurd (show iS tp 93 s = true from z) (by rw [iS_w (by decide) c1]; decide)) (fun ν1 f1 k1 => ?_)
      refine m_76o hN k1 (okBO hP hA) (nhd_l hl (by decide)) c1 (fun ν2 f2 k2 => ⟨fun z => absurd z (by decide), fun _ => ?_⟩)
      rw [mKp_e hc] at k2
      have to : TO N Q tp (nxP tp s) ν2 := by
        refine m_boP (A := [10]) hN hS hG (Or.inr rfl) hl hB k2 (mPe_m (mFr_t f1 f2) hp) hd (mD_b (mD_t (mFr_t f1 f2) hC) (fun u ν3 e3 f3 q3 P' hP' kp' g8 => ?_))
        have g3 := gE_o (boP_g (s := nxP tp s) h8 hG hd ho) e3
        have o3 : u.2.2.1 = s.2.2.1 := g3.2.1
        have p3 := g3.1
        obtain ⟨c', hc', hk'⟩ := kp'
        rw [map_a] at hk'
        have := m_teL hN hS hG hl hB f' (emP 10 u) ν3 P' [10] (by show tp.1 < f' + u.1; omega) (by omega) hP' (Or.inr rfl) ⟨c', by show u.2.2.2 ++ [10] = _; rw [hc', List.append_assoc], hk'⟩ g8 (mPe_m (mFr_t f1 (mFr_t f2 f3)) hp) (by show 7 ≤ d + u.2.2.1; omega) q3
        exact this
      exact to f (by omega)
    · rw [if_neg c1] at hC
      exact hC.1 s ν rfl mFr_r (P ++ A) (okBO hP hA) kp hn8 c1
theorem m_teP (hN : 1100 < N) (hS : mFct N Q tp n na S d) (hG : gS tp S dF false d) (hl : lq St) (hB : bS St) (h : mK μ tp s St b) (hp : mPe μ n na) (hd : 7 ≤ d + s.2.2.1) (hC : mD μ (teP tp S s) (fun u υ => ∀ L, (∀ v, v ∈ L → v = 9 ∨ v = 10) → mKp υ tp u L St b → ¬ wS tp u = 8 → ¬ wS tp u = 7 → TC N Q tp u υ) Q) : TO N Q tp s μ := by
  have h8 := h.1.1
  have ho : s.2.2.1 ≤ 6 := h.2.2.1.1
  unfold teP at hC
  refine m_boP (A := []) hN hS hG (Or.inl rfl) hl hB h hp hd (mD_b hC (fun u ν e f q P' hP' kp' g8 => ?_))
  have g3 := gE_o (boP_g h8 hG hd ho) e
  have o3 : u.2.2.1 = s.2.2.1 := g3.2.1
  exact m_teL hN hS hG hl hB 801 u ν P' [] (by omega) (by decide) hP' (Or.inl rfl) (by rw [List.append_nil]; exact kp') g8 (mPe_m f hp) (by omega) q
/-- a comparison -/
theorem m_cmp {K : zSt → Prop} (hN : 1100 < N) (h : mK μ tp s X b) (hX : nhd [1, 2, 3, 4] X) (hC : mD μ (cmP tp s) (fun u ν => mK ν tp u X b → K ν) K) : w_X12_sums N μ (fun τ6 => ((τ6.1 4) = 0 → w_X12_look N τ6 (fun r7 τ8 => (r7 = (60 : Int32) → b_X12_fact_87 N K r7 τ8) ∧ (¬ r7 = (60 : Int32) → (r7 = (62 : Int32) → b_X12_fact_87 N K r7 τ8) ∧ (¬ r7 = (62 : Int32) → (r7 = (61 : Int32) → b_X12_fact_87 N K r7 τ8) ∧ (¬ r7 = (61 : Int32) → w_X12_fail N (1 : Int32) (τ8.1 1) τ8 (fun τ10 => K τ10)))))) ∧ (¬ (τ6.1 4) = 0 → K τ6)) := by
  have h8 := h.1.1
  have hb8 := mTp_b h.1
  have ho : s.2.2.1 ≤ 6 := h.2.2.1.1
  unfold cmP at hC
  refine m_sums hN h hX ⟨fun s1 ν1 e1 f1 k1 => br_t k1.2.1.2.1 ?_, fun e ν1 he f1 b1 => br_f (mBc_n b1) (hC.2 e ν1 (by rw [he]; rfl) f1 (mBc_w b1 (by decide)))⟩
  rw [e1] at hC
  have hC : mD μ (if iS tp 60 s1 = true then cmP2 tp 6 s1 else if iS tp 62 s1 = true then cmP2 tp 7 s1 else if iS tp 61 s1 = true then cmP2 tp 8 s1 else flP tp s1 1) (fun u ν => mK ν tp u X b → K ν) K := hC
  have g1 := gE_o (suP_g h8 9 s (by omega) ho) e1
  have o1 := gV_o g1
  refine m_look hN k1.1 k1.2.1 (fun ν2 f2 a2 p2 => ?_)
  have k2 := mK_lk f2 k1 p2
  have F2 := mFr_t f1 (f13_m (f1_13 f2))
  have a2' : ν2.1 1 = nI (sT tp s1.1) := a2
  have two : ∀ (c v : Nat) (x : Int32), iS tp c s1 = true → x = nI c → (c = 60 ∧ v = 6 ∨ c = 62 ∧ v = 7 ∨ c = 61 ∧ v = 8) → mD μ (cmP2 tp v s1) (fun u ν => mK ν tp u X b → K ν) K → b_X12_fact_87 N K x ν2 := fun c v x hi hx hcv hq => by
    have hk := iS_n hi
    have n1 := nx_gt h8 hk
    unfold cmP2 at hq
    unfold b_X12_fact_87 b_X12_fact_126
    refine nm_e ?_
    have p3 := mPos_s h8 hi a2' p2 rfl
    have k3 : mK (zI ν2 1 (ν2.1 1 + 1)) tp (nxP tp s1) X b := mK_nx (fr_I fr_r (by decide)) k2 p3
    have F3 : mFr μ (zI ν2 1 (ν2.1 1 + 1)) := mFr_t F2 (mFr_f (I := [1]) (fr_I fr_r (by decide)) (subl rfl))
    have h7 := k1.2.2.2.2.2.2
    have n60 : x = (60 : Int32) ↔ c = 60 := by rw [hx]; exact nI_eq (b := 60) (by omega) (by decide)
    have n62 : x = (62 : Int32) ↔ c = 62 := by rw [hx]; exact nI_eq (b := 62) (by omega) (by decide)
    have gv : gR 6 = 11 ∧ gR 7 = 12 ∧ gR 8 = 13 := by decide
    rw [n60, n62]
    refine m_sums hN k3 hX ⟨fun u ν4 e4 f4 k4 => ?_, fun e ν4 he f4 b4 => ?_⟩
    · rw [e4] at hq
      have g4 := gE_o (suP_g h8 9 (nxP tp s1) (by omega) (by show s1.2.2.1 ≤ 6; omega)) e4
      have l4 : u.2.2.2.length + (nxP tp s1).1 ≤ s1.2.2.2.length + u.1 := gV_l g4
      have fin : w_X12_code N (nI (gR v)) ν4 (fun τ2 => K τ2) := m_code k4 (by omega) (fun ν5 f5 k5 => hq.1 _ ν5 rfl (mFr_t F3 (mFr_t f4 f5)) k5)
      refine ⟨fun z => ?_, fun z => ⟨fun y => ?_, fun y => ?_⟩⟩
      · rw [show v = 6 by omega] at fin; exact fin
      · rw [show v = 7 by omega] at fin; exact fin
      · rw [show v = 8 by omega] at fin; exact fin
    · rw [he] at hq
      obtain ⟨c1, c2, n', c3, c4⟩ := b4
      have fin : ∀ x : Int32, w_X12_code N x ν4 (fun τ2 => K τ2) := fun x => m_codeB c1 c4 (by omega) (fun ν5 f5 b5 h95 => hq.2 e ν5 rfl (mFr_t F3 (mFr_t f4 f5)) ⟨b5, c2, n' + 1, by omega, h95⟩)
      exact ⟨fun _ => fin _, fun _ => ⟨fun _ => fin _, fun _ => fin _⟩⟩
  have c60 : chI tp (sT tp s1.1) = (60 : Int32) ↔ iS tp 60 s1 = true := by rw [show (60 : Int32) = nI 60 from rfl, chI_c hb8 (by decide)]; exact (sg_i sg60).symm
  have c62 : chI tp (sT tp s1.1) = (62 : Int32) ↔ iS tp 62 s1 = true := by rw [show (62 : Int32) = nI 62 from rfl, chI_c hb8 (by decide)]; exact (sg_i sg62).symm
  have c61 : chI tp (sT tp s1.1) = (61 : Int32) ↔ iS tp 61 s1 = true := by rw [show (61 : Int32) = nI 61 from rfl, chI_c hb8 (by decide)]; exact (sg_i sg61).symm
  refine ⟨fun z => ?_, fun z => ⟨fun y => ?_, fun y => ⟨fun w => ?_, fun w => ?_⟩⟩⟩
  · have hi := c60.mp z
    rw [if_pos hi] at hC
    exact two 60 6 _ hi z (by omega) hC
  · have h0 : ¬ iS tp 60 s1 = true := fun q => z (c60.mpr q)
    have hi := c62.mp y
    rw [if_neg h0, if_pos hi] at hC
    exact two 62 7 _ hi y (by omega) hC
  · have h0 : ¬ iS tp 60 s1 = true := fun q => z (c60.mpr q)
    have h2 : ¬ iS tp 62 s1 = true := fun q => y (c62.mpr q)
    have hi := c61.mp w
    rw [if_neg h0, if_neg h2, if_pos hi] at hC
    exact two 61 8 _ hi w (by omega) hC
  · have h0 : ¬ iS tp 60 s1 = true := fun q => z (c60.mpr q)
    have h2 : ¬ iS tp 62 s1 = true := fun q => y (c62.mpr q)
    have h1 : ¬ iS tp 61 s1 = true := fun q => w (c61.mpr q)
    rw [if_neg h0, if_neg h2, if_neg h1] at hC
    rw [a2']
    exact m_fl (k := 1) k2.2.1.2.1 (fun ν3 f3 b3 => hC.2 _ ν3 rfl (mFr_t F2 (mFr_f f3 (subl rfl))) (mBc_k k2 (fr_w f3 (subl rfl) (subl rfl) (subl rfl) (subl rfl)) b3 (show 1 ≤ 1 ∧ 1 ≤ 5 by decide)))
end mf
