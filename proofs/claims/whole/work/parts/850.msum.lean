/-! the reference reads sums -/
section ms
variable {N : Nat} {Q : zSt → Prop} {x1 : Int32} {tp : Nat × (Nat → Nat)} {μ ν υ : zSt} {s u : zP} {St L : List Nat} {b m : Nat} {GQ : Int32 → zSt → Prop}
/-- a leaf -/
def lfP (tp : Nat × (Nat → Nat)) (s : zP) : zE := if kS tp s = 2 then (if zS tp s ≤ 4 then .ok (nxP tp (emP (100 + vT tp s.1) s)) else .error (1, sT tp s.1 + 4)) else if 12 ≤ wS tp s ∧ wS tp s ≤ 16 then .ok (nxP tp (emP (20 + (wS tp s - 12)) s)) else .error (1, sT tp s.1)
theorem lf_nu : lfP tp s = if 12 ≤ wS tp s ∧ wS tp s ≤ 16 then .ok (nxP tp (emP (20 + (wS tp s - 12)) s)) else bdP (nuP tp 9999 s) (fun v => .ok (nxP tp (emP (100 + v) s))) := by
  unfold lfP nuP
  by_cases c1 : kS tp s = 2
  · have hv := vT_4 c1
    have hw : ¬ (12 ≤ wS tp s ∧ wS tp s ≤ 16) := fun z => by have := wS_k (tp := tp) (s := s) (w := wS tp s) (by omega) rfl; omega
    rw [if_pos c1, if_neg hw, if_pos c1]
    by_cases c2 : zS tp s ≤ 4
    · rw [if_pos c2, if_pos c2, if_pos (by omega)]; rfl
    · rw [if_neg c2, if_neg c2]; rfl
  · rw [if_neg c1, if_neg c1]
    by_cases c2 : 12 ≤ wS tp s ∧ wS tp s ≤ 16
    · rw [if_pos c2, if_pos c2]
    · rw [if_neg c2, if_neg c2]; rfl
theorem m_leaf {fq : Nat} (hN : 1100 < N) (hf : tp.1 < fq + s.1) (h : mK μ tp s St b) (hC : mC μ (lfP tp s) (fun u ν => mK ν tp u St b → PC N Q x1 tp u ν) (FF Q x1)) : b_X12_onePart_146 N (oK N Q x1 fq) μ := by
  have h8 := h.1.1
  have hle := mK_le h
  have h7 := h.2.2.2.2.2.2
  have hf1 : 1 ≤ fq := by omega
  rw [lf_nu] at hC
  -- a word was taken
  have word : ∀ (w : Nat) (x : Int32), 12 ≤ w → w ≤ 16 → wT tp s.1 s.2.1 = w → x = nI (gR (20 + (w - 12))) → x ≠ -1 → ∀ ν, mFr μ ν → mK ν tp (nxP tp s) St b → b_X12_onePart_235 N (oK N Q x1 fq) x ν := fun w x h12 h16 e hx hx1 ν f1 k1 => by
    have e : wS tp s = w := e
    have n1 := nx_gt h8 (wS_lt (by omega) e).2
    rw [if_pos ⟨by omega, by omega⟩, e] at hC
    unfold b_X12_onePart_235 b_X12_onePart_258
    refine br_f hx1 ?_
    rw [hx]
    refine m_code k1 (by show s.2.2.2.length + St.length < _; omega) (fun υ f2 k2 => ?_)
    exact oK_c (u := nxP tp (emP (20 + (w - 12)) s)) hN (by show tp.1 < fq + (nxP tp s).1; omega) k2.2.1.2.1 h8 (hC.1 _ υ rfl (mFr_t f1 f2) k2)
  have g12 : gR 20 = 7 ∧ gR 21 = 8 ∧ gR 22 = 9 ∧ gR 23 = 10 ∧ gR 24 = 18 := by decide
  unfold b_X12_onePart_146
  refine br_t h.2.1.2.1 ?_
  refine m_takes (w := 12) hN (by decide) h.1 h.2.1 (fun e1 ν1 f1 _ p1 => br_t rfl ?_) (fun e ν f p => br_f (by decide) (word 12 _ (by decide) (by decide) e rfl (by decide) ν (f13_m f) (mK_nx f h p)))
  have k1 := mK_lk f1 h p1
  have F1 := f13_m (f1_13 f1)
  refine m_takes (w := 13) hN (by decide) k1.1 k1.2.1 (fun e2 ν2 f2 _ p2 => br_t rfl ?_) (fun e ν f p => br_f (by decide) (word 13 _ (by decide) (by decide) e rfl (by decide) ν (mFr_t F1 (f13_m f)) (mK_nx f k1 p)))
  have k2 := mK_lk f2 k1 p2
  have F2 := mFr_t F1 (f13_m (f1_13 f2))
  refine m_takes (w := 14) hN (by decide) k2.1 k2.2.1 (fun e3 ν3 f3 _ p3 => br_t rfl ?_) (fun e ν f p => br_f (by decide) (word 14 _ (by decide) (by decide) e rfl (by decide) ν (mFr_t F2 (f13_m f)) (mK_nx f k2 p)))
  have k3 := mK_lk f3 k2 p3
  have F3 := mFr_t F2 (f13_m (f1_13 f3))
  refine m_takes (w := 15) hN (by decide) k3.1 k3.2.1 (fun e4 ν4 f4 _ p4 => br_t rfl ?_) (fun e ν f p => br_f (by decide) (word 15 _ (by decide) (by decide) e rfl (by decide) ν (mFr_t F3 (f13_m f)) (mK_nx f k3 p)))
  have k4 := mK_lk f4 k3 p4
  have F4 := mFr_t F3 (f13_m (f1_13 f4))
  refine m_takes (w := 16) hN (by decide) k4.1 k4.2.1 (fun e5 ν5 f5 _ p5 => br_t rfl ?_) (fun e ν f p => br_f (by decide) (word 16 _ (by decide) (by decide) e rfl (by decide) ν (mFr_t F4 (f13_m f)) (mK_nx f k4 p)))
  have k5 := mK_lk f5 k4 p5
  have F5 := mFr_t F4 (f13_m (f1_13 f5))
  have nw : ¬ (12 ≤ wS tp s ∧ wS tp s ≤ 16) := fun z => by
    have e1 : ¬ wS tp s = 12 := e1
    have e2 : ¬ wS tp s = 13 := e2
    have e3 : ¬ wS tp s = 14 := e3
    have e4 : ¬ wS tp s = 15 := e4
    have e5 : ¬ wS tp s = 16 := e5
    omega
  rw [if_neg nw] at hC
  unfold b_X12_onePart_235
  refine br_t rfl (m_number (lim := 9999) hN (by decide) k5.1 k5.2.1 (fun v ν ev f p => ?_) (fun e v ν he f hb => ?_))
  · have gv := gE_o (nuP_g (tp := tp) (s := s) (lim := 9999)) ev
    have n1 := nx_gt h8 (s := s) (by have := gv.2.1; omega)
    have hv : v ≤ 9999 := gv.2.2.2
    rw [ev] at hC
    have hg : gR (100 + v) = 1000 + v := by unfold gR; rw [if_pos (by omega)]; omega
    unfold b_X12_onePart_258
    rw [show (1000 : Int32) + nI v = nI (gR (100 + v)) by rw [hg, show (1000 : Int32) = nI 1000 from rfl, nI_add]]
    refine m_code (mK_nx f k5 p) (by show s.2.2.2.length + St.length < _; omega) (fun υ f2 k2 => ?_)
    exact oK_c (u := nxP tp (emP (100 + v) s)) hN (by show tp.1 < fq + (nxP tp s).1; omega) k2.2.1.2.1 h8 (hC.1 _ υ rfl (mFr_t F5 (mFr_t (f13_m f) f2)) k2)
  · have ge := nuP_g (tp := tp) (s := s) (lim := 9999)
    rw [he] at ge
    have ge : 1 ≤ e.1 ∧ e.1 ≤ 5 := ge
    rw [he] at hC
    have hbc : mBc ν e 0 := mBc_k k5 (fr_w f (subl rfl) (subl rfl) (subl rfl) (subl rfl)) hb ge
    obtain ⟨_, _, n, hn, h9⟩ := hbc
    unfold b_X12_onePart_258
    refine m_codeB hb h9 (by omega) (fun υ f2 b2 h92 => ?_)
    have hbc2 : mBc υ e 1 := ⟨b2, ge, n + 1, by omega, h92⟩
    exact ⟨fun z => absurd z (mBc_n hbc2), fun _ => sums_f hN hf1 hbc2 (hC.2 e υ rfl (mFr_t F5 (mFr_t (mFr_f f (subl rfl)) f2)) hbc2)⟩
/-- closing -/
theorem m_43 {KQ : zSt → Prop} {P : List Nat} (hN : 1100 < N) (hP : ∀ v, v ∈ P → v < 4) (h : mK μ tp s (P.map gR ++ m :: St) b) (ha : mAt μ tp s.1) (hb : b ≤ St.length) (hi : iS tp 41 s = true) (hm : m = 20 ∨ m = 23 ∨ m = 24) (ho : 1 ≤ s.2.2.1) (hQ : ∀ ν, mFr μ ν → mK ν tp (if m = 20 then nxP tp (dnP (emL P s)) else emP (if m = 23 then 4 else 5) (nxP tp (dnP (emL P s)))) St b → KQ ν) : b_X12_goesOn_43 N KQ GQ μ := by
  have h8 := h.1.1
  have n1 := nx_gt h8 (iS_n hi)
  have hlv : lvl (m :: St) b m := Or.inr ⟨by omega, by omega, St, rfl, hb⟩
  unfold b_X12_goesOn_43
  refine nm_e ?_
  have p1 := mPos_s h8 hi ha h.2.1 rfl
  have k1 : mK (zI μ 1 (μ.1 1 + 1)) tp (nxP tp s) (P.map gR ++ m :: St) b := mK_nx (fr_I fr_r (by decide)) h p1
  refine m_toMark hN hlv hP k1 (fun ν f2 k2 => nm_e (nm_e ?_))
  have hbd := mK_bd k2
  have hbd : (emL P (nxP tp s)).2.2.2.length + (St.length + 1) ≤ 800 := hbd
  obtain ⟨a1, a2, a3, ⟨a4, a41, a42⟩, a5, a6, a7⟩ := k2
  have a4 : ν.1 10 = nI (St.length + 1) := a4
  have a7 : (emL P (nxP tp s)).2.2.2.length + (St.length + 1) ≤ (nxP tp s).1 := a7
  have e10 : (zI (zI ν 10 (ν.1 10 - 1)) 11 ((zI ν 10 (ν.1 10 - 1)).1 11 - 1)).1 10 = nI St.length := by
    show ν.1 10 - 1 = nI St.length
    rw [a4, nI_pred]
  have e11 : (zI (zI ν 10 (ν.1 10 - 1)) 11 ((zI ν 10 (ν.1 10 - 1)).1 11 - 1)).1 11 = nI (s.2.2.1 - 1) := by
    show ν.1 11 - 1 = nI (s.2.2.1 - 1)
    rw [a3.2]
    show nI s.2.2.1 - 1 = _
    rw [nI_s1 ho]
  have fω : mFr μ (zI (zI ν 10 (ν.1 10 - 1)) 11 ((zI ν 10 (ν.1 10 - 1)).1 11 - 1)) := mFr_t (mFr_f (I := [1]) (fr_I fr_r (by decide)) (subl rfl)) (mFr_t f2 (mFr_f (I := [10, 11]) (fr_I (fr_I fr_r (by decide)) (by decide)) (subl rfl)))
  have kω : mK (zI (zI ν 10 (ν.1 10 - 1)) 11 ((zI ν 10 (ν.1 10 - 1)).1 11 - 1)) tp (nxP tp (dnP (emL P s))) St b := ⟨a1, a2, ⟨by show s.2.2.1 - 1 ≤ 6; have : s.2.2.1 ≤ 6 := a3.1; omega, e11⟩, ⟨e10, a42⟩, a5, a6, by show (emL P (nxP tp s)).2.2.2.length + St.length ≤ (nxP tp s).1; omega⟩
  rw [e10, nI_clamp (n := St.length) (by omega), show (zI (zI ν 10 (ν.1 10 - 1)) 11 ((zI ν 10 (ν.1 10 - 1)).1 11 - 1)).2.2.1 11 St.length = nI m from a41]
  have w20 : nI m = (20 : Int32) ↔ m = 20 := nI_eq (b := 20) (by omega) (by decide)
  have w23 : nI m = (23 : Int32) ↔ m = 23 := nI_eq (b := 23) (by omega) (by decide)
  have hv : vp_in (nI St.length) 900 := vp_in_nI (by omega) (by decide)
  rw [w20, w23]
  have hlen : (nxP tp (dnP (emL P s))).2.2.2.length + St.length < (nxP tp (dnP (emL P s))).1 := by show (emL P (nxP tp s)).2.2.2.length + St.length < (nxP tp s).1; omega
  refine ⟨hv, fun z => ?_, fun z => ⟨hv, fun y => ?_, fun y => ?_⟩⟩
  · rw [if_pos z] at hQ; exact hQ _ fω kω
  · rw [if_neg z, if_pos y] at hQ
    unfold b_X12_goesOn_112
    exact m_code (v := 4) kω hlen (fun υ f k => hQ υ (mFr_t fω f) k)
  · rw [if_neg z, if_neg y] at hQ
    unfold b_X12_goesOn_112
    exact m_code (v := 5) kω hlen (fun υ f k => hQ υ (mFr_t fω f) k)
theorem mKp_e {P : List Nat} {c : List Nat} (h : u.2.2.2 = c ++ P) : emL P (u.1, u.2.1, u.2.2.1, c) = u := by
  unfold emL
  show (u.1, u.2.1, u.2.2.1, c ++ P) = u
  rw [← h]
theorem P20 {P : List Nat} (hP : ∀ v, v ∈ P → v < 4) : ∀ v, v ∈ P.map gR → v < 20 := fun v hv => by
  obtain ⟨w, h1, h2⟩ := List.mem_map.mp hv
  have := hP w h1
  rw [gR_4 this] at h2
  omega
/-- at the end of what stands in brackets: closed, or a fault -/
theorem m_cl {P : List Nat} {A : zP → zSt → Prop} (hN : 1100 < N) (hP : ∀ v, v ∈ P → v < 4) (h : mKp μ tp u P (m :: St) b) (hb : b ≤ St.length) (hm : m = 20 ∨ m = 23 ∨ m = 24) (hn : nop tp u) (ho : 1 ≤ u.2.2.1) (hC : mC μ (bdP (tsP tp 41 u) (fun w => .ok (if m = 20 then w else emP (if m = 23 then 4 else 5) w))) A (FF Q x1)) (hA : ∀ w ν, mK ν tp w St b → A w ν → PC N Q x1 tp w ν) : PC N Q x1 tp u μ := by
  obtain ⟨c, hc, hk⟩ := h
  have h8 := hk.1.1
  have hle : u.1 ≤ tp.1 := hk.2.1.1
  have hlv : lvl (m :: St) b m := Or.inr ⟨by omega, by omega, St, rfl, hb⟩
  intro f g hf hg
  by_cases hi : iS tp 41 u = true
  · have n1 := nx_gt h8 (iS_n hi)
    have hts : tsP tp 41 u = .ok (nxP tp (dnP u)) := by unfold tsP; rw [if_pos hi]; rfl
    rw [hts] at hC
    obtain ⟨g', rfl⟩ : ∃ g', g = g' + 1 := ⟨g - 1, by omega⟩
    refine m_c1 hN hk hlv (P20 hP) hi hm (fun ν f1 a1 k1 => m_43 hN hP k1 a1 hb hi hm ho (fun υ f2 k2 => ?_))
    rw [mKp_e hc] at k2
    have hq := hA _ υ k2 (hC.1 _ υ rfl (mFr_t f1 f2))
    refine hq f g' ?_ ?_
    · split
      · show tp.1 < f + (nxP tp u).1; omega
      · show tp.1 < f + (nxP tp u).1; omega
    · split
      · show tp.1 < g' + (nxP tp u).1; omega
      · show tp.1 < g' + (nxP tp u).1; omega
  · have hts : tsP tp 41 u = .error (1, sT tp u.1) := by unfold tsP; rw [if_neg hi]; rfl
    rw [hts] at hC
    refine m_c0 hN hk hlv (P20 hP) (by omega) (fun z => absurd z hi) (fun ν f1 k1 => m_118n hN k1 hlv (P20 hP) hn (fun e => by omega) (fun e => by omega) (fun _ υ f2 b2 => ?_))
    exact gK_f hN (by omega) b2 (hC.2 _ υ rfl (mFr_t f1 f2) b2)
end ms
