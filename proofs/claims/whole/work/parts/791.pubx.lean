/-! short answers: what they are, and the class at them -/
def endA (tp : Nat × (Nat → Nat)) (n : Int32) : Bool := decide (0 ≤ n) && decide (n ≤ nI tp.1)
def endT (tp : Nat × (Nat → Nat)) (n : Int32) : Nat × (Nat → Nat) := if endA tp n = true then (n.toNatClampNeg, tp.2) else tp
def fauA (fa : Int32 × Int32) (w : Int32) : Int32 := if w = 0 then fa.1 else if w = 1 then fa.2 else -1
def perB (l : zL) (p : Int32) : Bool := decide (0 ≤ p) && decide (p < nI (lPn l))
def netB (l : zL) (v : Int64) : Bool := decide (0 ≤ v) && (decide (v.toBitVec.toNat < 2 ^ lPc l) && mayv l v.toBitVec.toNat)
def netT (l : zL) (net : Nat) (v : Int64) : Nat := if netB l v = true then v.toBitVec.toNat else net
def extB (n : Int32) : Bool := decide (-1000 ≤ n) && decide (n ≤ 1000)
def extT (x n : Int32) : Int32 := if extB n = true then n else x
def worA (l : zL) (x : Int32) (net : Nat) (p : Int32) : Int64 := if p = -1 then twS l (fun _ => x) net (lPn l) else if perB l p = true then tw l (fun _ => x) net p.toNatClampNeg else -1000000000000
def wayA (l : zL) (net : Nat) (a b : Int32) : Int32 := if perB l a = true then (if perB l b = true then dv (lPn l) net a.toNatClampNeg b.toNatClampNeg else -1) else -1
def kinB (k : Int32) : Bool := decide (0 ≤ k) && decide (k < 6)
def resO (l : zL) (x : Int32) (net : Nat) (k : Int32) : zO := rstO l (fun _ => x) net k.toNatClampNeg
def resC (l : zL) (k : Int32) : Bool := kinB k && (decide (k ≠ 5) || decide (lPn l ≤ 5))
def resA (l : zL) (x : Int32) (net : Nat) (k : Int32) : Int32 := if resC l k = true then b32 (!(resO l x net k).isSome) else -1
def barT (o : zO) (ba : Nat → Int64) : Nat → Int64 := match o with
  | none => ba
  | some r => fun k => if k = 0 then (nI r.1).toInt64 else if k = 1 then (nI r.2.1).toInt64 else lN r.2.2
def resT (l : zL) (x : Int32) (net : Nat) (ba : Nat → Int64) (k : Int32) : Nat → Int64 := if resC l k = true then barT (resO l x net k) ba else ba
def rowA (c : Nat) (f : Nat → Int64) (k : Int32) : Int64 := if 0 ≤ k ∧ k < nI c then f k.toNatClampNeg else -1
def octA (oc : Nat → Int32) (k : Int32) : Int32 := if 0 ≤ k ∧ k < 10 then oc k.toNatClampNeg else -1
def comA (cm : Nat × (Nat → Int64) × (Nat → Int32)) (k t : Int32) : Int64 := if 0 ≤ k ∧ k < nI cm.1 then (if t = 0 then cm.2.1 k.toNatClampNeg else (cm.2.2 k.toNatClampNeg).toInt64) else -1
theorem ixc {k : Int32} {n : Nat} (hn : n < 2 ^ 31) (h0 : 0 ≤ k) (h : k < nI n) : ∃ j, j < n ∧ k = nI j ∧ k.toNatClampNeg = j := by
  obtain ⟨j, hj, e⟩ := nI_of (x := k) (fun q => (fa_of_lt q).2.1 h0)
  subst e
  exact ⟨j, (nI_ltI hj hn).mp h, rfl, nI_clamp hj⟩
theorem nle_lt {a b : Int32} : ¬ a ≤ b ↔ b < a := ⟨fa_of_nle, fun h => (fa_of_lt h).2.1⟩
theorem nlt_le {a b : Int32} : ¬ a < b ↔ b ≤ a := ⟨fa_of_nlt, fun h q => (fa_of_lt q).2.1 h⟩
section px
variable {N : Nat} {σ τ μ ν : zSt} {tp : Nat × (Nat → Nat)} {fa : Int32 × Int32} {l : zL} {net : Nat} {x : Int32} {ba rg : Nat → Int64} {ls : Nat × (Nat → Int64)} {cm : Nat × (Nat → Int64) × (Nat → Int32)} {li : Int64} {oc : Nat → Int32}
theorem X_end {n : Int32} {Q : Int32 → zSt → Prop} (h : XR σ tp fa l net x ba rg ls cm li oc) (hQ : ∀ τ, XR τ (endT tp n) fa l net x ba rg ls cm li oc → Q (b32 (endA tp n)) τ) : w_X11_end N n σ Q := by
  unfold w_X11_end
  obtain ⟨a1, a2⟩ := id h
  rw [a1.2.1]
  have e1 : endA tp n = (decide (0 ≤ n) && decide (n ≤ nI tp.1)) := rfl
  refine ⟨fun q => ?_, fun q => ⟨fun q2 => nm_e ?_, fun q2 => ?_⟩⟩
  · rw [decide_eq_false (fun z => nlt_le.mpr z q), Bool.false_and] at e1
    unfold endT at hQ
    rw [e1, if_neg (by decide)] at hQ
    exact hQ σ h
  · have q0 := nlt_le.mp q
    rw [decide_eq_true q0, decide_eq_true q2] at e1
    have e1 : endA tp n = true := e1
    unfold endT at hQ
    rw [e1, if_pos rfl] at hQ
    have h800 := a1.1
    obtain ⟨j, hj, e2⟩ := nI_of (x := n) q
    subst e2
    have hjt : j ≤ tp.1 := (nI_leI hj (by omega)).mp q2
    rw [nI_clamp hj] at hQ
    obtain ⟨b1, b2, b3, b4, b5, b6, b7, b8, b9, b10, b11, b12⟩ := h
    exact hQ _ ⟨⟨Nat.le_trans hjt a1.1, zI_1s, fun k hk => a1.2.2 k (Nat.lt_of_lt_of_le hk hjt)⟩, b2, xG_fr (I := [0]) (J := []) (A := []) (B := []) (fr_I fr_r (by decide)) (notin rfl) (notin rfl) (notin rfl) (notin rfl) b3, b4, b5, b6, b7, b8, b9, b10, b11, b12⟩
  · rw [decide_eq_false q2, Bool.and_false] at e1
    unfold endT at hQ
    rw [e1, if_neg (by decide)] at hQ
    exact hQ σ h
theorem X_fault {w : Int32} {Q : Int32 → zSt → Prop} (h : XR σ tp fa l net x ba rg ls cm li oc) (hQ : XR σ tp fa l net x ba rg ls cm li oc → Q (fauA fa w) σ) : w_X11_fault N w σ Q := by
  unfold w_X11_fault
  have hq := hQ h
  unfold fauA at hq
  rw [h.2.1.1, h.2.1.2.1]
  refine ⟨fun q => by rw [if_pos q] at hq; exact hq, fun q => ?_⟩
  rw [if_neg q] at hq
  exact ⟨fun q2 => by rw [if_pos q2] at hq; exact hq, fun q2 => by rw [if_neg q2] at hq; exact hq⟩
theorem x_isPer {p : Int32} {Q : Int32 → zSt → Prop} (hP : σ.1 1 = nI (lPn l)) (hQ : Q (b32 (perB l p)) σ) : w_X4_isPerson_2 N p σ Q := by
  unfold w_X4_isPerson_2
  rw [hP]
  unfold perB at hQ
  refine ⟨fun q => ?_, fun q => ⟨fun q2 => ?_, fun q2 => ?_⟩⟩
  · rw [decide_eq_false (fun z => nlt_le.mpr z q)] at hQ; exact hQ
  · rw [decide_eq_false (fun z => nle_lt.mpr z q2), Bool.and_false] at hQ; exact hQ
  · rw [decide_eq_true (nlt_le.mp q), decide_eq_true (nle_lt.mp q2)] at hQ; exact hQ
theorem per_t {p : Int32} (h10 : lPn l ≤ 10) (h : perB l p = true) : ∃ k, k < lPn l ∧ p = nI k ∧ p.toNatClampNeg = k := by
  unfold perB at h
  rw [Bool.and_eq_true, decide_eq_true_eq, decide_eq_true_eq] at h
  exact ixc (by omega) h.1 h.2
theorem X_net {v : Int64} {Q : Int32 → zSt → Prop} (hN : 1100 < N) (h : XR σ tp fa l net x ba rg ls cm li oc) (hQ : ∀ τ, XR τ tp fa l (netT l net v) x ba rg ls cm li oc → Q (b32 (netB l v)) τ) : w_X11_net N v σ Q := by
  obtain ⟨b1, b2, b3, b4, b5, b6, b7, b8, b9, b10, b11, b12⟩ := id h
  have h10 := b3.1.1
  have hpc := pc_le h10
  have e1 : netB l v = (decide (0 ≤ v) && (decide (v.toBitVec.toNat < 2 ^ lPc l) && mayv l v.toBitVec.toNat)) := rfl
  have no : netB l v = false → Q 0 σ := fun hf => by
    unfold netT at hQ
    rw [hf, if_neg (by decide)] at hQ
    exact hQ σ h
  unfold w_X11_net w_X4_isNet
  rw [b3.2.2.1.2.1, oneJ (by omega), lg_cmp_lt, lg_cmp_ge]
  refine ⟨fun q => br_t rfl (no ?_), fun q => ⟨fun q2 => br_t rfl (no ?_), fun q2 => br_f (by decide) ?_⟩⟩
  · rw [e1, decide_eq_false (fun z => Int64.not_le.mpr q z), Bool.false_and]
  · obtain ⟨k, hk, ek⟩ := pk_lOf q
    subst ek
    rw [pk_lLE (by have := p2lt (m := 46) (show lPc l < 46 by omega); omega) hk] at q2
    rw [e1, wb_tn (by omega), decide_eq_false (show ¬ k < 2 ^ lPc l by omega), Bool.false_and, Bool.and_false]
  · obtain ⟨k, hk, ek⟩ := pk_lOf q
    subst ek
    rw [pk_lLE (by have := p2lt (m := 46) (show lPc l < 46 by omega); omega) hk] at q2
    rw [wb_tn (by omega), decide_eq_true (Int64.not_lt.mp q), decide_eq_true (show k < 2 ^ lPc l by omega)] at e1
    have e1 : netB l (lN k) = mayv l k := e1
    refine x_may (by omega) b3 (by omega) ⟨fun z => no ?_, fun z => nm_e ?_⟩
    · rw [e1]; exact b32_0.mp z
    · have hm : mayv l k = true := by
        cases hh : mayv l k with
        | true => rfl
        | false => exact absurd (b32_0.mpr hh) z
      unfold netT at hQ
      rw [e1, hm, if_pos rfl, wb_tn (by omega)] at hQ
      exact hQ _ ⟨b1, b2, xG_fr (I := []) (J := [0]) (A := []) (B := []) (fr_J fr_r (by decide)) (notin rfl) (notin rfl) (notin rfl) (notin rfl) b3, b4, b5, ⟨by omega, zJ_2s⟩, b7, b8, b9, b10, b11, b12⟩
theorem X_netq {Q : Int64 → zSt → Prop} (h : XR σ tp fa l net x ba rg ls cm li oc) (hQ : XR σ tp fa l net x ba rg ls cm li oc → Q (lN net) σ) : w_X11_net_ N σ Q := by
  unfold w_X11_net_
  rw [h.2.2.2.2.2.1.2]; exact hQ h
theorem lit_m1000 : (-1000 : Int32).toInt = -1000 := by decide
theorem lit_1000 : (1000 : Int32).toInt = 1000 := by decide
theorem xE_ex (h25 : σ.1 25 = x) (h26 : σ.1 26 = -1) : xE σ (fun _ => x) := fun p hp => by
  rw [h26, if_neg (m1_ne (by omega)), h25]
theorem X_extra {n : Int32} {Q : Int32 → zSt → Prop} (h : XR σ tp fa l net x ba rg ls cm li oc) (hQ : ∀ τ, XR τ tp fa l net (extT x n) ba rg ls cm li oc → Q (b32 (extB n)) τ) : w_X11_extra N n σ Q := by
  obtain ⟨b1, b2, b3, b4, b5, b6, b7, b8, b9, b10, b11, b12⟩ := id h
  have e1 : extB n = (decide (-1000 ≤ n) && decide (n ≤ 1000)) := rfl
  have no : extB n = false → Q 0 σ := fun hf => by
    unfold extT at hQ
    rw [hf, if_neg (by decide)] at hQ
    exact hQ σ h
  unfold w_X11_extra w_X11_canBeExtra
  refine ⟨fun q => br_t rfl (no ?_), fun q => ⟨fun q2 => br_t rfl (no ?_), fun q2 => br_f (by decide) (nm_e ?_)⟩⟩
  · rw [e1, decide_eq_false (fun z => nlt_le.mpr z q), Bool.false_and]
  · rw [e1, decide_eq_false (fun z => nlt_le.mpr z q2), Bool.and_false]
  · have q := nlt_le.mp q
    have q2 := nlt_le.mp q2
    rw [decide_eq_true q, decide_eq_true q2] at e1
    have e1 : extB n = true := e1
    unfold extT at hQ
    rw [e1, if_pos rfl] at hQ
    rw [fa_le, lit_m1000] at q
    rw [fa_le, lit_1000] at q2
    obtain ⟨c1, c2, c3, c4, c5, c6, c7, c8⟩ := b3
    have f : fr [25] [] [] [] σ (zI σ 25 n) := fr_I fr_r (by decide)
    refine hQ _ ⟨b1, b2, ⟨c1, c2, xP_fr f (notin rfl) (by decide) (notin rfl) c3, xR_fr f (by decide) (notin rfl) c4, xT_fr f (notin rfl) (by decide) c5, c6, c7, xE_ex zI_1s b5.2.2⟩, b4, ⟨⟨q, q2⟩, zI_1s, b5.2.2⟩, b6, b7, b8, b9, b10, b11, b12⟩
theorem X_worth {p : Int32} {Q : Int64 → zSt → Prop} (hN : 1100 < N) (h : XR σ tp fa l net x ba rg ls cm li oc) (hQ : ∀ τ, XR τ tp fa l net x ba rg ls cm li oc → Q (worA l x net p) τ) : w_X11_worth N p σ Q := by
  obtain ⟨b1, b2, b3, b4, b5, b6, b7, b8, b9, b10, b11, b12⟩ := id h
  have h10 := b3.1.1
  unfold w_X11_worth
  rw [b6.2]
  unfold worA at hQ
  refine ⟨fun q => ?_, fun q => x_isPer b3.2.2.1.1 ⟨fun q2 => ?_, fun q2 => ?_⟩⟩
  · rw [if_pos q] at hQ
    exact x_inAll (by omega) b3 b6.1 (fun τ f1 g1 => hQ τ (XR_s (xS_F f1) g1 h))
  · rw [if_neg q, if_neg (by rw [b32_0.mp q2]; decide)] at hQ
    exact hQ σ h
  · have hp : perB l p = true := by
      cases hh : perB l p with
      | true => rfl
      | false => exact absurd (b32_0.mpr hh) q2
    rw [if_neg q, if_pos hp] at hQ
    obtain ⟨k, hk, e1, e2⟩ := per_t h10 hp
    rw [e2] at hQ
    rw [b6.2, e1]
    exact x_of (by omega) b3 hk b6.1 (fun τ f1 g1 => hQ τ (XR_s (xS_F f1) g1 h))
theorem X_ways {a b : Int32} {Q : Int32 → zSt → Prop} (hN : 1100 < N) (h : XR σ tp fa l net x ba rg ls cm li oc) (hQ : ∀ τ, XR τ tp fa l net x ba rg ls cm li oc → Q (wayA l net a b) τ) : w_X11_ways N a b σ Q := by
  obtain ⟨b1, b2, b3, b4, b5, b6, b7, b8, b9, b10, b11, b12⟩ := id h
  obtain ⟨g1, g2, g3, g4, g5, g6, g7, g8⟩ := id b3
  have h10 := b3.1.1
  unfold w_X11_ways
  unfold wayA at hQ
  refine x_isPer b3.2.2.1.1 ⟨fun q => ?_, fun q => x_isPer b3.2.2.1.1 ⟨fun q2 => ?_, fun q2 => ?_⟩⟩
  · rw [if_neg (by rw [b32_0.mp q]; decide)] at hQ
    exact hQ σ h
  · have hp : perB l a = true := by
      cases hh : perB l a with
      | true => rfl
      | false => exact absurd (b32_0.mpr hh) q
    rw [if_pos hp, if_neg (by rw [b32_0.mp q2]; decide)] at hQ
    exact hQ σ h
  · have hp : perB l a = true := by
      cases hh : perB l a with
      | true => rfl
      | false => exact absurd (b32_0.mpr hh) q
    have hp2 : perB l b = true := by
      cases hh : perB l b with
      | true => rfl
      | false => exact absurd (b32_0.mpr hh) q2
    rw [if_pos hp, if_pos hp2] at hQ
    obtain ⟨j, hj, e1, e2⟩ := per_t h10 hp
    obtain ⟨k, hk, e3, e4⟩ := per_t h10 hp2
    rw [e2, e4] at hQ
    rw [b6.2, e1, e3]
    have hlt := td_lt b6.1
    refine x_lay (pc := lPc l) (by omega) (pc_le h10) b6.1 g3.2.1 g5 g6 (fun τ f1 a1 a2 => ?_)
    refine x_spread (n := lPn l) (by omega) h10 hj ((f1.1 1 (by decide)).trans g3.1) hlt a2 (fun υ f2 c1 => ⟨vp_in_nI (by omega) (by decide), ?_⟩)
    rw [nI_clamp (n := k) (by omega), c1 k hk]
    have ff : xF σ υ := fr_t (fr_w f1 (subl rfl) (subl rfl) (subl rfl) (subl rfl)) (fr_w f2 (subl rfl) (subl rfl) (subl rfl) (subl rfl))
    refine hQ υ (XR_s (xS_F ff) (xG_F ff (Or.inr ⟨net, net45 h10 b6.1, (f2.2.1 4 (by decide)).trans a1, fun q hq => (congrFun (f2.2.2.1 28 (by decide)) q).trans (a2 q hq)⟩) ?_ b3) h)
    unfold xC
    rw [f2.2.2.2 5 (by decide), f1.2.2.2 5 (by decide), f2.2.2.2 6 (by decide), f1.2.2.2 6 (by decide)]
    exact g7
theorem kin_t {k : Int32} (h : kinB k = true) : ∃ j, j < 6 ∧ k = nI j ∧ k.toNatClampNeg = j := by
  unfold kinB at h
  rw [Bool.and_eq_true, decide_eq_true_eq, decide_eq_true_eq] at h
  exact ixc (n := 6) (by decide) h.1 h.2
theorem X_rest {k : Int32} {Q : Int32 → zSt → Prop} (hN : 1100 < N) (h : XR σ tp fa l net x ba rg ls cm li oc) (hQ : ∀ τ, XR τ tp fa l net x (resT l x net ba k) rg ls cm li oc → Q (resA l x net k) τ) : w_X11_rest N k σ Q := by
  obtain ⟨b1, b2, b3, b4, b5, b6, b7, b8, b9, b10, b11, b12⟩ := id h
  have h10 := b3.1.1
  have no : resC l k = false → Q (-1) σ := fun hf => by
    unfold resT resA at hQ
    rw [hf, if_neg (by decide), if_neg (by decide)] at hQ
    exact hQ σ h
  have ec : resC l k = (kinB k && (decide (k ≠ 5) || decide (lPn l ≤ 5))) := rfl
  have ek : kinB k = (decide (0 ≤ k) && decide (k < 6)) := rfl
  have yes : resC l k = true → b_X11_rest_25 N Q k σ := fun hc => by
    unfold resT resA resO at hQ
    rw [hc, if_pos rfl, if_pos rfl] at hQ
    rw [hc, eq_comm, Bool.and_eq_true] at ec
    obtain ⟨j, hj, e1, e2⟩ := kin_t ec.1
    rw [e2] at hQ
    unfold b_X11_rest_25
    rw [b6.2, e1]
    refine x_endRest hN b3 b4 (ex_ok2 b5.1) hj (fun z => ?_) b6.1 (fun z => absurd z (by decide)) (fun τ f1 g1 o1 => ?_)
    · have := ec.2
      rw [e1, z] at this
      have this : (decide ((5 : Int32) ≠ 5) || decide (lPn l ≤ 5)) = true := this
      simpa using this
    · have hX := XR_s (xS_2 f1) g1 h
      have o1 := o1 (by decide)
      cases ho : rstO l (fun _ => x) net j with
      | none =>
        rw [ho] at hQ
        exact br_t rfl (hQ τ hX)
      | some r =>
        rw [ho] at hQ o1
        obtain ⟨o2, o3, o4⟩ := o1 r.1 r.2.1 r.2.2 rfl
        refine br_f (show ¬ (1 : Int32) = 0 by decide) (nm_e (nm_e (nm_e ?_)))
        obtain ⟨c1, c2, c3, c4, c5, c6, c7, c8, c9, c10, c11, c12⟩ := hX
        refine hQ _ ⟨c1, c2, xG_fr (I := []) (J := []) (A := []) (B := [0]) (fr_B (fr_B (fr_B fr_r (by decide)) (by decide)) (by decide)) (notin rfl) (notin rfl) (notin rfl) (notin rfl) c3, c4, c5, c6, fun i hi => ?_, c8, c9, c10, c11, c12⟩
        simp only [zB_4s, zB_1, zB_2]
        rw [o2, o3, o4]
        have hi3 : i = 0 ∨ i = 1 ∨ i = 2 := by omega
        rcases hi3 with z | z | z <;> subst z
        · rw [pk_uLn (by decide), pk_uLn (by decide), pk_uLs]; rfl
        · rw [pk_uLn (by decide), pk_uLs]; rfl
        · rw [pk_uLs]; rfl
  unfold w_X11_rest w_X11_isKind
  refine ⟨fun q => br_t rfl (no ?_), fun q => ⟨fun q2 => br_t rfl (no ?_), fun q2 => br_f (by decide) ⟨fun q3 => ?_, fun q3 => yes ?_⟩⟩⟩
  · rw [ec, ek, decide_eq_false (fun z => nlt_le.mpr z q)]; rfl
  · rw [ec, ek, decide_eq_false (fun z => nle_lt.mpr z q2), Bool.and_false]; rfl
  · rw [b3.2.2.1.1]
    refine ⟨fun q4 => yes ?_, fun q4 => no ?_⟩
    · have q4 : lPn l ≤ 5 := (nI_leI (b := 5) (by omega) (by omega)).mp q4
      rw [ec, ek, decide_eq_true (nlt_le.mp q), decide_eq_true (nle_lt.mp q2), decide_eq_true q4, Bool.or_true]; rfl
    · have q4 : ¬ lPn l ≤ 5 := fun z => q4 (nI_le (b := 5) z (by omega))
      rw [ec, decide_eq_false q4, decide_eq_false (fun z => z q3), Bool.or_false, Bool.and_false]
  · rw [ec, ek, decide_eq_true (nlt_le.mp q), decide_eq_true (nle_lt.mp q2), decide_eq_true q3]; rfl
theorem X_bars {k : Int32} {Q : Int64 → zSt → Prop} (h : XR σ tp fa l net x ba rg ls cm li oc) (hQ : XR σ tp fa l net x ba rg ls cm li oc → Q (rowA 3 ba k) σ) : w_X11_bars N k σ Q := by
  have hq := hQ h
  unfold rowA at hq
  unfold w_X11_bars
  refine ⟨fun q => ?_, fun q => ⟨fun q2 => ?_, fun q2 => ?_⟩⟩
  · rw [if_neg (fun z => nlt_le.mpr z.1 q)] at hq; exact hq
  · rw [if_neg (fun z => nle_lt.mpr z.2 q2)] at hq; exact hq
  · obtain ⟨j, hj, e1, e2⟩ := ixc (n := 3) (by decide) (nlt_le.mp q) (nle_lt.mp q2)
    rw [if_pos ⟨nlt_le.mp q, nle_lt.mp q2⟩, e2] at hq
    rw [e2, h.2.2.2.2.2.2.1 j hj, e1]
    exact ⟨vp_in_nI hj (by decide), hq⟩
theorem X_ring {k : Int32} {Q : Int64 → zSt → Prop} (h : XR σ tp fa l net x ba rg ls cm li oc) (hQ : XR σ tp fa l net x ba rg ls cm li oc → Q (rowA 2 rg k) σ) : w_X11_ring N k σ Q := by
  have hq := hQ h
  unfold rowA at hq
  unfold w_X11_ring
  refine ⟨fun q => ?_, fun q => ⟨fun q2 => ?_, fun q2 => ?_⟩⟩
  · rw [if_neg (fun z => nlt_le.mpr z.1 q)] at hq; exact hq
  · rw [if_neg (fun z => nle_lt.mpr z.2 q2)] at hq; exact hq
  · obtain ⟨j, hj, e1, e2⟩ := ixc (n := 2) (by decide) (nlt_le.mp q) (nle_lt.mp q2)
    rw [if_pos ⟨nlt_le.mp q, nle_lt.mp q2⟩, e2] at hq
    rw [e2, h.2.2.2.2.2.2.2.1 j hj, e1]
    exact ⟨vp_in_nI hj (by decide), hq⟩
theorem X_one {k : Int32} {Q : Int64 → zSt → Prop} (h : XR σ tp fa l net x ba rg ls cm li oc) (hQ : XR σ tp fa l net x ba rg ls cm li oc → Q (rowA ls.1 ls.2 k) σ) : w_X11_one N k σ Q := by
  have hq := hQ h
  have hl := h.2.2.2.2.2.2.2.2.1
  unfold rowA at hq
  unfold w_X11_one w_X1_isPlace
  rw [hl.2.1]
  refine ⟨fun q => br_t rfl ?_, fun q => ⟨fun q2 => br_t rfl ?_, fun q2 => br_f (by decide) ?_⟩⟩
  · rw [if_neg (fun z => nlt_le.mpr z.1 q)] at hq; exact hq
  · rw [if_neg (fun z => nle_lt.mpr z.2 q2)] at hq; exact hq
  · obtain ⟨j, hj, e1, e2⟩ := ixc (by have := hl.1; omega) (nlt_le.mp q) (nle_lt.mp q2)
    rw [if_pos ⟨nlt_le.mp q, nle_lt.mp q2⟩, e2] at hq
    rw [e2, hl.2.2 j hj, e1]
    exact ⟨vp_in_nI (by have := hl.1; omega) (by decide), hq⟩
theorem X_comes {k t : Int32} {Q : Int64 → zSt → Prop} (h : XR σ tp fa l net x ba rg ls cm li oc) (hQ : XR σ tp fa l net x ba rg ls cm li oc → Q (comA cm k t) σ) : w_X11_comes N k t σ Q := by
  have hq := hQ h
  have hl := h.2.2.2.2.2.2.2.2.2.1
  unfold comA at hq
  unfold w_X11_comes w_X1_isPlace_2
  rw [hl.2.1]
  refine ⟨fun q => br_t rfl ?_, fun q => ⟨fun q2 => br_t rfl ?_, fun q2 => br_f (by decide) ?_⟩⟩
  · rw [if_neg (fun z => nlt_le.mpr z.1 q)] at hq; exact hq
  · rw [if_neg (fun z => nle_lt.mpr z.2 q2)] at hq; exact hq
  · obtain ⟨j, hj, e1, e2⟩ := ixc (by have := hl.1; omega) (nlt_le.mp q) (nle_lt.mp q2)
    rw [if_pos ⟨nlt_le.mp q, nle_lt.mp q2⟩, e2] at hq
    rw [e2, (hl.2.2 j hj).1, (hl.2.2 j hj).2, e1]
    have hv : vp_in (nI j) 120 := vp_in_nI (by have := hl.1; omega) (by decide)
    refine ⟨fun q3 => ⟨hv, ?_⟩, fun q3 => ⟨hv, ?_⟩⟩
    · rw [if_pos q3] at hq; exact hq
    · rw [if_neg q3] at hq; exact hq
theorem X_lied {Q : Int64 → zSt → Prop} (h : XR σ tp fa l net x ba rg ls cm li oc) (hQ : XR σ tp fa l net x ba rg ls cm li oc → Q li σ) : w_X11_lied N σ Q := by
  unfold w_X11_lied
  rw [h.2.2.2.2.2.2.2.2.2.2.1]; exact hQ h
theorem X_octet {k : Int32} {Q : Int32 → zSt → Prop} (h : XR σ tp fa l net x ba rg ls cm li oc) (hQ : XR σ tp fa l net x ba rg ls cm li oc → Q (octA oc k) σ) : w_X11_octet N k σ Q := by
  have hq := hQ h
  unfold octA at hq
  unfold w_X11_octet
  refine ⟨fun q => ?_, fun q => ⟨fun q2 => ?_, fun q2 => ?_⟩⟩
  · rw [if_neg (fun z => nlt_le.mpr z.1 q)] at hq; exact hq
  · rw [if_neg (fun z => nle_lt.mpr z.2 q2)] at hq; exact hq
  · obtain ⟨j, hj, e1, e2⟩ := ixc (n := 10) (by decide) (nlt_le.mp q) (nle_lt.mp q2)
    rw [if_pos ⟨nlt_le.mp q, nle_lt.mp q2⟩, e2] at hq
    rw [e2, h.2.2.2.2.2.2.2.2.2.2.2 j hj, e1]
    exact ⟨vp_in_nI hj (by decide), hq⟩
end px
