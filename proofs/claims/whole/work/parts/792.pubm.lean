/-! the reference at the same -/
theorem fst_ex {g : Nat → zO} {r : Nat × Nat × Nat} : ∀ (m k : Nat), fstO g m k = some r → ∃ j, g j = some r
  | 0, _, h => by cases h
  | m + 1, k, h => by
    rw [fstO] at h
    cases hg : g k with
    | some r2 =>
      rw [hg] at h
      cases h
      exact ⟨k, hg⟩
    | none =>
      rw [hg] at h
      exact fst_ex m (k + 1) h
def srt (o : zO) : Prop := ∀ r, o = some r → r.1 ≤ 5
theorem srt_fst {g : Nat → zO} {m k : Nat} (h : ∀ j, srt (g j)) : srt (fstO g m k) := fun r hr => by
  obtain ⟨j, hj⟩ := fst_ex m k hr
  exact h j r hj
theorem srt_or {a b : zO} (ha : srt a) (hb : srt b) : srt (a.or b) := fun r hr => by
  cases h : a with
  | some x => rw [or_s h] at hr; exact ha r (h.trans hr)
  | none => rw [or_n h] at hr; exact hb r hr
theorem srt_n : srt none := fun r h => by cases h
theorem srt_s {s w a : Nat} (h : s ≤ 5) : srt (some (s, w, a)) := fun r hr => by cases hr; exact h
theorem srt_if {c : Prop} [Decidable c] {a b : zO} (ha : srt a) (hb : srt b) : srt (if c then a else b) := by
  by_cases h : c
  · rw [if_pos h]; exact ha
  · rw [if_neg h]; exact hb
theorem srt_sev {l : zL} {e : Nat → Int32} {net p own : Nat} : ∀ (m c : Nat), srt (sevO l e net p own m c)
  | 0, _ => srt_n
  | m + 1, c => by
    rw [sevO]
    exact srt_if srt_n (srt_if (srt_s (by omega)) (srt_sev m _))
theorem srt_rst (l : zL) (e : Nat → Int32) (net kind : Nat) : srt (rstO l e net kind) := by
  have h0 : srt (cutO l e net) := srt_fst (fun j => srt_if (srt_if (srt_s (by omega)) (srt_if (srt_s (by omega)) srt_n)) srt_n)
  have h1 : srt (addO l e net) := srt_fst (fun j => srt_if srt_n (srt_if (srt_s (by omega)) srt_n))
  have h2 : srt (sevA l e net) := srt_fst (fun j => srt_sev _ _)
  have h3 : srt (swaO l e net) := srt_fst (fun p => srt_fst (fun q => srt_if srt_n (srt_if (srt_fst (fun r => srt_if srt_n (srt_if srt_n (srt_if (srt_s (by omega)) srt_n)))) srt_n)))
  have h4 : srt (togO l e net) := srt_fst (fun j => srt_if (srt_s (by omega)) srt_n)
  have h5 : srt (setO l e net) := srt_fst (fun j => srt_if (srt_if srt_n (srt_s (by omega))) srt_n)
  unfold rstO
  split
  · exact h0
  · exact srt_or h0 h1
  · exact srt_or h0 (srt_or h1 h2)
  · exact srt_or h0 (srt_or h1 h3)
  · exact h4
  · exact h5
section pm
variable {N : Nat} {σ τ μ ν : zSt} {tp : Nat × (Nat → Nat)} {fa : Int32 × Int32} {l : zL} {net : Nat} {x : Int32} {ba rg : Nat → Int64} {ls : Nat × (Nat → Int64)} {cm : Nat × (Nat → Int64) × (Nat → Int32)} {li : Int64} {oc : Nat → Int32}
theorem m_isIn {a b c : Int64} {Q : Int32 → zSt → Prop} (hQ : Q (b32 (decide (b ≤ a) && decide (a ≤ c))) μ) : w_X12_isIn N a b c μ Q := by
  unfold w_X12_isIn
  rw [lg_cmp_lt, lg_cmp_gt]
  refine ⟨fun q => ?_, fun q => ⟨fun q2 => ?_, fun q2 => ?_⟩⟩
  · rw [decide_eq_false (fun z => Int64.not_le.mpr q z)] at hQ; exact hQ
  · rw [decide_eq_false (fun z => Int64.not_le.mpr q2 z), Bool.and_false] at hQ; exact hQ
  · rw [decide_eq_true (Int64.not_lt.mp q), decide_eq_true (Int64.not_lt.mp q2)] at hQ; exact hQ
theorem m_isPer {p : Int32} {Q : Int32 → zSt → Prop} (h10 : lPn l ≤ 10) (hP : μ.2.2.1 1 1 = nI (lPn l)) (hQ : Q (b32 (perB l p)) μ) : w_X12_isPerson N p μ Q := by
  unfold w_X12_isPerson
  refine m_many hP (m_isIn ⟨b32_zb _, ?_⟩)
  have e1 : (decide ((0 : Int64) ≤ p.toInt64) && decide (p.toInt64 ≤ (nI (lPn l) - 1).toInt64)) = perB l p := by
    unfold perB
    have h0 : (0 : Int64) = (0 : Int32).toInt64 := by decide
    rw [h0]
    congr 1
    · apply decide_eq_decide.mpr
      exact fa_wide_le _ _
    · apply decide_eq_decide.mpr
      rw [fa_wide_le, fa_le, fa_lt, nI_toInt (by omega)]
      have : (nI (lPn l) - 1).toInt = (lPn l : Int) - 1 := pk_sub_toInt (b := 1) (by omega) (by omega)
      omega
  rw [e1]; exact hQ
theorem M_end {n : Int32} {Q : Int32 → zSt → Prop} (h : MR μ tp fa l net x ba rg ls cm li oc) (hQ : ∀ ν, MR ν (endT tp n) fa l net x ba rg ls cm li oc → Q (b32 (endA tp n)) ν) : w_X12_end N n μ Q := by
  unfold w_X12_end
  obtain ⟨a1, a2⟩ := id h
  rw [a1.2.1]
  have e1 : endA tp n = (decide (0 ≤ n) && decide (n ≤ nI tp.1)) := rfl
  refine ⟨fun q => ?_, fun q => ⟨fun q2 => nm_e ?_, fun q2 => ?_⟩⟩
  · rw [decide_eq_false (fun z => nlt_le.mpr z q), Bool.false_and] at e1
    unfold endT at hQ
    rw [e1, if_neg (by decide)] at hQ
    exact hQ μ h
  · have q0 := nlt_le.mp q
    rw [decide_eq_true q0, decide_eq_true q2] at e1
    have e1 : endA tp n = true := e1
    unfold endT at hQ
    rw [e1, if_pos rfl] at hQ
    have h800 := a1.1
    obtain ⟨j, hj, e2⟩ := nI_of (x := n) q
    subst e2
    have hjt : j ≤ tp.1 := (nI_leI hj (by omega)).mp q2
    rw [nI_clamp hj] at hQ
    obtain ⟨b1, b2, b3, b4, b5, b6, b7, b8, b9, b10, b11, b12⟩ := h
    exact hQ _ ⟨⟨Nat.le_trans hjt a1.1, zI_1s, fun k hk => a1.2.2 k (Nat.lt_of_lt_of_le hk hjt)⟩, b2, mG_fr (I := [0]) (J := []) (A := []) (B := []) (fr_I fr_r (by decide)) (notin rfl) (by decide) (notin rfl) (notin rfl) b3, b4, b5, b6, b7, b8, b9, b10, b11, b12⟩
  · rw [decide_eq_false q2, Bool.and_false] at e1
    unfold endT at hQ
    rw [e1, if_neg (by decide)] at hQ
    exact hQ μ h
theorem M_fault {w : Int32} {Q : Int32 → zSt → Prop} (h : MR μ tp fa l net x ba rg ls cm li oc) (hQ : MR μ tp fa l net x ba rg ls cm li oc → Q (fauA fa w) μ) : w_X12_fault N w μ Q := by
  unfold w_X12_fault
  have hq := hQ h
  unfold fauA at hq
  rw [h.2.1.1, h.2.1.2]
  refine ⟨fun q => by rw [if_pos q] at hq; exact hq, fun q => ?_⟩
  rw [if_neg q] at hq
  exact ⟨fun q2 => by rw [if_pos q2] at hq; exact hq, fun q2 => by rw [if_neg q2] at hq; exact hq⟩
theorem M_net {v : Int64} {Q : Int32 → zSt → Prop} (hN : 1100 < N) (h : MR μ tp fa l net x ba rg ls cm li oc) (hQ : ∀ ν, MR ν tp fa l (netT l net v) x ba rg ls cm li oc → Q (b32 (netB l v)) ν) : w_X12_net N v μ Q := by
  obtain ⟨b1, b2, b3, b4, b5, b6, b7, b8, b9, b10, b11, b12⟩ := id h
  have h10 := b3.1.1
  have hpc := pc_le h10
  have e1 : netB l v = (decide (0 ≤ v) && (decide (v.toBitVec.toNat < 2 ^ lPc l) && mayv l v.toBitVec.toNat)) := rfl
  have no : netB l v = false → Q 0 μ := fun hf => by
    unfold netT at hQ
    rw [hf, if_neg (by decide)] at hQ
    exact hQ μ h
  unfold w_X12_net
  by_cases q : v < 0
  · refine m_may_no b3 (Or.inl q) (br_t rfl (no ?_))
    rw [e1, decide_eq_false (fun z => Int64.not_le.mpr q z), Bool.false_and]
  · obtain ⟨k, hk, ek⟩ := pk_lOf q
    subst ek
    rw [wb_tn (by omega), decide_eq_true (Int64.not_lt.mp q), Bool.true_and] at e1
    by_cases q2 : k < 2 ^ lPc l
    · rw [decide_eq_true q2, Bool.true_and] at e1
      refine m_may (by omega) b3 q2 ⟨fun z => no ?_, fun z => nm_e ?_⟩
      · rw [e1]; exact b32_0.mp z
      · have hm : mayv l k = true := by
          cases hh : mayv l k with
          | true => rfl
          | false => exact absurd (b32_0.mpr hh) z
        unfold netT at hQ
        rw [e1, hm, if_pos rfl, wb_tn (by omega)] at hQ
        exact hQ _ ⟨b1, b2, mG_fr (I := []) (J := [0]) (A := []) (B := []) (fr_J fr_r (by decide)) (notin rfl) (by decide) (notin rfl) (notin rfl) b3, b4, b5, ⟨q2, zJ_2s⟩, b7, b8, b9, b10, b11, b12⟩
    · rw [decide_eq_false q2, Bool.false_and] at e1
      exact m_may_no b3 (Or.inr ⟨k, hk, rfl, by omega⟩) (br_t rfl (no e1))
theorem M_netq {Q : Int64 → zSt → Prop} (h : MR μ tp fa l net x ba rg ls cm li oc) (hQ : MR μ tp fa l net x ba rg ls cm li oc → Q (lN net) μ) : w_X12_net_ N μ Q := by
  unfold w_X12_net_
  rw [h.2.2.2.2.2.1.2]; exact hQ h
theorem mE_ex (h25 : μ.1 14 = x) (h26 : μ.1 16 = -1) : mE μ (fun _ => x) := fun p hp => by
  rw [h26, if_neg (m1_ne (by omega)), h25]
theorem ext_is {n : Int32} : (decide ((-1000 : Int64) ≤ n.toInt64) && decide (n.toInt64 ≤ (1000 : Int64))) = extB n := by
  unfold extB
  have h0 : (-1000 : Int64) = (-1000 : Int32).toInt64 := by decide
  have h1 : (1000 : Int64) = (1000 : Int32).toInt64 := by decide
  rw [h0, h1]
  congr 1
  · exact decide_eq_decide.mpr (fa_wide_le _ _)
  · exact decide_eq_decide.mpr (fa_wide_le _ _)
theorem M_extra {n : Int32} {Q : Int32 → zSt → Prop} (h : MR μ tp fa l net x ba rg ls cm li oc) (hQ : ∀ ν, MR ν tp fa l net (extT x n) ba rg ls cm li oc → Q (b32 (extB n)) ν) : w_X12_extra N n μ Q := by
  obtain ⟨b1, b2, b3, b4, b5, b6, b7, b8, b9, b10, b11, b12⟩ := id h
  unfold w_X12_extra
  refine m_isIn ?_
  rw [ext_is]
  unfold extT at hQ
  cases e1 : extB n with
  | false =>
    rw [e1, if_neg (by decide)] at hQ
    exact br_t rfl (hQ μ h)
  | true =>
    rw [e1, if_pos rfl] at hQ
    refine br_f (by decide) (nm_e ?_)
    unfold extB at e1
    rw [Bool.and_eq_true, decide_eq_true_eq, decide_eq_true_eq, fa_le, fa_le, lit_m1000, lit_1000] at e1
    obtain ⟨c1, c2, c3, c4, c5, c6, c7⟩ := b3
    have f : fr [14] [] [] [] μ (zI μ 14 n) := fr_I fr_r (by decide)
    exact hQ _ ⟨b1, b2, ⟨c1, c2, mP_fr f (notin rfl) (by decide) c3, mR_fr f (notin rfl) c4, mE_ex zI_1s b5.2.2, c6, c7⟩, b4, ⟨e1, zI_1s, b5.2.2⟩, b6, b7, b8, b9, b10, b11, b12⟩
theorem M_worth {p : Int32} {Q : Int64 → zSt → Prop} (hN : 1100 < N) (h : MR μ tp fa l net x ba rg ls cm li oc) (hQ : ∀ ν, MR ν tp fa l net x ba rg ls cm li oc → Q (worA l x net p) ν) : w_X12_worth N p μ Q := by
  obtain ⟨b1, b2, b3, b4, b5, b6, b7, b8, b9, b10, b11, b12⟩ := id h
  have h10 := b3.1.1
  unfold w_X12_worth
  rw [b6.2]
  unfold worA at hQ
  refine ⟨fun q => ?_, fun q => m_isPer h10 b3.2.2.1.1 ⟨fun q2 => ?_, fun q2 => ?_⟩⟩
  · rw [if_pos q] at hQ
    exact m_ofAll hN b3 b6.1 (fun τ f1 g1 => hQ τ (MR_s (mS_F f1) g1 h))
  · rw [if_neg q, if_neg (by rw [b32_0.mp q2]; decide)] at hQ
    exact hQ μ h
  · have hp : perB l p = true := by
      cases hh : perB l p with
      | true => rfl
      | false => exact absurd (b32_0.mpr hh) q2
    rw [if_neg q, if_pos hp] at hQ
    obtain ⟨k, hk, e1, e2⟩ := per_t h10 hp
    rw [e2] at hQ
    rw [b6.2, e1]
    exact m_of hN b3 hk b6.1 (fun τ f1 g1 => hQ τ (MR_s (mS_F f1) g1 h))
theorem M_ways {a b : Int32} {Q : Int32 → zSt → Prop} (hN : 1100 < N) (h : MR μ tp fa l net x ba rg ls cm li oc) (hQ : ∀ ν, MR ν tp fa l net x ba rg ls cm li oc → Q (wayA l net a b) ν) : w_X12_ways N a b μ Q := by
  obtain ⟨b1, b2, b3, b4, b5, b6, b7, b8, b9, b10, b11, b12⟩ := id h
  have h10 := b3.1.1
  unfold w_X12_ways
  unfold wayA at hQ
  refine m_isPer h10 b3.2.2.1.1 ⟨fun q => ?_, fun q => m_isPer h10 b3.2.2.1.1 ⟨fun q2 => ?_, fun q2 => ?_⟩⟩
  · rw [if_neg (by rw [b32_0.mp q]; decide)] at hQ
    exact hQ μ h
  · have hp : perB l a = true := by
      cases hh : perB l a with
      | true => rfl
      | false => exact absurd (b32_0.mpr hh) q
    rw [if_pos hp, if_neg (by rw [b32_0.mp q2]; decide)] at hQ
    exact hQ μ h
  · have hp : perB l a = true := by
      cases hh : perB l a with
      | true => rfl
      | false => exact absurd (b32_0.mpr hh) q
    have hp2 : perB l b = true := by
      cases hh : perB l b with
      | true => rfl
      | false => exact absurd (b32_0.mpr hh) q2
    rw [if_pos hp, if_pos hp2] at hQ
    obtain ⟨j, hj, e1, e2⟩ := per_t h10 hp
    obtain ⟨k, hk, e3, e4⟩ := per_t h10 hp2
    rw [e2, e4] at hQ
    rw [b6.2, e1, e3]
    refine m_looks (l := l) (by omega) h10 b3.2.2.1.1 (net45 h10 b6.1) (fun υ f1 u1 u2 => ?_)
    rw [ix10, nI_clamp (n := 10 * j + k) (by omega), u2.1 j k hj hk]
    have ff : mF μ υ := fr_w f1 (subl rfl) (subl rfl) (subl rfl) (subl rfl)
    refine ⟨vp_in_nI (by omega) (by decide), hQ υ (MR_s (mS_F ff) (mG_F ff (Or.inr ⟨net, b6.1, u1, u2⟩) (fun h5 => ?_) b3) h)⟩
    rw [f1.1 19 (by decide)]
    rcases b3.2.2.2.2.2.2 h5 with z | ⟨z1, z2⟩
    · exact Or.inl z
    · exact Or.inr ⟨z1, by unfold mTb; rw [f1.2.2.2 3 (by decide)]; exact z2⟩
theorem kin_is {k : Int32} : (decide ((0 : Int64) ≤ k.toInt64) && decide (k.toInt64 ≤ (5 : Int64))) = kinB k := by
  unfold kinB
  have h0 : (0 : Int64) = (0 : Int32).toInt64 := by decide
  have h1 : (5 : Int64) = (5 : Int32).toInt64 := by decide
  rw [h0, h1]
  congr 1
  · exact decide_eq_decide.mpr (fa_wide_le _ _)
  · apply decide_eq_decide.mpr
    rw [fa_wide_le, fa_le, fa_lt]
    have e5 : (5 : Int32).toInt = 5 := by decide
    have e6 : (6 : Int32).toInt = 6 := by decide
    omega
theorem M_rest {k : Int32} {Q : Int32 → zSt → Prop} (hN : 1100 < N) (h : MR μ tp fa l net x ba rg ls cm li oc) (hQ : ∀ ν, MR ν tp fa l net x (resT l x net ba k) rg ls cm li oc → Q (resA l x net k) ν) : w_X12_rest N k μ Q := by
  obtain ⟨b1, b2, b3, b4, b5, b6, b7, b8, b9, b10, b11, b12⟩ := id h
  have h10 := b3.1.1
  have no : resC l k = false → Q (-1) μ := fun hf => by
    unfold resT resA at hQ
    rw [hf, if_neg (by decide), if_neg (by decide)] at hQ
    exact hQ μ h
  have ec : resC l k = (kinB k && (decide (k ≠ 5) || decide (lPn l ≤ 5))) := rfl
  have yes : resC l k = true → b_X12_rest_27 N Q k μ := fun hc => by
    unfold resT resA resO at hQ
    rw [hc, if_pos rfl, if_pos rfl] at hQ
    rw [hc, eq_comm, Bool.and_eq_true] at ec
    obtain ⟨j, hj, e1, e2⟩ := kin_t ec.1
    rw [e2] at hQ
    unfold b_X12_rest_27
    rw [b6.2, e1]
    refine m_isRest hN b3 (ex_ok2 b5.1) hj (fun z => ?_) b6.1 (fun τ f1 g1 o1 => ?_)
    · have := ec.2
      rw [e1, z] at this
      have this : (decide ((5 : Int32) ≠ 5) || decide (lPn l ≤ 5)) = true := this
      simpa using this
    · have hX := MR_s (mS_5 f1) g1 h
      have hsr := srt_rst l (fun _ => x) net j
      cases ho : rstO l (fun _ => x) net j with
      | none =>
        rw [ho] at hQ
        exact br_f (show ¬ (1 : Int32) = 0 by decide) (hQ τ hX)
      | some r =>
        rw [ho] at hQ o1 hsr
        obtain ⟨o2, o3, o4⟩ := o1 r.1 r.2.1 r.2.2 rfl
        have h5 := hsr r rfl
        refine br_t rfl (nm_e (nm_e (nm_e ?_)))
        obtain ⟨c1, c2, c3, c4, c5, c6, c7, c8, c9, c10, c11, c12⟩ := hX
        refine hQ _ ⟨c1, c2, mG_fr (I := [22, 23]) (J := [3]) (A := []) (B := []) (fr_J (fr_I (fr_I fr_r (by decide)) (by decide)) (by decide)) (notin rfl) (by decide) (notin rfl) (notin rfl) c3, c4, c5, c6, Or.inr ⟨?_, ?_, ?_, ?_⟩, c8, c9, c10, c11, c12⟩
        · show ¬ τ.1 20 = -1
          rw [o2]; exact m1_ne (by omega)
        · show (nI r.1).toInt64 = (τ.1 20).toInt64
          rw [o2]
        · show (nI r.2.1).toInt64 = (τ.1 21).toInt64
          rw [o3]
        · show lN r.2.2 = τ.2.1 2
          rw [o4]
  unfold w_X12_rest
  refine m_isIn ?_
  rw [kin_is]
  cases hk : kinB k with
  | false => exact br_t rfl (no (by rw [ec, hk, Bool.false_and]))
  | true =>
    refine br_f (by decide) ⟨fun q3 => m_many b3.2.2.1.1 ⟨fun q4 => yes ?_, fun q4 => no ?_⟩, fun q3 => yes ?_⟩
    · have q4 : lPn l ≤ 5 := (nI_leI (b := 5) (by omega) (by omega)).mp q4
      rw [ec, hk, decide_eq_true q4, Bool.or_true]; rfl
    · have q4 : ¬ lPn l ≤ 5 := fun z => q4 (nI_le (b := 5) z (by omega))
      rw [ec, decide_eq_false q4, decide_eq_false (fun z => z q3), Bool.or_false, Bool.and_false]
    · rw [ec, hk, decide_eq_true q3]; rfl
theorem M_bars {k : Int32} {Q : Int64 → zSt → Prop} (h : MR μ tp fa l net x ba rg ls cm li oc) (hQ : MR μ tp fa l net x ba rg ls cm li oc → Q (rowA 3 ba k) μ) : w_X12_bars N k μ Q := by
  have hq := hQ h
  unfold rowA at hq
  unfold w_X12_bars
  have ho : 0 ≤ k ∧ k < nI 3 → k = 0 ∨ k = 1 ∨ k = 2 := fun z => by
    obtain ⟨j, hj, e1, e2⟩ := ixc (n := 3) (by decide) z.1 z.2
    have : j = 0 ∨ j = 1 ∨ j = 2 := by omega
    rcases this with q | q | q <;> subst q
    · exact Or.inl e1
    · exact Or.inr (Or.inl e1)
    · exact Or.inr (Or.inr e1)
  rcases h.2.2.2.2.2.2.1 with ⟨m1, m2⟩ | ⟨m1, m2, m3, m4⟩
  · refine br_t m1 ?_
    by_cases z : 0 ≤ k ∧ k < nI 3
    · rw [if_pos z] at hq
      obtain ⟨j, hj, e1, e2⟩ := ixc (n := 3) (by decide) z.1 z.2
      rw [e2, m2 j hj] at hq
      exact hq
    · rw [if_neg z] at hq; exact hq
  · refine br_f m1 ⟨fun q => ?_, fun q => ⟨fun q2 => ?_, fun q2 => ⟨fun q3 => ?_, fun q3 => ?_⟩⟩⟩
    · subst q
      rw [if_pos (by decide)] at hq
      rw [← m2]; exact hq
    · subst q2
      rw [if_pos (by decide)] at hq
      rw [← m3]; exact hq
    · subst q3
      rw [if_pos (by decide)] at hq
      rw [← m4]; exact hq
    · rw [if_neg (fun z => by rcases ho z with w | w | w; exact q w; exact q2 w; exact q3 w)] at hq
      exact hq
theorem M_ring {k : Int32} {Q : Int64 → zSt → Prop} (h : MR μ tp fa l net x ba rg ls cm li oc) (hQ : MR μ tp fa l net x ba rg ls cm li oc → Q (rowA 2 rg k) μ) : w_X12_ring N k μ Q := by
  have hq := hQ h
  unfold rowA at hq
  unfold w_X12_ring
  have ho : 0 ≤ k ∧ k < nI 2 → k = 0 ∨ k = 1 := fun z => by
    obtain ⟨j, hj, e1, e2⟩ := ixc (n := 2) (by decide) z.1 z.2
    have : j = 0 ∨ j = 1 := by omega
    rcases this with q | q <;> subst q
    · exact Or.inl e1
    · exact Or.inr e1
  rcases h.2.2.2.2.2.2.2.1 with ⟨m1, m2⟩ | ⟨m1, m2, m3⟩
  · refine br_t m1 ?_
    by_cases z : 0 ≤ k ∧ k < nI 2
    · rw [if_pos z] at hq
      obtain ⟨j, hj, e1, e2⟩ := ixc (n := 2) (by decide) z.1 z.2
      rw [e2, m2 j hj] at hq
      exact hq
    · rw [if_neg z] at hq; exact hq
  · refine br_f m1 ⟨fun q => ?_, fun q => ⟨fun q2 => ?_, fun q2 => ?_⟩⟩
    · subst q
      rw [if_pos (by decide)] at hq
      rw [← m2]; exact hq
    · subst q2
      rw [if_pos (by decide)] at hq
      rw [← m3]; exact hq
    · rw [if_neg (fun z => by rcases ho z with w | w; exact q w; exact q2 w)] at hq
      exact hq
theorem M_one {k : Int32} {Q : Int64 → zSt → Prop} (h : MR μ tp fa l net x ba rg ls cm li oc) (hQ : MR μ tp fa l net x ba rg ls cm li oc → Q (rowA ls.1 ls.2 k) μ) : w_X12_one N k μ Q := by
  have hq := hQ h
  have hl := h.2.2.2.2.2.2.2.2.1
  unfold rowA at hq
  unfold w_X12_one
  rw [hl.2.1]
  refine ⟨fun q => ?_, fun q => ⟨fun q2 => ?_, fun q2 => ?_⟩⟩
  · rw [if_neg (fun z => nlt_le.mpr z.1 q)] at hq; exact hq
  · rw [if_neg (fun z => nle_lt.mpr z.2 q2)] at hq; exact hq
  · obtain ⟨j, hj, e1, e2⟩ := ixc (by have := hl.1; omega) (nlt_le.mp q) (nle_lt.mp q2)
    rw [if_pos ⟨nlt_le.mp q, nle_lt.mp q2⟩, e2] at hq
    rw [e2, hl.2.2 j hj, e1]
    exact ⟨vp_in_nI (by have := hl.1; omega) (by decide), hq⟩
theorem M_comes {k t : Int32} {Q : Int64 → zSt → Prop} (h : MR μ tp fa l net x ba rg ls cm li oc) (hQ : MR μ tp fa l net x ba rg ls cm li oc → Q (comA cm k t) μ) : w_X12_comes N k t μ Q := by
  have hq := hQ h
  have hl := h.2.2.2.2.2.2.2.2.2.1
  unfold comA at hq
  unfold w_X12_comes
  rw [hl.2.1]
  refine ⟨fun q => ?_, fun q => ⟨fun q2 => ?_, fun q2 => ?_⟩⟩
  · rw [if_neg (fun z => nlt_le.mpr z.1 q)] at hq; exact hq
  · obtain ⟨j, hj, e1, e2⟩ := ixc (by have := hl.1; omega) (nlt_le.mp q) q2
    rw [if_pos ⟨nlt_le.mp q, q2⟩, e2] at hq
    rw [e2, (hl.2.2 j hj).1, (hl.2.2 j hj).2, e1]
    have hv : vp_in (nI j) 120 := vp_in_nI (by have := hl.1; omega) (by decide)
    refine ⟨fun q3 => ⟨hv, ?_⟩, fun q3 => ⟨hv, ?_⟩⟩
    · rw [if_pos q3] at hq; exact hq
    · rw [if_neg q3] at hq; exact hq
  · rw [if_neg (fun z => q2 z.2)] at hq; exact hq
theorem M_lied {Q : Int64 → zSt → Prop} (h : MR μ tp fa l net x ba rg ls cm li oc) (hQ : MR μ tp fa l net x ba rg ls cm li oc → Q li μ) : w_X12_lied N μ Q := by
  unfold w_X12_lied
  have hq := hQ h
  rcases h.2.2.2.2.2.2.2.2.2.2.1 with ⟨m1, m2⟩ | ⟨m1, m2⟩
  · rw [m2] at hq; exact br_t m1 hq
  · rw [m2] at hq; exact br_f m1 hq
theorem M_octet {k : Int32} {Q : Int32 → zSt → Prop} (h : MR μ tp fa l net x ba rg ls cm li oc) (hQ : MR μ tp fa l net x ba rg ls cm li oc → Q (octA oc k) μ) : w_X12_octet N k μ Q := by
  have hq := hQ h
  unfold octA at hq
  unfold w_X12_octet
  rcases h.2.2.2.2.2.2.2.2.2.2.2 with ⟨m1, m2⟩ | ⟨m1, m2⟩
  · rw [m1]
    refine ⟨fun q => ?_, fun q => ⟨fun q2 => ?_, fun q2 => absurd (nlt_le.mp q) q2⟩⟩
    · rw [if_neg (fun z => nlt_le.mpr z.1 q)] at hq; exact hq
    · by_cases z : 0 ≤ k ∧ k < 10
      · rw [if_pos z] at hq
        obtain ⟨j, hj, e1, e2⟩ := ixc (n := 10) (by decide) z.1 z.2
        rw [e2, m2 j hj] at hq
        exact hq
      · rw [if_neg z] at hq; exact hq
  · rw [m1]
    refine ⟨fun q => ?_, fun q => ⟨fun q2 => ?_, fun q2 => ?_⟩⟩
    · rw [if_neg (fun z => nlt_le.mpr z.1 q)] at hq; exact hq
    · rw [if_neg (fun z => nle_lt.mpr z.2 q2)] at hq; exact hq
    · obtain ⟨j, hj, e1, e2⟩ := ixc (n := 10) (by decide) (nlt_le.mp q) (nle_lt.mp q2)
      rw [if_pos ⟨nlt_le.mp q, nle_lt.mp q2⟩, e2] at hq
      rw [e2, m2 j hj, e1]
      exact ⟨vp_in_nI hj (by decide), hq⟩
end pm
