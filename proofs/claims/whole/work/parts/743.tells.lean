/-! the reference at the same rows -/
def gR (c : Nat) : Nat := if 100 ≤ c then c + 900 else if 30 ≤ c then c + 70 else if c = 24 then 18 else if 20 ≤ c then c - 13 else if 6 ≤ c then c + 5 else c + 1
theorem flr_ok {a b : Int64} (ha : okv true a) (hb : okv true b) : okv true (flr a b) := by
  have ha : -1000000 ≤ a.toInt ∧ a.toInt ≤ 1000000 := ha
  have hb : -1000000 ≤ b.toInt ∧ b.toInt ≤ 1000000 := hb
  show -1000000 ≤ (flr a b).toInt ∧ (flr a b).toInt ≤ 1000000
  have hq := Int.natAbs_tdiv a.toInt b.toInt
  have hle : (a.toInt.tdiv b.toInt).natAbs ≤ a.toInt.natAbs := by rw [hq]; exact Nat.div_le_self _ _
  have hd : (a / b).toInt = a.toInt.tdiv b.toInt := by
    rw [Int64.toInt_div]
    exact fb_bmodL (by omega) (by omega)
  unfold flr
  by_cases h0 : b = 0
  · rw [if_pos h0]; decide
  rw [if_neg h0]
  by_cases h1 : a - a / b * b = 0
  · rw [if_pos h1, hd]; omega
  rw [if_neg h1]
  by_cases h2 : (0 ≤ a ↔ 0 ≤ b)
  · rw [if_pos h2, hd]; omega
  rw [if_neg h2]
  have hb0 : b.toInt ≠ 0 := fun q => h0 ((fa_eq64 _ _).mpr q)
  have hb1 : b.toInt.natAbs ≠ 1 := by
    intro q
    have q2 : b.toInt = 1 ∨ b.toInt = -1 := by omega
    apply h1
    rw [fa_eq64]
    have hm : (a / b * b).toInt = a.toInt := by
      rcases q2 with q2 | q2
      · have e : (a / b).toInt = a.toInt := by rw [hd, q2]; exact Int.tdiv_one _
        rw [fb_mulL (by rw [e, q2]; omega) (by rw [e, q2]; omega), e, q2]; omega
      · have e : (a / b).toInt = -a.toInt := by rw [hd, q2, Int.tdiv_neg, Int.tdiv_one]
        rw [fb_mulL (by rw [e, q2]; omega) (by rw [e, q2]; omega), e, q2]; omega
    rw [fb_subL (by omega) (by omega), hm]
    show a.toInt - a.toInt = 0
    omega
  have h3 : (a.toInt.tdiv b.toInt).natAbs ≤ a.toInt.natAbs / 2 := by
    rw [hq]; exact Nat.div_le_div_left (by omega) (by decide)
  have e1 : (1 : Int64).toInt = 1 := by decide
  rw [fb_subL (by rw [hd, e1]; omega) (by rw [hd, e1]; omega), hd, e1]
  omega
section me
variable {N : Nat} {μ : zSt} {Q : zSt → Prop}
def mst (μ : zSt) (st : List Int64) : Prop := μ.1 18 = nI st.length ∧ stk (μ.2.2.2 2) st
theorem m_puts {st : List Int64} {v : Int64} (h : mst μ st) (hl : st.length < 900) (hQ : ∀ τ, fr [18] [] [] [2] μ τ → mst τ (v :: st) → Q τ) : w_X12_puts N v μ Q := by
  unfold w_X12_puts
  rw [h.1]
  refine ⟨vp_in_nI hl (by decide), nm_e (nm_e ?_)⟩
  rw [nI_clamp (by omega)]
  refine hQ _ (fr_I (fr_B fr_r (by decide)) (by decide)) ⟨?_, ?_⟩
  · rw [zI_1s, zB_1, h.1, nI_1]; rfl
  · rw [zI_2, zB_4s]; exact stk_cons h.2
theorem m_clip {v : Int64} {Q : Int64 → zSt → Prop} (hQ : Q (clipL v) μ) : w_X12_clip N v μ Q := by
  unfold w_X12_clip
  simp only [lg_cmp_le, lg_cmp_ge]
  unfold clipL at hQ
  refine ⟨fun h1 => ⟨fun h2 => ?_, fun h2 => ?_⟩, fun h1 => ?_⟩
  · rw [if_pos h1, if_pos h2] at hQ; exact hQ
  · rw [if_pos h1, if_neg h2] at hQ; exact hQ
  · rw [if_neg h1] at hQ; exact hQ
theorem m_floor {a b : Int64} {Q : Int64 → zSt → Prop} (hQ : Q (flr a b) μ) : w_X12_floor N a b μ Q := by
  unfold w_X12_floor b_X12_floor_32 b_X12_floor_43
  simp only [lg_cmp_eq, lg_cmp_ge, forall_eq]
  have key : ∀ v, v = flr a b → Q v μ := fun v e => by rw [e]; exact hQ
  unfold flr at key
  refine ⟨fun hb => key _ (by rw [if_pos hb]), fun hb => ⟨hb, hb, fun h => ?_, fun h => ⟨fun ha => ⟨fun hb2 => ?_, fun hb2 => ?_⟩, fun ha => ⟨fun hb2 => ?_, fun hb2 => ?_⟩⟩⟩⟩
  · exact key _ (by rw [if_neg hb, if_pos h])
  · exact br_t trivial (key _ (by rw [if_neg hb, if_neg h, if_pos ⟨fun _ => hb2, fun _ => ha⟩]))
  · exact br_f (by decide) (key _ (by rw [if_neg hb, if_neg h, if_neg (fun q => hb2 (q.mp ha))]))
  · exact br_f (by decide) (key _ (by rw [if_neg hb, if_neg h, if_neg (fun q => ha (q.mpr hb2))]))
  · exact br_t trivial (key _ (by rw [if_neg hb, if_neg h, if_pos ⟨fun q => absurd q ha, fun q => absurd q hb2⟩]))
theorem and_b {a b : Int64} (ha : okv false a) (hb : okv false b) : a * b = clipL (a &&& b) ∧ (a + b ≤ 0 → clipL (a ||| b) = 0) ∧ (¬ a + b ≤ 0 → clipL (a ||| b) = 1) := by
  have ha : a = 0 ∨ a = 1 := ha
  have hb : b = 0 ∨ b = 1 := hb
  rcases ha with h | h <;> subst h <;> rcases hb with h | h <;> subst h <;> decide
theorem m_joins {c : Nat} {a b : Int64} {t : List Int64} (hm : mst μ (b :: a :: t)) (hl : t.length < 100) (hc : (c < 9 ∧ okv true a ∧ okv true b) ∨ (9 ≤ c ∧ c < 11 ∧ okv false a ∧ okv false b)) (hQ : ∀ τ, fr [18] [] [] [2] μ τ → mst τ (clipL (rawop c a b) :: t) → Q τ) : w_X12_joins N (nI (gR c)) μ Q := by
  unfold w_X12_joins
  have e0 : μ.1 18 = nI (t.length + 2) := hm.1
  have e1 : nI (t.length + 2) - 1 = nI (t.length + 1) := by rw [li_1, pk_sub (by omega)]; rfl
  have e2 : nI (t.length + 2) - 2 = nI t.length := by rw [li_2, pk_sub (by omega)]; rfl
  rw [e0, e1, e2, nI_clamp (n := t.length + 1) (by omega), nI_clamp (n := t.length) (by omega)]
  have hb : μ.2.2.2 2 (t.length + 1) = b := hm.2.1
  have ha : μ.2.2.2 2 t.length = a := hm.2.2.1
  rw [ha, hb]
  refine ⟨vp_in_nI (by omega) (by decide), nm_e ⟨vp_in_nI (by omega) (by decide), nm_e (nm_e ?_)⟩⟩
  have hst : mst (zI μ 18 (nI t.length)) t := ⟨zI_1s, hm.2.2.2⟩
  have hfr : fr [18] [] [] [2] μ (zI μ 18 (nI t.length)) := fr_I fr_r (by decide)
  have key : ∀ v, v = clipL (rawop c a b) → w_X12_puts N v (zI μ 18 (nI t.length)) Q := fun v e => m_puts hst (by omega) (fun τ h1 h2 => hQ τ (fr_t hfr h1) (by rw [← e]; exact h2))
  generalize zI μ 18 (nI t.length) = υ at *
  rcases hc with ⟨hc, oa, ob⟩ | ⟨hc, hc2, oa, ob⟩
  · have hcs : c = 0 ∨ c = 1 ∨ c = 2 ∨ c = 3 ∨ c = 4 ∨ c = 5 ∨ c = 6 ∨ c = 7 ∨ c = 8 := by omega
    have mn : ∀ p : Prop, ∀ [Decidable p], clipL (if p then b else a) = if p then b else a := fun p _ => by
      by_cases q : p
      · rw [if_pos q]; exact clip_in ob
      · rw [if_neg q]; exact clip_in oa
    have bl : ∀ p : Prop, ∀ [Decidable p], clipL (if p then 0 else 1) = if p then 0 else 1 := fun p _ => by
      by_cases q : p
      · rw [if_pos q]; decide
      · rw [if_neg q]; decide
    have bl2 : ∀ p : Prop, ∀ [Decidable p], clipL (if p then 1 else 0) = if p then 1 else 0 := fun p _ => by
      by_cases q : p
      · rw [if_pos q]; decide
      · rw [if_neg q]; decide
    unfold b_X12_joins_177 b_X12_joins_197 b_X12_joins_216 b_X12_joins_235 b_X12_joins_254
    rcases hcs with q | q | q | q | q | q | q | q | q <;> subst q
    · exact br_t rfl (m_clip (key _ rfl))
    · exact br_f (by decide) (br_t rfl (m_clip (key _ rfl)))
    · exact br_f (by decide) (br_f (by decide) (br_t rfl (m_clip (key _ rfl))))
    · exact br_f (by decide) (br_f (by decide) (br_f (by decide) (br_t rfl (m_floor (key _ (clip_in (flr_ok oa ob)).symm)))))
    · have key : ∀ v, v = (if b ≤ a then b else a) → w_X12_puts N v υ Q := fun v e => key v (e.trans (mn (b ≤ a)).symm)
      refine br_f (by decide) (br_f (by decide) (br_f (by decide) (br_f (by decide) (br_t rfl ⟨fun q => key _ (if_pos ((lg_cmp_ge _ _).mp q)).symm, fun q => key _ (if_neg (fun r => q ((lg_cmp_ge _ _).mpr r))).symm⟩))))
    · have key : ∀ v, v = (if a ≤ b then b else a) → w_X12_puts N v υ Q := fun v e => key v (e.trans (mn (a ≤ b)).symm)
      refine br_f (by decide) (br_f (by decide) (br_f (by decide) (br_f (by decide) (br_f (by decide) (br_t rfl ⟨fun q => key _ (if_pos ((lg_cmp_le _ _).mp q)).symm, fun q => key _ (if_neg (fun r => q ((lg_cmp_le _ _).mpr r))).symm⟩)))))
    · have key : ∀ v, v = (if b ≤ a then (0 : Int64) else 1) → w_X12_puts N v υ Q := fun v e => key v (e.trans (bl (b ≤ a)).symm)
      refine br_f (by decide) (br_f (by decide) (br_f (by decide) (br_f (by decide) (br_f (by decide) (br_f (by decide) (br_f (by decide) (br_f (by decide) (br_f (by decide) (br_f (by decide) (br_t rfl ⟨fun q => key _ (if_pos ((lg_cmp_ge _ _).mp q)).symm, fun q => key _ (if_neg (fun r => q ((lg_cmp_ge _ _).mpr r))).symm⟩))))))))))
    · have key : ∀ v, v = (if a ≤ b then (0 : Int64) else 1) → w_X12_puts N v υ Q := fun v e => key v (e.trans (bl (a ≤ b)).symm)
      refine br_f (by decide) (br_f (by decide) (br_f (by decide) (br_f (by decide) (br_f (by decide) (br_f (by decide) (br_f (by decide) (br_f (by decide) (br_f (by decide) (br_f (by decide) (br_f (by decide) (br_t rfl ⟨fun q => key _ (if_pos ((lg_cmp_le _ _).mp q)).symm, fun q => key _ (if_neg (fun r => q ((lg_cmp_le _ _).mpr r))).symm⟩)))))))))))
    · have key : ∀ v, v = (if a = b then (1 : Int64) else 0) → w_X12_puts N v υ Q := fun v e => key v (e.trans (bl2 (a = b)).symm)
      refine br_f (by decide) (br_f (by decide) (br_f (by decide) (br_f (by decide) (br_f (by decide) (br_f (by decide) (br_f (by decide) (br_f (by decide) (br_f (by decide) (br_f (by decide) (br_f (by decide) (br_f (by decide) (br_t rfl ⟨fun q => key _ (if_pos ((lg_cmp_eq _ _).mp q)).symm, fun q => key _ (if_neg (fun r => q ((lg_cmp_eq _ _).mpr r))).symm⟩))))))))))))
  · obtain ⟨g1, g2, g3⟩ := and_b oa ob
    have hcs : c = 9 ∨ c = 10 := by omega
    unfold b_X12_joins_286
    rcases hcs with q | q <;> subst q
    · exact br_f (by decide) (br_f (by decide) (br_f (by decide) (br_f (by decide) (br_f (by decide) (br_f (by decide) (br_f (by decide) (br_f (by decide) (br_f (by decide) (br_f (by decide) (br_f (by decide) (br_f (by decide) (br_f (by decide) (br_t rfl (key _ g1))))))))))))))
    · exact br_f (by decide) (br_f (by decide) (br_f (by decide) (br_f (by decide) (br_f (by decide) (br_f (by decide) (br_f (by decide) (br_f (by decide) (br_f (by decide) (br_f (by decide) (br_f (by decide) (br_f (by decide) (br_f (by decide) (br_f (by decide) ⟨fun q => key _ (g2 ((lg_cmp_le _ _).mp q)).symm, fun q => key _ (g3 (fun r => q ((lg_cmp_le _ _).mpr r))).symm⟩)))))))))))))
end me
/-- what the reference tells of two -/
def mfc (μ : zSt) (a b : Nat) : Nat → Int64 := fun k => match k with
  | 0 => (μ.2.2.1 12 (10 * a + b)).toInt64
  | 1 => (if μ.2.2.1 2 (10 + a) ≤ μ.2.2.1 2 (10 + b) then μ.2.2.1 2 (10 + b) - μ.2.2.1 2 (10 + a) else μ.2.2.1 2 (10 + a) - μ.2.2.1 2 (10 + b)).toInt64
  | 2 => (μ.2.2.1 13 a).toInt64
  | 3 => (μ.2.2.1 13 b).toInt64
  | _ => (μ.1 15).toInt64
section mf
variable {N : Nat} {μ : zSt} {Q : Int64 → zSt → Prop}
/-- one order of a row -/
theorem m_turn {k8 : Int32 → Int32 → Int32 → Int32 → zSt → Prop} {c k a b : Nat} {to : Int32} {ts us : List Bool} {st : List Int64} (ha : a < 10) (hb : b < 10) (hk : k < 800) (hto : ¬ to ≤ nI k) (hco : μ.2.2.1 10 (900 + k) = nI (gR c)) (ht : ty c ts = some us) (ho : okst ts st) (ht2 : ts.length ≤ 64) (hm : mst μ st) (hQ : ∀ τ, fr [18] [] [] [2] μ τ → mst τ (ex (mfc μ a b) a c st) → k8 to (nI a) (nI b) (nI (k + 1)) τ) : b_X12_tellsCodes_8 N k8 Q to (nI a) (nI b) (nI k) μ := by
  have hl := okst_len ho
  unfold b_X12_tellsCodes_8
  rw [li_900, nI_add, nI_clamp (n := 900 + k) (by omega), hco]
  refine br_f hto ⟨vp_in_nI (by omega) (by decide), nm_e ?_⟩
  have eA : (10 : Int32) * nI a + nI b = nI (10 * a + b) := by rw [li_10, pk_mul, nI_add]
  have eP : ∀ p : Nat, (10 : Int32) + nI p = nI (10 + p) := fun p => by rw [li_10, nI_add]
  have ek : nI k + 1 = nI (k + 1) := nI_1 k
  have hpush : ∀ v, v :: st = ex (mfc μ a b) a c st → w_X12_puts N v μ (fun τ => ∀ v3 : Int32, v3 = nI k + 1 → k8 to (nI a) (nI b) v3 τ) := fun v e => m_puts hm (by omega) (fun τ h1 h2 => nm_e (by rw [ek]; exact hQ τ h1 (by rw [← e]; exact h2)))
  have lt : ∀ i j, i < j → j < 2 ^ 31 → nI i < nI j := fun i j h hj => nI_lt h hj
  have nl : ∀ i j, j ≤ i → i < 2 ^ 31 → ¬ nI i < nI j := fun i j h hi => nI_nlt h hi
  unfold ex at hpush hQ
  rcases ty_in ht with ⟨h1, h2, e⟩ | ⟨h1, h2, e⟩ | ⟨h1, h2, e⟩ | ⟨h1, e⟩ | ⟨h1, t, e1, e⟩ | ⟨h1, t, e1, e⟩ | ⟨h1, h2, t, e1, e⟩ | ⟨h1, h2, t, e1, e⟩
  · have eg : gR c = c + 900 := if_pos h1
    rw [if_pos h1] at hpush
    rw [eg]
    refine br_f (nl _ 1000 (by omega) (by omega)) ?_
    have : (nI (c + 900) - 1000).toInt64 = lN (c - 100) := by
      rw [li_1000, pk_sub (by omega), nI_l (by omega), show c + 900 - 1000 = c - 100 by omega]
    rw [this]
    exact hpush _ rfl
  · have eg : gR c = c + 70 := by unfold gR; rw [if_neg (by omega), if_pos h1]
    rw [if_neg (by omega), if_pos h1] at hpush
    rw [eg]
    unfold b_X12_tellsCodes_71
    refine br_t (lt _ 1000 (by omega) (by omega)) (br_f (nl _ 100 (by omega) (by omega)) ?_)
    rw [li_100, pk_sub (by omega), show c + 70 - 100 = c - 30 by omega]
    refine ⟨fun q => hpush _ ?_, fun q => hpush _ ?_⟩
    · rw [if_pos ((nI_eq (by omega) (by omega)).mp q)]
    · rw [if_neg (fun r => q (by rw [r]))]
  · have eg : gR c = if c = 24 then 18 else c - 13 := by
      unfold gR
      rw [if_neg (by omega), if_neg (by omega)]
      by_cases q : c = 24
      · rw [if_pos q, if_pos q]
      · rw [if_neg q, if_neg q, if_pos h1]
    rw [if_neg (by omega), if_neg (by omega), if_pos h1] at hpush
    have hcs : c = 20 ∨ c = 21 ∨ c = 22 ∨ c = 23 ∨ c = 24 := by omega
    rw [eA, eP, eP, nI_clamp (n := 10 * a + b) (by omega), nI_clamp (n := 10 + a) (by omega), nI_clamp (n := 10 + b) (by omega), nI_clamp (n := a) (by omega), nI_clamp (n := b) (by omega)]
    rcases hcs with q | q | q | q | q <;> subst q <;> rw [eg]
    · exact br_t (by decide) (br_t (by decide) (br_t rfl ⟨vp_in_nI (by omega) (by decide), hpush _ rfl⟩))
    · unfold b_X12_tellsCodes_179
      have hv1 : vp_in (nI (10 + a)) 20 := vp_in_nI (by omega) (by decide)
      have hv2 : vp_in (nI (10 + b)) 20 := vp_in_nI (by omega) (by decide)
      refine br_t (by decide) (br_t (by decide) (br_f (by decide) (br_t rfl ⟨hv1, hv2, fun q => ⟨hv2, hv1, hpush _ ?_⟩, fun q => ⟨hv1, hv2, hpush _ ?_⟩⟩)))
      · show _ :: st = (if μ.2.2.1 2 (10 + a) ≤ μ.2.2.1 2 (10 + b) then μ.2.2.1 2 (10 + b) - μ.2.2.1 2 (10 + a) else μ.2.2.1 2 (10 + a) - μ.2.2.1 2 (10 + b)).toInt64 :: st
        rw [if_pos q]
      · show _ :: st = (if μ.2.2.1 2 (10 + a) ≤ μ.2.2.1 2 (10 + b) then μ.2.2.1 2 (10 + b) - μ.2.2.1 2 (10 + a) else μ.2.2.1 2 (10 + a) - μ.2.2.1 2 (10 + b)).toInt64 :: st
        rw [if_neg q]
    · exact br_t (by decide) (br_t (by decide) (br_f (by decide) (br_f (by decide) (br_t rfl ⟨vp_in_nI (by omega) (by decide), hpush _ rfl⟩))))
    · exact br_t (by decide) (br_t (by decide) (br_f (by decide) (br_f (by decide) (br_f (by decide) (br_t rfl ⟨vp_in_nI (by omega) (by decide), hpush _ rfl⟩)))))
    · exact br_t (by decide) (br_t (by decide) (br_f (by decide) (br_f (by decide) (br_f (by decide) (br_f (by decide) (br_t rfl (hpush _ rfl)))))))
  · subst h1
    rw [if_neg (by omega), if_neg (by omega), if_neg (by omega), if_pos rfl] at hpush
    exact br_t (by decide) (br_t (by decide) (br_f (by decide) (br_f (by decide) (br_f (by decide) (br_f (by decide) (br_f (by decide) (br_t rfl (hpush _ rfl))))))))
  · subst h1; subst e; subst e1
    rw [if_neg (by omega), if_neg (by omega), if_neg (by omega), if_neg (by omega), if_pos rfl] at hQ
    cases st with
    | nil => exact absurd ho id
    | cons x s =>
      have hs : s.length < 64 := by
        have : t.length + 1 = s.length + 1 := hl
        have : t.length + 1 ≤ 64 := ht2
        omega
      have e0 : μ.1 18 = nI (s.length + 1) := hm.1
      have e1 : nI (s.length + 1) - 1 = nI s.length := by rw [li_1, pk_sub (by omega)]; rfl
      refine br_t (by decide) (br_t (by decide) (br_f (by decide) (br_f (by decide) (br_f (by decide) (br_f (by decide) (br_f (by decide) (br_f (by decide) (br_t rfl ?_))))))))
      rw [e0, e1, nI_clamp (n := s.length) (by omega), show μ.2.2.2 2 s.length = x from hm.2.1, ek]
      refine ⟨vp_in_nI (by omega) (by decide), vp_in_nI (by omega) (by decide), nm_e (nm_e (hQ _ (fr_B fr_r (by decide)) ⟨e0, ?_⟩))⟩
      rw [zB_4s]
      exact stk_cons hm.2.2
  all_goals
    subst e; subst e1
    have eg : gR c = if 6 ≤ c then c + 5 else c + 1 := by
      unfold gR
      rw [if_neg (by omega), if_neg (by omega), if_neg (by omega), if_neg (by omega)]
    have eg2 : 1 ≤ gR c ∧ gR c < 7 ∨ 11 ≤ gR c ∧ gR c < 16 := by
      rw [eg]
      by_cases q : 6 ≤ c
      · rw [if_pos q]; omega
      · rw [if_neg q]; omega
    rw [if_neg (by omega), if_neg (by omega), if_neg (by omega), if_neg (by omega), if_neg (by omega)] at hQ
    match st, ho, hm, hl, hQ with
    | [], ho, _, _, _ => exact absurd ho id
    | [x], ho, _, _, _ => exact absurd ho.2 id
    | y :: x :: s, ho, hm, hl, hQ =>
      have hs : s.length < 64 := by
        have : t.length + 2 = s.length + 2 := hl
        have : t.length + 2 ≤ 64 := ht2
        omega
      have ne : ∀ j, j < 2 ^ 31 → gR c ≠ j → ¬ nI (gR c) = nI j := fun j hj h q => h ((nI_eq (by omega) hj).mp q)
      refine br_t (lt _ 1000 (by omega) (by omega)) (br_t (lt _ 100 (by omega) (by omega)) (br_f (ne 7 (by omega) (by omega)) (br_f (ne 8 (by omega) (by omega)) (br_f (ne 9 (by omega) (by omega)) (br_f (ne 10 (by omega) (by omega)) (br_f (ne 18 (by omega) (by omega)) (br_f (ne 17 (by omega) (by omega)) (br_f (ne 16 (by omega) (by omega)) ?_))))))))
      refine m_joins hm (by omega) ?_ (fun τ h1 h2 => nm_e (by rw [ek]; exact hQ τ h1 h2))
      first
        | exact Or.inl ⟨by omega, ho.2.1, ho.1⟩
        | exact Or.inr ⟨by omega, by omega, ho.2.1, ho.1⟩
/-- the reference holds these rules -/
def mR (μ : zSt) (l : zL) : Prop := μ.2.2.1 4 1 = nI (lRc l) ∧ ∀ r, r < lRc l → μ.2.2.1 5 (20 + r) = nI (lKi l r) ∧ μ.2.2.1 6 (20 + r) = nI (lSu l r) ∧ μ.2.2.1 7 (20 + r) = nI (lTe l r) ∧ μ.2.2.1 8 (20 + r) = nI (lSt l r) ∧ ∀ k, lSu l r ≤ k → k < lSt l r → μ.2.2.1 10 (900 + k) = nI (gR (lCo l k))
theorem mfc_fr {μ τ : zSt} (h : fr [18] [] [] [2] μ τ) (a b : Nat) : mfc τ a b = mfc μ a b := by
  funext k
  unfold mfc
  rw [h.2.2.1 12 (by decide), h.2.2.1 2 (by decide), h.2.2.1 13 (by decide), h.1 15 (by decide)]
theorem m_codes {co : Nat → Nat} {i0 e a b : Nat} {bb : Bool} (hN : 801 < N) (ha : a < 10) (hb : b < 10) (hi : i0 ≤ e) (he : e ≤ 800) (htr : tyr co (e - i0) i0 [] [bb]) (hfc : ∀ k, k < 5 → okv true (mfc μ a b k)) (hc : ∀ k, i0 ≤ k → k < e → μ.2.2.1 10 (900 + k) = nI (gR (co k))) (hQ : ∀ τ, fr [18] [] [] [2] μ τ → okv bb (rowv (mfc μ a b) a co i0 e) → Q (rowv (mfc μ a b) a co i0 e) τ) : w_X12_tellsCodes N (nI i0) (nI e) (nI a) (nI b) μ Q := by
  unfold w_X12_tellsCodes
  refine nm_e ?_
  refine loopU (S := (List Bool × List Int64) × zSt) (fun f i s => w_X12_tellsCodes_8 N Q f (nI e) (nI a) (nI b) (nI i) s.2) (fun i s => rIv (mfc μ a b) a co bb i0 e (fun τ => fr [18] [] [] [2] μ τ) i s ∧ mst s.2 s.1.2 ∧ i0 ≤ i) e ?_ ?_ N i0 (([], []), zI μ 18 0) hi (by omega) ⟨rIv_0 htr (fr_I fr_r (by decide)), ⟨zI_1s, trivial⟩, Nat.le_refl _⟩
  · intro f s ⟨hI, hs, _⟩
    obtain ⟨e1, e2⟩ := rIv_e hI
    show b_X12_tellsCodes_8 N (w_X12_tellsCodes_8 N Q f) Q (nI e) (nI a) (nI b) (nI e) s.2
    unfold b_X12_tellsCodes_8
    rw [e1] at hs
    refine br_t (nI_le (Nat.le_refl _) (by omega)) ?_
    rw [show s.2.2.2.2 2 0 = _ from hs.2.1]
    exact hQ s.2 hI.2.2.2.2 e2
  · intro f i s hi2 ⟨hI, hs, hge⟩ ih
    have h0 := hI.2.2.2.2
    obtain ⟨us, g1, g2, g3, g4, g5, g6⟩ := rIv_s hfc hi2 hI
    show b_X12_tellsCodes_8 N (w_X12_tellsCodes_8 N Q f) Q (nI e) (nI a) (nI b) (nI i) s.2
    refine m_turn ha hb (by omega) (nI_ge hi2 (by omega)) (c := co i) (by rw [h0.2.2.1 10 (by decide)]; exact hc i hge hi2) g1 hI.1 g4 hs (fun τ h1 h2 => ?_)
    rw [mfc_fr h0] at h2
    exact ih ((us, ex (mfc μ a b) a (co i) s.1.2), τ) ⟨g6 _ (fr_t h0 h1), h2, by omega⟩
theorem m_tellsRule {l : zL} {kind a b : Nat} (hN : 801 < N) (ha : a < 10) (hb : b < 10) (hkd : kind < 2 ^ 31) (hR : lRok l) (hX : mR μ l) (hfc : ∀ k, k < 5 → okv true (mfc μ a b k)) (hQ : ∀ τ, fr [18] [] [] [2] μ τ → Q (fsum (mfc μ a b) a l kind (lRc l) 0) τ) : w_X12_tellsRule N (nI kind) (nI a) (nI b) μ Q := by
  have h20 := hR.1
  refine loopU (S := zSt) (fun f r τ => w_X12_tellsRule_4 N Q f (nI kind) (nI a) (nI b) (nI (20 + r)) τ) (fun r τ => fr [18] [] [] [2] μ τ ∧ fsum (mfc μ a b) a l kind (lRc l - r) r = fsum (mfc μ a b) a l kind (lRc l) 0) (lRc l) ?_ ?_ N 0 μ (Nat.zero_le _) (by omega) ⟨fr_r, rfl⟩
  · intro f τ ⟨h0, h1⟩
    show b_X12_tellsRule_4 N (w_X12_tellsRule_4 N Q f) Q (nI kind) (nI a) (nI b) (nI (20 + lRc l)) τ
    unfold b_X12_tellsRule_4
    rw [h0.2.2.1 4 (by decide), hX.1, li_20, nI_add]
    refine br_t (nI_le (Nat.le_refl _) (by omega)) ?_
    rw [Nat.sub_self] at h1
    have := hQ τ h0
    rw [← h1] at this
    exact this
  · intro f r τ hr ⟨h0, h1⟩ ih
    show b_X12_tellsRule_4 N (w_X12_tellsRule_4 N Q f) Q (nI kind) (nI a) (nI b) (nI (20 + r)) τ
    unfold b_X12_tellsRule_4
    obtain ⟨q1, q2, q3, q4, q5, q6⟩ := hR.2 r hr
    obtain ⟨x1, x2, x3, x4, x5⟩ := hX.2 r hr
    have hv : vp_in (nI (20 + r)) 40 := vp_in_nI (by omega) (by decide)
    rw [nI_clamp (n := 20 + r) (by omega), h0.2.2.1 4 (by decide), hX.1, h0.2.2.1 5 (by decide), x1, h0.2.2.1 7 (by decide), x3, h0.2.2.1 8 (by decide), x4, li_20, nI_add]
    have hrc : lRc l - r = (lRc l - (r + 1)) + 1 := by omega
    rw [hrc] at h1
    rw [fsum_s] at h1
    have ek : nI (20 + r) + 1 = nI (20 + (r + 1)) := nI_1 _
    refine br_f (nI_ge (by omega) (by omega)) ⟨hv, fun e => ⟨hv, hv, ?_⟩, fun e => nm_e ?_⟩
    · have e := (nI_eq (by omega) hkd).mp e
      rw [if_pos e] at h1
      have hmf := mfc_fr h0 a b
      refine m_codes (co := lCo l) (bb := false) hN ha hb q3 q4 q6 (by rw [hmf]; exact hfc) (fun k g1 g2 => by rw [h0.2.2.1 10 (by decide)]; exact x5 k (by omega) g2) (fun υ hυ hv2 => ?_)
      rw [hmf] at hv2 ⊢
      have h00 := fr_t h0 hυ
      have hv2 : rowv (mfc μ a b) a (lCo l) (lTe l r) (lSt l r) = 0 ∨ rowv (mfc μ a b) a (lCo l) (lTe l r) (lSt l r) = 1 := hv2
      rw [h00.2.2.1 6 (by decide), x2, h00.2.2.1 7 (by decide), x3]
      simp only [lg_cmp_eq]
      refine ⟨fun ez => ⟨hv, hv, ?_⟩, fun ez => nm_e ?_⟩
      · rw [ez, if_neg (by decide)] at h1
        have hmf2 := mfc_fr h00 a b
        refine m_codes (co := lCo l) (bb := true) hN ha hb q2 (by omega) q5 (by rw [hmf2]; exact hfc) (fun k g1 g2 => by rw [h00.2.2.1 10 (by decide)]; exact x5 k g1 (by omega)) (fun ω hω _ => ?_)
        rw [hmf2, h1]
        exact hQ ω (fr_t h00 hω)
      · rw [if_pos (hv2.resolve_right ez)] at h1
        rw [ek]
        exact ih υ ⟨h00, h1⟩
    · rw [if_neg (fun q => e (by rw [q]))] at h1
      rw [ek]
      exact ih τ ⟨h0, h1⟩
end mf
