/-! rows of orders to a stack: their sorts, what they answer, and the class at them -/
def ty (c : Nat) (ts : List Bool) : Option (List Bool) :=
  if 100 ≤ c ∧ c < 10100 then some (true :: ts)
  else if 30 ≤ c ∧ c < 40 then some (false :: ts)
  else if 20 ≤ c ∧ c < 25 then some (true :: ts)
  else if c = 12 then some (false :: ts)
  else if c = 11 then (match ts with
    | false :: t => some (false :: t)
    | _ => none)
  else if c < 6 then (match ts with
    | true :: true :: t => some (true :: t)
    | _ => none)
  else if c < 9 then (match ts with
    | true :: true :: t => some (false :: t)
    | _ => none)
  else if c < 11 then (match ts with
    | false :: false :: t => some (false :: t)
    | _ => none)
  else none
/-- the cases of a good order -/
theorem ty_in {c : Nat} {ts us : List Bool} (h : ty c ts = some us) :
    (100 ≤ c ∧ c < 10100 ∧ us = true :: ts) ∨ (30 ≤ c ∧ c < 40 ∧ us = false :: ts) ∨ (20 ≤ c ∧ c < 25 ∧ us = true :: ts) ∨ (c = 12 ∧ us = false :: ts) ∨ (c = 11 ∧ ∃ t, ts = false :: t ∧ us = false :: t) ∨ (c < 6 ∧ ∃ t, ts = true :: true :: t ∧ us = true :: t) ∨ (6 ≤ c ∧ c < 9 ∧ ∃ t, ts = true :: true :: t ∧ us = false :: t) ∨ (9 ≤ c ∧ c < 11 ∧ ∃ t, ts = false :: false :: t ∧ us = false :: t) := by
  unfold ty at h
  by_cases h1 : 100 ≤ c ∧ c < 10100
  · rw [if_pos h1] at h; cases h; exact Or.inl ⟨h1.1, h1.2, rfl⟩
  rw [if_neg h1] at h
  by_cases h2 : 30 ≤ c ∧ c < 40
  · rw [if_pos h2] at h; cases h; exact Or.inr (Or.inl ⟨h2.1, h2.2, rfl⟩)
  rw [if_neg h2] at h
  by_cases h3 : 20 ≤ c ∧ c < 25
  · rw [if_pos h3] at h; cases h; exact Or.inr (Or.inr (Or.inl ⟨h3.1, h3.2, rfl⟩))
  rw [if_neg h3] at h
  by_cases h4 : c = 12
  · rw [if_pos h4] at h; cases h; exact Or.inr (Or.inr (Or.inr (Or.inl ⟨h4, rfl⟩)))
  rw [if_neg h4] at h
  by_cases h5 : c = 11
  · rw [if_pos h5] at h
    refine Or.inr (Or.inr (Or.inr (Or.inr (Or.inl ⟨h5, ?_⟩))))
    split at h
    · cases h; exact ⟨_, rfl, rfl⟩
    · cases h
  rw [if_neg h5] at h
  by_cases h6 : c < 6
  · rw [if_pos h6] at h
    refine Or.inr (Or.inr (Or.inr (Or.inr (Or.inr (Or.inl ⟨h6, ?_⟩)))))
    split at h
    · cases h; exact ⟨_, rfl, rfl⟩
    · cases h
  rw [if_neg h6] at h
  by_cases h7 : c < 9
  · rw [if_pos h7] at h
    refine Or.inr (Or.inr (Or.inr (Or.inr (Or.inr (Or.inr (Or.inl ⟨by omega, h7, ?_⟩))))))
    split at h
    · cases h; exact ⟨_, rfl, rfl⟩
    · cases h
  rw [if_neg h7] at h
  by_cases h8 : c < 11
  · rw [if_pos h8] at h
    refine Or.inr (Or.inr (Or.inr (Or.inr (Or.inr (Or.inr (Or.inr ⟨by omega, h8, ?_⟩))))))
    split at h
    · cases h; exact ⟨_, rfl, rfl⟩
    · cases h
  · rw [if_neg h8] at h; cases h
def clipL (v : Int64) : Int64 := if v ≤ 1000000 then (if -1000000 ≤ v then v else -1000000) else 1000000
def flr (a b : Int64) : Int64 := if b = 0 then 0 else if a - a / b * b = 0 then a / b else if (0 ≤ a ↔ 0 ≤ b) then a / b else a / b - 1
def rawop (c : Nat) (a b : Int64) : Int64 := match c with
  | 0 => a + b
  | 1 => a - b
  | 2 => a * b
  | 3 => flr a b
  | 4 => if b ≤ a then b else a
  | 5 => if a ≤ b then b else a
  | 6 => if b ≤ a then 0 else 1
  | 7 => if a ≤ b then 0 else 1
  | 8 => if a = b then 1 else 0
  | 9 => a &&& b
  | _ => a ||| b
def ex (fc : Nat → Int64) (me c : Nat) (st : List Int64) : List Int64 :=
  if 100 ≤ c then lN (c - 100) :: st
  else if 30 ≤ c then (if c - 30 = me then 1 else 0) :: st
  else if 20 ≤ c then fc (c - 20) :: st
  else if c = 12 then 1 :: st
  else if c = 11 then (match st with
    | a :: t => (1 - a) :: t
    | [] => [])
  else (match st with
    | b :: a :: t => clipL (rawop c a b) :: t
    | s => s)
/-- the stack lies in a row, its lowest at 0 -/
def stk (f : Nat → Int64) : List Int64 → Prop
  | [] => True
  | a :: t => f t.length = a ∧ stk f t
theorem stk_up {f : Nat → Int64} {m : Nat} {v : Int64} : ∀ {st : List Int64}, st.length ≤ m → stk f st → stk (vp_updL f m v) st
  | [], _, _ => trivial
  | a :: t, h, q => by
    have h1 : t.length < m := h
    exact ⟨(pk_uLn (by omega)).trans q.1, stk_up (by omega) q.2⟩
theorem stk_cons {f : Nat → Int64} {st : List Int64} {v : Int64} (h : stk f st) : stk (vp_updL f st.length v) (v :: st) := ⟨pk_uLs, stk_up (Nat.le_refl _) h⟩
theorem i64_1 : (1 : Int32).toInt64 = 1 := by decide
theorem i64_0 : (0 : Int32).toInt64 = 0 := by decide
section xe
variable {N : Nat} {σ : zSt} {Q : Int32 → zSt → Prop}
theorem x_414 {m : Nat} {v : Int64} (hm : m + 2 ≤ 64) (hQ : Q (nI (m + 1)) (zB σ 3 (vp_updL (σ.2.2.2 3) m (clipL v)))) : b_X6_apply_414 N Q (nI (m + 2)) v σ := by
  unfold b_X6_apply_414
  have e2 : nI (m + 2) - 2 = nI m := by rw [li_2, pk_sub (by omega)]; rfl
  have e1 : nI (m + 2) - 1 = nI (m + 1) := by rw [li_1, pk_sub (by omega)]; rfl
  have hv : vp_in (nI m) 64 := vp_in_nI (by omega) (by decide)
  have hc : (nI m).toNatClampNeg = m := nI_clamp (by omega)
  rw [e2, e1, hc]
  simp only [lg_cmp_le, lg_cmp_ge, forall_eq]
  unfold clipL at hQ
  refine ⟨fun h1 => ⟨fun h2 => ?_, fun h2 => ?_⟩, fun h1 => ?_⟩
  · rw [if_pos h1, if_pos h2] at hQ; exact ⟨hv, hQ⟩
  · rw [if_pos h1, if_neg h2] at hQ; exact ⟨hv, hQ⟩
  · rw [if_neg h1] at hQ; exact ⟨hv, hQ⟩
/-- two numbers become one -/
theorem x_apply2 {c m : Nat} {a b : Int64} (hc : c < 11) (hm : m + 2 ≤ 64) (ha : σ.2.2.2 3 m = a) (hb : σ.2.2.2 3 (m + 1) = b) (hQ : Q (nI (m + 1)) (zB σ 3 (vp_updL (σ.2.2.2 3) m (clipL (rawop c a b))))) : w_X6_apply N (nI c) (nI (m + 2)) σ Q := by
  unfold w_X6_apply
  refine br_t (by rw [li_12, nI_ltI (by omega) (by omega)]; omega) (br_f (by rw [li_11, nI_eq (by omega) (by omega)]; omega) ?_)
  unfold b_X6_apply_100
  have e2 : nI (m + 2) - 2 = nI m := by rw [li_2, pk_sub (by omega)]; rfl
  have e1 : nI (m + 2) - 1 = nI (m + 1) := by rw [li_1, pk_sub (by omega)]; rfl
  have hv : vp_in (nI m) 64 := vp_in_nI (by omega) (by decide)
  have hv1 : vp_in (nI (m + 1)) 64 := vp_in_nI (by omega) (by decide)
  have hcl : (nI m).toNatClampNeg = m := nI_clamp (by omega)
  have hcl1 : (nI (m + 1)).toNatClampNeg = m + 1 := nI_clamp (by omega)
  refine br_f (by rw [li_2, nI_ltI (by omega) (by omega)]; omega) (br_t (by rw [li_64, nI_leI (by omega) (by omega)]; omega) (br_f (by rw [li_11, nI_eq (by omega) (by omega)]; omega) ?_))
  rw [e2, e1, hcl, hcl1, ha, hb]
  refine ⟨hv, nm_e ⟨hv1, nm_e ?_⟩⟩
  have key : ∀ v : Int64, v = rawop c a b → b_X6_apply_414 N Q (nI (m + 2)) v σ := fun v e => x_414 hm (by rw [e]; exact hQ)
  have ne : ∀ k, k < 2 ^ 31 → c ≠ k → ¬ nI c = nI k := fun k hk h e => h ((nI_eq (by omega) hk).mp e)
  by_cases h0 : c = 0
  · subst h0; exact br_t rfl (nm_e (key _ rfl))
  refine br_f (ne 0 (by decide) h0) ?_
  by_cases h1 : c = 1
  · subst h1; exact br_t rfl (nm_e (key _ rfl))
  refine br_f (ne 1 (by decide) h1) ?_
  by_cases h2 : c = 2
  · subst h2; exact br_t rfl (nm_e (key _ rfl))
  refine br_f (ne 2 (by decide) h2) ?_
  by_cases h3 : c = 3
  · subst h3
    refine br_t rfl ?_
    have key : ∀ v : Int64, v = flr a b → b_X6_apply_414 N Q (nI (m + 2)) v σ := key
    unfold b_X6_apply_304 b_X6_apply_301 b_X6_apply_282 b_X6_apply_302 b_X6_apply_294 b_X6_apply_301 b_X6_apply_302 b_X6_apply_304
    simp only [lg_cmp_eq, lg_cmp_ge]
    unfold flr at key
    refine ⟨fun hb => key _ (by rw [if_pos hb]), fun hb => ⟨hb, hb, fun h => ?_, fun h => ⟨fun ha => ⟨fun hb2 => ?_, fun hb2 => ?_⟩, fun ha => ⟨fun hb2 => ?_, fun hb2 => ?_⟩⟩⟩⟩
    · refine key _ ?_
      rw [if_neg hb, if_pos h, i64_0, Int64.sub_zero]
    · refine br_t trivial (key _ ?_)
      rw [if_neg hb, if_neg h, if_pos ⟨fun _ => hb2, fun _ => ha⟩, i64_0, Int64.sub_zero]
    · refine br_f (by decide) (key _ ?_)
      rw [if_neg hb, if_neg h, if_neg (fun q => hb2 (q.mp ha)), i64_1]
    · refine br_f (by decide) (key _ ?_)
      rw [if_neg hb, if_neg h, if_neg (fun q => ha (q.mpr hb2)), i64_1]
    · refine br_t trivial (key _ ?_)
      rw [if_neg hb, if_neg h, if_pos ⟨fun q => absurd q ha, fun q => absurd q hb2⟩, i64_0, Int64.sub_zero]
  refine br_f (ne 3 (by decide) h3) ?_
  by_cases h4 : c = 4
  · subst h4
    refine br_t rfl ⟨fun q => key _ ?_, fun q => key _ ?_⟩
    · exact (if_pos ((lg_cmp_ge _ _).mp q)).symm
    · exact (if_neg (fun r => q ((lg_cmp_ge _ _).mpr r))).symm
  refine br_f (ne 4 (by decide) h4) ?_
  by_cases h5 : c = 5
  · subst h5
    refine br_t rfl ⟨fun q => key _ ?_, fun q => key _ ?_⟩
    · exact (if_pos ((lg_cmp_le _ _).mp q)).symm
    · exact (if_neg (fun r => q ((lg_cmp_le _ _).mpr r))).symm
  refine br_f (ne 5 (by decide) h5) ?_
  by_cases h6 : c = 6
  · subst h6
    refine br_t rfl ⟨fun q => key _ ?_, fun q => key _ ?_⟩
    · exact (if_pos ((lg_cmp_ge _ _).mp q)).symm
    · exact (if_neg (fun r => q ((lg_cmp_ge _ _).mpr r))).symm
  refine br_f (ne 6 (by decide) h6) ?_
  by_cases h7 : c = 7
  · subst h7
    refine br_t rfl ⟨fun q => key _ ?_, fun q => key _ ?_⟩
    · exact (if_pos ((lg_cmp_le _ _).mp q)).symm
    · exact (if_neg (fun r => q ((lg_cmp_le _ _).mpr r))).symm
  refine br_f (ne 7 (by decide) h7) ?_
  by_cases h8 : c = 8
  · subst h8
    refine br_t rfl ⟨fun q => key _ ?_, fun q => key _ ?_⟩
    · exact (if_pos ((lg_cmp_eq _ _).mp q)).symm
    · exact (if_neg (fun r => q ((lg_cmp_eq _ _).mpr r))).symm
  refine br_f (ne 8 (by decide) h8) ?_
  by_cases h9 : c = 9
  · subst h9; exact br_t rfl (nm_e (key _ rfl))
  refine br_f (ne 9 (by decide) h9) ?_
  have h10 : c = 10 := by omega
  subst h10
  exact br_t rfl (nm_e (key _ rfl))
end xe
/-- what two persons are told: ways, miles, mine, theirs, ties -/
def xfc (σ : zSt) : Nat → Int64 := fun k => (σ.2.2.1 13 (if k < 5 then k else 4)).toInt64
section xf
variable {N : Nat} {σ : zSt} {Q : Int32 → zSt → Prop}
theorem x_push {c m : Nat} {v : Int64} (hm : m < 64) (hc : (100 ≤ c ∧ c < 10100 ∧ v = lN (c - 100)) ∨ (30 ≤ c ∧ c < 40 ∧ ∃ me, me < 2 ^ 31 ∧ σ.1 6 = nI me ∧ v = if c - 30 = me then 1 else 0) ∨ (20 ≤ c ∧ c < 25 ∧ v = xfc σ (c - 20)) ∨ (c = 12 ∧ v = 1)) (hQ : Q (nI (m + 1)) (zB σ 3 (vp_updL (σ.2.2.2 3) m v))) : w_X6_apply N (nI c) (nI m) σ Q := by
  unfold w_X6_apply
  have hv : vp_in (nI m) 64 := vp_in_nI (by omega) (by decide)
  have hcl : (nI m).toNatClampNeg = m := nI_clamp (by omega)
  have e1 : nI m + 1 = nI (m + 1) := nI_1 m
  have lt : ∀ k, k < 2 ^ 31 → c < k → nI c < nI k := fun k hk h => nI_lt h hk
  have nl : ∀ k, k < 2 ^ 31 → k ≤ c → ¬ nI c < nI k := fun k hk h => nI_nlt h (by omega)
  rw [hcl, e1]
  refine br_f (nl 12 (by decide) (by omega)) (br_f (nI_ge (b := 64) (by omega) (by decide)) ?_)
  rcases hc with ⟨h1, h2, h3⟩ | ⟨h1, h2, me, h3, h4, h5⟩ | ⟨h1, h2, h3⟩ | ⟨h1, h2⟩
  · refine br_f (nl 100 (by decide) h1) ⟨hv, nm_e ?_⟩
    have : (nI c - 100).toInt64 = v := by rw [li_100, pk_sub h1, nI_l (by omega), h3]
    rw [this]; exact hQ
  · refine br_t (lt 100 (by decide) (by omega)) (br_f (nl 30 (by decide) h1) ?_)
    rw [h4, li_30, pk_sub h1, i64_1, i64_0]
    refine ⟨fun e => ⟨hv, nm_e ?_⟩, fun e => ⟨hv, nm_e ?_⟩⟩
    · rw [h5, if_pos ((nI_eq (by omega) h3).mp e)] at hQ; exact hQ
    · rw [h5, if_neg (fun q => e (by rw [q]))] at hQ; exact hQ
  · refine br_t (lt 100 (by decide) (by omega)) (br_t (lt 30 (by decide) (by omega)) (br_f (nl 20 (by decide) h1) (br_f (nI_ge (b := 25) (by omega) (by decide)) ?_)))
    rw [li_20, pk_sub h1, nI_clamp (by omega)]
    refine ⟨vp_in_nI (by omega) (by decide), hv, nm_e ?_⟩
    have e : xfc σ (c - 20) = (σ.2.2.1 13 (c - 20)).toInt64 := by unfold xfc; rw [if_pos (by omega)]
    rw [h3, e] at hQ; exact hQ
  · refine br_t (lt 100 (by decide) (by omega)) (br_t (lt 30 (by decide) (by omega)) (br_t (lt 20 (by decide) (by omega)) ⟨hv, nm_e ?_⟩))
    rw [h2] at hQ; exact hQ
theorem x_not {m : Nat} {a : Int64} (hm : m < 64) (ha : σ.2.2.2 3 m = a) (hQ : Q (nI (m + 1)) (zB σ 3 (vp_updL (σ.2.2.2 3) m (1 - a)))) : w_X6_apply N (nI 11) (nI (m + 1)) σ Q := by
  unfold w_X6_apply
  refine br_t (nI_lt (a := 11) (b := 12) (by omega) (by omega)) (br_t rfl ?_)
  unfold b_X6_apply_100
  have e1 : nI (m + 1) - 1 = nI m := by rw [li_1, pk_sub (by omega)]; rfl
  have hv : vp_in (nI m) 64 := vp_in_nI (by omega) (by decide)
  have hcl : (nI m).toNatClampNeg = m := nI_clamp (by omega)
  refine br_f (nI_nlt (b := 1) (by omega) (by omega)) (br_t (nI_le (b := 64) (by omega) (by decide)) (br_t rfl ?_))
  rw [e1, hcl, ha]
  exact ⟨hv, hv, nm_e hQ⟩
/-- one order that is good where it stands -/
theorem x_apply {c me : Nat} {ts us : List Bool} {st : List Int64} (ht : ty c ts = some us) (hl : ts.length = st.length) (hu : us.length ≤ 64) (ht2 : ts.length ≤ 64) (hme : me < 2 ^ 31) (hf : σ.1 6 = nI me) (hs : stk (σ.2.2.2 3) st) (hQ : ∀ g : Nat → Int64, stk g (ex (xfc σ) me c st) → Q (nI us.length) (zB σ 3 g)) : w_X6_apply N (nI c) (nI st.length) σ Q := by
  unfold ex at hQ
  rcases ty_in ht with ⟨h1, h2, e⟩ | ⟨h1, h2, e⟩ | ⟨h1, h2, e⟩ | ⟨h1, e⟩ | ⟨h1, t, e1, e⟩ | ⟨h1, t, e1, e⟩ | ⟨h1, h2, t, e1, e⟩ | ⟨h1, h2, t, e1, e⟩
  · subst e
    rw [if_pos h1] at hQ
    have hu : st.length + 1 ≤ 64 := by rw [← hl]; exact hu
    refine x_push (by omega) (Or.inl ⟨h1, h2, rfl⟩) ?_
    have := hQ _ (stk_cons hs)
    rw [List.length_cons, hl] at this; exact this
  · subst e
    rw [if_neg (by omega), if_pos h1] at hQ
    have hu : st.length + 1 ≤ 64 := by rw [← hl]; exact hu
    refine x_push (by omega) (Or.inr (Or.inl ⟨h1, h2, me, hme, hf, rfl⟩)) ?_
    have := hQ _ (stk_cons hs)
    rw [List.length_cons, hl] at this; exact this
  · subst e
    rw [if_neg (by omega), if_neg (by omega), if_pos h1] at hQ
    have hu : st.length + 1 ≤ 64 := by rw [← hl]; exact hu
    refine x_push (by omega) (Or.inr (Or.inr (Or.inl ⟨h1, h2, rfl⟩))) ?_
    have := hQ _ (stk_cons hs)
    rw [List.length_cons, hl] at this; exact this
  · subst e; subst h1
    rw [if_neg (by omega), if_neg (by omega), if_neg (by omega), if_pos rfl] at hQ
    have hu : st.length + 1 ≤ 64 := by rw [← hl]; exact hu
    refine x_push (by omega) (Or.inr (Or.inr (Or.inr ⟨rfl, rfl⟩))) ?_
    have := hQ _ (stk_cons hs)
    rw [List.length_cons, hl] at this; exact this
  · subst h1; subst e; subst e1
    rw [if_neg (by omega), if_neg (by omega), if_neg (by omega), if_neg (by omega), if_pos rfl] at hQ
    cases st with
    | nil => exact absurd hl (by simp)
    | cons a s =>
      have hl : t.length = s.length := Nat.succ.inj hl
      have hu : s.length + 1 ≤ 64 := by rw [← hl]; exact ht2
      refine x_not (by omega) hs.1 ?_
      have := hQ _ (stk_cons hs.2)
      rw [List.length_cons, hl] at this; exact this
  all_goals
    subst e; subst e1
    rw [if_neg (by omega), if_neg (by omega), if_neg (by omega), if_neg (by omega), if_neg (by omega)] at hQ
    match st, hl, hs, hQ with
    | [], hl, _, _ => exact absurd hl (by simp)
    | [a], hl, _, _ => exact absurd hl (by simp)
    | b :: a :: s, hl, hs, hQ =>
      have hl : t.length = s.length := Nat.succ.inj (Nat.succ.inj hl)
      have hu : s.length + 2 ≤ 64 := by rw [← hl]; exact ht2
      refine x_apply2 (by omega) hu hs.2.1 hs.1 ?_
      have := hQ _ (stk_cons hs.2.2)
      rw [List.length_cons, hl] at this; exact this
end xf
def tyr (code : Nat → Nat) : Nat → Nat → List Bool → List Bool → Prop
  | 0, _, ts, us => ts = us
  | k + 1, i, ts, us => ∃ ts', ty (code i) ts = some ts' ∧ ts'.length ≤ 64 ∧ tyr code k (i + 1) ts' us
def run (fc : Nat → Int64) (me : Nat) (code : Nat → Nat) : Nat → Nat → List Int64 → List Int64
  | 0, _, st => st
  | k + 1, i, st => run fc me code k (i + 1) (ex fc me (code i) st)
def okv (b : Bool) (v : Int64) : Prop := if b = true then -1000000 ≤ v.toInt ∧ v.toInt ≤ 1000000 else v = 0 ∨ v = 1
def okst : List Bool → List Int64 → Prop
  | [], [] => True
  | b :: ts, v :: st => okv b v ∧ okst ts st
  | _, _ => False
theorem okst_len : ∀ {ts : List Bool} {st : List Int64}, okst ts st → ts.length = st.length
  | [], [], _ => rfl
  | _ :: _, _ :: _, h => congrArg Nat.succ (okst_len h.2)
  | [], _ :: _, h => absurd h id
  | _ :: _, [], h => absurd h id
theorem clipL_ok (v : Int64) : okv true (clipL v) := by
  show -1000000 ≤ (clipL v).toInt ∧ (clipL v).toInt ≤ 1000000
  have e1 : (1000000 : Int64).toInt = 1000000 := by decide
  have e2 : (-1000000 : Int64).toInt = -1000000 := by decide
  unfold clipL
  by_cases h1 : v ≤ 1000000
  · rw [if_pos h1]
    by_cases h2 : -1000000 ≤ v
    · rw [if_pos h2]
      rw [fa_le64] at h1 h2
      omega
    · rw [if_neg h2, e2]; omega
  · rw [if_neg h1, e1]; omega
theorem clip_in {v : Int64} (h : okv true v) : clipL v = v := by
  have h : -1000000 ≤ v.toInt ∧ v.toInt ≤ 1000000 := h
  have e1 : (1000000 : Int64).toInt = 1000000 := by decide
  have e2 : (-1000000 : Int64).toInt = -1000000 := by decide
  unfold clipL
  rw [if_pos (by rw [fa_le64]; omega), if_pos (by rw [fa_le64]; omega)]
theorem bool_okt {v : Int64} (h : okv false v) : okv true v := by
  have h : v = 0 ∨ v = 1 := h
  show -1000000 ≤ v.toInt ∧ v.toInt ≤ 1000000
  rcases h with h | h <;> subst h <;> decide
/-- good orders leave good stacks -/
theorem ex_ok {fc : Nat → Int64} {me c : Nat} {ts us : List Bool} {st : List Int64} (hfc : ∀ k, k < 5 → okv true (fc k)) (ht : ty c ts = some us) (h : okst ts st) : okst us (ex fc me c st) := by
  unfold ex
  rcases ty_in ht with ⟨h1, h2, e⟩ | ⟨h1, h2, e⟩ | ⟨h1, h2, e⟩ | ⟨h1, e⟩ | ⟨h1, t, e1, e⟩ | ⟨h1, t, e1, e⟩ | ⟨h1, h2, t, e1, e⟩ | ⟨h1, h2, t, e1, e⟩
  · subst e
    rw [if_pos h1]
    refine ⟨?_, h⟩
    show -1000000 ≤ (lN (c - 100)).toInt ∧ (lN (c - 100)).toInt ≤ 1000000
    rw [pf_lI (by omega)]; omega
  · subst e
    rw [if_neg (by omega), if_pos h1]
    refine ⟨?_, h⟩
    show (_ : Int64) = 0 ∨ _ = 1
    by_cases q : c - 30 = me
    · rw [if_pos q]; exact Or.inr rfl
    · rw [if_neg q]; exact Or.inl rfl
  · subst e
    rw [if_neg (by omega), if_neg (by omega), if_pos h1]
    exact ⟨hfc _ (by omega), h⟩
  · subst e; subst h1
    rw [if_neg (by omega), if_neg (by omega), if_neg (by omega), if_pos rfl]
    exact ⟨Or.inr rfl, h⟩
  · subst h1; subst e; subst e1
    rw [if_neg (by omega), if_neg (by omega), if_neg (by omega), if_neg (by omega), if_pos rfl]
    cases st with
    | nil => exact absurd h id
    | cons a s =>
      refine ⟨?_, h.2⟩
      rcases (h.1 : a = 0 ∨ a = 1) with q | q
      · subst q; exact Or.inr (by decide)
      · subst q; exact Or.inl (by decide)
  all_goals
    subst e; subst e1
    rw [if_neg (by omega), if_neg (by omega), if_neg (by omega), if_neg (by omega), if_neg (by omega)]
    match st, h with
    | [], h => exact absurd h id
    | [a], h => exact absurd h.2 id
    | b :: a :: s, h =>
      refine ⟨?_, h.2.2⟩
      first
        | exact clipL_ok _
        | (have hb : okv false (rawop c a b) := by
             have hc : c = 6 ∨ c = 7 ∨ c = 8 := by omega
             rcases hc with q | q | q <;> subst q
             · show (if b ≤ a then (0 : Int64) else 1) = 0 ∨ (if b ≤ a then (0 : Int64) else 1) = 1
               by_cases g : b ≤ a
               · exact Or.inl (if_pos g)
               · exact Or.inr (if_neg g)
             · show (if a ≤ b then (0 : Int64) else 1) = 0 ∨ (if a ≤ b then (0 : Int64) else 1) = 1
               by_cases g : a ≤ b
               · exact Or.inl (if_pos g)
               · exact Or.inr (if_neg g)
             · show (if a = b then (1 : Int64) else 0) = 0 ∨ (if a = b then (1 : Int64) else 0) = 1
               by_cases g : a = b
               · exact Or.inr (if_pos g)
               · exact Or.inl (if_neg g)
           rw [clip_in (bool_okt hb)]; exact hb)
        | (have hb : okv false (rawop c a b) := by
             have hc : c = 9 ∨ c = 10 := by omega
             have g1 : b = 0 ∨ b = 1 := h.1
             have g2 : a = 0 ∨ a = 1 := h.2.1
             show rawop c a b = 0 ∨ rawop c a b = 1
             rcases hc with q | q <;> subst q <;> rcases g1 with q | q <;> subst q <;> rcases g2 with q | q <;> subst q <;> decide
           rw [clip_in (bool_okt hb)]; exact hb)
