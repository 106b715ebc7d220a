/-! what a net is worth to a person, without extra -/
theorem tri_mono {a b : Nat} (h : a ≤ b) : a * (a - 1) / 2 ≤ b * (b - 1) / 2 := Nat.div_le_div_right (Nat.mul_le_mul h (Nat.sub_le_sub_right h 1))
theorem td_lt {n net : Nat} (h : net < 2 ^ (n * (n - 1) / 2)) : ∀ c b, td net c b = true → b < n := by
  intro c b ht
  rcases Nat.lt_or_ge b n with g | g
  · exact g
  · have h1 := tri_mono g
    have h2 : n * (n - 1) / 2 ≤ prN c b := by
      unfold prN
      by_cases q : c < b
      · rw [if_pos q]; omega
      · rw [if_neg q]
        have h3 := tri_mono (show b ≤ c by omega)
        omega
    have h4 : net.testBit (prN c b) = false := bit_hi h h2
    unfold td at ht
    rw [h4] at ht
    simp at ht
theorem dg_10 {n net : Nat} (hn : n ≤ 10) (hlt : ∀ c b, td net c b = true → b < n) (a : Nat) : fb_ct (fun q => td net a q) 10 = dg n net a := by
  unfold dg
  rw [show 10 = n + (10 - n) by omega, fb_ct_split]
  have : fb_ct (fun k => td net a (n + k)) (10 - n) = 0 := fb_ct_zero.mpr (fun k _ => by
    cases h : td net a (n + k) with
    | false => rfl
    | true => have := hlt _ _ h; omega)
  omega
theorem dg_le (n net a : Nat) : dg n net a ≤ n := fb_ct_le _ _
def bci (x0 : Int32) : Int32 :=
  let v1 := x0 - (((x0.toUInt32 >>> ((1 : Int32).toUInt32 &&& Int32.toUInt32 31)).toInt32) &&& (1431655765 : Int32))
  let v2 := (v1 &&& (858993459 : Int32)) + (((v1.toUInt32 >>> ((2 : Int32).toUInt32 &&& Int32.toUInt32 31)).toInt32) &&& (858993459 : Int32))
  let v3 := (v2 + ((v2.toUInt32 >>> ((4 : Int32).toUInt32 &&& Int32.toUInt32 31)).toInt32)) &&& (252645135 : Int32)
  let v4 := v3 + ((v3.toUInt32 >>> ((8 : Int32).toUInt32 &&& Int32.toUInt32 31)).toInt32)
  let v5 := v4 + ((v4.toUInt32 >>> ((16 : Int32).toUInt32 &&& Int32.toUInt32 31)).toInt32)
  v5 &&& (63 : Int32)
theorem bci_ok : ∀ m, m < 1024 → bci (nI m) = nI (fb_ct (fun j => m.testBit j) 10) := by decide +kernel
theorem pcI {N m : Nat} {σ : zSt} {Q : Int32 → zSt → Prop} (hm : m < 1024) (h : Q (nI (fb_ct (fun j => m.testBit j) 10)) σ) : w_J6_bitCount_0f7a4 N (nI m) σ Q := by
  intro v1 e1 v2 e2 v3 e3 v4 e4 v5 e5
  have := bci_ok m hm
  rw [← this] at h
  subst e1; subst e2; subst e3; subst e4; subst e5
  exact h
theorem nrm_ct {net q : Nat} : fb_ct (fun j => (nrm net q).testBit j) 10 = fb_ct (fun j => td net q j) 10 := fb_ct_cong (fun j hj => by rw [nrm, msk_bit]; simp [hj])
theorem nrm_lt (net q : Nat) : nrm net q < 1024 := msk_lt _ _
theorem x_near {N n net q : Nat} {σ : zSt} {Q : Int32 → zSt → Prop} (hn : n ≤ 10) (hlt : ∀ c b, td net c b = true → b < n) (h : Q (nI (dg n net q)) σ) : w_J6_bitCount_0f7a4 N (nI (nrm net q)) σ Q := by
  refine pcI (nrm_lt _ _) ?_
  rw [nrm_ct, dg_10 hn hlt]; exact h
/-- how many ties -/
def pop (net : Nat) : Nat := fb_ct (fun j => net.testBit j) 45
theorem pop_64 {net : Nat} (h : net < 2 ^ 45) : fb_ct (fun j => net.testBit j) 64 = pop net := by
  rw [show 64 = 45 + 19 from rfl, fb_ct_split]
  have : fb_ct (fun k => net.testBit (45 + k)) 19 = 0 := fb_ct_zero.mpr (fun k _ => bit_hi h (by omega))
  rw [this]; rfl
theorem stU_msk : ∀ (P q : Nat), stU P q = msk (fun k => decide (loN k = q ∨ hiN k = q)) P
  | 0, _ => rfl
  | P + 1, q => by
    rw [stU, msk, stU_msk P q]
    by_cases h : loN P = q ∨ hiN P = q
    · rw [if_pos h, if_pos (decide_eq_true h)]
    · rw [if_neg h, if_neg (by simpa using h), Nat.or_zero]
theorem ct_one {c : Nat → Bool} {p : Nat} : ∀ n, fb_ct (fun j => decide (j = p) && c j) n = if p < n then (if c p then 1 else 0) else 0
  | 0 => by rw [if_neg (Nat.not_lt_zero _)]; rfl
  | n + 1 => by
    rw [fb_ct_succ, ct_one n]
    by_cases e : n = p
    · subst e
      rw [if_neg (Nat.lt_irrefl _), if_pos (Nat.lt_succ_self _)]
      simp
    · have h1 : (decide (n = p) && c n) = false := by simp [e]
      rw [h1]
      by_cases g : p < n
      · rw [if_pos g, if_pos (show p < n + 1 by omega)]; simp
      · rw [if_neg g, if_neg (show ¬ p < n + 1 by omega)]; simp
theorem st_ctn (b : Nat → Bool) (p : Nat) : ∀ n, n ≤ 10 → fb_ct (fun k => decide (loN k = p ∨ hiN k = p) && b k) (n * (n - 1) / 2) = if p < n then fb_ct (fun q => decide (p ≠ q) && b (prN p q)) n else 0
  | 0, _ => by rw [if_neg (Nat.not_lt_zero _)]; rfl
  | n + 1, hn => by
    have ih := st_ctn b p n (by omega)
    have e0 : (n + 1) * (n + 1 - 1) / 2 = n * (n - 1) / 2 + n := by
      have h2 : n = 0 ∨ n = 1 ∨ n = 2 ∨ n = 3 ∨ n = 4 ∨ n = 5 ∨ n = 6 ∨ n = 7 ∨ n = 8 ∨ n = 9 := by omega
      rcases h2 with h | h | h | h | h | h | h | h | h | h <;> subst h <;> rfl
    have hpr : ∀ j, j < n → prN j n = n * (n - 1) / 2 + j := fun j hj => if_pos hj
    have hk : ∀ j, j < n → loN (n * (n - 1) / 2 + j) = j ∧ hiN (n * (n - 1) / 2 + j) = n := fun j hj => by
      have := prN_hl j (by omega) n (by omega) hj
      rw [hpr j hj] at this
      exact ⟨this.2, this.1⟩
    rw [e0, fb_ct_split, ih]
    rcases Nat.lt_trichotomy p n with g | g | g
    · rw [if_pos g, if_pos (by omega), fb_ct_succ]
      have h1 : fb_ct (fun j => decide (loN (n * (n - 1) / 2 + j) = p ∨ hiN (n * (n - 1) / 2 + j) = p) && b (n * (n - 1) / 2 + j)) n = fb_ct (fun j => decide (j = p) && b (n * (n - 1) / 2 + j)) n := fb_ct_cong (fun j hj => by
        obtain ⟨k1, k2⟩ := hk j hj
        rw [k1, k2]
        have : ¬ n = p := by omega
        simp [this])
      rw [h1, ct_one, if_pos g]
      have h2 : (decide (p ≠ n) && b (prN p n)) = b (n * (n - 1) / 2 + p) := by
        rw [hpr p g]
        have : ¬ p = n := by omega
        simp [this]
      rw [h2]
    · subst g
      rw [if_neg (Nat.lt_irrefl _), if_pos (Nat.lt_succ_self _), fb_ct_succ]
      have h1 : fb_ct (fun j => decide (loN (p * (p - 1) / 2 + j) = p ∨ hiN (p * (p - 1) / 2 + j) = p) && b (p * (p - 1) / 2 + j)) p = fb_ct (fun q => decide (p ≠ q) && b (prN p q)) p := fb_ct_cong (fun j hj => by
        obtain ⟨k1, k2⟩ := hk j hj
        rw [k2, prN_c, hpr j hj]
        have : ¬ p = j := by omega
        simp [this])
      rw [h1]
      simp
    · rw [if_neg (by omega), if_neg (by omega)]
      have h1 : fb_ct (fun j => decide (loN (n * (n - 1) / 2 + j) = p ∨ hiN (n * (n - 1) / 2 + j) = p) && b (n * (n - 1) / 2 + j)) n = 0 := fb_ct_zero.mpr (fun j hj => by
        obtain ⟨k1, k2⟩ := hk j hj
        rw [k1, k2]
        have q1 : ¬ n = p := by omega
        have q2 : ¬ j = p := by omega
        simp [q1, q2])
      rw [h1]
theorem st_ct (net p : Nat) (hp : p < 10) : fb_ct (fun k => decide (loN k = p ∨ hiN k = p) && net.testBit k) 45 = fb_ct (fun q => td net p q) 10 := by
  have := st_ctn (fun k => net.testBit k) p 10 (Nat.le_refl _)
  rw [if_pos hp] at this
  exact this
theorem x_star {N n net p : Nat} {σ : zSt} {Q : Int32 → zSt → Prop} (hn : n ≤ 10) (hlt : ∀ c b, td net c b = true → b < n) (hp : p < 10) (h45 : net < 2 ^ 45) (hs : σ.2.2.2 2 p = lN (stU 45 p)) (h : Q (nI (dg n net p)) σ) : w_J13_bitCount_95d88 N (lN net &&& σ.2.2.2 2 p) σ Q := by
  rw [hs, fb_andL]
  have hl : net &&& stU 45 p < 2 ^ 45 := Nat.and_lt_two_pow _ (by rw [stU_msk]; exact msk_lt _ _)
  refine pcL (by omega) ?_
  rw [pop_64 hl]
  have : pop (net &&& stU 45 p) = dg n net p := by
    rw [← dg_10 hn hlt p, ← st_ct net p hp]
    refine fb_ct_cong (fun k hk => ?_)
    rw [Nat.testBit_and, stU_msk, msk_bit]
    simp only [hk, decide_true, Bool.true_and]
    exact Bool.and_comm _ _
  rw [this]; exact h
/-- how far apart -/
def mil (l : zL) (p q : Nat) : Nat := if lPl l p ≤ lPl l q then lPl l q - lPl l p else lPl l p - lPl l q
def fcv (l : zL) (net p q : Nat) : Nat → Int64 := fun k => match k with
  | 0 => (dv (lPn l) net p q).toInt64
  | 1 => (nI (mil l p q)).toInt64
  | 2 => (nI (dg (lPn l) net p)).toInt64
  | 3 => (nI (dg (lPn l) net q)).toInt64
  | _ => (nI (pop net)).toInt64
theorem dv_cases (n net a b : Nat) : dv n net a b = -1 ∨ ∃ d, d < n ∧ dv n net a b = nI d ∧ ds n net a b = d := by
  unfold dv
  by_cases h : ds n net a b < n
  · rw [if_pos h]; exact Or.inr ⟨_, h, rfl, rfl⟩
  · rw [if_neg h]; exact Or.inl rfl
theorem ok_nI {m : Nat} (h : m ≤ 1000000) : okv true (nI m).toInt64 := by
  show -1000000 ≤ (nI m).toInt64.toInt ∧ (nI m).toInt64.toInt ≤ 1000000
  rw [nI_l (by omega), pf_lI (by omega)]; omega
def lPok (l : zL) : Prop := lPn l ≤ 10 ∧ (∀ p, p < lPn l → lPl l p < 1000 ∧ lMo l p ≤ 9) ∧ lBa l < 2 ^ lPc l
theorem fcv_ok {l : zL} {net p q : Nat} (hl : lPok l) (hp : p < lPn l) (hq : q < lPn l) : ∀ k, k < 5 → okv true (fcv l net p q k) := by
  intro k hk
  have h10 := hl.1
  have e : k = 0 ∨ k = 1 ∨ k = 2 ∨ k = 3 ∨ k = 4 := by omega
  rcases e with e | e | e | e | e <;> subst e
  · show okv true (dv (lPn l) net p q).toInt64
    rcases dv_cases (lPn l) net p q with h | ⟨d, h1, h2, _⟩
    · rw [h]; show -1000000 ≤ (-1 : Int32).toInt64.toInt ∧ (-1 : Int32).toInt64.toInt ≤ 1000000; decide
    · rw [h2]; exact ok_nI (by omega)
  · refine ok_nI ?_
    have h1 := (hl.2.1 p hp).1
    have h2 := (hl.2.1 q hq).1
    unfold mil
    by_cases h : lPl l p ≤ lPl l q
    · rw [if_pos h]; omega
    · rw [if_neg h]; omega
  · exact ok_nI (by have := dg_le (lPn l) net p; omega)
  · exact ok_nI (by have := dg_le (lPn l) net q; omega)
  · exact ok_nI (by have := fb_ct_le (fun j => net.testBit j) 45; unfold pop; omega)
def newsv (l : zL) (net p q : Nat) : Int64 := fsum (fcv l net p q) p l 1 (lRc l) 0
def costv (l : zL) (net p q : Nat) : Int64 := fsum (fcv l net p q) p l 0 (lRc l) 0
def wst (l : zL) (net p q : Nat) (acc : Int64) : Int64 := if q = p ∨ dv (lPn l) net p q = -1 then acc else if dv (lPn l) net p q = 1 then acc + newsv l net p q - costv l net p q else acc + newsv l net p q
def wv (l : zL) (net p : Nat) : Nat → Int64
  | 0 => 0
  | q + 1 => wst l net p q (wv l net p q)
theorem run_ok {fc : Nat → Int64} {me : Nat} {co : Nat → Nat} {us : List Bool} (hfc : ∀ k, k < 5 → okv true (fc k)) : ∀ (k i : Nat) (ts : List Bool) (st : List Int64), tyr co k i ts us → okst ts st → okst us (run fc me co k i st)
  | 0, _, ts, st, h, ho => by
    have e : ts = us := h
    subst e; exact ho
  | k + 1, i, ts, st, ⟨ts', h1, _, h2⟩, ho => run_ok hfc k (i + 1) ts' _ h2 (ex_ok hfc h1 ho)
theorem row_ok {fc : Nat → Int64} {me : Nat} {co : Nat → Nat} {b : Bool} {i e : Nat} (hfc : ∀ k, k < 5 → okv true (fc k)) (h : tyr co (e - i) i [] [b]) : okv b (rowv fc me co i e) := by
  obtain ⟨v, hv, ho⟩ := okst_1 (run_ok (me := me) hfc _ _ [] [] h trivial)
  unfold rowv
  rw [hv]; exact ho
theorem fsum_ok {fc : Nat → Int64} {me : Nat} {l : zL} {kind : Nat} (hfc : ∀ k, k < 5 → okv true (fc k)) (hl : lRok l) : ∀ (k r : Nat), r + k ≤ lRc l → okv true (fsum fc me l kind k r)
  | 0, _, _ => by show -1000000 ≤ (0 : Int64).toInt ∧ (0 : Int64).toInt ≤ 1000000; decide
  | k + 1, r, h => by
    have ih := fsum_ok (me := me) (kind := kind) hfc hl k (r + 1) (by omega)
    obtain ⟨_, _, _, _, h5, _⟩ := hl.2 r (by omega)
    unfold fsum
    by_cases q : lKi l r = kind
    · rw [if_pos q]
      by_cases q2 : rowv fc me (lCo l) (lTe l r) (lSt l r) = 0
      · rw [if_pos q2]; exact ih
      · rw [if_neg q2]; exact row_ok hfc h5
    · rw [if_neg q]; exact ih
theorem wv_ok {l : zL} {net p : Nat} (hl : lPok l) (hr : lRok l) (hp : p < lPn l) : ∀ q, q ≤ lPn l → -(2000000 * q : Int) ≤ (wv l net p q).toInt ∧ (wv l net p q).toInt ≤ 2000000 * q
  | 0, _ => by show -(2000000 * (0 : Nat) : Int) ≤ (0 : Int64).toInt ∧ (0 : Int64).toInt ≤ 2000000 * (0 : Nat); decide
  | q + 1, h => by
    have ih := wv_ok (net := net) hl hr hp q (by omega)
    have h10 := hl.1
    have hf := fcv_ok (net := net) hl hp (show q < lPn l by omega)
    have h1 : -1000000 ≤ (newsv l net p q).toInt ∧ (newsv l net p q).toInt ≤ 1000000 := fsum_ok hf hr _ _ (by omega)
    have h2 : -1000000 ≤ (costv l net p q).toInt ∧ (costv l net p q).toInt ≤ 1000000 := fsum_ok hf hr _ _ (by omega)
    have e : (wv l net p q + newsv l net p q).toInt = (wv l net p q).toInt + (newsv l net p q).toInt := fb_addL (by omega) (by omega)
    have e2 : (wv l net p q + newsv l net p q - costv l net p q).toInt = (wv l net p q + newsv l net p q).toInt - (costv l net p q).toInt := fb_subL (by omega) (by omega)
    rw [wv]
    unfold wst
    by_cases q1 : q = p ∨ dv (lPn l) net p q = -1
    · rw [if_pos q1]; omega
    · rw [if_neg q1]
      by_cases q2 : dv (lPn l) net p q = 1
      · rw [if_pos q2, e2, e]; omega
      · rw [if_neg q2, e]; omega
theorem ds_0 {n net a b : Nat} (ha : a < n) : ds n net a b = 0 ↔ b = a := by
  unfold ds
  constructor
  · intro h
    have := fa_first_yes (fun k => rs n net a k b) n (by omega)
    rw [h] at this
    simpa [rs] using this
  · intro h
    exact first_is (by omega) (by simp [rs, h]) (fun j hj => absurd hj (Nat.not_lt_zero _))
/-- whom no way leads to, or oneself -/
theorem dv_le0 {n net a b : Nat} (hn : n ≤ 10) (ha : a < n) : dv n net a b ≤ nI 0 ↔ b = a ∨ dv n net a b = -1 := by
  rcases dv_cases n net a b with h | ⟨d, h1, h2, h3⟩
  · rw [h]; exact ⟨fun _ => Or.inr rfl, fun _ => by decide⟩
  · rw [h2, nI_leI (by omega) (by omega)]
    constructor
    · intro h
      refine Or.inl ((ds_0 (net := net) ha).mp ?_)
      rw [h3]; omega
    · intro h
      rcases h with h | h
      · have := (ds_0 (net := net) ha).mpr h
        omega
      · exact absurd h (m1_ne (by omega))
