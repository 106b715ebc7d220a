/-! a renamed net has as many ties -/
def rP (o : List Nat) (P : Nat) : Nat := prN (oG o (loN P)) (oG o (hiN P))
theorem okO_inj {n : Nat} {o : List Nat} (ho : okO n o) {i j : Nat} (hi : i < n) (hj : j < n) (e : oG o i = oG o j) : i = j := by
  by_cases q : i < j
  · exact absurd e (ho.2.2 i j q hj)
  · by_cases q2 : j < i
    · exact absurd e.symm (ho.2.2 j i q2 hi)
    · omega
theorem rP_inj {n : Nat} {o : List Nat} (h5 : n ≤ 5) (ho : okO n o) {P R : Nat} (hP : P < n * (n - 1) / 2) (hR : R < n * (n - 1) / 2) (e : rP o P = rP o R) : P = R := by
  obtain ⟨q1, q2, q3⟩ := hl_n n (by omega) P hP
  obtain ⟨r1, r2, r3⟩ := hl_n n (by omega) R hR
  have k1 := hiN_ok P q1
  have k2 := hiN_ok R r1
  have a1 := ho.2.1 _ q2
  have a2 := ho.2.1 _ q3
  have a3 := ho.2.1 _ r2
  have a4 := ho.2.1 _ r3
  rcases prN_inj _ (by omega) _ (by omega) _ (by omega) _ (by omega) (ho.2.2 _ _ k1.2.2.1 q2) (ho.2.2 _ _ k2.2.2.1 r2) e with z | z
  · have e1 := okO_inj ho q3 r3 z.1
    have e2 := okO_inj ho q2 r2 z.2
    rw [← k1.2.2.2.1, ← k2.2.2.2.1, e1, e2]
  · have e1 := okO_inj ho q3 r2 z.1
    have e2 := okO_inj ho q2 r3 z.2
    have g1 := k1.2.2.1
    have g2 := k2.2.2.1
    omega
theorem rn_bit {n : Nat} {o : List Nat} {a : Nat} : ∀ P j, (rnN o a P).testBit j = true → ∃ R, R < P ∧ rP o R = j
  | 0, j, h => by
    rw [rnN, Nat.zero_testBit] at h
    exact absurd h (by decide)
  | P + 1, j, h => by
    rw [rnN] at h
    by_cases q : a.testBit P = true
    · rw [if_pos q, Nat.testBit_or, Bool.or_eq_true, Nat.testBit_two_pow, decide_eq_true_eq] at h
      rcases h with z | z
      · obtain ⟨R, hR, e⟩ := rn_bit (n := n) P j z
        exact ⟨R, by omega, e⟩
      · exact ⟨P, by omega, z⟩
    · rw [if_neg q] at h
      obtain ⟨R, hR, e⟩ := rn_bit (n := n) P j h
      exact ⟨R, by omega, e⟩
theorem rn_ct {n : Nat} {o : List Nat} {a : Nat} (h5 : n ≤ 5) (ho : okO n o) : ∀ P, P ≤ n * (n - 1) / 2 → fb_ct (fun j => (rnN o a P).testBit j) 45 = fb_ct (fun j => a.testBit j) P
  | 0, _ => fb_ct_zero.mpr (fun k _ => by rw [rnN, Nat.zero_testBit])
  | P + 1, hP => by
    have ih := rn_ct (a := a) h5 ho P (by omega)
    have hs : fb_ct (fun j => a.testBit j) (P + 1) = fb_ct (fun j => a.testBit j) P + (if a.testBit P then 1 else 0) := rfl
    rw [hs]
    by_cases q : a.testBit P = true
    · obtain ⟨q1, q2, q3⟩ := hl_n n (by omega) P (by omega)
      have k1 := hiN_ok P q1
      have a1 := ho.2.1 _ q2
      have a2 := ho.2.1 _ q3
      have hr : rP o P < 45 := (prN_ok _ (by omega) _ (by omega) (ho.2.2 _ _ k1.2.2.1 q2)).1
      have hno : (rnN o a P).testBit (rP o P) = false := by
        cases hb : (rnN o a P).testBit (rP o P) with
        | false => rfl
        | true =>
          obtain ⟨R, hR, e⟩ := rn_bit (n := n) P _ hb
          have := rP_inj h5 ho (P := R) (R := P) (by omega) (by omega) e
          omega
      have hu := fb_ct_upd (fun j => (rnN o a P).testBit j) true hr
      have hc : fb_ct (fun j => (rnN o a (P + 1)).testBit j) 45 = fb_ct (fun k => if k = rP o P then true else (rnN o a P).testBit k) 45 := fb_ct_cong (fun k _ => by
        show (rnN o a (P + 1)).testBit k = _
        rw [rnN, if_pos q, Nat.testBit_or, Nat.testBit_two_pow]
        by_cases z : k = rP o P
        · rw [if_pos z, decide_eq_true (show prN (oG o (loN P)) (oG o (hiN P)) = k from z.symm), Bool.or_true]
        · rw [if_neg z, decide_eq_false (fun w => z (show k = prN (oG o (loN P)) (oG o (hiN P)) from w.symm)), Bool.or_false])
      rw [hc, q, ← ih, if_pos rfl]
      have hu : fb_ct (fun k => if k = rP o P then true else (rnN o a P).testBit k) 45 + (if (rnN o a P).testBit (rP o P) then 1 else 0) = fb_ct (fun j => (rnN o a P).testBit j) 45 + 1 := hu
      rw [hno, if_neg (by decide)] at hu
      exact hu
    · rw [rnN, if_neg q, if_neg q]
      exact ih
theorem ct_45 {a p : Nat} (h : a < 2 ^ p) (hp : p ≤ 45) : fb_ct (fun j => a.testBit j) 45 = fb_ct (fun j => a.testBit j) p := by
  have e := fb_ct_split (fun j => a.testBit j) p (45 - p)
  have z : fb_ct (fun k => a.testBit (p + k)) (45 - p) = 0 := fb_ct_zero.mpr (fun k _ => bit_hi h (by omega))
  rw [show p + (45 - p) = 45 by omega, z] at e
  exact e
theorem smF_ct {n a b : Nat} (h5 : n ≤ 5) (ha : a < 2 ^ (n * (n - 1) / 2)) : ∀ f o, chk n f o = true → smF n a b f o = true → fb_ct (fun j => a.testBit j) 45 = fb_ct (fun j => b.testBit j) 45
  | 0, _, hc, _ => absurd (show false = true from hc) (by decide)
  | f + 1, o, hc, h => by
    obtain ⟨ho, hc2⟩ := chk_s hc
    have hp : n * (n - 1) / 2 ≤ 45 := by
      have : ∀ n, n ≤ 5 → n * (n - 1) / 2 ≤ 45 := by decide
      exact this n h5
    by_cases q : rnN o a (n * (n - 1) / 2) = b
    · rw [← q, rn_ct h5 ho _ (Nat.le_refl _)]
      exact ct_45 ha hp
    · cases e : nxO n o with
      | none => rw [smF_n q e] at h; exact absurd h (by decide)
      | some o' => rw [smF_s q e] at h; exact smF_ct h5 ha f o' (hc2 o' e) h
