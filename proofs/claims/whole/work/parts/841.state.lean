/-! statements, a whole land, as a function: reading, the land so far, how many barred -/
abbrev zQ : Type := zP × zL × Nat
abbrev zF : Type := Except (Nat × Nat) zQ
def up1 (f : Nat → Nat) (n v : Nat) : Nat → Nat := fun k => if k = n then v else f k
theorem up1_s {f : Nat → Nat} {n v : Nat} : up1 f n v n = v := if_pos rfl
theorem up1_n {f : Nat → Nat} {n v k : Nat} (h : k ≠ n) : up1 f n v k = f k := if_neg h
def adP (l : zL) (na pl : Nat) : zL := (lPn l + 1, up1 (lPl l) (lPn l) pl, up1 (lMo l) (lPn l) 9, lBa l, up1 (lNa l) (lPn l) na, lRc l, lKi l, lSu l, lTe l, lSt l, lCo l)
def adR (l : zL) (k a b c : Nat) : zL := (lPn l, lPl l, lMo l, lBa l, lNa l, lRc l + 1, up1 (lKi l) (lRc l) k, up1 (lSu l) (lRc l) a, up1 (lTe l) (lRc l) b, up1 (lSt l) (lRc l) c, lCo l)
def adB (l : zL) (i : Nat) : zL := (lPn l, lPl l, lMo l, lBa l ||| 2 ^ i, lNa l, lRc l, lKi l, lSu l, lTe l, lSt l, lCo l)
def adM (l : zL) (a v : Nat) : zL := (lPn l, lPl l, up1 (lMo l) a v, lBa l, lNa l, lRc l, lKi l, lSu l, lTe l, lSt l, lCo l)
section sd
variable (tp : Nat × (Nat → Nat))
def whP3 (s : zP) (l : zL) (c v : Nat) : zF := if wS tp s = 1 then bdP (nuP tp 999 (nxP tp s)) fun pl => .ok (nxP tp (nxP tp s), adP l v pl, c) else .error (1, sT tp s.1)
def whP2 (s : zP) (l : zL) (c : Nat) : zF := bdP (naP tp s) fun v => if noF (lNa l) (lPn l) v = 99 then whP3 tp (nxP tp s) l c v else .error (3, sT tp s.1)
def whP (s : zP) (l : zL) (c : Nat) : zF := if lPn l < 10 then whP2 tp (nxP tp s) l c else .error (5, sT tp s.1)
def ruP3 (k a : Nat) (s : zP) (l : zL) (c : Nat) : zF := bdP (teP tp (fcP tp (lPn l) (lNa l) 9) s) fun u => .ok (u, adR l k a s.2.2.2.length u.2.2.2.length, c)
def ruP2 (k : Nat) (s : zP) (l : zL) (c : Nat) : zF := bdP (suP tp 9 s) fun u => if wS tp u = 3 then ruP3 tp k s.2.2.2.length (nxP tp u) l c else .error (1, sT tp u.1)
def ruP (k : Nat) (s : zP) (l : zL) (c : Nat) : zF := if lRc l < 20 then ruP2 tp k (nxP tp s) l c else .error (5, sT tp s.1)
def baP2 (s : zP) (l : zL) (c : Nat) : zF := bdP (peP tp (lPn l) (lNa l) 99 s) fun a => bdP (peP tp (lPn l) (lNa l) a (nxP tp s)) fun b => .ok (nxP tp (nxP tp s), adB l (prN a b), c + 1)
def baP (s : zP) (l : zL) (c : Nat) : zF := if c < 20 then baP2 tp (nxP tp s) l c else .error (5, sT tp s.1)
def moP (s : zP) (l : zL) (c : Nat) : zF := bdP (peP tp (lPn l) (lNa l) 99 (nxP tp s)) fun a => bdP (nuP tp 9 (nxP tp (nxP tp s))) fun v => .ok (nxP tp (nxP tp (nxP tp s)), adM l a v, c)
def stP1 (q : zQ) : zF := if wS tp q.1 = 0 then whP tp q.1 q.2.1 q.2.2 else if wS tp q.1 = 2 then ruP tp 0 q.1 q.2.1 q.2.2 else if wS tp q.1 = 4 then ruP tp 1 q.1 q.2.1 q.2.2 else if wS tp q.1 = 5 then baP tp q.1 q.2.1 q.2.2 else if wS tp q.1 = 6 then moP tp q.1 q.2.1 q.2.2 else .error (1, sT tp q.1.1)
def stP (q : zQ) : zF := bdP (stP1 tp q) fun q' => bdP (tsP tp 59 q'.1) fun s => .ok (s, q'.2.1, q'.2.2)
def laL : Nat → Nat → zQ → Except (Nat × Nat) (zQ × Nat)
  | 0, _, _ => .error (0, 0)
  | f + 1, m, q => if kS tp q.1 = 0 then .ok (q, m) else bdP (stP tp q) fun q' => laL f (m + 1) q'
def la0 : zL := (0, fun _ => 0, fun _ => 0, 0, fun _ => 0, 0, fun _ => 0, fun _ => 0, fun _ => 0, fun _ => 0, fun _ => 0)
def laP : Except (Nat × Nat) (zQ × Nat) := laL tp 801 0 (((0, false, 0, []) : zP), la0, 0)
end sd
/-! what is read is good -/
theorem tyr_L : ∀ (e c : List Nat) (ts us : List Bool), tyL e ts us → tyr (fun k => (c ++ e).getD k 0) e.length c.length ts us
  | [], c, ts, us, h => h
  | v :: e, c, ts, us, ⟨t1, a1, a2, a3⟩ => by
    have h := tyr_L e (c ++ [v]) t1 us a3
    have e1 : c ++ [v] ++ e = c ++ v :: e := by rw [List.append_assoc]; rfl
    rw [e1, List.length_append] at h
    have e2 : (c ++ v :: e).getD c.length 0 = v := by
      rw [← e1]
      have : ∀ (l m : List Nat) (k : Nat), k < l.length → (l ++ m).getD k 0 = l.getD k 0 := by
        intro l
        induction l with
        | nil => intro m k hk; exact absurd hk (Nat.not_lt_zero _)
        | cons a l ih =>
          intro m k hk
          cases k with
          | zero => rfl
          | succ k => exact ih m k (Nat.lt_of_succ_lt_succ hk)
      rw [this (c ++ [v]) e c.length (by rw [List.length_append]; show c.length < c.length + 1; omega), gd_r]
    refine ⟨t1, ?_, a2, h⟩
    show ty ((c ++ v :: e).getD c.length 0) ts = some t1
    rw [e2]; exact a1
theorem gd_a : ∀ (l m : List Nat) (k : Nat), k < l.length → (l ++ m).getD k 0 = l.getD k 0
  | [], _, k, hk => absurd hk (Nat.not_lt_zero _)
  | a :: l, m, 0, _ => rfl
  | a :: l, m, k + 1, hk => gd_a l m k (Nat.lt_of_succ_lt_succ hk)
theorem tyr_c {co co' : Nat → Nat} : ∀ (n i : Nat) (ts us : List Bool), (∀ k, i ≤ k → k < i + n → co k = co' k) → tyr co n i ts us → tyr co' n i ts us
  | 0, _, _, _, _, h => h
  | n + 1, i, ts, us, hc, ⟨t1, a1, a2, a3⟩ => ⟨t1, by rw [← hc i (Nat.le_refl _) (by omega)]; exact a1, a2, tyr_c n (i + 1) t1 us (fun k h1 h2 => hc k (by omega) (by omega)) a3⟩
def cdF (c : List Nat) : Nat → Nat := fun k => c.getD k 0
def ruOk (l : zL) (c : List Nat) : Prop := lRc l ≤ 20 ∧ ∀ r, r < lRc l → lKi l r < 2 ∧ lSu l r ≤ lTe l r ∧ lTe l r ≤ lSt l r ∧ lSt l r ≤ c.length ∧ tyr (cdF c) (lTe l r - lSu l r) (lSu l r) [] [true] ∧ tyr (cdF c) (lSt l r - lTe l r) (lTe l r) [] [false]
theorem ruOk_a {l : zL} {c : List Nat} (e : List Nat) (h : ruOk l c) : ruOk l (c ++ e) := by
  refine ⟨h.1, fun r hr => ?_⟩
  obtain ⟨a1, a2, a3, a4, a5, a6⟩ := h.2 r hr
  exact ⟨a1, a2, a3, by rw [List.length_append]; omega, tyr_c _ _ _ _ (fun k h1 h2 => (gd_a c e k (by omega)).symm) a5, tyr_c _ _ _ _ (fun k h1 h2 => (gd_a c e k (by omega)).symm) a6⟩
def qOk (q : zQ) : Prop := q.1.2.2.1 = 0 ∧ q.1.2.2.2.length ≤ q.1.1 ∧ lPok q.2.1 ∧ (∀ p, p < lPn q.2.1 → nmOk (lNa q.2.1 p)) ∧ q.2.2 ≤ 20 ∧ ruOk q.2.1 q.1.2.2.2
/-- after one statement -/
def qN (q q' : zQ) : Prop := q.1.1 < q'.1.1 ∧ qOk q'
section sg
variable {tp : Nat × (Nat → Nat)} {s : zP} {l : zL} {c : Nat}
theorem pc_mono : ∀ n, n * (n - 1) / 2 ≤ (n + 1) * n / 2 := fun n => Nat.div_le_div_right (Nat.mul_le_mul (Nat.le_succ n) (Nat.sub_le n 1))
theorem whP_g (h8 : tp.1 ≤ 800) (h : qOk (s, l, c)) (hk : ¬ kS tp s = 0) : gE (qN (s, l, c)) (whP tp s l c) := by
  obtain ⟨a1, a2, a3, a4, a5, a6⟩ := h
  unfold whP
  by_cases c1 : lPn l < 10
  · rw [if_pos c1]
    have n1 := nx_gt h8 hk
    unfold whP2
    refine gE_b naP_g (fun v hv gv => ?_)
    by_cases c2 : noF (lNa l) (lPn l) v = 99
    · rw [if_pos c2]
      have n2 := nx_gt (s := nxP tp s) h8 (by have := gv.2.1; omega)
      unfold whP3
      by_cases c3 : wS tp (nxP tp (nxP tp s)) = 1
      · rw [if_pos c3]
        have n3 := nx_gt h8 (wS_lt (by decide) c3).2
        refine gE_b nuP_g (fun pl _ gp => ?_)
        have n4 := nx_gt (s := nxP tp (nxP tp (nxP tp s))) h8 (by have := gp.2.1; omega)
        have hl := (kT_1 gv.2.1).1
        have hpl := gp.2.2.2
        have hnm : nmOk v := by
          rw [gv.1, vT_l hl]
          have hg := eT_gt h8 (lB_lt hl)
          exact pw_ok (by omega) gv.2.2.2 (run_l hl)
        refine (⟨by show s.1 < (nxP tp (nxP tp (nxP tp (nxP tp s)))).1; omega, a1, by show s.2.2.2.length ≤ (nxP tp (nxP tp (nxP tp (nxP tp s)))).1; have a2 : s.2.2.2.length ≤ s.1 := a2; omega, ⟨by show lPn l + 1 ≤ 10; omega, fun p hp => ?_, ?_⟩, fun p hp => ?_, a5, a6⟩ : qN (s, l, c) (nxP tp (nxP tp (nxP tp (nxP tp s))), adP l v pl, c))
        · have hp : p < lPn l + 1 := hp
          show up1 (lPl l) (lPn l) pl p < 1000 ∧ up1 (lMo l) (lPn l) 9 p ≤ 9
          by_cases q : p = lPn l
          · rw [q, up1_s, up1_s]; exact ⟨by omega, by omega⟩
          · rw [up1_n q, up1_n q]; exact a3.2.1 p (show p < lPn l by omega)
        · show lBa l < 2 ^ ((lPn l + 1) * (lPn l + 1 - 1) / 2)
          have h1 : lBa l < 2 ^ (lPn l * (lPn l - 1) / 2) := a3.2.2
          have h2 : 2 ^ (lPn l * (lPn l - 1) / 2) ≤ 2 ^ ((lPn l + 1) * (lPn l + 1 - 1) / 2) := Nat.pow_le_pow_right (by decide) (pc_mono _)
          omega
        · have hp : p < lPn l + 1 := hp
          show nmOk (up1 (lNa l) (lPn l) v p)
          by_cases q : p = lPn l
          · rw [q, up1_s]; exact hnm
          · rw [up1_n q]; exact a4 p (show p < lPn l by omega)
      · rw [if_neg c3]; exact er1
    · rw [if_neg c2]; exact (⟨by decide, by decide⟩ : 1 ≤ 3 ∧ 3 ≤ 5)
  · rw [if_neg c1]; exact (⟨by decide, by decide⟩ : 1 ≤ 5 ∧ 5 ≤ 5)
theorem ruP_g {k : Nat} (h8 : tp.1 ≤ 800) (hk2 : k < 2) (h : qOk (s, l, c)) (hk : ¬ kS tp s = 0) : gE (qN (s, l, c)) (ruP tp k s l c) := by
  obtain ⟨a1, a2, a3, a4, a5, a6⟩ := h
  have a1 : s.2.2.1 = 0 := a1
  have a2 : s.2.2.2.length ≤ s.1 := a2
  have hn : lPn l ≤ 10 := a3.1
  unfold ruP
  by_cases c1 : lRc l < 20
  · rw [if_pos c1]
    have n1 := nx_gt h8 hk
    unfold ruP2
    refine gE_b (suP_g h8 9 (nxP tp s) (by omega) (by show s.2.2.1 ≤ 6; omega)) (fun u _ gu => ?_)
    by_cases c2 : wS tp u = 3
    · rw [if_pos c2]
      have n2 := nx_gt h8 (wS_lt (by decide) c2).2
      have o2 : u.2.2.1 = s.2.2.1 := gu.2.1
      unfold ruP3
      refine gE_b (teP_g (s := nxP tp u) h8 (fcP_g h8 hn 9) (by omega) (by show u.2.2.1 ≤ 6; omega)) (fun w _ gw => ?_)
      have o3 : w.2.2.1 = u.2.2.1 := gw.2.1
      have l2 : u.2.2.2.length + (nxP tp s).1 ≤ s.2.2.2.length + u.1 := gV_l gu
      have l3 : w.2.2.2.length + (nxP tp u).1 ≤ u.2.2.2.length + w.1 := gV_l gw
      obtain ⟨b1, b2, e, b3, b4, b5⟩ := gu
      obtain ⟨d1, d2, e', d3, d4, d5⟩ := gw
      have b3 : u.2.2.2 = s.2.2.2 ++ e := b3
      have d3 : w.2.2.2 = u.2.2.2 ++ e' := d3
      have eF : dF (nxP tp u).2.2.1 + 2 ≤ 64 := by show 4 * (7 - u.2.2.1) + 2 ≤ 64; omega
      have eS : dS (nxP tp s).2.2.1 ≤ 64 := by show 3 * (7 - s.2.2.1) ≤ 64; omega
      have t1 := tyr_L e s.2.2.2 [] [true] (b5 [] (by show 0 + _ ≤ 64; omega))
      have t2 := tyr_L e' u.2.2.2 [] [false] (d5 [] (by show 0 + _ ≤ 64; omega))
      rw [← b3] at t1
      rw [← d3] at t2
      have hul : u.2.2.2.length = s.2.2.2.length + e.length := by rw [b3, List.length_append]
      have hwl : w.2.2.2.length = u.2.2.2.length + e'.length := by rw [d3, List.length_append]
      have r1 : ruOk l w.2.2.2 := by rw [d3, b3, List.append_assoc]; exact ruOk_a _ a6
      refine (⟨by show s.1 < w.1; omega, by show w.2.2.1 = 0; omega, by show w.2.2.2.length ≤ w.1; omega, a3, a4, a5, by show lRc l + 1 ≤ 20; omega, fun r hr => ?_⟩ : qN (s, l, c) (w, adR l k s.2.2.2.length u.2.2.2.length w.2.2.2.length, c))
      have hr : r < lRc l + 1 := hr
      show up1 (lKi l) (lRc l) k r < 2 ∧ up1 (lSu l) (lRc l) s.2.2.2.length r ≤ up1 (lTe l) (lRc l) u.2.2.2.length r ∧ up1 (lTe l) (lRc l) u.2.2.2.length r ≤ up1 (lSt l) (lRc l) w.2.2.2.length r ∧ up1 (lSt l) (lRc l) w.2.2.2.length r ≤ w.2.2.2.length ∧ tyr (cdF w.2.2.2) (up1 (lTe l) (lRc l) u.2.2.2.length r - up1 (lSu l) (lRc l) s.2.2.2.length r) (up1 (lSu l) (lRc l) s.2.2.2.length r) [] [true] ∧ tyr (cdF w.2.2.2) (up1 (lSt l) (lRc l) w.2.2.2.length r - up1 (lTe l) (lRc l) u.2.2.2.length r) (up1 (lTe l) (lRc l) u.2.2.2.length r) [] [false]
      by_cases q : r = lRc l
      · rw [q, up1_s, up1_s, up1_s, up1_s]
        refine ⟨hk2, by omega, by omega, Nat.le_refl _, ?_, ?_⟩
        · rw [show u.2.2.2.length - s.2.2.2.length = e.length by omega]
          exact tyr_c _ _ _ _ (fun k h1 h2 => by show u.2.2.2.getD k 0 = w.2.2.2.getD k 0; rw [d3, gd_a _ _ _ (by omega)]) t1
        · rw [show w.2.2.2.length - u.2.2.2.length = e'.length by omega]
          exact t2
      · rw [up1_n q, up1_n q, up1_n q, up1_n q]; exact r1.2 r (by omega)
    · rw [if_neg c2]; exact er1
  · rw [if_neg c1]; exact (⟨by decide, by decide⟩ : 1 ≤ 5 ∧ 5 ≤ 5)
theorem peP_k {n but : Nat} {na : Nat → Nat} (hn : n ≤ 10) : gE (fun v => v < n ∧ v ≠ but ∧ kS tp s = 1) (peP tp n na but s) := by
  cases e : peP tp n na but s with
  | error x => have := peP_g (tp := tp) (s := s) (but := but) (na := na) hn; rw [e] at this; exact this
  | ok v =>
    have := gE_o (peP_g (tp := tp) (s := s) (but := but) (na := na) hn) e
    obtain ⟨w, _, _, _, h⟩ := pe_v e
    exact ⟨this.1, h, this.2⟩
theorem baP_g (h8 : tp.1 ≤ 800) (h : qOk (s, l, c)) (hk : ¬ kS tp s = 0) : gE (qN (s, l, c)) (baP tp s l c) := by
  obtain ⟨a1, a2, a3, a4, a5, a6⟩ := h
  have a2 : s.2.2.2.length ≤ s.1 := a2
  have hn : lPn l ≤ 10 := a3.1
  unfold baP
  by_cases c1 : c < 20
  · rw [if_pos c1]
    have n1 := nx_gt h8 hk
    unfold baP2
    refine gE_b (peP_k hn) (fun a _ ga => ?_)
    have n2 := nx_gt (s := nxP tp s) h8 (by have := ga.2.2; omega)
    refine gE_b (peP_k hn) (fun b _ gb => ?_)
    have n3 := nx_gt (s := nxP tp (nxP tp s)) h8 (by have := gb.2.2; omega)
    refine (⟨by show s.1 < (nxP tp (nxP tp (nxP tp s))).1; omega, a1, by show s.2.2.2.length ≤ (nxP tp (nxP tp (nxP tp s))).1; omega, ⟨hn, a3.2.1, ?_⟩, a4, by show c + 1 ≤ 20; omega, a6⟩ : qN (s, l, c) (nxP tp (nxP tp (nxP tp s)), adB l (prN a b), c + 1))
    show lBa l ||| 2 ^ prN a b < 2 ^ lPc l
    exact Nat.or_lt_two_pow a3.2.2 (Nat.pow_lt_pow_right (by decide) (prN_pc ga.1 gb.1 (fun e => gb.2.1 e.symm)))
  · rw [if_neg c1]; exact (⟨by decide, by decide⟩ : 1 ≤ 5 ∧ 5 ≤ 5)
theorem moP_g (h8 : tp.1 ≤ 800) (h : qOk (s, l, c)) (hk : ¬ kS tp s = 0) : gE (qN (s, l, c)) (moP tp s l c) := by
  obtain ⟨a1, a2, a3, a4, a5, a6⟩ := h
  have a2 : s.2.2.2.length ≤ s.1 := a2
  have hn : lPn l ≤ 10 := a3.1
  have n1 := nx_gt h8 hk
  unfold moP
  refine gE_b (peP_k hn) (fun a _ ga => ?_)
  have n2 := nx_gt (s := nxP tp s) h8 (by have := ga.2.2; omega)
  refine gE_b nuP_g (fun v _ gv => ?_)
  have n3 := nx_gt (s := nxP tp (nxP tp s)) h8 (by have := gv.2.1; omega)
  refine (⟨by show s.1 < (nxP tp (nxP tp (nxP tp s))).1; omega, a1, by show s.2.2.2.length ≤ (nxP tp (nxP tp (nxP tp s))).1; omega, ⟨hn, fun p hp => ?_, a3.2.2⟩, a4, a5, a6⟩ : qN (s, l, c) (nxP tp (nxP tp (nxP tp s)), adM l a v, c))
  show lPl l p < 1000 ∧ up1 (lMo l) a v p ≤ 9
  refine ⟨(a3.2.1 p hp).1, ?_⟩
  by_cases q : p = a
  · rw [q, up1_s]; exact gv.2.2.2
  · rw [up1_n q]; exact (a3.2.1 p hp).2
theorem stP1_g {q : zQ} (h8 : tp.1 ≤ 800) (h : qOk q) (hk : ¬ kS tp q.1 = 0) : gE (qN q) (stP1 tp q) := by
  obtain ⟨s, l, c⟩ := q
  unfold stP1
  by_cases c0 : wS tp (s, l, c).1 = 0
  · rw [if_pos c0]; exact whP_g h8 h hk
  rw [if_neg c0]
  by_cases c2 : wS tp (s, l, c).1 = 2
  · rw [if_pos c2]; exact ruP_g h8 (by decide) h hk
  rw [if_neg c2]
  by_cases c4 : wS tp (s, l, c).1 = 4
  · rw [if_pos c4]; exact ruP_g h8 (by decide) h hk
  rw [if_neg c4]
  by_cases c5 : wS tp (s, l, c).1 = 5
  · rw [if_pos c5]; exact baP_g h8 h hk
  rw [if_neg c5]
  by_cases c6 : wS tp (s, l, c).1 = 6
  · rw [if_pos c6]; exact moP_g h8 h hk
  rw [if_neg c6]; exact er1
theorem stP_g {q : zQ} (h8 : tp.1 ≤ 800) (h : qOk q) (hk : ¬ kS tp q.1 = 0) : gE (qN q) (stP tp q) := by
  unfold stP
  refine gE_b (stP1_g h8 h hk) (fun q' _ g => ?_)
  refine gE_b (tsP_g (c := 59) h8) (fun s _ gs => ?_)
  obtain ⟨g1, a1, a2, a3, a4, a5, a6⟩ := g
  have s1 := gs.1
  have s2 : s.2.2.1 = q'.1.2.2.1 := gs.2.1
  have s3 := gs.2.2
  refine (⟨by show q.1.1 < s.1; omega, by show s.2.2.1 = 0; omega, by show s.2.2.2.length ≤ s.1; rw [s3]; omega, a3, a4, a5, ?_⟩ : qN q (s, q'.2.1, q'.2.2))
  show ruOk q'.2.1 s.2.2.2
  rw [s3]; exact a6
theorem laL_g (h8 : tp.1 ≤ 800) : ∀ (f m : Nat) (q : zQ), tp.1 < f + q.1.1 → 1 ≤ f → qOk q → gE (fun r : zQ × Nat => qOk r.1 ∧ r.2 + q.1.1 ≤ m + r.1.1.1) (laL tp f m q)
  | 0, _, _, _, h, _ => absurd h (by decide)
  | f + 1, m, q, hf, _, h => by
    rw [laL]
    by_cases c : kS tp q.1 = 0
    · rw [if_pos c]; exact ⟨h, Nat.le_refl _⟩
    · rw [if_neg c]
      have h4 := kT_n0 c
      have h5 := sT_ge tp q.1.1
      refine gE_b (stP_g h8 h c) (fun q' _ g => ?_)
      have g1 := g.1
      exact gE_w (laL_g h8 f (m + 1) q' (by omega) (by omega) g.2) (fun r hr => ⟨hr.1, by have := hr.2; omega⟩)
theorem q0_ok : qOk (((0, false, 0, []) : zP), la0, 0) := ⟨rfl, Nat.le_refl _, ⟨Nat.zero_le _, fun p hp => absurd hp (Nat.not_lt_zero _), by decide⟩, fun p hp => absurd hp (Nat.not_lt_zero _), Nat.zero_le _, Nat.zero_le _, fun r hr => absurd hr (Nat.not_lt_zero _)⟩
theorem laP_g (h8 : tp.1 ≤ 800) : gE (fun r : zQ × Nat => qOk r.1 ∧ r.2 ≤ r.1.1.1) (laP tp) :=
  gE_w (laL_g h8 801 0 (((0, false, 0, []) : zP), la0, 0) (by omega) (by decide) q0_ok) (fun r h => ⟨h.1, by have := h.2; omega⟩)
end sg
