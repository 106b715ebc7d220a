/-! reading sums and tests, as a function: place, whether a word or number ended there, how many are open, orders so far -/
abbrev zP : Type := Nat × Bool × Nat × List Nat
abbrev zE : Type := Except (Nat × Nat) zP
section pd
variable (tp : Nat × (Nat → Nat))
def kS (s : zP) : Nat := kT tp s.1 s.2.1
def wS (s : zP) : Nat := wT tp s.1 s.2.1
def iS (c : Nat) (s : zP) : Bool := isB tp s.1 s.2.1 c
def zS (s : zP) : Nat := eT tp (sT tp s.1) - sT tp s.1
def nxP (s : zP) : zP := (eT tp (sT tp s.1), wnB tp (sT tp s.1), s.2.2.1, s.2.2.2)
def flP (s : zP) (k : Nat) : zE := .error (k, sT tp s.1)
end pd
def emP (v : Nat) (s : zP) : zP := (s.1, s.2.1, s.2.2.1, s.2.2.2 ++ [v])
def upP (s : zP) : zP := (s.1, s.2.1, s.2.2.1 + 1, s.2.2.2)
def dnP (s : zP) : zP := (s.1, s.2.1, s.2.2.1 - 1, s.2.2.2)
def bdP {α β : Type} (r : Except (Nat × Nat) α) (g : α → Except (Nat × Nat) β) : Except (Nat × Nat) β := match r with
  | .error e => .error e
  | .ok a => g a
section pe
variable (tp : Nat × (Nat → Nat))
def tsP (c : Nat) (s : zP) : zE := if iS tp c s = true then .ok (nxP tp (if c = 41 ∨ c = 93 then dnP s else s)) else flP tp s 1
def toP (s : zP) : zE := if s.2.2.1 < 6 then .ok (nxP tp (upP s)) else flP tp s 4
def chP2 (S : zP → zE) (v : Nat) (s : zP) : zE := bdP (toP tp s) fun s => bdP (S s) fun s => bdP (tsP tp 44 s) fun s => bdP (S s) fun s => bdP (tsP tp 41 s) fun s => .ok (emP v s)
def chP (S : zP → zE) (v : Nat) (s : zP) : zE := if iS tp 40 (nxP tp s) = true then chP2 tp S v (nxP tp s) else flP tp (nxP tp s) 1
def paP (S : zP → zE) (s : zP) : zE :=
  if kS tp s = 2 then (if zS tp s ≤ 4 then .ok (nxP tp (emP (100 + vT tp s.1) s)) else .error (1, sT tp s.1 + 4))
  else if iS tp 40 s = true then bdP (toP tp s) fun s => bdP (S s) fun s => tsP tp 41 s
  else if wS tp s = 17 then chP tp S 4 s
  else if wS tp s = 18 then chP tp S 5 s
  else if 12 ≤ wS tp s ∧ wS tp s ≤ 16 then .ok (nxP tp (emP (20 + (wS tp s - 12)) s))
  else flP tp s 1
def prL (S : zP → zE) : Nat → zP → zE
  | 0, _ => .error (0, 0)
  | f + 1, s => if iS tp 42 s = true then bdP (paP tp S (nxP tp s)) (fun u => prL S f (emP 2 u)) else if iS tp 47 s = true then bdP (paP tp S (nxP tp s)) (fun u => prL S f (emP 3 u)) else .ok s
def prP (S : zP → zE) (s : zP) : zE := bdP (paP tp S s) (prL tp S 801)
def suL (S : zP → zE) : Nat → zP → zE
  | 0, _ => .error (0, 0)
  | f + 1, s => if iS tp 43 s = true then bdP (prP tp S (nxP tp s)) (fun u => suL S f (emP 0 u)) else if iS tp 45 s = true then bdP (prP tp S (nxP tp s)) (fun u => suL S f (emP 1 u)) else .ok s
def suP : Nat → zP → zE
  | 0, _ => .error (0, 0)
  | d + 1, s => bdP (prP tp (suP d) s) (suL tp (suP d) 801)
/-- names and numbers -/
def naP (s : zP) : Except (Nat × Nat) Nat := if kS tp s = 1 ∧ wS tp s = 99 then (if zS tp s ≤ 6 then .ok (vT tp s.1) else .error (1, sT tp s.1 + 6)) else .error (1, sT tp s.1)
def nuP (lim : Nat) (s : zP) : Except (Nat × Nat) Nat := if kS tp s = 2 then (if zS tp s ≤ 4 then (if vT tp s.1 ≤ lim then .ok (vT tp s.1) else .error (2, sT tp s.1)) else .error (1, sT tp s.1 + 4)) else .error (1, sT tp s.1)
end pe
def noG (na : Nat → Nat) (v : Nat) : Nat → Nat → Nat
  | 0, _ => 99
  | f + 1, k => if na k = v then k else noG na v f (k + 1)
def noF (na : Nat → Nat) (n v : Nat) : Nat := noG na v n 0
section pf
variable (tp : Nat × (Nat → Nat)) (n : Nat) (na : Nat → Nat)
def peP (but : Nat) (s : zP) : Except (Nat × Nat) Nat := bdP (naP tp s) fun v => if noF na n v = 99 ∨ noF na n v = but then .error (3, sT tp s.1) else .ok (noF na n v)
def cmP2 (v : Nat) (s : zP) : zE := bdP (suP tp 9 (nxP tp s)) fun u => .ok (emP v u)
def cmP (s : zP) : zE := bdP (suP tp 9 s) fun s => if iS tp 60 s = true then cmP2 tp 6 s else if iS tp 62 s = true then cmP2 tp 7 s else if iS tp 61 s = true then cmP2 tp 8 s else flP tp s 1
def boL (S : zP → zE) : Nat → zP → zE
  | 0, _ => .error (0, 0)
  | f + 1, s => if wS tp s = 8 then bdP (S (nxP tp s)) (fun u => boL S f (emP 9 u)) else .ok s
def boP (S : zP → zE) (s : zP) : zE := bdP (S s) (boL tp S 801)
def teL (S : zP → zE) : Nat → zP → zE
  | 0, _ => .error (0, 0)
  | f + 1, s => if wS tp s = 7 then bdP (boP tp S (nxP tp s)) (fun u => teL S f (emP 10 u)) else .ok s
def teP (S : zP → zE) (s : zP) : zE := bdP (boP tp S s) (teL tp S 801)
def faP (S : zP → zE) (s : zP) : zE :=
  if wS tp s = 9 then bdP (toP tp s) fun s => bdP (S s) fun s => .ok (emP 11 (dnP s))
  else if iS tp 91 s = true then bdP (toP tp s) fun s => bdP (teP tp S s) fun s => tsP tp 93 s
  else if wS tp s = 10 then .ok (nxP tp (emP 12 s))
  else if wS tp s = 11 then bdP (peP tp n na 99 (nxP tp s)) fun v => .ok (nxP tp (emP (30 + v) (nxP tp s)))
  else cmP tp s
def fcP : Nat → zP → zE
  | 0, _ => .error (0, 0)
  | d + 1, s => faP tp n na (fcP d) s
end pf
/-! the sorts of what they write -/
def tyL : List Nat → List Bool → List Bool → Prop
  | [], ts, us => ts = us
  | c :: e, ts, us => ∃ ts', ty c ts = some ts' ∧ ts'.length ≤ 64 ∧ tyL e ts' us
theorem tyL_a : ∀ {e e' : List Nat} {ts ms us : List Bool}, tyL e ts ms → tyL e' ms us → tyL (e ++ e') ts us
  | [], e', ts, ms, us, h1, h2 => by have h1 : ts = ms := h1; rw [h1]; exact h2
  | c :: e, e', ts, ms, us, ⟨t1, a1, a2, a3⟩, h2 => ⟨t1, a1, a2, tyL_a a3 h2⟩
theorem tyL_1 {c : Nat} {ts us : List Bool} (h : ty c ts = some us) (hl : us.length ≤ 64) : tyL [c] ts us := ⟨us, h, hl, rfl⟩
/-- a value more -/
def gV (D : Nat) (b : Bool) (s s' : zP) : Prop := s.1 < s'.1 ∧ s'.2.2.1 = s.2.2.1 ∧ ∃ e, s'.2.2.2 = s.2.2.2 ++ e ∧ e.length + s.1 ≤ s'.1 ∧ ∀ ts : List Bool, ts.length + D ≤ 64 → tyL e ts (b :: ts)
/-- the same values -/
def gL (D : Nat) (b : Bool) (s s' : zP) : Prop := s.1 ≤ s'.1 ∧ s'.2.2.1 = s.2.2.1 ∧ ∃ e, s'.2.2.2 = s.2.2.2 ++ e ∧ e.length + s.1 ≤ s'.1 ∧ ∀ ts : List Bool, ts.length + D ≤ 64 → tyL e (b :: ts) (b :: ts)
def gE {α : Type} (G : α → Prop) (r : Except (Nat × Nat) α) : Prop := match r with
  | .ok a => G a
  | .error e => 1 ≤ e.1 ∧ e.1 ≤ 5
theorem gE_b {α β : Type} {G : α → Prop} {H : β → Prop} {r : Except (Nat × Nat) α} {g : α → Except (Nat × Nat) β} (h : gE G r) (h2 : ∀ a, r = .ok a → G a → gE H (g a)) : gE H (bdP r g) := by
  cases r with
  | error e => exact h
  | ok a => exact h2 a rfl h
theorem gE_w {α : Type} {G H : α → Prop} {r : Except (Nat × Nat) α} (h : gE G r) (h2 : ∀ a, G a → H a) : gE H r := by
  cases r with
  | error e => exact h
  | ok a => exact h2 a h
section pg
variable {tp : Nat × (Nat → Nat)} {s s' u : zP} {D D' : Nat} {b : Bool}
theorem iS_k {c : Nat} (h : iS tp c s = true) : kS tp s = 3 ∧ vT tp s.1 = c := is_i.mp h
theorem wS_k {w : Nat} (hw : w < 19) (h : wS tp s = w) : kS tp s = 1 := ((wT_is hw).mp h).1
theorem nx_gt (h8 : tp.1 ≤ 800) (h : ¬ kS tp s = 0) : s.1 < (nxP tp s).1 := by
  have h1 := kT_n0 h
  have h2 := sT_ge tp s.1
  have h3 := eT_gt h8 h1
  show s.1 < eT tp (sT tp s.1)
  omega
theorem tsP_g {c : Nat} (h8 : tp.1 ≤ 800) : gE (fun s' => s.1 < s'.1 ∧ s'.2.2.1 = (if c = 41 ∨ c = 93 then s.2.2.1 - 1 else s.2.2.1) ∧ s'.2.2.2 = s.2.2.2) (tsP tp c s) := by
  unfold tsP
  by_cases h : iS tp c s = true
  · rw [if_pos h]
    have h1 := nx_gt h8 (s := s) (by have := (iS_k h).1; omega)
    by_cases q : c = 41 ∨ c = 93
    · rw [if_pos q, if_pos q]; exact ⟨h1, rfl, rfl⟩
    · rw [if_neg q, if_neg q]; exact ⟨h1, rfl, rfl⟩
  · rw [if_neg h]; exact (⟨by decide, by decide⟩ : 1 ≤ 1 ∧ 1 ≤ 5)
theorem toP_g (h8 : tp.1 ≤ 800) (h : ¬ kS tp s = 0) : gE (fun s' => s.1 < s'.1 ∧ s.2.2.1 < 6 ∧ s'.2.2.1 = s.2.2.1 + 1 ∧ s'.2.2.2 = s.2.2.2) (toP tp s) := by
  unfold toP
  by_cases c : s.2.2.1 < 6
  · rw [if_pos c]; exact ⟨nx_gt h8 h, c, rfl, rfl⟩
  · rw [if_neg c]; exact (⟨by decide, by decide⟩ : 1 ≤ 4 ∧ 4 ≤ 5)
theorem vT_4 (h : kS tp s = 2) : vT tp s.1 < 10000 := by
  have hd := (kT_2 h).1
  have hl : lB tp (sT tp s.1) = false := by
    cases e : lB tp (sT tp s.1) with
    | false => rfl
    | true => rw [lB_d e] at hd; exact absurd hd (by decide)
  unfold vT
  rw [if_neg (by rw [hl]; decide), if_pos hd]
  have h1 := nuR_lt (f := fun k => tp.2 (sT tp s.1 + k)) (n := eT tp (sT tp s.1) - sT tp s.1) (run_d hd) (min (eT tp (sT tp s.1) - sT tp s.1) 4) (Nat.min_le_left _ _)
  have h2 : 10 ^ (min (eT tp (sT tp s.1) - sT tp s.1) 4) ≤ 10 ^ 4 := Nat.pow_le_pow_right (by decide) (Nat.min_le_right _ _)
  have h3 : 10 ^ 4 = 10000 := by decide
  omega
theorem ty_leaf {c : Nat} {ts : List Bool} (h : (100 ≤ c ∧ c < 10100) ∨ (20 ≤ c ∧ c < 25)) : ty c ts = some (true :: ts) := by
  unfold ty
  by_cases c1 : 100 ≤ c ∧ c < 10100
  · rw [if_pos c1]
  · rw [if_neg c1, if_neg (by omega), if_pos (by omega)]
theorem ty_op {c : Nat} {ts : List Bool} (h : c < 6) : ty c (true :: true :: ts) = some (true :: ts) := by
  unfold ty; rw [if_neg (by omega), if_neg (by omega), if_neg (by omega), if_neg (by omega), if_neg (by omega), if_pos h]
theorem ty_cm {c : Nat} {ts : List Bool} (h : 6 ≤ c) (h2 : c < 9) : ty c (true :: true :: ts) = some (false :: ts) := by
  unfold ty; rw [if_neg (by omega), if_neg (by omega), if_neg (by omega), if_neg (by omega), if_neg (by omega), if_neg (by omega), if_pos h2]
theorem ty_bo {c : Nat} {ts : List Bool} (h : 9 ≤ c) (h2 : c < 11) : ty c (false :: false :: ts) = some (false :: ts) := by
  unfold ty; rw [if_neg (by omega), if_neg (by omega), if_neg (by omega), if_neg (by omega), if_neg (by omega), if_neg (by omega), if_neg (by omega), if_pos h2]
theorem ty_no {ts : List Bool} : ty 11 (false :: ts) = some (false :: ts) := rfl
theorem ty_al {ts : List Bool} : ty 12 ts = some (false :: ts) := rfl
theorem ty_is {c : Nat} {ts : List Bool} (h : 30 ≤ c) (h2 : c < 40) : ty c ts = some (false :: ts) := by
  unfold ty; rw [if_neg (by omega), if_pos ⟨h, h2⟩]
/-- a leaf -/
theorem gV_leaf {c : Nat} (h8 : tp.1 ≤ 800) (hk : ¬ kS tp s = 0) (h : ∀ ts : List Bool, ty c ts = some (b :: ts)) (hD : 1 ≤ D) : gV D b s (nxP tp (emP c s)) := by
  have h1 := nx_gt h8 hk
  exact ⟨h1, rfl, [c], rfl, by show 1 + s.1 ≤ (nxP tp s).1; omega, fun ts ht => tyL_1 (h ts) (by show ts.length + 1 ≤ 64; omega)⟩
theorem gV_w (h : gV D b s s') (hD : D ≤ D') : gV D' b s s' := by
  obtain ⟨h1, h2, e, h3, h4, h5⟩ := h
  exact ⟨h1, h2, e, h3, h4, fun ts ht => h5 ts (by omega)⟩
/-- a value, then turns of a loop -/
theorem gV_L (h : gV D b s u) (h2 : gL D b u s') : gV D b s s' := by
  obtain ⟨a1, a2, e, a3, a4, a5⟩ := h
  obtain ⟨b1, b2, e', b3, b4, b5⟩ := h2
  exact ⟨by omega, b2.trans a2, e ++ e', by rw [b3, a3, List.append_assoc], by rw [List.length_append]; omega, fun ts ht => tyL_a (a5 ts ht) (b5 ts ht)⟩
/-- a turn: an order's sign, a value, the order -/
theorem gL_t {c : Nat} {v : zP} (hd : s.1 < u.1 ∧ u.2.2.1 = s.2.2.1 ∧ u.2.2.2 = s.2.2.2) (h : gV D b u v) (hD : D + 1 ≤ D') (hc : ∀ ts : List Bool, ty c (b :: b :: ts) = some (b :: ts)) (h2 : gL D' b (emP c v) s') : gL D' b s s' := by
  obtain ⟨a1, a2, e, a3, a4, a5⟩ := h
  obtain ⟨b1, b2, e', b3, b4, b5⟩ := h2
  have b1 : v.1 ≤ s'.1 := b1
  have b4 : e'.length + v.1 ≤ s'.1 := b4
  refine ⟨by omega, (b2.trans a2).trans hd.2.1, e ++ ([c] ++ e'), ?_, ?_, fun ts ht => ?_⟩
  · rw [b3]
    show v.2.2.2 ++ [c] ++ e' = _
    rw [a3, hd.2.2, List.append_assoc, List.append_assoc]
  · rw [List.length_append, List.length_append]
    show e.length + (1 + e'.length) + s.1 ≤ s'.1
    omega
  · exact tyL_a (a5 (b :: ts) (by show ts.length + 1 + D ≤ 64; omega)) (tyL_a (tyL_1 (hc ts) (by show ts.length + 1 ≤ 64; omega)) (b5 ts ht))
theorem gL_r : gL D b s s := ⟨Nat.le_refl _, rfl, [], by rw [List.append_nil], by show 0 + s.1 ≤ s.1; omega, fun ts _ => rfl⟩
theorem nx_d (h8 : tp.1 ≤ 800) (h : ¬ kS tp s = 0) : s.1 < (nxP tp s).1 ∧ (nxP tp s).2.2.1 = s.2.2.1 ∧ (nxP tp s).2.2.2 = s.2.2.2 := ⟨nx_gt h8 h, rfl, rfl⟩
end pg
