/-! all nets at rest: the reference -/
def allF (l : zL) (x : Int32) (kind : Nat) (sh : Bool) : Nat → Nat × (Nat → Nat)
  | 0 => (0, fun _ => 0)
  | i + 1 => if mayv l i = true ∧ (rstO l (fun _ => x) i kind).isSome = false ∧ (sh = false ∨ newB (lPn l) (allF l x kind sh i).1 (allF l x kind sh i).2 i = true) then ((allF l x kind sh i).1 + 1, fun k => if k = (allF l x kind sh i).1 then i else (allF l x kind sh i).2 k) else allF l x kind sh i
def lsF (l : zL) (x : Int32) (kind : Nat) (sh : Bool) (i : Nat) : Nat × (Nat → Int64) := ((allF l x kind sh i).1, fun k => lN ((allF l x kind sh i).2 k))
def allT (l : zL) (x : Int32) (k : Int32) (sh : Bool) (ls : Nat × (Nat → Int64)) : Nat × (Nat → Int64) := if fewB l = true ∧ kinB k = true then lsF l x k.toNatClampNeg sh (2 ^ lPc l) else ls
def allA (l : zL) (x : Int32) (k : Int32) (sh : Bool) : Int32 := if fewB l = true ∧ kinB k = true then nI (allF l x k.toNatClampNeg sh (2 ^ lPc l)).1 else -1
theorem all_ok (l : zL) (x : Int32) (kind : Nat) (sh : Bool) : ∀ i, (allF l x kind sh i).1 ≤ i ∧ (∀ k, k < (allF l x kind sh i).1 → (allF l x kind sh i).2 k < i) ∧ ∀ j k, j < k → k < (allF l x kind sh i).1 → (allF l x kind sh i).2 j < (allF l x kind sh i).2 k
  | 0 => ⟨Nat.le_refl _, fun k hk => absurd hk (Nat.not_lt_zero _), fun j k _ hk => absurd hk (Nat.not_lt_zero _)⟩
  | i + 1 => by
    obtain ⟨h1, h2, h3⟩ := all_ok l x kind sh i
    rw [allF]
    split
    · refine ⟨by show (allF l x kind sh i).1 + 1 ≤ i + 1; omega, fun k hk => ?_, fun j k hj hk => ?_⟩
      · have hk : k < (allF l x kind sh i).1 + 1 := hk
        show (if k = (allF l x kind sh i).1 then i else (allF l x kind sh i).2 k) < i + 1
        by_cases q : k = (allF l x kind sh i).1
        · rw [if_pos q]; omega
        · rw [if_neg q]
          have := h2 k (by omega)
          omega
      · have hk : k < (allF l x kind sh i).1 + 1 := hk
        show (if j = (allF l x kind sh i).1 then i else (allF l x kind sh i).2 j) < (if k = (allF l x kind sh i).1 then i else (allF l x kind sh i).2 k)
        rw [if_neg (show ¬ j = (allF l x kind sh i).1 by omega)]
        by_cases q : k = (allF l x kind sh i).1
        · rw [if_pos q]; exact h2 j (by omega)
        · rw [if_neg q]; exact h3 j k hj (by omega)
    · refine ⟨by omega, fun k hk => ?_, h3⟩
      have := h2 k hk
      omega
section ma2
variable {N : Nat} {σ τ μ ν : zSt} {tp : Nat × (Nat → Nat)} {fa : Int32 × Int32} {l : zL} {net : Nat} {x : Int32} {ba rg : Nat → Int64} {ls : Nat × (Nat → Int64)} {cm : Nat × (Nat → Int64) × (Nat → Int32)} {li : Int64} {oc : Nat → Int32}
theorem M_ls {ls' : Nat × (Nat → Int64)} (h : fr [27] [] [] [6] μ ν) (hX : MR μ tp fa l net x ba rg ls cm li oc) (hc : ls'.1 ≤ 1024 ∧ ν.1 27 = nI ls'.1 ∧ ∀ k, k < ls'.1 → ν.2.2.2 6 k = ls'.2 k) : MR ν tp fa l net x ba rg (ls') cm li oc := by
  obtain ⟨a1, a2, a3, a4, a5, a6, a7, a8, a9, a10, a11, a12⟩ := hX
  refine ⟨?_, ?_, mG_fr h (notin rfl) (by decide) (notin rfl) (notin rfl) a3, ?_, ?_, ?_, ?_, ?_, hc, ?_, ?_, ?_⟩
  · unfold mTp; rw [h.1 0 (by decide), h.2.2.1 0 (by decide)]; exact a1
  · rw [h.1 6 (by decide), h.1 7 (by decide)]; exact a2
  · unfold mNm; rw [h.2.2.2 0 (by decide)]; exact a4
  · rw [h.1 14 (by decide), h.1 16 (by decide)]; exact a5
  · rw [h.2.1 0 (by decide)]; exact a6
  · unfold mBa; rw [h.1 22 (by decide), h.1 23 (by decide), h.2.1 3 (by decide)]; exact a7
  · unfold mRg; rw [h.1 25 (by decide), h.1 26 (by decide), h.2.1 5 (by decide)]; exact a8
  · rw [h.1 28 (by decide), h.2.2.2 7 (by decide), h.2.2.1 16 (by decide)]; exact a10
  · unfold mLi; rw [h.1 29 (by decide), h.2.1 6 (by decide)]; exact a11
  · unfold mOc; rw [h.1 30 (by decide), h.2.2.1 17 (by decide)]; exact a12
theorem M_all {k : Int32} {sh : Bool} {Q : Int32 → zSt → Prop} (hN : 1100 < N) (h : MR μ tp fa l net x ba rg ls cm li oc) (hQ : ∀ τ, MR τ tp fa l net x ba rg (allT l x k sh ls) cm li oc → Q (allA l x k sh) τ) : w_X12_all N k (b32 sh) μ Q := by
  unfold allT allA at hQ
  have h10 := h.2.2.1.1.1
  unfold w_X12_all
  refine m_isIn ?_
  rw [kin_is]
  refine ⟨fun q2 => ?_, fun q2 => m_few h ⟨fun q => ?_, fun q => ?_⟩⟩
  · rw [if_neg (fun z => by rw [b32_0.mp q2] at z; exact absurd z.2 (by decide)), if_neg (fun z => by rw [b32_0.mp q2] at z; exact absurd z.2 (by decide))] at hQ; exact hQ μ h
  · rw [if_neg (fun z => by rw [b32_0.mp q] at z; exact absurd z.1 (by decide)), if_neg (fun z => by rw [b32_0.mp q] at z; exact absurd z.1 (by decide))] at hQ; exact hQ μ h
  · have hf := b32_n.mp q
    have hk := b32_n.mp q2
    rw [if_pos ⟨hf, hk⟩, if_pos ⟨hf, hk⟩] at hQ
    obtain ⟨j, hj, e1, e2⟩ := kin_t hk
    rw [e2] at hQ
    have h2 := few_2 hf
    have hp := few_pc hf
    rw [e1]
    refine nm_e ?_
    have f1 : fr [27] [] [] [6] μ (zI μ 27 (0 : Int32)) := fr_I fr_r (by decide)
    have h1 : MR (zI μ 27 (0 : Int32)) tp fa l net x ba rg (lsF l x j sh 0) cm li oc := M_ls f1 h ⟨Nat.zero_le _, zI_1s, fun k hk => absurd hk (Nat.not_lt_zero _)⟩
    refine loopU (fun f i (s : zSt) => w_X12_all_28 N Q f (nI j) (b32 sh) (lN i) s) (fun i s => MR s tp fa l net x ba rg (lsF l x j sh i) cm li oc) (2 ^ lPc l) ?_ ?_ N 0 _ (Nat.zero_le _) (by omega) h1
    · intro f s hs
      show b_X12_all_28 N (w_X12_all_28 N Q f) Q (nI j) (b32 sh) (lN (2 ^ lPc l)) s
      have hq := hQ s hs
      unfold b_X12_all_28
      refine m_pairs (Mp hs) h10 ?_
      rw [show lPn l * (lPn l - 1) / 2 = lPc l from rfl, oneJ (by omega), hs.2.2.2.2.2.2.2.2.1.2.1]
      exact br_t ((lgN_ge (by omega) (by omega)).mpr (Nat.le_refl _)) hq
    · intro f i s hi hs ih
      show b_X12_all_28 N (w_X12_all_28 N Q f) Q (nI j) (b32 sh) (lN i) s
      obtain ⟨c1, c2, c3⟩ := all_ok l x j sh i
      have keep : ¬ (mayv l i = true ∧ (rstO l (fun _ => x) i j).isSome = false ∧ (sh = false ∨ newB (lPn l) (allF l x j sh i).1 (allF l x j sh i).2 i = true)) → ∀ t, MR t tp fa l net x ba rg (lsF l x j sh i) cm li oc → w_X12_all_28 N Q f (nI j) (b32 sh) (lN (i + 1)) t := fun z t ht => ih t (by
        have e : lsF l x j sh (i + 1) = lsF l x j sh i := by unfold lsF; rw [allF, if_neg z]
        rw [e]; exact ht)
      have add : (mayv l i = true ∧ (rstO l (fun _ => x) i j).isSome = false ∧ (sh = false ∨ newB (lPn l) (allF l x j sh i).1 (allF l x j sh i).2 i = true)) → ∀ t, MR t tp fa l net x ba rg (lsF l x j sh i) cm li oc → b_X12_all_71 N (w_X12_all_28 N Q f) Q (nI j) (b32 sh) (lN i) t := fun z t ht => by
        have g := ht.2.2.2.2.2.2.2.2.1.2
        have g1 : t.1 27 = nI (allF l x j sh i).1 := g.1
        unfold b_X12_all_71
        rw [g1, nI_clamp (by omega), lN_1]
        have e : lsF l x j sh (i + 1) = ((allF l x j sh i).1 + 1, fun k => lN (if k = (allF l x j sh i).1 then i else (allF l x j sh i).2 k)) := by unfold lsF; rw [allF, if_pos z]
        refine ⟨vp_in_nI (by omega) (by decide), nm_e (nm_e (nm_e (ih _ ?_)))⟩
        rw [e]
        refine M_ls (fr_I (fr_B fr_r (by decide)) (by decide)) ht ⟨by show (allF l x j sh i).1 + 1 ≤ 1024; omega, zI_1s.trans ?_, fun k hk => ?_⟩
        · show t.1 27 + 1 = nI ((allF l x j sh i).1 + 1)
          rw [g1, nI_1]
        · have hk : k < (allF l x j sh i).1 + 1 := hk
          show vp_updL (t.2.2.2 6) (allF l x j sh i).1 (lN i) k = lN (if k = (allF l x j sh i).1 then i else (allF l x j sh i).2 k)
          by_cases q : k = (allF l x j sh i).1
          · rw [if_pos q, q]; exact pk_uLs
          · rw [if_neg q, pk_uLn q]; exact g.2 k (show k < (allF l x j sh i).1 by omega)
      unfold b_X12_all_28
      refine m_pairs (Mp hs) h10 ?_
      rw [show lPn l * (lPn l - 1) / 2 = lPc l from rfl, oneJ (by omega), lN_1]
      refine br_f (fun z => by have := (lgN_ge (by omega) (by omega)).mp z; omega) (My hN hs hi ⟨fun z => ?_, fun z => Mr hN hs hj hp.1 hi (fun s2 hs2 => ⟨fun y => ?_, fun y => ⟨fun w => ?_, fun w => ?_⟩⟩)⟩)
      · exact nm_e (keep (fun w => by rw [b32_0.mp z] at w; exact absurd w.1 (by decide)) s hs)
      · have y := b32_0.mp y
        exact nm_e (keep (fun w => by rw [w.2.1] at y; exact absurd y (by decide)) s2 hs2)
      · have y := b32_n.mp y
        rw [Bool.not_eq_true'] at y
        exact add ⟨b32_n.mp z, y, Or.inl (b32_0.mp w)⟩ s2 hs2
      · have y := b32_n.mp y
        rw [Bool.not_eq_true'] at y
        refine m_isNew (r := (allF l x j sh i).2) hN hf (fun k hk => ⟨rfl, by have := c2 k hk; omega⟩) hi hs2 (fun s3 hs3 => ⟨fun u => ?_, fun u => ?_⟩)
        · have u : newB (lPn l) (allF l x j sh i).1 (allF l x j sh i).2 i = false := b32_0.mp u
          exact nm_e (keep (fun v => v.2.2.elim (fun t => w (b32_0.mpr t)) (fun t => by rw [u] at t; exact absurd t (by decide))) s3 hs3)
        · exact add ⟨b32_n.mp z, y, Or.inr (b32_n.mp u)⟩ s3 hs3
end ma2
