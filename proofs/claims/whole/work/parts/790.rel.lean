/-! what an object holds, as numbers; how the class holds it, how the reference does -/
def xTp (σ : zSt) (tp : Nat × (Nat → Nat)) : Prop := tp.1 ≤ 800 ∧ σ.1 0 = nI tp.1 ∧ ∀ k, k < tp.1 → tp.2 k < 256 ∧ σ.2.2.1 2 k = nI (tp.2 k)
def mTp (μ : zSt) (tp : Nat × (Nat → Nat)) : Prop := tp.1 ≤ 800 ∧ μ.1 0 = nI tp.1 ∧ ∀ k, k < tp.1 → tp.2 k < 256 ∧ μ.2.2.1 0 k = nI (tp.2 k)
def exI (x : Int32) : Prop := -1000 ≤ x.toInt ∧ x.toInt ≤ 1000
/-- a name's letters, five bits each, as a number by 27 -/
def mNa (v : Nat) : Nat := (List.range 6).foldl (fun a k => if v / 2 ^ (5 * (5 - k)) % 32 = 0 then a else 27 * a + v / 2 ^ (5 * (5 - k)) % 32) 0
/-- names: letters 1 .. 26, nothing behind the first that is none, the first is one -/
def nmOk (v : Nat) : Prop := v < 2 ^ 30 ∧ v / 2 ^ 25 ≠ 0 ∧ (∀ k, k < 6 → v / 2 ^ (5 * (5 - k)) % 32 ≤ 26) ∧ ∀ k, k < 5 → v / 2 ^ (5 * (5 - k)) % 32 = 0 → v / 2 ^ (5 * (5 - (k + 1))) % 32 = 0
def mNm (μ : zSt) (l : zL) : Prop := ∀ p, p < lPn l → nmOk (lNa l p) ∧ μ.2.2.2 0 (10 + p) = lN (mNa (lNa l p))
/-- the land's own words: their letters; five bits each, packed -/
def wdL (w : Nat) : List Nat := match w with
  | 0 => [119, 104, 111]
  | 1 => [97, 116]
  | 2 => [99, 111, 115, 116]
  | 3 => [119, 104, 101, 110]
  | 4 => [110, 101, 119, 115]
  | 5 => [98, 97, 114]
  | 6 => [109, 111, 115, 116]
  | 7 => [111, 114]
  | 8 => [97, 110, 100]
  | 9 => [110, 111, 116]
  | 10 => [97, 108, 108]
  | 11 => [105, 115]
  | 12 => [119, 97, 121, 115]
  | 13 => [109, 105, 108, 101, 115]
  | 14 => [109, 105, 110, 101]
  | 15 => [116, 104, 101, 105, 114, 115]
  | 16 => [116, 105, 101, 115]
  | 17 => [109, 105, 110]
  | _ => [109, 97, 120]
def hoR (f : Nat → Nat) : Nat → Nat
  | 0 => 0
  | k + 1 => 32 * hoR f k + (f k - 96)
def pkW (f : Nat → Nat) (n : Nat) : Nat := hoR f (min n 6) * 2 ^ (5 * (6 - min n 6))
def owdN (w : Nat) : Nat := pkW (fun k => (wdL w).getD k 0) (m_wl w)
def XR (σ : zSt) (tp : Nat × (Nat → Nat)) (fa : Int32 × Int32) (l : zL) (net : Nat) (x : Int32) (ba rg : Nat → Int64) (ls : Nat × (Nat → Int64)) (cm : Nat × (Nat → Int64) × (Nat → Int32)) (li : Int64) (oc : Nat → Int32) : Prop :=
  xTp σ tp ∧ (σ.1 8 = fa.1 ∧ σ.1 9 = fa.2 ∧ ∀ i, i < 19 → σ.2.2.1 14 i = nI (owdN i)) ∧ xG σ l (fun _ => x) ∧ xI σ ∧ (exI x ∧ σ.1 25 = x ∧ σ.1 26 = -1) ∧ (net < 2 ^ lPc l ∧ σ.2.1 0 = lN net) ∧ (∀ k, k < 3 → σ.2.2.2 0 k = ba k) ∧ (∀ k, k < 2 → σ.2.2.2 1 k = rg k) ∧ (ls.1 ≤ 1024 ∧ σ.1 34 = nI ls.1 ∧ ∀ k, k < ls.1 → σ.2.2.2 11 k = ls.2 k) ∧ (cm.1 ≤ 120 ∧ σ.1 35 = nI cm.1 ∧ ∀ k, k < cm.1 → σ.2.2.2 12 k = cm.2.1 k ∧ σ.2.2.1 33 k = cm.2.2 k) ∧ σ.2.1 1 = li ∧ (∀ k, k < 10 → σ.2.2.1 1 k = oc k)
def mBa (μ : zSt) (ba : Nat → Int64) : Prop := (μ.1 22 = -1 ∧ ∀ k, k < 3 → ba k = -1) ∨ (¬ μ.1 22 = -1 ∧ ba 0 = (μ.1 22).toInt64 ∧ ba 1 = (μ.1 23).toInt64 ∧ ba 2 = μ.2.1 3)
def mRg (μ : zSt) (rg : Nat → Int64) : Prop := (μ.1 25 = 0 ∧ ∀ k, k < 2 → rg k = -1) ∨ (¬ μ.1 25 = 0 ∧ rg 0 = (μ.1 26).toInt64 ∧ rg 1 = μ.2.1 5)
def mLi (μ : zSt) (li : Int64) : Prop := (μ.1 29 = 0 ∧ li = -1000000000000) ∨ (¬ μ.1 29 = 0 ∧ li = μ.2.1 6)
def mOc (μ : zSt) (oc : Nat → Int32) : Prop := (μ.1 30 = nI 0 ∧ ∀ k, k < 10 → oc k = -1) ∨ (μ.1 30 = nI 10 ∧ ∀ k, k < 10 → μ.2.2.1 17 k = oc k)
def MR (μ : zSt) (tp : Nat × (Nat → Nat)) (fa : Int32 × Int32) (l : zL) (net : Nat) (x : Int32) (ba rg : Nat → Int64) (ls : Nat × (Nat → Int64)) (cm : Nat × (Nat → Int64) × (Nat → Int32)) (li : Int64) (oc : Nat → Int32) : Prop :=
  mTp μ tp ∧ (μ.1 6 = fa.1 ∧ μ.1 7 = fa.2) ∧ mG μ l (fun _ => x) ∧ mNm μ l ∧ (exI x ∧ μ.1 14 = x ∧ μ.1 16 = -1) ∧ (net < 2 ^ lPc l ∧ μ.2.1 0 = lN net) ∧ mBa μ ba ∧ mRg μ rg ∧ (ls.1 ≤ 1024 ∧ μ.1 27 = nI ls.1 ∧ ∀ k, k < ls.1 → μ.2.2.2 6 k = ls.2 k) ∧ (cm.1 ≤ 120 ∧ μ.1 28 = nI cm.1 ∧ ∀ k, k < cm.1 → μ.2.2.2 7 k = cm.2.1 k ∧ μ.2.2.1 16 k = cm.2.2 k) ∧ mLi μ li ∧ mOc μ oc
def xS (σ τ : zSt) : Prop := fr [6, 28, 29, 30, 31, 32, 33] [4, 5] [0, 13, 28, 29, 30, 31, 32] [3, 5, 6, 9, 10] σ τ
def mS (σ τ : zSt) : Prop := fr [15, 18, 19, 20, 21, 24] [1, 2, 4] [12, 13, 14, 15] [2, 3, 4, 5] σ τ
theorem xS_F {σ τ : zSt} (h : xF σ τ) : xS σ τ := fr_w h (subl rfl) (subl rfl) (subl rfl) (subl rfl)
theorem xS_2 {σ τ : zSt} (h : xF2 σ τ) : xS σ τ := fr_w h (subl rfl) (subl rfl) (subl rfl) (subl rfl)
theorem xS_w {σ τ : zSt} (h : xFw σ τ) : xS σ τ := fr_w h (subl rfl) (subl rfl) (subl rfl) (subl rfl)
theorem mS_F {σ τ : zSt} (h : mF σ τ) : mS σ τ := fr_w h (subl rfl) (subl rfl) (subl rfl) (subl rfl)
theorem mS_4 {σ τ : zSt} (h : mF4 σ τ) : mS σ τ := fr_w h (subl rfl) (subl rfl) (subl rfl) (subl rfl)
theorem mS_3 {σ τ : zSt} (h : mF3 σ τ) : mS σ τ := fr_w h (subl rfl) (subl rfl) (subl rfl) (subl rfl)
theorem mS_5 {σ τ : zSt} (h : mF5 σ τ) : mS σ τ := fr_w h (subl rfl) (subl rfl) (subl rfl) (subl rfl)
theorem mS_w {σ τ : zSt} (h : mFw σ τ) : mS σ τ := fr_w h (subl rfl) (subl rfl) (subl rfl) (subl rfl)
section rl
variable {σ τ μ ν : zSt} {tp : Nat × (Nat → Nat)} {fa : Int32 × Int32} {l : zL} {net : Nat} {x : Int32} {ba rg : Nat → Int64} {ls : Nat × (Nat → Int64)} {cm : Nat × (Nat → Int64) × (Nat → Int32)} {li : Int64} {oc : Nat → Int32}
theorem XR_s (h : xS σ τ) (hG : xG τ l (fun _ => x)) (hX : XR σ tp fa l net x ba rg ls cm li oc) : XR τ tp fa l net x ba rg ls cm li oc := by
  obtain ⟨a1, a2, a3, a4, a5, a6, a7, a8, a9, a10, a11, a12⟩ := hX
  refine ⟨?_, ?_, hG, ?_, ?_, ?_, ?_, ?_, ?_, ?_, ?_, ?_⟩
  · unfold xTp; rw [h.1 0 (by decide), h.2.2.1 2 (by decide)]; exact a1
  · rw [h.1 8 (by decide), h.1 9 (by decide), h.2.2.1 14 (by decide)]; exact a2
  · exact fun s hs => by rw [h.2.2.2 7 (by decide), h.2.2.2 8 (by decide)]; exact a4 s hs
  · rw [h.1 25 (by decide), h.1 26 (by decide)]; exact a5
  · rw [h.2.1 0 (by decide)]; exact a6
  · rw [h.2.2.2 0 (by decide)]; exact a7
  · rw [h.2.2.2 1 (by decide)]; exact a8
  · rw [h.1 34 (by decide), h.2.2.2 11 (by decide)]; exact a9
  · rw [h.1 35 (by decide), h.2.2.2 12 (by decide), h.2.2.1 33 (by decide)]; exact a10
  · rw [h.2.1 1 (by decide)]; exact a11
  · rw [h.2.2.1 1 (by decide)]; exact a12
theorem MR_s (h : mS μ ν) (hG : mG ν l (fun _ => x)) (hX : MR μ tp fa l net x ba rg ls cm li oc) : MR ν tp fa l net x ba rg ls cm li oc := by
  obtain ⟨a1, a2, a3, a4, a5, a6, a7, a8, a9, a10, a11, a12⟩ := hX
  refine ⟨?_, ?_, hG, ?_, ?_, ?_, ?_, ?_, ?_, ?_, ?_, ?_⟩
  · unfold mTp; rw [h.1 0 (by decide), h.2.2.1 0 (by decide)]; exact a1
  · rw [h.1 6 (by decide), h.1 7 (by decide)]; exact a2
  · unfold mNm; rw [h.2.2.2 0 (by decide)]; exact a4
  · rw [h.1 14 (by decide), h.1 16 (by decide)]; exact a5
  · rw [h.2.1 0 (by decide)]; exact a6
  · unfold mBa; rw [h.1 22 (by decide), h.1 23 (by decide), h.2.1 3 (by decide)]; exact a7
  · unfold mRg; rw [h.1 25 (by decide), h.1 26 (by decide), h.2.1 5 (by decide)]; exact a8
  · rw [h.1 27 (by decide), h.2.2.2 6 (by decide)]; exact a9
  · rw [h.1 28 (by decide), h.2.2.2 7 (by decide), h.2.2.1 16 (by decide)]; exact a10
  · unfold mLi; rw [h.1 29 (by decide), h.2.1 6 (by decide)]; exact a11
  · unfold mOc; rw [h.1 30 (by decide), h.2.2.1 17 (by decide)]; exact a12
theorem ex_ok2 (h : exI x) : eOk (fun _ => x) := fun _ _ => by
  have h1 := h.1
  have h2 := h.2
  show -2000 ≤ x.toInt ∧ x.toInt ≤ 2000
  omega
end rl
