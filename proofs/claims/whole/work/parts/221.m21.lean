section q21
end q21
section q21
def b_X12_looks_200 (N : Nat) (k_100 : Int64 → Int32 → Int32 → zSt → Prop) (k_109 : Int64 → Int32 → Int32 → Int32 → zSt → Prop) (k_118 : Int64 → Int32 → Int32 → Int32 → Int32 → zSt → Prop) (Q : zSt → Prop) (x1 : Int64) (x3 : Int32) (x4 : Int32) (x5 : Int32) (x6 : Int32) (x7 : Int32) (x8 : Int32) (σ : zSt) : Prop :=
  (vp_in (((10 : Int32) * x5) + x6) 100) ∧ (∀ τ1 : zSt, τ1 = zA σ 12 (upd (σ.2.2.1 12) ((((10 : Int32) * x5) + x6).toNatClampNeg) (x7 + x8)) → ∀ v2 : Int32, v2 = x6 + (1 : Int32) → k_118 x1 x3 x4 x5 v2 τ1)
def b_X12_looks_118 (N : Nat) (k_100 : Int64 → Int32 → Int32 → zSt → Prop) (k_109 : Int64 → Int32 → Int32 → Int32 → zSt → Prop) (k_118 : Int64 → Int32 → Int32 → Int32 → Int32 → zSt → Prop) (Q : zSt → Prop) (x1 : Int64) (x3 : Int32) (x4 : Int32) (x5 : Int32) (x6 : Int32) (σ : zSt) : Prop :=
  (x3 ≤ x6 → ∀ v1 : Int32, v1 = x5 + (1 : Int32) → k_109 x1 x3 x4 v1 σ) ∧ (¬ x3 ≤ x6 → (vp_in (((10 : Int32) * x5) + x4) 100) ∧ (∀ v2 : Int32, v2 = σ.2.2.1 12 (((10 : Int32) * x5) + x4).toNatClampNeg → (vp_in (((10 : Int32) * x4) + x6) 100) ∧ (∀ v3 : Int32, v3 = σ.2.2.1 12 (((10 : Int32) * x4) + x6).toNatClampNeg → (v2 = (-1 : Int32) → ∀ v4 : Int32, v4 = x6 + (1 : Int32) → k_118 x1 x3 x4 x5 v4 σ) ∧ (¬ v2 = (-1 : Int32) → (v3 = (-1 : Int32) → ∀ v7 : Int32, v7 = x6 + (1 : Int32) → k_118 x1 x3 x4 x5 v7 σ) ∧ (¬ v3 = (-1 : Int32) → (vp_in (((10 : Int32) * x5) + x6) 100) ∧ (∀ v5 : Int32, v5 = σ.2.2.1 12 (((10 : Int32) * x5) + x6).toNatClampNeg → (v5 = (-1 : Int32) → b_X12_looks_200 N k_100 k_109 k_118 Q x1 x3 x4 x5 x6 v2 v3 σ) ∧ (¬ v5 = (-1 : Int32) → (v5 ≤ (v2 + v3) → ∀ v6 : Int32, v6 = x6 + (1 : Int32) → k_118 x1 x3 x4 x5 v6 σ) ∧ (¬ v5 ≤ (v2 + v3) → b_X12_looks_200 N k_100 k_109 k_118 Q x1 x3 x4 x5 x6 v2 v3 σ))))))))
def w_X12_looks_118 (N : Nat) (k_100 : Int64 → Int32 → Int32 → zSt → Prop) (k_109 : Int64 → Int32 → Int32 → Int32 → zSt → Prop) (Q : zSt → Prop) : Nat → Int64 → Int32 → Int32 → Int32 → Int32 → zSt → Prop
  | 0 => fun _ _ _ _ _ _ => False
  | f + 1 => b_X12_looks_118 N k_100 k_109 (w_X12_looks_118 N k_100 k_109 Q f) Q
def b_X12_looks_109 (N : Nat) (k_100 : Int64 → Int32 → Int32 → zSt → Prop) (k_109 : Int64 → Int32 → Int32 → Int32 → zSt → Prop) (Q : zSt → Prop) (x1 : Int64) (x3 : Int32) (x4 : Int32) (x5 : Int32) (σ : zSt) : Prop :=
  (x3 ≤ x5 → ∀ v1 : Int32, v1 = x4 + (1 : Int32) → k_100 x1 x3 v1 σ) ∧ (¬ x3 ≤ x5 → w_X12_looks_118 N k_100 k_109 Q N x1 x3 x4 x5 (0 : Int32) σ)
def w_X12_looks_109 (N : Nat) (k_100 : Int64 → Int32 → Int32 → zSt → Prop) (Q : zSt → Prop) : Nat → Int64 → Int32 → Int32 → Int32 → zSt → Prop
  | 0 => fun _ _ _ _ _ => False
  | f + 1 => b_X12_looks_109 N k_100 (w_X12_looks_109 N k_100 Q f) Q
def b_X12_looks_100 (N : Nat) (k_100 : Int64 → Int32 → Int32 → zSt → Prop) (Q : zSt → Prop) (x1 : Int64) (x3 : Int32) (x4 : Int32) (σ : zSt) : Prop :=
  (x3 ≤ x4 → w_X12_bits N x1 σ (fun r1 τ2 => ∀ τ3 : zSt, τ3 = zI τ2 15 r1 → Q τ3)) ∧ (¬ x3 ≤ x4 → w_X12_looks_109 N k_100 Q N x1 x3 x4 (0 : Int32) σ)
def w_X12_looks_100 (N : Nat) (Q : zSt → Prop) : Nat → Int64 → Int32 → Int32 → zSt → Prop
  | 0 => fun _ _ _ _ => False
  | f + 1 => b_X12_looks_100 N (w_X12_looks_100 N  Q f) Q
def b_X12_looks_36 (N : Nat) (k_13 : Int64 → Int32 → Int32 → zSt → Prop) (k_36 : Int64 → Int32 → Int32 → Int32 → zSt → Prop) (Q : zSt → Prop) (x1 : Int64) (x3 : Int32) (x4 : Int32) (x5 : Int32) (σ : zSt) : Prop :=
  (x3 ≤ x5 → ∀ v1 : Int32, v1 = x4 + (1 : Int32) → k_13 x1 x3 v1 σ) ∧ (¬ x3 ≤ x5 → (x4 = x5 → (vp_in (((10 : Int32) * x4) + x5) 100) ∧ (∀ τ10 : zSt, τ10 = zA σ 12 (upd (σ.2.2.1 12) ((((10 : Int32) * x4) + x5).toNatClampNeg) (0 : Int32)) → ∀ v11 : Int32, v11 = x5 + (1 : Int32) → k_36 x1 x3 x4 v11 τ10)) ∧ (¬ x4 = x5 → w_X12_pairOf N x4 x5 σ (fun r2 τ3 => w_X12_isTied N x1 r2 τ3 (fun r4 τ5 => (r4 = 0 → (vp_in (((10 : Int32) * x4) + x5) 100) ∧ (∀ τ6 : zSt, τ6 = zA τ5 12 (upd (τ5.2.2.1 12) ((((10 : Int32) * x4) + x5).toNatClampNeg) (-1 : Int32)) → ∀ v7 : Int32, v7 = x5 + (1 : Int32) → k_36 x1 x3 x4 v7 τ6)) ∧ (¬ r4 = 0 → (vp_in (((10 : Int32) * x4) + x5) 100) ∧ (∀ τ8 : zSt, τ8 = zA τ5 12 (upd (τ5.2.2.1 12) ((((10 : Int32) * x4) + x5).toNatClampNeg) (1 : Int32)) → ∀ v9 : Int32, v9 = x5 + (1 : Int32) → k_36 x1 x3 x4 v9 τ8))))))
def w_X12_looks_36 (N : Nat) (k_13 : Int64 → Int32 → Int32 → zSt → Prop) (Q : zSt → Prop) : Nat → Int64 → Int32 → Int32 → Int32 → zSt → Prop
  | 0 => fun _ _ _ _ _ => False
  | f + 1 => b_X12_looks_36 N k_13 (w_X12_looks_36 N k_13 Q f) Q
def b_X12_looks_13 (N : Nat) (k_13 : Int64 → Int32 → Int32 → zSt → Prop) (Q : zSt → Prop) (x1 : Int64) (x3 : Int32) (x4 : Int32) (σ : zSt) : Prop :=
  (x3 ≤ x4 → w_X12_looks_100 N Q N x1 x3 (0 : Int32) σ) ∧ (¬ x3 ≤ x4 → w_X12_tiesOf N x1 x4 σ (fun r1 τ2 => (vp_in x4 10) ∧ (∀ τ3 : zSt, τ3 = zA τ2 13 (upd (τ2.2.2.1 13) (x4.toNatClampNeg) r1) → w_X12_looks_36 N k_13 Q N x1 x3 x4 (0 : Int32) τ3)))
def w_X12_looks_13 (N : Nat) (Q : zSt → Prop) : Nat → Int64 → Int32 → Int32 → zSt → Prop
  | 0 => fun _ _ _ _ => False
  | f + 1 => b_X12_looks_13 N (w_X12_looks_13 N  Q f) Q
def w_X12_looks (N : Nat) (x1 : Int64) (σ : zSt) (Q : zSt → Prop) : Prop :=
  w_X12_many N σ (fun r1 τ2 => ∀ τ3 : zSt, τ3 = zJ τ2 1 x1 → w_X12_looks_13 N Q N x1 r1 (0 : Int32) τ3)
variable {p : Program} {l : Launch} {e : Env} {s : State} {m : MethodId} {args : Array Value} {below : List Frame} {meth : Method} {c : Code} {dC : Nat → ClassId} {dI : Nat → Nat → Nat} {ad : Nat → Nat} {cI cJ cC : ClassId}
set_option maxHeartbeats 4000000 in
set_option maxRecDepth 100000 in
theorem t_X12_looks_200 (C0 : zCx p s m meth c args RX12 cX12_looks 10 none vs_X12_looks) (hK : va_K (dC, dI) vwCl (m_ty cI cJ cC) s) (N : Nat) {Q : zSt → Prop} {k_100 : Int64 → Int32 → Int32 → zSt → Prop} (hk_100 : ∀ (x1 : Int64) (x3 : Int32) (x4 : Int32) (σ : zSt) (H : Heap) (locs : List Loc) (ls : Array Slot), k_100 x1 x3 x4 σ → va_P (dC, dI) vwCl (m_W ad cI cJ cC σ) H → va_D (zAW m_n ad s.heap.size) (m_W ad cI cJ cC σ) → va_S (zAW m_n ad s.heap.size) s.heap H locs → lv_has ls 10 [(0, .ref (ad 0)), (1, .long x1), (3, .int x3), (4, .int x4)] → W p l e rm_X12_looks s m args below meth c H locs 0 0 (MQ below (zQv (dC, dI) (m_ty cI cJ cC) (m_W ad cI cJ cC) (zAW m_n ad s.heap.size) Q) args s 0 0 (zAW m_n ad s.heap.size)) (F0 m 100 ls [])) {k_109 : Int64 → Int32 → Int32 → Int32 → zSt → Prop} (hk_109 : ∀ (x1 : Int64) (x3 : Int32) (x4 : Int32) (x5 : Int32) (σ : zSt) (H : Heap) (locs : List Loc) (ls : Array Slot), k_109 x1 x3 x4 x5 σ → va_P (dC, dI) vwCl (m_W ad cI cJ cC σ) H → va_D (zAW m_n ad s.heap.size) (m_W ad cI cJ cC σ) → va_S (zAW m_n ad s.heap.size) s.heap H locs → lv_has ls 10 [(0, .ref (ad 0)), (1, .long x1), (3, .int x3), (4, .int x4), (5, .int x5)] → W p l e rm_X12_looks s m args below meth c H locs 0 0 (MQ below (zQv (dC, dI) (m_ty cI cJ cC) (m_W ad cI cJ cC) (zAW m_n ad s.heap.size) Q) args s 0 0 (zAW m_n ad s.heap.size)) (F0 m 109 ls [])) {k_118 : Int64 → Int32 → Int32 → Int32 → Int32 → zSt → Prop} (hk_118 : ∀ (x1 : Int64) (x3 : Int32) (x4 : Int32) (x5 : Int32) (x6 : Int32) (σ : zSt) (H : Heap) (locs : List Loc) (ls : Array Slot), k_118 x1 x3 x4 x5 x6 σ → va_P (dC, dI) vwCl (m_W ad cI cJ cC σ) H → va_D (zAW m_n ad s.heap.size) (m_W ad cI cJ cC σ) → va_S (zAW m_n ad s.heap.size) s.heap H locs → lv_has ls 10 [(0, .ref (ad 0)), (1, .long x1), (3, .int x3), (4, .int x4), (5, .int x5), (6, .int x6)] → W p l e rm_X12_looks s m args below meth c H locs 0 0 (MQ below (zQv (dC, dI) (m_ty cI cJ cC) (m_W ad cI cJ cC) (zAW m_n ad s.heap.size) Q) args s 0 0 (zAW m_n ad s.heap.size)) (F0 m 118 ls [])) : ∀ (x1 : Int64) (x3 : Int32) (x4 : Int32) (x5 : Int32) (x6 : Int32) (x7 : Int32) (x8 : Int32) (σ : zSt) (H : Heap) (locs : List Loc) (ls : Array Slot), b_X12_looks_200 N k_100 k_109 k_118 Q x1 x3 x4 x5 x6 x7 x8 σ → va_P (dC, dI) vwCl (m_W ad cI cJ cC σ) H → va_D (zAW m_n ad s.heap.size) (m_W ad cI cJ cC σ) → va_S (zAW m_n ad s.heap.size) s.heap H locs → lv_has ls 10 [(0, .ref (ad 0)), (1, .long x1), (3, .int x3), (4, .int x4), (5, .int x5), (6, .int x6), (7, .int x7), (8, .int x8)] → W p l e rm_X12_looks s m args below meth c H locs 0 0 (MQ below (zQv (dC, dI) (m_ty cI cJ cC) (m_W ad cI cJ cC) (zAW m_n ad s.heap.size) Q) args s 0 0 (zAW m_n ad s.heap.size)) (F0 m 200 ls []) := by
  obtain ⟨hx, hb, hml, hr, hown, hts, hlocks⟩ := id C0
  intro x1 x3 x4 x5 x6 x7 x8 σ H locs ls h hP hD hS hl
  unfold b_X12_looks_200 at h
  refine lv_aload_n hx hb dX12_looks_200 rfl (lv_at hl 0 rfl) ?_
  refine mg_0_50 hx hb hts hown hK hP mw_883 dX12_looks_201 ?_
  refine lv_bipush (v := (10 : Int32)) hx hb dX12_looks_204 (by decide) ?_
  refine lv_iload hx hb dX12_looks_206 (lv_at hl 4 rfl) ?_
  refine lv_imul hx hb dX12_looks_208 ?_
  refine lv_iload hx hb dX12_looks_209 (lv_at hl 5 rfl) ?_
  refine lv_iadd hx hb dX12_looks_211 ?_
  refine lv_iload hx hb dX12_looks_212 (lv_at hl 6 rfl) ?_
  refine lv_iload hx hb dX12_looks_214 (lv_at hl 7 rfl) ?_
  refine lv_iadd hx hb dX12_looks_216 ?_
  refine ms_15 hx hb hK hP hD hS h.1 rfl dX12_looks_217 (fun τ1 H locs eτ1 hP hD hS => ?_)
  have h := h.2
  have h := h τ1 eτ1
  obtain ⟨v2, ev2⟩ : ∃ z : Int32, z = x6 + (1 : Int32) := ⟨_, rfl⟩
  have h := h v2 ev2
  refine lv_iinc (v := v2) (lv' := [(6, .int v2), (0, .ref (ad 0)), (1, .long x1), (3, .int x3), (4, .int x4), (5, .int x5), (7, .int x7), (8, .int x8)]) hx hb dX12_looks_218 hl (k := 5) rfl (by rw [ev2]; rfl) (by decide) rfl (fun ls hl => ?_)
  refine lv_goto (tgt := 118) hx hb dX12_looks_221 (by decide) ?_
  exact hk_118 x1 x3 x4 x5 v2 τ1 _ _ _ h hP hD hS (lv_sub hl [1, 2, 3, 4, 5, 0] rfl)
set_option maxHeartbeats 4000000 in
set_option maxRecDepth 100000 in
theorem tb_X12_looks_118 (C0 : zCx p s m meth c args RX12 cX12_looks 10 none vs_X12_looks) (hK : va_K (dC, dI) vwCl (m_ty cI cJ cC) s) (N : Nat) {Q : zSt → Prop} {k_100 : Int64 → Int32 → Int32 → zSt → Prop} (hk_100 : ∀ (x1 : Int64) (x3 : Int32) (x4 : Int32) (σ : zSt) (H : Heap) (locs : List Loc) (ls : Array Slot), k_100 x1 x3 x4 σ → va_P (dC, dI) vwCl (m_W ad cI cJ cC σ) H → va_D (zAW m_n ad s.heap.size) (m_W ad cI cJ cC σ) → va_S (zAW m_n ad s.heap.size) s.heap H locs → lv_has ls 10 [(0, .ref (ad 0)), (1, .long x1), (3, .int x3), (4, .int x4)] → W p l e rm_X12_looks s m args below meth c H locs 0 0 (MQ below (zQv (dC, dI) (m_ty cI cJ cC) (m_W ad cI cJ cC) (zAW m_n ad s.heap.size) Q) args s 0 0 (zAW m_n ad s.heap.size)) (F0 m 100 ls [])) {k_109 : Int64 → Int32 → Int32 → Int32 → zSt → Prop} (hk_109 : ∀ (x1 : Int64) (x3 : Int32) (x4 : Int32) (x5 : Int32) (σ : zSt) (H : Heap) (locs : List Loc) (ls : Array Slot), k_109 x1 x3 x4 x5 σ → va_P (dC, dI) vwCl (m_W ad cI cJ cC σ) H → va_D (zAW m_n ad s.heap.size) (m_W ad cI cJ cC σ) → va_S (zAW m_n ad s.heap.size) s.heap H locs → lv_has ls 10 [(0, .ref (ad 0)), (1, .long x1), (3, .int x3), (4, .int x4), (5, .int x5)] → W p l e rm_X12_looks s m args below meth c H locs 0 0 (MQ below (zQv (dC, dI) (m_ty cI cJ cC) (m_W ad cI cJ cC) (zAW m_n ad s.heap.size) Q) args s 0 0 (zAW m_n ad s.heap.size)) (F0 m 109 ls [])) {k_118 : Int64 → Int32 → Int32 → Int32 → Int32 → zSt → Prop} (hk_118 : ∀ (x1 : Int64) (x3 : Int32) (x4 : Int32) (x5 : Int32) (x6 : Int32) (σ : zSt) (H : Heap) (locs : List Loc) (ls : Array Slot), k_118 x1 x3 x4 x5 x6 σ → va_P (dC, dI) vwCl (m_W ad cI cJ cC σ) H → va_D (zAW m_n ad s.heap.size) (m_W ad cI cJ cC σ) → va_S (zAW m_n ad s.heap.size) s.heap H locs → lv_has ls 10 [(0, .ref (ad 0)), (1, .long x1), (3, .int x3), (4, .int x4), (5, .int x5), (6, .int x6)] → W p l e rm_X12_looks s m args below meth c H locs 0 0 (MQ below (zQv (dC, dI) (m_ty cI cJ cC) (m_W ad cI cJ cC) (zAW m_n ad s.heap.size) Q) args s 0 0 (zAW m_n ad s.heap.size)) (F0 m 118 ls [])) : ∀ (x1 : Int64) (x3 : Int32) (x4 : Int32) (x5 : Int32) (x6 : Int32) (σ : zSt) (H : Heap) (locs : List Loc) (ls : Array Slot), b_X12_looks_118 N k_100 k_109 k_118 Q x1 x3 x4 x5 x6 σ → va_P (dC, dI) vwCl (m_W ad cI cJ cC σ) H → va_D (zAW m_n ad s.heap.size) (m_W ad cI cJ cC σ) → va_S (zAW m_n ad s.heap.size) s.heap H locs → lv_has ls 10 [(0, .ref (ad 0)), (1, .long x1), (3, .int x3), (4, .int x4), (5, .int x5), (6, .int x6)] → W p l e rm_X12_looks s m args below meth c H locs 0 0 (MQ below (zQv (dC, dI) (m_ty cI cJ cC) (m_W ad cI cJ cC) (zAW m_n ad s.heap.size) Q) args s 0 0 (zAW m_n ad s.heap.size)) (F0 m 118 ls []) := by
  obtain ⟨hx, hb, hml, hr, hown, hts, hlocks⟩ := id C0
  intro x1 x3 x4 x5 x6 σ H locs ls h hP hD hS hl
  unfold b_X12_looks_118 at h
  refine lv_iload hx hb dX12_looks_118 (lv_at hl 5 rfl) ?_
  refine lv_iload_n hx hb dX12_looks_120 rfl (lv_at hl 2 rfl) ?_
  refine lv_icmp_ge (tgt := 224) hx hb dX12_looks_121 (by decide) (fun hc => ?_) (fun hc => ?_)
  · have h := h.1 hc
    obtain ⟨v1, ev1⟩ : ∃ z : Int32, z = x5 + (1 : Int32) := ⟨_, rfl⟩
    have h := h v1 ev1
    refine lv_iinc (v := v1) (lv' := [(5, .int v1), (0, .ref (ad 0)), (1, .long x1), (3, .int x3), (4, .int x4), (6, .int x6)]) hx hb dX12_looks_224 hl (k := 4) rfl (by rw [ev1]; rfl) (by decide) rfl (fun ls hl => ?_)
    refine lv_goto (tgt := 109) hx hb dX12_looks_227 (by decide) ?_
    exact hk_109 x1 x3 x4 v1 σ _ _ _ h hP hD hS (lv_sub hl [1, 2, 3, 4, 0] rfl)
  · have h := h.2 hc
    refine lv_aload_n hx hb dX12_looks_124 rfl (lv_at hl 0 rfl) ?_
    refine mg_0_50 hx hb hts hown hK hP mw_883 dX12_looks_125 ?_
    refine lv_bipush (v := (10 : Int32)) hx hb dX12_looks_128 (by decide) ?_
    refine lv_iload hx hb dX12_looks_130 (lv_at hl 4 rfl) ?_
    refine lv_imul hx hb dX12_looks_132 ?_
    refine lv_iload hx hb dX12_looks_133 (lv_at hl 3 rfl) ?_
    refine lv_iadd hx hb dX12_looks_135 ?_
    refine ma_15 hx hb hK hP h.1 rfl dX12_looks_136 ?_
    have h := h.2
    refine lv_topi (fun v2 ev2 => ?_)
    have h := h v2 ev2
    refine lv_istore (lv' := [(7, .int v2), (0, .ref (ad 0)), (1, .long x1), (3, .int x3), (4, .int x4), (5, .int x5), (6, .int x6)]) hx hb dX12_looks_137 hl (by decide) rfl (fun ls hl => ?_)
    refine lv_aload_n hx hb dX12_looks_139 rfl (lv_at hl 1 rfl) ?_
    refine mg_0_50 hx hb hts hown hK hP mw_883 dX12_looks_140 ?_
    refine lv_bipush (v := (10 : Int32)) hx hb dX12_looks_143 (by decide) ?_
    refine lv_iload hx hb dX12_looks_145 (lv_at hl 4 rfl) ?_
    refine lv_imul hx hb dX12_looks_147 ?_
    refine lv_iload hx hb dX12_looks_148 (lv_at hl 6 rfl) ?_
    refine lv_iadd hx hb dX12_looks_150 ?_
    refine ma_15 hx hb hK hP h.1 rfl dX12_looks_151 ?_
    have h := h.2
    refine lv_topi (fun v3 ev3 => ?_)
    have h := h v3 ev3
    refine lv_istore (lv' := [(8, .int v3), (7, .int v2), (0, .ref (ad 0)), (1, .long x1), (3, .int x3), (4, .int x4), (5, .int x5), (6, .int x6)]) hx hb dX12_looks_152 hl (by decide) rfl (fun ls hl => ?_)
    refine lv_iload hx hb dX12_looks_154 (lv_at hl 1 rfl) ?_
    refine lv_iconst (v := (-1 : Int32)) hx hb dX12_looks_156 (by decide) ?_
    refine lv_icmp_eq (tgt := 218) hx hb dX12_looks_157 (by decide) (fun hc => ?_) (fun hc => ?_)
    · have h := h.1 hc
      obtain ⟨v4, ev4⟩ : ∃ z : Int32, z = x6 + (1 : Int32) := ⟨_, rfl⟩
      have h := h v4 ev4
      refine lv_iinc (v := v4) (lv' := [(6, .int v4), (8, .int v3), (7, .int v2), (0, .ref (ad 0)), (1, .long x1), (3, .int x3), (4, .int x4), (5, .int x5)]) hx hb dX12_looks_218 hl (k := 7) rfl (by rw [ev4]; rfl) (by decide) rfl (fun ls hl => ?_)
      refine lv_goto (tgt := 118) hx hb dX12_looks_221 (by decide) ?_
      exact hk_118 x1 x3 x4 x5 v4 σ _ _ _ h hP hD hS (lv_sub hl [3, 4, 5, 6, 7, 0] rfl)
    · have h := h.2 hc
      refine lv_iload hx hb dX12_looks_160 (lv_at hl 0 rfl) ?_
      refine lv_iconst (v := (-1 : Int32)) hx hb dX12_looks_162 (by decide) ?_
      refine lv_icmp_ne (tgt := 169) hx hb dX12_looks_163 (by decide) (fun hc => ?_) (fun hc => ?_)
      · have h := h.2 hc
        refine lv_aload_n hx hb dX12_looks_169 rfl (lv_at hl 2 rfl) ?_
        refine mg_0_50 hx hb hts hown hK hP mw_883 dX12_looks_170 ?_
        refine lv_bipush (v := (10 : Int32)) hx hb dX12_looks_173 (by decide) ?_
        refine lv_iload hx hb dX12_looks_175 (lv_at hl 6 rfl) ?_
        refine lv_imul hx hb dX12_looks_177 ?_
        refine lv_iload hx hb dX12_looks_178 (lv_at hl 7 rfl) ?_
        refine lv_iadd hx hb dX12_looks_180 ?_
        refine ma_15 hx hb hK hP h.1 rfl dX12_looks_181 ?_
        have h := h.2
        refine lv_topi (fun v5 ev5 => ?_)
        have h := h v5 ev5
        refine lv_istore (lv' := [(9, .int v5), (8, .int v3), (7, .int v2), (0, .ref (ad 0)), (1, .long x1), (3, .int x3), (4, .int x4), (5, .int x5), (6, .int x6)]) hx hb dX12_looks_182 hl (by decide) rfl (fun ls hl => ?_)
        refine lv_iload hx hb dX12_looks_184 (lv_at hl 0 rfl) ?_
        refine lv_iconst (v := (-1 : Int32)) hx hb dX12_looks_186 (by decide) ?_
        refine lv_icmp_eq (tgt := 200) hx hb dX12_looks_187 (by decide) (fun hc => ?_) (fun hc => ?_)
        · have h := h.1 hc
          exact t_X12_looks_200 C0 hK N hk_100 hk_109 hk_118 x1 x3 x4 x5 x6 v2 v3 σ _ _ _ h hP hD hS (lv_sub hl [3, 4, 5, 6, 7, 8, 2, 1] rfl)
        · have h := h.2 hc
          refine lv_iload hx hb dX12_looks_190 (lv_at hl 2 rfl) ?_
          refine lv_iload hx hb dX12_looks_192 (lv_at hl 1 rfl) ?_
          refine lv_iadd hx hb dX12_looks_194 ?_
          refine lv_iload hx hb dX12_looks_195 (lv_at hl 0 rfl) ?_
          refine lv_icmp_ge (tgt := 218) hx hb dX12_looks_197 (by decide) (fun hc => ?_) (fun hc => ?_)
          · have h := h.1 hc
            obtain ⟨v6, ev6⟩ : ∃ z : Int32, z = x6 + (1 : Int32) := ⟨_, rfl⟩
            have h := h v6 ev6
            refine lv_iinc (v := v6) (lv' := [(6, .int v6), (9, .int v5), (8, .int v3), (7, .int v2), (0, .ref (ad 0)), (1, .long x1), (3, .int x3), (4, .int x4), (5, .int x5)]) hx hb dX12_looks_218 hl (k := 8) rfl (by rw [ev6]; rfl) (by decide) rfl (fun ls hl => ?_)
            refine lv_goto (tgt := 118) hx hb dX12_looks_221 (by decide) ?_
            exact hk_118 x1 x3 x4 x5 v6 σ _ _ _ h hP hD hS (lv_sub hl [4, 5, 6, 7, 8, 0] rfl)
          · have h := h.2 hc
            exact t_X12_looks_200 C0 hK N hk_100 hk_109 hk_118 x1 x3 x4 x5 x6 v2 v3 σ _ _ _ h hP hD hS (lv_sub hl [3, 4, 5, 6, 7, 8, 2, 1] rfl)
      · have h := h.1 hc
        refine lv_goto (tgt := 218) hx hb dX12_looks_166 (by decide) ?_
        obtain ⟨v7, ev7⟩ : ∃ z : Int32, z = x6 + (1 : Int32) := ⟨_, rfl⟩
        have h := h v7 ev7
        refine lv_iinc (v := v7) (lv' := [(6, .int v7), (8, .int v3), (7, .int v2), (0, .ref (ad 0)), (1, .long x1), (3, .int x3), (4, .int x4), (5, .int x5)]) hx hb dX12_looks_218 hl (k := 7) rfl (by rw [ev7]; rfl) (by decide) rfl (fun ls hl => ?_)
        refine lv_goto (tgt := 118) hx hb dX12_looks_221 (by decide) ?_
        exact hk_118 x1 x3 x4 x5 v7 σ _ _ _ h hP hD hS (lv_sub hl [3, 4, 5, 6, 7, 0] rfl)
set_option maxHeartbeats 4000000 in
set_option maxRecDepth 100000 in
theorem t_X12_looks_118 (C0 : zCx p s m meth c args RX12 cX12_looks 10 none vs_X12_looks) (hK : va_K (dC, dI) vwCl (m_ty cI cJ cC) s) (N : Nat) {Q : zSt → Prop} {k_100 : Int64 → Int32 → Int32 → zSt → Prop} (hk_100 : ∀ (x1 : Int64) (x3 : Int32) (x4 : Int32) (σ : zSt) (H : Heap) (locs : List Loc) (ls : Array Slot), k_100 x1 x3 x4 σ → va_P (dC, dI) vwCl (m_W ad cI cJ cC σ) H → va_D (zAW m_n ad s.heap.size) (m_W ad cI cJ cC σ) → va_S (zAW m_n ad s.heap.size) s.heap H locs → lv_has ls 10 [(0, .ref (ad 0)), (1, .long x1), (3, .int x3), (4, .int x4)] → W p l e rm_X12_looks s m args below meth c H locs 0 0 (MQ below (zQv (dC, dI) (m_ty cI cJ cC) (m_W ad cI cJ cC) (zAW m_n ad s.heap.size) Q) args s 0 0 (zAW m_n ad s.heap.size)) (F0 m 100 ls [])) {k_109 : Int64 → Int32 → Int32 → Int32 → zSt → Prop} (hk_109 : ∀ (x1 : Int64) (x3 : Int32) (x4 : Int32) (x5 : Int32) (σ : zSt) (H : Heap) (locs : List Loc) (ls : Array Slot), k_109 x1 x3 x4 x5 σ → va_P (dC, dI) vwCl (m_W ad cI cJ cC σ) H → va_D (zAW m_n ad s.heap.size) (m_W ad cI cJ cC σ) → va_S (zAW m_n ad s.heap.size) s.heap H locs → lv_has ls 10 [(0, .ref (ad 0)), (1, .long x1), (3, .int x3), (4, .int x4), (5, .int x5)] → W p l e rm_X12_looks s m args below meth c H locs 0 0 (MQ below (zQv (dC, dI) (m_ty cI cJ cC) (m_W ad cI cJ cC) (zAW m_n ad s.heap.size) Q) args s 0 0 (zAW m_n ad s.heap.size)) (F0 m 109 ls [])) : ∀ (f : Nat) (x1 : Int64) (x3 : Int32) (x4 : Int32) (x5 : Int32) (x6 : Int32) (σ : zSt) (H : Heap) (locs : List Loc) (ls : Array Slot), w_X12_looks_118 N k_100 k_109 Q f x1 x3 x4 x5 x6 σ → va_P (dC, dI) vwCl (m_W ad cI cJ cC σ) H → va_D (zAW m_n ad s.heap.size) (m_W ad cI cJ cC σ) → va_S (zAW m_n ad s.heap.size) s.heap H locs → lv_has ls 10 [(0, .ref (ad 0)), (1, .long x1), (3, .int x3), (4, .int x4), (5, .int x5), (6, .int x6)] → W p l e rm_X12_looks s m args below meth c H locs 0 0 (MQ below (zQv (dC, dI) (m_ty cI cJ cC) (m_W ad cI cJ cC) (zAW m_n ad s.heap.size) Q) args s 0 0 (zAW m_n ad s.heap.size)) (F0 m 118 ls []) := by
  intro f
  induction f with
  | zero => intro x1 x3 x4 x5 x6 σ H locs ls h; exact h.elim
  | succ f ih =>
    intro x1 x3 x4 x5 x6 σ H locs ls h hP hD hS hl
    exact tb_X12_looks_118 C0 hK N hk_100 hk_109 (k_118 := w_X12_looks_118 N k_100 k_109 Q f) ih x1 x3 x4 x5 x6 σ H locs ls h hP hD hS hl
set_option maxHeartbeats 4000000 in
set_option maxRecDepth 100000 in
theorem tb_X12_looks_109 (C0 : zCx p s m meth c args RX12 cX12_looks 10 none vs_X12_looks) (hK : va_K (dC, dI) vwCl (m_ty cI cJ cC) s) (N : Nat) {Q : zSt → Prop} {k_100 : Int64 → Int32 → Int32 → zSt → Prop} (hk_100 : ∀ (x1 : Int64) (x3 : Int32) (x4 : Int32) (σ : zSt) (H : Heap) (locs : List Loc) (ls : Array Slot), k_100 x1 x3 x4 σ → va_P (dC, dI) vwCl (m_W ad cI cJ cC σ) H → va_D (zAW m_n ad s.heap.size) (m_W ad cI cJ cC σ) → va_S (zAW m_n ad s.heap.size) s.heap H locs → lv_has ls 10 [(0, .ref (ad 0)), (1, .long x1), (3, .int x3), (4, .int x4)] → W p l e rm_X12_looks s m args below meth c H locs 0 0 (MQ below (zQv (dC, dI) (m_ty cI cJ cC) (m_W ad cI cJ cC) (zAW m_n ad s.heap.size) Q) args s 0 0 (zAW m_n ad s.heap.size)) (F0 m 100 ls [])) {k_109 : Int64 → Int32 → Int32 → Int32 → zSt → Prop} (hk_109 : ∀ (x1 : Int64) (x3 : Int32) (x4 : Int32) (x5 : Int32) (σ : zSt) (H : Heap) (locs : List Loc) (ls : Array Slot), k_109 x1 x3 x4 x5 σ → va_P (dC, dI) vwCl (m_W ad cI cJ cC σ) H → va_D (zAW m_n ad s.heap.size) (m_W ad cI cJ cC σ) → va_S (zAW m_n ad s.heap.size) s.heap H locs → lv_has ls 10 [(0, .ref (ad 0)), (1, .long x1), (3, .int x3), (4, .int x4), (5, .int x5)] → W p l e rm_X12_looks s m args below meth c H locs 0 0 (MQ below (zQv (dC, dI) (m_ty cI cJ cC) (m_W ad cI cJ cC) (zAW m_n ad s.heap.size) Q) args s 0 0 (zAW m_n ad s.heap.size)) (F0 m 109 ls [])) : ∀ (x1 : Int64) (x3 : Int32) (x4 : Int32) (x5 : Int32) (σ : zSt) (H : Heap) (locs : List Loc) (ls : Array Slot), b_X12_looks_109 N k_100 k_109 Q x1 x3 x4 x5 σ → va_P (dC, dI) vwCl (m_W ad cI cJ cC σ) H → va_D (zAW m_n ad s.heap.size) (m_W ad cI cJ cC σ) → va_S (zAW m_n ad s.heap.size) s.heap H locs → lv_has ls 10 [(0, .ref (ad 0)), (1, .long x1), (3, .int x3), (4, .int x4), (5, .int x5)] → W p l e rm_X12_looks s m args below meth c H locs 0 0 (MQ below (zQv (dC, dI) (m_ty cI cJ cC) (m_W ad cI cJ cC) (zAW m_n ad s.heap.size) Q) args s 0 0 (zAW m_n ad s.heap.size)) (F0 m 109 ls []) := by
  obtain ⟨hx, hb, hml, hr, hown, hts, hlocks⟩ := id C0
  intro x1 x3 x4 x5 σ H locs ls h hP hD hS hl
  unfold b_X12_looks_109 at h
  refine lv_iload hx hb dX12_looks_109 (lv_at hl 4 rfl) ?_
  refine lv_iload_n hx hb dX12_looks_111 rfl (lv_at hl 2 rfl) ?_
  refine lv_icmp_ge (tgt := 230) hx hb dX12_looks_112 (by decide) (fun hc => ?_) (fun hc => ?_)
  · have h := h.1 hc
    obtain ⟨v1, ev1⟩ : ∃ z : Int32, z = x4 + (1 : Int32) := ⟨_, rfl⟩
    have h := h v1 ev1
    refine lv_iinc (v := v1) (lv' := [(4, .int v1), (0, .ref (ad 0)), (1, .long x1), (3, .int x3), (5, .int x5)]) hx hb dX12_looks_230 hl (k := 3) rfl (by rw [ev1]; rfl) (by decide) rfl (fun ls hl => ?_)
    refine lv_goto (tgt := 100) hx hb dX12_looks_233 (by decide) ?_
    exact hk_100 x1 x3 v1 σ _ _ _ h hP hD hS (lv_sub hl [1, 2, 3, 0] rfl)
  · have h := h.2 hc
    refine lv_iconst (v := (0 : Int32)) hx hb dX12_looks_115 (by decide) ?_
    refine lv_istore (lv' := [(6, .int (0 : Int32)), (0, .ref (ad 0)), (1, .long x1), (3, .int x3), (4, .int x4), (5, .int x5)]) hx hb dX12_looks_116 hl (by decide) rfl (fun ls hl => ?_)
    exact t_X12_looks_118 C0 hK N hk_100 hk_109 N x1 x3 x4 x5 (0 : Int32) σ _ _ _ h hP hD hS (lv_sub hl [1, 2, 3, 4, 5, 0] rfl)
set_option maxHeartbeats 4000000 in
set_option maxRecDepth 100000 in
theorem t_X12_looks_109 (C0 : zCx p s m meth c args RX12 cX12_looks 10 none vs_X12_looks) (hK : va_K (dC, dI) vwCl (m_ty cI cJ cC) s) (N : Nat) {Q : zSt → Prop} {k_100 : Int64 → Int32 → Int32 → zSt → Prop} (hk_100 : ∀ (x1 : Int64) (x3 : Int32) (x4 : Int32) (σ : zSt) (H : Heap) (locs : List Loc) (ls : Array Slot), k_100 x1 x3 x4 σ → va_P (dC, dI) vwCl (m_W ad cI cJ cC σ) H → va_D (zAW m_n ad s.heap.size) (m_W ad cI cJ cC σ) → va_S (zAW m_n ad s.heap.size) s.heap H locs → lv_has ls 10 [(0, .ref (ad 0)), (1, .long x1), (3, .int x3), (4, .int x4)] → W p l e rm_X12_looks s m args below meth c H locs 0 0 (MQ below (zQv (dC, dI) (m_ty cI cJ cC) (m_W ad cI cJ cC) (zAW m_n ad s.heap.size) Q) args s 0 0 (zAW m_n ad s.heap.size)) (F0 m 100 ls [])) : ∀ (f : Nat) (x1 : Int64) (x3 : Int32) (x4 : Int32) (x5 : Int32) (σ : zSt) (H : Heap) (locs : List Loc) (ls : Array Slot), w_X12_looks_109 N k_100 Q f x1 x3 x4 x5 σ → va_P (dC, dI) vwCl (m_W ad cI cJ cC σ) H → va_D (zAW m_n ad s.heap.size) (m_W ad cI cJ cC σ) → va_S (zAW m_n ad s.heap.size) s.heap H locs → lv_has ls 10 [(0, .ref (ad 0)), (1, .long x1), (3, .int x3), (4, .int x4), (5, .int x5)] → W p l e rm_X12_looks s m args below meth c H locs 0 0 (MQ below (zQv (dC, dI) (m_ty cI cJ cC) (m_W ad cI cJ cC) (zAW m_n ad s.heap.size) Q) args s 0 0 (zAW m_n ad s.heap.size)) (F0 m 109 ls []) := by
  intro f
  induction f with
  | zero => intro x1 x3 x4 x5 σ H locs ls h; exact h.elim
  | succ f ih =>
    intro x1 x3 x4 x5 σ H locs ls h hP hD hS hl
    exact tb_X12_looks_109 C0 hK N hk_100 (k_109 := w_X12_looks_109 N k_100 Q f) ih x1 x3 x4 x5 σ H locs ls h hP hD hS hl
set_option maxHeartbeats 4000000 in
set_option maxRecDepth 100000 in
theorem tb_X12_looks_100 (C0 : zCx p s m meth c args RX12 cX12_looks 10 none vs_X12_looks) (hK : va_K (dC, dI) vwCl (m_ty cI cJ cC) s) (N : Nat) {Q : zSt → Prop} {k_100 : Int64 → Int32 → Int32 → zSt → Prop} (hk_100 : ∀ (x1 : Int64) (x3 : Int32) (x4 : Int32) (σ : zSt) (H : Heap) (locs : List Loc) (ls : Array Slot), k_100 x1 x3 x4 σ → va_P (dC, dI) vwCl (m_W ad cI cJ cC σ) H → va_D (zAW m_n ad s.heap.size) (m_W ad cI cJ cC σ) → va_S (zAW m_n ad s.heap.size) s.heap H locs → lv_has ls 10 [(0, .ref (ad 0)), (1, .long x1), (3, .int x3), (4, .int x4)] → W p l e rm_X12_looks s m args below meth c H locs 0 0 (MQ below (zQv (dC, dI) (m_ty cI cJ cC) (m_W ad cI cJ cC) (zAW m_n ad s.heap.size) Q) args s 0 0 (zAW m_n ad s.heap.size)) (F0 m 100 ls [])) : ∀ (x1 : Int64) (x3 : Int32) (x4 : Int32) (σ : zSt) (H : Heap) (locs : List Loc) (ls : Array Slot), b_X12_looks_100 N k_100 Q x1 x3 x4 σ → va_P (dC, dI) vwCl (m_W ad cI cJ cC σ) H → va_D (zAW m_n ad s.heap.size) (m_W ad cI cJ cC σ) → va_S (zAW m_n ad s.heap.size) s.heap H locs → lv_has ls 10 [(0, .ref (ad 0)), (1, .long x1), (3, .int x3), (4, .int x4)] → W p l e rm_X12_looks s m args below meth c H locs 0 0 (MQ below (zQv (dC, dI) (m_ty cI cJ cC) (m_W ad cI cJ cC) (zAW m_n ad s.heap.size) Q) args s 0 0 (zAW m_n ad s.heap.size)) (F0 m 100 ls []) := by
  obtain ⟨hx, hb, hml, hr, hown, hts, hlocks⟩ := id C0
  intro x1 x3 x4 σ H locs ls h hP hD hS hl
  unfold b_X12_looks_100 at h
  refine lv_iload hx hb dX12_looks_100 (lv_at hl 3 rfl) ?_
  refine lv_iload_n hx hb dX12_looks_102 rfl (lv_at hl 2 rfl) ?_
  refine lv_icmp_ge (tgt := 236) hx hb dX12_looks_103 (by decide) (fun hc => ?_) (fun hc => ?_)
  · have h := h.1 hc
    refine lv_aload_n hx hb dX12_looks_236 rfl (lv_at hl 0 rfl) ?_
    refine lv_lload_n hx hb dX12_looks_237 rfl (lv_at hl 1 rfl) ?_
    refine k_X12_bits N ⟨hx, hb, hml, hown, hts⟩ mw_1050 ⟨Nat.le_of_ble_eq_true rfl, Nat.le_of_ble_eq_true rfl⟩ h hK hP hD hS hl.1 (rest := [.ref (ad 0)]) (Nat.le_of_ble_eq_true rfl) ⟨Nat.le_of_ble_eq_true rfl, Nat.le_of_ble_eq_true rfl⟩ dX12_looks_238 (fun r1 τ2 H locs h hP hD hS => ?_)
    refine mp_0_52 hx hb hts hown hK hP hD hS mw_885 dX12_looks_241 (fun τ3 H locs eτ3 hP hD hS => ?_)
    have h := h τ3 eτ3
    exact zret_v hx hb hr hlocks hK hP hD hS h dX12_looks_244
  · have h := h.2 hc
    refine lv_iconst (v := (0 : Int32)) hx hb dX12_looks_106 (by decide) ?_
    refine lv_istore (lv' := [(5, .int (0 : Int32)), (0, .ref (ad 0)), (1, .long x1), (3, .int x3), (4, .int x4)]) hx hb dX12_looks_107 hl (by decide) rfl (fun ls hl => ?_)
    exact t_X12_looks_109 C0 hK N hk_100 N x1 x3 x4 (0 : Int32) σ _ _ _ h hP hD hS (lv_sub hl [1, 2, 3, 4, 0] rfl)
set_option maxHeartbeats 4000000 in
set_option maxRecDepth 100000 in
theorem t_X12_looks_100 (C0 : zCx p s m meth c args RX12 cX12_looks 10 none vs_X12_looks) (hK : va_K (dC, dI) vwCl (m_ty cI cJ cC) s) (N : Nat) {Q : zSt → Prop} : ∀ (f : Nat) (x1 : Int64) (x3 : Int32) (x4 : Int32) (σ : zSt) (H : Heap) (locs : List Loc) (ls : Array Slot), w_X12_looks_100 N  Q f x1 x3 x4 σ → va_P (dC, dI) vwCl (m_W ad cI cJ cC σ) H → va_D (zAW m_n ad s.heap.size) (m_W ad cI cJ cC σ) → va_S (zAW m_n ad s.heap.size) s.heap H locs → lv_has ls 10 [(0, .ref (ad 0)), (1, .long x1), (3, .int x3), (4, .int x4)] → W p l e rm_X12_looks s m args below meth c H locs 0 0 (MQ below (zQv (dC, dI) (m_ty cI cJ cC) (m_W ad cI cJ cC) (zAW m_n ad s.heap.size) Q) args s 0 0 (zAW m_n ad s.heap.size)) (F0 m 100 ls []) := by
  intro f
  induction f with
  | zero => intro x1 x3 x4 σ H locs ls h; exact h.elim
  | succ f ih =>
    intro x1 x3 x4 σ H locs ls h hP hD hS hl
    exact tb_X12_looks_100 C0 hK N  (k_100 := w_X12_looks_100 N  Q f) ih x1 x3 x4 σ H locs ls h hP hD hS hl
set_option maxHeartbeats 4000000 in
set_option maxRecDepth 100000 in
theorem tb_X12_looks_36 (C0 : zCx p s m meth c args RX12 cX12_looks 10 none vs_X12_looks) (hK : va_K (dC, dI) vwCl (m_ty cI cJ cC) s) (N : Nat) {Q : zSt → Prop} {k_13 : Int64 → Int32 → Int32 → zSt → Prop} (hk_13 : ∀ (x1 : Int64) (x3 : Int32) (x4 : Int32) (σ : zSt) (H : Heap) (locs : List Loc) (ls : Array Slot), k_13 x1 x3 x4 σ → va_P (dC, dI) vwCl (m_W ad cI cJ cC σ) H → va_D (zAW m_n ad s.heap.size) (m_W ad cI cJ cC σ) → va_S (zAW m_n ad s.heap.size) s.heap H locs → lv_has ls 10 [(0, .ref (ad 0)), (1, .long x1), (3, .int x3), (4, .int x4)] → W p l e rm_X12_looks s m args below meth c H locs 0 0 (MQ below (zQv (dC, dI) (m_ty cI cJ cC) (m_W ad cI cJ cC) (zAW m_n ad s.heap.size) Q) args s 0 0 (zAW m_n ad s.heap.size)) (F0 m 13 ls [])) {k_36 : Int64 → Int32 → Int32 → Int32 → zSt → Prop} (hk_36 : ∀ (x1 : Int64) (x3 : Int32) (x4 : Int32) (x5 : Int32) (σ : zSt) (H : Heap) (locs : List Loc) (ls : Array Slot), k_36 x1 x3 x4 x5 σ → va_P (dC, dI) vwCl (m_W ad cI cJ cC σ) H → va_D (zAW m_n ad s.heap.size) (m_W ad cI cJ cC σ) → va_S (zAW m_n ad s.heap.size) s.heap H locs → lv_has ls 10 [(0, .ref (ad 0)), (1, .long x1), (3, .int x3), (4, .int x4), (5, .int x5)] → W p l e rm_X12_looks s m args below meth c H locs 0 0 (MQ below (zQv (dC, dI) (m_ty cI cJ cC) (m_W ad cI cJ cC) (zAW m_n ad s.heap.size) Q) args s 0 0 (zAW m_n ad s.heap.size)) (F0 m 36 ls [])) : ∀ (x1 : Int64) (x3 : Int32) (x4 : Int32) (x5 : Int32) (σ : zSt) (H : Heap) (locs : List Loc) (ls : Array Slot), b_X12_looks_36 N k_13 k_36 Q x1 x3 x4 x5 σ → va_P (dC, dI) vwCl (m_W ad cI cJ cC σ) H → va_D (zAW m_n ad s.heap.size) (m_W ad cI cJ cC σ) → va_S (zAW m_n ad s.heap.size) s.heap H locs → lv_has ls 10 [(0, .ref (ad 0)), (1, .long x1), (3, .int x3), (4, .int x4), (5, .int x5)] → W p l e rm_X12_looks s m args below meth c H locs 0 0 (MQ below (zQv (dC, dI) (m_ty cI cJ cC) (m_W ad cI cJ cC) (zAW m_n ad s.heap.size) Q) args s 0 0 (zAW m_n ad s.heap.size)) (F0 m 36 ls []) := by
  obtain ⟨hx, hb, hml, hr, hown, hts, hlocks⟩ := id C0
  intro x1 x3 x4 x5 σ H locs ls h hP hD hS hl
  unfold b_X12_looks_36 at h
  refine lv_iload hx hb dX12_looks_36 (lv_at hl 4 rfl) ?_
  refine lv_iload_n hx hb dX12_looks_38 rfl (lv_at hl 2 rfl) ?_
  refine lv_icmp_ge (tgt := 91) hx hb dX12_looks_39 (by decide) (fun hc => ?_) (fun hc => ?_)
  · have h := h.1 hc
    obtain ⟨v1, ev1⟩ : ∃ z : Int32, z = x4 + (1 : Int32) := ⟨_, rfl⟩
    have h := h v1 ev1
    refine lv_iinc (v := v1) (lv' := [(4, .int v1), (0, .ref (ad 0)), (1, .long x1), (3, .int x3), (5, .int x5)]) hx hb dX12_looks_91 hl (k := 3) rfl (by rw [ev1]; rfl) (by decide) rfl (fun ls hl => ?_)
    refine lv_goto (tgt := 13) hx hb dX12_looks_94 (by decide) ?_
    exact hk_13 x1 x3 v1 σ _ _ _ h hP hD hS (lv_sub hl [1, 2, 3, 0] rfl)
  · have h := h.2 hc
    refine lv_aload_n hx hb dX12_looks_42 rfl (lv_at hl 0 rfl) ?_
    refine mg_0_50 hx hb hts hown hK hP mw_883 dX12_looks_43 ?_
    refine lv_bipush (v := (10 : Int32)) hx hb dX12_looks_46 (by decide) ?_
    refine lv_iload hx hb dX12_looks_48 (lv_at hl 3 rfl) ?_
    refine lv_imul hx hb dX12_looks_50 ?_
    refine lv_iload hx hb dX12_looks_51 (lv_at hl 4 rfl) ?_
    refine lv_iadd hx hb dX12_looks_53 ?_
    refine lv_iload hx hb dX12_looks_54 (lv_at hl 3 rfl) ?_
    refine lv_iload hx hb dX12_looks_56 (lv_at hl 4 rfl) ?_
    refine lv_icmp_ne (tgt := 65) hx hb dX12_looks_58 (by decide) (fun hc => ?_) (fun hc => ?_)
    · have h := h.2 hc
      refine lv_lload_n hx hb dX12_looks_65 rfl (lv_at hl 1 rfl) ?_
      refine lv_iload hx hb dX12_looks_66 (lv_at hl 3 rfl) ?_
      refine lv_iload hx hb dX12_looks_68 (lv_at hl 4 rfl) ?_
      refine k_X12_pairOf N ⟨hx, hb, hml, hown, hts⟩ mw_1030 ⟨Nat.le_of_ble_eq_true rfl, Nat.le_of_ble_eq_true rfl⟩ h hK hP hD hS hl.1 (rest := [.long x1, .int (((10 : Int32) * x4) + x5), .ref (ad 15)]) (Nat.le_of_ble_eq_true rfl) ⟨Nat.le_of_ble_eq_true rfl, Nat.le_of_ble_eq_true rfl⟩ dX12_looks_70 (fun r2 τ3 H locs h hP hD hS => ?_)
      refine k_X12_isTied N ⟨hx, hb, hml, hown, hts⟩ mw_1071 ⟨Nat.le_of_ble_eq_true rfl, Nat.le_of_ble_eq_true rfl⟩ h hK hP hD hS hl.1 (rest := [.int (((10 : Int32) * x4) + x5), .ref (ad 15)]) (Nat.le_of_ble_eq_true rfl) ⟨Nat.le_of_ble_eq_true rfl, Nat.le_of_ble_eq_true rfl⟩ dX12_looks_73 (fun r4 τ5 H locs h hP hD hS => ?_)
      refine lv_if_eq (tgt := 83) hx hb dX12_looks_76 (by decide) (fun hc => ?_) (fun hc => ?_)
      · have h := h.1 hc
        refine lv_iconst (v := (-1 : Int32)) hx hb dX12_looks_83 (by decide) ?_
        refine ms_15 hx hb hK hP hD hS h.1 rfl dX12_looks_84 (fun τ6 H locs eτ6 hP hD hS => ?_)
        have h := h.2
        have h := h τ6 eτ6
        obtain ⟨v7, ev7⟩ : ∃ z : Int32, z = x5 + (1 : Int32) := ⟨_, rfl⟩
        have h := h v7 ev7
        refine lv_iinc (v := v7) (lv' := [(5, .int v7), (0, .ref (ad 0)), (1, .long x1), (3, .int x3), (4, .int x4)]) hx hb dX12_looks_85 hl (k := 4) rfl (by rw [ev7]; rfl) (by decide) rfl (fun ls hl => ?_)
        refine lv_goto (tgt := 36) hx hb dX12_looks_88 (by decide) ?_
        exact hk_36 x1 x3 x4 v7 τ6 _ _ _ h hP hD hS (lv_sub hl [1, 2, 3, 4, 0] rfl)
      · have h := h.2 hc
        refine lv_iconst (v := (1 : Int32)) hx hb dX12_looks_79 (by decide) ?_
        refine lv_goto (tgt := 84) hx hb dX12_looks_80 (by decide) ?_
        refine ms_15 hx hb hK hP hD hS h.1 rfl dX12_looks_84 (fun τ8 H locs eτ8 hP hD hS => ?_)
        have h := h.2
        have h := h τ8 eτ8
        obtain ⟨v9, ev9⟩ : ∃ z : Int32, z = x5 + (1 : Int32) := ⟨_, rfl⟩
        have h := h v9 ev9
        refine lv_iinc (v := v9) (lv' := [(5, .int v9), (0, .ref (ad 0)), (1, .long x1), (3, .int x3), (4, .int x4)]) hx hb dX12_looks_85 hl (k := 4) rfl (by rw [ev9]; rfl) (by decide) rfl (fun ls hl => ?_)
        refine lv_goto (tgt := 36) hx hb dX12_looks_88 (by decide) ?_
        exact hk_36 x1 x3 x4 v9 τ8 _ _ _ h hP hD hS (lv_sub hl [1, 2, 3, 4, 0] rfl)
    · have h := h.1 hc
      refine lv_iconst (v := (0 : Int32)) hx hb dX12_looks_61 (by decide) ?_
      refine lv_goto (tgt := 84) hx hb dX12_looks_62 (by decide) ?_
      refine ms_15 hx hb hK hP hD hS h.1 rfl dX12_looks_84 (fun τ10 H locs eτ10 hP hD hS => ?_)
      have h := h.2
      have h := h τ10 eτ10
      obtain ⟨v11, ev11⟩ : ∃ z : Int32, z = x5 + (1 : Int32) := ⟨_, rfl⟩
      have h := h v11 ev11
      refine lv_iinc (v := v11) (lv' := [(5, .int v11), (0, .ref (ad 0)), (1, .long x1), (3, .int x3), (4, .int x4)]) hx hb dX12_looks_85 hl (k := 4) rfl (by rw [ev11]; rfl) (by decide) rfl (fun ls hl => ?_)
      refine lv_goto (tgt := 36) hx hb dX12_looks_88 (by decide) ?_
      exact hk_36 x1 x3 x4 v11 τ10 _ _ _ h hP hD hS (lv_sub hl [1, 2, 3, 4, 0] rfl)
set_option maxHeartbeats 4000000 in
set_option maxRecDepth 100000 in
theorem t_X12_looks_36 (C0 : zCx p s m meth c args RX12 cX12_looks 10 none vs_X12_looks) (hK : va_K (dC, dI) vwCl (m_ty cI cJ cC) s) (N : Nat) {Q : zSt → Prop} {k_13 : Int64 → Int32 → Int32 → zSt → Prop} (hk_13 : ∀ (x1 : Int64) (x3 : Int32) (x4 : Int32) (σ : zSt) (H : Heap) (locs : List Loc) (ls : Array Slot), k_13 x1 x3 x4 σ → va_P (dC, dI) vwCl (m_W ad cI cJ cC σ) H → va_D (zAW m_n ad s.heap.size) (m_W ad cI cJ cC σ) → va_S (zAW m_n ad s.heap.size) s.heap H locs → lv_has ls 10 [(0, .ref (ad 0)), (1, .long x1), (3, .int x3), (4, .int x4)] → W p l e rm_X12_looks s m args below meth c H locs 0 0 (MQ below (zQv (dC, dI) (m_ty cI cJ cC) (m_W ad cI cJ cC) (zAW m_n ad s.heap.size) Q) args s 0 0 (zAW m_n ad s.heap.size)) (F0 m 13 ls [])) : ∀ (f : Nat) (x1 : Int64) (x3 : Int32) (x4 : Int32) (x5 : Int32) (σ : zSt) (H : Heap) (locs : List Loc) (ls : Array Slot), w_X12_looks_36 N k_13 Q f x1 x3 x4 x5 σ → va_P (dC, dI) vwCl (m_W ad cI cJ cC σ) H → va_D (zAW m_n ad s.heap.size) (m_W ad cI cJ cC σ) → va_S (zAW m_n ad s.heap.size) s.heap H locs → lv_has ls 10 [(0, .ref (ad 0)), (1, .long x1), (3, .int x3), (4, .int x4), (5, .int x5)] → W p l e rm_X12_looks s m args below meth c H locs 0 0 (MQ below (zQv (dC, dI) (m_ty cI cJ cC) (m_W ad cI cJ cC) (zAW m_n ad s.heap.size) Q) args s 0 0 (zAW m_n ad s.heap.size)) (F0 m 36 ls []) := by
  intro f
  induction f with
  | zero => intro x1 x3 x4 x5 σ H locs ls h; exact h.elim
  | succ f ih =>
    intro x1 x3 x4 x5 σ H locs ls h hP hD hS hl
    exact tb_X12_looks_36 C0 hK N hk_13 (k_36 := w_X12_looks_36 N k_13 Q f) ih x1 x3 x4 x5 σ H locs ls h hP hD hS hl
set_option maxHeartbeats 4000000 in
set_option maxRecDepth 100000 in
theorem tb_X12_looks_13 (C0 : zCx p s m meth c args RX12 cX12_looks 10 none vs_X12_looks) (hK : va_K (dC, dI) vwCl (m_ty cI cJ cC) s) (N : Nat) {Q : zSt → Prop} {k_13 : Int64 → Int32 → Int32 → zSt → Prop} (hk_13 : ∀ (x1 : Int64) (x3 : Int32) (x4 : Int32) (σ : zSt) (H : Heap) (locs : List Loc) (ls : Array Slot), k_13 x1 x3 x4 σ → va_P (dC, dI) vwCl (m_W ad cI cJ cC σ) H → va_D (zAW m_n ad s.heap.size) (m_W ad cI cJ cC σ) → va_S (zAW m_n ad s.heap.size) s.heap H locs → lv_has ls 10 [(0, .ref (ad 0)), (1, .long x1), (3, .int x3), (4, .int x4)] → W p l e rm_X12_looks s m args below meth c H locs 0 0 (MQ below (zQv (dC, dI) (m_ty cI cJ cC) (m_W ad cI cJ cC) (zAW m_n ad s.heap.size) Q) args s 0 0 (zAW m_n ad s.heap.size)) (F0 m 13 ls [])) : ∀ (x1 : Int64) (x3 : Int32) (x4 : Int32) (σ : zSt) (H : Heap) (locs : List Loc) (ls : Array Slot), b_X12_looks_13 N k_13 Q x1 x3 x4 σ → va_P (dC, dI) vwCl (m_W ad cI cJ cC σ) H → va_D (zAW m_n ad s.heap.size) (m_W ad cI cJ cC σ) → va_S (zAW m_n ad s.heap.size) s.heap H locs → lv_has ls 10 [(0, .ref (ad 0)), (1, .long x1), (3, .int x3), (4, .int x4)] → W p l e rm_X12_looks s m args below meth c H locs 0 0 (MQ below (zQv (dC, dI) (m_ty cI cJ cC) (m_W ad cI cJ cC) (zAW m_n ad s.heap.size) Q) args s 0 0 (zAW m_n ad s.heap.size)) (F0 m 13 ls []) := by
  obtain ⟨hx, hb, hml, hr, hown, hts, hlocks⟩ := id C0
  intro x1 x3 x4 σ H locs ls h hP hD hS hl
  unfold b_X12_looks_13 at h
  refine lv_iload hx hb dX12_looks_13 (lv_at hl 3 rfl) ?_
  refine lv_iload_n hx hb dX12_looks_15 rfl (lv_at hl 2 rfl) ?_
  refine lv_icmp_ge (tgt := 97) hx hb dX12_looks_16 (by decide) (fun hc => ?_) (fun hc => ?_)
  · have h := h.1 hc
    refine lv_iconst (v := (0 : Int32)) hx hb dX12_looks_97 (by decide) ?_
    refine lv_istore (lv' := [(4, .int (0 : Int32)), (0, .ref (ad 0)), (1, .long x1), (3, .int x3)]) hx hb dX12_looks_98 hl (by decide) rfl (fun ls hl => ?_)
    exact t_X12_looks_100 C0 hK N  N x1 x3 (0 : Int32) σ _ _ _ h hP hD hS (lv_sub hl [1, 2, 3, 0] rfl)
  · have h := h.2 hc
    refine lv_aload_n hx hb dX12_looks_19 rfl (lv_at hl 0 rfl) ?_
    refine mg_0_51 hx hb hts hown hK hP mw_884 dX12_looks_20 ?_
    refine lv_iload hx hb dX12_looks_23 (lv_at hl 3 rfl) ?_
    refine lv_aload_n hx hb dX12_looks_25 rfl (lv_at hl 0 rfl) ?_
    refine lv_lload_n hx hb dX12_looks_26 rfl (lv_at hl 1 rfl) ?_
    refine lv_iload hx hb dX12_looks_27 (lv_at hl 3 rfl) ?_
    refine k_X12_tiesOf N ⟨hx, hb, hml, hown, hts⟩ mw_1068 ⟨Nat.le_of_ble_eq_true rfl, Nat.le_of_ble_eq_true rfl⟩ h hK hP hD hS hl.1 (rest := [.int x4, .ref (ad 16)]) (Nat.le_of_ble_eq_true rfl) ⟨Nat.le_of_ble_eq_true rfl, Nat.le_of_ble_eq_true rfl⟩ dX12_looks_29 (fun r1 τ2 H locs h hP hD hS => ?_)
    refine ms_16 hx hb hK hP hD hS h.1 rfl dX12_looks_32 (fun τ3 H locs eτ3 hP hD hS => ?_)
    have h := h.2
    have h := h τ3 eτ3
    refine lv_iconst (v := (0 : Int32)) hx hb dX12_looks_33 (by decide) ?_
    refine lv_istore (lv' := [(5, .int (0 : Int32)), (0, .ref (ad 0)), (1, .long x1), (3, .int x3), (4, .int x4)]) hx hb dX12_looks_34 hl (by decide) rfl (fun ls hl => ?_)
    exact t_X12_looks_36 C0 hK N hk_13 N x1 x3 x4 (0 : Int32) τ3 _ _ _ h hP hD hS (lv_sub hl [1, 2, 3, 4, 0] rfl)
set_option maxHeartbeats 4000000 in
set_option maxRecDepth 100000 in
theorem t_X12_looks_13 (C0 : zCx p s m meth c args RX12 cX12_looks 10 none vs_X12_looks) (hK : va_K (dC, dI) vwCl (m_ty cI cJ cC) s) (N : Nat) {Q : zSt → Prop} : ∀ (f : Nat) (x1 : Int64) (x3 : Int32) (x4 : Int32) (σ : zSt) (H : Heap) (locs : List Loc) (ls : Array Slot), w_X12_looks_13 N  Q f x1 x3 x4 σ → va_P (dC, dI) vwCl (m_W ad cI cJ cC σ) H → va_D (zAW m_n ad s.heap.size) (m_W ad cI cJ cC σ) → va_S (zAW m_n ad s.heap.size) s.heap H locs → lv_has ls 10 [(0, .ref (ad 0)), (1, .long x1), (3, .int x3), (4, .int x4)] → W p l e rm_X12_looks s m args below meth c H locs 0 0 (MQ below (zQv (dC, dI) (m_ty cI cJ cC) (m_W ad cI cJ cC) (zAW m_n ad s.heap.size) Q) args s 0 0 (zAW m_n ad s.heap.size)) (F0 m 13 ls []) := by
  intro f
  induction f with
  | zero => intro x1 x3 x4 σ H locs ls h; exact h.elim
  | succ f ih =>
    intro x1 x3 x4 σ H locs ls h hP hD hS hl
    exact tb_X12_looks_13 C0 hK N  (k_13 := w_X12_looks_13 N  Q f) ih x1 x3 x4 σ H locs ls h hP hD hS hl
set_option maxHeartbeats 4000000 in
set_option maxRecDepth 100000 in
theorem t_X12_looks_0 (C0 : zCx p s m meth c args RX12 cX12_looks 10 none vs_X12_looks) (hK : va_K (dC, dI) vwCl (m_ty cI cJ cC) s) (N : Nat) {Q : zSt → Prop} : ∀ (x1 : Int64) (σ : zSt) (H : Heap) (locs : List Loc) (ls : Array Slot), w_X12_looks N x1 σ Q → va_P (dC, dI) vwCl (m_W ad cI cJ cC σ) H → va_D (zAW m_n ad s.heap.size) (m_W ad cI cJ cC σ) → va_S (zAW m_n ad s.heap.size) s.heap H locs → lv_has ls 10 [(0, .ref (ad 0)), (1, .long x1)] → W p l e rm_X12_looks s m args below meth c H locs 0 0 (MQ below (zQv (dC, dI) (m_ty cI cJ cC) (m_W ad cI cJ cC) (zAW m_n ad s.heap.size) Q) args s 0 0 (zAW m_n ad s.heap.size)) (F0 m 0 ls []) := by
  obtain ⟨hx, hb, hml, hr, hown, hts, hlocks⟩ := id C0
  intro x1 σ H locs ls h hP hD hS hl
  unfold w_X12_looks at h
  refine lv_aload_n hx hb dX12_looks_0 rfl (lv_at hl 0 rfl) ?_
  refine k_X12_many N ⟨hx, hb, hml, hown, hts⟩ mw_1044 ⟨Nat.le_of_ble_eq_true rfl, Nat.le_of_ble_eq_true rfl⟩ h hK hP hD hS hl.1 (rest := []) (Nat.le_of_ble_eq_true rfl) ⟨Nat.le_of_ble_eq_true rfl, Nat.le_of_ble_eq_true rfl⟩ dX12_looks_1 (fun r1 τ2 H locs h hP hD hS => ?_)
  refine lv_istore_n (lv' := [(3, .int r1), (0, .ref (ad 0)), (1, .long x1)]) hx hb dX12_looks_4 rfl hl (by decide) rfl (fun ls hl => ?_)
  refine lv_aload_n hx hb dX12_looks_5 rfl (lv_at hl 1 rfl) ?_
  refine lv_lload_n hx hb dX12_looks_6 rfl (lv_at hl 2 rfl) ?_
  refine mp_0_49 hx hb hts hown hK hP hD hS mw_882 dX12_looks_7 (fun τ3 H locs eτ3 hP hD hS => ?_)
  have h := h τ3 eτ3
  refine lv_iconst (v := (0 : Int32)) hx hb dX12_looks_10 (by decide) ?_
  refine lv_istore (lv' := [(4, .int (0 : Int32)), (3, .int r1), (0, .ref (ad 0)), (1, .long x1)]) hx hb dX12_looks_11 hl (by decide) rfl (fun ls hl => ?_)
  exact t_X12_looks_13 C0 hK N  N x1 r1 (0 : Int32) τ3 _ _ _ h hP hD hS (lv_sub hl [2, 3, 1, 0] rfl)
set_option maxHeartbeats 4000000 in
set_option maxRecDepth 100000 in
theorem c_X12_looks (N : Nat) (l : Launch) (dC : Nat → ClassId) (dI : Nat → Nat → Nat) (ad : Nat → Nat) (cI cJ cC : ClassId) (sz : Nat) (σ : zSt) (x1 : Int64) (Q : zSt → Prop) (h : w_X12_looks N x1 σ Q) : Met l yX12_looks vs_X12_looks rm_X12_looks (va_Pc [.ref (ad 0), .long x1] (zPc (dC, dI) (m_ty cI cJ cC) (m_W ad cI cJ cC) sz σ)) (zQv (dC, dI) (m_ty cI cJ cC) (m_W ad cI cJ cC) (zAW m_n ad sz) Q) 0 0 (zAW m_n ad sz) := by
  refine Met.ofW (cc := cX12_looks) (maxL := 10) (ret := none) (by decide) rfl ?_
  intro p e s m args below meth c s₁ B hml hv
  obtain ⟨rfl, hsz, hP, hK, hD0⟩ := hv
  subst hsz
  have C0 : zCx p s m meth c _ RX12 cX12_looks 10 none vs_X12_looks := ⟨B.exec, B.bytes, hml, B.returns, findClass_of_methodNamed B.named, atoms_spec (ws := vs_X12_looks) B.pre, B.notSynchronized⟩
  have hD := m_D0 (n0 := s.heap.size) hD0
  have hl := lv_entry ([.ref (ad 0), .long x1]) (n := 10) (Nat.le_of_ble_eq_true rfl)
  rw [lg_entry_eq]
  generalize (lg_sl ([.ref (ad 0), .long x1]) ++ List.replicate (10 - (lg_sl ([.ref (ad 0), .long x1])).length) Slot.unset).toArray = ls at hl ⊢
  exact t_X12_looks_0 C0 hK N x1 σ _ _ ls h hP hD va_S.rf hl
theorem k_X12_looks (N : Nat) {R : Room} {H : Heap} {locs : List Loc} {cells slots : Nat} {Q2 : State → Prop} {cc : ByteArray} {nL pc index : Nat} {ls : Array Slot} {rest : List Value} {own : String} {c0 : Cond} {σ : zSt} {x1 : Int64} {Q : zSt → Prop} (S0 : CallFix p m c cc nL s args (c0 :: zT) own) (hml : Cond.methodLink own index yX12_looks ∈ zT) (hR : rm_X12_looks.frames + 1 ≤ R.frames ∧ 8 + (10 + 11) + rm_X12_looks.locals ≤ R.locals) (h : w_X12_looks N x1 σ Q) (hK : va_K (dC, dI) vwCl (m_ty cI cJ cC) s) (hP : va_P (dC, dI) vwCl (m_W ad cI cJ cC σ) H) (hD : va_D (zAW m_n ad s.heap.size) (m_W ad cI cJ cC σ)) (hS : va_S (zAW m_n ad s.heap.size) s.heap H locs) (hsz : ls.size = nL) (hW : (rest.map fun v => v.category).sum ≤ 8) (hcs : cells ≤ R.cells ∧ slots ≤ R.slots) (hdg : decode cc pc = .ok (.invokevirtual index, 3)) (kk : ∀ (τ : zSt) (H1 : Heap) (locs1 : List Loc), Q τ → va_P (dC, dI) vwCl (m_W ad cI cJ cC τ) H1 → va_D (zAW m_n ad s.heap.size) (m_W ad cI cJ cC τ) → va_S (zAW m_n ad s.heap.size) s.heap H1 locs1 → W p l e R s m args below meth c H1 locs1 cells slots Q2 (F0 m (pc + 3) ls (rest))) : W p l e R s m args below meth c H locs cells slots Q2 (F0 m pc ls (.long x1 :: .ref (ad 0) :: rest)) :=
  zcv_v (T := TX12) (N' := 83) (k := 0) (ci := 12) (fs := m_f0 ad σ) [.long x1] S0 (c_X12_looks N l dC dI ad cI cJ cC H.size σ x1 Q h) (cw_X12_looks S0.2.2.2.2 hml rfl rfl hR) rfl rfl hK hP hD hS rfl hsz hW rfl hcs hdg kk
end q21
section q21
def b_X12_fillsTable_25 (N : Nat) (k_7 : Int32 → zSt → Prop) (k_25 : Int32 → Int32 → zSt → Prop) (Q : zSt → Prop) (x1 : Int32) (x2 : Int32) (σ : zSt) : Prop :=
  w_X12_many N σ (fun r1 τ2 => (r1 ≤ x2 → ∀ v3 : Int32, v3 = x1 + (1 : Int32) → k_7 v3 τ2) ∧ (¬ r1 ≤ x2 → w_X12_worthTo N x2 τ2 (fun r4 τ5 => (vp_in (((5 : Int32) * x1) + x2) 5120) ∧ (∀ τ6 : zSt, τ6 = zB τ5 3 (vp_updL (τ5.2.2.2 3) ((((5 : Int32) * x1) + x2).toNatClampNeg) r4) → ∀ v7 : Int32, v7 = x2 + (1 : Int32) → k_25 x1 v7 τ6))))
def w_X12_fillsTable_25 (N : Nat) (k_7 : Int32 → zSt → Prop) (Q : zSt → Prop) : Nat → Int32 → Int32 → zSt → Prop
  | 0 => fun _ _ _ => False
  | f + 1 => b_X12_fillsTable_25 N k_7 (w_X12_fillsTable_25 N k_7 Q f) Q
def b_X12_fillsTable_7 (N : Nat) (k_7 : Int32 → zSt → Prop) (Q : zSt → Prop) (x1 : Int32) (σ : zSt) : Prop :=
  w_X12_pairs N σ (fun r1 τ2 => (((1 : Int32) <<< (r1 &&& 31)) ≤ x1 → Q τ2) ∧ (¬ ((1 : Int32) <<< (r1 &&& 31)) ≤ x1 → w_X12_looks N x1.toInt64 τ2 (fun τ4 => w_X12_fillsTable_25 N k_7 Q N x1 (0 : Int32) τ4)))
def w_X12_fillsTable_7 (N : Nat) (Q : zSt → Prop) : Nat → Int32 → zSt → Prop
  | 0 => fun _ _ => False
  | f + 1 => b_X12_fillsTable_7 N (w_X12_fillsTable_7 N  Q f) Q
def w_X12_fillsTable (N : Nat)  (σ : zSt) (Q : zSt → Prop) : Prop :=
  ∀ τ1 : zSt, τ1 = zI σ 19 (1 : Int32) → w_X12_fillsTable_7 N Q N (0 : Int32) τ1
variable {p : Program} {l : Launch} {e : Env} {s : State} {m : MethodId} {args : Array Value} {below : List Frame} {meth : Method} {c : Code} {dC : Nat → ClassId} {dI : Nat → Nat → Nat} {ad : Nat → Nat} {cI cJ cC : ClassId}
set_option maxHeartbeats 4000000 in
set_option maxRecDepth 100000 in
theorem tb_X12_fillsTable_25 (C0 : zCx p s m meth c args RX12 cX12_fillsTable 3 none vs_X12_fillsTable) (hK : va_K (dC, dI) vwCl (m_ty cI cJ cC) s) (N : Nat) {Q : zSt → Prop} {k_7 : Int32 → zSt → Prop} (hk_7 : ∀ (x1 : Int32) (σ : zSt) (H : Heap) (locs : List Loc) (ls : Array Slot), k_7 x1 σ → va_P (dC, dI) vwCl (m_W ad cI cJ cC σ) H → va_D (zAW m_n ad s.heap.size) (m_W ad cI cJ cC σ) → va_S (zAW m_n ad s.heap.size) s.heap H locs → lv_has ls 3 [(0, .ref (ad 0)), (1, .int x1)] → W p l e rm_X12_fillsTable s m args below meth c H locs 0 0 (MQ below (zQv (dC, dI) (m_ty cI cJ cC) (m_W ad cI cJ cC) (zAW m_n ad s.heap.size) Q) args s 0 0 (zAW m_n ad s.heap.size)) (F0 m 7 ls [])) {k_25 : Int32 → Int32 → zSt → Prop} (hk_25 : ∀ (x1 : Int32) (x2 : Int32) (σ : zSt) (H : Heap) (locs : List Loc) (ls : Array Slot), k_25 x1 x2 σ → va_P (dC, dI) vwCl (m_W ad cI cJ cC σ) H → va_D (zAW m_n ad s.heap.size) (m_W ad cI cJ cC σ) → va_S (zAW m_n ad s.heap.size) s.heap H locs → lv_has ls 3 [(0, .ref (ad 0)), (1, .int x1), (2, .int x2)] → W p l e rm_X12_fillsTable s m args below meth c H locs 0 0 (MQ below (zQv (dC, dI) (m_ty cI cJ cC) (m_W ad cI cJ cC) (zAW m_n ad s.heap.size) Q) args s 0 0 (zAW m_n ad s.heap.size)) (F0 m 25 ls [])) : ∀ (x1 : Int32) (x2 : Int32) (σ : zSt) (H : Heap) (locs : List Loc) (ls : Array Slot), b_X12_fillsTable_25 N k_7 k_25 Q x1 x2 σ → va_P (dC, dI) vwCl (m_W ad cI cJ cC σ) H → va_D (zAW m_n ad s.heap.size) (m_W ad cI cJ cC σ) → va_S (zAW m_n ad s.heap.size) s.heap H locs → lv_has ls 3 [(0, .ref (ad 0)), (1, .int x1), (2, .int x2)] → W p l e rm_X12_fillsTable s m args below meth c H locs 0 0 (MQ below (zQv (dC, dI) (m_ty cI cJ cC) (m_W ad cI cJ cC) (zAW m_n ad s.heap.size) Q) args s 0 0 (zAW m_n ad s.heap.size)) (F0 m 25 ls []) := by
  obtain ⟨hx, hb, hml, hr, hown, hts, hlocks⟩ := id C0
  intro x1 x2 σ H locs ls h hP hD hS hl
  unfold b_X12_fillsTable_25 at h
  refine lv_iload_n hx hb dX12_fillsTable_25 rfl (lv_at hl 2 rfl) ?_
  refine lv_aload_n hx hb dX12_fillsTable_26 rfl (lv_at hl 0 rfl) ?_
  refine k_X12_many N ⟨hx, hb, hml, hown, hts⟩ mw_1044 ⟨Nat.le_of_ble_eq_true rfl, Nat.le_of_ble_eq_true rfl⟩ h hK hP hD hS hl.1 (rest := [.int x2]) (Nat.le_of_ble_eq_true rfl) ⟨Nat.le_of_ble_eq_true rfl, Nat.le_of_ble_eq_true rfl⟩ dX12_fillsTable_27 (fun r1 τ2 H locs h hP hD hS => ?_)
  refine lv_icmp_ge (tgt := 54) hx hb dX12_fillsTable_30 (by decide) (fun hc => ?_) (fun hc => ?_)
  · have h := h.1 hc
    obtain ⟨v3, ev3⟩ : ∃ z : Int32, z = x1 + (1 : Int32) := ⟨_, rfl⟩
    have h := h v3 ev3
    refine lv_iinc (v := v3) (lv' := [(1, .int v3), (0, .ref (ad 0)), (2, .int x2)]) hx hb dX12_fillsTable_54 hl (k := 1) rfl (by rw [ev3]; rfl) (by decide) rfl (fun ls hl => ?_)
    refine lv_goto (tgt := 7) hx hb dX12_fillsTable_57 (by decide) ?_
    exact hk_7 v3 τ2 _ _ _ h hP hD hS (lv_sub hl [1, 0] rfl)
  · have h := h.2 hc
    refine lv_aload_n hx hb dX12_fillsTable_33 rfl (lv_at hl 0 rfl) ?_
    refine mg_0_58 hx hb hts hown hK hP mw_891 dX12_fillsTable_34 ?_
    refine lv_iconst (v := (5 : Int32)) hx hb dX12_fillsTable_37 (by decide) ?_
    refine lv_iload_n hx hb dX12_fillsTable_38 rfl (lv_at hl 1 rfl) ?_
    refine lv_imul hx hb dX12_fillsTable_39 ?_
    refine lv_iload_n hx hb dX12_fillsTable_40 rfl (lv_at hl 2 rfl) ?_
    refine lv_iadd hx hb dX12_fillsTable_41 ?_
    refine lv_aload_n hx hb dX12_fillsTable_42 rfl (lv_at hl 0 rfl) ?_
    refine lv_iload_n hx hb dX12_fillsTable_43 rfl (lv_at hl 2 rfl) ?_
    refine k_X12_worthTo N ⟨hx, hb, hml, hown, hts⟩ mw_1113 ⟨Nat.le_of_ble_eq_true rfl, Nat.le_of_ble_eq_true rfl⟩ h hK hP hD hS hl.1 (rest := [.int (((5 : Int32) * x1) + x2), .ref (ad 18)]) (Nat.le_of_ble_eq_true rfl) ⟨Nat.le_of_ble_eq_true rfl, Nat.le_of_ble_eq_true rfl⟩ dX12_fillsTable_44 (fun r4 τ5 H locs h hP hD hS => ?_)
    refine ms_18 hx hb hK hP hD hS h.1 rfl dX12_fillsTable_47 (fun τ6 H locs eτ6 hP hD hS => ?_)
    have h := h.2
    have h := h τ6 eτ6
    obtain ⟨v7, ev7⟩ : ∃ z : Int32, z = x2 + (1 : Int32) := ⟨_, rfl⟩
    have h := h v7 ev7
    refine lv_iinc (v := v7) (lv' := [(2, .int v7), (0, .ref (ad 0)), (1, .int x1)]) hx hb dX12_fillsTable_48 hl (k := 2) rfl (by rw [ev7]; rfl) (by decide) rfl (fun ls hl => ?_)
    refine lv_goto (tgt := 25) hx hb dX12_fillsTable_51 (by decide) ?_
    exact hk_25 x1 v7 τ6 _ _ _ h hP hD hS (lv_sub hl [1, 2, 0] rfl)
set_option maxHeartbeats 4000000 in
set_option maxRecDepth 100000 in
theorem t_X12_fillsTable_25 (C0 : zCx p s m meth c args RX12 cX12_fillsTable 3 none vs_X12_fillsTable) (hK : va_K (dC, dI) vwCl (m_ty cI cJ cC) s) (N : Nat) {Q : zSt → Prop} {k_7 : Int32 → zSt → Prop} (hk_7 : ∀ (x1 : Int32) (σ : zSt) (H : Heap) (locs : List Loc) (ls : Array Slot), k_7 x1 σ → va_P (dC, dI) vwCl (m_W ad cI cJ cC σ) H → va_D (zAW m_n ad s.heap.size) (m_W ad cI cJ cC σ) → va_S (zAW m_n ad s.heap.size) s.heap H locs → lv_has ls 3 [(0, .ref (ad 0)), (1, .int x1)] → W p l e rm_X12_fillsTable s m args below meth c H locs 0 0 (MQ below (zQv (dC, dI) (m_ty cI cJ cC) (m_W ad cI cJ cC) (zAW m_n ad s.heap.size) Q) args s 0 0 (zAW m_n ad s.heap.size)) (F0 m 7 ls [])) : ∀ (f : Nat) (x1 : Int32) (x2 : Int32) (σ : zSt) (H : Heap) (locs : List Loc) (ls : Array Slot), w_X12_fillsTable_25 N k_7 Q f x1 x2 σ → va_P (dC, dI) vwCl (m_W ad cI cJ cC σ) H → va_D (zAW m_n ad s.heap.size) (m_W ad cI cJ cC σ) → va_S (zAW m_n ad s.heap.size) s.heap H locs → lv_has ls 3 [(0, .ref (ad 0)), (1, .int x1), (2, .int x2)] → W p l e rm_X12_fillsTable s m args below meth c H locs 0 0 (MQ below (zQv (dC, dI) (m_ty cI cJ cC) (m_W ad cI cJ cC) (zAW m_n ad s.heap.size) Q) args s 0 0 (zAW m_n ad s.heap.size)) (F0 m 25 ls []) := by
  intro f
  induction f with
  | zero => intro x1 x2 σ H locs ls h; exact h.elim
  | succ f ih =>
    intro x1 x2 σ H locs ls h hP hD hS hl
    exact tb_X12_fillsTable_25 C0 hK N hk_7 (k_25 := w_X12_fillsTable_25 N k_7 Q f) ih x1 x2 σ H locs ls h hP hD hS hl
set_option maxHeartbeats 4000000 in
set_option maxRecDepth 100000 in
theorem tb_X12_fillsTable_7 (C0 : zCx p s m meth c args RX12 cX12_fillsTable 3 none vs_X12_fillsTable) (hK : va_K (dC, dI) vwCl (m_ty cI cJ cC) s) (N : Nat) {Q : zSt → Prop} {k_7 : Int32 → zSt → Prop} (hk_7 : ∀ (x1 : Int32) (σ : zSt) (H : Heap) (locs : List Loc) (ls : Array Slot), k_7 x1 σ → va_P (dC, dI) vwCl (m_W ad cI cJ cC σ) H → va_D (zAW m_n ad s.heap.size) (m_W ad cI cJ cC σ) → va_S (zAW m_n ad s.heap.size) s.heap H locs → lv_has ls 3 [(0, .ref (ad 0)), (1, .int x1)] → W p l e rm_X12_fillsTable s m args below meth c H locs 0 0 (MQ below (zQv (dC, dI) (m_ty cI cJ cC) (m_W ad cI cJ cC) (zAW m_n ad s.heap.size) Q) args s 0 0 (zAW m_n ad s.heap.size)) (F0 m 7 ls [])) : ∀ (x1 : Int32) (σ : zSt) (H : Heap) (locs : List Loc) (ls : Array Slot), b_X12_fillsTable_7 N k_7 Q x1 σ → va_P (dC, dI) vwCl (m_W ad cI cJ cC σ) H → va_D (zAW m_n ad s.heap.size) (m_W ad cI cJ cC σ) → va_S (zAW m_n ad s.heap.size) s.heap H locs → lv_has ls 3 [(0, .ref (ad 0)), (1, .int x1)] → W p l e rm_X12_fillsTable s m args below meth c H locs 0 0 (MQ below (zQv (dC, dI) (m_ty cI cJ cC) (m_W ad cI cJ cC) (zAW m_n ad s.heap.size) Q) args s 0 0 (zAW m_n ad s.heap.size)) (F0 m 7 ls []) := by
  obtain ⟨hx, hb, hml, hr, hown, hts, hlocks⟩ := id C0
  intro x1 σ H locs ls h hP hD hS hl
  unfold b_X12_fillsTable_7 at h
  refine lv_iload_n hx hb dX12_fillsTable_7 rfl (lv_at hl 1 rfl) ?_
  refine lv_iconst (v := (1 : Int32)) hx hb dX12_fillsTable_8 (by decide) ?_
  refine lv_aload_n hx hb dX12_fillsTable_9 rfl (lv_at hl 0 rfl) ?_
  refine k_X12_pairs N ⟨hx, hb, hml, hown, hts⟩ mw_1047 ⟨Nat.le_of_ble_eq_true rfl, Nat.le_of_ble_eq_true rfl⟩ h hK hP hD hS hl.1 (rest := [.int (1 : Int32), .int x1]) (Nat.le_of_ble_eq_true rfl) ⟨Nat.le_of_ble_eq_true rfl, Nat.le_of_ble_eq_true rfl⟩ dX12_fillsTable_10 (fun r1 τ2 H locs h hP hD hS => ?_)
  refine lv_ishl hx hb dX12_fillsTable_13 ?_
  refine lv_icmp_ge (tgt := 60) hx hb dX12_fillsTable_14 (by decide) (fun hc => ?_) (fun hc => ?_)
  · have h := h.1 hc
    exact zret_v hx hb hr hlocks hK hP hD hS h dX12_fillsTable_60
  · have h := h.2 hc
    refine lv_aload_n hx hb dX12_fillsTable_17 rfl (lv_at hl 0 rfl) ?_
    refine lv_iload_n hx hb dX12_fillsTable_18 rfl (lv_at hl 1 rfl) ?_
    refine lv_i2l hx hb dX12_fillsTable_19 rfl ?_
    refine k_X12_looks N ⟨hx, hb, hml, hown, hts⟩ mw_1110 ⟨Nat.le_of_ble_eq_true rfl, Nat.le_of_ble_eq_true rfl⟩ h hK hP hD hS hl.1 (rest := []) (Nat.le_of_ble_eq_true rfl) ⟨Nat.le_of_ble_eq_true rfl, Nat.le_of_ble_eq_true rfl⟩ dX12_fillsTable_20 (fun τ4 H locs h hP hD hS => ?_)
    refine lv_iconst (v := (0 : Int32)) hx hb dX12_fillsTable_23 (by decide) ?_
    refine lv_istore_n (lv' := [(2, .int (0 : Int32)), (0, .ref (ad 0)), (1, .int x1)]) hx hb dX12_fillsTable_24 rfl hl (by decide) rfl (fun ls hl => ?_)
    exact t_X12_fillsTable_25 C0 hK N hk_7 N x1 (0 : Int32) τ4 _ _ _ h hP hD hS (lv_sub hl [1, 2, 0] rfl)
set_option maxHeartbeats 4000000 in
set_option maxRecDepth 100000 in
theorem t_X12_fillsTable_7 (C0 : zCx p s m meth c args RX12 cX12_fillsTable 3 none vs_X12_fillsTable) (hK : va_K (dC, dI) vwCl (m_ty cI cJ cC) s) (N : Nat) {Q : zSt → Prop} : ∀ (f : Nat) (x1 : Int32) (σ : zSt) (H : Heap) (locs : List Loc) (ls : Array Slot), w_X12_fillsTable_7 N  Q f x1 σ → va_P (dC, dI) vwCl (m_W ad cI cJ cC σ) H → va_D (zAW m_n ad s.heap.size) (m_W ad cI cJ cC σ) → va_S (zAW m_n ad s.heap.size) s.heap H locs → lv_has ls 3 [(0, .ref (ad 0)), (1, .int x1)] → W p l e rm_X12_fillsTable s m args below meth c H locs 0 0 (MQ below (zQv (dC, dI) (m_ty cI cJ cC) (m_W ad cI cJ cC) (zAW m_n ad s.heap.size) Q) args s 0 0 (zAW m_n ad s.heap.size)) (F0 m 7 ls []) := by
  intro f
  induction f with
  | zero => intro x1 σ H locs ls h; exact h.elim
  | succ f ih =>
    intro x1 σ H locs ls h hP hD hS hl
    exact tb_X12_fillsTable_7 C0 hK N  (k_7 := w_X12_fillsTable_7 N  Q f) ih x1 σ H locs ls h hP hD hS hl
set_option maxHeartbeats 4000000 in
set_option maxRecDepth 100000 in
theorem t_X12_fillsTable_0 (C0 : zCx p s m meth c args RX12 cX12_fillsTable 3 none vs_X12_fillsTable) (hK : va_K (dC, dI) vwCl (m_ty cI cJ cC) s) (N : Nat) {Q : zSt → Prop} : ∀  (σ : zSt) (H : Heap) (locs : List Loc) (ls : Array Slot), w_X12_fillsTable N  σ Q → va_P (dC, dI) vwCl (m_W ad cI cJ cC σ) H → va_D (zAW m_n ad s.heap.size) (m_W ad cI cJ cC σ) → va_S (zAW m_n ad s.heap.size) s.heap H locs → lv_has ls 3 [(0, .ref (ad 0))] → W p l e rm_X12_fillsTable s m args below meth c H locs 0 0 (MQ below (zQv (dC, dI) (m_ty cI cJ cC) (m_W ad cI cJ cC) (zAW m_n ad s.heap.size) Q) args s 0 0 (zAW m_n ad s.heap.size)) (F0 m 0 ls []) := by
  obtain ⟨hx, hb, hml, hr, hown, hts, hlocks⟩ := id C0
  intro  σ H locs ls h hP hD hS hl
  unfold w_X12_fillsTable at h
  refine lv_aload_n hx hb dX12_fillsTable_0 rfl (lv_at hl 0 rfl) ?_
  refine lv_iconst (v := (1 : Int32)) hx hb dX12_fillsTable_1 (by decide) ?_
  refine mp_0_57 hx hb hts hown hK hP hD hS zb_1 mw_890 dX12_fillsTable_2 (fun τ1 H locs eτ1 hP hD hS => ?_)
  have h := h τ1 eτ1
  refine lv_iconst (v := (0 : Int32)) hx hb dX12_fillsTable_5 (by decide) ?_
  refine lv_istore_n (lv' := [(1, .int (0 : Int32)), (0, .ref (ad 0))]) hx hb dX12_fillsTable_6 rfl hl (by decide) rfl (fun ls hl => ?_)
  exact t_X12_fillsTable_7 C0 hK N  N (0 : Int32) τ1 _ _ _ h hP hD hS (lv_sub hl [1, 0] rfl)
set_option maxHeartbeats 4000000 in
set_option maxRecDepth 100000 in
theorem c_X12_fillsTable (N : Nat) (l : Launch) (dC : Nat → ClassId) (dI : Nat → Nat → Nat) (ad : Nat → Nat) (cI cJ cC : ClassId) (sz : Nat) (σ : zSt)  (Q : zSt → Prop) (h : w_X12_fillsTable N  σ Q) : Met l yX12_fillsTable vs_X12_fillsTable rm_X12_fillsTable (va_Pc [.ref (ad 0)] (zPc (dC, dI) (m_ty cI cJ cC) (m_W ad cI cJ cC) sz σ)) (zQv (dC, dI) (m_ty cI cJ cC) (m_W ad cI cJ cC) (zAW m_n ad sz) Q) 0 0 (zAW m_n ad sz) := by
  refine Met.ofW (cc := cX12_fillsTable) (maxL := 3) (ret := none) (by decide) rfl ?_
  intro p e s m args below meth c s₁ B hml hv
  obtain ⟨rfl, hsz, hP, hK, hD0⟩ := hv
  subst hsz
  have C0 : zCx p s m meth c _ RX12 cX12_fillsTable 3 none vs_X12_fillsTable := ⟨B.exec, B.bytes, hml, B.returns, findClass_of_methodNamed B.named, atoms_spec (ws := vs_X12_fillsTable) B.pre, B.notSynchronized⟩
  have hD := m_D0 (n0 := s.heap.size) hD0
  have hl := lv_entry ([.ref (ad 0)]) (n := 3) (Nat.le_of_ble_eq_true rfl)
  rw [lg_entry_eq]
  generalize (lg_sl ([.ref (ad 0)]) ++ List.replicate (3 - (lg_sl ([.ref (ad 0)])).length) Slot.unset).toArray = ls at hl ⊢
  exact t_X12_fillsTable_0 C0 hK N  σ _ _ ls h hP hD va_S.rf hl
theorem k_X12_fillsTable (N : Nat) {R : Room} {H : Heap} {locs : List Loc} {cells slots : Nat} {Q2 : State → Prop} {cc : ByteArray} {nL pc index : Nat} {ls : Array Slot} {rest : List Value} {own : String} {c0 : Cond} {σ : zSt}  {Q : zSt → Prop} (S0 : CallFix p m c cc nL s args (c0 :: zT) own) (hml : Cond.methodLink own index yX12_fillsTable ∈ zT) (hR : rm_X12_fillsTable.frames + 1 ≤ R.frames ∧ 8 + (3 + 11) + rm_X12_fillsTable.locals ≤ R.locals) (h : w_X12_fillsTable N  σ Q) (hK : va_K (dC, dI) vwCl (m_ty cI cJ cC) s) (hP : va_P (dC, dI) vwCl (m_W ad cI cJ cC σ) H) (hD : va_D (zAW m_n ad s.heap.size) (m_W ad cI cJ cC σ)) (hS : va_S (zAW m_n ad s.heap.size) s.heap H locs) (hsz : ls.size = nL) (hW : (rest.map fun v => v.category).sum ≤ 8) (hcs : cells ≤ R.cells ∧ slots ≤ R.slots) (hdg : decode cc pc = .ok (.invokevirtual index, 3)) (kk : ∀ (τ : zSt) (H1 : Heap) (locs1 : List Loc), Q τ → va_P (dC, dI) vwCl (m_W ad cI cJ cC τ) H1 → va_D (zAW m_n ad s.heap.size) (m_W ad cI cJ cC τ) → va_S (zAW m_n ad s.heap.size) s.heap H1 locs1 → W p l e R s m args below meth c H1 locs1 cells slots Q2 (F0 m (pc + 3) ls (rest))) : W p l e R s m args below meth c H locs cells slots Q2 (F0 m pc ls (.ref (ad 0) :: rest)) :=
  zcv_v (T := TX12) (N' := 83) (k := 0) (ci := 12) (fs := m_f0 ad σ) [] S0 (c_X12_fillsTable N l dC dI ad cI cJ cC H.size σ  Q h) (cw_X12_fillsTable S0.2.2.2.2 hml rfl rfl hR) rfl rfl hK hP hD hS rfl hsz hW rfl hcs hdg kk
end q21
section q21
def b_X12_worthOf_59 (N : Nat) (Q : Int64 → zSt → Prop) (x1 : Int64) (x3 : Int32) (x4 : Int64) (σ : zSt) : Prop :=
  w_X12_tiesOf N x1 x3 σ (fun r1 τ2 => (x3 = (τ2.1 16) → Q (x4 - (r1.toInt64 * ((τ2.1 14) + (τ2.1 17)).toInt64)) τ2) ∧ (¬ x3 = (τ2.1 16) → Q (x4 - (r1.toInt64 * ((τ2.1 14) + (0 : Int32)).toInt64)) τ2))
def b_X12_worthOf_52 (N : Nat) (Q : Int64 → zSt → Prop) (x1 : Int64) (x3 : Int32) (σ : zSt) : Prop :=
  w_X12_worthTo N x3 σ (fun r1 τ2 => b_X12_worthOf_59 N Q x1 x3 r1 τ2)
def b_X12_worthOf_22 (N : Nat) (Q : Int64 → zSt → Prop) (x1 : Int64) (x3 : Int32) (σ : zSt) : Prop :=
  (vp_in (((5 : Int32) * x1.toInt32) + x3) 5120) ∧ (∀ v1 : Int64, v1 = σ.2.2.2 3 (((5 : Int32) * x1.toInt32) + x3).toNatClampNeg → b_X12_worthOf_59 N Q x1 x3 v1 σ)
def w_X12_worthOf (N : Nat) (x1 : Int64) (x3 : Int32) (σ : zSt) (Q : Int64 → zSt → Prop) : Prop :=
  w_X12_many N σ (fun r1 τ2 => ((5 : Int32) < r1 → ((lg_cmp (τ2.2.1 1) x1) = 0 → b_X12_worthOf_52 N Q x1 x3 τ2) ∧ (¬ (lg_cmp (τ2.2.1 1) x1) = 0 → w_X12_looks N x1 τ2 (fun τ4 => b_X12_worthOf_52 N Q x1 x3 τ4))) ∧ (¬ (5 : Int32) < r1 → ((τ2.1 19) = 0 → w_X12_fillsTable N τ2 (fun τ6 => b_X12_worthOf_22 N Q x1 x3 τ6)) ∧ (¬ (τ2.1 19) = 0 → b_X12_worthOf_22 N Q x1 x3 τ2)))
variable {p : Program} {l : Launch} {e : Env} {s : State} {m : MethodId} {args : Array Value} {below : List Frame} {meth : Method} {c : Code} {dC : Nat → ClassId} {dI : Nat → Nat → Nat} {ad : Nat → Nat} {cI cJ cC : ClassId}
set_option maxHeartbeats 4000000 in
set_option maxRecDepth 100000 in
theorem t_X12_worthOf_59 (C0 : zCx p s m meth c args RX12 cX12_worthOf 6 (some .long) vs_X12_worthOf) (hK : va_K (dC, dI) vwCl (m_ty cI cJ cC) s) (N : Nat) {Q : Int64 → zSt → Prop} : ∀ (x1 : Int64) (x3 : Int32) (x4 : Int64) (σ : zSt) (H : Heap) (locs : List Loc) (ls : Array Slot), b_X12_worthOf_59 N  Q x1 x3 x4 σ → va_P (dC, dI) vwCl (m_W ad cI cJ cC σ) H → va_D (zAW m_n ad s.heap.size) (m_W ad cI cJ cC σ) → va_S (zAW m_n ad s.heap.size) s.heap H locs → lv_has ls 6 [(0, .ref (ad 0)), (1, .long x1), (3, .int x3), (4, .long x4)] → W p l e rm_X12_worthOf s m args below meth c H locs 0 0 (MQ below (zQl (dC, dI) (m_ty cI cJ cC) (m_W ad cI cJ cC) (zAW m_n ad s.heap.size) Q) args s 0 0 (zAW m_n ad s.heap.size)) (F0 m 59 ls []) := by
  obtain ⟨hx, hb, hml, hr, hown, hts, hlocks⟩ := id C0
  intro x1 x3 x4 σ H locs ls h hP hD hS hl
  unfold b_X12_worthOf_59 at h
  refine lv_lload hx hb dX12_worthOf_59 (lv_at hl 3 rfl) ?_
  refine lv_aload_n hx hb dX12_worthOf_61 rfl (lv_at hl 0 rfl) ?_
  refine lv_lload_n hx hb dX12_worthOf_62 rfl (lv_at hl 1 rfl) ?_
  refine lv_iload_n hx hb dX12_worthOf_63 rfl (lv_at hl 2 rfl) ?_
  refine k_X12_tiesOf N ⟨hx, hb, hml, hown, hts⟩ mw_1068 ⟨Nat.le_of_ble_eq_true rfl, Nat.le_of_ble_eq_true rfl⟩ h hK hP hD hS hl.1 (rest := [.long x4]) (Nat.le_of_ble_eq_true rfl) ⟨Nat.le_of_ble_eq_true rfl, Nat.le_of_ble_eq_true rfl⟩ dX12_worthOf_64 (fun r1 τ2 H locs h hP hD hS => ?_)
  refine lv_i2l hx hb dX12_worthOf_67 rfl ?_
  refine lv_aload_n hx hb dX12_worthOf_68 rfl (lv_at hl 0 rfl) ?_
  refine mg_0_48 hx hb hts hown hK hP mw_881 dX12_worthOf_69 ?_
  refine lv_iload_n hx hb dX12_worthOf_72 rfl (lv_at hl 2 rfl) ?_
  refine lv_aload_n hx hb dX12_worthOf_73 rfl (lv_at hl 0 rfl) ?_
  refine mg_0_53 hx hb hts hown hK hP mw_886 dX12_worthOf_74 ?_
  refine lv_icmp_ne (tgt := 87) hx hb dX12_worthOf_77 (by decide) (fun hc => ?_) (fun hc => ?_)
  · have h := h.2 hc
    refine lv_iconst (v := (0 : Int32)) hx hb dX12_worthOf_87 (by decide) ?_
    refine lv_iadd hx hb dX12_worthOf_88 ?_
    refine lv_i2l hx hb dX12_worthOf_89 rfl ?_
    refine lv_lmul hx hb dX12_worthOf_90 ?_
    refine lv_lsub hx hb dX12_worthOf_91 ?_
    exact zret_l hx hb hr hlocks hK hP hD hS h dX12_worthOf_92
  · have h := h.1 hc
    refine lv_aload_n hx hb dX12_worthOf_80 rfl (lv_at hl 0 rfl) ?_
    refine mg_0_54 hx hb hts hown hK hP mw_887 dX12_worthOf_81 ?_
    refine lv_goto (tgt := 88) hx hb dX12_worthOf_84 (by decide) ?_
    refine lv_iadd hx hb dX12_worthOf_88 ?_
    refine lv_i2l hx hb dX12_worthOf_89 rfl ?_
    refine lv_lmul hx hb dX12_worthOf_90 ?_
    refine lv_lsub hx hb dX12_worthOf_91 ?_
    exact zret_l hx hb hr hlocks hK hP hD hS h dX12_worthOf_92
set_option maxHeartbeats 4000000 in
set_option maxRecDepth 100000 in
theorem t_X12_worthOf_52 (C0 : zCx p s m meth c args RX12 cX12_worthOf 6 (some .long) vs_X12_worthOf) (hK : va_K (dC, dI) vwCl (m_ty cI cJ cC) s) (N : Nat) {Q : Int64 → zSt → Prop} : ∀ (x1 : Int64) (x3 : Int32) (σ : zSt) (H : Heap) (locs : List Loc) (ls : Array Slot), b_X12_worthOf_52 N  Q x1 x3 σ → va_P (dC, dI) vwCl (m_W ad cI cJ cC σ) H → va_D (zAW m_n ad s.heap.size) (m_W ad cI cJ cC σ) → va_S (zAW m_n ad s.heap.size) s.heap H locs → lv_has ls 6 [(0, .ref (ad 0)), (1, .long x1), (3, .int x3)] → W p l e rm_X12_worthOf s m args below meth c H locs 0 0 (MQ below (zQl (dC, dI) (m_ty cI cJ cC) (m_W ad cI cJ cC) (zAW m_n ad s.heap.size) Q) args s 0 0 (zAW m_n ad s.heap.size)) (F0 m 52 ls []) := by
  obtain ⟨hx, hb, hml, hr, hown, hts, hlocks⟩ := id C0
  intro x1 x3 σ H locs ls h hP hD hS hl
  unfold b_X12_worthOf_52 at h
  refine lv_aload_n hx hb dX12_worthOf_52 rfl (lv_at hl 0 rfl) ?_
  refine lv_iload_n hx hb dX12_worthOf_53 rfl (lv_at hl 2 rfl) ?_
  refine k_X12_worthTo N ⟨hx, hb, hml, hown, hts⟩ mw_1113 ⟨Nat.le_of_ble_eq_true rfl, Nat.le_of_ble_eq_true rfl⟩ h hK hP hD hS hl.1 (rest := []) (Nat.le_of_ble_eq_true rfl) ⟨Nat.le_of_ble_eq_true rfl, Nat.le_of_ble_eq_true rfl⟩ dX12_worthOf_54 (fun r1 τ2 H locs h hP hD hS => ?_)
  refine lv_lstore (lv' := [(4, .long r1), (0, .ref (ad 0)), (1, .long x1), (3, .int x3)]) hx hb dX12_worthOf_57 hl (by decide) rfl (fun ls hl => ?_)
  exact t_X12_worthOf_59 C0 hK N  x1 x3 r1 τ2 _ _ _ h hP hD hS (lv_sub hl [1, 2, 3, 0] rfl)
set_option maxHeartbeats 4000000 in
set_option maxRecDepth 100000 in
theorem t_X12_worthOf_22 (C0 : zCx p s m meth c args RX12 cX12_worthOf 6 (some .long) vs_X12_worthOf) (hK : va_K (dC, dI) vwCl (m_ty cI cJ cC) s) (N : Nat) {Q : Int64 → zSt → Prop} : ∀ (x1 : Int64) (x3 : Int32) (σ : zSt) (H : Heap) (locs : List Loc) (ls : Array Slot), b_X12_worthOf_22 N  Q x1 x3 σ → va_P (dC, dI) vwCl (m_W ad cI cJ cC σ) H → va_D (zAW m_n ad s.heap.size) (m_W ad cI cJ cC σ) → va_S (zAW m_n ad s.heap.size) s.heap H locs → lv_has ls 6 [(0, .ref (ad 0)), (1, .long x1), (3, .int x3)] → W p l e rm_X12_worthOf s m args below meth c H locs 0 0 (MQ below (zQl (dC, dI) (m_ty cI cJ cC) (m_W ad cI cJ cC) (zAW m_n ad s.heap.size) Q) args s 0 0 (zAW m_n ad s.heap.size)) (F0 m 22 ls []) := by
  obtain ⟨hx, hb, hml, hr, hown, hts, hlocks⟩ := id C0
  intro x1 x3 σ H locs ls h hP hD hS hl
  unfold b_X12_worthOf_22 at h
  refine lv_aload_n hx hb dX12_worthOf_22 rfl (lv_at hl 0 rfl) ?_
  refine mg_0_58 hx hb hts hown hK hP mw_891 dX12_worthOf_23 ?_
  refine lv_iconst (v := (5 : Int32)) hx hb dX12_worthOf_26 (by decide) ?_
  refine lv_lload_n hx hb dX12_worthOf_27 rfl (lv_at hl 1 rfl) ?_
  refine lv_l2i hx hb dX12_worthOf_28 rfl ?_
  refine lv_imul hx hb dX12_worthOf_29 ?_
  refine lv_iload_n hx hb dX12_worthOf_30 rfl (lv_at hl 2 rfl) ?_
  refine lv_iadd hx hb dX12_worthOf_31 ?_
  refine ma_18 hx hb hK hP h.1 rfl dX12_worthOf_32 ?_
  have h := h.2
  refine lv_topl (fun v1 ev1 => ?_)
  have h := h v1 ev1
  refine lv_lstore (lv' := [(4, .long v1), (0, .ref (ad 0)), (1, .long x1), (3, .int x3)]) hx hb dX12_worthOf_33 hl (by decide) rfl (fun ls hl => ?_)
  refine lv_goto (tgt := 59) hx hb dX12_worthOf_35 (by decide) ?_
  exact t_X12_worthOf_59 C0 hK N  x1 x3 v1 σ _ _ _ h hP hD hS (lv_sub hl [1, 2, 3, 0] rfl)
set_option maxHeartbeats 4000000 in
set_option maxRecDepth 100000 in
theorem t_X12_worthOf_0 (C0 : zCx p s m meth c args RX12 cX12_worthOf 6 (some .long) vs_X12_worthOf) (hK : va_K (dC, dI) vwCl (m_ty cI cJ cC) s) (N : Nat) {Q : Int64 → zSt → Prop} : ∀ (x1 : Int64) (x3 : Int32) (σ : zSt) (H : Heap) (locs : List Loc) (ls : Array Slot), w_X12_worthOf N x1 x3 σ Q → va_P (dC, dI) vwCl (m_W ad cI cJ cC σ) H → va_D (zAW m_n ad s.heap.size) (m_W ad cI cJ cC σ) → va_S (zAW m_n ad s.heap.size) s.heap H locs → lv_has ls 6 [(0, .ref (ad 0)), (1, .long x1), (3, .int x3)] → W p l e rm_X12_worthOf s m args below meth c H locs 0 0 (MQ below (zQl (dC, dI) (m_ty cI cJ cC) (m_W ad cI cJ cC) (zAW m_n ad s.heap.size) Q) args s 0 0 (zAW m_n ad s.heap.size)) (F0 m 0 ls []) := by
  obtain ⟨hx, hb, hml, hr, hown, hts, hlocks⟩ := id C0
  intro x1 x3 σ H locs ls h hP hD hS hl
  unfold w_X12_worthOf at h
  refine lv_lconst (v := (0 : Int64)) hx hb dX12_worthOf_0 (by decide) ?_
  refine lv_lstore (lv' := [(4, .long (0 : Int64)), (0, .ref (ad 0)), (1, .long x1), (3, .int x3)]) hx hb dX12_worthOf_1 hl (by decide) rfl (fun ls hl => ?_)
  refine lv_aload_n hx hb dX12_worthOf_3 rfl (lv_at hl 1 rfl) ?_
  refine k_X12_many N ⟨hx, hb, hml, hown, hts⟩ mw_1044 ⟨Nat.le_of_ble_eq_true rfl, Nat.le_of_ble_eq_true rfl⟩ h hK hP hD hS hl.1 (rest := []) (Nat.le_of_ble_eq_true rfl) ⟨Nat.le_of_ble_eq_true rfl, Nat.le_of_ble_eq_true rfl⟩ dX12_worthOf_4 (fun r1 τ2 H locs h hP hD hS => ?_)
  refine lv_iconst (v := (5 : Int32)) hx hb dX12_worthOf_7 (by decide) ?_
  refine lv_icmp_gt (tgt := 38) hx hb dX12_worthOf_8 (by decide) (fun hc => ?_) (fun hc => ?_)
  · have h := h.1 hc
    refine lv_aload_n hx hb dX12_worthOf_38 rfl (lv_at hl 1 rfl) ?_
    refine mg_0_49 hx hb hts hown hK hP mw_882 dX12_worthOf_39 ?_
    refine lv_lload_n hx hb dX12_worthOf_42 rfl (lv_at hl 2 rfl) ?_
    refine W.lcmp hx hb dX12_worthOf_43 ?_
    refine lv_if_eq (tgt := 52) hx hb dX12_worthOf_44 (by decide) (fun hc => ?_) (fun hc => ?_)
    · have h := h.1 hc
      exact t_X12_worthOf_52 C0 hK N  x1 x3 τ2 _ _ _ h hP hD hS (lv_sub hl [1, 2, 3] rfl)
    · have h := h.2 hc
      refine lv_aload_n hx hb dX12_worthOf_47 rfl (lv_at hl 1 rfl) ?_
      refine lv_lload_n hx hb dX12_worthOf_48 rfl (lv_at hl 2 rfl) ?_
      refine k_X12_looks N ⟨hx, hb, hml, hown, hts⟩ mw_1110 ⟨Nat.le_of_ble_eq_true rfl, Nat.le_of_ble_eq_true rfl⟩ h hK hP hD hS hl.1 (rest := []) (Nat.le_of_ble_eq_true rfl) ⟨Nat.le_of_ble_eq_true rfl, Nat.le_of_ble_eq_true rfl⟩ dX12_worthOf_49 (fun τ4 H locs h hP hD hS => ?_)
      exact t_X12_worthOf_52 C0 hK N  x1 x3 τ4 _ _ _ h hP hD hS (lv_sub hl [1, 2, 3] rfl)
  · have h := h.2 hc
    refine lv_aload_n hx hb dX12_worthOf_11 rfl (lv_at hl 1 rfl) ?_
    refine mg_0_57 hx hb hts hown hK hP mw_890 dX12_worthOf_12 ?_
    refine lv_if_ne (tgt := 22) hx hb dX12_worthOf_15 (by decide) (fun hc => ?_) (fun hc => ?_)
    · have h := h.2 hc
      exact t_X12_worthOf_22 C0 hK N  x1 x3 τ2 _ _ _ h hP hD hS (lv_sub hl [1, 2, 3] rfl)
    · have h := h.1 hc
      refine lv_aload_n hx hb dX12_worthOf_18 rfl (lv_at hl 1 rfl) ?_
      refine k_X12_fillsTable N ⟨hx, hb, hml, hown, hts⟩ mw_1107 ⟨Nat.le_of_ble_eq_true rfl, Nat.le_of_ble_eq_true rfl⟩ h hK hP hD hS hl.1 (rest := []) (Nat.le_of_ble_eq_true rfl) ⟨Nat.le_of_ble_eq_true rfl, Nat.le_of_ble_eq_true rfl⟩ dX12_worthOf_19 (fun τ6 H locs h hP hD hS => ?_)
      exact t_X12_worthOf_22 C0 hK N  x1 x3 τ6 _ _ _ h hP hD hS (lv_sub hl [1, 2, 3] rfl)
set_option maxHeartbeats 4000000 in
set_option maxRecDepth 100000 in
theorem c_X12_worthOf (N : Nat) (l : Launch) (dC : Nat → ClassId) (dI : Nat → Nat → Nat) (ad : Nat → Nat) (cI cJ cC : ClassId) (sz : Nat) (σ : zSt) (x1 : Int64) (x3 : Int32) (Q : Int64 → zSt → Prop) (h : w_X12_worthOf N x1 x3 σ Q) : Met l yX12_worthOf vs_X12_worthOf rm_X12_worthOf (va_Pc [.ref (ad 0), .long x1, .int x3] (zPc (dC, dI) (m_ty cI cJ cC) (m_W ad cI cJ cC) sz σ)) (zQl (dC, dI) (m_ty cI cJ cC) (m_W ad cI cJ cC) (zAW m_n ad sz) Q) 0 0 (zAW m_n ad sz) := by
  refine Met.ofW (cc := cX12_worthOf) (maxL := 6) (ret := (some .long)) (by decide) rfl ?_
  intro p e s m args below meth c s₁ B hml hv
  obtain ⟨rfl, hsz, hP, hK, hD0⟩ := hv
  subst hsz
  have C0 : zCx p s m meth c _ RX12 cX12_worthOf 6 (some .long) vs_X12_worthOf := ⟨B.exec, B.bytes, hml, B.returns, findClass_of_methodNamed B.named, atoms_spec (ws := vs_X12_worthOf) B.pre, B.notSynchronized⟩
  have hD := m_D0 (n0 := s.heap.size) hD0
  have hl := lv_entry ([.ref (ad 0), .long x1, .int x3]) (n := 6) (Nat.le_of_ble_eq_true rfl)
  rw [lg_entry_eq]
  generalize (lg_sl ([.ref (ad 0), .long x1, .int x3]) ++ List.replicate (6 - (lg_sl ([.ref (ad 0), .long x1, .int x3])).length) Slot.unset).toArray = ls at hl ⊢
  exact t_X12_worthOf_0 C0 hK N x1 x3 σ _ _ ls h hP hD va_S.rf hl
theorem k_X12_worthOf (N : Nat) {R : Room} {H : Heap} {locs : List Loc} {cells slots : Nat} {Q2 : State → Prop} {cc : ByteArray} {nL pc index : Nat} {ls : Array Slot} {rest : List Value} {own : String} {c0 : Cond} {σ : zSt} {x1 : Int64} {x3 : Int32} {Q : Int64 → zSt → Prop} (S0 : CallFix p m c cc nL s args (c0 :: zT) own) (hml : Cond.methodLink own index yX12_worthOf ∈ zT) (hR : rm_X12_worthOf.frames + 1 ≤ R.frames ∧ 8 + (6 + 11) + rm_X12_worthOf.locals ≤ R.locals) (h : w_X12_worthOf N x1 x3 σ Q) (hK : va_K (dC, dI) vwCl (m_ty cI cJ cC) s) (hP : va_P (dC, dI) vwCl (m_W ad cI cJ cC σ) H) (hD : va_D (zAW m_n ad s.heap.size) (m_W ad cI cJ cC σ)) (hS : va_S (zAW m_n ad s.heap.size) s.heap H locs) (hsz : ls.size = nL) (hW : (rest.map fun v => v.category).sum ≤ 8) (hcs : cells ≤ R.cells ∧ slots ≤ R.slots) (hdg : decode cc pc = .ok (.invokevirtual index, 3)) (kk : ∀ (r : Int64) (τ : zSt) (H1 : Heap) (locs1 : List Loc), Q r τ → va_P (dC, dI) vwCl (m_W ad cI cJ cC τ) H1 → va_D (zAW m_n ad s.heap.size) (m_W ad cI cJ cC τ) → va_S (zAW m_n ad s.heap.size) s.heap H1 locs1 → W p l e R s m args below meth c H1 locs1 cells slots Q2 (F0 m (pc + 3) ls (.long r :: rest))) : W p l e R s m args below meth c H locs cells slots Q2 (F0 m pc ls (.int x3 :: .long x1 :: .ref (ad 0) :: rest)) :=
  zcv_l (T := TX12) (N' := 83) (k := 0) (ci := 12) (fs := m_f0 ad σ) [.long x1, .int x3] S0 (c_X12_worthOf N l dC dI ad cI cJ cC H.size σ x1 x3 Q h) (cw_X12_worthOf S0.2.2.2.2 hml rfl rfl hR) rfl rfl hK hP hD hS rfl hsz hW rfl hcs hdg kk
end q21
section q21
def b_X12_worthOfAll_5 (N : Nat) (k_5 : Int64 → Int64 → Int32 → zSt → Prop) (Q : Int64 → zSt → Prop) (x1 : Int64) (x3 : Int64) (x5 : Int32) (σ : zSt) : Prop :=
  w_X12_many N σ (fun r1 τ2 => (r1 ≤ x5 → Q x3 τ2) ∧ (¬ r1 ≤ x5 → w_X12_worthOf N x1 x5 τ2 (fun r3 τ4 => ∀ v5 : Int64, v5 = x3 + r3 → ∀ v6 : Int32, v6 = x5 + (1 : Int32) → k_5 x1 v5 v6 τ4)))
def w_X12_worthOfAll_5 (N : Nat) (Q : Int64 → zSt → Prop) : Nat → Int64 → Int64 → Int32 → zSt → Prop
  | 0 => fun _ _ _ _ => False
  | f + 1 => b_X12_worthOfAll_5 N (w_X12_worthOfAll_5 N  Q f) Q
def w_X12_worthOfAll (N : Nat) (x1 : Int64) (σ : zSt) (Q : Int64 → zSt → Prop) : Prop :=
  w_X12_worthOfAll_5 N Q N x1 (0 : Int64) (0 : Int32) σ
variable {p : Program} {l : Launch} {e : Env} {s : State} {m : MethodId} {args : Array Value} {below : List Frame} {meth : Method} {c : Code} {dC : Nat → ClassId} {dI : Nat → Nat → Nat} {ad : Nat → Nat} {cI cJ cC : ClassId}
set_option maxHeartbeats 4000000 in
set_option maxRecDepth 100000 in
theorem tb_X12_worthOfAll_5 (C0 : zCx p s m meth c args RX12 cX12_worthOfAll 6 (some .long) vs_X12_worthOfAll) (hK : va_K (dC, dI) vwCl (m_ty cI cJ cC) s) (N : Nat) {Q : Int64 → zSt → Prop} {k_5 : Int64 → Int64 → Int32 → zSt → Prop} (hk_5 : ∀ (x1 : Int64) (x3 : Int64) (x5 : Int32) (σ : zSt) (H : Heap) (locs : List Loc) (ls : Array Slot), k_5 x1 x3 x5 σ → va_P (dC, dI) vwCl (m_W ad cI cJ cC σ) H → va_D (zAW m_n ad s.heap.size) (m_W ad cI cJ cC σ) → va_S (zAW m_n ad s.heap.size) s.heap H locs → lv_has ls 6 [(0, .ref (ad 0)), (1, .long x1), (3, .long x3), (5, .int x5)] → W p l e rm_X12_worthOfAll s m args below meth c H locs 0 0 (MQ below (zQl (dC, dI) (m_ty cI cJ cC) (m_W ad cI cJ cC) (zAW m_n ad s.heap.size) Q) args s 0 0 (zAW m_n ad s.heap.size)) (F0 m 5 ls [])) : ∀ (x1 : Int64) (x3 : Int64) (x5 : Int32) (σ : zSt) (H : Heap) (locs : List Loc) (ls : Array Slot), b_X12_worthOfAll_5 N k_5 Q x1 x3 x5 σ → va_P (dC, dI) vwCl (m_W ad cI cJ cC σ) H → va_D (zAW m_n ad s.heap.size) (m_W ad cI cJ cC σ) → va_S (zAW m_n ad s.heap.size) s.heap H locs → lv_has ls 6 [(0, .ref (ad 0)), (1, .long x1), (3, .long x3), (5, .int x5)] → W p l e rm_X12_worthOfAll s m args below meth c H locs 0 0 (MQ below (zQl (dC, dI) (m_ty cI cJ cC) (m_W ad cI cJ cC) (zAW m_n ad s.heap.size) Q) args s 0 0 (zAW m_n ad s.heap.size)) (F0 m 5 ls []) := by
  obtain ⟨hx, hb, hml, hr, hown, hts, hlocks⟩ := id C0
  intro x1 x3 x5 σ H locs ls h hP hD hS hl
  unfold b_X12_worthOfAll_5 at h
  refine lv_iload hx hb dX12_worthOfAll_5 (lv_at hl 3 rfl) ?_
  refine lv_aload_n hx hb dX12_worthOfAll_7 rfl (lv_at hl 0 rfl) ?_
  refine k_X12_many N ⟨hx, hb, hml, hown, hts⟩ mw_1044 ⟨Nat.le_of_ble_eq_true rfl, Nat.le_of_ble_eq_true rfl⟩ h hK hP hD hS hl.1 (rest := [.int x5]) (Nat.le_of_ble_eq_true rfl) ⟨Nat.le_of_ble_eq_true rfl, Nat.le_of_ble_eq_true rfl⟩ dX12_worthOfAll_8 (fun r1 τ2 H locs h hP hD hS => ?_)
  refine lv_icmp_ge (tgt := 30) hx hb dX12_worthOfAll_11 (by decide) (fun hc => ?_) (fun hc => ?_)
  · have h := h.1 hc
    refine lv_lload_n hx hb dX12_worthOfAll_30 rfl (lv_at hl 2 rfl) ?_
    exact zret_l hx hb hr hlocks hK hP hD hS h dX12_worthOfAll_31
  · have h := h.2 hc
    refine lv_lload_n hx hb dX12_worthOfAll_14 rfl (lv_at hl 2 rfl) ?_
    refine lv_aload_n hx hb dX12_worthOfAll_15 rfl (lv_at hl 0 rfl) ?_
    refine lv_lload_n hx hb dX12_worthOfAll_16 rfl (lv_at hl 1 rfl) ?_
    refine lv_iload hx hb dX12_worthOfAll_17 (lv_at hl 3 rfl) ?_
    refine k_X12_worthOf N ⟨hx, hb, hml, hown, hts⟩ mw_1104 ⟨Nat.le_of_ble_eq_true rfl, Nat.le_of_ble_eq_true rfl⟩ h hK hP hD hS hl.1 (rest := [.long x3]) (Nat.le_of_ble_eq_true rfl) ⟨Nat.le_of_ble_eq_true rfl, Nat.le_of_ble_eq_true rfl⟩ dX12_worthOfAll_19 (fun r3 τ4 H locs h hP hD hS => ?_)
    refine lv_ladd hx hb dX12_worthOfAll_22 ?_
    refine lv_topl (fun v5 ev5 => ?_)
    have h := h v5 ev5
    refine lv_lstore_n (lv' := [(3, .long v5), (0, .ref (ad 0)), (1, .long x1), (5, .int x5)]) hx hb dX12_worthOfAll_23 rfl hl (by decide) rfl (fun ls hl => ?_)
    obtain ⟨v6, ev6⟩ : ∃ z : Int32, z = x5 + (1 : Int32) := ⟨_, rfl⟩
    have h := h v6 ev6
    refine lv_iinc (v := v6) (lv' := [(5, .int v6), (3, .long v5), (0, .ref (ad 0)), (1, .long x1)]) hx hb dX12_worthOfAll_24 hl (k := 3) rfl (by rw [ev6]; rfl) (by decide) rfl (fun ls hl => ?_)
    refine lv_goto (tgt := 5) hx hb dX12_worthOfAll_27 (by decide) ?_
    exact hk_5 x1 v5 v6 τ4 _ _ _ h hP hD hS (lv_sub hl [2, 3, 1, 0] rfl)
set_option maxHeartbeats 4000000 in
set_option maxRecDepth 100000 in
theorem t_X12_worthOfAll_5 (C0 : zCx p s m meth c args RX12 cX12_worthOfAll 6 (some .long) vs_X12_worthOfAll) (hK : va_K (dC, dI) vwCl (m_ty cI cJ cC) s) (N : Nat) {Q : Int64 → zSt → Prop} : ∀ (f : Nat) (x1 : Int64) (x3 : Int64) (x5 : Int32) (σ : zSt) (H : Heap) (locs : List Loc) (ls : Array Slot), w_X12_worthOfAll_5 N  Q f x1 x3 x5 σ → va_P (dC, dI) vwCl (m_W ad cI cJ cC σ) H → va_D (zAW m_n ad s.heap.size) (m_W ad cI cJ cC σ) → va_S (zAW m_n ad s.heap.size) s.heap H locs → lv_has ls 6 [(0, .ref (ad 0)), (1, .long x1), (3, .long x3), (5, .int x5)] → W p l e rm_X12_worthOfAll s m args below meth c H locs 0 0 (MQ below (zQl (dC, dI) (m_ty cI cJ cC) (m_W ad cI cJ cC) (zAW m_n ad s.heap.size) Q) args s 0 0 (zAW m_n ad s.heap.size)) (F0 m 5 ls []) := by
  intro f
  induction f with
  | zero => intro x1 x3 x5 σ H locs ls h; exact h.elim
  | succ f ih =>
    intro x1 x3 x5 σ H locs ls h hP hD hS hl
    exact tb_X12_worthOfAll_5 C0 hK N  (k_5 := w_X12_worthOfAll_5 N  Q f) ih x1 x3 x5 σ H locs ls h hP hD hS hl
set_option maxHeartbeats 4000000 in
set_option maxRecDepth 100000 in
theorem t_X12_worthOfAll_0 (C0 : zCx p s m meth c args RX12 cX12_worthOfAll 6 (some .long) vs_X12_worthOfAll) (hK : va_K (dC, dI) vwCl (m_ty cI cJ cC) s) (N : Nat) {Q : Int64 → zSt → Prop} : ∀ (x1 : Int64) (σ : zSt) (H : Heap) (locs : List Loc) (ls : Array Slot), w_X12_worthOfAll N x1 σ Q → va_P (dC, dI) vwCl (m_W ad cI cJ cC σ) H → va_D (zAW m_n ad s.heap.size) (m_W ad cI cJ cC σ) → va_S (zAW m_n ad s.heap.size) s.heap H locs → lv_has ls 6 [(0, .ref (ad 0)), (1, .long x1)] → W p l e rm_X12_worthOfAll s m args below meth c H locs 0 0 (MQ below (zQl (dC, dI) (m_ty cI cJ cC) (m_W ad cI cJ cC) (zAW m_n ad s.heap.size) Q) args s 0 0 (zAW m_n ad s.heap.size)) (F0 m 0 ls []) := by
  obtain ⟨hx, hb, hml, hr, hown, hts, hlocks⟩ := id C0
  intro x1 σ H locs ls h hP hD hS hl
  unfold w_X12_worthOfAll at h
  refine lv_lconst (v := (0 : Int64)) hx hb dX12_worthOfAll_0 (by decide) ?_
  refine lv_lstore_n (lv' := [(3, .long (0 : Int64)), (0, .ref (ad 0)), (1, .long x1)]) hx hb dX12_worthOfAll_1 rfl hl (by decide) rfl (fun ls hl => ?_)
  refine lv_iconst (v := (0 : Int32)) hx hb dX12_worthOfAll_2 (by decide) ?_
  refine lv_istore (lv' := [(5, .int (0 : Int32)), (3, .long (0 : Int64)), (0, .ref (ad 0)), (1, .long x1)]) hx hb dX12_worthOfAll_3 hl (by decide) rfl (fun ls hl => ?_)
  exact t_X12_worthOfAll_5 C0 hK N  N x1 (0 : Int64) (0 : Int32) σ _ _ _ h hP hD hS (lv_sub hl [2, 3, 1, 0] rfl)
set_option maxHeartbeats 4000000 in
set_option maxRecDepth 100000 in
theorem c_X12_worthOfAll (N : Nat) (l : Launch) (dC : Nat → ClassId) (dI : Nat → Nat → Nat) (ad : Nat → Nat) (cI cJ cC : ClassId) (sz : Nat) (σ : zSt) (x1 : Int64) (Q : Int64 → zSt → Prop) (h : w_X12_worthOfAll N x1 σ Q) : Met l yX12_worthOfAll vs_X12_worthOfAll rm_X12_worthOfAll (va_Pc [.ref (ad 0), .long x1] (zPc (dC, dI) (m_ty cI cJ cC) (m_W ad cI cJ cC) sz σ)) (zQl (dC, dI) (m_ty cI cJ cC) (m_W ad cI cJ cC) (zAW m_n ad sz) Q) 0 0 (zAW m_n ad sz) := by
  refine Met.ofW (cc := cX12_worthOfAll) (maxL := 6) (ret := (some .long)) (by decide) rfl ?_
  intro p e s m args below meth c s₁ B hml hv
  obtain ⟨rfl, hsz, hP, hK, hD0⟩ := hv
  subst hsz
  have C0 : zCx p s m meth c _ RX12 cX12_worthOfAll 6 (some .long) vs_X12_worthOfAll := ⟨B.exec, B.bytes, hml, B.returns, findClass_of_methodNamed B.named, atoms_spec (ws := vs_X12_worthOfAll) B.pre, B.notSynchronized⟩
  have hD := m_D0 (n0 := s.heap.size) hD0
  have hl := lv_entry ([.ref (ad 0), .long x1]) (n := 6) (Nat.le_of_ble_eq_true rfl)
  rw [lg_entry_eq]
  generalize (lg_sl ([.ref (ad 0), .long x1]) ++ List.replicate (6 - (lg_sl ([.ref (ad 0), .long x1])).length) Slot.unset).toArray = ls at hl ⊢
  exact t_X12_worthOfAll_0 C0 hK N x1 σ _ _ ls h hP hD va_S.rf hl
theorem k_X12_worthOfAll (N : Nat) {R : Room} {H : Heap} {locs : List Loc} {cells slots : Nat} {Q2 : State → Prop} {cc : ByteArray} {nL pc index : Nat} {ls : Array Slot} {rest : List Value} {own : String} {c0 : Cond} {σ : zSt} {x1 : Int64} {Q : Int64 → zSt → Prop} (S0 : CallFix p m c cc nL s args (c0 :: zT) own) (hml : Cond.methodLink own index yX12_worthOfAll ∈ zT) (hR : rm_X12_worthOfAll.frames + 1 ≤ R.frames ∧ 8 + (6 + 11) + rm_X12_worthOfAll.locals ≤ R.locals) (h : w_X12_worthOfAll N x1 σ Q) (hK : va_K (dC, dI) vwCl (m_ty cI cJ cC) s) (hP : va_P (dC, dI) vwCl (m_W ad cI cJ cC σ) H) (hD : va_D (zAW m_n ad s.heap.size) (m_W ad cI cJ cC σ)) (hS : va_S (zAW m_n ad s.heap.size) s.heap H locs) (hsz : ls.size = nL) (hW : (rest.map fun v => v.category).sum ≤ 8) (hcs : cells ≤ R.cells ∧ slots ≤ R.slots) (hdg : decode cc pc = .ok (.invokevirtual index, 3)) (kk : ∀ (r : Int64) (τ : zSt) (H1 : Heap) (locs1 : List Loc), Q r τ → va_P (dC, dI) vwCl (m_W ad cI cJ cC τ) H1 → va_D (zAW m_n ad s.heap.size) (m_W ad cI cJ cC τ) → va_S (zAW m_n ad s.heap.size) s.heap H1 locs1 → W p l e R s m args below meth c H1 locs1 cells slots Q2 (F0 m (pc + 3) ls (.long r :: rest))) : W p l e R s m args below meth c H locs cells slots Q2 (F0 m pc ls (.long x1 :: .ref (ad 0) :: rest)) :=
  zcv_l (T := TX12) (N' := 83) (k := 0) (ci := 12) (fs := m_f0 ad σ) [.long x1] S0 (c_X12_worthOfAll N l dC dI ad cI cJ cC H.size σ x1 Q h) (cw_X12_worthOfAll S0.2.2.2.2 hml rfl rfl hR) rfl rfl hK hP hD hS rfl hsz hW rfl hcs hdg kk
end q21
section q21
def w_X12_worth (N : Nat) (x1 : Int32) (σ : zSt) (Q : Int64 → zSt → Prop) : Prop :=
  (x1 = (-1 : Int32) → w_X12_worthOfAll N (σ.2.1 0) σ (fun r5 τ6 => Q r5 τ6)) ∧ (¬ x1 = (-1 : Int32) → w_X12_isPerson N x1 σ (fun r1 τ2 => (r1 = 0 → Q (-1000000000000 : Int64) τ2) ∧ (¬ r1 = 0 → w_X12_worthOf N (τ2.2.1 0) x1 τ2 (fun r3 τ4 => Q r3 τ4))))
variable {p : Program} {l : Launch} {e : Env} {s : State} {m : MethodId} {args : Array Value} {below : List Frame} {meth : Method} {c : Code} {dC : Nat → ClassId} {dI : Nat → Nat → Nat} {ad : Nat → Nat} {cI cJ cC : ClassId}
set_option maxHeartbeats 4000000 in
set_option maxRecDepth 100000 in
theorem t_X12_worth_0 (C0 : zCx p s m meth c args RX12 cX12_worth 2 (some .long) vs_X12_worth) (hK : va_K (dC, dI) vwCl (m_ty cI cJ cC) s) (N : Nat) {Q : Int64 → zSt → Prop} : ∀ (x1 : Int32) (σ : zSt) (H : Heap) (locs : List Loc) (ls : Array Slot), w_X12_worth N x1 σ Q → va_P (dC, dI) vwCl (m_W ad cI cJ cC σ) H → va_D (zAW m_n ad s.heap.size) (m_W ad cI cJ cC σ) → va_S (zAW m_n ad s.heap.size) s.heap H locs → lv_has ls 2 [(0, .ref (ad 0)), (1, .int x1)] → W p l e rm_X12_worth s m args below meth c H locs 0 0 (MQ below (zQl (dC, dI) (m_ty cI cJ cC) (m_W ad cI cJ cC) (zAW m_n ad s.heap.size) Q) args s 0 0 (zAW m_n ad s.heap.size)) (F0 m 0 ls []) := by
  obtain ⟨hx, hb, hml, hr, hown, hts, hlocks⟩ := id C0
  intro x1 σ H locs ls h hP hD hS hl
  unfold w_X12_worth at h
  refine lv_iload_n hx hb dX12_worth_0 rfl (lv_at hl 1 rfl) ?_
  refine lv_iconst (v := (-1 : Int32)) hx hb dX12_worth_1 (by decide) ?_
  refine lv_icmp_ne (tgt := 16) hx hb dX12_worth_2 (by decide) (fun hc => ?_) (fun hc => ?_)
  · have h := h.2 hc
    refine lv_aload_n hx hb dX12_worth_16 rfl (lv_at hl 0 rfl) ?_
    refine lv_iload_n hx hb dX12_worth_17 rfl (lv_at hl 1 rfl) ?_
    refine k_X12_isPerson N ⟨hx, hb, hml, hown, hts⟩ mw_1057 ⟨Nat.le_of_ble_eq_true rfl, Nat.le_of_ble_eq_true rfl⟩ h hK hP hD hS hl.1 (rest := []) (Nat.le_of_ble_eq_true rfl) ⟨Nat.le_of_ble_eq_true rfl, Nat.le_of_ble_eq_true rfl⟩ dX12_worth_18 (fun r1 τ2 H locs h hP hD hS => ?_)
    refine lv_if_eq (tgt := 36) hx hb dX12_worth_21 (by decide) (fun hc => ?_) (fun hc => ?_)
    · have h := h.1 hc
      refine lv_ldc2 (v := (-1000000000000 : Int64)) hx hb hown (hts _ (List.mem_cons_of_mem _ mw_1136)) dX12_worth_36 ?_
      exact zret_l hx hb hr hlocks hK hP hD hS h dX12_worth_39
    · have h := h.2 hc
      refine lv_aload_n hx hb dX12_worth_24 rfl (lv_at hl 0 rfl) ?_
      refine lv_aload_n hx hb dX12_worth_25 rfl (lv_at hl 0 rfl) ?_
      refine mg_0_47 hx hb hts hown hK hP mw_880 dX12_worth_26 ?_
      refine lv_iload_n hx hb dX12_worth_29 rfl (lv_at hl 1 rfl) ?_
      refine k_X12_worthOf N ⟨hx, hb, hml, hown, hts⟩ mw_1104 ⟨Nat.le_of_ble_eq_true rfl, Nat.le_of_ble_eq_true rfl⟩ h hK hP hD hS hl.1 (rest := []) (Nat.le_of_ble_eq_true rfl) ⟨Nat.le_of_ble_eq_true rfl, Nat.le_of_ble_eq_true rfl⟩ dX12_worth_30 (fun r3 τ4 H locs h hP hD hS => ?_)
      refine lv_goto (tgt := 39) hx hb dX12_worth_33 (by decide) ?_
      exact zret_l hx hb hr hlocks hK hP hD hS h dX12_worth_39
  · have h := h.1 hc
    refine lv_aload_n hx hb dX12_worth_5 rfl (lv_at hl 0 rfl) ?_
    refine lv_aload_n hx hb dX12_worth_6 rfl (lv_at hl 0 rfl) ?_
    refine mg_0_47 hx hb hts hown hK hP mw_880 dX12_worth_7 ?_
    refine k_X12_worthOfAll N ⟨hx, hb, hml, hown, hts⟩ mw_1101 ⟨Nat.le_of_ble_eq_true rfl, Nat.le_of_ble_eq_true rfl⟩ h hK hP hD hS hl.1 (rest := []) (Nat.le_of_ble_eq_true rfl) ⟨Nat.le_of_ble_eq_true rfl, Nat.le_of_ble_eq_true rfl⟩ dX12_worth_10 (fun r5 τ6 H locs h hP hD hS => ?_)
    refine lv_goto (tgt := 39) hx hb dX12_worth_13 (by decide) ?_
    exact zret_l hx hb hr hlocks hK hP hD hS h dX12_worth_39
set_option maxHeartbeats 4000000 in
set_option maxRecDepth 100000 in
theorem c_X12_worth (N : Nat) (l : Launch) (dC : Nat → ClassId) (dI : Nat → Nat → Nat) (ad : Nat → Nat) (cI cJ cC : ClassId) (sz : Nat) (σ : zSt) (x1 : Int32) (Q : Int64 → zSt → Prop) (h : w_X12_worth N x1 σ Q) : Met l yX12_worth vs_X12_worth rm_X12_worth (va_Pc [.ref (ad 0), .int x1] (zPc (dC, dI) (m_ty cI cJ cC) (m_W ad cI cJ cC) sz σ)) (zQl (dC, dI) (m_ty cI cJ cC) (m_W ad cI cJ cC) (zAW m_n ad sz) Q) 0 0 (zAW m_n ad sz) := by
  refine Met.ofW (cc := cX12_worth) (maxL := 2) (ret := (some .long)) (by decide) rfl ?_
  intro p e s m args below meth c s₁ B hml hv
  obtain ⟨rfl, hsz, hP, hK, hD0⟩ := hv
  subst hsz
  have C0 : zCx p s m meth c _ RX12 cX12_worth 2 (some .long) vs_X12_worth := ⟨B.exec, B.bytes, hml, B.returns, findClass_of_methodNamed B.named, atoms_spec (ws := vs_X12_worth) B.pre, B.notSynchronized⟩
  have hD := m_D0 (n0 := s.heap.size) hD0
  have hl := lv_entry ([.ref (ad 0), .int x1]) (n := 2) (Nat.le_of_ble_eq_true rfl)
  rw [lg_entry_eq]
  generalize (lg_sl ([.ref (ad 0), .int x1]) ++ List.replicate (2 - (lg_sl ([.ref (ad 0), .int x1])).length) Slot.unset).toArray = ls at hl ⊢
  exact t_X12_worth_0 C0 hK N x1 σ _ _ ls h hP hD va_S.rf hl
theorem k_X12_worth (N : Nat) {R : Room} {H : Heap} {locs : List Loc} {cells slots : Nat} {Q2 : State → Prop} {cc : ByteArray} {nL pc index : Nat} {ls : Array Slot} {rest : List Value} {own : String} {c0 : Cond} {σ : zSt} {x1 : Int32} {Q : Int64 → zSt → Prop} (S0 : CallFix p m c cc nL s args (c0 :: zT) own) (hml : Cond.methodLink own index yX12_worth ∈ zT) (hR : rm_X12_worth.frames + 1 ≤ R.frames ∧ 8 + (2 + 11) + rm_X12_worth.locals ≤ R.locals) (h : w_X12_worth N x1 σ Q) (hK : va_K (dC, dI) vwCl (m_ty cI cJ cC) s) (hP : va_P (dC, dI) vwCl (m_W ad cI cJ cC σ) H) (hD : va_D (zAW m_n ad s.heap.size) (m_W ad cI cJ cC σ)) (hS : va_S (zAW m_n ad s.heap.size) s.heap H locs) (hsz : ls.size = nL) (hW : (rest.map fun v => v.category).sum ≤ 8) (hcs : cells ≤ R.cells ∧ slots ≤ R.slots) (hdg : decode cc pc = .ok (.invokevirtual index, 3)) (kk : ∀ (r : Int64) (τ : zSt) (H1 : Heap) (locs1 : List Loc), Q r τ → va_P (dC, dI) vwCl (m_W ad cI cJ cC τ) H1 → va_D (zAW m_n ad s.heap.size) (m_W ad cI cJ cC τ) → va_S (zAW m_n ad s.heap.size) s.heap H1 locs1 → W p l e R s m args below meth c H1 locs1 cells slots Q2 (F0 m (pc + 3) ls (.long r :: rest))) : W p l e R s m args below meth c H locs cells slots Q2 (F0 m pc ls (.int x1 :: .ref (ad 0) :: rest)) :=
  zcv_l (T := TX12) (N' := 83) (k := 0) (ci := 12) (fs := m_f0 ad σ) [.int x1] S0 (c_X12_worth N l dC dI ad cI cJ cC H.size σ x1 Q h) (cw_X12_worth S0.2.2.2.2 hml rfl rfl hR) rfl rfl hK hP hD hS rfl hsz hW rfl hcs hdg kk
end q21
section q21
def w_X12_ways (N : Nat) (x1 : Int32) (x2 : Int32) (σ : zSt) (Q : Int32 → zSt → Prop) : Prop :=
  w_X12_isPerson N x1 σ (fun r1 τ2 => (r1 = 0 → Q (-1 : Int32) τ2) ∧ (¬ r1 = 0 → w_X12_isPerson N x2 τ2 (fun r3 τ4 => (r3 = 0 → Q (-1 : Int32) τ4) ∧ (¬ r3 = 0 → w_X12_looks N (τ4.2.1 0) τ4 (fun τ6 => (vp_in (((10 : Int32) * x1) + x2) 100) ∧ (Q (τ6.2.2.1 12 (((10 : Int32) * x1) + x2).toNatClampNeg) τ6))))))
variable {p : Program} {l : Launch} {e : Env} {s : State} {m : MethodId} {args : Array Value} {below : List Frame} {meth : Method} {c : Code} {dC : Nat → ClassId} {dI : Nat → Nat → Nat} {ad : Nat → Nat} {cI cJ cC : ClassId}
set_option maxHeartbeats 4000000 in
set_option maxRecDepth 100000 in
theorem t_X12_ways_0 (C0 : zCx p s m meth c args RX12 cX12_ways 3 (some .int) vs_X12_ways) (hK : va_K (dC, dI) vwCl (m_ty cI cJ cC) s) (N : Nat) {Q : Int32 → zSt → Prop} : ∀ (x1 : Int32) (x2 : Int32) (σ : zSt) (H : Heap) (locs : List Loc) (ls : Array Slot), w_X12_ways N x1 x2 σ Q → va_P (dC, dI) vwCl (m_W ad cI cJ cC σ) H → va_D (zAW m_n ad s.heap.size) (m_W ad cI cJ cC σ) → va_S (zAW m_n ad s.heap.size) s.heap H locs → lv_has ls 3 [(0, .ref (ad 0)), (1, .int x1), (2, .int x2)] → W p l e rm_X12_ways s m args below meth c H locs 0 0 (MQ below (zQi (dC, dI) (m_ty cI cJ cC) (m_W ad cI cJ cC) (zAW m_n ad s.heap.size) Q) args s 0 0 (zAW m_n ad s.heap.size)) (F0 m 0 ls []) := by
  obtain ⟨hx, hb, hml, hr, hown, hts, hlocks⟩ := id C0
  intro x1 x2 σ H locs ls h hP hD hS hl
  unfold w_X12_ways at h
  refine lv_aload_n hx hb dX12_ways_0 rfl (lv_at hl 0 rfl) ?_
  refine lv_iload_n hx hb dX12_ways_1 rfl (lv_at hl 1 rfl) ?_
  refine k_X12_isPerson N ⟨hx, hb, hml, hown, hts⟩ mw_1057 ⟨Nat.le_of_ble_eq_true rfl, Nat.le_of_ble_eq_true rfl⟩ h hK hP hD hS hl.1 (rest := []) (Nat.le_of_ble_eq_true rfl) ⟨Nat.le_of_ble_eq_true rfl, Nat.le_of_ble_eq_true rfl⟩ dX12_ways_2 (fun r1 τ2 H locs h hP hD hS => ?_)
  refine lv_if_eq (tgt := 16) hx hb dX12_ways_5 (by decide) (fun hc => ?_) (fun hc => ?_)
  · have h := h.1 hc
    refine lv_iconst (v := (-1 : Int32)) hx hb dX12_ways_16 (by decide) ?_
    exact zret_i hx hb hr hlocks hK hP hD hS h dX12_ways_17
  · have h := h.2 hc
    refine lv_aload_n hx hb dX12_ways_8 rfl (lv_at hl 0 rfl) ?_
    refine lv_iload_n hx hb dX12_ways_9 rfl (lv_at hl 2 rfl) ?_
    refine k_X12_isPerson N ⟨hx, hb, hml, hown, hts⟩ mw_1057 ⟨Nat.le_of_ble_eq_true rfl, Nat.le_of_ble_eq_true rfl⟩ h hK hP hD hS hl.1 (rest := []) (Nat.le_of_ble_eq_true rfl) ⟨Nat.le_of_ble_eq_true rfl, Nat.le_of_ble_eq_true rfl⟩ dX12_ways_10 (fun r3 τ4 H locs h hP hD hS => ?_)
    refine lv_if_ne (tgt := 18) hx hb dX12_ways_13 (by decide) (fun hc => ?_) (fun hc => ?_)
    · have h := h.2 hc
      refine lv_aload_n hx hb dX12_ways_18 rfl (lv_at hl 0 rfl) ?_
      refine lv_aload_n hx hb dX12_ways_19 rfl (lv_at hl 0 rfl) ?_
      refine mg_0_47 hx hb hts hown hK hP mw_880 dX12_ways_20 ?_
      refine k_X12_looks N ⟨hx, hb, hml, hown, hts⟩ mw_1110 ⟨Nat.le_of_ble_eq_true rfl, Nat.le_of_ble_eq_true rfl⟩ h hK hP hD hS hl.1 (rest := []) (Nat.le_of_ble_eq_true rfl) ⟨Nat.le_of_ble_eq_true rfl, Nat.le_of_ble_eq_true rfl⟩ dX12_ways_23 (fun τ6 H locs h hP hD hS => ?_)
      refine lv_aload_n hx hb dX12_ways_26 rfl (lv_at hl 0 rfl) ?_
      refine mg_0_50 hx hb hts hown hK hP mw_883 dX12_ways_27 ?_
      refine lv_bipush (v := (10 : Int32)) hx hb dX12_ways_30 (by decide) ?_
      refine lv_iload_n hx hb dX12_ways_32 rfl (lv_at hl 1 rfl) ?_
      refine lv_imul hx hb dX12_ways_33 ?_
      refine lv_iload_n hx hb dX12_ways_34 rfl (lv_at hl 2 rfl) ?_
      refine lv_iadd hx hb dX12_ways_35 ?_
      refine ma_15 hx hb hK hP h.1 rfl dX12_ways_36 ?_
      have h := h.2
      exact zret_i hx hb hr hlocks hK hP hD hS h dX12_ways_37
    · have h := h.1 hc
      refine lv_iconst (v := (-1 : Int32)) hx hb dX12_ways_16 (by decide) ?_
      exact zret_i hx hb hr hlocks hK hP hD hS h dX12_ways_17
set_option maxHeartbeats 4000000 in
set_option maxRecDepth 100000 in
theorem c_X12_ways (N : Nat) (l : Launch) (dC : Nat → ClassId) (dI : Nat → Nat → Nat) (ad : Nat → Nat) (cI cJ cC : ClassId) (sz : Nat) (σ : zSt) (x1 : Int32) (x2 : Int32) (Q : Int32 → zSt → Prop) (h : w_X12_ways N x1 x2 σ Q) : Met l yX12_ways vs_X12_ways rm_X12_ways (va_Pc [.ref (ad 0), .int x1, .int x2] (zPc (dC, dI) (m_ty cI cJ cC) (m_W ad cI cJ cC) sz σ)) (zQi (dC, dI) (m_ty cI cJ cC) (m_W ad cI cJ cC) (zAW m_n ad sz) Q) 0 0 (zAW m_n ad sz) := by
  refine Met.ofW (cc := cX12_ways) (maxL := 3) (ret := (some .int)) (by decide) rfl ?_
  intro p e s m args below meth c s₁ B hml hv
  obtain ⟨rfl, hsz, hP, hK, hD0⟩ := hv
  subst hsz
  have C0 : zCx p s m meth c _ RX12 cX12_ways 3 (some .int) vs_X12_ways := ⟨B.exec, B.bytes, hml, B.returns, findClass_of_methodNamed B.named, atoms_spec (ws := vs_X12_ways) B.pre, B.notSynchronized⟩
  have hD := m_D0 (n0 := s.heap.size) hD0
  have hl := lv_entry ([.ref (ad 0), .int x1, .int x2]) (n := 3) (Nat.le_of_ble_eq_true rfl)
  rw [lg_entry_eq]
  generalize (lg_sl ([.ref (ad 0), .int x1, .int x2]) ++ List.replicate (3 - (lg_sl ([.ref (ad 0), .int x1, .int x2])).length) Slot.unset).toArray = ls at hl ⊢
  exact t_X12_ways_0 C0 hK N x1 x2 σ _ _ ls h hP hD va_S.rf hl
theorem k_X12_ways (N : Nat) {R : Room} {H : Heap} {locs : List Loc} {cells slots : Nat} {Q2 : State → Prop} {cc : ByteArray} {nL pc index : Nat} {ls : Array Slot} {rest : List Value} {own : String} {c0 : Cond} {σ : zSt} {x1 : Int32} {x2 : Int32} {Q : Int32 → zSt → Prop} (S0 : CallFix p m c cc nL s args (c0 :: zT) own) (hml : Cond.methodLink own index yX12_ways ∈ zT) (hR : rm_X12_ways.frames + 1 ≤ R.frames ∧ 8 + (3 + 11) + rm_X12_ways.locals ≤ R.locals) (h : w_X12_ways N x1 x2 σ Q) (hK : va_K (dC, dI) vwCl (m_ty cI cJ cC) s) (hP : va_P (dC, dI) vwCl (m_W ad cI cJ cC σ) H) (hD : va_D (zAW m_n ad s.heap.size) (m_W ad cI cJ cC σ)) (hS : va_S (zAW m_n ad s.heap.size) s.heap H locs) (hsz : ls.size = nL) (hW : (rest.map fun v => v.category).sum ≤ 8) (hcs : cells ≤ R.cells ∧ slots ≤ R.slots) (hdg : decode cc pc = .ok (.invokevirtual index, 3)) (kk : ∀ (r : Int32) (τ : zSt) (H1 : Heap) (locs1 : List Loc), Q r τ → va_P (dC, dI) vwCl (m_W ad cI cJ cC τ) H1 → va_D (zAW m_n ad s.heap.size) (m_W ad cI cJ cC τ) → va_S (zAW m_n ad s.heap.size) s.heap H1 locs1 → W p l e R s m args below meth c H1 locs1 cells slots Q2 (F0 m (pc + 3) ls (.int r :: rest))) : W p l e R s m args below meth c H locs cells slots Q2 (F0 m pc ls (.int x2 :: .int x1 :: .ref (ad 0) :: rest)) :=
  zcv_i (T := TX12) (N' := 83) (k := 0) (ci := 12) (fs := m_f0 ad σ) [.int x1, .int x2] S0 (c_X12_ways N l dC dI ad cI cJ cC H.size σ x1 x2 Q h) (cw_X12_ways S0.2.2.2.2 hml rfl rfl hR) rfl rfl hK hP hD hS rfl hsz hW rfl hcs hdg kk
end q21
section q21
def b_X12_begins_2 (N : Nat) (k_2 : Int64 → Int32 → zSt → Prop) (Q : zSt → Prop) (x1 : Int64) (x3 : Int32) (σ : zSt) : Prop :=
  w_X12_many N σ (fun r1 τ2 => (r1 ≤ x3 → Q τ2) ∧ (¬ r1 ≤ x3 → w_X12_worthOf N x1 x3 τ2 (fun r3 τ4 => (vp_in x3 10) ∧ (∀ τ5 : zSt, τ5 = zB τ4 4 (vp_updL (τ4.2.2.2 4) (x3.toNatClampNeg) r3) → ∀ v6 : Int32, v6 = x3 + (1 : Int32) → k_2 x1 v6 τ5))))
def w_X12_begins_2 (N : Nat) (Q : zSt → Prop) : Nat → Int64 → Int32 → zSt → Prop
  | 0 => fun _ _ _ => False
  | f + 1 => b_X12_begins_2 N (w_X12_begins_2 N  Q f) Q
def w_X12_begins (N : Nat) (x1 : Int64) (σ : zSt) (Q : zSt → Prop) : Prop :=
  w_X12_begins_2 N Q N x1 (0 : Int32) σ
variable {p : Program} {l : Launch} {e : Env} {s : State} {m : MethodId} {args : Array Value} {below : List Frame} {meth : Method} {c : Code} {dC : Nat → ClassId} {dI : Nat → Nat → Nat} {ad : Nat → Nat} {cI cJ cC : ClassId}
set_option maxHeartbeats 4000000 in
set_option maxRecDepth 100000 in
theorem tb_X12_begins_2 (C0 : zCx p s m meth c args RX12 cX12_begins 4 none vs_X12_begins) (hK : va_K (dC, dI) vwCl (m_ty cI cJ cC) s) (N : Nat) {Q : zSt → Prop} {k_2 : Int64 → Int32 → zSt → Prop} (hk_2 : ∀ (x1 : Int64) (x3 : Int32) (σ : zSt) (H : Heap) (locs : List Loc) (ls : Array Slot), k_2 x1 x3 σ → va_P (dC, dI) vwCl (m_W ad cI cJ cC σ) H → va_D (zAW m_n ad s.heap.size) (m_W ad cI cJ cC σ) → va_S (zAW m_n ad s.heap.size) s.heap H locs → lv_has ls 4 [(0, .ref (ad 0)), (1, .long x1), (3, .int x3)] → W p l e rm_X12_begins s m args below meth c H locs 0 0 (MQ below (zQv (dC, dI) (m_ty cI cJ cC) (m_W ad cI cJ cC) (zAW m_n ad s.heap.size) Q) args s 0 0 (zAW m_n ad s.heap.size)) (F0 m 2 ls [])) : ∀ (x1 : Int64) (x3 : Int32) (σ : zSt) (H : Heap) (locs : List Loc) (ls : Array Slot), b_X12_begins_2 N k_2 Q x1 x3 σ → va_P (dC, dI) vwCl (m_W ad cI cJ cC σ) H → va_D (zAW m_n ad s.heap.size) (m_W ad cI cJ cC σ) → va_S (zAW m_n ad s.heap.size) s.heap H locs → lv_has ls 4 [(0, .ref (ad 0)), (1, .long x1), (3, .int x3)] → W p l e rm_X12_begins s m args below meth c H locs 0 0 (MQ below (zQv (dC, dI) (m_ty cI cJ cC) (m_W ad cI cJ cC) (zAW m_n ad s.heap.size) Q) args s 0 0 (zAW m_n ad s.heap.size)) (F0 m 2 ls []) := by
  obtain ⟨hx, hb, hml, hr, hown, hts, hlocks⟩ := id C0
  intro x1 x3 σ H locs ls h hP hD hS hl
  unfold b_X12_begins_2 at h
  refine lv_iload_n hx hb dX12_begins_2 rfl (lv_at hl 2 rfl) ?_
  refine lv_aload_n hx hb dX12_begins_3 rfl (lv_at hl 0 rfl) ?_
  refine k_X12_many N ⟨hx, hb, hml, hown, hts⟩ mw_1044 ⟨Nat.le_of_ble_eq_true rfl, Nat.le_of_ble_eq_true rfl⟩ h hK hP hD hS hl.1 (rest := [.int x3]) (Nat.le_of_ble_eq_true rfl) ⟨Nat.le_of_ble_eq_true rfl, Nat.le_of_ble_eq_true rfl⟩ dX12_begins_4 (fun r1 τ2 H locs h hP hD hS => ?_)
  refine lv_icmp_ge (tgt := 28) hx hb dX12_begins_7 (by decide) (fun hc => ?_) (fun hc => ?_)
  · have h := h.1 hc
    exact zret_v hx hb hr hlocks hK hP hD hS h dX12_begins_28
  · have h := h.2 hc
    refine lv_aload_n hx hb dX12_begins_10 rfl (lv_at hl 0 rfl) ?_
    refine mg_0_59 hx hb hts hown hK hP mw_892 dX12_begins_11 ?_
    refine lv_iload_n hx hb dX12_begins_14 rfl (lv_at hl 2 rfl) ?_
    refine lv_aload_n hx hb dX12_begins_15 rfl (lv_at hl 0 rfl) ?_
    refine lv_lload_n hx hb dX12_begins_16 rfl (lv_at hl 1 rfl) ?_
    refine lv_iload_n hx hb dX12_begins_17 rfl (lv_at hl 2 rfl) ?_
    refine k_X12_worthOf N ⟨hx, hb, hml, hown, hts⟩ mw_1104 ⟨Nat.le_of_ble_eq_true rfl, Nat.le_of_ble_eq_true rfl⟩ h hK hP hD hS hl.1 (rest := [.int x3, .ref (ad 19)]) (Nat.le_of_ble_eq_true rfl) ⟨Nat.le_of_ble_eq_true rfl, Nat.le_of_ble_eq_true rfl⟩ dX12_begins_18 (fun r3 τ4 H locs h hP hD hS => ?_)
    refine ms_19 hx hb hK hP hD hS h.1 rfl dX12_begins_21 (fun τ5 H locs eτ5 hP hD hS => ?_)
    have h := h.2
    have h := h τ5 eτ5
    obtain ⟨v6, ev6⟩ : ∃ z : Int32, z = x3 + (1 : Int32) := ⟨_, rfl⟩
    have h := h v6 ev6
    refine lv_iinc (v := v6) (lv' := [(3, .int v6), (0, .ref (ad 0)), (1, .long x1)]) hx hb dX12_begins_22 hl (k := 2) rfl (by rw [ev6]; rfl) (by decide) rfl (fun ls hl => ?_)
    refine lv_goto (tgt := 2) hx hb dX12_begins_25 (by decide) ?_
    exact hk_2 x1 v6 τ5 _ _ _ h hP hD hS (lv_sub hl [1, 2, 0] rfl)
set_option maxHeartbeats 4000000 in
set_option maxRecDepth 100000 in
theorem t_X12_begins_2 (C0 : zCx p s m meth c args RX12 cX12_begins 4 none vs_X12_begins) (hK : va_K (dC, dI) vwCl (m_ty cI cJ cC) s) (N : Nat) {Q : zSt → Prop} : ∀ (f : Nat) (x1 : Int64) (x3 : Int32) (σ : zSt) (H : Heap) (locs : List Loc) (ls : Array Slot), w_X12_begins_2 N  Q f x1 x3 σ → va_P (dC, dI) vwCl (m_W ad cI cJ cC σ) H → va_D (zAW m_n ad s.heap.size) (m_W ad cI cJ cC σ) → va_S (zAW m_n ad s.heap.size) s.heap H locs → lv_has ls 4 [(0, .ref (ad 0)), (1, .long x1), (3, .int x3)] → W p l e rm_X12_begins s m args below meth c H locs 0 0 (MQ below (zQv (dC, dI) (m_ty cI cJ cC) (m_W ad cI cJ cC) (zAW m_n ad s.heap.size) Q) args s 0 0 (zAW m_n ad s.heap.size)) (F0 m 2 ls []) := by
  intro f
  induction f with
  | zero => intro x1 x3 σ H locs ls h; exact h.elim
  | succ f ih =>
    intro x1 x3 σ H locs ls h hP hD hS hl
    exact tb_X12_begins_2 C0 hK N  (k_2 := w_X12_begins_2 N  Q f) ih x1 x3 σ H locs ls h hP hD hS hl
set_option maxHeartbeats 4000000 in
set_option maxRecDepth 100000 in
theorem t_X12_begins_0 (C0 : zCx p s m meth c args RX12 cX12_begins 4 none vs_X12_begins) (hK : va_K (dC, dI) vwCl (m_ty cI cJ cC) s) (N : Nat) {Q : zSt → Prop} : ∀ (x1 : Int64) (σ : zSt) (H : Heap) (locs : List Loc) (ls : Array Slot), w_X12_begins N x1 σ Q → va_P (dC, dI) vwCl (m_W ad cI cJ cC σ) H → va_D (zAW m_n ad s.heap.size) (m_W ad cI cJ cC σ) → va_S (zAW m_n ad s.heap.size) s.heap H locs → lv_has ls 4 [(0, .ref (ad 0)), (1, .long x1)] → W p l e rm_X12_begins s m args below meth c H locs 0 0 (MQ below (zQv (dC, dI) (m_ty cI cJ cC) (m_W ad cI cJ cC) (zAW m_n ad s.heap.size) Q) args s 0 0 (zAW m_n ad s.heap.size)) (F0 m 0 ls []) := by
  obtain ⟨hx, hb, hml, hr, hown, hts, hlocks⟩ := id C0
  intro x1 σ H locs ls h hP hD hS hl
  unfold w_X12_begins at h
  refine lv_iconst (v := (0 : Int32)) hx hb dX12_begins_0 (by decide) ?_
  refine lv_istore_n (lv' := [(3, .int (0 : Int32)), (0, .ref (ad 0)), (1, .long x1)]) hx hb dX12_begins_1 rfl hl (by decide) rfl (fun ls hl => ?_)
  exact t_X12_begins_2 C0 hK N  N x1 (0 : Int32) σ _ _ _ h hP hD hS (lv_sub hl [1, 2, 0] rfl)
set_option maxHeartbeats 4000000 in
set_option maxRecDepth 100000 in
theorem c_X12_begins (N : Nat) (l : Launch) (dC : Nat → ClassId) (dI : Nat → Nat → Nat) (ad : Nat → Nat) (cI cJ cC : ClassId) (sz : Nat) (σ : zSt) (x1 : Int64) (Q : zSt → Prop) (h : w_X12_begins N x1 σ Q) : Met l yX12_begins vs_X12_begins rm_X12_begins (va_Pc [.ref (ad 0), .long x1] (zPc (dC, dI) (m_ty cI cJ cC) (m_W ad cI cJ cC) sz σ)) (zQv (dC, dI) (m_ty cI cJ cC) (m_W ad cI cJ cC) (zAW m_n ad sz) Q) 0 0 (zAW m_n ad sz) := by
  refine Met.ofW (cc := cX12_begins) (maxL := 4) (ret := none) (by decide) rfl ?_
  intro p e s m args below meth c s₁ B hml hv
  obtain ⟨rfl, hsz, hP, hK, hD0⟩ := hv
  subst hsz
  have C0 : zCx p s m meth c _ RX12 cX12_begins 4 none vs_X12_begins := ⟨B.exec, B.bytes, hml, B.returns, findClass_of_methodNamed B.named, atoms_spec (ws := vs_X12_begins) B.pre, B.notSynchronized⟩
  have hD := m_D0 (n0 := s.heap.size) hD0
  have hl := lv_entry ([.ref (ad 0), .long x1]) (n := 4) (Nat.le_of_ble_eq_true rfl)
  rw [lg_entry_eq]
  generalize (lg_sl ([.ref (ad 0), .long x1]) ++ List.replicate (4 - (lg_sl ([.ref (ad 0), .long x1])).length) Slot.unset).toArray = ls at hl ⊢
  exact t_X12_begins_0 C0 hK N x1 σ _ _ ls h hP hD va_S.rf hl
theorem k_X12_begins (N : Nat) {R : Room} {H : Heap} {locs : List Loc} {cells slots : Nat} {Q2 : State → Prop} {cc : ByteArray} {nL pc index : Nat} {ls : Array Slot} {rest : List Value} {own : String} {c0 : Cond} {σ : zSt} {x1 : Int64} {Q : zSt → Prop} (S0 : CallFix p m c cc nL s args (c0 :: zT) own) (hml : Cond.methodLink own index yX12_begins ∈ zT) (hR : rm_X12_begins.frames + 1 ≤ R.frames ∧ 8 + (4 + 11) + rm_X12_begins.locals ≤ R.locals) (h : w_X12_begins N x1 σ Q) (hK : va_K (dC, dI) vwCl (m_ty cI cJ cC) s) (hP : va_P (dC, dI) vwCl (m_W ad cI cJ cC σ) H) (hD : va_D (zAW m_n ad s.heap.size) (m_W ad cI cJ cC σ)) (hS : va_S (zAW m_n ad s.heap.size) s.heap H locs) (hsz : ls.size = nL) (hW : (rest.map fun v => v.category).sum ≤ 8) (hcs : cells ≤ R.cells ∧ slots ≤ R.slots) (hdg : decode cc pc = .ok (.invokevirtual index, 3)) (kk : ∀ (τ : zSt) (H1 : Heap) (locs1 : List Loc), Q τ → va_P (dC, dI) vwCl (m_W ad cI cJ cC τ) H1 → va_D (zAW m_n ad s.heap.size) (m_W ad cI cJ cC τ) → va_S (zAW m_n ad s.heap.size) s.heap H1 locs1 → W p l e R s m args below meth c H1 locs1 cells slots Q2 (F0 m (pc + 3) ls (rest))) : W p l e R s m args below meth c H locs cells slots Q2 (F0 m pc ls (.long x1 :: .ref (ad 0) :: rest)) :=
  zcv_v (T := TX12) (N' := 83) (k := 0) (ci := 12) (fs := m_f0 ad σ) [.long x1] S0 (c_X12_begins N l dC dI ad cI cJ cC H.size σ x1 Q h) (cw_X12_begins S0.2.2.2.2 hml rfl rfl hR) rfl rfl hK hP hD hS rfl hsz hW rfl hcs hdg kk
end q21
section q21
def w_X12_finds (N : Nat) (x1 : Int32) (x2 : Int32) (x3 : Int64) (σ : zSt) (Q : Int32 → zSt → Prop) : Prop :=
  ∀ τ1 : zSt, τ1 = zI σ 20 x1 → ∀ τ2 : zSt, τ2 = zI τ1 21 x2 → ∀ τ3 : zSt, τ3 = zJ τ2 2 x3 → Q (1 : Int32) τ3
variable {p : Program} {l : Launch} {e : Env} {s : State} {m : MethodId} {args : Array Value} {below : List Frame} {meth : Method} {c : Code} {dC : Nat → ClassId} {dI : Nat → Nat → Nat} {ad : Nat → Nat} {cI cJ cC : ClassId}
set_option maxHeartbeats 4000000 in
set_option maxRecDepth 100000 in
theorem t_X12_finds_0 (C0 : zCx p s m meth c args RX12 cX12_finds 5 (some .boolean) vs_X12_finds) (hK : va_K (dC, dI) vwCl (m_ty cI cJ cC) s) (N : Nat) {Q : Int32 → zSt → Prop} : ∀ (x1 : Int32) (x2 : Int32) (x3 : Int64) (σ : zSt) (H : Heap) (locs : List Loc) (ls : Array Slot), w_X12_finds N x1 x2 x3 σ Q → va_P (dC, dI) vwCl (m_W ad cI cJ cC σ) H → va_D (zAW m_n ad s.heap.size) (m_W ad cI cJ cC σ) → va_S (zAW m_n ad s.heap.size) s.heap H locs → lv_has ls 5 [(0, .ref (ad 0)), (1, .int x1), (2, .int x2), (3, .long x3)] → W p l e rm_X12_finds s m args below meth c H locs 0 0 (MQ below (zQi (dC, dI) (m_ty cI cJ cC) (m_W ad cI cJ cC) (zAW m_n ad s.heap.size) Q) args s 0 0 (zAW m_n ad s.heap.size)) (F0 m 0 ls []) := by
  obtain ⟨hx, hb, hml, hr, hown, hts, hlocks⟩ := id C0
  intro x1 x2 x3 σ H locs ls h hP hD hS hl
  unfold w_X12_finds at h
  refine lv_aload_n hx hb dX12_finds_0 rfl (lv_at hl 0 rfl) ?_
  refine lv_iload_n hx hb dX12_finds_1 rfl (lv_at hl 1 rfl) ?_
  refine mp_0_60 hx hb hts hown hK hP hD hS mw_893 dX12_finds_2 (fun τ1 H locs eτ1 hP hD hS => ?_)
  have h := h τ1 eτ1
  refine lv_aload_n hx hb dX12_finds_5 rfl (lv_at hl 0 rfl) ?_
  refine lv_iload_n hx hb dX12_finds_6 rfl (lv_at hl 2 rfl) ?_
  refine mp_0_61 hx hb hts hown hK hP hD hS mw_894 dX12_finds_7 (fun τ2 H locs eτ2 hP hD hS => ?_)
  have h := h τ2 eτ2
  refine lv_aload_n hx hb dX12_finds_10 rfl (lv_at hl 0 rfl) ?_
  refine lv_lload_n hx hb dX12_finds_11 rfl (lv_at hl 3 rfl) ?_
  refine mp_0_62 hx hb hts hown hK hP hD hS mw_895 dX12_finds_12 (fun τ3 H locs eτ3 hP hD hS => ?_)
  have h := h τ3 eτ3
  refine lv_iconst (v := (1 : Int32)) hx hb dX12_finds_15 (by decide) ?_
  exact zret_z hx hb hr hlocks hK hP hD hS zb_1 h dX12_finds_16
set_option maxHeartbeats 4000000 in
set_option maxRecDepth 100000 in
theorem c_X12_finds (N : Nat) (l : Launch) (dC : Nat → ClassId) (dI : Nat → Nat → Nat) (ad : Nat → Nat) (cI cJ cC : ClassId) (sz : Nat) (σ : zSt) (x1 : Int32) (x2 : Int32) (x3 : Int64) (Q : Int32 → zSt → Prop) (h : w_X12_finds N x1 x2 x3 σ Q) : Met l yX12_finds vs_X12_finds rm_X12_finds (va_Pc [.ref (ad 0), .int x1, .int x2, .long x3] (zPc (dC, dI) (m_ty cI cJ cC) (m_W ad cI cJ cC) sz σ)) (zQi (dC, dI) (m_ty cI cJ cC) (m_W ad cI cJ cC) (zAW m_n ad sz) Q) 0 0 (zAW m_n ad sz) := by
  refine Met.ofW (cc := cX12_finds) (maxL := 5) (ret := (some .boolean)) (by decide) rfl ?_
  intro p e s m args below meth c s₁ B hml hv
  obtain ⟨rfl, hsz, hP, hK, hD0⟩ := hv
  subst hsz
  have C0 : zCx p s m meth c _ RX12 cX12_finds 5 (some .boolean) vs_X12_finds := ⟨B.exec, B.bytes, hml, B.returns, findClass_of_methodNamed B.named, atoms_spec (ws := vs_X12_finds) B.pre, B.notSynchronized⟩
  have hD := m_D0 (n0 := s.heap.size) hD0
  have hl := lv_entry ([.ref (ad 0), .int x1, .int x2, .long x3]) (n := 5) (Nat.le_of_ble_eq_true rfl)
  rw [lg_entry_eq]
  generalize (lg_sl ([.ref (ad 0), .int x1, .int x2, .long x3]) ++ List.replicate (5 - (lg_sl ([.ref (ad 0), .int x1, .int x2, .long x3])).length) Slot.unset).toArray = ls at hl ⊢
  exact t_X12_finds_0 C0 hK N x1 x2 x3 σ _ _ ls h hP hD va_S.rf hl
theorem k_X12_finds (N : Nat) {R : Room} {H : Heap} {locs : List Loc} {cells slots : Nat} {Q2 : State → Prop} {cc : ByteArray} {nL pc index : Nat} {ls : Array Slot} {rest : List Value} {own : String} {c0 : Cond} {σ : zSt} {x1 : Int32} {x2 : Int32} {x3 : Int64} {Q : Int32 → zSt → Prop} (S0 : CallFix p m c cc nL s args (c0 :: zT) own) (hml : Cond.methodLink own index yX12_finds ∈ zT) (hR : rm_X12_finds.frames + 1 ≤ R.frames ∧ 8 + (5 + 11) + rm_X12_finds.locals ≤ R.locals) (h : w_X12_finds N x1 x2 x3 σ Q) (hK : va_K (dC, dI) vwCl (m_ty cI cJ cC) s) (hP : va_P (dC, dI) vwCl (m_W ad cI cJ cC σ) H) (hD : va_D (zAW m_n ad s.heap.size) (m_W ad cI cJ cC σ)) (hS : va_S (zAW m_n ad s.heap.size) s.heap H locs) (hsz : ls.size = nL) (hW : (rest.map fun v => v.category).sum ≤ 8) (hcs : cells ≤ R.cells ∧ slots ≤ R.slots) (hdg : decode cc pc = .ok (.invokevirtual index, 3)) (kk : ∀ (r : Int32) (τ : zSt) (H1 : Heap) (locs1 : List Loc), Q r τ → va_P (dC, dI) vwCl (m_W ad cI cJ cC τ) H1 → va_D (zAW m_n ad s.heap.size) (m_W ad cI cJ cC τ) → va_S (zAW m_n ad s.heap.size) s.heap H1 locs1 → W p l e R s m args below meth c H1 locs1 cells slots Q2 (F0 m (pc + 3) ls (.int r :: rest))) : W p l e R s m args below meth c H locs cells slots Q2 (F0 m pc ls (.long x3 :: .int x2 :: .int x1 :: .ref (ad 0) :: rest)) :=
  zcv_i (T := TX12) (N' := 83) (k := 0) (ci := 12) (fs := m_f0 ad σ) [.int x1, .int x2, .long x3] S0 (c_X12_finds N l dC dI ad cI cJ cC H.size σ x1 x2 x3 Q h) (cw_X12_finds S0.2.2.2.2 hml rfl rfl hR) rfl rfl hK hP hD hS rfl hsz hW rfl hcs hdg kk
end q21
section q21
def b_X12_highOf_2 (N : Nat) (k_2 : Int32 → Int32 → zSt → Prop) (Q : Int32 → zSt → Prop) (x0 : Int32) (x1 : Int32) (σ : zSt) : Prop :=
  (x0 < ((x1 * (x1 + (1 : Int32))) / (2 : Int32)) → Q x1 σ) ∧ (¬ x0 < ((x1 * (x1 + (1 : Int32))) / (2 : Int32)) → ∀ v1 : Int32, v1 = x1 + (1 : Int32) → k_2 x0 v1 σ)
def w_X12_highOf_2 (N : Nat) (Q : Int32 → zSt → Prop) : Nat → Int32 → Int32 → zSt → Prop
  | 0 => fun _ _ _ => False
  | f + 1 => b_X12_highOf_2 N (w_X12_highOf_2 N  Q f) Q
def w_X12_highOf (N : Nat) (x0 : Int32) (σ : zSt) (Q : Int32 → zSt → Prop) : Prop :=
  w_X12_highOf_2 N Q N x0 (1 : Int32) σ
variable {p : Program} {l : Launch} {e : Env} {s : State} {m : MethodId} {args : Array Value} {below : List Frame} {meth : Method} {c : Code} {dC : Nat → ClassId} {dI : Nat → Nat → Nat} {ad : Nat → Nat} {cI cJ cC : ClassId}
set_option maxHeartbeats 4000000 in
set_option maxRecDepth 100000 in
theorem tb_X12_highOf_2 (C0 : zCx p s m meth c args RX12 cX12_highOf 2 (some .int) vs_X12_highOf) (hK : va_K (dC, dI) vwCl (m_ty cI cJ cC) s) (N : Nat) {Q : Int32 → zSt → Prop} {k_2 : Int32 → Int32 → zSt → Prop} (hk_2 : ∀ (x0 : Int32) (x1 : Int32) (σ : zSt) (H : Heap) (locs : List Loc) (ls : Array Slot), k_2 x0 x1 σ → va_P (dC, dI) vwCl (m_W ad cI cJ cC σ) H → va_D (zAW m_n ad s.heap.size) (m_W ad cI cJ cC σ) → va_S (zAW m_n ad s.heap.size) s.heap H locs → lv_has ls 2 [(0, .int x0), (1, .int x1)] → W p l e rm_X12_highOf s m args below meth c H locs 0 0 (MQ below (zQi (dC, dI) (m_ty cI cJ cC) (m_W ad cI cJ cC) (zAW m_n ad s.heap.size) Q) args s 0 0 (zAW m_n ad s.heap.size)) (F0 m 2 ls [])) : ∀ (x0 : Int32) (x1 : Int32) (σ : zSt) (H : Heap) (locs : List Loc) (ls : Array Slot), b_X12_highOf_2 N k_2 Q x0 x1 σ → va_P (dC, dI) vwCl (m_W ad cI cJ cC σ) H → va_D (zAW m_n ad s.heap.size) (m_W ad cI cJ cC σ) → va_S (zAW m_n ad s.heap.size) s.heap H locs → lv_has ls 2 [(0, .int x0), (1, .int x1)] → W p l e rm_X12_highOf s m args below meth c H locs 0 0 (MQ below (zQi (dC, dI) (m_ty cI cJ cC) (m_W ad cI cJ cC) (zAW m_n ad s.heap.size) Q) args s 0 0 (zAW m_n ad s.heap.size)) (F0 m 2 ls []) := by
  obtain ⟨hx, hb, hml, hr, hown, hts, hlocks⟩ := id C0
  intro x0 x1 σ H locs ls h hP hD hS hl
  unfold b_X12_highOf_2 at h
  refine lv_iload_n hx hb dX12_highOf_2 rfl (lv_at hl 1 rfl) ?_
  refine lv_iload_n hx hb dX12_highOf_3 rfl (lv_at hl 1 rfl) ?_
  refine lv_iconst (v := (1 : Int32)) hx hb dX12_highOf_4 (by decide) ?_
  refine lv_iadd hx hb dX12_highOf_5 ?_
  refine lv_imul hx hb dX12_highOf_6 ?_
  refine lv_iconst (v := (2 : Int32)) hx hb dX12_highOf_7 (by decide) ?_
  refine lv_idiv hx hb dX12_highOf_8 (by decide) ?_
  refine lv_iload_n hx hb dX12_highOf_9 rfl (lv_at hl 0 rfl) ?_
  refine lv_icmp_gt (tgt := 19) hx hb dX12_highOf_10 (by decide) (fun hc => ?_) (fun hc => ?_)
  · have h := h.1 hc
    refine lv_iload_n hx hb dX12_highOf_19 rfl (lv_at hl 1 rfl) ?_
    exact zret_i hx hb hr hlocks hK hP hD hS h dX12_highOf_20
  · have h := h.2 hc
    obtain ⟨v1, ev1⟩ : ∃ z : Int32, z = x1 + (1 : Int32) := ⟨_, rfl⟩
    have h := h v1 ev1
    refine lv_iinc (v := v1) (lv' := [(1, .int v1), (0, .int x0)]) hx hb dX12_highOf_13 hl (k := 1) rfl (by rw [ev1]; rfl) (by decide) rfl (fun ls hl => ?_)
    refine lv_goto (tgt := 2) hx hb dX12_highOf_16 (by decide) ?_
    exact hk_2 x0 v1 σ _ _ _ h hP hD hS (lv_sub hl [1, 0] rfl)
set_option maxHeartbeats 4000000 in
set_option maxRecDepth 100000 in
theorem t_X12_highOf_2 (C0 : zCx p s m meth c args RX12 cX12_highOf 2 (some .int) vs_X12_highOf) (hK : va_K (dC, dI) vwCl (m_ty cI cJ cC) s) (N : Nat) {Q : Int32 → zSt → Prop} : ∀ (f : Nat) (x0 : Int32) (x1 : Int32) (σ : zSt) (H : Heap) (locs : List Loc) (ls : Array Slot), w_X12_highOf_2 N  Q f x0 x1 σ → va_P (dC, dI) vwCl (m_W ad cI cJ cC σ) H → va_D (zAW m_n ad s.heap.size) (m_W ad cI cJ cC σ) → va_S (zAW m_n ad s.heap.size) s.heap H locs → lv_has ls 2 [(0, .int x0), (1, .int x1)] → W p l e rm_X12_highOf s m args below meth c H locs 0 0 (MQ below (zQi (dC, dI) (m_ty cI cJ cC) (m_W ad cI cJ cC) (zAW m_n ad s.heap.size) Q) args s 0 0 (zAW m_n ad s.heap.size)) (F0 m 2 ls []) := by
  intro f
  induction f with
  | zero => intro x0 x1 σ H locs ls h; exact h.elim
  | succ f ih =>
    intro x0 x1 σ H locs ls h hP hD hS hl
    exact tb_X12_highOf_2 C0 hK N  (k_2 := w_X12_highOf_2 N  Q f) ih x0 x1 σ H locs ls h hP hD hS hl
set_option maxHeartbeats 4000000 in
set_option maxRecDepth 100000 in
theorem t_X12_highOf_0 (C0 : zCx p s m meth c args RX12 cX12_highOf 2 (some .int) vs_X12_highOf) (hK : va_K (dC, dI) vwCl (m_ty cI cJ cC) s) (N : Nat) {Q : Int32 → zSt → Prop} : ∀ (x0 : Int32) (σ : zSt) (H : Heap) (locs : List Loc) (ls : Array Slot), w_X12_highOf N x0 σ Q → va_P (dC, dI) vwCl (m_W ad cI cJ cC σ) H → va_D (zAW m_n ad s.heap.size) (m_W ad cI cJ cC σ) → va_S (zAW m_n ad s.heap.size) s.heap H locs → lv_has ls 2 [(0, .int x0)] → W p l e rm_X12_highOf s m args below meth c H locs 0 0 (MQ below (zQi (dC, dI) (m_ty cI cJ cC) (m_W ad cI cJ cC) (zAW m_n ad s.heap.size) Q) args s 0 0 (zAW m_n ad s.heap.size)) (F0 m 0 ls []) := by
  obtain ⟨hx, hb, hml, hr, hown, hts, hlocks⟩ := id C0
  intro x0 σ H locs ls h hP hD hS hl
  unfold w_X12_highOf at h
  refine lv_iconst (v := (1 : Int32)) hx hb dX12_highOf_0 (by decide) ?_
  refine lv_istore_n (lv' := [(1, .int (1 : Int32)), (0, .int x0)]) hx hb dX12_highOf_1 rfl hl (by decide) rfl (fun ls hl => ?_)
  exact t_X12_highOf_2 C0 hK N  N x0 (1 : Int32) σ _ _ _ h hP hD hS (lv_sub hl [1, 0] rfl)
set_option maxHeartbeats 4000000 in
set_option maxRecDepth 100000 in
theorem c_X12_highOf (N : Nat) (l : Launch) (dC : Nat → ClassId) (dI : Nat → Nat → Nat) (ad : Nat → Nat) (cI cJ cC : ClassId) (sz : Nat) (σ : zSt) (x0 : Int32) (Q : Int32 → zSt → Prop) (h : w_X12_highOf N x0 σ Q) : Met l yX12_highOf vs_X12_highOf rm_X12_highOf (va_Pc [.int x0] (zPc (dC, dI) (m_ty cI cJ cC) (m_W ad cI cJ cC) sz σ)) (zQi (dC, dI) (m_ty cI cJ cC) (m_W ad cI cJ cC) (zAW m_n ad sz) Q) 0 0 (zAW m_n ad sz) := by
  refine Met.ofW (cc := cX12_highOf) (maxL := 2) (ret := (some .int)) (by decide) rfl ?_
  intro p e s m args below meth c s₁ B hml hv
  obtain ⟨rfl, hsz, hP, hK, hD0⟩ := hv
  subst hsz
  have C0 : zCx p s m meth c _ RX12 cX12_highOf 2 (some .int) vs_X12_highOf := ⟨B.exec, B.bytes, hml, B.returns, findClass_of_methodNamed B.named, atoms_spec (ws := vs_X12_highOf) B.pre, B.notSynchronized⟩
  have hD := m_D0 (n0 := s.heap.size) hD0
  have hl := lv_entry ([.int x0]) (n := 2) (Nat.le_of_ble_eq_true rfl)
  rw [lg_entry_eq]
  generalize (lg_sl ([.int x0]) ++ List.replicate (2 - (lg_sl ([.int x0])).length) Slot.unset).toArray = ls at hl ⊢
  exact t_X12_highOf_0 C0 hK N x0 σ _ _ ls h hP hD va_S.rf hl
theorem k_X12_highOf (N : Nat) {R : Room} {H : Heap} {locs : List Loc} {cells slots : Nat} {Q2 : State → Prop} {cc : ByteArray} {nL pc index : Nat} {ls : Array Slot} {rest : List Value} {own : String} {c0 : Cond} {σ : zSt} {x0 : Int32} {Q : Int32 → zSt → Prop} (S0 : CallFix p m c cc nL s args (c0 :: zT) own) (hml : Cond.methodLink own index yX12_highOf ∈ zT) (hR : rm_X12_highOf.frames + 1 ≤ R.frames ∧ 8 + (2 + 11) + rm_X12_highOf.locals ≤ R.locals) (h : w_X12_highOf N x0 σ Q) (hK : va_K (dC, dI) vwCl (m_ty cI cJ cC) s) (hP : va_P (dC, dI) vwCl (m_W ad cI cJ cC σ) H) (hD : va_D (zAW m_n ad s.heap.size) (m_W ad cI cJ cC σ)) (hS : va_S (zAW m_n ad s.heap.size) s.heap H locs) (hsz : ls.size = nL) (hW : (rest.map fun v => v.category).sum ≤ 8) (hcs : cells ≤ R.cells ∧ slots ≤ R.slots) (hdg : decode cc pc = .ok (.invokestatic index, 3)) (kk : ∀ (r : Int32) (τ : zSt) (H1 : Heap) (locs1 : List Loc), Q r τ → va_P (dC, dI) vwCl (m_W ad cI cJ cC τ) H1 → va_D (zAW m_n ad s.heap.size) (m_W ad cI cJ cC τ) → va_S (zAW m_n ad s.heap.size) s.heap H1 locs1 → W p l e R s m args below meth c H1 locs1 cells slots Q2 (F0 m (pc + 3) ls (.int r :: rest))) : W p l e R s m args below meth c H locs cells slots Q2 (F0 m pc ls (.int x0 :: rest)) :=
  zcs_i [.int x0] S0 (c_X12_highOf N l dC dI ad cI cJ cC H.size σ x0 Q h) (cw_X12_highOf S0.2.2.2.2 hml hR) hK hP hD hS rfl hsz hW rfl hcs hdg kk
end q21
section q21
def w_X12_lowOf (N : Nat) (x0 : Int32) (σ : zSt) (Q : Int32 → zSt → Prop) : Prop :=
  w_X12_highOf N x0 σ (fun r1 τ2 => Q (x0 - ((r1 * (r1 - (1 : Int32))) / (2 : Int32))) τ2)
variable {p : Program} {l : Launch} {e : Env} {s : State} {m : MethodId} {args : Array Value} {below : List Frame} {meth : Method} {c : Code} {dC : Nat → ClassId} {dI : Nat → Nat → Nat} {ad : Nat → Nat} {cI cJ cC : ClassId}
set_option maxHeartbeats 4000000 in
set_option maxRecDepth 100000 in
theorem t_X12_lowOf_0 (C0 : zCx p s m meth c args RX12 cX12_lowOf 2 (some .int) vs_X12_lowOf) (hK : va_K (dC, dI) vwCl (m_ty cI cJ cC) s) (N : Nat) {Q : Int32 → zSt → Prop} : ∀ (x0 : Int32) (σ : zSt) (H : Heap) (locs : List Loc) (ls : Array Slot), w_X12_lowOf N x0 σ Q → va_P (dC, dI) vwCl (m_W ad cI cJ cC σ) H → va_D (zAW m_n ad s.heap.size) (m_W ad cI cJ cC σ) → va_S (zAW m_n ad s.heap.size) s.heap H locs → lv_has ls 2 [(0, .int x0)] → W p l e rm_X12_lowOf s m args below meth c H locs 0 0 (MQ below (zQi (dC, dI) (m_ty cI cJ cC) (m_W ad cI cJ cC) (zAW m_n ad s.heap.size) Q) args s 0 0 (zAW m_n ad s.heap.size)) (F0 m 0 ls []) := by
  obtain ⟨hx, hb, hml, hr, hown, hts, hlocks⟩ := id C0
  intro x0 σ H locs ls h hP hD hS hl
  unfold w_X12_lowOf at h
  refine lv_iload_n hx hb dX12_lowOf_0 rfl (lv_at hl 0 rfl) ?_
  refine k_X12_highOf N ⟨hx, hb, hml, hown, hts⟩ mw_1157 ⟨Nat.le_of_ble_eq_true rfl, Nat.le_of_ble_eq_true rfl⟩ h hK hP hD hS hl.1 (rest := []) (Nat.le_of_ble_eq_true rfl) ⟨Nat.le_of_ble_eq_true rfl, Nat.le_of_ble_eq_true rfl⟩ dX12_lowOf_1 (fun r1 τ2 H locs h hP hD hS => ?_)
  refine lv_istore_n (lv' := [(1, .int r1), (0, .int x0)]) hx hb dX12_lowOf_4 rfl hl (by decide) rfl (fun ls hl => ?_)
  refine lv_iload_n hx hb dX12_lowOf_5 rfl (lv_at hl 1 rfl) ?_
  refine lv_iload_n hx hb dX12_lowOf_6 rfl (lv_at hl 0 rfl) ?_
  refine lv_iload_n hx hb dX12_lowOf_7 rfl (lv_at hl 0 rfl) ?_
  refine lv_iconst (v := (1 : Int32)) hx hb dX12_lowOf_8 (by decide) ?_
  refine lv_isub hx hb dX12_lowOf_9 ?_
  refine lv_imul hx hb dX12_lowOf_10 ?_
  refine lv_iconst (v := (2 : Int32)) hx hb dX12_lowOf_11 (by decide) ?_
  refine lv_idiv hx hb dX12_lowOf_12 (by decide) ?_
  refine lv_isub hx hb dX12_lowOf_13 ?_
  exact zret_i hx hb hr hlocks hK hP hD hS h dX12_lowOf_14
set_option maxHeartbeats 4000000 in
set_option maxRecDepth 100000 in
theorem c_X12_lowOf (N : Nat) (l : Launch) (dC : Nat → ClassId) (dI : Nat → Nat → Nat) (ad : Nat → Nat) (cI cJ cC : ClassId) (sz : Nat) (σ : zSt) (x0 : Int32) (Q : Int32 → zSt → Prop) (h : w_X12_lowOf N x0 σ Q) : Met l yX12_lowOf vs_X12_lowOf rm_X12_lowOf (va_Pc [.int x0] (zPc (dC, dI) (m_ty cI cJ cC) (m_W ad cI cJ cC) sz σ)) (zQi (dC, dI) (m_ty cI cJ cC) (m_W ad cI cJ cC) (zAW m_n ad sz) Q) 0 0 (zAW m_n ad sz) := by
  refine Met.ofW (cc := cX12_lowOf) (maxL := 2) (ret := (some .int)) (by decide) rfl ?_
  intro p e s m args below meth c s₁ B hml hv
  obtain ⟨rfl, hsz, hP, hK, hD0⟩ := hv
  subst hsz
  have C0 : zCx p s m meth c _ RX12 cX12_lowOf 2 (some .int) vs_X12_lowOf := ⟨B.exec, B.bytes, hml, B.returns, findClass_of_methodNamed B.named, atoms_spec (ws := vs_X12_lowOf) B.pre, B.notSynchronized⟩
  have hD := m_D0 (n0 := s.heap.size) hD0
  have hl := lv_entry ([.int x0]) (n := 2) (Nat.le_of_ble_eq_true rfl)
  rw [lg_entry_eq]
  generalize (lg_sl ([.int x0]) ++ List.replicate (2 - (lg_sl ([.int x0])).length) Slot.unset).toArray = ls at hl ⊢
  exact t_X12_lowOf_0 C0 hK N x0 σ _ _ ls h hP hD va_S.rf hl
theorem k_X12_lowOf (N : Nat) {R : Room} {H : Heap} {locs : List Loc} {cells slots : Nat} {Q2 : State → Prop} {cc : ByteArray} {nL pc index : Nat} {ls : Array Slot} {rest : List Value} {own : String} {c0 : Cond} {σ : zSt} {x0 : Int32} {Q : Int32 → zSt → Prop} (S0 : CallFix p m c cc nL s args (c0 :: zT) own) (hml : Cond.methodLink own index yX12_lowOf ∈ zT) (hR : rm_X12_lowOf.frames + 1 ≤ R.frames ∧ 8 + (2 + 11) + rm_X12_lowOf.locals ≤ R.locals) (h : w_X12_lowOf N x0 σ Q) (hK : va_K (dC, dI) vwCl (m_ty cI cJ cC) s) (hP : va_P (dC, dI) vwCl (m_W ad cI cJ cC σ) H) (hD : va_D (zAW m_n ad s.heap.size) (m_W ad cI cJ cC σ)) (hS : va_S (zAW m_n ad s.heap.size) s.heap H locs) (hsz : ls.size = nL) (hW : (rest.map fun v => v.category).sum ≤ 8) (hcs : cells ≤ R.cells ∧ slots ≤ R.slots) (hdg : decode cc pc = .ok (.invokestatic index, 3)) (kk : ∀ (r : Int32) (τ : zSt) (H1 : Heap) (locs1 : List Loc), Q r τ → va_P (dC, dI) vwCl (m_W ad cI cJ cC τ) H1 → va_D (zAW m_n ad s.heap.size) (m_W ad cI cJ cC τ) → va_S (zAW m_n ad s.heap.size) s.heap H1 locs1 → W p l e R s m args below meth c H1 locs1 cells slots Q2 (F0 m (pc + 3) ls (.int r :: rest))) : W p l e R s m args below meth c H locs cells slots Q2 (F0 m pc ls (.int x0 :: rest)) :=
  zcs_i [.int x0] S0 (c_X12_lowOf N l dC dI ad cI cJ cC H.size σ x0 Q h) (cw_X12_lowOf S0.2.2.2.2 hml hR) hK hP hD hS rfl hsz hW rfl hcs hdg kk
end q21
section q21
def w_X12_gains (N : Nat) (x1 : Int64) (x3 : Int32) (σ : zSt) (Q : Int32 → zSt → Prop) : Prop :=
  w_X12_worthOf N x1 x3 σ (fun r1 τ2 => (vp_in x3 10) ∧ (((lg_cmp r1 (τ2.2.2.2 4 x3.toNatClampNeg)) ≤ 0 → Q (0 : Int32) τ2) ∧ (¬ (lg_cmp r1 (τ2.2.2.2 4 x3.toNatClampNeg)) ≤ 0 → Q (1 : Int32) τ2)))
variable {p : Program} {l : Launch} {e : Env} {s : State} {m : MethodId} {args : Array Value} {below : List Frame} {meth : Method} {c : Code} {dC : Nat → ClassId} {dI : Nat → Nat → Nat} {ad : Nat → Nat} {cI cJ cC : ClassId}
set_option maxHeartbeats 4000000 in
set_option maxRecDepth 100000 in
theorem t_X12_gains_0 (C0 : zCx p s m meth c args RX12 cX12_gains 4 (some .boolean) vs_X12_gains) (hK : va_K (dC, dI) vwCl (m_ty cI cJ cC) s) (N : Nat) {Q : Int32 → zSt → Prop} : ∀ (x1 : Int64) (x3 : Int32) (σ : zSt) (H : Heap) (locs : List Loc) (ls : Array Slot), w_X12_gains N x1 x3 σ Q → va_P (dC, dI) vwCl (m_W ad cI cJ cC σ) H → va_D (zAW m_n ad s.heap.size) (m_W ad cI cJ cC σ) → va_S (zAW m_n ad s.heap.size) s.heap H locs → lv_has ls 4 [(0, .ref (ad 0)), (1, .long x1), (3, .int x3)] → W p l e rm_X12_gains s m args below meth c H locs 0 0 (MQ below (zQi (dC, dI) (m_ty cI cJ cC) (m_W ad cI cJ cC) (zAW m_n ad s.heap.size) Q) args s 0 0 (zAW m_n ad s.heap.size)) (F0 m 0 ls []) := by
  obtain ⟨hx, hb, hml, hr, hown, hts, hlocks⟩ := id C0
  intro x1 x3 σ H locs ls h hP hD hS hl
  unfold w_X12_gains at h
  refine lv_aload_n hx hb dX12_gains_0 rfl (lv_at hl 0 rfl) ?_
  refine lv_lload_n hx hb dX12_gains_1 rfl (lv_at hl 1 rfl) ?_
  refine lv_iload_n hx hb dX12_gains_2 rfl (lv_at hl 2 rfl) ?_
  refine k_X12_worthOf N ⟨hx, hb, hml, hown, hts⟩ mw_1104 ⟨Nat.le_of_ble_eq_true rfl, Nat.le_of_ble_eq_true rfl⟩ h hK hP hD hS hl.1 (rest := []) (Nat.le_of_ble_eq_true rfl) ⟨Nat.le_of_ble_eq_true rfl, Nat.le_of_ble_eq_true rfl⟩ dX12_gains_3 (fun r1 τ2 H locs h hP hD hS => ?_)
  refine lv_aload_n hx hb dX12_gains_6 rfl (lv_at hl 0 rfl) ?_
  refine mg_0_59 hx hb hts hown hK hP mw_892 dX12_gains_7 ?_
  refine lv_iload_n hx hb dX12_gains_10 rfl (lv_at hl 2 rfl) ?_
  refine ma_19 hx hb hK hP h.1 rfl dX12_gains_11 ?_
  have h := h.2
  refine W.lcmp hx hb dX12_gains_12 ?_
  refine lv_if_le (tgt := 20) hx hb dX12_gains_13 (by decide) (fun hc => ?_) (fun hc => ?_)
  · have h := h.1 hc
    refine lv_iconst (v := (0 : Int32)) hx hb dX12_gains_20 (by decide) ?_
    exact zret_z hx hb hr hlocks hK hP hD hS zb_0 h dX12_gains_21
  · have h := h.2 hc
    refine lv_iconst (v := (1 : Int32)) hx hb dX12_gains_16 (by decide) ?_
    refine lv_goto (tgt := 21) hx hb dX12_gains_17 (by decide) ?_
    exact zret_z hx hb hr hlocks hK hP hD hS zb_1 h dX12_gains_21
set_option maxHeartbeats 4000000 in
set_option maxRecDepth 100000 in
theorem c_X12_gains (N : Nat) (l : Launch) (dC : Nat → ClassId) (dI : Nat → Nat → Nat) (ad : Nat → Nat) (cI cJ cC : ClassId) (sz : Nat) (σ : zSt) (x1 : Int64) (x3 : Int32) (Q : Int32 → zSt → Prop) (h : w_X12_gains N x1 x3 σ Q) : Met l yX12_gains vs_X12_gains rm_X12_gains (va_Pc [.ref (ad 0), .long x1, .int x3] (zPc (dC, dI) (m_ty cI cJ cC) (m_W ad cI cJ cC) sz σ)) (zQi (dC, dI) (m_ty cI cJ cC) (m_W ad cI cJ cC) (zAW m_n ad sz) Q) 0 0 (zAW m_n ad sz) := by
  refine Met.ofW (cc := cX12_gains) (maxL := 4) (ret := (some .boolean)) (by decide) rfl ?_
  intro p e s m args below meth c s₁ B hml hv
  obtain ⟨rfl, hsz, hP, hK, hD0⟩ := hv
  subst hsz
  have C0 : zCx p s m meth c _ RX12 cX12_gains 4 (some .boolean) vs_X12_gains := ⟨B.exec, B.bytes, hml, B.returns, findClass_of_methodNamed B.named, atoms_spec (ws := vs_X12_gains) B.pre, B.notSynchronized⟩
  have hD := m_D0 (n0 := s.heap.size) hD0
  have hl := lv_entry ([.ref (ad 0), .long x1, .int x3]) (n := 4) (Nat.le_of_ble_eq_true rfl)
  rw [lg_entry_eq]
  generalize (lg_sl ([.ref (ad 0), .long x1, .int x3]) ++ List.replicate (4 - (lg_sl ([.ref (ad 0), .long x1, .int x3])).length) Slot.unset).toArray = ls at hl ⊢
  exact t_X12_gains_0 C0 hK N x1 x3 σ _ _ ls h hP hD va_S.rf hl
theorem k_X12_gains (N : Nat) {R : Room} {H : Heap} {locs : List Loc} {cells slots : Nat} {Q2 : State → Prop} {cc : ByteArray} {nL pc index : Nat} {ls : Array Slot} {rest : List Value} {own : String} {c0 : Cond} {σ : zSt} {x1 : Int64} {x3 : Int32} {Q : Int32 → zSt → Prop} (S0 : CallFix p m c cc nL s args (c0 :: zT) own) (hml : Cond.methodLink own index yX12_gains ∈ zT) (hR : rm_X12_gains.frames + 1 ≤ R.frames ∧ 8 + (4 + 11) + rm_X12_gains.locals ≤ R.locals) (h : w_X12_gains N x1 x3 σ Q) (hK : va_K (dC, dI) vwCl (m_ty cI cJ cC) s) (hP : va_P (dC, dI) vwCl (m_W ad cI cJ cC σ) H) (hD : va_D (zAW m_n ad s.heap.size) (m_W ad cI cJ cC σ)) (hS : va_S (zAW m_n ad s.heap.size) s.heap H locs) (hsz : ls.size = nL) (hW : (rest.map fun v => v.category).sum ≤ 8) (hcs : cells ≤ R.cells ∧ slots ≤ R.slots) (hdg : decode cc pc = .ok (.invokevirtual index, 3)) (kk : ∀ (r : Int32) (τ : zSt) (H1 : Heap) (locs1 : List Loc), Q r τ → va_P (dC, dI) vwCl (m_W ad cI cJ cC τ) H1 → va_D (zAW m_n ad s.heap.size) (m_W ad cI cJ cC τ) → va_S (zAW m_n ad s.heap.size) s.heap H1 locs1 → W p l e R s m args below meth c H1 locs1 cells slots Q2 (F0 m (pc + 3) ls (.int r :: rest))) : W p l e R s m args below meth c H locs cells slots Q2 (F0 m pc ls (.int x3 :: .long x1 :: .ref (ad 0) :: rest)) :=
  zcv_i (T := TX12) (N' := 83) (k := 0) (ci := 12) (fs := m_f0 ad σ) [.long x1, .int x3] S0 (c_X12_gains N l dC dI ad cI cJ cC H.size σ x1 x3 Q h) (cw_X12_gains S0.2.2.2.2 hml rfl rfl hR) rfl rfl hK hP hD hS rfl hsz hW rfl hcs hdg kk
end q21
section q21
def w_X12_cutter (N : Nat) (x1 : Int64) (x3 : Int32) (σ : zSt) (Q : Int32 → zSt → Prop) : Prop :=
  ∀ v1 : Int64, v1 = x1 &&& (((1 : Int64) <<< (x3.toInt64 &&& 63)) ^^^ (-1 : Int64)) → w_X12_lowOf N x3 σ (fun r2 τ3 => w_X12_highOf N x3 τ3 (fun r4 τ5 => w_X12_gains N v1 r2 τ5 (fun r6 τ7 => (r6 = 0 → w_X12_gains N v1 r4 τ7 (fun r8 τ9 => (r8 = 0 → Q (-1 : Int32) τ9) ∧ (¬ r8 = 0 → Q r4 τ9))) ∧ (¬ r6 = 0 → Q r2 τ7))))
variable {p : Program} {l : Launch} {e : Env} {s : State} {m : MethodId} {args : Array Value} {below : List Frame} {meth : Method} {c : Code} {dC : Nat → ClassId} {dI : Nat → Nat → Nat} {ad : Nat → Nat} {cI cJ cC : ClassId}
set_option maxHeartbeats 4000000 in
set_option maxRecDepth 100000 in
theorem t_X12_cutter_0 (C0 : zCx p s m meth c args RX12 cX12_cutter 8 (some .int) vs_X12_cutter) (hK : va_K (dC, dI) vwCl (m_ty cI cJ cC) s) (N : Nat) {Q : Int32 → zSt → Prop} : ∀ (x1 : Int64) (x3 : Int32) (σ : zSt) (H : Heap) (locs : List Loc) (ls : Array Slot), w_X12_cutter N x1 x3 σ Q → va_P (dC, dI) vwCl (m_W ad cI cJ cC σ) H → va_D (zAW m_n ad s.heap.size) (m_W ad cI cJ cC σ) → va_S (zAW m_n ad s.heap.size) s.heap H locs → lv_has ls 8 [(0, .ref (ad 0)), (1, .long x1), (3, .int x3)] → W p l e rm_X12_cutter s m args below meth c H locs 0 0 (MQ below (zQi (dC, dI) (m_ty cI cJ cC) (m_W ad cI cJ cC) (zAW m_n ad s.heap.size) Q) args s 0 0 (zAW m_n ad s.heap.size)) (F0 m 0 ls []) := by
  obtain ⟨hx, hb, hml, hr, hown, hts, hlocks⟩ := id C0
  intro x1 x3 σ H locs ls h hP hD hS hl
  unfold w_X12_cutter at h
  refine lv_lload_n hx hb dX12_cutter_0 rfl (lv_at hl 1 rfl) ?_
  refine lv_lconst (v := (1 : Int64)) hx hb dX12_cutter_1 (by decide) ?_
  refine lv_iload_n hx hb dX12_cutter_2 rfl (lv_at hl 2 rfl) ?_
  refine lv_lshl hx hb dX12_cutter_3 rfl ?_
  refine lv_ldc2 (v := (-1 : Int64)) hx hb hown (hts _ (List.mem_cons_of_mem _ mw_832)) dX12_cutter_4 ?_
  refine lv_lxor hx hb dX12_cutter_7 ?_
  refine lv_land hx hb dX12_cutter_8 ?_
  refine lv_topl (fun v1 ev1 => ?_)
  have h := h v1 ev1
  refine lv_lstore (lv' := [(4, .long v1), (0, .ref (ad 0)), (1, .long x1), (3, .int x3)]) hx hb dX12_cutter_9 hl (by decide) rfl (fun ls hl => ?_)
  refine lv_iload_n hx hb dX12_cutter_11 rfl (lv_at hl 3 rfl) ?_
  refine k_X12_lowOf N ⟨hx, hb, hml, hown, hts⟩ mw_1154 ⟨Nat.le_of_ble_eq_true rfl, Nat.le_of_ble_eq_true rfl⟩ h hK hP hD hS hl.1 (rest := []) (Nat.le_of_ble_eq_true rfl) ⟨Nat.le_of_ble_eq_true rfl, Nat.le_of_ble_eq_true rfl⟩ dX12_cutter_12 (fun r2 τ3 H locs h hP hD hS => ?_)
  refine lv_istore (lv' := [(6, .int r2), (4, .long v1), (0, .ref (ad 0)), (1, .long x1), (3, .int x3)]) hx hb dX12_cutter_15 hl (by decide) rfl (fun ls hl => ?_)
  refine lv_iload_n hx hb dX12_cutter_17 rfl (lv_at hl 4 rfl) ?_
  refine k_X12_highOf N ⟨hx, hb, hml, hown, hts⟩ mw_1157 ⟨Nat.le_of_ble_eq_true rfl, Nat.le_of_ble_eq_true rfl⟩ h hK hP hD hS hl.1 (rest := []) (Nat.le_of_ble_eq_true rfl) ⟨Nat.le_of_ble_eq_true rfl, Nat.le_of_ble_eq_true rfl⟩ dX12_cutter_18 (fun r4 τ5 H locs h hP hD hS => ?_)
  refine lv_istore (lv' := [(7, .int r4), (6, .int r2), (4, .long v1), (0, .ref (ad 0)), (1, .long x1), (3, .int x3)]) hx hb dX12_cutter_21 hl (by decide) rfl (fun ls hl => ?_)
  refine lv_aload_n hx hb dX12_cutter_23 rfl (lv_at hl 3 rfl) ?_
  refine lv_lload hx hb dX12_cutter_24 (lv_at hl 2 rfl) ?_
  refine lv_iload hx hb dX12_cutter_26 (lv_at hl 1 rfl) ?_
  refine k_X12_gains N ⟨hx, hb, hml, hown, hts⟩ mw_1175 ⟨Nat.le_of_ble_eq_true rfl, Nat.le_of_ble_eq_true rfl⟩ h hK hP hD hS hl.1 (rest := []) (Nat.le_of_ble_eq_true rfl) ⟨Nat.le_of_ble_eq_true rfl, Nat.le_of_ble_eq_true rfl⟩ dX12_cutter_28 (fun r6 τ7 H locs h hP hD hS => ?_)
  refine lv_if_eq (tgt := 39) hx hb dX12_cutter_31 (by decide) (fun hc => ?_) (fun hc => ?_)
  · have h := h.1 hc
    refine lv_aload_n hx hb dX12_cutter_39 rfl (lv_at hl 3 rfl) ?_
    refine lv_lload hx hb dX12_cutter_40 (lv_at hl 2 rfl) ?_
    refine lv_iload hx hb dX12_cutter_42 (lv_at hl 0 rfl) ?_
    refine k_X12_gains N ⟨hx, hb, hml, hown, hts⟩ mw_1175 ⟨Nat.le_of_ble_eq_true rfl, Nat.le_of_ble_eq_true rfl⟩ h hK hP hD hS hl.1 (rest := []) (Nat.le_of_ble_eq_true rfl) ⟨Nat.le_of_ble_eq_true rfl, Nat.le_of_ble_eq_true rfl⟩ dX12_cutter_44 (fun r8 τ9 H locs h hP hD hS => ?_)
    refine lv_if_eq (tgt := 55) hx hb dX12_cutter_47 (by decide) (fun hc => ?_) (fun hc => ?_)
    · have h := h.1 hc
      refine lv_iconst (v := (-1 : Int32)) hx hb dX12_cutter_55 (by decide) ?_
      exact zret_i hx hb hr hlocks hK hP hD hS h dX12_cutter_56
    · have h := h.2 hc
      refine lv_iload hx hb dX12_cutter_50 (lv_at hl 0 rfl) ?_
      refine lv_goto (tgt := 56) hx hb dX12_cutter_52 (by decide) ?_
      exact zret_i hx hb hr hlocks hK hP hD hS h dX12_cutter_56
  · have h := h.2 hc
    refine lv_iload hx hb dX12_cutter_34 (lv_at hl 1 rfl) ?_
    refine lv_goto (tgt := 56) hx hb dX12_cutter_36 (by decide) ?_
    exact zret_i hx hb hr hlocks hK hP hD hS h dX12_cutter_56
set_option maxHeartbeats 4000000 in
set_option maxRecDepth 100000 in
theorem c_X12_cutter (N : Nat) (l : Launch) (dC : Nat → ClassId) (dI : Nat → Nat → Nat) (ad : Nat → Nat) (cI cJ cC : ClassId) (sz : Nat) (σ : zSt) (x1 : Int64) (x3 : Int32) (Q : Int32 → zSt → Prop) (h : w_X12_cutter N x1 x3 σ Q) : Met l yX12_cutter vs_X12_cutter rm_X12_cutter (va_Pc [.ref (ad 0), .long x1, .int x3] (zPc (dC, dI) (m_ty cI cJ cC) (m_W ad cI cJ cC) sz σ)) (zQi (dC, dI) (m_ty cI cJ cC) (m_W ad cI cJ cC) (zAW m_n ad sz) Q) 0 0 (zAW m_n ad sz) := by
  refine Met.ofW (cc := cX12_cutter) (maxL := 8) (ret := (some .int)) (by decide) rfl ?_
  intro p e s m args below meth c s₁ B hml hv
  obtain ⟨rfl, hsz, hP, hK, hD0⟩ := hv
  subst hsz
  have C0 : zCx p s m meth c _ RX12 cX12_cutter 8 (some .int) vs_X12_cutter := ⟨B.exec, B.bytes, hml, B.returns, findClass_of_methodNamed B.named, atoms_spec (ws := vs_X12_cutter) B.pre, B.notSynchronized⟩
  have hD := m_D0 (n0 := s.heap.size) hD0
  have hl := lv_entry ([.ref (ad 0), .long x1, .int x3]) (n := 8) (Nat.le_of_ble_eq_true rfl)
  rw [lg_entry_eq]
  generalize (lg_sl ([.ref (ad 0), .long x1, .int x3]) ++ List.replicate (8 - (lg_sl ([.ref (ad 0), .long x1, .int x3])).length) Slot.unset).toArray = ls at hl ⊢
  exact t_X12_cutter_0 C0 hK N x1 x3 σ _ _ ls h hP hD va_S.rf hl
theorem k_X12_cutter (N : Nat) {R : Room} {H : Heap} {locs : List Loc} {cells slots : Nat} {Q2 : State → Prop} {cc : ByteArray} {nL pc index : Nat} {ls : Array Slot} {rest : List Value} {own : String} {c0 : Cond} {σ : zSt} {x1 : Int64} {x3 : Int32} {Q : Int32 → zSt → Prop} (S0 : CallFix p m c cc nL s args (c0 :: zT) own) (hml : Cond.methodLink own index yX12_cutter ∈ zT) (hR : rm_X12_cutter.frames + 1 ≤ R.frames ∧ 8 + (8 + 11) + rm_X12_cutter.locals ≤ R.locals) (h : w_X12_cutter N x1 x3 σ Q) (hK : va_K (dC, dI) vwCl (m_ty cI cJ cC) s) (hP : va_P (dC, dI) vwCl (m_W ad cI cJ cC σ) H) (hD : va_D (zAW m_n ad s.heap.size) (m_W ad cI cJ cC σ)) (hS : va_S (zAW m_n ad s.heap.size) s.heap H locs) (hsz : ls.size = nL) (hW : (rest.map fun v => v.category).sum ≤ 8) (hcs : cells ≤ R.cells ∧ slots ≤ R.slots) (hdg : decode cc pc = .ok (.invokevirtual index, 3)) (kk : ∀ (r : Int32) (τ : zSt) (H1 : Heap) (locs1 : List Loc), Q r τ → va_P (dC, dI) vwCl (m_W ad cI cJ cC τ) H1 → va_D (zAW m_n ad s.heap.size) (m_W ad cI cJ cC τ) → va_S (zAW m_n ad s.heap.size) s.heap H1 locs1 → W p l e R s m args below meth c H1 locs1 cells slots Q2 (F0 m (pc + 3) ls (.int r :: rest))) : W p l e R s m args below meth c H locs cells slots Q2 (F0 m pc ls (.int x3 :: .long x1 :: .ref (ad 0) :: rest)) :=
  zcv_i (T := TX12) (N' := 83) (k := 0) (ci := 12) (fs := m_f0 ad σ) [.long x1, .int x3] S0 (c_X12_cutter N l dC dI ad cI cJ cC H.size σ x1 x3 Q h) (cw_X12_cutter S0.2.2.2.2 hml rfl rfl hR) rfl rfl hK hP hD hS rfl hsz hW rfl hcs hdg kk
end q21
section q21
def b_X12_findsCut_28 (N : Nat) (k_2 : Int64 → Int32 → zSt → Prop) (Q : Int32 → zSt → Prop) (x1 : Int64) (x3 : Int32) (s0 : Int32) (σ : zSt) : Prop :=
  (s0 = (-1 : Int32) → ∀ v1 : Int32, v1 = x3 + (1 : Int32) → k_2 x1 v1 σ) ∧ (¬ s0 = (-1 : Int32) → w_X12_finds N (0 : Int32) ((1 : Int32) <<< (s0 &&& 31)) (x1 &&& (((1 : Int64) <<< (x3.toInt64 &&& 63)) ^^^ (-1 : Int64))) σ (fun r2 τ3 => (zb r2) ∧ Q r2 τ3))
def b_X12_findsCut_2 (N : Nat) (k_2 : Int64 → Int32 → zSt → Prop) (Q : Int32 → zSt → Prop) (x1 : Int64) (x3 : Int32) (σ : zSt) : Prop :=
  w_X12_pairs N σ (fun r1 τ2 => (r1 ≤ x3 → Q (0 : Int32) τ2) ∧ (¬ r1 ≤ x3 → w_X12_isTied N x1 x3 τ2 (fun r3 τ4 => (r3 = 0 → b_X12_findsCut_28 N k_2 Q x1 x3 (-1 : Int32) τ4) ∧ (¬ r3 = 0 → w_X12_cutter N x1 x3 τ4 (fun r5 τ6 => b_X12_findsCut_28 N k_2 Q x1 x3 r5 τ6)))))
def w_X12_findsCut_2 (N : Nat) (Q : Int32 → zSt → Prop) : Nat → Int64 → Int32 → zSt → Prop
  | 0 => fun _ _ _ => False
  | f + 1 => b_X12_findsCut_2 N (w_X12_findsCut_2 N  Q f) Q
def w_X12_findsCut (N : Nat) (x1 : Int64) (σ : zSt) (Q : Int32 → zSt → Prop) : Prop :=
  w_X12_findsCut_2 N Q N x1 (0 : Int32) σ
variable {p : Program} {l : Launch} {e : Env} {s : State} {m : MethodId} {args : Array Value} {below : List Frame} {meth : Method} {c : Code} {dC : Nat → ClassId} {dI : Nat → Nat → Nat} {ad : Nat → Nat} {cI cJ cC : ClassId}
set_option maxHeartbeats 4000000 in
set_option maxRecDepth 100000 in
theorem t_X12_findsCut_28 (C0 : zCx p s m meth c args RX12 cX12_findsCut 5 (some .boolean) vs_X12_findsCut) (hK : va_K (dC, dI) vwCl (m_ty cI cJ cC) s) (N : Nat) {Q : Int32 → zSt → Prop} {k_2 : Int64 → Int32 → zSt → Prop} (hk_2 : ∀ (x1 : Int64) (x3 : Int32) (σ : zSt) (H : Heap) (locs : List Loc) (ls : Array Slot), k_2 x1 x3 σ → va_P (dC, dI) vwCl (m_W ad cI cJ cC σ) H → va_D (zAW m_n ad s.heap.size) (m_W ad cI cJ cC σ) → va_S (zAW m_n ad s.heap.size) s.heap H locs → lv_has ls 5 [(0, .ref (ad 0)), (1, .long x1), (3, .int x3)] → W p l e rm_X12_findsCut s m args below meth c H locs 0 0 (MQ below (zQi (dC, dI) (m_ty cI cJ cC) (m_W ad cI cJ cC) (zAW m_n ad s.heap.size) Q) args s 0 0 (zAW m_n ad s.heap.size)) (F0 m 2 ls [])) : ∀ (x1 : Int64) (x3 : Int32) (s0 : Int32) (σ : zSt) (H : Heap) (locs : List Loc) (ls : Array Slot), b_X12_findsCut_28 N k_2 Q x1 x3 s0 σ → va_P (dC, dI) vwCl (m_W ad cI cJ cC σ) H → va_D (zAW m_n ad s.heap.size) (m_W ad cI cJ cC σ) → va_S (zAW m_n ad s.heap.size) s.heap H locs → lv_has ls 5 [(0, .ref (ad 0)), (1, .long x1), (3, .int x3)] → W p l e rm_X12_findsCut s m args below meth c H locs 0 0 (MQ below (zQi (dC, dI) (m_ty cI cJ cC) (m_W ad cI cJ cC) (zAW m_n ad s.heap.size) Q) args s 0 0 (zAW m_n ad s.heap.size)) (F0 m 28 ls [.int s0]) := by
  obtain ⟨hx, hb, hml, hr, hown, hts, hlocks⟩ := id C0
  intro x1 x3 s0 σ H locs ls h hP hD hS hl
  unfold b_X12_findsCut_28 at h
  refine lv_istore (lv' := [(4, .int s0), (0, .ref (ad 0)), (1, .long x1), (3, .int x3)]) hx hb dX12_findsCut_28 hl (by decide) rfl (fun ls hl => ?_)
  refine lv_iload hx hb dX12_findsCut_30 (lv_at hl 0 rfl) ?_
  refine lv_iconst (v := (-1 : Int32)) hx hb dX12_findsCut_32 (by decide) ?_
  refine lv_icmp_eq (tgt := 55) hx hb dX12_findsCut_33 (by decide) (fun hc => ?_) (fun hc => ?_)
  · have h := h.1 hc
    obtain ⟨v1, ev1⟩ : ∃ z : Int32, z = x3 + (1 : Int32) := ⟨_, rfl⟩
    have h := h v1 ev1
    refine lv_iinc (v := v1) (lv' := [(3, .int v1), (4, .int s0), (0, .ref (ad 0)), (1, .long x1)]) hx hb dX12_findsCut_55 hl (k := 3) rfl (by rw [ev1]; rfl) (by decide) rfl (fun ls hl => ?_)
    refine lv_goto (tgt := 2) hx hb dX12_findsCut_58 (by decide) ?_
    exact hk_2 x1 v1 σ _ _ _ h hP hD hS (lv_sub hl [2, 3, 0] rfl)
  · have h := h.2 hc
    refine lv_aload_n hx hb dX12_findsCut_36 rfl (lv_at hl 1 rfl) ?_
    refine lv_iconst (v := (0 : Int32)) hx hb dX12_findsCut_37 (by decide) ?_
    refine lv_iconst (v := (1 : Int32)) hx hb dX12_findsCut_38 (by decide) ?_
    refine lv_iload hx hb dX12_findsCut_39 (lv_at hl 0 rfl) ?_
    refine lv_ishl hx hb dX12_findsCut_41 ?_
    refine lv_lload_n hx hb dX12_findsCut_42 rfl (lv_at hl 2 rfl) ?_
    refine lv_lconst (v := (1 : Int64)) hx hb dX12_findsCut_43 (by decide) ?_
    refine lv_iload_n hx hb dX12_findsCut_44 rfl (lv_at hl 3 rfl) ?_
    refine lv_lshl hx hb dX12_findsCut_45 rfl ?_
    refine lv_ldc2 (v := (-1 : Int64)) hx hb hown (hts _ (List.mem_cons_of_mem _ mw_832)) dX12_findsCut_46 ?_
    refine lv_lxor hx hb dX12_findsCut_49 ?_
    refine lv_land hx hb dX12_findsCut_50 ?_
    refine k_X12_finds N ⟨hx, hb, hml, hown, hts⟩ mw_1160 ⟨Nat.le_of_ble_eq_true rfl, Nat.le_of_ble_eq_true rfl⟩ h hK hP hD hS hl.1 (rest := []) (Nat.le_of_ble_eq_true rfl) ⟨Nat.le_of_ble_eq_true rfl, Nat.le_of_ble_eq_true rfl⟩ dX12_findsCut_51 (fun r2 τ3 H locs h hP hD hS => ?_)
    exact zret_z hx hb hr hlocks hK hP hD hS h.1 h.2 dX12_findsCut_54
set_option maxHeartbeats 4000000 in
set_option maxRecDepth 100000 in
theorem tb_X12_findsCut_2 (C0 : zCx p s m meth c args RX12 cX12_findsCut 5 (some .boolean) vs_X12_findsCut) (hK : va_K (dC, dI) vwCl (m_ty cI cJ cC) s) (N : Nat) {Q : Int32 → zSt → Prop} {k_2 : Int64 → Int32 → zSt → Prop} (hk_2 : ∀ (x1 : Int64) (x3 : Int32) (σ : zSt) (H : Heap) (locs : List Loc) (ls : Array Slot), k_2 x1 x3 σ → va_P (dC, dI) vwCl (m_W ad cI cJ cC σ) H → va_D (zAW m_n ad s.heap.size) (m_W ad cI cJ cC σ) → va_S (zAW m_n ad s.heap.size) s.heap H locs → lv_has ls 5 [(0, .ref (ad 0)), (1, .long x1), (3, .int x3)] → W p l e rm_X12_findsCut s m args below meth c H locs 0 0 (MQ below (zQi (dC, dI) (m_ty cI cJ cC) (m_W ad cI cJ cC) (zAW m_n ad s.heap.size) Q) args s 0 0 (zAW m_n ad s.heap.size)) (F0 m 2 ls [])) : ∀ (x1 : Int64) (x3 : Int32) (σ : zSt) (H : Heap) (locs : List Loc) (ls : Array Slot), b_X12_findsCut_2 N k_2 Q x1 x3 σ → va_P (dC, dI) vwCl (m_W ad cI cJ cC σ) H → va_D (zAW m_n ad s.heap.size) (m_W ad cI cJ cC σ) → va_S (zAW m_n ad s.heap.size) s.heap H locs → lv_has ls 5 [(0, .ref (ad 0)), (1, .long x1), (3, .int x3)] → W p l e rm_X12_findsCut s m args below meth c H locs 0 0 (MQ below (zQi (dC, dI) (m_ty cI cJ cC) (m_W ad cI cJ cC) (zAW m_n ad s.heap.size) Q) args s 0 0 (zAW m_n ad s.heap.size)) (F0 m 2 ls []) := by
  obtain ⟨hx, hb, hml, hr, hown, hts, hlocks⟩ := id C0
  intro x1 x3 σ H locs ls h hP hD hS hl
  unfold b_X12_findsCut_2 at h
  refine lv_iload_n hx hb dX12_findsCut_2 rfl (lv_at hl 2 rfl) ?_
  refine lv_aload_n hx hb dX12_findsCut_3 rfl (lv_at hl 0 rfl) ?_
  refine k_X12_pairs N ⟨hx, hb, hml, hown, hts⟩ mw_1047 ⟨Nat.le_of_ble_eq_true rfl, Nat.le_of_ble_eq_true rfl⟩ h hK hP hD hS hl.1 (rest := [.int x3]) (Nat.le_of_ble_eq_true rfl) ⟨Nat.le_of_ble_eq_true rfl, Nat.le_of_ble_eq_true rfl⟩ dX12_findsCut_4 (fun r1 τ2 H locs h hP hD hS => ?_)
  refine lv_icmp_ge (tgt := 61) hx hb dX12_findsCut_7 (by decide) (fun hc => ?_) (fun hc => ?_)
  · have h := h.1 hc
    refine lv_iconst (v := (0 : Int32)) hx hb dX12_findsCut_61 (by decide) ?_
    exact zret_z hx hb hr hlocks hK hP hD hS zb_0 h dX12_findsCut_62
  · have h := h.2 hc
    refine lv_lload_n hx hb dX12_findsCut_10 rfl (lv_at hl 1 rfl) ?_
    refine lv_iload_n hx hb dX12_findsCut_11 rfl (lv_at hl 2 rfl) ?_
    refine k_X12_isTied N ⟨hx, hb, hml, hown, hts⟩ mw_1071 ⟨Nat.le_of_ble_eq_true rfl, Nat.le_of_ble_eq_true rfl⟩ h hK hP hD hS hl.1 (rest := []) (Nat.le_of_ble_eq_true rfl) ⟨Nat.le_of_ble_eq_true rfl, Nat.le_of_ble_eq_true rfl⟩ dX12_findsCut_12 (fun r3 τ4 H locs h hP hD hS => ?_)
    refine lv_if_eq (tgt := 27) hx hb dX12_findsCut_15 (by decide) (fun hc => ?_) (fun hc => ?_)
    · have h := h.1 hc
      refine lv_iconst (v := (-1 : Int32)) hx hb dX12_findsCut_27 (by decide) ?_
      exact t_X12_findsCut_28 C0 hK N hk_2 x1 x3 (-1 : Int32) τ4 _ _ _ h hP hD hS (lv_sub hl [0, 1, 2] rfl)
    · have h := h.2 hc
      refine lv_aload_n hx hb dX12_findsCut_18 rfl (lv_at hl 0 rfl) ?_
      refine lv_lload_n hx hb dX12_findsCut_19 rfl (lv_at hl 1 rfl) ?_
      refine lv_iload_n hx hb dX12_findsCut_20 rfl (lv_at hl 2 rfl) ?_
      refine k_X12_cutter N ⟨hx, hb, hml, hown, hts⟩ mw_1172 ⟨Nat.le_of_ble_eq_true rfl, Nat.le_of_ble_eq_true rfl⟩ h hK hP hD hS hl.1 (rest := []) (Nat.le_of_ble_eq_true rfl) ⟨Nat.le_of_ble_eq_true rfl, Nat.le_of_ble_eq_true rfl⟩ dX12_findsCut_21 (fun r5 τ6 H locs h hP hD hS => ?_)
      refine lv_goto (tgt := 28) hx hb dX12_findsCut_24 (by decide) ?_
      exact t_X12_findsCut_28 C0 hK N hk_2 x1 x3 r5 τ6 _ _ _ h hP hD hS (lv_sub hl [0, 1, 2] rfl)
set_option maxHeartbeats 4000000 in
set_option maxRecDepth 100000 in
theorem t_X12_findsCut_2 (C0 : zCx p s m meth c args RX12 cX12_findsCut 5 (some .boolean) vs_X12_findsCut) (hK : va_K (dC, dI) vwCl (m_ty cI cJ cC) s) (N : Nat) {Q : Int32 → zSt → Prop} : ∀ (f : Nat) (x1 : Int64) (x3 : Int32) (σ : zSt) (H : Heap) (locs : List Loc) (ls : Array Slot), w_X12_findsCut_2 N  Q f x1 x3 σ → va_P (dC, dI) vwCl (m_W ad cI cJ cC σ) H → va_D (zAW m_n ad s.heap.size) (m_W ad cI cJ cC σ) → va_S (zAW m_n ad s.heap.size) s.heap H locs → lv_has ls 5 [(0, .ref (ad 0)), (1, .long x1), (3, .int x3)] → W p l e rm_X12_findsCut s m args below meth c H locs 0 0 (MQ below (zQi (dC, dI) (m_ty cI cJ cC) (m_W ad cI cJ cC) (zAW m_n ad s.heap.size) Q) args s 0 0 (zAW m_n ad s.heap.size)) (F0 m 2 ls []) := by
  intro f
  induction f with
  | zero => intro x1 x3 σ H locs ls h; exact h.elim
  | succ f ih =>
    intro x1 x3 σ H locs ls h hP hD hS hl
    exact tb_X12_findsCut_2 C0 hK N  (k_2 := w_X12_findsCut_2 N  Q f) ih x1 x3 σ H locs ls h hP hD hS hl
set_option maxHeartbeats 4000000 in
set_option maxRecDepth 100000 in
theorem t_X12_findsCut_0 (C0 : zCx p s m meth c args RX12 cX12_findsCut 5 (some .boolean) vs_X12_findsCut) (hK : va_K (dC, dI) vwCl (m_ty cI cJ cC) s) (N : Nat) {Q : Int32 → zSt → Prop} : ∀ (x1 : Int64) (σ : zSt) (H : Heap) (locs : List Loc) (ls : Array Slot), w_X12_findsCut N x1 σ Q → va_P (dC, dI) vwCl (m_W ad cI cJ cC σ) H → va_D (zAW m_n ad s.heap.size) (m_W ad cI cJ cC σ) → va_S (zAW m_n ad s.heap.size) s.heap H locs → lv_has ls 5 [(0, .ref (ad 0)), (1, .long x1)] → W p l e rm_X12_findsCut s m args below meth c H locs 0 0 (MQ below (zQi (dC, dI) (m_ty cI cJ cC) (m_W ad cI cJ cC) (zAW m_n ad s.heap.size) Q) args s 0 0 (zAW m_n ad s.heap.size)) (F0 m 0 ls []) := by
  obtain ⟨hx, hb, hml, hr, hown, hts, hlocks⟩ := id C0
  intro x1 σ H locs ls h hP hD hS hl
  unfold w_X12_findsCut at h
  refine lv_iconst (v := (0 : Int32)) hx hb dX12_findsCut_0 (by decide) ?_
  refine lv_istore_n (lv' := [(3, .int (0 : Int32)), (0, .ref (ad 0)), (1, .long x1)]) hx hb dX12_findsCut_1 rfl hl (by decide) rfl (fun ls hl => ?_)
  exact t_X12_findsCut_2 C0 hK N  N x1 (0 : Int32) σ _ _ _ h hP hD hS (lv_sub hl [1, 2, 0] rfl)
set_option maxHeartbeats 4000000 in
set_option maxRecDepth 100000 in
theorem c_X12_findsCut (N : Nat) (l : Launch) (dC : Nat → ClassId) (dI : Nat → Nat → Nat) (ad : Nat → Nat) (cI cJ cC : ClassId) (sz : Nat) (σ : zSt) (x1 : Int64) (Q : Int32 → zSt → Prop) (h : w_X12_findsCut N x1 σ Q) : Met l yX12_findsCut vs_X12_findsCut rm_X12_findsCut (va_Pc [.ref (ad 0), .long x1] (zPc (dC, dI) (m_ty cI cJ cC) (m_W ad cI cJ cC) sz σ)) (zQi (dC, dI) (m_ty cI cJ cC) (m_W ad cI cJ cC) (zAW m_n ad sz) Q) 0 0 (zAW m_n ad sz) := by
  refine Met.ofW (cc := cX12_findsCut) (maxL := 5) (ret := (some .boolean)) (by decide) rfl ?_
  intro p e s m args below meth c s₁ B hml hv
  obtain ⟨rfl, hsz, hP, hK, hD0⟩ := hv
  subst hsz
  have C0 : zCx p s m meth c _ RX12 cX12_findsCut 5 (some .boolean) vs_X12_findsCut := ⟨B.exec, B.bytes, hml, B.returns, findClass_of_methodNamed B.named, atoms_spec (ws := vs_X12_findsCut) B.pre, B.notSynchronized⟩
  have hD := m_D0 (n0 := s.heap.size) hD0
  have hl := lv_entry ([.ref (ad 0), .long x1]) (n := 5) (Nat.le_of_ble_eq_true rfl)
  rw [lg_entry_eq]
  generalize (lg_sl ([.ref (ad 0), .long x1]) ++ List.replicate (5 - (lg_sl ([.ref (ad 0), .long x1])).length) Slot.unset).toArray = ls at hl ⊢
  exact t_X12_findsCut_0 C0 hK N x1 σ _ _ ls h hP hD va_S.rf hl
theorem k_X12_findsCut (N : Nat) {R : Room} {H : Heap} {locs : List Loc} {cells slots : Nat} {Q2 : State → Prop} {cc : ByteArray} {nL pc index : Nat} {ls : Array Slot} {rest : List Value} {own : String} {c0 : Cond} {σ : zSt} {x1 : Int64} {Q : Int32 → zSt → Prop} (S0 : CallFix p m c cc nL s args (c0 :: zT) own) (hml : Cond.methodLink own index yX12_findsCut ∈ zT) (hR : rm_X12_findsCut.frames + 1 ≤ R.frames ∧ 8 + (5 + 11) + rm_X12_findsCut.locals ≤ R.locals) (h : w_X12_findsCut N x1 σ Q) (hK : va_K (dC, dI) vwCl (m_ty cI cJ cC) s) (hP : va_P (dC, dI) vwCl (m_W ad cI cJ cC σ) H) (hD : va_D (zAW m_n ad s.heap.size) (m_W ad cI cJ cC σ)) (hS : va_S (zAW m_n ad s.heap.size) s.heap H locs) (hsz : ls.size = nL) (hW : (rest.map fun v => v.category).sum ≤ 8) (hcs : cells ≤ R.cells ∧ slots ≤ R.slots) (hdg : decode cc pc = .ok (.invokevirtual index, 3)) (kk : ∀ (r : Int32) (τ : zSt) (H1 : Heap) (locs1 : List Loc), Q r τ → va_P (dC, dI) vwCl (m_W ad cI cJ cC τ) H1 → va_D (zAW m_n ad s.heap.size) (m_W ad cI cJ cC τ) → va_S (zAW m_n ad s.heap.size) s.heap H1 locs1 → W p l e R s m args below meth c H1 locs1 cells slots Q2 (F0 m (pc + 3) ls (.int r :: rest))) : W p l e R s m args below meth c H locs cells slots Q2 (F0 m pc ls (.long x1 :: .ref (ad 0) :: rest)) :=
  zcv_i (T := TX12) (N' := 83) (k := 0) (ci := 12) (fs := m_f0 ad σ) [.long x1] S0 (c_X12_findsCut N l dC dI ad cI cJ cC H.size σ x1 Q h) (cw_X12_findsCut S0.2.2.2.2 hml rfl rfl hR) rfl rfl hK hP hD hS rfl hsz hW rfl hcs hdg kk
end q21
