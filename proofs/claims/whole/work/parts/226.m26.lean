section q26
end q26
section q26
def b_X12_edge_108 (N : Nat) (k_78 : Int32 → Int32 → Int32 → Int32 → Int32 → Int32 → Int32 → Int32 → zSt → Prop) (Q : Int32 → zSt → Prop) (x1 : Int32) (x2 : Int32) (x3 : Int32) (x4 : Int32) (x5 : Int32) (x6 : Int32) (x8 : Int32) (s0 : Int32) (σ : zSt) : Prop :=
  ∀ τ1 : zSt, τ1 = zI σ 14 s0 → w_X12_isRest N (τ1.2.1 0) x1 τ1 (fun r2 τ3 => (r2 = 0 → ∀ v4 : Int32, v4 = x8 + (1 : Int32) → k_78 x1 x2 x3 x4 x5 x6 r2 v4 τ3) ∧ (¬ r2 = 0 → ∀ v5 : Int32, v5 = τ3.1 14 → ∀ v6 : Int32, v6 = x8 + (1 : Int32) → k_78 x1 x2 x3 x4 x5 v5 r2 v6 τ3))
def b_X12_edge_78 (N : Nat) (k_78 : Int32 → Int32 → Int32 → Int32 → Int32 → Int32 → Int32 → Int32 → zSt → Prop) (Q : Int32 → zSt → Prop) (x1 : Int32) (x2 : Int32) (x3 : Int32) (x4 : Int32) (x5 : Int32) (x6 : Int32) (x7 : Int32) (x8 : Int32) (σ : zSt) : Prop :=
  ((x3 - x2) < x8 → ∀ τ1 : zSt, τ1 = zI σ 14 x5 → Q x6 τ1) ∧ (¬ (x3 - x2) < x8 → (x7 = 0 → (x4 = 0 → b_X12_edge_108 N k_78 Q x1 x2 x3 x4 x5 x6 x8 (x2 + x8) σ) ∧ (¬ x4 = 0 → b_X12_edge_108 N k_78 Q x1 x2 x3 x4 x5 x6 x8 (x3 - x8) σ)) ∧ (¬ x7 = 0 → ∀ τ2 : zSt, τ2 = zI σ 14 x5 → Q x6 τ2))
def w_X12_edge_78 (N : Nat) (Q : Int32 → zSt → Prop) : Nat → Int32 → Int32 → Int32 → Int32 → Int32 → Int32 → Int32 → Int32 → zSt → Prop
  | 0 => fun _ _ _ _ _ _ _ _ _ => False
  | f + 1 => b_X12_edge_78 N (w_X12_edge_78 N  Q f) Q
def w_X12_edge (N : Nat) (x1 : Int32) (x2 : Int32) (x3 : Int32) (x4 : Int32) (σ : zSt) (Q : Int32 → zSt → Prop) : Prop :=
  w_X12_many N σ (fun r1 τ2 => ((6 : Int32) < r1 → Q (-1000000001 : Int32) τ2) ∧ (¬ (6 : Int32) < r1 → w_X12_isIn N x1.toInt64 (0 : Int64) (4 : Int64) τ2 (fun r3 τ4 => (r3 = 0 → Q (-1000000001 : Int32) τ4) ∧ (¬ r3 = 0 → w_X12_isIn N x2.toInt64 (-1000 : Int64) (1000 : Int64) τ4 (fun r5 τ6 => (r5 = 0 → Q (-1000000001 : Int32) τ6) ∧ (¬ r5 = 0 → w_X12_isIn N x3.toInt64 x2.toInt64 (1000 : Int64) τ6 (fun r7 τ8 => (r7 = 0 → Q (-1000000001 : Int32) τ8) ∧ (¬ r7 = 0 → ((x3 - x2) ≤ (200 : Int32) → ∀ v9 : Int32, v9 = τ8.1 14 → w_X12_edge_78 N Q N x1 x2 x3 x4 v9 (-1000000000 : Int32) (0 : Int32) (0 : Int32) τ8) ∧ (¬ (x3 - x2) ≤ (200 : Int32) → Q (-1000000001 : Int32) τ8)))))))))
variable {p : Program} {l : Launch} {e : Env} {s : State} {m : MethodId} {args : Array Value} {below : List Frame} {meth : Method} {c : Code} {dC : Nat → ClassId} {dI : Nat → Nat → Nat} {ad : Nat → Nat} {cI cJ cC : ClassId}
set_option maxHeartbeats 4000000 in
set_option maxRecDepth 100000 in
theorem t_X12_edge_108 (C0 : zCx p s m meth c args RX12 cX12_edge 9 (some .int) vs_X12_edge) (hK : va_K (dC, dI) vwCl (m_ty cI cJ cC) s) (N : Nat) {Q : Int32 → zSt → Prop} {k_78 : Int32 → Int32 → Int32 → Int32 → Int32 → Int32 → Int32 → Int32 → zSt → Prop} (hk_78 : ∀ (x1 : Int32) (x2 : Int32) (x3 : Int32) (x4 : Int32) (x5 : Int32) (x6 : Int32) (x7 : Int32) (x8 : Int32) (σ : zSt) (H : Heap) (locs : List Loc) (ls : Array Slot), k_78 x1 x2 x3 x4 x5 x6 x7 x8 σ → va_P (dC, dI) vwCl (m_W ad cI cJ cC σ) H → va_D (zAW m_n ad s.heap.size) (m_W ad cI cJ cC σ) → va_S (zAW m_n ad s.heap.size) s.heap H locs → lv_has ls 9 [(0, .ref (ad 0)), (1, .int x1), (2, .int x2), (3, .int x3), (4, .int x4), (5, .int x5), (6, .int x6), (7, .int x7), (8, .int x8)] → W p l e rm_X12_edge s m args below meth c H locs 0 0 (MQ below (zQi (dC, dI) (m_ty cI cJ cC) (m_W ad cI cJ cC) (zAW m_n ad s.heap.size) Q) args s 0 0 (zAW m_n ad s.heap.size)) (F0 m 78 ls [])) : ∀ (x1 : Int32) (x2 : Int32) (x3 : Int32) (x4 : Int32) (x5 : Int32) (x6 : Int32) (x8 : Int32) (s0 : Int32) (σ : zSt) (H : Heap) (locs : List Loc) (ls : Array Slot), b_X12_edge_108 N k_78 Q x1 x2 x3 x4 x5 x6 x8 s0 σ → va_P (dC, dI) vwCl (m_W ad cI cJ cC σ) H → va_D (zAW m_n ad s.heap.size) (m_W ad cI cJ cC σ) → va_S (zAW m_n ad s.heap.size) s.heap H locs → lv_has ls 9 [(0, .ref (ad 0)), (1, .int x1), (2, .int x2), (3, .int x3), (4, .int x4), (5, .int x5), (6, .int x6), (8, .int x8)] → W p l e rm_X12_edge s m args below meth c H locs 0 0 (MQ below (zQi (dC, dI) (m_ty cI cJ cC) (m_W ad cI cJ cC) (zAW m_n ad s.heap.size) Q) args s 0 0 (zAW m_n ad s.heap.size)) (F0 m 108 ls [.int s0, .ref (ad 0)]) := by
  obtain ⟨hx, hb, hml, hr, hown, hts, hlocks⟩ := id C0
  intro x1 x2 x3 x4 x5 x6 x8 s0 σ H locs ls h hP hD hS hl
  unfold b_X12_edge_108 at h
  refine mp_0_48 hx hb hts hown hK hP hD hS mw_881 dX12_edge_108 (fun τ1 H locs eτ1 hP hD hS => ?_)
  have h := h τ1 eτ1
  refine lv_aload_n hx hb dX12_edge_111 rfl (lv_at hl 0 rfl) ?_
  refine lv_aload_n hx hb dX12_edge_112 rfl (lv_at hl 0 rfl) ?_
  refine mg_0_47 hx hb hts hown hK hP mw_880 dX12_edge_113 ?_
  refine lv_iload_n hx hb dX12_edge_116 rfl (lv_at hl 1 rfl) ?_
  refine k_X12_isRest N ⟨hx, hb, hml, hown, hts⟩ mw_1145 ⟨Nat.le_of_ble_eq_true rfl, Nat.le_of_ble_eq_true rfl⟩ h hK hP hD hS hl.1 (rest := []) (Nat.le_of_ble_eq_true rfl) ⟨Nat.le_of_ble_eq_true rfl, Nat.le_of_ble_eq_true rfl⟩ dX12_edge_117 (fun r2 τ3 H locs h hP hD hS => ?_)
  refine lv_istore (lv' := [(7, .int r2), (0, .ref (ad 0)), (1, .int x1), (2, .int x2), (3, .int x3), (4, .int x4), (5, .int x5), (6, .int x6), (8, .int x8)]) hx hb dX12_edge_120 hl (by decide) rfl (fun ls hl => ?_)
  refine lv_iload hx hb dX12_edge_122 (lv_at hl 0 rfl) ?_
  refine lv_if_eq (tgt := 133) hx hb dX12_edge_124 (by decide) (fun hc => ?_) (fun hc => ?_)
  · have h := h.1 hc
    obtain ⟨v4, ev4⟩ : ∃ z : Int32, z = x8 + (1 : Int32) := ⟨_, rfl⟩
    have h := h v4 ev4
    refine lv_iinc (v := v4) (lv' := [(8, .int v4), (7, .int r2), (0, .ref (ad 0)), (1, .int x1), (2, .int x2), (3, .int x3), (4, .int x4), (5, .int x5), (6, .int x6)]) hx hb dX12_edge_133 hl (k := 8) rfl (by rw [ev4]; rfl) (by decide) rfl (fun ls hl => ?_)
    refine lv_goto (tgt := 78) hx hb dX12_edge_136 (by decide) ?_
    exact hk_78 x1 x2 x3 x4 x5 x6 r2 v4 τ3 _ _ _ h hP hD hS (lv_sub hl [2, 3, 4, 5, 6, 7, 8, 1, 0] rfl)
  · have h := h.2 hc
    refine lv_aload_n hx hb dX12_edge_127 rfl (lv_at hl 1 rfl) ?_
    refine mg_0_48 hx hb hts hown hK hP mw_881 dX12_edge_128 ?_
    refine lv_topi (fun v5 ev5 => ?_)
    have h := h v5 ev5
    refine lv_istore (lv' := [(6, .int v5), (7, .int r2), (0, .ref (ad 0)), (1, .int x1), (2, .int x2), (3, .int x3), (4, .int x4), (5, .int x5), (8, .int x8)]) hx hb dX12_edge_131 hl (by decide) rfl (fun ls hl => ?_)
    obtain ⟨v6, ev6⟩ : ∃ z : Int32, z = x8 + (1 : Int32) := ⟨_, rfl⟩
    have h := h v6 ev6
    refine lv_iinc (v := v6) (lv' := [(8, .int v6), (6, .int v5), (7, .int r2), (0, .ref (ad 0)), (1, .int x1), (2, .int x2), (3, .int x3), (4, .int x4), (5, .int x5)]) hx hb dX12_edge_133 hl (k := 8) rfl (by rw [ev6]; rfl) (by decide) rfl (fun ls hl => ?_)
    refine lv_goto (tgt := 78) hx hb dX12_edge_136 (by decide) ?_
    exact hk_78 x1 x2 x3 x4 x5 v5 r2 v6 τ3 _ _ _ h hP hD hS (lv_sub hl [3, 4, 5, 6, 7, 8, 1, 2, 0] rfl)
set_option maxHeartbeats 4000000 in
set_option maxRecDepth 100000 in
theorem tb_X12_edge_78 (C0 : zCx p s m meth c args RX12 cX12_edge 9 (some .int) vs_X12_edge) (hK : va_K (dC, dI) vwCl (m_ty cI cJ cC) s) (N : Nat) {Q : Int32 → zSt → Prop} {k_78 : Int32 → Int32 → Int32 → Int32 → Int32 → Int32 → Int32 → Int32 → zSt → Prop} (hk_78 : ∀ (x1 : Int32) (x2 : Int32) (x3 : Int32) (x4 : Int32) (x5 : Int32) (x6 : Int32) (x7 : Int32) (x8 : Int32) (σ : zSt) (H : Heap) (locs : List Loc) (ls : Array Slot), k_78 x1 x2 x3 x4 x5 x6 x7 x8 σ → va_P (dC, dI) vwCl (m_W ad cI cJ cC σ) H → va_D (zAW m_n ad s.heap.size) (m_W ad cI cJ cC σ) → va_S (zAW m_n ad s.heap.size) s.heap H locs → lv_has ls 9 [(0, .ref (ad 0)), (1, .int x1), (2, .int x2), (3, .int x3), (4, .int x4), (5, .int x5), (6, .int x6), (7, .int x7), (8, .int x8)] → W p l e rm_X12_edge s m args below meth c H locs 0 0 (MQ below (zQi (dC, dI) (m_ty cI cJ cC) (m_W ad cI cJ cC) (zAW m_n ad s.heap.size) Q) args s 0 0 (zAW m_n ad s.heap.size)) (F0 m 78 ls [])) : ∀ (x1 : Int32) (x2 : Int32) (x3 : Int32) (x4 : Int32) (x5 : Int32) (x6 : Int32) (x7 : Int32) (x8 : Int32) (σ : zSt) (H : Heap) (locs : List Loc) (ls : Array Slot), b_X12_edge_78 N k_78 Q x1 x2 x3 x4 x5 x6 x7 x8 σ → va_P (dC, dI) vwCl (m_W ad cI cJ cC σ) H → va_D (zAW m_n ad s.heap.size) (m_W ad cI cJ cC σ) → va_S (zAW m_n ad s.heap.size) s.heap H locs → lv_has ls 9 [(0, .ref (ad 0)), (1, .int x1), (2, .int x2), (3, .int x3), (4, .int x4), (5, .int x5), (6, .int x6), (7, .int x7), (8, .int x8)] → W p l e rm_X12_edge s m args below meth c H locs 0 0 (MQ below (zQi (dC, dI) (m_ty cI cJ cC) (m_W ad cI cJ cC) (zAW m_n ad s.heap.size) Q) args s 0 0 (zAW m_n ad s.heap.size)) (F0 m 78 ls []) := by
  obtain ⟨hx, hb, hml, hr, hown, hts, hlocks⟩ := id C0
  intro x1 x2 x3 x4 x5 x6 x7 x8 σ H locs ls h hP hD hS hl
  unfold b_X12_edge_78 at h
  refine lv_iload hx hb dX12_edge_78 (lv_at hl 8 rfl) ?_
  refine lv_iload_n hx hb dX12_edge_80 rfl (lv_at hl 3 rfl) ?_
  refine lv_iload_n hx hb dX12_edge_81 rfl (lv_at hl 2 rfl) ?_
  refine lv_isub hx hb dX12_edge_82 ?_
  refine lv_icmp_gt (tgt := 139) hx hb dX12_edge_83 (by decide) (fun hc => ?_) (fun hc => ?_)
  · have h := h.1 hc
    refine lv_aload_n hx hb dX12_edge_139 rfl (lv_at hl 0 rfl) ?_
    refine lv_iload hx hb dX12_edge_140 (lv_at hl 5 rfl) ?_
    refine mp_0_48 hx hb hts hown hK hP hD hS mw_881 dX12_edge_142 (fun τ1 H locs eτ1 hP hD hS => ?_)
    have h := h τ1 eτ1
    refine lv_iload hx hb dX12_edge_145 (lv_at hl 6 rfl) ?_
    exact zret_i hx hb hr hlocks hK hP hD hS h dX12_edge_147
  · have h := h.2 hc
    refine lv_iload hx hb dX12_edge_86 (lv_at hl 7 rfl) ?_
    refine lv_if_ne (tgt := 139) hx hb dX12_edge_88 (by decide) (fun hc => ?_) (fun hc => ?_)
    · have h := h.2 hc
      refine lv_aload_n hx hb dX12_edge_139 rfl (lv_at hl 0 rfl) ?_
      refine lv_iload hx hb dX12_edge_140 (lv_at hl 5 rfl) ?_
      refine mp_0_48 hx hb hts hown hK hP hD hS mw_881 dX12_edge_142 (fun τ2 H locs eτ2 hP hD hS => ?_)
      have h := h τ2 eτ2
      refine lv_iload hx hb dX12_edge_145 (lv_at hl 6 rfl) ?_
      exact zret_i hx hb hr hlocks hK hP hD hS h dX12_edge_147
    · have h := h.1 hc
      refine lv_aload_n hx hb dX12_edge_91 rfl (lv_at hl 0 rfl) ?_
      refine lv_iload hx hb dX12_edge_92 (lv_at hl 4 rfl) ?_
      refine lv_if_eq (tgt := 104) hx hb dX12_edge_94 (by decide) (fun hc => ?_) (fun hc => ?_)
      · have h := h.1 hc
        refine lv_iload_n hx hb dX12_edge_104 rfl (lv_at hl 2 rfl) ?_
        refine lv_iload hx hb dX12_edge_105 (lv_at hl 8 rfl) ?_
        refine lv_iadd hx hb dX12_edge_107 ?_
        exact t_X12_edge_108 C0 hK N hk_78 x1 x2 x3 x4 x5 x6 x8 (x2 + x8) σ _ _ _ h hP hD hS (lv_sub hl [0, 1, 2, 3, 4, 5, 6, 8] rfl)
      · have h := h.2 hc
        refine lv_iload_n hx hb dX12_edge_97 rfl (lv_at hl 3 rfl) ?_
        refine lv_iload hx hb dX12_edge_98 (lv_at hl 8 rfl) ?_
        refine lv_isub hx hb dX12_edge_100 ?_
        refine lv_goto (tgt := 108) hx hb dX12_edge_101 (by decide) ?_
        exact t_X12_edge_108 C0 hK N hk_78 x1 x2 x3 x4 x5 x6 x8 (x3 - x8) σ _ _ _ h hP hD hS (lv_sub hl [0, 1, 2, 3, 4, 5, 6, 8] rfl)
set_option maxHeartbeats 4000000 in
set_option maxRecDepth 100000 in
theorem t_X12_edge_78 (C0 : zCx p s m meth c args RX12 cX12_edge 9 (some .int) vs_X12_edge) (hK : va_K (dC, dI) vwCl (m_ty cI cJ cC) s) (N : Nat) {Q : Int32 → zSt → Prop} : ∀ (f : Nat) (x1 : Int32) (x2 : Int32) (x3 : Int32) (x4 : Int32) (x5 : Int32) (x6 : Int32) (x7 : Int32) (x8 : Int32) (σ : zSt) (H : Heap) (locs : List Loc) (ls : Array Slot), w_X12_edge_78 N  Q f x1 x2 x3 x4 x5 x6 x7 x8 σ → va_P (dC, dI) vwCl (m_W ad cI cJ cC σ) H → va_D (zAW m_n ad s.heap.size) (m_W ad cI cJ cC σ) → va_S (zAW m_n ad s.heap.size) s.heap H locs → lv_has ls 9 [(0, .ref (ad 0)), (1, .int x1), (2, .int x2), (3, .int x3), (4, .int x4), (5, .int x5), (6, .int x6), (7, .int x7), (8, .int x8)] → W p l e rm_X12_edge s m args below meth c H locs 0 0 (MQ below (zQi (dC, dI) (m_ty cI cJ cC) (m_W ad cI cJ cC) (zAW m_n ad s.heap.size) Q) args s 0 0 (zAW m_n ad s.heap.size)) (F0 m 78 ls []) := by
  intro f
  induction f with
  | zero => intro x1 x2 x3 x4 x5 x6 x7 x8 σ H locs ls h; exact h.elim
  | succ f ih =>
    intro x1 x2 x3 x4 x5 x6 x7 x8 σ H locs ls h hP hD hS hl
    exact tb_X12_edge_78 C0 hK N  (k_78 := w_X12_edge_78 N  Q f) ih x1 x2 x3 x4 x5 x6 x7 x8 σ H locs ls h hP hD hS hl
set_option maxHeartbeats 4000000 in
set_option maxRecDepth 100000 in
theorem t_X12_edge_0 (C0 : zCx p s m meth c args RX12 cX12_edge 9 (some .int) vs_X12_edge) (hK : va_K (dC, dI) vwCl (m_ty cI cJ cC) s) (N : Nat) {Q : Int32 → zSt → Prop} : ∀ (x1 : Int32) (x2 : Int32) (x3 : Int32) (x4 : Int32) (σ : zSt) (H : Heap) (locs : List Loc) (ls : Array Slot), w_X12_edge N x1 x2 x3 x4 σ Q → va_P (dC, dI) vwCl (m_W ad cI cJ cC σ) H → va_D (zAW m_n ad s.heap.size) (m_W ad cI cJ cC σ) → va_S (zAW m_n ad s.heap.size) s.heap H locs → lv_has ls 9 [(0, .ref (ad 0)), (1, .int x1), (2, .int x2), (3, .int x3), (4, .int x4)] → W p l e rm_X12_edge s m args below meth c H locs 0 0 (MQ below (zQi (dC, dI) (m_ty cI cJ cC) (m_W ad cI cJ cC) (zAW m_n ad s.heap.size) Q) args s 0 0 (zAW m_n ad s.heap.size)) (F0 m 0 ls []) := by
  obtain ⟨hx, hb, hml, hr, hown, hts, hlocks⟩ := id C0
  intro x1 x2 x3 x4 σ H locs ls h hP hD hS hl
  unfold w_X12_edge at h
  refine lv_aload_n hx hb dX12_edge_0 rfl (lv_at hl 0 rfl) ?_
  refine k_X12_many N ⟨hx, hb, hml, hown, hts⟩ mw_1044 ⟨Nat.le_of_ble_eq_true rfl, Nat.le_of_ble_eq_true rfl⟩ h hK hP hD hS hl.1 (rest := []) (Nat.le_of_ble_eq_true rfl) ⟨Nat.le_of_ble_eq_true rfl, Nat.le_of_ble_eq_true rfl⟩ dX12_edge_1 (fun r1 τ2 H locs h hP hD hS => ?_)
  refine lv_bipush (v := (6 : Int32)) hx hb dX12_edge_4 (by decide) ?_
  refine lv_icmp_gt (tgt := 57) hx hb dX12_edge_6 (by decide) (fun hc => ?_) (fun hc => ?_)
  · have h := h.1 hc
    refine lv_ldcw (v := (-1000000001 : Int32)) hx hb hown (hts _ (List.mem_cons_of_mem _ mw_1295)) dX12_edge_57 ?_
    exact zret_i hx hb hr hlocks hK hP hD hS h dX12_edge_60
  · have h := h.2 hc
    refine lv_iload_n hx hb dX12_edge_9 rfl (lv_at hl 1 rfl) ?_
    refine lv_i2l hx hb dX12_edge_10 rfl ?_
    refine lv_lconst (v := (0 : Int64)) hx hb dX12_edge_11 (by decide) ?_
    refine lv_ldc2 (v := (4 : Int64)) hx hb hown (hts _ (List.mem_cons_of_mem _ mw_1294)) dX12_edge_12 ?_
    refine k_X12_isIn N ⟨hx, hb, hml, hown, hts⟩ mw_970 ⟨Nat.le_of_ble_eq_true rfl, Nat.le_of_ble_eq_true rfl⟩ h hK hP hD hS hl.1 (rest := []) (Nat.le_of_ble_eq_true rfl) ⟨Nat.le_of_ble_eq_true rfl, Nat.le_of_ble_eq_true rfl⟩ dX12_edge_15 (fun r3 τ4 H locs h hP hD hS => ?_)
    refine lv_if_eq (tgt := 57) hx hb dX12_edge_18 (by decide) (fun hc => ?_) (fun hc => ?_)
    · have h := h.1 hc
      refine lv_ldcw (v := (-1000000001 : Int32)) hx hb hown (hts _ (List.mem_cons_of_mem _ mw_1295)) dX12_edge_57 ?_
      exact zret_i hx hb hr hlocks hK hP hD hS h dX12_edge_60
    · have h := h.2 hc
      refine lv_iload_n hx hb dX12_edge_21 rfl (lv_at hl 2 rfl) ?_
      refine lv_i2l hx hb dX12_edge_22 rfl ?_
      refine lv_ldc2 (v := (-1000 : Int64)) hx hb hown (hts _ (List.mem_cons_of_mem _ mw_1095)) dX12_edge_23 ?_
      refine lv_ldc2 (v := (1000 : Int64)) hx hb hown (hts _ (List.mem_cons_of_mem _ mw_1096)) dX12_edge_26 ?_
      refine k_X12_isIn N ⟨hx, hb, hml, hown, hts⟩ mw_970 ⟨Nat.le_of_ble_eq_true rfl, Nat.le_of_ble_eq_true rfl⟩ h hK hP hD hS hl.1 (rest := []) (Nat.le_of_ble_eq_true rfl) ⟨Nat.le_of_ble_eq_true rfl, Nat.le_of_ble_eq_true rfl⟩ dX12_edge_29 (fun r5 τ6 H locs h hP hD hS => ?_)
      refine lv_if_eq (tgt := 57) hx hb dX12_edge_32 (by decide) (fun hc => ?_) (fun hc => ?_)
      · have h := h.1 hc
        refine lv_ldcw (v := (-1000000001 : Int32)) hx hb hown (hts _ (List.mem_cons_of_mem _ mw_1295)) dX12_edge_57 ?_
        exact zret_i hx hb hr hlocks hK hP hD hS h dX12_edge_60
      · have h := h.2 hc
        refine lv_iload_n hx hb dX12_edge_35 rfl (lv_at hl 3 rfl) ?_
        refine lv_i2l hx hb dX12_edge_36 rfl ?_
        refine lv_iload_n hx hb dX12_edge_37 rfl (lv_at hl 2 rfl) ?_
        refine lv_i2l hx hb dX12_edge_38 rfl ?_
        refine lv_ldc2 (v := (1000 : Int64)) hx hb hown (hts _ (List.mem_cons_of_mem _ mw_1096)) dX12_edge_39 ?_
        refine k_X12_isIn N ⟨hx, hb, hml, hown, hts⟩ mw_970 ⟨Nat.le_of_ble_eq_true rfl, Nat.le_of_ble_eq_true rfl⟩ h hK hP hD hS hl.1 (rest := []) (Nat.le_of_ble_eq_true rfl) ⟨Nat.le_of_ble_eq_true rfl, Nat.le_of_ble_eq_true rfl⟩ dX12_edge_42 (fun r7 τ8 H locs h hP hD hS => ?_)
        refine lv_if_eq (tgt := 57) hx hb dX12_edge_45 (by decide) (fun hc => ?_) (fun hc => ?_)
        · have h := h.1 hc
          refine lv_ldcw (v := (-1000000001 : Int32)) hx hb hown (hts _ (List.mem_cons_of_mem _ mw_1295)) dX12_edge_57 ?_
          exact zret_i hx hb hr hlocks hK hP hD hS h dX12_edge_60
        · have h := h.2 hc
          refine lv_iload_n hx hb dX12_edge_48 rfl (lv_at hl 3 rfl) ?_
          refine lv_iload_n hx hb dX12_edge_49 rfl (lv_at hl 2 rfl) ?_
          refine lv_isub hx hb dX12_edge_50 ?_
          refine lv_sipush (v := (200 : Int32)) hx hb dX12_edge_51 (by decide) ?_
          refine lv_icmp_le (tgt := 61) hx hb dX12_edge_54 (by decide) (fun hc => ?_) (fun hc => ?_)
          · have h := h.1 hc
            refine lv_aload_n hx hb dX12_edge_61 rfl (lv_at hl 0 rfl) ?_
            refine mg_0_48 hx hb hts hown hK hP mw_881 dX12_edge_62 ?_
            refine lv_topi (fun v9 ev9 => ?_)
            have h := h v9 ev9
            refine lv_istore (lv' := [(5, .int v9), (0, .ref (ad 0)), (1, .int x1), (2, .int x2), (3, .int x3), (4, .int x4)]) hx hb dX12_edge_65 hl (by decide) rfl (fun ls hl => ?_)
            refine lv_ldcw (v := (-1000000000 : Int32)) hx hb hown (hts _ (List.mem_cons_of_mem _ mw_1296)) dX12_edge_67 ?_
            refine lv_istore (lv' := [(6, .int (-1000000000 : Int32)), (5, .int v9), (0, .ref (ad 0)), (1, .int x1), (2, .int x2), (3, .int x3), (4, .int x4)]) hx hb dX12_edge_70 hl (by decide) rfl (fun ls hl => ?_)
            refine lv_iconst (v := (0 : Int32)) hx hb dX12_edge_72 (by decide) ?_
            refine lv_istore (lv' := [(7, .int (0 : Int32)), (6, .int (-1000000000 : Int32)), (5, .int v9), (0, .ref (ad 0)), (1, .int x1), (2, .int x2), (3, .int x3), (4, .int x4)]) hx hb dX12_edge_73 hl (by decide) rfl (fun ls hl => ?_)
            refine lv_iconst (v := (0 : Int32)) hx hb dX12_edge_75 (by decide) ?_
            refine lv_istore (lv' := [(8, .int (0 : Int32)), (7, .int (0 : Int32)), (6, .int (-1000000000 : Int32)), (5, .int v9), (0, .ref (ad 0)), (1, .int x1), (2, .int x2), (3, .int x3), (4, .int x4)]) hx hb dX12_edge_76 hl (by decide) rfl (fun ls hl => ?_)
            exact t_X12_edge_78 C0 hK N  N x1 x2 x3 x4 v9 (-1000000000 : Int32) (0 : Int32) (0 : Int32) τ8 _ _ _ h hP hD hS (lv_sub hl [4, 5, 6, 7, 8, 3, 2, 1, 0] rfl)
          · have h := h.2 hc
            refine lv_ldcw (v := (-1000000001 : Int32)) hx hb hown (hts _ (List.mem_cons_of_mem _ mw_1295)) dX12_edge_57 ?_
            exact zret_i hx hb hr hlocks hK hP hD hS h dX12_edge_60
set_option maxHeartbeats 4000000 in
set_option maxRecDepth 100000 in
theorem c_X12_edge (N : Nat) (l : Launch) (dC : Nat → ClassId) (dI : Nat → Nat → Nat) (ad : Nat → Nat) (cI cJ cC : ClassId) (sz : Nat) (σ : zSt) (x1 : Int32) (x2 : Int32) (x3 : Int32) (x4 : Int32) (Q : Int32 → zSt → Prop) (h : w_X12_edge N x1 x2 x3 x4 σ Q) : Met l yX12_edge vs_X12_edge rm_X12_edge (va_Pc [.ref (ad 0), .int x1, .int x2, .int x3, .int x4] (zPc (dC, dI) (m_ty cI cJ cC) (m_W ad cI cJ cC) sz σ)) (zQi (dC, dI) (m_ty cI cJ cC) (m_W ad cI cJ cC) (zAW m_n ad sz) Q) 0 0 (zAW m_n ad sz) := by
  refine Met.ofW (cc := cX12_edge) (maxL := 9) (ret := (some .int)) (by decide) rfl ?_
  intro p e s m args below meth c s₁ B hml hv
  obtain ⟨rfl, hsz, hP, hK, hD0⟩ := hv
  subst hsz
  have C0 : zCx p s m meth c _ RX12 cX12_edge 9 (some .int) vs_X12_edge := ⟨B.exec, B.bytes, hml, B.returns, findClass_of_methodNamed B.named, atoms_spec (ws := vs_X12_edge) B.pre, B.notSynchronized⟩
  have hD := m_D0 (n0 := s.heap.size) hD0
  have hl := lv_entry ([.ref (ad 0), .int x1, .int x2, .int x3, .int x4]) (n := 9) (Nat.le_of_ble_eq_true rfl)
  rw [lg_entry_eq]
  generalize (lg_sl ([.ref (ad 0), .int x1, .int x2, .int x3, .int x4]) ++ List.replicate (9 - (lg_sl ([.ref (ad 0), .int x1, .int x2, .int x3, .int x4])).length) Slot.unset).toArray = ls at hl ⊢
  exact t_X12_edge_0 C0 hK N x1 x2 x3 x4 σ _ _ ls h hP hD va_S.rf hl
theorem k_X12_edge (N : Nat) {R : Room} {H : Heap} {locs : List Loc} {cells slots : Nat} {Q2 : State → Prop} {cc : ByteArray} {nL pc index : Nat} {ls : Array Slot} {rest : List Value} {own : String} {c0 : Cond} {σ : zSt} {x1 : Int32} {x2 : Int32} {x3 : Int32} {x4 : Int32} {Q : Int32 → zSt → Prop} (S0 : CallFix p m c cc nL s args (c0 :: zT) own) (hml : Cond.methodLink own index yX12_edge ∈ zT) (hR : rm_X12_edge.frames + 1 ≤ R.frames ∧ 8 + (9 + 11) + rm_X12_edge.locals ≤ R.locals) (h : w_X12_edge N x1 x2 x3 x4 σ Q) (hK : va_K (dC, dI) vwCl (m_ty cI cJ cC) s) (hP : va_P (dC, dI) vwCl (m_W ad cI cJ cC σ) H) (hD : va_D (zAW m_n ad s.heap.size) (m_W ad cI cJ cC σ)) (hS : va_S (zAW m_n ad s.heap.size) s.heap H locs) (hsz : ls.size = nL) (hW : (rest.map fun v => v.category).sum ≤ 8) (hcs : cells ≤ R.cells ∧ slots ≤ R.slots) (hdg : decode cc pc = .ok (.invokevirtual index, 3)) (kk : ∀ (r : Int32) (τ : zSt) (H1 : Heap) (locs1 : List Loc), Q r τ → va_P (dC, dI) vwCl (m_W ad cI cJ cC τ) H1 → va_D (zAW m_n ad s.heap.size) (m_W ad cI cJ cC τ) → va_S (zAW m_n ad s.heap.size) s.heap H1 locs1 → W p l e R s m args below meth c H1 locs1 cells slots Q2 (F0 m (pc + 3) ls (.int r :: rest))) : W p l e R s m args below meth c H locs cells slots Q2 (F0 m pc ls (.int x4 :: .int x3 :: .int x2 :: .int x1 :: .ref (ad 0) :: rest)) :=
  zcv_i (T := TX12) (N' := 83) (k := 0) (ci := 12) (fs := m_f0 ad σ) [.int x1, .int x2, .int x3, .int x4] S0 (c_X12_edge N l dC dI ad cI cJ cC H.size σ x1 x2 x3 x4 Q h) (cw_X12_edge S0.2.2.2.2 hml rfl rfl hR) rfl rfl hK hP hD hS rfl hsz hW rfl hcs hdg kk
end q26
section q26
def b_X12_lie_83 (N : Nat) (k_26 : Int32 → Int32 → Int64 → Int32 → zSt → Prop) (Q : Int32 → zSt → Prop) (x1 : Int32) (x2 : Int32) (x3 : Int64) (x5 : Int32) (s0 : Int64) (σ : zSt) : Prop :=
  (x2 = (-1 : Int32) → ∀ v1 : Int32, v1 = x5 + (1 : Int32) → k_26 x1 x5 s0 v1 σ) ∧ (¬ x2 = (-1 : Int32) → (0 < (lg_cmp s0 x3) → ∀ v2 : Int32, v2 = x5 + (1 : Int32) → k_26 x1 x5 s0 v2 σ) ∧ (¬ 0 < (lg_cmp s0 x3) → ∀ v3 : Int32, v3 = x5 + (1 : Int32) → k_26 x1 x2 x3 v3 σ))
def b_X12_lie_70 (N : Nat) (k_26 : Int32 → Int32 → Int64 → Int32 → zSt → Prop) (Q : Int32 → zSt → Prop) (x1 : Int32) (x2 : Int32) (x3 : Int64) (x5 : Int32) (σ : zSt) : Prop :=
  b_X12_lie_83 N k_26 Q x1 x2 x3 x5 (0 : Int64) σ
def b_X12_lie_26 (N : Nat) (k_26 : Int32 → Int32 → Int64 → Int32 → zSt → Prop) (Q : Int32 → zSt → Prop) (x1 : Int32) (x2 : Int32) (x3 : Int64) (x5 : Int32) (σ : zSt) : Prop :=
  ((20 : Int32) < x5 → ∀ τ1 : zSt, τ1 = zI σ 29 (1 : Int32) → ∀ τ2 : zSt, τ2 = zJ τ1 6 x3 → Q x2 τ2) ∧ (¬ (20 : Int32) < x5 → ∀ τ3 : zSt, τ3 = zI σ 16 x1 → ∀ τ4 : zSt, τ4 = zI τ3 17 x5 → w_X12_goesFrom N (0 : Int64) τ4 (fun r5 τ6 => ∀ τ7 : zSt, τ7 = zI τ6 16 (-1 : Int32) → (r5 = (-1 : Int32) → b_X12_lie_70 N k_26 Q x1 x2 x3 x5 τ7) ∧ (¬ r5 = (-1 : Int32) → ((τ7.1 24) = (-1 : Int32) → w_X12_worthOf N (τ7.2.1 4) x1 τ7 (fun r8 τ9 => b_X12_lie_83 N k_26 Q x1 x2 x3 x5 r8 τ9)) ∧ (¬ (τ7.1 24) = (-1 : Int32) → b_X12_lie_70 N k_26 Q x1 x2 x3 x5 τ7))))
def w_X12_lie_26 (N : Nat) (Q : Int32 → zSt → Prop) : Nat → Int32 → Int32 → Int64 → Int32 → zSt → Prop
  | 0 => fun _ _ _ _ _ => False
  | f + 1 => b_X12_lie_26 N (w_X12_lie_26 N  Q f) Q
def w_X12_lie (N : Nat) (x1 : Int32) (σ : zSt) (Q : Int32 → zSt → Prop) : Prop :=
  w_X12_isPerson N x1 σ (fun r1 τ2 => (r1 = 0 → Q (-1 : Int32) τ2) ∧ (¬ r1 = 0 → w_X12_many N τ2 (fun r3 τ4 => (r3 ≤ (6 : Int32) → w_X12_lie_26 N Q N x1 (-1 : Int32) (0 : Int64) (0 : Int32) τ4) ∧ (¬ r3 ≤ (6 : Int32) → Q (-1 : Int32) τ4))))
variable {p : Program} {l : Launch} {e : Env} {s : State} {m : MethodId} {args : Array Value} {below : List Frame} {meth : Method} {c : Code} {dC : Nat → ClassId} {dI : Nat → Nat → Nat} {ad : Nat → Nat} {cI cJ cC : ClassId}
set_option maxHeartbeats 4000000 in
set_option maxRecDepth 100000 in
theorem t_X12_lie_83 (C0 : zCx p s m meth c args RX12 cX12_lie 9 (some .int) vs_X12_lie) (hK : va_K (dC, dI) vwCl (m_ty cI cJ cC) s) (N : Nat) {Q : Int32 → zSt → Prop} {k_26 : Int32 → Int32 → Int64 → Int32 → zSt → Prop} (hk_26 : ∀ (x1 : Int32) (x2 : Int32) (x3 : Int64) (x5 : Int32) (σ : zSt) (H : Heap) (locs : List Loc) (ls : Array Slot), k_26 x1 x2 x3 x5 σ → va_P (dC, dI) vwCl (m_W ad cI cJ cC σ) H → va_D (zAW m_n ad s.heap.size) (m_W ad cI cJ cC σ) → va_S (zAW m_n ad s.heap.size) s.heap H locs → lv_has ls 9 [(0, .ref (ad 0)), (1, .int x1), (2, .int x2), (3, .long x3), (5, .int x5)] → W p l e rm_X12_lie s m args below meth c H locs 0 0 (MQ below (zQi (dC, dI) (m_ty cI cJ cC) (m_W ad cI cJ cC) (zAW m_n ad s.heap.size) Q) args s 0 0 (zAW m_n ad s.heap.size)) (F0 m 26 ls [])) : ∀ (x1 : Int32) (x2 : Int32) (x3 : Int64) (x5 : Int32) (s0 : Int64) (σ : zSt) (H : Heap) (locs : List Loc) (ls : Array Slot), b_X12_lie_83 N k_26 Q x1 x2 x3 x5 s0 σ → va_P (dC, dI) vwCl (m_W ad cI cJ cC σ) H → va_D (zAW m_n ad s.heap.size) (m_W ad cI cJ cC σ) → va_S (zAW m_n ad s.heap.size) s.heap H locs → lv_has ls 9 [(0, .ref (ad 0)), (1, .int x1), (2, .int x2), (3, .long x3), (5, .int x5)] → W p l e rm_X12_lie s m args below meth c H locs 0 0 (MQ below (zQi (dC, dI) (m_ty cI cJ cC) (m_W ad cI cJ cC) (zAW m_n ad s.heap.size) Q) args s 0 0 (zAW m_n ad s.heap.size)) (F0 m 83 ls [.long s0]) := by
  obtain ⟨hx, hb, hml, hr, hown, hts, hlocks⟩ := id C0
  intro x1 x2 x3 x5 s0 σ H locs ls h hP hD hS hl
  unfold b_X12_lie_83 at h
  refine lv_lstore (lv' := [(7, .long s0), (0, .ref (ad 0)), (1, .int x1), (2, .int x2), (3, .long x3), (5, .int x5)]) hx hb dX12_lie_83 hl (by decide) rfl (fun ls hl => ?_)
  refine lv_iload_n hx hb dX12_lie_85 rfl (lv_at hl 3 rfl) ?_
  refine lv_iconst (v := (-1 : Int32)) hx hb dX12_lie_86 (by decide) ?_
  refine lv_icmp_eq (tgt := 100) hx hb dX12_lie_87 (by decide) (fun hc => ?_) (fun hc => ?_)
  · have h := h.1 hc
    refine lv_iload hx hb dX12_lie_100 (lv_at hl 5 rfl) ?_
    refine lv_istore_n (lv' := [(2, .int x5), (7, .long s0), (0, .ref (ad 0)), (1, .int x1), (3, .long x3), (5, .int x5)]) hx hb dX12_lie_102 rfl hl (by decide) rfl (fun ls hl => ?_)
    refine lv_lload hx hb dX12_lie_103 (lv_at hl 1 rfl) ?_
    refine lv_lstore_n (lv' := [(3, .long s0), (2, .int x5), (7, .long s0), (0, .ref (ad 0)), (1, .int x1), (5, .int x5)]) hx hb dX12_lie_105 rfl hl (by decide) rfl (fun ls hl => ?_)
    obtain ⟨v1, ev1⟩ : ∃ z : Int32, z = x5 + (1 : Int32) := ⟨_, rfl⟩
    have h := h v1 ev1
    refine lv_iinc (v := v1) (lv' := [(5, .int v1), (3, .long s0), (2, .int x5), (7, .long s0), (0, .ref (ad 0)), (1, .int x1)]) hx hb dX12_lie_106 hl (k := 5) rfl (by rw [ev1]; rfl) (by decide) rfl (fun ls hl => ?_)
    refine lv_goto (tgt := 26) hx hb dX12_lie_109 (by decide) ?_
    exact hk_26 x1 x5 s0 v1 σ _ _ _ h hP hD hS (lv_sub hl [4, 5, 2, 1, 0] rfl)
  · have h := h.2 hc
    refine lv_lload hx hb dX12_lie_90 (lv_at hl 0 rfl) ?_
    refine lv_lload_n hx hb dX12_lie_92 rfl (lv_at hl 4 rfl) ?_
    refine W.lcmp hx hb dX12_lie_93 ?_
    refine lv_if_gt (tgt := 100) hx hb dX12_lie_94 (by decide) (fun hc => ?_) (fun hc => ?_)
    · have h := h.1 hc
      refine lv_iload hx hb dX12_lie_100 (lv_at hl 5 rfl) ?_
      refine lv_istore_n (lv' := [(2, .int x5), (7, .long s0), (0, .ref (ad 0)), (1, .int x1), (3, .long x3), (5, .int x5)]) hx hb dX12_lie_102 rfl hl (by decide) rfl (fun ls hl => ?_)
      refine lv_lload hx hb dX12_lie_103 (lv_at hl 1 rfl) ?_
      refine lv_lstore_n (lv' := [(3, .long s0), (2, .int x5), (7, .long s0), (0, .ref (ad 0)), (1, .int x1), (5, .int x5)]) hx hb dX12_lie_105 rfl hl (by decide) rfl (fun ls hl => ?_)
      obtain ⟨v2, ev2⟩ : ∃ z : Int32, z = x5 + (1 : Int32) := ⟨_, rfl⟩
      have h := h v2 ev2
      refine lv_iinc (v := v2) (lv' := [(5, .int v2), (3, .long s0), (2, .int x5), (7, .long s0), (0, .ref (ad 0)), (1, .int x1)]) hx hb dX12_lie_106 hl (k := 5) rfl (by rw [ev2]; rfl) (by decide) rfl (fun ls hl => ?_)
      refine lv_goto (tgt := 26) hx hb dX12_lie_109 (by decide) ?_
      exact hk_26 x1 x5 s0 v2 σ _ _ _ h hP hD hS (lv_sub hl [4, 5, 2, 1, 0] rfl)
    · have h := h.2 hc
      refine lv_goto (tgt := 106) hx hb dX12_lie_97 (by decide) ?_
      obtain ⟨v3, ev3⟩ : ∃ z : Int32, z = x5 + (1 : Int32) := ⟨_, rfl⟩
      have h := h v3 ev3
      refine lv_iinc (v := v3) (lv' := [(5, .int v3), (7, .long s0), (0, .ref (ad 0)), (1, .int x1), (2, .int x2), (3, .long x3)]) hx hb dX12_lie_106 hl (k := 5) rfl (by rw [ev3]; rfl) (by decide) rfl (fun ls hl => ?_)
      refine lv_goto (tgt := 26) hx hb dX12_lie_109 (by decide) ?_
      exact hk_26 x1 x2 x3 v3 σ _ _ _ h hP hD hS (lv_sub hl [2, 3, 4, 5, 0] rfl)
set_option maxHeartbeats 4000000 in
set_option maxRecDepth 100000 in
theorem t_X12_lie_70 (C0 : zCx p s m meth c args RX12 cX12_lie 9 (some .int) vs_X12_lie) (hK : va_K (dC, dI) vwCl (m_ty cI cJ cC) s) (N : Nat) {Q : Int32 → zSt → Prop} {k_26 : Int32 → Int32 → Int64 → Int32 → zSt → Prop} (hk_26 : ∀ (x1 : Int32) (x2 : Int32) (x3 : Int64) (x5 : Int32) (σ : zSt) (H : Heap) (locs : List Loc) (ls : Array Slot), k_26 x1 x2 x3 x5 σ → va_P (dC, dI) vwCl (m_W ad cI cJ cC σ) H → va_D (zAW m_n ad s.heap.size) (m_W ad cI cJ cC σ) → va_S (zAW m_n ad s.heap.size) s.heap H locs → lv_has ls 9 [(0, .ref (ad 0)), (1, .int x1), (2, .int x2), (3, .long x3), (5, .int x5)] → W p l e rm_X12_lie s m args below meth c H locs 0 0 (MQ below (zQi (dC, dI) (m_ty cI cJ cC) (m_W ad cI cJ cC) (zAW m_n ad s.heap.size) Q) args s 0 0 (zAW m_n ad s.heap.size)) (F0 m 26 ls [])) : ∀ (x1 : Int32) (x2 : Int32) (x3 : Int64) (x5 : Int32) (σ : zSt) (H : Heap) (locs : List Loc) (ls : Array Slot), b_X12_lie_70 N k_26 Q x1 x2 x3 x5 σ → va_P (dC, dI) vwCl (m_W ad cI cJ cC σ) H → va_D (zAW m_n ad s.heap.size) (m_W ad cI cJ cC σ) → va_S (zAW m_n ad s.heap.size) s.heap H locs → lv_has ls 9 [(0, .ref (ad 0)), (1, .int x1), (2, .int x2), (3, .long x3), (5, .int x5)] → W p l e rm_X12_lie s m args below meth c H locs 0 0 (MQ below (zQi (dC, dI) (m_ty cI cJ cC) (m_W ad cI cJ cC) (zAW m_n ad s.heap.size) Q) args s 0 0 (zAW m_n ad s.heap.size)) (F0 m 70 ls []) := by
  obtain ⟨hx, hb, hml, hr, hown, hts, hlocks⟩ := id C0
  intro x1 x2 x3 x5 σ H locs ls h hP hD hS hl
  unfold b_X12_lie_70 at h
  refine lv_lconst (v := (0 : Int64)) hx hb dX12_lie_70 (by decide) ?_
  refine lv_goto (tgt := 83) hx hb dX12_lie_71 (by decide) ?_
  exact t_X12_lie_83 C0 hK N hk_26 x1 x2 x3 x5 (0 : Int64) σ _ _ _ h hP hD hS (lv_sub hl [0, 1, 2, 3, 4] rfl)
set_option maxHeartbeats 4000000 in
set_option maxRecDepth 100000 in
theorem tb_X12_lie_26 (C0 : zCx p s m meth c args RX12 cX12_lie 9 (some .int) vs_X12_lie) (hK : va_K (dC, dI) vwCl (m_ty cI cJ cC) s) (N : Nat) {Q : Int32 → zSt → Prop} {k_26 : Int32 → Int32 → Int64 → Int32 → zSt → Prop} (hk_26 : ∀ (x1 : Int32) (x2 : Int32) (x3 : Int64) (x5 : Int32) (σ : zSt) (H : Heap) (locs : List Loc) (ls : Array Slot), k_26 x1 x2 x3 x5 σ → va_P (dC, dI) vwCl (m_W ad cI cJ cC σ) H → va_D (zAW m_n ad s.heap.size) (m_W ad cI cJ cC σ) → va_S (zAW m_n ad s.heap.size) s.heap H locs → lv_has ls 9 [(0, .ref (ad 0)), (1, .int x1), (2, .int x2), (3, .long x3), (5, .int x5)] → W p l e rm_X12_lie s m args below meth c H locs 0 0 (MQ below (zQi (dC, dI) (m_ty cI cJ cC) (m_W ad cI cJ cC) (zAW m_n ad s.heap.size) Q) args s 0 0 (zAW m_n ad s.heap.size)) (F0 m 26 ls [])) : ∀ (x1 : Int32) (x2 : Int32) (x3 : Int64) (x5 : Int32) (σ : zSt) (H : Heap) (locs : List Loc) (ls : Array Slot), b_X12_lie_26 N k_26 Q x1 x2 x3 x5 σ → va_P (dC, dI) vwCl (m_W ad cI cJ cC σ) H → va_D (zAW m_n ad s.heap.size) (m_W ad cI cJ cC σ) → va_S (zAW m_n ad s.heap.size) s.heap H locs → lv_has ls 9 [(0, .ref (ad 0)), (1, .int x1), (2, .int x2), (3, .long x3), (5, .int x5)] → W p l e rm_X12_lie s m args below meth c H locs 0 0 (MQ below (zQi (dC, dI) (m_ty cI cJ cC) (m_W ad cI cJ cC) (zAW m_n ad s.heap.size) Q) args s 0 0 (zAW m_n ad s.heap.size)) (F0 m 26 ls []) := by
  obtain ⟨hx, hb, hml, hr, hown, hts, hlocks⟩ := id C0
  intro x1 x2 x3 x5 σ H locs ls h hP hD hS hl
  unfold b_X12_lie_26 at h
  refine lv_iload hx hb dX12_lie_26 (lv_at hl 4 rfl) ?_
  refine lv_bipush (v := (20 : Int32)) hx hb dX12_lie_28 (by decide) ?_
  refine lv_icmp_gt (tgt := 112) hx hb dX12_lie_30 (by decide) (fun hc => ?_) (fun hc => ?_)
  · have h := h.1 hc
    refine lv_aload_n hx hb dX12_lie_112 rfl (lv_at hl 0 rfl) ?_
    refine lv_iconst (v := (1 : Int32)) hx hb dX12_lie_113 (by decide) ?_
    refine mp_0_79 hx hb hts hown hK hP hD hS zb_1 mw_912 dX12_lie_114 (fun τ1 H locs eτ1 hP hD hS => ?_)
    have h := h τ1 eτ1
    refine lv_aload_n hx hb dX12_lie_117 rfl (lv_at hl 0 rfl) ?_
    refine lv_lload_n hx hb dX12_lie_118 rfl (lv_at hl 3 rfl) ?_
    refine mp_0_80 hx hb hts hown hK hP hD hS mw_913 dX12_lie_119 (fun τ2 H locs eτ2 hP hD hS => ?_)
    have h := h τ2 eτ2
    refine lv_iload_n hx hb dX12_lie_122 rfl (lv_at hl 2 rfl) ?_
    exact zret_i hx hb hr hlocks hK hP hD hS h dX12_lie_123
  · have h := h.2 hc
    refine lv_aload_n hx hb dX12_lie_33 rfl (lv_at hl 0 rfl) ?_
    refine lv_iload_n hx hb dX12_lie_34 rfl (lv_at hl 1 rfl) ?_
    refine mp_0_53 hx hb hts hown hK hP hD hS mw_886 dX12_lie_35 (fun τ3 H locs eτ3 hP hD hS => ?_)
    have h := h τ3 eτ3
    refine lv_aload_n hx hb dX12_lie_38 rfl (lv_at hl 0 rfl) ?_
    refine lv_iload hx hb dX12_lie_39 (lv_at hl 4 rfl) ?_
    refine mp_0_54 hx hb hts hown hK hP hD hS mw_887 dX12_lie_41 (fun τ4 H locs eτ4 hP hD hS => ?_)
    have h := h τ4 eτ4
    refine lv_aload_n hx hb dX12_lie_44 rfl (lv_at hl 0 rfl) ?_
    refine lv_lconst (v := (0 : Int64)) hx hb dX12_lie_45 (by decide) ?_
    refine k_X12_goesFrom N ⟨hx, hb, hml, hown, hts⟩ mw_1212 ⟨Nat.le_of_ble_eq_true rfl, Nat.le_of_ble_eq_true rfl⟩ h hK hP hD hS hl.1 (rest := []) (Nat.le_of_ble_eq_true rfl) ⟨Nat.le_of_ble_eq_true rfl, Nat.le_of_ble_eq_true rfl⟩ dX12_lie_46 (fun r5 τ6 H locs h hP hD hS => ?_)
    refine lv_istore (lv' := [(6, .int r5), (0, .ref (ad 0)), (1, .int x1), (2, .int x2), (3, .long x3), (5, .int x5)]) hx hb dX12_lie_49 hl (by decide) rfl (fun ls hl => ?_)
    refine lv_aload_n hx hb dX12_lie_51 rfl (lv_at hl 1 rfl) ?_
    refine lv_iconst (v := (-1 : Int32)) hx hb dX12_lie_52 (by decide) ?_
    refine mp_0_53 hx hb hts hown hK hP hD hS mw_886 dX12_lie_53 (fun τ7 H locs eτ7 hP hD hS => ?_)
    have h := h τ7 eτ7
    refine lv_iload hx hb dX12_lie_56 (lv_at hl 0 rfl) ?_
    refine lv_iconst (v := (-1 : Int32)) hx hb dX12_lie_58 (by decide) ?_
    refine lv_icmp_eq (tgt := 70) hx hb dX12_lie_59 (by decide) (fun hc => ?_) (fun hc => ?_)
    · have h := h.1 hc
      exact t_X12_lie_70 C0 hK N hk_26 x1 x2 x3 x5 τ7 _ _ _ h hP hD hS (lv_sub hl [1, 2, 3, 4, 5] rfl)
    · have h := h.2 hc
      refine lv_aload_n hx hb dX12_lie_62 rfl (lv_at hl 1 rfl) ?_
      refine mg_0_69 hx hb hts hown hK hP mw_902 dX12_lie_63 ?_
      refine lv_iconst (v := (-1 : Int32)) hx hb dX12_lie_66 (by decide) ?_
      refine lv_icmp_eq (tgt := 74) hx hb dX12_lie_67 (by decide) (fun hc => ?_) (fun hc => ?_)
      · have h := h.1 hc
        refine lv_aload_n hx hb dX12_lie_74 rfl (lv_at hl 1 rfl) ?_
        refine lv_aload_n hx hb dX12_lie_75 rfl (lv_at hl 1 rfl) ?_
        refine mg_0_68 hx hb hts hown hK hP mw_901 dX12_lie_76 ?_
        refine lv_iload_n hx hb dX12_lie_79 rfl (lv_at hl 2 rfl) ?_
        refine k_X12_worthOf N ⟨hx, hb, hml, hown, hts⟩ mw_1104 ⟨Nat.le_of_ble_eq_true rfl, Nat.le_of_ble_eq_true rfl⟩ h hK hP hD hS hl.1 (rest := []) (Nat.le_of_ble_eq_true rfl) ⟨Nat.le_of_ble_eq_true rfl, Nat.le_of_ble_eq_true rfl⟩ dX12_lie_80 (fun r8 τ9 H locs h hP hD hS => ?_)
        exact t_X12_lie_83 C0 hK N hk_26 x1 x2 x3 x5 r8 τ9 _ _ _ h hP hD hS (lv_sub hl [1, 2, 3, 4, 5] rfl)
      · have h := h.2 hc
        exact t_X12_lie_70 C0 hK N hk_26 x1 x2 x3 x5 τ7 _ _ _ h hP hD hS (lv_sub hl [1, 2, 3, 4, 5] rfl)
set_option maxHeartbeats 4000000 in
set_option maxRecDepth 100000 in
theorem t_X12_lie_26 (C0 : zCx p s m meth c args RX12 cX12_lie 9 (some .int) vs_X12_lie) (hK : va_K (dC, dI) vwCl (m_ty cI cJ cC) s) (N : Nat) {Q : Int32 → zSt → Prop} : ∀ (f : Nat) (x1 : Int32) (x2 : Int32) (x3 : Int64) (x5 : Int32) (σ : zSt) (H : Heap) (locs : List Loc) (ls : Array Slot), w_X12_lie_26 N  Q f x1 x2 x3 x5 σ → va_P (dC, dI) vwCl (m_W ad cI cJ cC σ) H → va_D (zAW m_n ad s.heap.size) (m_W ad cI cJ cC σ) → va_S (zAW m_n ad s.heap.size) s.heap H locs → lv_has ls 9 [(0, .ref (ad 0)), (1, .int x1), (2, .int x2), (3, .long x3), (5, .int x5)] → W p l e rm_X12_lie s m args below meth c H locs 0 0 (MQ below (zQi (dC, dI) (m_ty cI cJ cC) (m_W ad cI cJ cC) (zAW m_n ad s.heap.size) Q) args s 0 0 (zAW m_n ad s.heap.size)) (F0 m 26 ls []) := by
  intro f
  induction f with
  | zero => intro x1 x2 x3 x5 σ H locs ls h; exact h.elim
  | succ f ih =>
    intro x1 x2 x3 x5 σ H locs ls h hP hD hS hl
    exact tb_X12_lie_26 C0 hK N  (k_26 := w_X12_lie_26 N  Q f) ih x1 x2 x3 x5 σ H locs ls h hP hD hS hl
set_option maxHeartbeats 4000000 in
set_option maxRecDepth 100000 in
theorem t_X12_lie_0 (C0 : zCx p s m meth c args RX12 cX12_lie 9 (some .int) vs_X12_lie) (hK : va_K (dC, dI) vwCl (m_ty cI cJ cC) s) (N : Nat) {Q : Int32 → zSt → Prop} : ∀ (x1 : Int32) (σ : zSt) (H : Heap) (locs : List Loc) (ls : Array Slot), w_X12_lie N x1 σ Q → va_P (dC, dI) vwCl (m_W ad cI cJ cC σ) H → va_D (zAW m_n ad s.heap.size) (m_W ad cI cJ cC σ) → va_S (zAW m_n ad s.heap.size) s.heap H locs → lv_has ls 9 [(0, .ref (ad 0)), (1, .int x1)] → W p l e rm_X12_lie s m args below meth c H locs 0 0 (MQ below (zQi (dC, dI) (m_ty cI cJ cC) (m_W ad cI cJ cC) (zAW m_n ad s.heap.size) Q) args s 0 0 (zAW m_n ad s.heap.size)) (F0 m 0 ls []) := by
  obtain ⟨hx, hb, hml, hr, hown, hts, hlocks⟩ := id C0
  intro x1 σ H locs ls h hP hD hS hl
  unfold w_X12_lie at h
  refine lv_aload_n hx hb dX12_lie_0 rfl (lv_at hl 0 rfl) ?_
  refine lv_iload_n hx hb dX12_lie_1 rfl (lv_at hl 1 rfl) ?_
  refine k_X12_isPerson N ⟨hx, hb, hml, hown, hts⟩ mw_1057 ⟨Nat.le_of_ble_eq_true rfl, Nat.le_of_ble_eq_true rfl⟩ h hK hP hD hS hl.1 (rest := []) (Nat.le_of_ble_eq_true rfl) ⟨Nat.le_of_ble_eq_true rfl, Nat.le_of_ble_eq_true rfl⟩ dX12_lie_2 (fun r1 τ2 H locs h hP hD hS => ?_)
  refine lv_if_eq (tgt := 17) hx hb dX12_lie_5 (by decide) (fun hc => ?_) (fun hc => ?_)
  · have h := h.1 hc
    refine lv_iconst (v := (-1 : Int32)) hx hb dX12_lie_17 (by decide) ?_
    exact zret_i hx hb hr hlocks hK hP hD hS h dX12_lie_18
  · have h := h.2 hc
    refine lv_aload_n hx hb dX12_lie_8 rfl (lv_at hl 0 rfl) ?_
    refine k_X12_many N ⟨hx, hb, hml, hown, hts⟩ mw_1044 ⟨Nat.le_of_ble_eq_true rfl, Nat.le_of_ble_eq_true rfl⟩ h hK hP hD hS hl.1 (rest := []) (Nat.le_of_ble_eq_true rfl) ⟨Nat.le_of_ble_eq_true rfl, Nat.le_of_ble_eq_true rfl⟩ dX12_lie_9 (fun r3 τ4 H locs h hP hD hS => ?_)
    refine lv_bipush (v := (6 : Int32)) hx hb dX12_lie_12 (by decide) ?_
    refine lv_icmp_le (tgt := 19) hx hb dX12_lie_14 (by decide) (fun hc => ?_) (fun hc => ?_)
    · have h := h.1 hc
      refine lv_iconst (v := (-1 : Int32)) hx hb dX12_lie_19 (by decide) ?_
      refine lv_istore_n (lv' := [(2, .int (-1 : Int32)), (0, .ref (ad 0)), (1, .int x1)]) hx hb dX12_lie_20 rfl hl (by decide) rfl (fun ls hl => ?_)
      refine lv_lconst (v := (0 : Int64)) hx hb dX12_lie_21 (by decide) ?_
      refine lv_lstore_n (lv' := [(3, .long (0 : Int64)), (2, .int (-1 : Int32)), (0, .ref (ad 0)), (1, .int x1)]) hx hb dX12_lie_22 rfl hl (by decide) rfl (fun ls hl => ?_)
      refine lv_iconst (v := (0 : Int32)) hx hb dX12_lie_23 (by decide) ?_
      refine lv_istore (lv' := [(5, .int (0 : Int32)), (3, .long (0 : Int64)), (2, .int (-1 : Int32)), (0, .ref (ad 0)), (1, .int x1)]) hx hb dX12_lie_24 hl (by decide) rfl (fun ls hl => ?_)
      exact t_X12_lie_26 C0 hK N  N x1 (-1 : Int32) (0 : Int64) (0 : Int32) τ4 _ _ _ h hP hD hS (lv_sub hl [3, 4, 2, 1, 0] rfl)
    · have h := h.2 hc
      refine lv_iconst (v := (-1 : Int32)) hx hb dX12_lie_17 (by decide) ?_
      exact zret_i hx hb hr hlocks hK hP hD hS h dX12_lie_18
set_option maxHeartbeats 4000000 in
set_option maxRecDepth 100000 in
theorem c_X12_lie (N : Nat) (l : Launch) (dC : Nat → ClassId) (dI : Nat → Nat → Nat) (ad : Nat → Nat) (cI cJ cC : ClassId) (sz : Nat) (σ : zSt) (x1 : Int32) (Q : Int32 → zSt → Prop) (h : w_X12_lie N x1 σ Q) : Met l yX12_lie vs_X12_lie rm_X12_lie (va_Pc [.ref (ad 0), .int x1] (zPc (dC, dI) (m_ty cI cJ cC) (m_W ad cI cJ cC) sz σ)) (zQi (dC, dI) (m_ty cI cJ cC) (m_W ad cI cJ cC) (zAW m_n ad sz) Q) 0 0 (zAW m_n ad sz) := by
  refine Met.ofW (cc := cX12_lie) (maxL := 9) (ret := (some .int)) (by decide) rfl ?_
  intro p e s m args below meth c s₁ B hml hv
  obtain ⟨rfl, hsz, hP, hK, hD0⟩ := hv
  subst hsz
  have C0 : zCx p s m meth c _ RX12 cX12_lie 9 (some .int) vs_X12_lie := ⟨B.exec, B.bytes, hml, B.returns, findClass_of_methodNamed B.named, atoms_spec (ws := vs_X12_lie) B.pre, B.notSynchronized⟩
  have hD := m_D0 (n0 := s.heap.size) hD0
  have hl := lv_entry ([.ref (ad 0), .int x1]) (n := 9) (Nat.le_of_ble_eq_true rfl)
  rw [lg_entry_eq]
  generalize (lg_sl ([.ref (ad 0), .int x1]) ++ List.replicate (9 - (lg_sl ([.ref (ad 0), .int x1])).length) Slot.unset).toArray = ls at hl ⊢
  exact t_X12_lie_0 C0 hK N x1 σ _ _ ls h hP hD va_S.rf hl
theorem k_X12_lie (N : Nat) {R : Room} {H : Heap} {locs : List Loc} {cells slots : Nat} {Q2 : State → Prop} {cc : ByteArray} {nL pc index : Nat} {ls : Array Slot} {rest : List Value} {own : String} {c0 : Cond} {σ : zSt} {x1 : Int32} {Q : Int32 → zSt → Prop} (S0 : CallFix p m c cc nL s args (c0 :: zT) own) (hml : Cond.methodLink own index yX12_lie ∈ zT) (hR : rm_X12_lie.frames + 1 ≤ R.frames ∧ 8 + (9 + 11) + rm_X12_lie.locals ≤ R.locals) (h : w_X12_lie N x1 σ Q) (hK : va_K (dC, dI) vwCl (m_ty cI cJ cC) s) (hP : va_P (dC, dI) vwCl (m_W ad cI cJ cC σ) H) (hD : va_D (zAW m_n ad s.heap.size) (m_W ad cI cJ cC σ)) (hS : va_S (zAW m_n ad s.heap.size) s.heap H locs) (hsz : ls.size = nL) (hW : (rest.map fun v => v.category).sum ≤ 8) (hcs : cells ≤ R.cells ∧ slots ≤ R.slots) (hdg : decode cc pc = .ok (.invokevirtual index, 3)) (kk : ∀ (r : Int32) (τ : zSt) (H1 : Heap) (locs1 : List Loc), Q r τ → va_P (dC, dI) vwCl (m_W ad cI cJ cC τ) H1 → va_D (zAW m_n ad s.heap.size) (m_W ad cI cJ cC τ) → va_S (zAW m_n ad s.heap.size) s.heap H1 locs1 → W p l e R s m args below meth c H1 locs1 cells slots Q2 (F0 m (pc + 3) ls (.int r :: rest))) : W p l e R s m args below meth c H locs cells slots Q2 (F0 m pc ls (.int x1 :: .ref (ad 0) :: rest)) :=
  zcv_i (T := TX12) (N' := 83) (k := 0) (ci := 12) (fs := m_f0 ad σ) [.int x1] S0 (c_X12_lie N l dC dI ad cI cJ cC H.size σ x1 Q h) (cw_X12_lie S0.2.2.2.2 hml rfl rfl hR) rfl rfl hK hP hD hS rfl hsz hW rfl hcs hdg kk
end q26
section q26
def w_X12_lied (N : Nat)  (σ : zSt) (Q : Int64 → zSt → Prop) : Prop :=
  ((σ.1 29) = 0 → Q (-1000000000000 : Int64) σ) ∧ (¬ (σ.1 29) = 0 → Q (σ.2.1 6) σ)
variable {p : Program} {l : Launch} {e : Env} {s : State} {m : MethodId} {args : Array Value} {below : List Frame} {meth : Method} {c : Code} {dC : Nat → ClassId} {dI : Nat → Nat → Nat} {ad : Nat → Nat} {cI cJ cC : ClassId}
set_option maxHeartbeats 4000000 in
set_option maxRecDepth 100000 in
theorem t_X12_lied_0 (C0 : zCx p s m meth c args RX12 cX12_lied 1 (some .long) vs_X12_lied) (hK : va_K (dC, dI) vwCl (m_ty cI cJ cC) s) (N : Nat) {Q : Int64 → zSt → Prop} : ∀  (σ : zSt) (H : Heap) (locs : List Loc) (ls : Array Slot), w_X12_lied N  σ Q → va_P (dC, dI) vwCl (m_W ad cI cJ cC σ) H → va_D (zAW m_n ad s.heap.size) (m_W ad cI cJ cC σ) → va_S (zAW m_n ad s.heap.size) s.heap H locs → lv_has ls 1 [(0, .ref (ad 0))] → W p l e rm_X12_lied s m args below meth c H locs 0 0 (MQ below (zQl (dC, dI) (m_ty cI cJ cC) (m_W ad cI cJ cC) (zAW m_n ad s.heap.size) Q) args s 0 0 (zAW m_n ad s.heap.size)) (F0 m 0 ls []) := by
  obtain ⟨hx, hb, hml, hr, hown, hts, hlocks⟩ := id C0
  intro  σ H locs ls h hP hD hS hl
  unfold w_X12_lied at h
  refine lv_aload_n hx hb dX12_lied_0 rfl (lv_at hl 0 rfl) ?_
  refine mg_0_79 hx hb hts hown hK hP mw_912 dX12_lied_1 ?_
  refine lv_if_eq (tgt := 14) hx hb dX12_lied_4 (by decide) (fun hc => ?_) (fun hc => ?_)
  · have h := h.1 hc
    refine lv_ldc2 (v := (-1000000000000 : Int64)) hx hb hown (hts _ (List.mem_cons_of_mem _ mw_1136)) dX12_lied_14 ?_
    exact zret_l hx hb hr hlocks hK hP hD hS h dX12_lied_17
  · have h := h.2 hc
    refine lv_aload_n hx hb dX12_lied_7 rfl (lv_at hl 0 rfl) ?_
    refine mg_0_80 hx hb hts hown hK hP mw_913 dX12_lied_8 ?_
    refine lv_goto (tgt := 17) hx hb dX12_lied_11 (by decide) ?_
    exact zret_l hx hb hr hlocks hK hP hD hS h dX12_lied_17
set_option maxHeartbeats 4000000 in
set_option maxRecDepth 100000 in
theorem c_X12_lied (N : Nat) (l : Launch) (dC : Nat → ClassId) (dI : Nat → Nat → Nat) (ad : Nat → Nat) (cI cJ cC : ClassId) (sz : Nat) (σ : zSt)  (Q : Int64 → zSt → Prop) (h : w_X12_lied N  σ Q) : Met l yX12_lied vs_X12_lied rm_X12_lied (va_Pc [.ref (ad 0)] (zPc (dC, dI) (m_ty cI cJ cC) (m_W ad cI cJ cC) sz σ)) (zQl (dC, dI) (m_ty cI cJ cC) (m_W ad cI cJ cC) (zAW m_n ad sz) Q) 0 0 (zAW m_n ad sz) := by
  refine Met.ofW (cc := cX12_lied) (maxL := 1) (ret := (some .long)) (by decide) rfl ?_
  intro p e s m args below meth c s₁ B hml hv
  obtain ⟨rfl, hsz, hP, hK, hD0⟩ := hv
  subst hsz
  have C0 : zCx p s m meth c _ RX12 cX12_lied 1 (some .long) vs_X12_lied := ⟨B.exec, B.bytes, hml, B.returns, findClass_of_methodNamed B.named, atoms_spec (ws := vs_X12_lied) B.pre, B.notSynchronized⟩
  have hD := m_D0 (n0 := s.heap.size) hD0
  have hl := lv_entry ([.ref (ad 0)]) (n := 1) (Nat.le_of_ble_eq_true rfl)
  rw [lg_entry_eq]
  generalize (lg_sl ([.ref (ad 0)]) ++ List.replicate (1 - (lg_sl ([.ref (ad 0)])).length) Slot.unset).toArray = ls at hl ⊢
  exact t_X12_lied_0 C0 hK N  σ _ _ ls h hP hD va_S.rf hl
theorem k_X12_lied (N : Nat) {R : Room} {H : Heap} {locs : List Loc} {cells slots : Nat} {Q2 : State → Prop} {cc : ByteArray} {nL pc index : Nat} {ls : Array Slot} {rest : List Value} {own : String} {c0 : Cond} {σ : zSt}  {Q : Int64 → zSt → Prop} (S0 : CallFix p m c cc nL s args (c0 :: zT) own) (hml : Cond.methodLink own index yX12_lied ∈ zT) (hR : rm_X12_lied.frames + 1 ≤ R.frames ∧ 8 + (1 + 11) + rm_X12_lied.locals ≤ R.locals) (h : w_X12_lied N  σ Q) (hK : va_K (dC, dI) vwCl (m_ty cI cJ cC) s) (hP : va_P (dC, dI) vwCl (m_W ad cI cJ cC σ) H) (hD : va_D (zAW m_n ad s.heap.size) (m_W ad cI cJ cC σ)) (hS : va_S (zAW m_n ad s.heap.size) s.heap H locs) (hsz : ls.size = nL) (hW : (rest.map fun v => v.category).sum ≤ 8) (hcs : cells ≤ R.cells ∧ slots ≤ R.slots) (hdg : decode cc pc = .ok (.invokevirtual index, 3)) (kk : ∀ (r : Int64) (τ : zSt) (H1 : Heap) (locs1 : List Loc), Q r τ → va_P (dC, dI) vwCl (m_W ad cI cJ cC τ) H1 → va_D (zAW m_n ad s.heap.size) (m_W ad cI cJ cC τ) → va_S (zAW m_n ad s.heap.size) s.heap H1 locs1 → W p l e R s m args below meth c H1 locs1 cells slots Q2 (F0 m (pc + 3) ls (.long r :: rest))) : W p l e R s m args below meth c H locs cells slots Q2 (F0 m pc ls (.ref (ad 0) :: rest)) :=
  zcv_l (T := TX12) (N' := 83) (k := 0) (ci := 12) (fs := m_f0 ad σ) [] S0 (c_X12_lied N l dC dI ad cI cJ cC H.size σ  Q h) (cw_X12_lied S0.2.2.2.2 hml rfl rfl hR) rfl rfl hK hP hD hS rfl hsz hW rfl hcs hdg kk
end q26
section q26
def w_X12_writes (N : Nat) (x1 : Int32) (σ : zSt) (Q : zSt → Prop) : Prop :=
  (vp_in (σ.1 30) 10) ∧ (∀ τ1 : zSt, τ1 = zA σ 17 (upd (σ.2.2.1 17) ((σ.1 30).toNatClampNeg) (x1 &&& (255 : Int32))) → ∀ τ2 : zSt, τ2 = zI τ1 30 ((τ1.1 30) + (1 : Int32)) → Q τ2)
variable {p : Program} {l : Launch} {e : Env} {s : State} {m : MethodId} {args : Array Value} {below : List Frame} {meth : Method} {c : Code} {dC : Nat → ClassId} {dI : Nat → Nat → Nat} {ad : Nat → Nat} {cI cJ cC : ClassId}
set_option maxHeartbeats 4000000 in
set_option maxRecDepth 100000 in
theorem t_X12_writes_0 (C0 : zCx p s m meth c args RX12 cX12_writes 2 none vs_X12_writes) (hK : va_K (dC, dI) vwCl (m_ty cI cJ cC) s) (N : Nat) {Q : zSt → Prop} : ∀ (x1 : Int32) (σ : zSt) (H : Heap) (locs : List Loc) (ls : Array Slot), w_X12_writes N x1 σ Q → va_P (dC, dI) vwCl (m_W ad cI cJ cC σ) H → va_D (zAW m_n ad s.heap.size) (m_W ad cI cJ cC σ) → va_S (zAW m_n ad s.heap.size) s.heap H locs → lv_has ls 2 [(0, .ref (ad 0)), (1, .int x1)] → W p l e rm_X12_writes s m args below meth c H locs 0 0 (MQ below (zQv (dC, dI) (m_ty cI cJ cC) (m_W ad cI cJ cC) (zAW m_n ad s.heap.size) Q) args s 0 0 (zAW m_n ad s.heap.size)) (F0 m 0 ls []) := by
  obtain ⟨hx, hb, hml, hr, hown, hts, hlocks⟩ := id C0
  intro x1 σ H locs ls h hP hD hS hl
  unfold w_X12_writes at h
  refine lv_aload_n hx hb dX12_writes_0 rfl (lv_at hl 0 rfl) ?_
  refine mg_0_81 hx hb hts hown hK hP mw_914 dX12_writes_1 ?_
  refine lv_aload_n hx hb dX12_writes_4 rfl (lv_at hl 0 rfl) ?_
  refine mg_0_82 hx hb hts hown hK hP mw_915 dX12_writes_5 ?_
  refine lv_iload_n hx hb dX12_writes_8 rfl (lv_at hl 1 rfl) ?_
  refine lv_sipush (v := (255 : Int32)) hx hb dX12_writes_9 (by decide) ?_
  refine lv_iand hx hb dX12_writes_12 ?_
  refine ms_26 hx hb hK hP hD hS h.1 rfl dX12_writes_13 (fun τ1 H locs eτ1 hP hD hS => ?_)
  have h := h.2
  have h := h τ1 eτ1
  refine lv_aload_n hx hb dX12_writes_14 rfl (lv_at hl 0 rfl) ?_
  refine lv_dup hx hb dX12_writes_15 rfl ?_
  refine mg_0_82 hx hb hts hown hK hP mw_915 dX12_writes_16 ?_
  refine lv_iconst (v := (1 : Int32)) hx hb dX12_writes_19 (by decide) ?_
  refine lv_iadd hx hb dX12_writes_20 ?_
  refine mp_0_82 hx hb hts hown hK hP hD hS mw_915 dX12_writes_21 (fun τ2 H locs eτ2 hP hD hS => ?_)
  have h := h τ2 eτ2
  exact zret_v hx hb hr hlocks hK hP hD hS h dX12_writes_24
set_option maxHeartbeats 4000000 in
set_option maxRecDepth 100000 in
theorem c_X12_writes (N : Nat) (l : Launch) (dC : Nat → ClassId) (dI : Nat → Nat → Nat) (ad : Nat → Nat) (cI cJ cC : ClassId) (sz : Nat) (σ : zSt) (x1 : Int32) (Q : zSt → Prop) (h : w_X12_writes N x1 σ Q) : Met l yX12_writes vs_X12_writes rm_X12_writes (va_Pc [.ref (ad 0), .int x1] (zPc (dC, dI) (m_ty cI cJ cC) (m_W ad cI cJ cC) sz σ)) (zQv (dC, dI) (m_ty cI cJ cC) (m_W ad cI cJ cC) (zAW m_n ad sz) Q) 0 0 (zAW m_n ad sz) := by
  refine Met.ofW (cc := cX12_writes) (maxL := 2) (ret := none) (by decide) rfl ?_
  intro p e s m args below meth c s₁ B hml hv
  obtain ⟨rfl, hsz, hP, hK, hD0⟩ := hv
  subst hsz
  have C0 : zCx p s m meth c _ RX12 cX12_writes 2 none vs_X12_writes := ⟨B.exec, B.bytes, hml, B.returns, findClass_of_methodNamed B.named, atoms_spec (ws := vs_X12_writes) B.pre, B.notSynchronized⟩
  have hD := m_D0 (n0 := s.heap.size) hD0
  have hl := lv_entry ([.ref (ad 0), .int x1]) (n := 2) (Nat.le_of_ble_eq_true rfl)
  rw [lg_entry_eq]
  generalize (lg_sl ([.ref (ad 0), .int x1]) ++ List.replicate (2 - (lg_sl ([.ref (ad 0), .int x1])).length) Slot.unset).toArray = ls at hl ⊢
  exact t_X12_writes_0 C0 hK N x1 σ _ _ ls h hP hD va_S.rf hl
theorem k_X12_writes (N : Nat) {R : Room} {H : Heap} {locs : List Loc} {cells slots : Nat} {Q2 : State → Prop} {cc : ByteArray} {nL pc index : Nat} {ls : Array Slot} {rest : List Value} {own : String} {c0 : Cond} {σ : zSt} {x1 : Int32} {Q : zSt → Prop} (S0 : CallFix p m c cc nL s args (c0 :: zT) own) (hml : Cond.methodLink own index yX12_writes ∈ zT) (hR : rm_X12_writes.frames + 1 ≤ R.frames ∧ 8 + (2 + 11) + rm_X12_writes.locals ≤ R.locals) (h : w_X12_writes N x1 σ Q) (hK : va_K (dC, dI) vwCl (m_ty cI cJ cC) s) (hP : va_P (dC, dI) vwCl (m_W ad cI cJ cC σ) H) (hD : va_D (zAW m_n ad s.heap.size) (m_W ad cI cJ cC σ)) (hS : va_S (zAW m_n ad s.heap.size) s.heap H locs) (hsz : ls.size = nL) (hW : (rest.map fun v => v.category).sum ≤ 8) (hcs : cells ≤ R.cells ∧ slots ≤ R.slots) (hdg : decode cc pc = .ok (.invokevirtual index, 3)) (kk : ∀ (τ : zSt) (H1 : Heap) (locs1 : List Loc), Q τ → va_P (dC, dI) vwCl (m_W ad cI cJ cC τ) H1 → va_D (zAW m_n ad s.heap.size) (m_W ad cI cJ cC τ) → va_S (zAW m_n ad s.heap.size) s.heap H1 locs1 → W p l e R s m args below meth c H1 locs1 cells slots Q2 (F0 m (pc + 3) ls (rest))) : W p l e R s m args below meth c H locs cells slots Q2 (F0 m pc ls (.int x1 :: .ref (ad 0) :: rest)) :=
  zcv_v (T := TX12) (N' := 83) (k := 0) (ci := 12) (fs := m_f0 ad σ) [.int x1] S0 (c_X12_writes N l dC dI ad cI cJ cC H.size σ x1 Q h) (cw_X12_writes S0.2.2.2.2 hml rfl rfl hR) rfl rfl hK hP hD hS rfl hsz hW rfl hcs hdg kk
end q26
section q26
def b_X12_image_72 (N : Nat) (k_72 : Int32 → Int32 → zSt → Prop) (Q : Int32 → zSt → Prop) (x1 : Int32) (x2 : Int32) (σ : zSt) : Prop :=
  ((9 : Int32) ≤ x2 → w_X12_writes N x1 σ (fun τ2 => Q (τ2.1 30) τ2)) ∧ (¬ (9 : Int32) ≤ x2 → (vp_in x2 10) ∧ (∀ v3 : Int32, v3 = x1 ^^^ (σ.2.2.1 17 x2.toNatClampNeg) → ∀ v4 : Int32, v4 = x2 + (1 : Int32) → k_72 v3 v4 σ))
def w_X12_image_72 (N : Nat) (Q : Int32 → zSt → Prop) : Nat → Int32 → Int32 → zSt → Prop
  | 0 => fun _ _ _ => False
  | f + 1 => b_X12_image_72 N (w_X12_image_72 N  Q f) Q
def b_X12_image_16 (N : Nat) (k_16 : Int32 → zSt → Prop) (Q : Int32 → zSt → Prop) (x1 : Int32) (σ : zSt) : Prop :=
  (x1 < 0 → w_X12_writes N (((σ.1 14) + (1000 : Int32)) >>> ((8 : Int32) &&& 31)) σ (fun τ2 => w_X12_writes N ((τ2.1 14) + (1000 : Int32)) τ2 (fun τ4 => w_X12_image_72 N Q N (0 : Int32) (0 : Int32) τ4))) ∧ (¬ x1 < 0 → w_X12_writes N (((σ.2.1 0) >>> (x1.toInt64 &&& 63)) &&& (255 : Int64)).toInt32 σ (fun τ6 => ∀ v7 : Int32, v7 = x1 + (-8 : Int32) → k_16 v7 τ6))
def w_X12_image_16 (N : Nat) (Q : Int32 → zSt → Prop) : Nat → Int32 → zSt → Prop
  | 0 => fun _ _ => False
  | f + 1 => b_X12_image_16 N (w_X12_image_16 N  Q f) Q
def w_X12_image (N : Nat)  (σ : zSt) (Q : Int32 → zSt → Prop) : Prop :=
  ∀ τ1 : zSt, τ1 = zI σ 30 (0 : Int32) → w_X12_many N τ1 (fun r2 τ3 => w_X12_writes N r2 τ3 (fun τ5 => w_X12_image_16 N Q N (40 : Int32) τ5))
variable {p : Program} {l : Launch} {e : Env} {s : State} {m : MethodId} {args : Array Value} {below : List Frame} {meth : Method} {c : Code} {dC : Nat → ClassId} {dI : Nat → Nat → Nat} {ad : Nat → Nat} {cI cJ cC : ClassId}
set_option maxHeartbeats 4000000 in
set_option maxRecDepth 100000 in
theorem tb_X12_image_72 (C0 : zCx p s m meth c args RX12 cX12_image 3 (some .int) vs_X12_image) (hK : va_K (dC, dI) vwCl (m_ty cI cJ cC) s) (N : Nat) {Q : Int32 → zSt → Prop} {k_72 : Int32 → Int32 → zSt → Prop} (hk_72 : ∀ (x1 : Int32) (x2 : Int32) (σ : zSt) (H : Heap) (locs : List Loc) (ls : Array Slot), k_72 x1 x2 σ → va_P (dC, dI) vwCl (m_W ad cI cJ cC σ) H → va_D (zAW m_n ad s.heap.size) (m_W ad cI cJ cC σ) → va_S (zAW m_n ad s.heap.size) s.heap H locs → lv_has ls 3 [(0, .ref (ad 0)), (1, .int x1), (2, .int x2)] → W p l e rm_X12_image s m args below meth c H locs 0 0 (MQ below (zQi (dC, dI) (m_ty cI cJ cC) (m_W ad cI cJ cC) (zAW m_n ad s.heap.size) Q) args s 0 0 (zAW m_n ad s.heap.size)) (F0 m 72 ls [])) : ∀ (x1 : Int32) (x2 : Int32) (σ : zSt) (H : Heap) (locs : List Loc) (ls : Array Slot), b_X12_image_72 N k_72 Q x1 x2 σ → va_P (dC, dI) vwCl (m_W ad cI cJ cC σ) H → va_D (zAW m_n ad s.heap.size) (m_W ad cI cJ cC σ) → va_S (zAW m_n ad s.heap.size) s.heap H locs → lv_has ls 3 [(0, .ref (ad 0)), (1, .int x1), (2, .int x2)] → W p l e rm_X12_image s m args below meth c H locs 0 0 (MQ below (zQi (dC, dI) (m_ty cI cJ cC) (m_W ad cI cJ cC) (zAW m_n ad s.heap.size) Q) args s 0 0 (zAW m_n ad s.heap.size)) (F0 m 72 ls []) := by
  obtain ⟨hx, hb, hml, hr, hown, hts, hlocks⟩ := id C0
  intro x1 x2 σ H locs ls h hP hD hS hl
  unfold b_X12_image_72 at h
  refine lv_iload_n hx hb dX12_image_72 rfl (lv_at hl 2 rfl) ?_
  refine lv_bipush (v := (9 : Int32)) hx hb dX12_image_73 (by decide) ?_
  refine lv_icmp_ge (tgt := 93) hx hb dX12_image_75 (by decide) (fun hc => ?_) (fun hc => ?_)
  · have h := h.1 hc
    refine lv_aload_n hx hb dX12_image_93 rfl (lv_at hl 0 rfl) ?_
    refine lv_iload_n hx hb dX12_image_94 rfl (lv_at hl 1 rfl) ?_
    refine k_X12_writes N ⟨hx, hb, hml, hown, hts⟩ mw_1309 ⟨Nat.le_of_ble_eq_true rfl, Nat.le_of_ble_eq_true rfl⟩ h hK hP hD hS hl.1 (rest := []) (Nat.le_of_ble_eq_true rfl) ⟨Nat.le_of_ble_eq_true rfl, Nat.le_of_ble_eq_true rfl⟩ dX12_image_95 (fun τ2 H locs h hP hD hS => ?_)
    refine lv_aload_n hx hb dX12_image_98 rfl (lv_at hl 0 rfl) ?_
    refine mg_0_82 hx hb hts hown hK hP mw_915 dX12_image_99 ?_
    exact zret_i hx hb hr hlocks hK hP hD hS h dX12_image_102
  · have h := h.2 hc
    refine lv_iload_n hx hb dX12_image_78 rfl (lv_at hl 1 rfl) ?_
    refine lv_aload_n hx hb dX12_image_79 rfl (lv_at hl 0 rfl) ?_
    refine mg_0_81 hx hb hts hown hK hP mw_914 dX12_image_80 ?_
    refine lv_iload_n hx hb dX12_image_83 rfl (lv_at hl 2 rfl) ?_
    refine ma_26 hx hb hK hP h.1 rfl dX12_image_84 ?_
    have h := h.2
    refine lv_ixor hx hb dX12_image_85 ?_
    refine lv_topi (fun v3 ev3 => ?_)
    have h := h v3 ev3
    refine lv_istore_n (lv' := [(1, .int v3), (0, .ref (ad 0)), (2, .int x2)]) hx hb dX12_image_86 rfl hl (by decide) rfl (fun ls hl => ?_)
    obtain ⟨v4, ev4⟩ : ∃ z : Int32, z = x2 + (1 : Int32) := ⟨_, rfl⟩
    have h := h v4 ev4
    refine lv_iinc (v := v4) (lv' := [(2, .int v4), (1, .int v3), (0, .ref (ad 0))]) hx hb dX12_image_87 hl (k := 2) rfl (by rw [ev4]; rfl) (by decide) rfl (fun ls hl => ?_)
    refine lv_goto (tgt := 72) hx hb dX12_image_90 (by decide) ?_
    exact hk_72 v3 v4 σ _ _ _ h hP hD hS (lv_sub hl [2, 1, 0] rfl)
set_option maxHeartbeats 4000000 in
set_option maxRecDepth 100000 in
theorem t_X12_image_72 (C0 : zCx p s m meth c args RX12 cX12_image 3 (some .int) vs_X12_image) (hK : va_K (dC, dI) vwCl (m_ty cI cJ cC) s) (N : Nat) {Q : Int32 → zSt → Prop} : ∀ (f : Nat) (x1 : Int32) (x2 : Int32) (σ : zSt) (H : Heap) (locs : List Loc) (ls : Array Slot), w_X12_image_72 N  Q f x1 x2 σ → va_P (dC, dI) vwCl (m_W ad cI cJ cC σ) H → va_D (zAW m_n ad s.heap.size) (m_W ad cI cJ cC σ) → va_S (zAW m_n ad s.heap.size) s.heap H locs → lv_has ls 3 [(0, .ref (ad 0)), (1, .int x1), (2, .int x2)] → W p l e rm_X12_image s m args below meth c H locs 0 0 (MQ below (zQi (dC, dI) (m_ty cI cJ cC) (m_W ad cI cJ cC) (zAW m_n ad s.heap.size) Q) args s 0 0 (zAW m_n ad s.heap.size)) (F0 m 72 ls []) := by
  intro f
  induction f with
  | zero => intro x1 x2 σ H locs ls h; exact h.elim
  | succ f ih =>
    intro x1 x2 σ H locs ls h hP hD hS hl
    exact tb_X12_image_72 C0 hK N  (k_72 := w_X12_image_72 N  Q f) ih x1 x2 σ H locs ls h hP hD hS hl
set_option maxHeartbeats 4000000 in
set_option maxRecDepth 100000 in
theorem tb_X12_image_16 (C0 : zCx p s m meth c args RX12 cX12_image 3 (some .int) vs_X12_image) (hK : va_K (dC, dI) vwCl (m_ty cI cJ cC) s) (N : Nat) {Q : Int32 → zSt → Prop} {k_16 : Int32 → zSt → Prop} (hk_16 : ∀ (x1 : Int32) (σ : zSt) (H : Heap) (locs : List Loc) (ls : Array Slot), k_16 x1 σ → va_P (dC, dI) vwCl (m_W ad cI cJ cC σ) H → va_D (zAW m_n ad s.heap.size) (m_W ad cI cJ cC σ) → va_S (zAW m_n ad s.heap.size) s.heap H locs → lv_has ls 3 [(0, .ref (ad 0)), (1, .int x1)] → W p l e rm_X12_image s m args below meth c H locs 0 0 (MQ below (zQi (dC, dI) (m_ty cI cJ cC) (m_W ad cI cJ cC) (zAW m_n ad s.heap.size) Q) args s 0 0 (zAW m_n ad s.heap.size)) (F0 m 16 ls [])) : ∀ (x1 : Int32) (σ : zSt) (H : Heap) (locs : List Loc) (ls : Array Slot), b_X12_image_16 N k_16 Q x1 σ → va_P (dC, dI) vwCl (m_W ad cI cJ cC σ) H → va_D (zAW m_n ad s.heap.size) (m_W ad cI cJ cC σ) → va_S (zAW m_n ad s.heap.size) s.heap H locs → lv_has ls 3 [(0, .ref (ad 0)), (1, .int x1)] → W p l e rm_X12_image s m args below meth c H locs 0 0 (MQ below (zQi (dC, dI) (m_ty cI cJ cC) (m_W ad cI cJ cC) (zAW m_n ad s.heap.size) Q) args s 0 0 (zAW m_n ad s.heap.size)) (F0 m 16 ls []) := by
  obtain ⟨hx, hb, hml, hr, hown, hts, hlocks⟩ := id C0
  intro x1 σ H locs ls h hP hD hS hl
  unfold b_X12_image_16 at h
  refine lv_iload_n hx hb dX12_image_16 rfl (lv_at hl 1 rfl) ?_
  refine lv_if_lt (tgt := 41) hx hb dX12_image_17 (by decide) (fun hc => ?_) (fun hc => ?_)
  · have h := h.1 hc
    refine lv_aload_n hx hb dX12_image_41 rfl (lv_at hl 0 rfl) ?_
    refine lv_aload_n hx hb dX12_image_42 rfl (lv_at hl 0 rfl) ?_
    refine mg_0_48 hx hb hts hown hK hP mw_881 dX12_image_43 ?_
    refine lv_sipush (v := (1000 : Int32)) hx hb dX12_image_46 (by decide) ?_
    refine lv_iadd hx hb dX12_image_49 ?_
    refine lv_bipush (v := (8 : Int32)) hx hb dX12_image_50 (by decide) ?_
    refine lv_ishr hx hb dX12_image_52 ?_
    refine k_X12_writes N ⟨hx, hb, hml, hown, hts⟩ mw_1309 ⟨Nat.le_of_ble_eq_true rfl, Nat.le_of_ble_eq_true rfl⟩ h hK hP hD hS hl.1 (rest := []) (Nat.le_of_ble_eq_true rfl) ⟨Nat.le_of_ble_eq_true rfl, Nat.le_of_ble_eq_true rfl⟩ dX12_image_53 (fun τ2 H locs h hP hD hS => ?_)
    refine lv_aload_n hx hb dX12_image_56 rfl (lv_at hl 0 rfl) ?_
    refine lv_aload_n hx hb dX12_image_57 rfl (lv_at hl 0 rfl) ?_
    refine mg_0_48 hx hb hts hown hK hP mw_881 dX12_image_58 ?_
    refine lv_sipush (v := (1000 : Int32)) hx hb dX12_image_61 (by decide) ?_
    refine lv_iadd hx hb dX12_image_64 ?_
    refine k_X12_writes N ⟨hx, hb, hml, hown, hts⟩ mw_1309 ⟨Nat.le_of_ble_eq_true rfl, Nat.le_of_ble_eq_true rfl⟩ h hK hP hD hS hl.1 (rest := []) (Nat.le_of_ble_eq_true rfl) ⟨Nat.le_of_ble_eq_true rfl, Nat.le_of_ble_eq_true rfl⟩ dX12_image_65 (fun τ4 H locs h hP hD hS => ?_)
    refine lv_iconst (v := (0 : Int32)) hx hb dX12_image_68 (by decide) ?_
    refine lv_istore_n (lv' := [(1, .int (0 : Int32)), (0, .ref (ad 0))]) hx hb dX12_image_69 rfl hl (by decide) rfl (fun ls hl => ?_)
    refine lv_iconst (v := (0 : Int32)) hx hb dX12_image_70 (by decide) ?_
    refine lv_istore_n (lv' := [(2, .int (0 : Int32)), (1, .int (0 : Int32)), (0, .ref (ad 0))]) hx hb dX12_image_71 rfl hl (by decide) rfl (fun ls hl => ?_)
    exact t_X12_image_72 C0 hK N  N (0 : Int32) (0 : Int32) τ4 _ _ _ h hP hD hS (lv_sub hl [2, 1, 0] rfl)
  · have h := h.2 hc
    refine lv_aload_n hx hb dX12_image_20 rfl (lv_at hl 0 rfl) ?_
    refine lv_aload_n hx hb dX12_image_21 rfl (lv_at hl 0 rfl) ?_
    refine mg_0_47 hx hb hts hown hK hP mw_880 dX12_image_22 ?_
    refine lv_iload_n hx hb dX12_image_25 rfl (lv_at hl 1 rfl) ?_
    refine lv_lshr hx hb dX12_image_26 rfl ?_
    refine lv_ldc2 (v := (255 : Int64)) hx hb hown (hts _ (List.mem_cons_of_mem _ mw_1312)) dX12_image_27 ?_
    refine lv_land hx hb dX12_image_30 ?_
    refine lv_l2i hx hb dX12_image_31 rfl ?_
    refine k_X12_writes N ⟨hx, hb, hml, hown, hts⟩ mw_1309 ⟨Nat.le_of_ble_eq_true rfl, Nat.le_of_ble_eq_true rfl⟩ h hK hP hD hS hl.1 (rest := []) (Nat.le_of_ble_eq_true rfl) ⟨Nat.le_of_ble_eq_true rfl, Nat.le_of_ble_eq_true rfl⟩ dX12_image_32 (fun τ6 H locs h hP hD hS => ?_)
    obtain ⟨v7, ev7⟩ : ∃ z : Int32, z = x1 + (-8 : Int32) := ⟨_, rfl⟩
    have h := h v7 ev7
    refine lv_iinc (v := v7) (lv' := [(1, .int v7), (0, .ref (ad 0))]) hx hb dX12_image_35 hl (k := 1) rfl (by rw [ev7]; rfl) (by decide) rfl (fun ls hl => ?_)
    refine lv_goto (tgt := 16) hx hb dX12_image_38 (by decide) ?_
    exact hk_16 v7 τ6 _ _ _ h hP hD hS (lv_sub hl [1, 0] rfl)
set_option maxHeartbeats 4000000 in
set_option maxRecDepth 100000 in
theorem t_X12_image_16 (C0 : zCx p s m meth c args RX12 cX12_image 3 (some .int) vs_X12_image) (hK : va_K (dC, dI) vwCl (m_ty cI cJ cC) s) (N : Nat) {Q : Int32 → zSt → Prop} : ∀ (f : Nat) (x1 : Int32) (σ : zSt) (H : Heap) (locs : List Loc) (ls : Array Slot), w_X12_image_16 N  Q f x1 σ → va_P (dC, dI) vwCl (m_W ad cI cJ cC σ) H → va_D (zAW m_n ad s.heap.size) (m_W ad cI cJ cC σ) → va_S (zAW m_n ad s.heap.size) s.heap H locs → lv_has ls 3 [(0, .ref (ad 0)), (1, .int x1)] → W p l e rm_X12_image s m args below meth c H locs 0 0 (MQ below (zQi (dC, dI) (m_ty cI cJ cC) (m_W ad cI cJ cC) (zAW m_n ad s.heap.size) Q) args s 0 0 (zAW m_n ad s.heap.size)) (F0 m 16 ls []) := by
  intro f
  induction f with
  | zero => intro x1 σ H locs ls h; exact h.elim
  | succ f ih =>
    intro x1 σ H locs ls h hP hD hS hl
    exact tb_X12_image_16 C0 hK N  (k_16 := w_X12_image_16 N  Q f) ih x1 σ H locs ls h hP hD hS hl
set_option maxHeartbeats 4000000 in
set_option maxRecDepth 100000 in
theorem t_X12_image_0 (C0 : zCx p s m meth c args RX12 cX12_image 3 (some .int) vs_X12_image) (hK : va_K (dC, dI) vwCl (m_ty cI cJ cC) s) (N : Nat) {Q : Int32 → zSt → Prop} : ∀  (σ : zSt) (H : Heap) (locs : List Loc) (ls : Array Slot), w_X12_image N  σ Q → va_P (dC, dI) vwCl (m_W ad cI cJ cC σ) H → va_D (zAW m_n ad s.heap.size) (m_W ad cI cJ cC σ) → va_S (zAW m_n ad s.heap.size) s.heap H locs → lv_has ls 3 [(0, .ref (ad 0))] → W p l e rm_X12_image s m args below meth c H locs 0 0 (MQ below (zQi (dC, dI) (m_ty cI cJ cC) (m_W ad cI cJ cC) (zAW m_n ad s.heap.size) Q) args s 0 0 (zAW m_n ad s.heap.size)) (F0 m 0 ls []) := by
  obtain ⟨hx, hb, hml, hr, hown, hts, hlocks⟩ := id C0
  intro  σ H locs ls h hP hD hS hl
  unfold w_X12_image at h
  refine lv_aload_n hx hb dX12_image_0 rfl (lv_at hl 0 rfl) ?_
  refine lv_iconst (v := (0 : Int32)) hx hb dX12_image_1 (by decide) ?_
  refine mp_0_82 hx hb hts hown hK hP hD hS mw_915 dX12_image_2 (fun τ1 H locs eτ1 hP hD hS => ?_)
  have h := h τ1 eτ1
  refine lv_aload_n hx hb dX12_image_5 rfl (lv_at hl 0 rfl) ?_
  refine lv_aload_n hx hb dX12_image_6 rfl (lv_at hl 0 rfl) ?_
  refine k_X12_many N ⟨hx, hb, hml, hown, hts⟩ mw_1044 ⟨Nat.le_of_ble_eq_true rfl, Nat.le_of_ble_eq_true rfl⟩ h hK hP hD hS hl.1 (rest := [.ref (ad 0)]) (Nat.le_of_ble_eq_true rfl) ⟨Nat.le_of_ble_eq_true rfl, Nat.le_of_ble_eq_true rfl⟩ dX12_image_7 (fun r2 τ3 H locs h hP hD hS => ?_)
  refine k_X12_writes N ⟨hx, hb, hml, hown, hts⟩ mw_1309 ⟨Nat.le_of_ble_eq_true rfl, Nat.le_of_ble_eq_true rfl⟩ h hK hP hD hS hl.1 (rest := []) (Nat.le_of_ble_eq_true rfl) ⟨Nat.le_of_ble_eq_true rfl, Nat.le_of_ble_eq_true rfl⟩ dX12_image_10 (fun τ5 H locs h hP hD hS => ?_)
  refine lv_bipush (v := (40 : Int32)) hx hb dX12_image_13 (by decide) ?_
  refine lv_istore_n (lv' := [(1, .int (40 : Int32)), (0, .ref (ad 0))]) hx hb dX12_image_15 rfl hl (by decide) rfl (fun ls hl => ?_)
  exact t_X12_image_16 C0 hK N  N (40 : Int32) τ5 _ _ _ h hP hD hS (lv_sub hl [1, 0] rfl)
set_option maxHeartbeats 4000000 in
set_option maxRecDepth 100000 in
theorem c_X12_image (N : Nat) (l : Launch) (dC : Nat → ClassId) (dI : Nat → Nat → Nat) (ad : Nat → Nat) (cI cJ cC : ClassId) (sz : Nat) (σ : zSt)  (Q : Int32 → zSt → Prop) (h : w_X12_image N  σ Q) : Met l yX12_image vs_X12_image rm_X12_image (va_Pc [.ref (ad 0)] (zPc (dC, dI) (m_ty cI cJ cC) (m_W ad cI cJ cC) sz σ)) (zQi (dC, dI) (m_ty cI cJ cC) (m_W ad cI cJ cC) (zAW m_n ad sz) Q) 0 0 (zAW m_n ad sz) := by
  refine Met.ofW (cc := cX12_image) (maxL := 3) (ret := (some .int)) (by decide) rfl ?_
  intro p e s m args below meth c s₁ B hml hv
  obtain ⟨rfl, hsz, hP, hK, hD0⟩ := hv
  subst hsz
  have C0 : zCx p s m meth c _ RX12 cX12_image 3 (some .int) vs_X12_image := ⟨B.exec, B.bytes, hml, B.returns, findClass_of_methodNamed B.named, atoms_spec (ws := vs_X12_image) B.pre, B.notSynchronized⟩
  have hD := m_D0 (n0 := s.heap.size) hD0
  have hl := lv_entry ([.ref (ad 0)]) (n := 3) (Nat.le_of_ble_eq_true rfl)
  rw [lg_entry_eq]
  generalize (lg_sl ([.ref (ad 0)]) ++ List.replicate (3 - (lg_sl ([.ref (ad 0)])).length) Slot.unset).toArray = ls at hl ⊢
  exact t_X12_image_0 C0 hK N  σ _ _ ls h hP hD va_S.rf hl
theorem k_X12_image (N : Nat) {R : Room} {H : Heap} {locs : List Loc} {cells slots : Nat} {Q2 : State → Prop} {cc : ByteArray} {nL pc index : Nat} {ls : Array Slot} {rest : List Value} {own : String} {c0 : Cond} {σ : zSt}  {Q : Int32 → zSt → Prop} (S0 : CallFix p m c cc nL s args (c0 :: zT) own) (hml : Cond.methodLink own index yX12_image ∈ zT) (hR : rm_X12_image.frames + 1 ≤ R.frames ∧ 8 + (3 + 11) + rm_X12_image.locals ≤ R.locals) (h : w_X12_image N  σ Q) (hK : va_K (dC, dI) vwCl (m_ty cI cJ cC) s) (hP : va_P (dC, dI) vwCl (m_W ad cI cJ cC σ) H) (hD : va_D (zAW m_n ad s.heap.size) (m_W ad cI cJ cC σ)) (hS : va_S (zAW m_n ad s.heap.size) s.heap H locs) (hsz : ls.size = nL) (hW : (rest.map fun v => v.category).sum ≤ 8) (hcs : cells ≤ R.cells ∧ slots ≤ R.slots) (hdg : decode cc pc = .ok (.invokevirtual index, 3)) (kk : ∀ (r : Int32) (τ : zSt) (H1 : Heap) (locs1 : List Loc), Q r τ → va_P (dC, dI) vwCl (m_W ad cI cJ cC τ) H1 → va_D (zAW m_n ad s.heap.size) (m_W ad cI cJ cC τ) → va_S (zAW m_n ad s.heap.size) s.heap H1 locs1 → W p l e R s m args below meth c H1 locs1 cells slots Q2 (F0 m (pc + 3) ls (.int r :: rest))) : W p l e R s m args below meth c H locs cells slots Q2 (F0 m pc ls (.ref (ad 0) :: rest)) :=
  zcv_i (T := TX12) (N' := 83) (k := 0) (ci := 12) (fs := m_f0 ad σ) [] S0 (c_X12_image N l dC dI ad cI cJ cC H.size σ  Q h) (cw_X12_image S0.2.2.2.2 hml rfl rfl hR) rfl rfl hK hP hD hS rfl hsz hW rfl hcs hdg kk
end q26
section q26
def w_X12_octet (N : Nat) (x1 : Int32) (σ : zSt) (Q : Int32 → zSt → Prop) : Prop :=
  (x1 < 0 → Q (-1 : Int32) σ) ∧ (¬ x1 < 0 → ((σ.1 30) ≤ x1 → Q (-1 : Int32) σ) ∧ (¬ (σ.1 30) ≤ x1 → (vp_in x1 10) ∧ (Q (σ.2.2.1 17 x1.toNatClampNeg) σ)))
variable {p : Program} {l : Launch} {e : Env} {s : State} {m : MethodId} {args : Array Value} {below : List Frame} {meth : Method} {c : Code} {dC : Nat → ClassId} {dI : Nat → Nat → Nat} {ad : Nat → Nat} {cI cJ cC : ClassId}
set_option maxHeartbeats 4000000 in
set_option maxRecDepth 100000 in
theorem t_X12_octet_0 (C0 : zCx p s m meth c args RX12 cX12_octet 2 (some .int) vs_X12_octet) (hK : va_K (dC, dI) vwCl (m_ty cI cJ cC) s) (N : Nat) {Q : Int32 → zSt → Prop} : ∀ (x1 : Int32) (σ : zSt) (H : Heap) (locs : List Loc) (ls : Array Slot), w_X12_octet N x1 σ Q → va_P (dC, dI) vwCl (m_W ad cI cJ cC σ) H → va_D (zAW m_n ad s.heap.size) (m_W ad cI cJ cC σ) → va_S (zAW m_n ad s.heap.size) s.heap H locs → lv_has ls 2 [(0, .ref (ad 0)), (1, .int x1)] → W p l e rm_X12_octet s m args below meth c H locs 0 0 (MQ below (zQi (dC, dI) (m_ty cI cJ cC) (m_W ad cI cJ cC) (zAW m_n ad s.heap.size) Q) args s 0 0 (zAW m_n ad s.heap.size)) (F0 m 0 ls []) := by
  obtain ⟨hx, hb, hml, hr, hown, hts, hlocks⟩ := id C0
  intro x1 σ H locs ls h hP hD hS hl
  unfold w_X12_octet at h
  refine lv_iload_n hx hb dX12_octet_0 rfl (lv_at hl 1 rfl) ?_
  refine lv_if_lt (tgt := 21) hx hb dX12_octet_1 (by decide) (fun hc => ?_) (fun hc => ?_)
  · have h := h.1 hc
    refine lv_iconst (v := (-1 : Int32)) hx hb dX12_octet_21 (by decide) ?_
    exact zret_i hx hb hr hlocks hK hP hD hS h dX12_octet_22
  · have h := h.2 hc
    refine lv_iload_n hx hb dX12_octet_4 rfl (lv_at hl 1 rfl) ?_
    refine lv_aload_n hx hb dX12_octet_5 rfl (lv_at hl 0 rfl) ?_
    refine mg_0_82 hx hb hts hown hK hP mw_915 dX12_octet_6 ?_
    refine lv_icmp_ge (tgt := 21) hx hb dX12_octet_9 (by decide) (fun hc => ?_) (fun hc => ?_)
    · have h := h.1 hc
      refine lv_iconst (v := (-1 : Int32)) hx hb dX12_octet_21 (by decide) ?_
      exact zret_i hx hb hr hlocks hK hP hD hS h dX12_octet_22
    · have h := h.2 hc
      refine lv_aload_n hx hb dX12_octet_12 rfl (lv_at hl 0 rfl) ?_
      refine mg_0_81 hx hb hts hown hK hP mw_914 dX12_octet_13 ?_
      refine lv_iload_n hx hb dX12_octet_16 rfl (lv_at hl 1 rfl) ?_
      refine ma_26 hx hb hK hP h.1 rfl dX12_octet_17 ?_
      have h := h.2
      refine lv_goto (tgt := 22) hx hb dX12_octet_18 (by decide) ?_
      exact zret_i hx hb hr hlocks hK hP hD hS h dX12_octet_22
set_option maxHeartbeats 4000000 in
set_option maxRecDepth 100000 in
theorem c_X12_octet (N : Nat) (l : Launch) (dC : Nat → ClassId) (dI : Nat → Nat → Nat) (ad : Nat → Nat) (cI cJ cC : ClassId) (sz : Nat) (σ : zSt) (x1 : Int32) (Q : Int32 → zSt → Prop) (h : w_X12_octet N x1 σ Q) : Met l yX12_octet vs_X12_octet rm_X12_octet (va_Pc [.ref (ad 0), .int x1] (zPc (dC, dI) (m_ty cI cJ cC) (m_W ad cI cJ cC) sz σ)) (zQi (dC, dI) (m_ty cI cJ cC) (m_W ad cI cJ cC) (zAW m_n ad sz) Q) 0 0 (zAW m_n ad sz) := by
  refine Met.ofW (cc := cX12_octet) (maxL := 2) (ret := (some .int)) (by decide) rfl ?_
  intro p e s m args below meth c s₁ B hml hv
  obtain ⟨rfl, hsz, hP, hK, hD0⟩ := hv
  subst hsz
  have C0 : zCx p s m meth c _ RX12 cX12_octet 2 (some .int) vs_X12_octet := ⟨B.exec, B.bytes, hml, B.returns, findClass_of_methodNamed B.named, atoms_spec (ws := vs_X12_octet) B.pre, B.notSynchronized⟩
  have hD := m_D0 (n0 := s.heap.size) hD0
  have hl := lv_entry ([.ref (ad 0), .int x1]) (n := 2) (Nat.le_of_ble_eq_true rfl)
  rw [lg_entry_eq]
  generalize (lg_sl ([.ref (ad 0), .int x1]) ++ List.replicate (2 - (lg_sl ([.ref (ad 0), .int x1])).length) Slot.unset).toArray = ls at hl ⊢
  exact t_X12_octet_0 C0 hK N x1 σ _ _ ls h hP hD va_S.rf hl
theorem k_X12_octet (N : Nat) {R : Room} {H : Heap} {locs : List Loc} {cells slots : Nat} {Q2 : State → Prop} {cc : ByteArray} {nL pc index : Nat} {ls : Array Slot} {rest : List Value} {own : String} {c0 : Cond} {σ : zSt} {x1 : Int32} {Q : Int32 → zSt → Prop} (S0 : CallFix p m c cc nL s args (c0 :: zT) own) (hml : Cond.methodLink own index yX12_octet ∈ zT) (hR : rm_X12_octet.frames + 1 ≤ R.frames ∧ 8 + (2 + 11) + rm_X12_octet.locals ≤ R.locals) (h : w_X12_octet N x1 σ Q) (hK : va_K (dC, dI) vwCl (m_ty cI cJ cC) s) (hP : va_P (dC, dI) vwCl (m_W ad cI cJ cC σ) H) (hD : va_D (zAW m_n ad s.heap.size) (m_W ad cI cJ cC σ)) (hS : va_S (zAW m_n ad s.heap.size) s.heap H locs) (hsz : ls.size = nL) (hW : (rest.map fun v => v.category).sum ≤ 8) (hcs : cells ≤ R.cells ∧ slots ≤ R.slots) (hdg : decode cc pc = .ok (.invokevirtual index, 3)) (kk : ∀ (r : Int32) (τ : zSt) (H1 : Heap) (locs1 : List Loc), Q r τ → va_P (dC, dI) vwCl (m_W ad cI cJ cC τ) H1 → va_D (zAW m_n ad s.heap.size) (m_W ad cI cJ cC τ) → va_S (zAW m_n ad s.heap.size) s.heap H1 locs1 → W p l e R s m args below meth c H1 locs1 cells slots Q2 (F0 m (pc + 3) ls (.int r :: rest))) : W p l e R s m args below meth c H locs cells slots Q2 (F0 m pc ls (.int x1 :: .ref (ad 0) :: rest)) :=
  zcv_i (T := TX12) (N' := 83) (k := 0) (ci := 12) (fs := m_f0 ad σ) [.int x1] S0 (c_X12_octet N l dC dI ad cI cJ cC H.size σ x1 Q h) (cw_X12_octet S0.2.2.2.2 hml rfl rfl hR) rfl rfl hK hP hD hS rfl hsz hW rfl hcs hdg kk
end q26
section q26
def b_X12_on_61 (N : Nat) (k_61 : Int32 → Int64 → Int32 → zSt → Prop) (Q : Int32 → zSt → Prop) (x2 : Int32) (x3 : Int64) (x5 : Int32) (σ : zSt) : Prop :=
  ((7 : Int32) ≤ x5 → ∀ v1 : Int32, v1 = (((256 : Int32) * (σ.2.2.1 0 7)) + (σ.2.2.1 0 8)) - (1000 : Int32) → ((σ.2.2.1 0 9) = x2 → w_X12_may N x3 σ (fun r2 τ3 => (r2 = 0 → Q (0 : Int32) τ3) ∧ (¬ r2 = 0 → w_X12_isIn N v1.toInt64 (-1000 : Int64) (1000 : Int64) τ3 (fun r4 τ5 => (r4 = 0 → Q (0 : Int32) τ5) ∧ (¬ r4 = 0 → ∀ τ6 : zSt, τ6 = zJ τ5 0 x3 → ∀ τ7 : zSt, τ7 = zI τ6 14 v1 → Q (1 : Int32) τ7))))) ∧ (¬ (σ.2.2.1 0 9) = x2 → Q (0 : Int32) σ)) ∧ (¬ (7 : Int32) ≤ x5 → (vp_in x5 800) ∧ (∀ v8 : Int64, v8 = ((256 : Int64) * x3) + (σ.2.2.1 0 x5.toNatClampNeg).toInt64 → ∀ v9 : Int32, v9 = x5 + (1 : Int32) → k_61 x2 v8 v9 σ))
def w_X12_on_61 (N : Nat) (Q : Int32 → zSt → Prop) : Nat → Int32 → Int64 → Int32 → zSt → Prop
  | 0 => fun _ _ _ _ => False
  | f + 1 => b_X12_on_61 N (w_X12_on_61 N  Q f) Q
def b_X12_on_35 (N : Nat) (k_35 : Int32 → Int32 → zSt → Prop) (Q : Int32 → zSt → Prop) (x2 : Int32) (x3 : Int32) (σ : zSt) : Prop :=
  ((9 : Int32) ≤ x3 → w_X12_on_61 N Q N x2 (0 : Int64) (1 : Int32) σ) ∧ (¬ (9 : Int32) ≤ x3 → (vp_in x3 800) ∧ (∀ v1 : Int32, v1 = x2 ^^^ (σ.2.2.1 0 x3.toNatClampNeg) → ∀ v2 : Int32, v2 = x3 + (1 : Int32) → k_35 v1 v2 σ))
def w_X12_on_35 (N : Nat) (Q : Int32 → zSt → Prop) : Nat → Int32 → Int32 → zSt → Prop
  | 0 => fun _ _ _ => False
  | f + 1 => b_X12_on_35 N (w_X12_on_35 N  Q f) Q
def w_X12_on (N : Nat)  (σ : zSt) (Q : Int32 → zSt → Prop) : Prop :=
  ∀ v1 : Int32, v1 = σ.1 0 → ∀ τ2 : zSt, τ2 = zI σ 0 (0 : Int32) → (v1 = (10 : Int32) → w_X12_many N τ2 (fun r3 τ4 => ((τ2.2.2.1 0 0) = r3 → w_X12_on_35 N Q N (0 : Int32) (0 : Int32) τ4) ∧ (¬ (τ2.2.2.1 0 0) = r3 → Q (0 : Int32) τ4))) ∧ (¬ v1 = (10 : Int32) → Q (0 : Int32) τ2)
variable {p : Program} {l : Launch} {e : Env} {s : State} {m : MethodId} {args : Array Value} {below : List Frame} {meth : Method} {c : Code} {dC : Nat → ClassId} {dI : Nat → Nat → Nat} {ad : Nat → Nat} {cI cJ cC : ClassId}
set_option maxHeartbeats 4000000 in
set_option maxRecDepth 100000 in
theorem tb_X12_on_61 (C0 : zCx p s m meth c args RX12 cX12_on 6 (some .boolean) vs_X12_on) (hK : va_K (dC, dI) vwCl (m_ty cI cJ cC) s) (N : Nat) {Q : Int32 → zSt → Prop} {k_61 : Int32 → Int64 → Int32 → zSt → Prop} (hk_61 : ∀ (x2 : Int32) (x3 : Int64) (x5 : Int32) (σ : zSt) (H : Heap) (locs : List Loc) (ls : Array Slot), k_61 x2 x3 x5 σ → va_P (dC, dI) vwCl (m_W ad cI cJ cC σ) H → va_D (zAW m_n ad s.heap.size) (m_W ad cI cJ cC σ) → va_S (zAW m_n ad s.heap.size) s.heap H locs → lv_has ls 6 [(0, .ref (ad 0)), (2, .int x2), (3, .long x3), (5, .int x5)] → W p l e rm_X12_on s m args below meth c H locs 0 0 (MQ below (zQi (dC, dI) (m_ty cI cJ cC) (m_W ad cI cJ cC) (zAW m_n ad s.heap.size) Q) args s 0 0 (zAW m_n ad s.heap.size)) (F0 m 61 ls [])) : ∀ (x2 : Int32) (x3 : Int64) (x5 : Int32) (σ : zSt) (H : Heap) (locs : List Loc) (ls : Array Slot), b_X12_on_61 N k_61 Q x2 x3 x5 σ → va_P (dC, dI) vwCl (m_W ad cI cJ cC σ) H → va_D (zAW m_n ad s.heap.size) (m_W ad cI cJ cC σ) → va_S (zAW m_n ad s.heap.size) s.heap H locs → lv_has ls 6 [(0, .ref (ad 0)), (2, .int x2), (3, .long x3), (5, .int x5)] → W p l e rm_X12_on s m args below meth c H locs 0 0 (MQ below (zQi (dC, dI) (m_ty cI cJ cC) (m_W ad cI cJ cC) (zAW m_n ad s.heap.size) Q) args s 0 0 (zAW m_n ad s.heap.size)) (F0 m 61 ls []) := by
  obtain ⟨hx, hb, hml, hr, hown, hts, hlocks⟩ := id C0
  intro x2 x3 x5 σ H locs ls h hP hD hS hl
  unfold b_X12_on_61 at h
  refine lv_iload hx hb dX12_on_61 (lv_at hl 3 rfl) ?_
  refine lv_bipush (v := (7 : Int32)) hx hb dX12_on_63 (by decide) ?_
  refine lv_icmp_ge (tgt := 89) hx hb dX12_on_65 (by decide) (fun hc => ?_) (fun hc => ?_)
  · have h := h.1 hc
    refine lv_sipush (v := (256 : Int32)) hx hb dX12_on_89 (by decide) ?_
    refine lv_aload_n hx hb dX12_on_92 rfl (lv_at hl 0 rfl) ?_
    refine mg_0_0 hx hb hts hown hK hP mw_833 dX12_on_93 ?_
    refine lv_bipush (v := (7 : Int32)) hx hb dX12_on_96 (by decide) ?_
    refine ma_1 (j := 7) hx hb hK hP (zin (by decide)) (by decide) dX12_on_98 ?_
    refine lv_imul hx hb dX12_on_99 ?_
    refine lv_aload_n hx hb dX12_on_100 rfl (lv_at hl 0 rfl) ?_
    refine mg_0_0 hx hb hts hown hK hP mw_833 dX12_on_101 ?_
    refine lv_bipush (v := (8 : Int32)) hx hb dX12_on_104 (by decide) ?_
    refine ma_1 (j := 8) hx hb hK hP (zin (by decide)) (by decide) dX12_on_106 ?_
    refine lv_iadd hx hb dX12_on_107 ?_
    refine lv_sipush (v := (1000 : Int32)) hx hb dX12_on_108 (by decide) ?_
    refine lv_isub hx hb dX12_on_111 ?_
    refine lv_topi (fun v1 ev1 => ?_)
    have h := h v1 ev1
    refine lv_istore (lv' := [(5, .int v1), (0, .ref (ad 0)), (2, .int x2), (3, .long x3)]) hx hb dX12_on_112 hl (by decide) rfl (fun ls hl => ?_)
    refine lv_aload_n hx hb dX12_on_114 rfl (lv_at hl 1 rfl) ?_
    refine mg_0_0 hx hb hts hown hK hP mw_833 dX12_on_115 ?_
    refine lv_bipush (v := (9 : Int32)) hx hb dX12_on_118 (by decide) ?_
    refine ma_1 (j := 9) hx hb hK hP (zin (by decide)) (by decide) dX12_on_120 ?_
    refine lv_iload_n hx hb dX12_on_121 rfl (lv_at hl 2 rfl) ?_
    refine lv_icmp_ne (tgt := 148) hx hb dX12_on_122 (by decide) (fun hc => ?_) (fun hc => ?_)
    · have h := h.2 hc
      refine lv_iconst (v := (0 : Int32)) hx hb dX12_on_148 (by decide) ?_
      exact zret_z hx hb hr hlocks hK hP hD hS zb_0 h dX12_on_149
    · have h := h.1 hc
      refine lv_aload_n hx hb dX12_on_125 rfl (lv_at hl 1 rfl) ?_
      refine lv_lload_n hx hb dX12_on_126 rfl (lv_at hl 3 rfl) ?_
      refine k_X12_may N ⟨hx, hb, hml, hown, hts⟩ mw_1065 ⟨Nat.le_of_ble_eq_true rfl, Nat.le_of_ble_eq_true rfl⟩ h hK hP hD hS hl.1 (rest := []) (Nat.le_of_ble_eq_true rfl) ⟨Nat.le_of_ble_eq_true rfl, Nat.le_of_ble_eq_true rfl⟩ dX12_on_127 (fun r2 τ3 H locs h hP hD hS => ?_)
      refine lv_if_eq (tgt := 148) hx hb dX12_on_130 (by decide) (fun hc => ?_) (fun hc => ?_)
      · have h := h.1 hc
        refine lv_iconst (v := (0 : Int32)) hx hb dX12_on_148 (by decide) ?_
        exact zret_z hx hb hr hlocks hK hP hD hS zb_0 h dX12_on_149
      · have h := h.2 hc
        refine lv_iload hx hb dX12_on_133 (lv_at hl 0 rfl) ?_
        refine lv_i2l hx hb dX12_on_135 rfl ?_
        refine lv_ldc2 (v := (-1000 : Int64)) hx hb hown (hts _ (List.mem_cons_of_mem _ mw_1095)) dX12_on_136 ?_
        refine lv_ldc2 (v := (1000 : Int64)) hx hb hown (hts _ (List.mem_cons_of_mem _ mw_1096)) dX12_on_139 ?_
        refine k_X12_isIn N ⟨hx, hb, hml, hown, hts⟩ mw_970 ⟨Nat.le_of_ble_eq_true rfl, Nat.le_of_ble_eq_true rfl⟩ h hK hP hD hS hl.1 (rest := []) (Nat.le_of_ble_eq_true rfl) ⟨Nat.le_of_ble_eq_true rfl, Nat.le_of_ble_eq_true rfl⟩ dX12_on_142 (fun r4 τ5 H locs h hP hD hS => ?_)
        refine lv_if_ne (tgt := 150) hx hb dX12_on_145 (by decide) (fun hc => ?_) (fun hc => ?_)
        · have h := h.2 hc
          refine lv_aload_n hx hb dX12_on_150 rfl (lv_at hl 1 rfl) ?_
          refine lv_lload_n hx hb dX12_on_151 rfl (lv_at hl 3 rfl) ?_
          refine mp_0_47 hx hb hts hown hK hP hD hS mw_880 dX12_on_152 (fun τ6 H locs eτ6 hP hD hS => ?_)
          have h := h τ6 eτ6
          refine lv_aload_n hx hb dX12_on_155 rfl (lv_at hl 1 rfl) ?_
          refine lv_iload hx hb dX12_on_156 (lv_at hl 0 rfl) ?_
          refine mp_0_48 hx hb hts hown hK hP hD hS mw_881 dX12_on_158 (fun τ7 H locs eτ7 hP hD hS => ?_)
          have h := h τ7 eτ7
          refine lv_iconst (v := (1 : Int32)) hx hb dX12_on_161 (by decide) ?_
          exact zret_z hx hb hr hlocks hK hP hD hS zb_1 h dX12_on_162
        · have h := h.1 hc
          refine lv_iconst (v := (0 : Int32)) hx hb dX12_on_148 (by decide) ?_
          exact zret_z hx hb hr hlocks hK hP hD hS zb_0 h dX12_on_149
  · have h := h.2 hc
    refine lv_ldc2 (v := (256 : Int64)) hx hb hown (hts _ (List.mem_cons_of_mem _ mw_1207)) dX12_on_68 ?_
    refine lv_lload_n hx hb dX12_on_71 rfl (lv_at hl 2 rfl) ?_
    refine lv_lmul hx hb dX12_on_72 ?_
    refine lv_aload_n hx hb dX12_on_73 rfl (lv_at hl 0 rfl) ?_
    refine mg_0_0 hx hb hts hown hK hP mw_833 dX12_on_74 ?_
    refine lv_iload hx hb dX12_on_77 (lv_at hl 3 rfl) ?_
    refine ma_1 hx hb hK hP h.1 rfl dX12_on_79 ?_
    have h := h.2
    refine lv_i2l hx hb dX12_on_80 rfl ?_
    refine lv_ladd hx hb dX12_on_81 ?_
    refine lv_topl (fun v8 ev8 => ?_)
    have h := h v8 ev8
    refine lv_lstore_n (lv' := [(3, .long v8), (0, .ref (ad 0)), (2, .int x2), (5, .int x5)]) hx hb dX12_on_82 rfl hl (by decide) rfl (fun ls hl => ?_)
    obtain ⟨v9, ev9⟩ : ∃ z : Int32, z = x5 + (1 : Int32) := ⟨_, rfl⟩
    have h := h v9 ev9
    refine lv_iinc (v := v9) (lv' := [(5, .int v9), (3, .long v8), (0, .ref (ad 0)), (2, .int x2)]) hx hb dX12_on_83 hl (k := 3) rfl (by rw [ev9]; rfl) (by decide) rfl (fun ls hl => ?_)
    refine lv_goto (tgt := 61) hx hb dX12_on_86 (by decide) ?_
    exact hk_61 x2 v8 v9 σ _ _ _ h hP hD hS (lv_sub hl [2, 3, 1, 0] rfl)
set_option maxHeartbeats 4000000 in
set_option maxRecDepth 100000 in
theorem t_X12_on_61 (C0 : zCx p s m meth c args RX12 cX12_on 6 (some .boolean) vs_X12_on) (hK : va_K (dC, dI) vwCl (m_ty cI cJ cC) s) (N : Nat) {Q : Int32 → zSt → Prop} : ∀ (f : Nat) (x2 : Int32) (x3 : Int64) (x5 : Int32) (σ : zSt) (H : Heap) (locs : List Loc) (ls : Array Slot), w_X12_on_61 N  Q f x2 x3 x5 σ → va_P (dC, dI) vwCl (m_W ad cI cJ cC σ) H → va_D (zAW m_n ad s.heap.size) (m_W ad cI cJ cC σ) → va_S (zAW m_n ad s.heap.size) s.heap H locs → lv_has ls 6 [(0, .ref (ad 0)), (2, .int x2), (3, .long x3), (5, .int x5)] → W p l e rm_X12_on s m args below meth c H locs 0 0 (MQ below (zQi (dC, dI) (m_ty cI cJ cC) (m_W ad cI cJ cC) (zAW m_n ad s.heap.size) Q) args s 0 0 (zAW m_n ad s.heap.size)) (F0 m 61 ls []) := by
  intro f
  induction f with
  | zero => intro x2 x3 x5 σ H locs ls h; exact h.elim
  | succ f ih =>
    intro x2 x3 x5 σ H locs ls h hP hD hS hl
    exact tb_X12_on_61 C0 hK N  (k_61 := w_X12_on_61 N  Q f) ih x2 x3 x5 σ H locs ls h hP hD hS hl
set_option maxHeartbeats 4000000 in
set_option maxRecDepth 100000 in
theorem tb_X12_on_35 (C0 : zCx p s m meth c args RX12 cX12_on 6 (some .boolean) vs_X12_on) (hK : va_K (dC, dI) vwCl (m_ty cI cJ cC) s) (N : Nat) {Q : Int32 → zSt → Prop} {k_35 : Int32 → Int32 → zSt → Prop} (hk_35 : ∀ (x2 : Int32) (x3 : Int32) (σ : zSt) (H : Heap) (locs : List Loc) (ls : Array Slot), k_35 x2 x3 σ → va_P (dC, dI) vwCl (m_W ad cI cJ cC σ) H → va_D (zAW m_n ad s.heap.size) (m_W ad cI cJ cC σ) → va_S (zAW m_n ad s.heap.size) s.heap H locs → lv_has ls 6 [(0, .ref (ad 0)), (2, .int x2), (3, .int x3)] → W p l e rm_X12_on s m args below meth c H locs 0 0 (MQ below (zQi (dC, dI) (m_ty cI cJ cC) (m_W ad cI cJ cC) (zAW m_n ad s.heap.size) Q) args s 0 0 (zAW m_n ad s.heap.size)) (F0 m 35 ls [])) : ∀ (x2 : Int32) (x3 : Int32) (σ : zSt) (H : Heap) (locs : List Loc) (ls : Array Slot), b_X12_on_35 N k_35 Q x2 x3 σ → va_P (dC, dI) vwCl (m_W ad cI cJ cC σ) H → va_D (zAW m_n ad s.heap.size) (m_W ad cI cJ cC σ) → va_S (zAW m_n ad s.heap.size) s.heap H locs → lv_has ls 6 [(0, .ref (ad 0)), (2, .int x2), (3, .int x3)] → W p l e rm_X12_on s m args below meth c H locs 0 0 (MQ below (zQi (dC, dI) (m_ty cI cJ cC) (m_W ad cI cJ cC) (zAW m_n ad s.heap.size) Q) args s 0 0 (zAW m_n ad s.heap.size)) (F0 m 35 ls []) := by
  obtain ⟨hx, hb, hml, hr, hown, hts, hlocks⟩ := id C0
  intro x2 x3 σ H locs ls h hP hD hS hl
  unfold b_X12_on_35 at h
  refine lv_iload_n hx hb dX12_on_35 rfl (lv_at hl 2 rfl) ?_
  refine lv_bipush (v := (9 : Int32)) hx hb dX12_on_36 (by decide) ?_
  refine lv_icmp_ge (tgt := 56) hx hb dX12_on_38 (by decide) (fun hc => ?_) (fun hc => ?_)
  · have h := h.1 hc
    refine lv_lconst (v := (0 : Int64)) hx hb dX12_on_56 (by decide) ?_
    refine lv_lstore_n (lv' := [(3, .long (0 : Int64)), (0, .ref (ad 0)), (2, .int x2)]) hx hb dX12_on_57 rfl hl (by decide) rfl (fun ls hl => ?_)
    refine lv_iconst (v := (1 : Int32)) hx hb dX12_on_58 (by decide) ?_
    refine lv_istore (lv' := [(5, .int (1 : Int32)), (3, .long (0 : Int64)), (0, .ref (ad 0)), (2, .int x2)]) hx hb dX12_on_59 hl (by decide) rfl (fun ls hl => ?_)
    exact t_X12_on_61 C0 hK N  N x2 (0 : Int64) (1 : Int32) σ _ _ _ h hP hD hS (lv_sub hl [2, 3, 1, 0] rfl)
  · have h := h.2 hc
    refine lv_iload_n hx hb dX12_on_41 rfl (lv_at hl 1 rfl) ?_
    refine lv_aload_n hx hb dX12_on_42 rfl (lv_at hl 0 rfl) ?_
    refine mg_0_0 hx hb hts hown hK hP mw_833 dX12_on_43 ?_
    refine lv_iload_n hx hb dX12_on_46 rfl (lv_at hl 2 rfl) ?_
    refine ma_1 hx hb hK hP h.1 rfl dX12_on_47 ?_
    have h := h.2
    refine lv_ixor hx hb dX12_on_48 ?_
    refine lv_topi (fun v1 ev1 => ?_)
    have h := h v1 ev1
    refine lv_istore_n (lv' := [(2, .int v1), (0, .ref (ad 0)), (3, .int x3)]) hx hb dX12_on_49 rfl hl (by decide) rfl (fun ls hl => ?_)
    obtain ⟨v2, ev2⟩ : ∃ z : Int32, z = x3 + (1 : Int32) := ⟨_, rfl⟩
    have h := h v2 ev2
    refine lv_iinc (v := v2) (lv' := [(3, .int v2), (2, .int v1), (0, .ref (ad 0))]) hx hb dX12_on_50 hl (k := 2) rfl (by rw [ev2]; rfl) (by decide) rfl (fun ls hl => ?_)
    refine lv_goto (tgt := 35) hx hb dX12_on_53 (by decide) ?_
    exact hk_35 v1 v2 σ _ _ _ h hP hD hS (lv_sub hl [2, 1, 0] rfl)
set_option maxHeartbeats 4000000 in
set_option maxRecDepth 100000 in
theorem t_X12_on_35 (C0 : zCx p s m meth c args RX12 cX12_on 6 (some .boolean) vs_X12_on) (hK : va_K (dC, dI) vwCl (m_ty cI cJ cC) s) (N : Nat) {Q : Int32 → zSt → Prop} : ∀ (f : Nat) (x2 : Int32) (x3 : Int32) (σ : zSt) (H : Heap) (locs : List Loc) (ls : Array Slot), w_X12_on_35 N  Q f x2 x3 σ → va_P (dC, dI) vwCl (m_W ad cI cJ cC σ) H → va_D (zAW m_n ad s.heap.size) (m_W ad cI cJ cC σ) → va_S (zAW m_n ad s.heap.size) s.heap H locs → lv_has ls 6 [(0, .ref (ad 0)), (2, .int x2), (3, .int x3)] → W p l e rm_X12_on s m args below meth c H locs 0 0 (MQ below (zQi (dC, dI) (m_ty cI cJ cC) (m_W ad cI cJ cC) (zAW m_n ad s.heap.size) Q) args s 0 0 (zAW m_n ad s.heap.size)) (F0 m 35 ls []) := by
  intro f
  induction f with
  | zero => intro x2 x3 σ H locs ls h; exact h.elim
  | succ f ih =>
    intro x2 x3 σ H locs ls h hP hD hS hl
    exact tb_X12_on_35 C0 hK N  (k_35 := w_X12_on_35 N  Q f) ih x2 x3 σ H locs ls h hP hD hS hl
set_option maxHeartbeats 4000000 in
set_option maxRecDepth 100000 in
theorem t_X12_on_0 (C0 : zCx p s m meth c args RX12 cX12_on 6 (some .boolean) vs_X12_on) (hK : va_K (dC, dI) vwCl (m_ty cI cJ cC) s) (N : Nat) {Q : Int32 → zSt → Prop} : ∀  (σ : zSt) (H : Heap) (locs : List Loc) (ls : Array Slot), w_X12_on N  σ Q → va_P (dC, dI) vwCl (m_W ad cI cJ cC σ) H → va_D (zAW m_n ad s.heap.size) (m_W ad cI cJ cC σ) → va_S (zAW m_n ad s.heap.size) s.heap H locs → lv_has ls 6 [(0, .ref (ad 0))] → W p l e rm_X12_on s m args below meth c H locs 0 0 (MQ below (zQi (dC, dI) (m_ty cI cJ cC) (m_W ad cI cJ cC) (zAW m_n ad s.heap.size) Q) args s 0 0 (zAW m_n ad s.heap.size)) (F0 m 0 ls []) := by
  obtain ⟨hx, hb, hml, hr, hown, hts, hlocks⟩ := id C0
  intro  σ H locs ls h hP hD hS hl
  unfold w_X12_on at h
  refine lv_aload_n hx hb dX12_on_0 rfl (lv_at hl 0 rfl) ?_
  refine mg_0_1 hx hb hts hown hK hP mw_834 dX12_on_1 ?_
  refine lv_topi (fun v1 ev1 => ?_)
  have h := h v1 ev1
  refine lv_istore_n (lv' := [(1, .int v1), (0, .ref (ad 0))]) hx hb dX12_on_4 rfl hl (by decide) rfl (fun ls hl => ?_)
  refine lv_aload_n hx hb dX12_on_5 rfl (lv_at hl 1 rfl) ?_
  refine lv_iconst (v := (0 : Int32)) hx hb dX12_on_6 (by decide) ?_
  refine mp_0_1 hx hb hts hown hK hP hD hS mw_834 dX12_on_7 (fun τ2 H locs eτ2 hP hD hS => ?_)
  have h := h τ2 eτ2
  refine lv_iload_n hx hb dX12_on_10 rfl (lv_at hl 0 rfl) ?_
  refine lv_bipush (v := (10 : Int32)) hx hb dX12_on_11 (by decide) ?_
  refine lv_icmp_ne (tgt := 29) hx hb dX12_on_13 (by decide) (fun hc => ?_) (fun hc => ?_)
  · have h := h.2 hc
    refine lv_iconst (v := (0 : Int32)) hx hb dX12_on_29 (by decide) ?_
    exact zret_z hx hb hr hlocks hK hP hD hS zb_0 h dX12_on_30
  · have h := h.1 hc
    refine lv_aload_n hx hb dX12_on_16 rfl (lv_at hl 1 rfl) ?_
    refine mg_0_0 hx hb hts hown hK hP mw_833 dX12_on_17 ?_
    refine lv_iconst (v := (0 : Int32)) hx hb dX12_on_20 (by decide) ?_
    refine ma_1 (j := 0) hx hb hK hP (zin (by decide)) (by decide) dX12_on_21 ?_
    refine lv_aload_n hx hb dX12_on_22 rfl (lv_at hl 1 rfl) ?_
    refine k_X12_many N ⟨hx, hb, hml, hown, hts⟩ mw_1044 ⟨Nat.le_of_ble_eq_true rfl, Nat.le_of_ble_eq_true rfl⟩ h hK hP hD hS hl.1 (rest := [.int (τ2.2.2.1 0 0)]) (Nat.le_of_ble_eq_true rfl) ⟨Nat.le_of_ble_eq_true rfl, Nat.le_of_ble_eq_true rfl⟩ dX12_on_23 (fun r3 τ4 H locs h hP hD hS => ?_)
    refine lv_icmp_eq (tgt := 31) hx hb dX12_on_26 (by decide) (fun hc => ?_) (fun hc => ?_)
    · have h := h.1 hc
      refine lv_iconst (v := (0 : Int32)) hx hb dX12_on_31 (by decide) ?_
      refine lv_istore_n (lv' := [(2, .int (0 : Int32)), (1, .int v1), (0, .ref (ad 0))]) hx hb dX12_on_32 rfl hl (by decide) rfl (fun ls hl => ?_)
      refine lv_iconst (v := (0 : Int32)) hx hb dX12_on_33 (by decide) ?_
      refine lv_istore_n (lv' := [(3, .int (0 : Int32)), (2, .int (0 : Int32)), (1, .int v1), (0, .ref (ad 0))]) hx hb dX12_on_34 rfl hl (by decide) rfl (fun ls hl => ?_)
      exact t_X12_on_35 C0 hK N  N (0 : Int32) (0 : Int32) τ4 _ _ _ h hP hD hS (lv_sub hl [3, 1, 0] rfl)
    · have h := h.2 hc
      refine lv_iconst (v := (0 : Int32)) hx hb dX12_on_29 (by decide) ?_
      exact zret_z hx hb hr hlocks hK hP hD hS zb_0 h dX12_on_30
set_option maxHeartbeats 4000000 in
set_option maxRecDepth 100000 in
theorem c_X12_on (N : Nat) (l : Launch) (dC : Nat → ClassId) (dI : Nat → Nat → Nat) (ad : Nat → Nat) (cI cJ cC : ClassId) (sz : Nat) (σ : zSt)  (Q : Int32 → zSt → Prop) (h : w_X12_on N  σ Q) : Met l yX12_on vs_X12_on rm_X12_on (va_Pc [.ref (ad 0)] (zPc (dC, dI) (m_ty cI cJ cC) (m_W ad cI cJ cC) sz σ)) (zQi (dC, dI) (m_ty cI cJ cC) (m_W ad cI cJ cC) (zAW m_n ad sz) Q) 0 0 (zAW m_n ad sz) := by
  refine Met.ofW (cc := cX12_on) (maxL := 6) (ret := (some .boolean)) (by decide) rfl ?_
  intro p e s m args below meth c s₁ B hml hv
  obtain ⟨rfl, hsz, hP, hK, hD0⟩ := hv
  subst hsz
  have C0 : zCx p s m meth c _ RX12 cX12_on 6 (some .boolean) vs_X12_on := ⟨B.exec, B.bytes, hml, B.returns, findClass_of_methodNamed B.named, atoms_spec (ws := vs_X12_on) B.pre, B.notSynchronized⟩
  have hD := m_D0 (n0 := s.heap.size) hD0
  have hl := lv_entry ([.ref (ad 0)]) (n := 6) (Nat.le_of_ble_eq_true rfl)
  rw [lg_entry_eq]
  generalize (lg_sl ([.ref (ad 0)]) ++ List.replicate (6 - (lg_sl ([.ref (ad 0)])).length) Slot.unset).toArray = ls at hl ⊢
  exact t_X12_on_0 C0 hK N  σ _ _ ls h hP hD va_S.rf hl
theorem k_X12_on (N : Nat) {R : Room} {H : Heap} {locs : List Loc} {cells slots : Nat} {Q2 : State → Prop} {cc : ByteArray} {nL pc index : Nat} {ls : Array Slot} {rest : List Value} {own : String} {c0 : Cond} {σ : zSt}  {Q : Int32 → zSt → Prop} (S0 : CallFix p m c cc nL s args (c0 :: zT) own) (hml : Cond.methodLink own index yX12_on ∈ zT) (hR : rm_X12_on.frames + 1 ≤ R.frames ∧ 8 + (6 + 11) + rm_X12_on.locals ≤ R.locals) (h : w_X12_on N  σ Q) (hK : va_K (dC, dI) vwCl (m_ty cI cJ cC) s) (hP : va_P (dC, dI) vwCl (m_W ad cI cJ cC σ) H) (hD : va_D (zAW m_n ad s.heap.size) (m_W ad cI cJ cC σ)) (hS : va_S (zAW m_n ad s.heap.size) s.heap H locs) (hsz : ls.size = nL) (hW : (rest.map fun v => v.category).sum ≤ 8) (hcs : cells ≤ R.cells ∧ slots ≤ R.slots) (hdg : decode cc pc = .ok (.invokevirtual index, 3)) (kk : ∀ (r : Int32) (τ : zSt) (H1 : Heap) (locs1 : List Loc), Q r τ → va_P (dC, dI) vwCl (m_W ad cI cJ cC τ) H1 → va_D (zAW m_n ad s.heap.size) (m_W ad cI cJ cC τ) → va_S (zAW m_n ad s.heap.size) s.heap H1 locs1 → W p l e R s m args below meth c H1 locs1 cells slots Q2 (F0 m (pc + 3) ls (.int r :: rest))) : W p l e R s m args below meth c H locs cells slots Q2 (F0 m pc ls (.ref (ad 0) :: rest)) :=
  zcv_i (T := TX12) (N' := 83) (k := 0) (ci := 12) (fs := m_f0 ad σ) [] S0 (c_X12_on N l dC dI ad cI cJ cC H.size σ  Q h) (cw_X12_on S0.2.2.2.2 hml rfl rfl hR) rfl rfl hK hP hD hS rfl hsz hW rfl hcs hdg kk
end q26
