section q09
end q09
section q09
def b_X0_firstSet_113 (N : Nat) (k_60 : Int64 → Int64 → Int64 → zSt → Prop) (Q : Int32 → zSt → Prop) (x1 : Int64) (x3 : Int64) (x5 : Int64) (x7 : Int64) (σ : zSt) : Prop :=
  w_X0_gainers N x5 σ (fun r1 τ2 => w_X0_leastSet N r1 x7 (x1 &&& (x5 ^^^ (-1 : Int64))) τ2 (fun r3 τ4 => (r3 = 0 → ∀ v5 : Int64, v5 = x5 + (1 : Int64) → k_60 x1 x3 v5 τ4) ∧ (¬ r3 = 0 → w_X4_may N x5 τ4 (fun r6 τ7 => (r6 = 0 → ∀ v8 : Int64, v8 = x5 + (1 : Int64) → k_60 x1 x3 v8 τ7) ∧ (¬ r6 = 0 → w_X0_found N (5 : Int32) r3 x5 τ7 (fun r9 τ10 => (zb r9) ∧ Q r9 τ10))))))
def b_X0_firstSet_60 (N : Nat) (k_60 : Int64 → Int64 → Int64 → zSt → Prop) (Q : Int32 → zSt → Prop) (x1 : Int64) (x3 : Int64) (x5 : Int64) (σ : zSt) : Prop :=
  (0 ≤ (lg_cmp x5 x3) → Q (0 : Int32) σ) ∧ (¬ 0 ≤ (lg_cmp x5 x3) → ∀ v1 : Int64, v1 = x5 &&& (x1 ^^^ (-1 : Int64)) → w_X0_firstMaker N v1 σ (fun r2 τ3 => (r2 = (-1 : Int32) → b_X0_firstSet_113 N k_60 Q x1 x3 x5 v1 τ3) ∧ (¬ r2 = (-1 : Int32) → w_X10_of N x5 r2 τ3 (fun r4 τ5 => (vp_in r2 10) ∧ (((lg_cmp r4 (τ5.2.2.2 9 r2.toNatClampNeg)) ≤ 0 → ∀ v6 : Int64, v6 = x5 + (1 : Int64) → k_60 x1 x3 v6 τ5) ∧ (¬ (lg_cmp r4 (τ5.2.2.2 9 r2.toNatClampNeg)) ≤ 0 → b_X0_firstSet_113 N k_60 Q x1 x3 x5 v1 τ5))))))
def w_X0_firstSet_60 (N : Nat) (Q : Int32 → zSt → Prop) : Nat → Int64 → Int64 → Int64 → zSt → Prop
  | 0 => fun _ _ _ _ => False
  | f + 1 => b_X0_firstSet_60 N (w_X0_firstSet_60 N  Q f) Q
def b_X0_firstSet_15 (N : Nat) (k_15 : Int64 → Int32 → zSt → Prop) (Q : Int32 → zSt → Prop) (x1 : Int64) (x3 : Int32) (σ : zSt) : Prop :=
  ((σ.1 1) ≤ x3 → ∀ v1 : Int64, v1 = (1 : Int64) <<< ((σ.1 2).toInt64 &&& 63) → w_X0_firstSet_60 N Q N x1 v1 (0 : Int64) σ) ∧ (¬ (σ.1 1) ≤ x3 → w_X10_of N x1 x3 σ (fun r2 τ3 => (vp_in x3 10) ∧ (∀ τ4 : zSt, τ4 = zB τ3 9 (vp_updL (τ3.2.2.2 9) (x3.toNatClampNeg) r2) → ∀ v5 : Int32, v5 = x3 + (1 : Int32) → k_15 x1 v5 τ4)))
def w_X0_firstSet_15 (N : Nat) (Q : Int32 → zSt → Prop) : Nat → Int64 → Int32 → zSt → Prop
  | 0 => fun _ _ _ => False
  | f + 1 => b_X0_firstSet_15 N (w_X0_firstSet_15 N  Q f) Q
def w_X0_firstSet (N : Nat) (x1 : Int64) (σ : zSt) (Q : Int32 → zSt → Prop) : Prop :=
  ((σ.1 1) ≤ (5 : Int32) → w_X0_firstSet_15 N Q N x1 (0 : Int32) σ) ∧ (¬ (σ.1 1) ≤ (5 : Int32) → Q (0 : Int32) σ)
variable {p : Program} {l : Launch} {e : Env} {s : State} {m : MethodId} {args : Array Value} {below : List Frame} {meth : Method} {c : Code} {dC : Nat → ClassId} {dI : Nat → Nat → Nat} {ad : Nat → Nat} {cI cJ : ClassId}
set_option maxHeartbeats 4000000 in
set_option maxRecDepth 100000 in
theorem t_X0_firstSet_113 (C0 : zCx p s m meth c args RX0 cX0_firstSet 11 (some .boolean) vs_X0_firstSet) (hK : va_K (dC, dI) vwCl (x_ty cI cJ) s) (N : Nat) {Q : Int32 → zSt → Prop} {k_60 : Int64 → Int64 → Int64 → zSt → Prop} (hk_60 : ∀ (x1 : Int64) (x3 : Int64) (x5 : Int64) (σ : zSt) (H : Heap) (locs : List Loc) (ls : Array Slot), k_60 x1 x3 x5 σ → va_P (dC, dI) vwCl (x_W ad cI cJ σ) H → va_D (zAW x_n ad s.heap.size) (x_W ad cI cJ σ) → va_S (zAW x_n ad s.heap.size) s.heap H locs → lv_has ls 11 [(0, .ref (ad 10)), (1, .long x1), (3, .long x3), (5, .long x5)] → W p l e rm_X0_firstSet s m args below meth c H locs 0 0 (MQ below (zQi (dC, dI) (x_ty cI cJ) (x_W ad cI cJ) (zAW x_n ad s.heap.size) Q) args s 0 0 (zAW x_n ad s.heap.size)) (F0 m 60 ls [])) : ∀ (x1 : Int64) (x3 : Int64) (x5 : Int64) (x7 : Int64) (σ : zSt) (H : Heap) (locs : List Loc) (ls : Array Slot), b_X0_firstSet_113 N k_60 Q x1 x3 x5 x7 σ → va_P (dC, dI) vwCl (x_W ad cI cJ σ) H → va_D (zAW x_n ad s.heap.size) (x_W ad cI cJ σ) → va_S (zAW x_n ad s.heap.size) s.heap H locs → lv_has ls 11 [(0, .ref (ad 10)), (1, .long x1), (3, .long x3), (5, .long x5), (7, .long x7)] → W p l e rm_X0_firstSet s m args below meth c H locs 0 0 (MQ below (zQi (dC, dI) (x_ty cI cJ) (x_W ad cI cJ) (zAW x_n ad s.heap.size) Q) args s 0 0 (zAW x_n ad s.heap.size)) (F0 m 113 ls []) := by
  obtain ⟨hx, hb, hml, hr, hown, hts, hlocks⟩ := id C0
  intro x1 x3 x5 x7 σ H locs ls h hP hD hS hl
  unfold b_X0_firstSet_113 at h
  refine lv_aload_n hx hb dX0_firstSet_113 rfl (lv_at hl 0 rfl) ?_
  refine lv_aload_n hx hb dX0_firstSet_114 rfl (lv_at hl 0 rfl) ?_
  refine lv_lload hx hb dX0_firstSet_115 (lv_at hl 3 rfl) ?_
  refine k_X0_gainers N ⟨hx, hb, hml, hown, hts⟩ mw_644 ⟨Nat.le_of_ble_eq_true rfl, Nat.le_of_ble_eq_true rfl⟩ h hK hP hD hS hl.1 (rest := [.ref (ad 10)]) (Nat.le_of_ble_eq_true rfl) ⟨Nat.le_of_ble_eq_true rfl, Nat.le_of_ble_eq_true rfl⟩ dX0_firstSet_117 (fun r1 τ2 H locs h hP hD hS => ?_)
  refine lv_lload hx hb dX0_firstSet_120 (lv_at hl 4 rfl) ?_
  refine lv_lload_n hx hb dX0_firstSet_122 rfl (lv_at hl 1 rfl) ?_
  refine lv_lload hx hb dX0_firstSet_123 (lv_at hl 3 rfl) ?_
  refine lv_ldc2 (v := (-1 : Int64)) hx hb hown (hts _ (List.mem_cons_of_mem _ mw_601)) dX0_firstSet_125 ?_
  refine lv_lxor hx hb dX0_firstSet_128 ?_
  refine lv_land hx hb dX0_firstSet_129 ?_
  refine k_X0_leastSet N ⟨hx, hb, hml, hown, hts⟩ mw_647 ⟨Nat.le_of_ble_eq_true rfl, Nat.le_of_ble_eq_true rfl⟩ h hK hP hD hS hl.1 (rest := []) (Nat.le_of_ble_eq_true rfl) ⟨Nat.le_of_ble_eq_true rfl, Nat.le_of_ble_eq_true rfl⟩ dX0_firstSet_130 (fun r3 τ4 H locs h hP hD hS => ?_)
  refine lv_istore (lv' := [(10, .int r3), (0, .ref (ad 10)), (1, .long x1), (3, .long x3), (5, .long x5), (7, .long x7)]) hx hb dX0_firstSet_133 hl (by decide) rfl (fun ls hl => ?_)
  refine lv_iload hx hb dX0_firstSet_135 (lv_at hl 0 rfl) ?_
  refine lv_if_eq (tgt := 162) hx hb dX0_firstSet_137 (by decide) (fun hc => ?_) (fun hc => ?_)
  · have h := h.1 hc
    refine lv_lload hx hb dX0_firstSet_162 (lv_at hl 4 rfl) ?_
    refine lv_lconst (v := (1 : Int64)) hx hb dX0_firstSet_164 (by decide) ?_
    refine lv_ladd hx hb dX0_firstSet_165 ?_
    refine lv_topl (fun v5 ev5 => ?_)
    have h := h v5 ev5
    refine lv_lstore (lv' := [(5, .long v5), (10, .int r3), (0, .ref (ad 10)), (1, .long x1), (3, .long x3), (7, .long x7)]) hx hb dX0_firstSet_166 hl (by decide) rfl (fun ls hl => ?_)
    refine lv_goto (tgt := 60) hx hb dX0_firstSet_168 (by decide) ?_
    exact hk_60 x1 x3 v5 τ4 _ _ _ h hP hD hS (lv_sub hl [2, 3, 4, 0] rfl)
  · have h := h.2 hc
    refine lv_aload_n hx hb dX0_firstSet_140 rfl (lv_at hl 1 rfl) ?_
    refine xg_10_0 hx hb hts hown hK hP mw_220 dX0_firstSet_141 ?_
    refine lv_lload hx hb dX0_firstSet_144 (lv_at hl 4 rfl) ?_
    refine k_X4_may N ⟨hx, hb, hml, hown, hts⟩ mw_617 ⟨Nat.le_of_ble_eq_true rfl, Nat.le_of_ble_eq_true rfl⟩ h hK hP hD hS hl.1 (rest := []) (Nat.le_of_ble_eq_true rfl) ⟨Nat.le_of_ble_eq_true rfl, Nat.le_of_ble_eq_true rfl⟩ dX0_firstSet_146 (fun r6 τ7 H locs h hP hD hS => ?_)
    refine lv_if_eq (tgt := 162) hx hb dX0_firstSet_149 (by decide) (fun hc => ?_) (fun hc => ?_)
    · have h := h.1 hc
      refine lv_lload hx hb dX0_firstSet_162 (lv_at hl 4 rfl) ?_
      refine lv_lconst (v := (1 : Int64)) hx hb dX0_firstSet_164 (by decide) ?_
      refine lv_ladd hx hb dX0_firstSet_165 ?_
      refine lv_topl (fun v8 ev8 => ?_)
      have h := h v8 ev8
      refine lv_lstore (lv' := [(5, .long v8), (10, .int r3), (0, .ref (ad 10)), (1, .long x1), (3, .long x3), (7, .long x7)]) hx hb dX0_firstSet_166 hl (by decide) rfl (fun ls hl => ?_)
      refine lv_goto (tgt := 60) hx hb dX0_firstSet_168 (by decide) ?_
      exact hk_60 x1 x3 v8 τ7 _ _ _ h hP hD hS (lv_sub hl [2, 3, 4, 0] rfl)
    · have h := h.2 hc
      refine lv_aload_n hx hb dX0_firstSet_152 rfl (lv_at hl 1 rfl) ?_
      refine lv_iconst (v := (5 : Int32)) hx hb dX0_firstSet_153 (by decide) ?_
      refine lv_iload hx hb dX0_firstSet_154 (lv_at hl 0 rfl) ?_
      refine lv_lload hx hb dX0_firstSet_156 (lv_at hl 4 rfl) ?_
      refine k_X0_found N ⟨hx, hb, hml, hown, hts⟩ mw_606 ⟨Nat.le_of_ble_eq_true rfl, Nat.le_of_ble_eq_true rfl⟩ h hK hP hD hS hl.1 (rest := []) (Nat.le_of_ble_eq_true rfl) ⟨Nat.le_of_ble_eq_true rfl, Nat.le_of_ble_eq_true rfl⟩ dX0_firstSet_158 (fun r9 τ10 H locs h hP hD hS => ?_)
      exact zret_z hx hb hr hlocks hK hP hD hS h.1 h.2 dX0_firstSet_161
set_option maxHeartbeats 4000000 in
set_option maxRecDepth 100000 in
theorem tb_X0_firstSet_60 (C0 : zCx p s m meth c args RX0 cX0_firstSet 11 (some .boolean) vs_X0_firstSet) (hK : va_K (dC, dI) vwCl (x_ty cI cJ) s) (N : Nat) {Q : Int32 → zSt → Prop} {k_60 : Int64 → Int64 → Int64 → zSt → Prop} (hk_60 : ∀ (x1 : Int64) (x3 : Int64) (x5 : Int64) (σ : zSt) (H : Heap) (locs : List Loc) (ls : Array Slot), k_60 x1 x3 x5 σ → va_P (dC, dI) vwCl (x_W ad cI cJ σ) H → va_D (zAW x_n ad s.heap.size) (x_W ad cI cJ σ) → va_S (zAW x_n ad s.heap.size) s.heap H locs → lv_has ls 11 [(0, .ref (ad 10)), (1, .long x1), (3, .long x3), (5, .long x5)] → W p l e rm_X0_firstSet s m args below meth c H locs 0 0 (MQ below (zQi (dC, dI) (x_ty cI cJ) (x_W ad cI cJ) (zAW x_n ad s.heap.size) Q) args s 0 0 (zAW x_n ad s.heap.size)) (F0 m 60 ls [])) : ∀ (x1 : Int64) (x3 : Int64) (x5 : Int64) (σ : zSt) (H : Heap) (locs : List Loc) (ls : Array Slot), b_X0_firstSet_60 N k_60 Q x1 x3 x5 σ → va_P (dC, dI) vwCl (x_W ad cI cJ σ) H → va_D (zAW x_n ad s.heap.size) (x_W ad cI cJ σ) → va_S (zAW x_n ad s.heap.size) s.heap H locs → lv_has ls 11 [(0, .ref (ad 10)), (1, .long x1), (3, .long x3), (5, .long x5)] → W p l e rm_X0_firstSet s m args below meth c H locs 0 0 (MQ below (zQi (dC, dI) (x_ty cI cJ) (x_W ad cI cJ) (zAW x_n ad s.heap.size) Q) args s 0 0 (zAW x_n ad s.heap.size)) (F0 m 60 ls []) := by
  obtain ⟨hx, hb, hml, hr, hown, hts, hlocks⟩ := id C0
  intro x1 x3 x5 σ H locs ls h hP hD hS hl
  unfold b_X0_firstSet_60 at h
  refine lv_lload hx hb dX0_firstSet_60 (lv_at hl 3 rfl) ?_
  refine lv_lload_n hx hb dX0_firstSet_62 rfl (lv_at hl 2 rfl) ?_
  refine W.lcmp hx hb dX0_firstSet_63 ?_
  refine lv_if_ge (tgt := 171) hx hb dX0_firstSet_64 (by decide) (fun hc => ?_) (fun hc => ?_)
  · have h := h.1 hc
    refine lv_iconst (v := (0 : Int32)) hx hb dX0_firstSet_171 (by decide) ?_
    exact zret_z hx hb hr hlocks hK hP hD hS zb_0 h dX0_firstSet_172
  · have h := h.2 hc
    refine lv_lload hx hb dX0_firstSet_67 (lv_at hl 3 rfl) ?_
    refine lv_lload_n hx hb dX0_firstSet_69 rfl (lv_at hl 1 rfl) ?_
    refine lv_ldc2 (v := (-1 : Int64)) hx hb hown (hts _ (List.mem_cons_of_mem _ mw_601)) dX0_firstSet_70 ?_
    refine lv_lxor hx hb dX0_firstSet_73 ?_
    refine lv_land hx hb dX0_firstSet_74 ?_
    refine lv_topl (fun v1 ev1 => ?_)
    have h := h v1 ev1
    refine lv_lstore (lv' := [(7, .long v1), (0, .ref (ad 10)), (1, .long x1), (3, .long x3), (5, .long x5)]) hx hb dX0_firstSet_75 hl (by decide) rfl (fun ls hl => ?_)
    refine lv_aload_n hx hb dX0_firstSet_77 rfl (lv_at hl 1 rfl) ?_
    refine lv_lload hx hb dX0_firstSet_78 (lv_at hl 0 rfl) ?_
    refine k_X0_firstMaker N ⟨hx, hb, hml, hown, hts⟩ mw_641 ⟨Nat.le_of_ble_eq_true rfl, Nat.le_of_ble_eq_true rfl⟩ h hK hP hD hS hl.1 (rest := []) (Nat.le_of_ble_eq_true rfl) ⟨Nat.le_of_ble_eq_true rfl, Nat.le_of_ble_eq_true rfl⟩ dX0_firstSet_80 (fun r2 τ3 H locs h hP hD hS => ?_)
    refine lv_istore (lv' := [(9, .int r2), (7, .long v1), (0, .ref (ad 10)), (1, .long x1), (3, .long x3), (5, .long x5)]) hx hb dX0_firstSet_83 hl (by decide) rfl (fun ls hl => ?_)
    refine lv_iload hx hb dX0_firstSet_85 (lv_at hl 0 rfl) ?_
    refine lv_iconst (v := (-1 : Int32)) hx hb dX0_firstSet_87 (by decide) ?_
    refine lv_icmp_eq (tgt := 113) hx hb dX0_firstSet_88 (by decide) (fun hc => ?_) (fun hc => ?_)
    · have h := h.1 hc
      exact t_X0_firstSet_113 C0 hK N hk_60 x1 x3 x5 v1 τ3 _ _ _ h hP hD hS (lv_sub hl [2, 3, 4, 5, 1] rfl)
    · have h := h.2 hc
      refine lv_aload_n hx hb dX0_firstSet_91 rfl (lv_at hl 2 rfl) ?_
      refine xg_10_2 hx hb hts hown hK hP mw_222 dX0_firstSet_92 ?_
      refine lv_lload hx hb dX0_firstSet_95 (lv_at hl 5 rfl) ?_
      refine lv_iload hx hb dX0_firstSet_97 (lv_at hl 0 rfl) ?_
      refine k_X10_of N ⟨hx, hb, hml, hown, hts⟩ mw_605 ⟨Nat.le_of_ble_eq_true rfl, Nat.le_of_ble_eq_true rfl⟩ h hK hP hD hS hl.1 (rest := []) (Nat.le_of_ble_eq_true rfl) ⟨Nat.le_of_ble_eq_true rfl, Nat.le_of_ble_eq_true rfl⟩ dX0_firstSet_99 (fun r4 τ5 H locs h hP hD hS => ?_)
      refine lv_aload_n hx hb dX0_firstSet_102 rfl (lv_at hl 2 rfl) ?_
      refine xg_10_5 hx hb hts hown hK hP mw_225 dX0_firstSet_103 ?_
      refine lv_iload hx hb dX0_firstSet_106 (lv_at hl 0 rfl) ?_
      refine xa_54 hx hb hK hP h.1 rfl dX0_firstSet_108 ?_
      have h := h.2
      refine W.lcmp hx hb dX0_firstSet_109 ?_
      refine lv_if_le (tgt := 162) hx hb dX0_firstSet_110 (by decide) (fun hc => ?_) (fun hc => ?_)
      · have h := h.1 hc
        refine lv_lload hx hb dX0_firstSet_162 (lv_at hl 5 rfl) ?_
        refine lv_lconst (v := (1 : Int64)) hx hb dX0_firstSet_164 (by decide) ?_
        refine lv_ladd hx hb dX0_firstSet_165 ?_
        refine lv_topl (fun v6 ev6 => ?_)
        have h := h v6 ev6
        refine lv_lstore (lv' := [(5, .long v6), (9, .int r2), (7, .long v1), (0, .ref (ad 10)), (1, .long x1), (3, .long x3)]) hx hb dX0_firstSet_166 hl (by decide) rfl (fun ls hl => ?_)
        refine lv_goto (tgt := 60) hx hb dX0_firstSet_168 (by decide) ?_
        exact hk_60 x1 x3 v6 τ5 _ _ _ h hP hD hS (lv_sub hl [3, 4, 5, 0] rfl)
      · have h := h.2 hc
        exact t_X0_firstSet_113 C0 hK N hk_60 x1 x3 x5 v1 τ5 _ _ _ h hP hD hS (lv_sub hl [2, 3, 4, 5, 1] rfl)
set_option maxHeartbeats 4000000 in
set_option maxRecDepth 100000 in
theorem t_X0_firstSet_60 (C0 : zCx p s m meth c args RX0 cX0_firstSet 11 (some .boolean) vs_X0_firstSet) (hK : va_K (dC, dI) vwCl (x_ty cI cJ) s) (N : Nat) {Q : Int32 → zSt → Prop} : ∀ (f : Nat) (x1 : Int64) (x3 : Int64) (x5 : Int64) (σ : zSt) (H : Heap) (locs : List Loc) (ls : Array Slot), w_X0_firstSet_60 N  Q f x1 x3 x5 σ → va_P (dC, dI) vwCl (x_W ad cI cJ σ) H → va_D (zAW x_n ad s.heap.size) (x_W ad cI cJ σ) → va_S (zAW x_n ad s.heap.size) s.heap H locs → lv_has ls 11 [(0, .ref (ad 10)), (1, .long x1), (3, .long x3), (5, .long x5)] → W p l e rm_X0_firstSet s m args below meth c H locs 0 0 (MQ below (zQi (dC, dI) (x_ty cI cJ) (x_W ad cI cJ) (zAW x_n ad s.heap.size) Q) args s 0 0 (zAW x_n ad s.heap.size)) (F0 m 60 ls []) := by
  intro f
  induction f with
  | zero => intro x1 x3 x5 σ H locs ls h; exact h.elim
  | succ f ih =>
    intro x1 x3 x5 σ H locs ls h hP hD hS hl
    exact tb_X0_firstSet_60 C0 hK N  (k_60 := w_X0_firstSet_60 N  Q f) ih x1 x3 x5 σ H locs ls h hP hD hS hl
set_option maxHeartbeats 4000000 in
set_option maxRecDepth 100000 in
theorem tb_X0_firstSet_15 (C0 : zCx p s m meth c args RX0 cX0_firstSet 11 (some .boolean) vs_X0_firstSet) (hK : va_K (dC, dI) vwCl (x_ty cI cJ) s) (N : Nat) {Q : Int32 → zSt → Prop} {k_15 : Int64 → Int32 → zSt → Prop} (hk_15 : ∀ (x1 : Int64) (x3 : Int32) (σ : zSt) (H : Heap) (locs : List Loc) (ls : Array Slot), k_15 x1 x3 σ → va_P (dC, dI) vwCl (x_W ad cI cJ σ) H → va_D (zAW x_n ad s.heap.size) (x_W ad cI cJ σ) → va_S (zAW x_n ad s.heap.size) s.heap H locs → lv_has ls 11 [(0, .ref (ad 10)), (1, .long x1), (3, .int x3)] → W p l e rm_X0_firstSet s m args below meth c H locs 0 0 (MQ below (zQi (dC, dI) (x_ty cI cJ) (x_W ad cI cJ) (zAW x_n ad s.heap.size) Q) args s 0 0 (zAW x_n ad s.heap.size)) (F0 m 15 ls [])) : ∀ (x1 : Int64) (x3 : Int32) (σ : zSt) (H : Heap) (locs : List Loc) (ls : Array Slot), b_X0_firstSet_15 N k_15 Q x1 x3 σ → va_P (dC, dI) vwCl (x_W ad cI cJ σ) H → va_D (zAW x_n ad s.heap.size) (x_W ad cI cJ σ) → va_S (zAW x_n ad s.heap.size) s.heap H locs → lv_has ls 11 [(0, .ref (ad 10)), (1, .long x1), (3, .int x3)] → W p l e rm_X0_firstSet s m args below meth c H locs 0 0 (MQ below (zQi (dC, dI) (x_ty cI cJ) (x_W ad cI cJ) (zAW x_n ad s.heap.size) Q) args s 0 0 (zAW x_n ad s.heap.size)) (F0 m 15 ls []) := by
  obtain ⟨hx, hb, hml, hr, hown, hts, hlocks⟩ := id C0
  intro x1 x3 σ H locs ls h hP hD hS hl
  unfold b_X0_firstSet_15 at h
  refine lv_iload_n hx hb dX0_firstSet_15 rfl (lv_at hl 2 rfl) ?_
  refine lv_aload_n hx hb dX0_firstSet_16 rfl (lv_at hl 0 rfl) ?_
  refine xg_10_0 hx hb hts hown hK hP mw_220 dX0_firstSet_17 ?_
  refine xg_3_4 hx hb hts hown hK hP mw_76 dX0_firstSet_20 ?_
  refine lv_icmp_ge (tgt := 47) hx hb dX0_firstSet_23 (by decide) (fun hc => ?_) (fun hc => ?_)
  · have h := h.1 hc
    refine lv_lconst (v := (1 : Int64)) hx hb dX0_firstSet_47 (by decide) ?_
    refine lv_aload_n hx hb dX0_firstSet_48 rfl (lv_at hl 0 rfl) ?_
    refine xg_10_0 hx hb hts hown hK hP mw_220 dX0_firstSet_49 ?_
    refine xg_3_5 hx hb hts hown hK hP mw_80 dX0_firstSet_52 ?_
    refine lv_lshl hx hb dX0_firstSet_55 rfl ?_
    refine lv_topl (fun v1 ev1 => ?_)
    have h := h v1 ev1
    refine lv_lstore_n (lv' := [(3, .long v1), (0, .ref (ad 10)), (1, .long x1)]) hx hb dX0_firstSet_56 rfl hl (by decide) rfl (fun ls hl => ?_)
    refine lv_lconst (v := (0 : Int64)) hx hb dX0_firstSet_57 (by decide) ?_
    refine lv_lstore (lv' := [(5, .long (0 : Int64)), (3, .long v1), (0, .ref (ad 10)), (1, .long x1)]) hx hb dX0_firstSet_58 hl (by decide) rfl (fun ls hl => ?_)
    exact t_X0_firstSet_60 C0 hK N  N x1 v1 (0 : Int64) σ _ _ _ h hP hD hS (lv_sub hl [2, 3, 1, 0] rfl)
  · have h := h.2 hc
    refine lv_aload_n hx hb dX0_firstSet_26 rfl (lv_at hl 0 rfl) ?_
    refine xg_10_5 hx hb hts hown hK hP mw_225 dX0_firstSet_27 ?_
    refine lv_iload_n hx hb dX0_firstSet_30 rfl (lv_at hl 2 rfl) ?_
    refine lv_aload_n hx hb dX0_firstSet_31 rfl (lv_at hl 0 rfl) ?_
    refine xg_10_2 hx hb hts hown hK hP mw_222 dX0_firstSet_32 ?_
    refine lv_lload_n hx hb dX0_firstSet_35 rfl (lv_at hl 1 rfl) ?_
    refine lv_iload_n hx hb dX0_firstSet_36 rfl (lv_at hl 2 rfl) ?_
    refine k_X10_of N ⟨hx, hb, hml, hown, hts⟩ mw_605 ⟨Nat.le_of_ble_eq_true rfl, Nat.le_of_ble_eq_true rfl⟩ h hK hP hD hS hl.1 (rest := [.int x3, .ref (ad 54)]) (Nat.le_of_ble_eq_true rfl) ⟨Nat.le_of_ble_eq_true rfl, Nat.le_of_ble_eq_true rfl⟩ dX0_firstSet_37 (fun r2 τ3 H locs h hP hD hS => ?_)
    refine xs_54 hx hb hK hP hD hS h.1 rfl dX0_firstSet_40 (fun τ4 H locs eτ4 hP hD hS => ?_)
    have h := h.2
    have h := h τ4 eτ4
    obtain ⟨v5, ev5⟩ : ∃ z : Int32, z = x3 + (1 : Int32) := ⟨_, rfl⟩
    have h := h v5 ev5
    refine lv_iinc (v := v5) (lv' := [(3, .int v5), (0, .ref (ad 10)), (1, .long x1)]) hx hb dX0_firstSet_41 hl (k := 2) rfl (by rw [ev5]; rfl) (by decide) rfl (fun ls hl => ?_)
    refine lv_goto (tgt := 15) hx hb dX0_firstSet_44 (by decide) ?_
    exact hk_15 x1 v5 τ4 _ _ _ h hP hD hS (lv_sub hl [1, 2, 0] rfl)
set_option maxHeartbeats 4000000 in
set_option maxRecDepth 100000 in
theorem t_X0_firstSet_15 (C0 : zCx p s m meth c args RX0 cX0_firstSet 11 (some .boolean) vs_X0_firstSet) (hK : va_K (dC, dI) vwCl (x_ty cI cJ) s) (N : Nat) {Q : Int32 → zSt → Prop} : ∀ (f : Nat) (x1 : Int64) (x3 : Int32) (σ : zSt) (H : Heap) (locs : List Loc) (ls : Array Slot), w_X0_firstSet_15 N  Q f x1 x3 σ → va_P (dC, dI) vwCl (x_W ad cI cJ σ) H → va_D (zAW x_n ad s.heap.size) (x_W ad cI cJ σ) → va_S (zAW x_n ad s.heap.size) s.heap H locs → lv_has ls 11 [(0, .ref (ad 10)), (1, .long x1), (3, .int x3)] → W p l e rm_X0_firstSet s m args below meth c H locs 0 0 (MQ below (zQi (dC, dI) (x_ty cI cJ) (x_W ad cI cJ) (zAW x_n ad s.heap.size) Q) args s 0 0 (zAW x_n ad s.heap.size)) (F0 m 15 ls []) := by
  intro f
  induction f with
  | zero => intro x1 x3 σ H locs ls h; exact h.elim
  | succ f ih =>
    intro x1 x3 σ H locs ls h hP hD hS hl
    exact tb_X0_firstSet_15 C0 hK N  (k_15 := w_X0_firstSet_15 N  Q f) ih x1 x3 σ H locs ls h hP hD hS hl
set_option maxHeartbeats 4000000 in
set_option maxRecDepth 100000 in
theorem t_X0_firstSet_0 (C0 : zCx p s m meth c args RX0 cX0_firstSet 11 (some .boolean) vs_X0_firstSet) (hK : va_K (dC, dI) vwCl (x_ty cI cJ) s) (N : Nat) {Q : Int32 → zSt → Prop} : ∀ (x1 : Int64) (σ : zSt) (H : Heap) (locs : List Loc) (ls : Array Slot), w_X0_firstSet N x1 σ Q → va_P (dC, dI) vwCl (x_W ad cI cJ σ) H → va_D (zAW x_n ad s.heap.size) (x_W ad cI cJ σ) → va_S (zAW x_n ad s.heap.size) s.heap H locs → lv_has ls 11 [(0, .ref (ad 10)), (1, .long x1)] → W p l e rm_X0_firstSet s m args below meth c H locs 0 0 (MQ below (zQi (dC, dI) (x_ty cI cJ) (x_W ad cI cJ) (zAW x_n ad s.heap.size) Q) args s 0 0 (zAW x_n ad s.heap.size)) (F0 m 0 ls []) := by
  obtain ⟨hx, hb, hml, hr, hown, hts, hlocks⟩ := id C0
  intro x1 σ H locs ls h hP hD hS hl
  unfold w_X0_firstSet at h
  refine lv_aload_n hx hb dX0_firstSet_0 rfl (lv_at hl 0 rfl) ?_
  refine xg_10_0 hx hb hts hown hK hP mw_220 dX0_firstSet_1 ?_
  refine xg_3_4 hx hb hts hown hK hP mw_76 dX0_firstSet_4 ?_
  refine lv_iconst (v := (5 : Int32)) hx hb dX0_firstSet_7 (by decide) ?_
  refine lv_icmp_le (tgt := 13) hx hb dX0_firstSet_8 (by decide) (fun hc => ?_) (fun hc => ?_)
  · have h := h.1 hc
    refine lv_iconst (v := (0 : Int32)) hx hb dX0_firstSet_13 (by decide) ?_
    refine lv_istore_n (lv' := [(3, .int (0 : Int32)), (0, .ref (ad 10)), (1, .long x1)]) hx hb dX0_firstSet_14 rfl hl (by decide) rfl (fun ls hl => ?_)
    exact t_X0_firstSet_15 C0 hK N  N x1 (0 : Int32) σ _ _ _ h hP hD hS (lv_sub hl [1, 2, 0] rfl)
  · have h := h.2 hc
    refine lv_iconst (v := (0 : Int32)) hx hb dX0_firstSet_11 (by decide) ?_
    exact zret_z hx hb hr hlocks hK hP hD hS zb_0 h dX0_firstSet_12
set_option maxHeartbeats 4000000 in
set_option maxRecDepth 100000 in
theorem c_X0_firstSet (N : Nat) (l : Launch) (dC : Nat → ClassId) (dI : Nat → Nat → Nat) (ad : Nat → Nat) (cI cJ : ClassId) (sz : Nat) (σ : zSt) (x1 : Int64) (Q : Int32 → zSt → Prop) (h : w_X0_firstSet N x1 σ Q) : Met l yX0_firstSet vs_X0_firstSet rm_X0_firstSet (va_Pc [.ref (ad 10), .long x1] (zPc (dC, dI) (x_ty cI cJ) (x_W ad cI cJ) sz σ)) (zQi (dC, dI) (x_ty cI cJ) (x_W ad cI cJ) (zAW x_n ad sz) Q) 0 0 (zAW x_n ad sz) := by
  refine Met.ofW (cc := cX0_firstSet) (maxL := 11) (ret := (some .boolean)) (by decide) rfl ?_
  intro p e s m args below meth c s₁ B hml hv
  obtain ⟨rfl, hsz, hP, hK, hD0⟩ := hv
  subst hsz
  have C0 : zCx p s m meth c _ RX0 cX0_firstSet 11 (some .boolean) vs_X0_firstSet := ⟨B.exec, B.bytes, hml, B.returns, findClass_of_methodNamed B.named, atoms_spec (ws := vs_X0_firstSet) B.pre, B.notSynchronized⟩
  have hD := x_D0 (n0 := s.heap.size) hD0
  have hl := lv_entry ([.ref (ad 10), .long x1]) (n := 11) (Nat.le_of_ble_eq_true rfl)
  rw [lg_entry_eq]
  generalize (lg_sl ([.ref (ad 10), .long x1]) ++ List.replicate (11 - (lg_sl ([.ref (ad 10), .long x1])).length) Slot.unset).toArray = ls at hl ⊢
  exact t_X0_firstSet_0 C0 hK N x1 σ _ _ ls h hP hD va_S.rf hl
theorem k_X0_firstSet (N : Nat) {R : Room} {H : Heap} {locs : List Loc} {cells slots : Nat} {Q2 : State → Prop} {cc : ByteArray} {nL pc index : Nat} {ls : Array Slot} {rest : List Value} {own : String} {c0 : Cond} {σ : zSt} {x1 : Int64} {Q : Int32 → zSt → Prop} (S0 : CallFix p m c cc nL s args (c0 :: zT) own) (hml : Cond.methodLink own index yX0_firstSet ∈ zT) (hR : rm_X0_firstSet.frames + 1 ≤ R.frames ∧ 8 + (11 + 11) + rm_X0_firstSet.locals ≤ R.locals) (h : w_X0_firstSet N x1 σ Q) (hK : va_K (dC, dI) vwCl (x_ty cI cJ) s) (hP : va_P (dC, dI) vwCl (x_W ad cI cJ σ) H) (hD : va_D (zAW x_n ad s.heap.size) (x_W ad cI cJ σ)) (hS : va_S (zAW x_n ad s.heap.size) s.heap H locs) (hsz : ls.size = nL) (hW : (rest.map fun v => v.category).sum ≤ 8) (hcs : cells ≤ R.cells ∧ slots ≤ R.slots) (hdg : decode cc pc = .ok (.invokevirtual index, 3)) (kk : ∀ (r : Int32) (τ : zSt) (H1 : Heap) (locs1 : List Loc), Q r τ → va_P (dC, dI) vwCl (x_W ad cI cJ τ) H1 → va_D (zAW x_n ad s.heap.size) (x_W ad cI cJ τ) → va_S (zAW x_n ad s.heap.size) s.heap H1 locs1 → W p l e R s m args below meth c H1 locs1 cells slots Q2 (F0 m (pc + 3) ls (.int r :: rest))) : W p l e R s m args below meth c H locs cells slots Q2 (F0 m pc ls (.long x1 :: .ref (ad 10) :: rest)) :=
  zcv_i (T := TX0) (N' := 9) (k := 10) (ci := 0) (fs := x_f10 ad σ) [.long x1] S0 (c_X0_firstSet N l dC dI ad cI cJ H.size σ x1 Q h) (cw_X0_firstSet S0.2.2.2.2 hml rfl rfl hR) rfl rfl hK hP hD hS rfl hsz hW rfl hcs hdg kk
end q09
section q09
def b_X0_firstBothGain_2 (N : Nat) (k_2 : Int64 → Int32 → zSt → Prop) (Q : Int32 → zSt → Prop) (x1 : Int64) (x3 : Int32) (σ : zSt) : Prop :=
  ((σ.1 2) ≤ x3 → Q (0 : Int32) σ) ∧ (¬ (σ.1 2) ≤ x3 → ∀ v1 : Int64, v1 = x1 ||| ((1 : Int64) <<< (x3.toInt64 &&& 63)) → ((lg_cmp v1 x1) = 0 → ∀ v2 : Int32, v2 = x3 + (1 : Int32) → k_2 x1 v2 σ) ∧ (¬ (lg_cmp v1 x1) = 0 → (vp_in x3 45) ∧ (w_X0_gains N x1 v1 (σ.2.2.1 3 x3.toNatClampNeg) σ (fun r3 τ4 => (r3 = 0 → ∀ v5 : Int32, v5 = x3 + (1 : Int32) → k_2 x1 v5 τ4) ∧ (¬ r3 = 0 → (vp_in x3 45) ∧ (w_X0_gains N x1 v1 (τ4.2.2.1 4 x3.toNatClampNeg) τ4 (fun r6 τ7 => (r6 = 0 → ∀ v8 : Int32, v8 = x3 + (1 : Int32) → k_2 x1 v8 τ7) ∧ (¬ r6 = 0 → w_X4_may N v1 τ7 (fun r9 τ10 => (r9 = 0 → ∀ v11 : Int32, v11 = x3 + (1 : Int32) → k_2 x1 v11 τ10) ∧ (¬ r9 = 0 → w_X0_bothOf N x3 τ10 (fun r12 τ13 => w_X0_found N (5 : Int32) r12 v1 τ13 (fun r14 τ15 => (zb r14) ∧ Q r14 τ15))))))))))))
def w_X0_firstBothGain_2 (N : Nat) (Q : Int32 → zSt → Prop) : Nat → Int64 → Int32 → zSt → Prop
  | 0 => fun _ _ _ => False
  | f + 1 => b_X0_firstBothGain_2 N (w_X0_firstBothGain_2 N  Q f) Q
def w_X0_firstBothGain (N : Nat) (x1 : Int64) (σ : zSt) (Q : Int32 → zSt → Prop) : Prop :=
  w_X0_firstBothGain_2 N Q N x1 (0 : Int32) σ
variable {p : Program} {l : Launch} {e : Env} {s : State} {m : MethodId} {args : Array Value} {below : List Frame} {meth : Method} {c : Code} {dC : Nat → ClassId} {dI : Nat → Nat → Nat} {ad : Nat → Nat} {cI cJ : ClassId}
set_option maxHeartbeats 4000000 in
set_option maxRecDepth 100000 in
theorem tb_X0_firstBothGain_2 (C0 : zCx p s m meth c args RX0 cX0_firstBothGain 6 (some .boolean) vs_X0_firstBothGain) (hK : va_K (dC, dI) vwCl (x_ty cI cJ) s) (N : Nat) {Q : Int32 → zSt → Prop} {k_2 : Int64 → Int32 → zSt → Prop} (hk_2 : ∀ (x1 : Int64) (x3 : Int32) (σ : zSt) (H : Heap) (locs : List Loc) (ls : Array Slot), k_2 x1 x3 σ → va_P (dC, dI) vwCl (x_W ad cI cJ σ) H → va_D (zAW x_n ad s.heap.size) (x_W ad cI cJ σ) → va_S (zAW x_n ad s.heap.size) s.heap H locs → lv_has ls 6 [(0, .ref (ad 10)), (1, .long x1), (3, .int x3)] → W p l e rm_X0_firstBothGain s m args below meth c H locs 0 0 (MQ below (zQi (dC, dI) (x_ty cI cJ) (x_W ad cI cJ) (zAW x_n ad s.heap.size) Q) args s 0 0 (zAW x_n ad s.heap.size)) (F0 m 2 ls [])) : ∀ (x1 : Int64) (x3 : Int32) (σ : zSt) (H : Heap) (locs : List Loc) (ls : Array Slot), b_X0_firstBothGain_2 N k_2 Q x1 x3 σ → va_P (dC, dI) vwCl (x_W ad cI cJ σ) H → va_D (zAW x_n ad s.heap.size) (x_W ad cI cJ σ) → va_S (zAW x_n ad s.heap.size) s.heap H locs → lv_has ls 6 [(0, .ref (ad 10)), (1, .long x1), (3, .int x3)] → W p l e rm_X0_firstBothGain s m args below meth c H locs 0 0 (MQ below (zQi (dC, dI) (x_ty cI cJ) (x_W ad cI cJ) (zAW x_n ad s.heap.size) Q) args s 0 0 (zAW x_n ad s.heap.size)) (F0 m 2 ls []) := by
  obtain ⟨hx, hb, hml, hr, hown, hts, hlocks⟩ := id C0
  intro x1 x3 σ H locs ls h hP hD hS hl
  unfold b_X0_firstBothGain_2 at h
  refine lv_iload_n hx hb dX0_firstBothGain_2 rfl (lv_at hl 2 rfl) ?_
  refine lv_aload_n hx hb dX0_firstBothGain_3 rfl (lv_at hl 0 rfl) ?_
  refine xg_10_0 hx hb hts hown hK hP mw_220 dX0_firstBothGain_4 ?_
  refine xg_3_5 hx hb hts hown hK hP mw_80 dX0_firstBothGain_7 ?_
  refine lv_icmp_ge (tgt := 96) hx hb dX0_firstBothGain_10 (by decide) (fun hc => ?_) (fun hc => ?_)
  · have h := h.1 hc
    refine lv_iconst (v := (0 : Int32)) hx hb dX0_firstBothGain_96 (by decide) ?_
    exact zret_z hx hb hr hlocks hK hP hD hS zb_0 h dX0_firstBothGain_97
  · have h := h.2 hc
    refine lv_lload_n hx hb dX0_firstBothGain_13 rfl (lv_at hl 1 rfl) ?_
    refine lv_lconst (v := (1 : Int64)) hx hb dX0_firstBothGain_14 (by decide) ?_
    refine lv_iload_n hx hb dX0_firstBothGain_15 rfl (lv_at hl 2 rfl) ?_
    refine lv_lshl hx hb dX0_firstBothGain_16 rfl ?_
    refine lv_lor hx hb dX0_firstBothGain_17 ?_
    refine lv_topl (fun v1 ev1 => ?_)
    have h := h v1 ev1
    refine lv_lstore (lv' := [(4, .long v1), (0, .ref (ad 10)), (1, .long x1), (3, .int x3)]) hx hb dX0_firstBothGain_18 hl (by decide) rfl (fun ls hl => ?_)
    refine lv_lload hx hb dX0_firstBothGain_20 (lv_at hl 0 rfl) ?_
    refine lv_lload_n hx hb dX0_firstBothGain_22 rfl (lv_at hl 2 rfl) ?_
    refine W.lcmp hx hb dX0_firstBothGain_23 ?_
    refine lv_if_eq (tgt := 90) hx hb dX0_firstBothGain_24 (by decide) (fun hc => ?_) (fun hc => ?_)
    · have h := h.1 hc
      obtain ⟨v2, ev2⟩ : ∃ z : Int32, z = x3 + (1 : Int32) := ⟨_, rfl⟩
      have h := h v2 ev2
      refine lv_iinc (v := v2) (lv' := [(3, .int v2), (4, .long v1), (0, .ref (ad 10)), (1, .long x1)]) hx hb dX0_firstBothGain_90 hl (k := 3) rfl (by rw [ev2]; rfl) (by decide) rfl (fun ls hl => ?_)
      refine lv_goto (tgt := 2) hx hb dX0_firstBothGain_93 (by decide) ?_
      exact hk_2 x1 v2 σ _ _ _ h hP hD hS (lv_sub hl [2, 3, 0] rfl)
    · have h := h.2 hc
      refine lv_aload_n hx hb dX0_firstBothGain_27 rfl (lv_at hl 1 rfl) ?_
      refine lv_lload_n hx hb dX0_firstBothGain_28 rfl (lv_at hl 2 rfl) ?_
      refine lv_lload hx hb dX0_firstBothGain_29 (lv_at hl 0 rfl) ?_
      refine lv_aload_n hx hb dX0_firstBothGain_31 rfl (lv_at hl 1 rfl) ?_
      refine xg_10_1 hx hb hts hown hK hP mw_221 dX0_firstBothGain_32 ?_
      refine xg_2_0 hx hb hts hown hK hP mw_46 dX0_firstBothGain_35 ?_
      refine lv_iload_n hx hb dX0_firstBothGain_38 rfl (lv_at hl 3 rfl) ?_
      refine xa_20 hx hb hK hP h.1 rfl dX0_firstBothGain_39 ?_
      have h := h.2
      refine k_X0_gains N ⟨hx, hb, hml, hown, hts⟩ mw_602 ⟨Nat.le_of_ble_eq_true rfl, Nat.le_of_ble_eq_true rfl⟩ h hK hP hD hS hl.1 (rest := []) (Nat.le_of_ble_eq_true rfl) ⟨Nat.le_of_ble_eq_true rfl, Nat.le_of_ble_eq_true rfl⟩ dX0_firstBothGain_40 (fun r3 τ4 H locs h hP hD hS => ?_)
      refine lv_if_eq (tgt := 90) hx hb dX0_firstBothGain_43 (by decide) (fun hc => ?_) (fun hc => ?_)
      · have h := h.1 hc
        obtain ⟨v5, ev5⟩ : ∃ z : Int32, z = x3 + (1 : Int32) := ⟨_, rfl⟩
        have h := h v5 ev5
        refine lv_iinc (v := v5) (lv' := [(3, .int v5), (4, .long v1), (0, .ref (ad 10)), (1, .long x1)]) hx hb dX0_firstBothGain_90 hl (k := 3) rfl (by rw [ev5]; rfl) (by decide) rfl (fun ls hl => ?_)
        refine lv_goto (tgt := 2) hx hb dX0_firstBothGain_93 (by decide) ?_
        exact hk_2 x1 v5 τ4 _ _ _ h hP hD hS (lv_sub hl [2, 3, 0] rfl)
      · have h := h.2 hc
        refine lv_aload_n hx hb dX0_firstBothGain_46 rfl (lv_at hl 1 rfl) ?_
        refine lv_lload_n hx hb dX0_firstBothGain_47 rfl (lv_at hl 2 rfl) ?_
        refine lv_lload hx hb dX0_firstBothGain_48 (lv_at hl 0 rfl) ?_
        refine lv_aload_n hx hb dX0_firstBothGain_50 rfl (lv_at hl 1 rfl) ?_
        refine xg_10_1 hx hb hts hown hK hP mw_221 dX0_firstBothGain_51 ?_
        refine xg_2_1 hx hb hts hown hK hP mw_50 dX0_firstBothGain_54 ?_
        refine lv_iload_n hx hb dX0_firstBothGain_57 rfl (lv_at hl 3 rfl) ?_
        refine xa_21 hx hb hK hP h.1 rfl dX0_firstBothGain_58 ?_
        have h := h.2
        refine k_X0_gains N ⟨hx, hb, hml, hown, hts⟩ mw_602 ⟨Nat.le_of_ble_eq_true rfl, Nat.le_of_ble_eq_true rfl⟩ h hK hP hD hS hl.1 (rest := []) (Nat.le_of_ble_eq_true rfl) ⟨Nat.le_of_ble_eq_true rfl, Nat.le_of_ble_eq_true rfl⟩ dX0_firstBothGain_59 (fun r6 τ7 H locs h hP hD hS => ?_)
        refine lv_if_eq (tgt := 90) hx hb dX0_firstBothGain_62 (by decide) (fun hc => ?_) (fun hc => ?_)
        · have h := h.1 hc
          obtain ⟨v8, ev8⟩ : ∃ z : Int32, z = x3 + (1 : Int32) := ⟨_, rfl⟩
          have h := h v8 ev8
          refine lv_iinc (v := v8) (lv' := [(3, .int v8), (4, .long v1), (0, .ref (ad 10)), (1, .long x1)]) hx hb dX0_firstBothGain_90 hl (k := 3) rfl (by rw [ev8]; rfl) (by decide) rfl (fun ls hl => ?_)
          refine lv_goto (tgt := 2) hx hb dX0_firstBothGain_93 (by decide) ?_
          exact hk_2 x1 v8 τ7 _ _ _ h hP hD hS (lv_sub hl [2, 3, 0] rfl)
        · have h := h.2 hc
          refine lv_aload_n hx hb dX0_firstBothGain_65 rfl (lv_at hl 1 rfl) ?_
          refine xg_10_0 hx hb hts hown hK hP mw_220 dX0_firstBothGain_66 ?_
          refine lv_lload hx hb dX0_firstBothGain_69 (lv_at hl 0 rfl) ?_
          refine k_X4_may N ⟨hx, hb, hml, hown, hts⟩ mw_617 ⟨Nat.le_of_ble_eq_true rfl, Nat.le_of_ble_eq_true rfl⟩ h hK hP hD hS hl.1 (rest := []) (Nat.le_of_ble_eq_true rfl) ⟨Nat.le_of_ble_eq_true rfl, Nat.le_of_ble_eq_true rfl⟩ dX0_firstBothGain_71 (fun r9 τ10 H locs h hP hD hS => ?_)
          refine lv_if_eq (tgt := 90) hx hb dX0_firstBothGain_74 (by decide) (fun hc => ?_) (fun hc => ?_)
          · have h := h.1 hc
            obtain ⟨v11, ev11⟩ : ∃ z : Int32, z = x3 + (1 : Int32) := ⟨_, rfl⟩
            have h := h v11 ev11
            refine lv_iinc (v := v11) (lv' := [(3, .int v11), (4, .long v1), (0, .ref (ad 10)), (1, .long x1)]) hx hb dX0_firstBothGain_90 hl (k := 3) rfl (by rw [ev11]; rfl) (by decide) rfl (fun ls hl => ?_)
            refine lv_goto (tgt := 2) hx hb dX0_firstBothGain_93 (by decide) ?_
            exact hk_2 x1 v11 τ10 _ _ _ h hP hD hS (lv_sub hl [2, 3, 0] rfl)
          · have h := h.2 hc
            refine lv_aload_n hx hb dX0_firstBothGain_77 rfl (lv_at hl 1 rfl) ?_
            refine lv_iconst (v := (5 : Int32)) hx hb dX0_firstBothGain_78 (by decide) ?_
            refine lv_aload_n hx hb dX0_firstBothGain_79 rfl (lv_at hl 1 rfl) ?_
            refine lv_iload_n hx hb dX0_firstBothGain_80 rfl (lv_at hl 3 rfl) ?_
            refine k_X0_bothOf N ⟨hx, hb, hml, hown, hts⟩ mw_618 ⟨Nat.le_of_ble_eq_true rfl, Nat.le_of_ble_eq_true rfl⟩ h hK hP hD hS hl.1 (rest := [.int (5 : Int32), .ref (ad 10)]) (Nat.le_of_ble_eq_true rfl) ⟨Nat.le_of_ble_eq_true rfl, Nat.le_of_ble_eq_true rfl⟩ dX0_firstBothGain_81 (fun r12 τ13 H locs h hP hD hS => ?_)
            refine lv_lload hx hb dX0_firstBothGain_84 (lv_at hl 0 rfl) ?_
            refine k_X0_found N ⟨hx, hb, hml, hown, hts⟩ mw_606 ⟨Nat.le_of_ble_eq_true rfl, Nat.le_of_ble_eq_true rfl⟩ h hK hP hD hS hl.1 (rest := []) (Nat.le_of_ble_eq_true rfl) ⟨Nat.le_of_ble_eq_true rfl, Nat.le_of_ble_eq_true rfl⟩ dX0_firstBothGain_86 (fun r14 τ15 H locs h hP hD hS => ?_)
            exact zret_z hx hb hr hlocks hK hP hD hS h.1 h.2 dX0_firstBothGain_89
set_option maxHeartbeats 4000000 in
set_option maxRecDepth 100000 in
theorem t_X0_firstBothGain_2 (C0 : zCx p s m meth c args RX0 cX0_firstBothGain 6 (some .boolean) vs_X0_firstBothGain) (hK : va_K (dC, dI) vwCl (x_ty cI cJ) s) (N : Nat) {Q : Int32 → zSt → Prop} : ∀ (f : Nat) (x1 : Int64) (x3 : Int32) (σ : zSt) (H : Heap) (locs : List Loc) (ls : Array Slot), w_X0_firstBothGain_2 N  Q f x1 x3 σ → va_P (dC, dI) vwCl (x_W ad cI cJ σ) H → va_D (zAW x_n ad s.heap.size) (x_W ad cI cJ σ) → va_S (zAW x_n ad s.heap.size) s.heap H locs → lv_has ls 6 [(0, .ref (ad 10)), (1, .long x1), (3, .int x3)] → W p l e rm_X0_firstBothGain s m args below meth c H locs 0 0 (MQ below (zQi (dC, dI) (x_ty cI cJ) (x_W ad cI cJ) (zAW x_n ad s.heap.size) Q) args s 0 0 (zAW x_n ad s.heap.size)) (F0 m 2 ls []) := by
  intro f
  induction f with
  | zero => intro x1 x3 σ H locs ls h; exact h.elim
  | succ f ih =>
    intro x1 x3 σ H locs ls h hP hD hS hl
    exact tb_X0_firstBothGain_2 C0 hK N  (k_2 := w_X0_firstBothGain_2 N  Q f) ih x1 x3 σ H locs ls h hP hD hS hl
set_option maxHeartbeats 4000000 in
set_option maxRecDepth 100000 in
theorem t_X0_firstBothGain_0 (C0 : zCx p s m meth c args RX0 cX0_firstBothGain 6 (some .boolean) vs_X0_firstBothGain) (hK : va_K (dC, dI) vwCl (x_ty cI cJ) s) (N : Nat) {Q : Int32 → zSt → Prop} : ∀ (x1 : Int64) (σ : zSt) (H : Heap) (locs : List Loc) (ls : Array Slot), w_X0_firstBothGain N x1 σ Q → va_P (dC, dI) vwCl (x_W ad cI cJ σ) H → va_D (zAW x_n ad s.heap.size) (x_W ad cI cJ σ) → va_S (zAW x_n ad s.heap.size) s.heap H locs → lv_has ls 6 [(0, .ref (ad 10)), (1, .long x1)] → W p l e rm_X0_firstBothGain s m args below meth c H locs 0 0 (MQ below (zQi (dC, dI) (x_ty cI cJ) (x_W ad cI cJ) (zAW x_n ad s.heap.size) Q) args s 0 0 (zAW x_n ad s.heap.size)) (F0 m 0 ls []) := by
  obtain ⟨hx, hb, hml, hr, hown, hts, hlocks⟩ := id C0
  intro x1 σ H locs ls h hP hD hS hl
  unfold w_X0_firstBothGain at h
  refine lv_iconst (v := (0 : Int32)) hx hb dX0_firstBothGain_0 (by decide) ?_
  refine lv_istore_n (lv' := [(3, .int (0 : Int32)), (0, .ref (ad 10)), (1, .long x1)]) hx hb dX0_firstBothGain_1 rfl hl (by decide) rfl (fun ls hl => ?_)
  exact t_X0_firstBothGain_2 C0 hK N  N x1 (0 : Int32) σ _ _ _ h hP hD hS (lv_sub hl [1, 2, 0] rfl)
set_option maxHeartbeats 4000000 in
set_option maxRecDepth 100000 in
theorem c_X0_firstBothGain (N : Nat) (l : Launch) (dC : Nat → ClassId) (dI : Nat → Nat → Nat) (ad : Nat → Nat) (cI cJ : ClassId) (sz : Nat) (σ : zSt) (x1 : Int64) (Q : Int32 → zSt → Prop) (h : w_X0_firstBothGain N x1 σ Q) : Met l yX0_firstBothGain vs_X0_firstBothGain rm_X0_firstBothGain (va_Pc [.ref (ad 10), .long x1] (zPc (dC, dI) (x_ty cI cJ) (x_W ad cI cJ) sz σ)) (zQi (dC, dI) (x_ty cI cJ) (x_W ad cI cJ) (zAW x_n ad sz) Q) 0 0 (zAW x_n ad sz) := by
  refine Met.ofW (cc := cX0_firstBothGain) (maxL := 6) (ret := (some .boolean)) (by decide) rfl ?_
  intro p e s m args below meth c s₁ B hml hv
  obtain ⟨rfl, hsz, hP, hK, hD0⟩ := hv
  subst hsz
  have C0 : zCx p s m meth c _ RX0 cX0_firstBothGain 6 (some .boolean) vs_X0_firstBothGain := ⟨B.exec, B.bytes, hml, B.returns, findClass_of_methodNamed B.named, atoms_spec (ws := vs_X0_firstBothGain) B.pre, B.notSynchronized⟩
  have hD := x_D0 (n0 := s.heap.size) hD0
  have hl := lv_entry ([.ref (ad 10), .long x1]) (n := 6) (Nat.le_of_ble_eq_true rfl)
  rw [lg_entry_eq]
  generalize (lg_sl ([.ref (ad 10), .long x1]) ++ List.replicate (6 - (lg_sl ([.ref (ad 10), .long x1])).length) Slot.unset).toArray = ls at hl ⊢
  exact t_X0_firstBothGain_0 C0 hK N x1 σ _ _ ls h hP hD va_S.rf hl
theorem k_X0_firstBothGain (N : Nat) {R : Room} {H : Heap} {locs : List Loc} {cells slots : Nat} {Q2 : State → Prop} {cc : ByteArray} {nL pc index : Nat} {ls : Array Slot} {rest : List Value} {own : String} {c0 : Cond} {σ : zSt} {x1 : Int64} {Q : Int32 → zSt → Prop} (S0 : CallFix p m c cc nL s args (c0 :: zT) own) (hml : Cond.methodLink own index yX0_firstBothGain ∈ zT) (hR : rm_X0_firstBothGain.frames + 1 ≤ R.frames ∧ 8 + (6 + 11) + rm_X0_firstBothGain.locals ≤ R.locals) (h : w_X0_firstBothGain N x1 σ Q) (hK : va_K (dC, dI) vwCl (x_ty cI cJ) s) (hP : va_P (dC, dI) vwCl (x_W ad cI cJ σ) H) (hD : va_D (zAW x_n ad s.heap.size) (x_W ad cI cJ σ)) (hS : va_S (zAW x_n ad s.heap.size) s.heap H locs) (hsz : ls.size = nL) (hW : (rest.map fun v => v.category).sum ≤ 8) (hcs : cells ≤ R.cells ∧ slots ≤ R.slots) (hdg : decode cc pc = .ok (.invokevirtual index, 3)) (kk : ∀ (r : Int32) (τ : zSt) (H1 : Heap) (locs1 : List Loc), Q r τ → va_P (dC, dI) vwCl (x_W ad cI cJ τ) H1 → va_D (zAW x_n ad s.heap.size) (x_W ad cI cJ τ) → va_S (zAW x_n ad s.heap.size) s.heap H1 locs1 → W p l e R s m args below meth c H1 locs1 cells slots Q2 (F0 m (pc + 3) ls (.int r :: rest))) : W p l e R s m args below meth c H locs cells slots Q2 (F0 m pc ls (.long x1 :: .ref (ad 10) :: rest)) :=
  zcv_i (T := TX0) (N' := 9) (k := 10) (ci := 0) (fs := x_f10 ad σ) [.long x1] S0 (c_X0_firstBothGain N l dC dI ad cI cJ H.size σ x1 Q h) (cw_X0_firstBothGain S0.2.2.2.2 hml rfl rfl hR) rfl rfl hK hP hD hS rfl hsz hW rfl hcs hdg kk
end q09
section q09
def b_X0_endRest_155 (N : Nat) (Q : Int32 → zSt → Prop) (x1 : Int64) (σ : zSt) : Prop :=
  w_X0_firstSet N x1 σ (fun r1 τ2 => (r1 = 0 → Q (0 : Int32) τ2) ∧ (¬ r1 = 0 → Q (1 : Int32) τ2))
def w_X0_endRest (N : Nat) (x1 : Int64) (x3 : Int32) (x4 : Int32) (σ : zSt) (Q : Int32 → zSt → Prop) : Prop :=
  (x3 = (0 : Int32) → w_X0_firstCut N x1 σ (fun r1 τ2 => (zb r1) ∧ Q r1 τ2)) ∧ (¬ x3 = (0 : Int32) → (x3 = (1 : Int32) → w_X0_firstCut N x1 σ (fun r3 τ4 => (r3 = 0 → w_X0_firstAdd N x1 τ4 (fun r5 τ6 => (r5 = 0 → Q (0 : Int32) τ6) ∧ (¬ r5 = 0 → Q (1 : Int32) τ6))) ∧ (¬ r3 = 0 → Q (1 : Int32) τ4))) ∧ (¬ x3 = (1 : Int32) → (x3 = (2 : Int32) → w_X0_firstCut N x1 σ (fun r7 τ8 => (r7 = 0 → w_X0_firstAdd N x1 τ8 (fun r9 τ10 => (r9 = 0 → w_X0_firstSeveral N x1 τ10 (fun r11 τ12 => (r11 = 0 → Q (0 : Int32) τ12) ∧ (¬ r11 = 0 → Q (1 : Int32) τ12))) ∧ (¬ r9 = 0 → Q (1 : Int32) τ10))) ∧ (¬ r7 = 0 → Q (1 : Int32) τ8))) ∧ (¬ x3 = (2 : Int32) → (x3 = (3 : Int32) → w_X0_firstCut N x1 σ (fun r13 τ14 => (r13 = 0 → w_X0_firstAdd N x1 τ14 (fun r15 τ16 => (r15 = 0 → w_X0_firstSwap N x1 τ16 (fun r17 τ18 => (r17 = 0 → Q (0 : Int32) τ18) ∧ (¬ r17 = 0 → Q (1 : Int32) τ18))) ∧ (¬ r15 = 0 → Q (1 : Int32) τ16))) ∧ (¬ r13 = 0 → Q (1 : Int32) τ14))) ∧ (¬ x3 = (3 : Int32) → (x3 = (4 : Int32) → w_X0_firstTogether N x1 σ (fun r19 τ20 => (zb r19) ∧ Q r19 τ20)) ∧ (¬ x3 = (4 : Int32) → (x3 = (5 : Int32) → (x4 = 0 → w_X0_firstCut N x1 σ (fun r21 τ22 => (r21 = 0 → w_X0_firstBothGain N x1 τ22 (fun r23 τ24 => (r23 = 0 → b_X0_endRest_155 N Q x1 τ24) ∧ (¬ r23 = 0 → Q (1 : Int32) τ24))) ∧ (¬ r21 = 0 → Q (1 : Int32) τ22))) ∧ (¬ x4 = 0 → b_X0_endRest_155 N Q x1 σ)) ∧ (¬ x3 = (5 : Int32) → Q (0 : Int32) σ))))))
variable {p : Program} {l : Launch} {e : Env} {s : State} {m : MethodId} {args : Array Value} {below : List Frame} {meth : Method} {c : Code} {dC : Nat → ClassId} {dI : Nat → Nat → Nat} {ad : Nat → Nat} {cI cJ : ClassId}
set_option maxHeartbeats 4000000 in
set_option maxRecDepth 100000 in
theorem t_X0_endRest_155 (C0 : zCx p s m meth c args RX0 cX0_endRest 5 (some .boolean) vs_X0_endRest) (hK : va_K (dC, dI) vwCl (x_ty cI cJ) s) (N : Nat) {Q : Int32 → zSt → Prop} : ∀ (x1 : Int64) (σ : zSt) (H : Heap) (locs : List Loc) (ls : Array Slot), b_X0_endRest_155 N  Q x1 σ → va_P (dC, dI) vwCl (x_W ad cI cJ σ) H → va_D (zAW x_n ad s.heap.size) (x_W ad cI cJ σ) → va_S (zAW x_n ad s.heap.size) s.heap H locs → lv_has ls 5 [(0, .ref (ad 10)), (1, .long x1)] → W p l e rm_X0_endRest s m args below meth c H locs 0 0 (MQ below (zQi (dC, dI) (x_ty cI cJ) (x_W ad cI cJ) (zAW x_n ad s.heap.size) Q) args s 0 0 (zAW x_n ad s.heap.size)) (F0 m 155 ls []) := by
  obtain ⟨hx, hb, hml, hr, hown, hts, hlocks⟩ := id C0
  intro x1 σ H locs ls h hP hD hS hl
  unfold b_X0_endRest_155 at h
  refine lv_aload_n hx hb dX0_endRest_155 rfl (lv_at hl 0 rfl) ?_
  refine lv_lload_n hx hb dX0_endRest_156 rfl (lv_at hl 1 rfl) ?_
  refine k_X0_firstSet N ⟨hx, hb, hml, hown, hts⟩ mw_638 ⟨Nat.le_of_ble_eq_true rfl, Nat.le_of_ble_eq_true rfl⟩ h hK hP hD hS hl.1 (rest := []) (Nat.le_of_ble_eq_true rfl) ⟨Nat.le_of_ble_eq_true rfl, Nat.le_of_ble_eq_true rfl⟩ dX0_endRest_157 (fun r1 τ2 H locs h hP hD hS => ?_)
  refine lv_if_eq (tgt := 167) hx hb dX0_endRest_160 (by decide) (fun hc => ?_) (fun hc => ?_)
  · have h := h.1 hc
    refine lv_iconst (v := (0 : Int32)) hx hb dX0_endRest_167 (by decide) ?_
    exact zret_z hx hb hr hlocks hK hP hD hS zb_0 h dX0_endRest_168
  · have h := h.2 hc
    refine lv_iconst (v := (1 : Int32)) hx hb dX0_endRest_163 (by decide) ?_
    refine lv_goto (tgt := 168) hx hb dX0_endRest_164 (by decide) ?_
    exact zret_z hx hb hr hlocks hK hP hD hS zb_1 h dX0_endRest_168
set_option maxHeartbeats 4000000 in
set_option maxRecDepth 100000 in
theorem t_X0_endRest_0 (C0 : zCx p s m meth c args RX0 cX0_endRest 5 (some .boolean) vs_X0_endRest) (hK : va_K (dC, dI) vwCl (x_ty cI cJ) s) (N : Nat) {Q : Int32 → zSt → Prop} : ∀ (x1 : Int64) (x3 : Int32) (x4 : Int32) (σ : zSt) (H : Heap) (locs : List Loc) (ls : Array Slot), w_X0_endRest N x1 x3 x4 σ Q → va_P (dC, dI) vwCl (x_W ad cI cJ σ) H → va_D (zAW x_n ad s.heap.size) (x_W ad cI cJ σ) → va_S (zAW x_n ad s.heap.size) s.heap H locs → lv_has ls 5 [(0, .ref (ad 10)), (1, .long x1), (3, .int x3), (4, .int x4)] → W p l e rm_X0_endRest s m args below meth c H locs 0 0 (MQ below (zQi (dC, dI) (x_ty cI cJ) (x_W ad cI cJ) (zAW x_n ad s.heap.size) Q) args s 0 0 (zAW x_n ad s.heap.size)) (F0 m 0 ls []) := by
  obtain ⟨hx, hb, hml, hr, hown, hts, hlocks⟩ := id C0
  intro x1 x3 x4 σ H locs ls h hP hD hS hl
  unfold w_X0_endRest at h
  refine lv_iload_n hx hb dX0_endRest_0 rfl (lv_at hl 2 rfl) ?_
  by_cases hc0 : x3 = (0 : Int32)
  · have h := h.1 hc0
    refine lv_tableIn (off := 39) (tgt := 40) hx hb dX0_endRest_1 (by rw [hc0]; decide) (by rw [hc0]; decide) (by rw [hc0]; rfl) (by decide) ?_
    refine lv_aload_n hx hb dX0_endRest_40 rfl (lv_at hl 0 rfl) ?_
    refine lv_lload_n hx hb dX0_endRest_41 rfl (lv_at hl 1 rfl) ?_
    refine k_X0_firstCut N ⟨hx, hb, hml, hown, hts⟩ mw_598 ⟨Nat.le_of_ble_eq_true rfl, Nat.le_of_ble_eq_true rfl⟩ h hK hP hD hS hl.1 (rest := []) (Nat.le_of_ble_eq_true rfl) ⟨Nat.le_of_ble_eq_true rfl, Nat.le_of_ble_eq_true rfl⟩ dX0_endRest_42 (fun r1 τ2 H locs h hP hD hS => ?_)
    exact zret_z hx hb hr hlocks hK hP hD hS h.1 h.2 dX0_endRest_45
  · have hn0 := hc0
    have h := h.2 hc0
    by_cases hc1 : x3 = (1 : Int32)
    · have h := h.1 hc1
      refine lv_tableIn (off := 45) (tgt := 46) hx hb dX0_endRest_1 (by rw [hc1]; decide) (by rw [hc1]; decide) (by rw [hc1]; rfl) (by decide) ?_
      refine lv_aload_n hx hb dX0_endRest_46 rfl (lv_at hl 0 rfl) ?_
      refine lv_lload_n hx hb dX0_endRest_47 rfl (lv_at hl 1 rfl) ?_
      refine k_X0_firstCut N ⟨hx, hb, hml, hown, hts⟩ mw_598 ⟨Nat.le_of_ble_eq_true rfl, Nat.le_of_ble_eq_true rfl⟩ h hK hP hD hS hl.1 (rest := []) (Nat.le_of_ble_eq_true rfl) ⟨Nat.le_of_ble_eq_true rfl, Nat.le_of_ble_eq_true rfl⟩ dX0_endRest_48 (fun r3 τ4 H locs h hP hD hS => ?_)
      refine lv_if_ne (tgt := 62) hx hb dX0_endRest_51 (by decide) (fun hc => ?_) (fun hc => ?_)
      · have h := h.2 hc
        refine lv_iconst (v := (1 : Int32)) hx hb dX0_endRest_62 (by decide) ?_
        refine lv_goto (tgt := 67) hx hb dX0_endRest_63 (by decide) ?_
        exact zret_z hx hb hr hlocks hK hP hD hS zb_1 h dX0_endRest_67
      · have h := h.1 hc
        refine lv_aload_n hx hb dX0_endRest_54 rfl (lv_at hl 0 rfl) ?_
        refine lv_lload_n hx hb dX0_endRest_55 rfl (lv_at hl 1 rfl) ?_
        refine k_X0_firstAdd N ⟨hx, hb, hml, hown, hts⟩ mw_609 ⟨Nat.le_of_ble_eq_true rfl, Nat.le_of_ble_eq_true rfl⟩ h hK hP hD hS hl.1 (rest := []) (Nat.le_of_ble_eq_true rfl) ⟨Nat.le_of_ble_eq_true rfl, Nat.le_of_ble_eq_true rfl⟩ dX0_endRest_56 (fun r5 τ6 H locs h hP hD hS => ?_)
        refine lv_if_eq (tgt := 66) hx hb dX0_endRest_59 (by decide) (fun hc => ?_) (fun hc => ?_)
        · have h := h.1 hc
          refine lv_iconst (v := (0 : Int32)) hx hb dX0_endRest_66 (by decide) ?_
          exact zret_z hx hb hr hlocks hK hP hD hS zb_0 h dX0_endRest_67
        · have h := h.2 hc
          refine lv_iconst (v := (1 : Int32)) hx hb dX0_endRest_62 (by decide) ?_
          refine lv_goto (tgt := 67) hx hb dX0_endRest_63 (by decide) ?_
          exact zret_z hx hb hr hlocks hK hP hD hS zb_1 h dX0_endRest_67
    · have hn1 := hc1
      have h := h.2 hc1
      by_cases hc2 : x3 = (2 : Int32)
      · have h := h.1 hc2
        refine lv_tableIn (off := 67) (tgt := 68) hx hb dX0_endRest_1 (by rw [hc2]; decide) (by rw [hc2]; decide) (by rw [hc2]; rfl) (by decide) ?_
        refine lv_aload_n hx hb dX0_endRest_68 rfl (lv_at hl 0 rfl) ?_
        refine lv_lload_n hx hb dX0_endRest_69 rfl (lv_at hl 1 rfl) ?_
        refine k_X0_firstCut N ⟨hx, hb, hml, hown, hts⟩ mw_598 ⟨Nat.le_of_ble_eq_true rfl, Nat.le_of_ble_eq_true rfl⟩ h hK hP hD hS hl.1 (rest := []) (Nat.le_of_ble_eq_true rfl) ⟨Nat.le_of_ble_eq_true rfl, Nat.le_of_ble_eq_true rfl⟩ dX0_endRest_70 (fun r7 τ8 H locs h hP hD hS => ?_)
        refine lv_if_ne (tgt := 92) hx hb dX0_endRest_73 (by decide) (fun hc => ?_) (fun hc => ?_)
        · have h := h.2 hc
          refine lv_iconst (v := (1 : Int32)) hx hb dX0_endRest_92 (by decide) ?_
          refine lv_goto (tgt := 97) hx hb dX0_endRest_93 (by decide) ?_
          exact zret_z hx hb hr hlocks hK hP hD hS zb_1 h dX0_endRest_97
        · have h := h.1 hc
          refine lv_aload_n hx hb dX0_endRest_76 rfl (lv_at hl 0 rfl) ?_
          refine lv_lload_n hx hb dX0_endRest_77 rfl (lv_at hl 1 rfl) ?_
          refine k_X0_firstAdd N ⟨hx, hb, hml, hown, hts⟩ mw_609 ⟨Nat.le_of_ble_eq_true rfl, Nat.le_of_ble_eq_true rfl⟩ h hK hP hD hS hl.1 (rest := []) (Nat.le_of_ble_eq_true rfl) ⟨Nat.le_of_ble_eq_true rfl, Nat.le_of_ble_eq_true rfl⟩ dX0_endRest_78 (fun r9 τ10 H locs h hP hD hS => ?_)
          refine lv_if_ne (tgt := 92) hx hb dX0_endRest_81 (by decide) (fun hc => ?_) (fun hc => ?_)
          · have h := h.2 hc
            refine lv_iconst (v := (1 : Int32)) hx hb dX0_endRest_92 (by decide) ?_
            refine lv_goto (tgt := 97) hx hb dX0_endRest_93 (by decide) ?_
            exact zret_z hx hb hr hlocks hK hP hD hS zb_1 h dX0_endRest_97
          · have h := h.1 hc
            refine lv_aload_n hx hb dX0_endRest_84 rfl (lv_at hl 0 rfl) ?_
            refine lv_lload_n hx hb dX0_endRest_85 rfl (lv_at hl 1 rfl) ?_
            refine k_X0_firstSeveral N ⟨hx, hb, hml, hown, hts⟩ mw_621 ⟨Nat.le_of_ble_eq_true rfl, Nat.le_of_ble_eq_true rfl⟩ h hK hP hD hS hl.1 (rest := []) (Nat.le_of_ble_eq_true rfl) ⟨Nat.le_of_ble_eq_true rfl, Nat.le_of_ble_eq_true rfl⟩ dX0_endRest_86 (fun r11 τ12 H locs h hP hD hS => ?_)
            refine lv_if_eq (tgt := 96) hx hb dX0_endRest_89 (by decide) (fun hc => ?_) (fun hc => ?_)
            · have h := h.1 hc
              refine lv_iconst (v := (0 : Int32)) hx hb dX0_endRest_96 (by decide) ?_
              exact zret_z hx hb hr hlocks hK hP hD hS zb_0 h dX0_endRest_97
            · have h := h.2 hc
              refine lv_iconst (v := (1 : Int32)) hx hb dX0_endRest_92 (by decide) ?_
              refine lv_goto (tgt := 97) hx hb dX0_endRest_93 (by decide) ?_
              exact zret_z hx hb hr hlocks hK hP hD hS zb_1 h dX0_endRest_97
      · have hn2 := hc2
        have h := h.2 hc2
        by_cases hc3 : x3 = (3 : Int32)
        · have h := h.1 hc3
          refine lv_tableIn (off := 97) (tgt := 98) hx hb dX0_endRest_1 (by rw [hc3]; decide) (by rw [hc3]; decide) (by rw [hc3]; rfl) (by decide) ?_
          refine lv_aload_n hx hb dX0_endRest_98 rfl (lv_at hl 0 rfl) ?_
          refine lv_lload_n hx hb dX0_endRest_99 rfl (lv_at hl 1 rfl) ?_
          refine k_X0_firstCut N ⟨hx, hb, hml, hown, hts⟩ mw_598 ⟨Nat.le_of_ble_eq_true rfl, Nat.le_of_ble_eq_true rfl⟩ h hK hP hD hS hl.1 (rest := []) (Nat.le_of_ble_eq_true rfl) ⟨Nat.le_of_ble_eq_true rfl, Nat.le_of_ble_eq_true rfl⟩ dX0_endRest_100 (fun r13 τ14 H locs h hP hD hS => ?_)
          refine lv_if_ne (tgt := 122) hx hb dX0_endRest_103 (by decide) (fun hc => ?_) (fun hc => ?_)
          · have h := h.2 hc
            refine lv_iconst (v := (1 : Int32)) hx hb dX0_endRest_122 (by decide) ?_
            refine lv_goto (tgt := 127) hx hb dX0_endRest_123 (by decide) ?_
            exact zret_z hx hb hr hlocks hK hP hD hS zb_1 h dX0_endRest_127
          · have h := h.1 hc
            refine lv_aload_n hx hb dX0_endRest_106 rfl (lv_at hl 0 rfl) ?_
            refine lv_lload_n hx hb dX0_endRest_107 rfl (lv_at hl 1 rfl) ?_
            refine k_X0_firstAdd N ⟨hx, hb, hml, hown, hts⟩ mw_609 ⟨Nat.le_of_ble_eq_true rfl, Nat.le_of_ble_eq_true rfl⟩ h hK hP hD hS hl.1 (rest := []) (Nat.le_of_ble_eq_true rfl) ⟨Nat.le_of_ble_eq_true rfl, Nat.le_of_ble_eq_true rfl⟩ dX0_endRest_108 (fun r15 τ16 H locs h hP hD hS => ?_)
            refine lv_if_ne (tgt := 122) hx hb dX0_endRest_111 (by decide) (fun hc => ?_) (fun hc => ?_)
            · have h := h.2 hc
              refine lv_iconst (v := (1 : Int32)) hx hb dX0_endRest_122 (by decide) ?_
              refine lv_goto (tgt := 127) hx hb dX0_endRest_123 (by decide) ?_
              exact zret_z hx hb hr hlocks hK hP hD hS zb_1 h dX0_endRest_127
            · have h := h.1 hc
              refine lv_aload_n hx hb dX0_endRest_114 rfl (lv_at hl 0 rfl) ?_
              refine lv_lload_n hx hb dX0_endRest_115 rfl (lv_at hl 1 rfl) ?_
              refine k_X0_firstSwap N ⟨hx, hb, hml, hown, hts⟩ mw_625 ⟨Nat.le_of_ble_eq_true rfl, Nat.le_of_ble_eq_true rfl⟩ h hK hP hD hS hl.1 (rest := []) (Nat.le_of_ble_eq_true rfl) ⟨Nat.le_of_ble_eq_true rfl, Nat.le_of_ble_eq_true rfl⟩ dX0_endRest_116 (fun r17 τ18 H locs h hP hD hS => ?_)
              refine lv_if_eq (tgt := 126) hx hb dX0_endRest_119 (by decide) (fun hc => ?_) (fun hc => ?_)
              · have h := h.1 hc
                refine lv_iconst (v := (0 : Int32)) hx hb dX0_endRest_126 (by decide) ?_
                exact zret_z hx hb hr hlocks hK hP hD hS zb_0 h dX0_endRest_127
              · have h := h.2 hc
                refine lv_iconst (v := (1 : Int32)) hx hb dX0_endRest_122 (by decide) ?_
                refine lv_goto (tgt := 127) hx hb dX0_endRest_123 (by decide) ?_
                exact zret_z hx hb hr hlocks hK hP hD hS zb_1 h dX0_endRest_127
        · have hn3 := hc3
          have h := h.2 hc3
          by_cases hc4 : x3 = (4 : Int32)
          · have h := h.1 hc4
            refine lv_tableIn (off := 127) (tgt := 128) hx hb dX0_endRest_1 (by rw [hc4]; decide) (by rw [hc4]; decide) (by rw [hc4]; rfl) (by decide) ?_
            refine lv_aload_n hx hb dX0_endRest_128 rfl (lv_at hl 0 rfl) ?_
            refine lv_lload_n hx hb dX0_endRest_129 rfl (lv_at hl 1 rfl) ?_
            refine k_X0_firstTogether N ⟨hx, hb, hml, hown, hts⟩ mw_632 ⟨Nat.le_of_ble_eq_true rfl, Nat.le_of_ble_eq_true rfl⟩ h hK hP hD hS hl.1 (rest := []) (Nat.le_of_ble_eq_true rfl) ⟨Nat.le_of_ble_eq_true rfl, Nat.le_of_ble_eq_true rfl⟩ dX0_endRest_130 (fun r19 τ20 H locs h hP hD hS => ?_)
            exact zret_z hx hb hr hlocks hK hP hD hS h.1 h.2 dX0_endRest_133
          · have hn4 := hc4
            have h := h.2 hc4
            by_cases hc5 : x3 = (5 : Int32)
            · have h := h.1 hc5
              refine lv_tableIn (off := 133) (tgt := 134) hx hb dX0_endRest_1 (by rw [hc5]; decide) (by rw [hc5]; decide) (by rw [hc5]; rfl) (by decide) ?_
              refine lv_iload hx hb dX0_endRest_134 (lv_at hl 3 rfl) ?_
              refine lv_if_ne (tgt := 155) hx hb dX0_endRest_136 (by decide) (fun hc => ?_) (fun hc => ?_)
              · have h := h.2 hc
                exact t_X0_endRest_155 C0 hK N  x1 σ _ _ _ h hP hD hS (lv_sub hl [0, 1] rfl)
              · have h := h.1 hc
                refine lv_aload_n hx hb dX0_endRest_139 rfl (lv_at hl 0 rfl) ?_
                refine lv_lload_n hx hb dX0_endRest_140 rfl (lv_at hl 1 rfl) ?_
                refine k_X0_firstCut N ⟨hx, hb, hml, hown, hts⟩ mw_598 ⟨Nat.le_of_ble_eq_true rfl, Nat.le_of_ble_eq_true rfl⟩ h hK hP hD hS hl.1 (rest := []) (Nat.le_of_ble_eq_true rfl) ⟨Nat.le_of_ble_eq_true rfl, Nat.le_of_ble_eq_true rfl⟩ dX0_endRest_141 (fun r21 τ22 H locs h hP hD hS => ?_)
                refine lv_if_ne (tgt := 163) hx hb dX0_endRest_144 (by decide) (fun hc => ?_) (fun hc => ?_)
                · have h := h.2 hc
                  refine lv_iconst (v := (1 : Int32)) hx hb dX0_endRest_163 (by decide) ?_
                  refine lv_goto (tgt := 168) hx hb dX0_endRest_164 (by decide) ?_
                  exact zret_z hx hb hr hlocks hK hP hD hS zb_1 h dX0_endRest_168
                · have h := h.1 hc
                  refine lv_aload_n hx hb dX0_endRest_147 rfl (lv_at hl 0 rfl) ?_
                  refine lv_lload_n hx hb dX0_endRest_148 rfl (lv_at hl 1 rfl) ?_
                  refine k_X0_firstBothGain N ⟨hx, hb, hml, hown, hts⟩ mw_635 ⟨Nat.le_of_ble_eq_true rfl, Nat.le_of_ble_eq_true rfl⟩ h hK hP hD hS hl.1 (rest := []) (Nat.le_of_ble_eq_true rfl) ⟨Nat.le_of_ble_eq_true rfl, Nat.le_of_ble_eq_true rfl⟩ dX0_endRest_149 (fun r23 τ24 H locs h hP hD hS => ?_)
                  refine lv_if_ne (tgt := 163) hx hb dX0_endRest_152 (by decide) (fun hc => ?_) (fun hc => ?_)
                  · have h := h.2 hc
                    refine lv_iconst (v := (1 : Int32)) hx hb dX0_endRest_163 (by decide) ?_
                    refine lv_goto (tgt := 168) hx hb dX0_endRest_164 (by decide) ?_
                    exact zret_z hx hb hr hlocks hK hP hD hS zb_1 h dX0_endRest_168
                  · have h := h.1 hc
                    exact t_X0_endRest_155 C0 hK N  x1 τ24 _ _ _ h hP hD hS (lv_sub hl [0, 1] rfl)
            · have hn5 := hc5
              have h := h.2 hc5
              refine lv_tableOut (tgt := 169) hx hb dX0_endRest_1 (by have e0 := zne (k := 0) (by decide) hn0; have e1 := zne (k := 1) (by decide) hn1; have e2 := zne (k := 2) (by decide) hn2; have e3 := zne (k := 3) (by decide) hn3; have e4 := zne (k := 4) (by decide) hn4; have e5 := zne (k := 5) (by decide) hn5; omega) (by decide) ?_
              refine lv_iconst (v := (0 : Int32)) hx hb dX0_endRest_169 (by decide) ?_
              exact zret_z hx hb hr hlocks hK hP hD hS zb_0 h dX0_endRest_170
set_option maxHeartbeats 4000000 in
set_option maxRecDepth 100000 in
theorem c_X0_endRest (N : Nat) (l : Launch) (dC : Nat → ClassId) (dI : Nat → Nat → Nat) (ad : Nat → Nat) (cI cJ : ClassId) (sz : Nat) (σ : zSt) (x1 : Int64) (x3 : Int32) (x4 : Int32) (Q : Int32 → zSt → Prop) (h : w_X0_endRest N x1 x3 x4 σ Q) : Met l yX0_endRest vs_X0_endRest rm_X0_endRest (va_Pc [.ref (ad 10), .long x1, .int x3, .int x4] (zPc (dC, dI) (x_ty cI cJ) (x_W ad cI cJ) sz σ)) (zQi (dC, dI) (x_ty cI cJ) (x_W ad cI cJ) (zAW x_n ad sz) Q) 0 0 (zAW x_n ad sz) := by
  refine Met.ofW (cc := cX0_endRest) (maxL := 5) (ret := (some .boolean)) (by decide) rfl ?_
  intro p e s m args below meth c s₁ B hml hv
  obtain ⟨rfl, hsz, hP, hK, hD0⟩ := hv
  subst hsz
  have C0 : zCx p s m meth c _ RX0 cX0_endRest 5 (some .boolean) vs_X0_endRest := ⟨B.exec, B.bytes, hml, B.returns, findClass_of_methodNamed B.named, atoms_spec (ws := vs_X0_endRest) B.pre, B.notSynchronized⟩
  have hD := x_D0 (n0 := s.heap.size) hD0
  have hl := lv_entry ([.ref (ad 10), .long x1, .int x3, .int x4]) (n := 5) (Nat.le_of_ble_eq_true rfl)
  rw [lg_entry_eq]
  generalize (lg_sl ([.ref (ad 10), .long x1, .int x3, .int x4]) ++ List.replicate (5 - (lg_sl ([.ref (ad 10), .long x1, .int x3, .int x4])).length) Slot.unset).toArray = ls at hl ⊢
  exact t_X0_endRest_0 C0 hK N x1 x3 x4 σ _ _ ls h hP hD va_S.rf hl
theorem k_X0_endRest (N : Nat) {R : Room} {H : Heap} {locs : List Loc} {cells slots : Nat} {Q2 : State → Prop} {cc : ByteArray} {nL pc index : Nat} {ls : Array Slot} {rest : List Value} {own : String} {c0 : Cond} {σ : zSt} {x1 : Int64} {x3 : Int32} {x4 : Int32} {Q : Int32 → zSt → Prop} (S0 : CallFix p m c cc nL s args (c0 :: zT) own) (hml : Cond.methodLink own index yX0_endRest ∈ zT) (hR : rm_X0_endRest.frames + 1 ≤ R.frames ∧ 8 + (5 + 11) + rm_X0_endRest.locals ≤ R.locals) (h : w_X0_endRest N x1 x3 x4 σ Q) (hK : va_K (dC, dI) vwCl (x_ty cI cJ) s) (hP : va_P (dC, dI) vwCl (x_W ad cI cJ σ) H) (hD : va_D (zAW x_n ad s.heap.size) (x_W ad cI cJ σ)) (hS : va_S (zAW x_n ad s.heap.size) s.heap H locs) (hsz : ls.size = nL) (hW : (rest.map fun v => v.category).sum ≤ 8) (hcs : cells ≤ R.cells ∧ slots ≤ R.slots) (hdg : decode cc pc = .ok (.invokevirtual index, 3)) (kk : ∀ (r : Int32) (τ : zSt) (H1 : Heap) (locs1 : List Loc), Q r τ → va_P (dC, dI) vwCl (x_W ad cI cJ τ) H1 → va_D (zAW x_n ad s.heap.size) (x_W ad cI cJ τ) → va_S (zAW x_n ad s.heap.size) s.heap H1 locs1 → W p l e R s m args below meth c H1 locs1 cells slots Q2 (F0 m (pc + 3) ls (.int r :: rest))) : W p l e R s m args below meth c H locs cells slots Q2 (F0 m pc ls (.int x4 :: .int x3 :: .long x1 :: .ref (ad 10) :: rest)) :=
  zcv_i (T := TX0) (N' := 9) (k := 10) (ci := 0) (fs := x_f10 ad σ) [.long x1, .int x3, .int x4] S0 (c_X0_endRest N l dC dI ad cI cJ H.size σ x1 x3 x4 Q h) (cw_X0_endRest S0.2.2.2.2 hml rfl rfl hR) rfl rfl hK hP hD hS rfl hsz hW rfl hcs hdg kk
end q09
section q09
def b_X11_rest_25 (N : Nat) (Q : Int32 → zSt → Prop) (x1 : Int32) (σ : zSt) : Prop :=
  w_X0_endRest N (σ.2.1 0) x1 (1 : Int32) σ (fun r1 τ2 => (r1 = 0 → Q (1 : Int32) τ2) ∧ (¬ r1 = 0 → ∀ τ3 : zSt, τ3 = zB τ2 0 (vp_updL (τ2.2.2.2 0) 0 (τ2.1 28).toInt64) → ∀ τ4 : zSt, τ4 = zB τ3 0 (vp_updL (τ3.2.2.2 0) 1 (τ3.1 29).toInt64) → ∀ τ5 : zSt, τ5 = zB τ4 0 (vp_updL (τ4.2.2.2 0) 2 (τ4.2.1 5)) → Q (0 : Int32) τ5))
def w_X11_rest (N : Nat) (x1 : Int32) (σ : zSt) (Q : Int32 → zSt → Prop) : Prop :=
  w_X11_isKind N x1 σ (fun r1 τ2 => (r1 = 0 → Q (-1 : Int32) τ2) ∧ (¬ r1 = 0 → (x1 = (5 : Int32) → ((τ2.1 1) ≤ (5 : Int32) → b_X11_rest_25 N Q x1 τ2) ∧ (¬ (τ2.1 1) ≤ (5 : Int32) → Q (-1 : Int32) τ2)) ∧ (¬ x1 = (5 : Int32) → b_X11_rest_25 N Q x1 τ2)))
variable {p : Program} {l : Launch} {e : Env} {s : State} {m : MethodId} {args : Array Value} {below : List Frame} {meth : Method} {c : Code} {dC : Nat → ClassId} {dI : Nat → Nat → Nat} {ad : Nat → Nat} {cI cJ : ClassId}
set_option maxHeartbeats 4000000 in
set_option maxRecDepth 100000 in
theorem t_X11_rest_25 (C0 : zCx p s m meth c args RX11 cX11_rest 2 (some .int) vs_X11_rest) (hK : va_K (dC, dI) vwCl (x_ty cI cJ) s) (N : Nat) {Q : Int32 → zSt → Prop} : ∀ (x1 : Int32) (σ : zSt) (H : Heap) (locs : List Loc) (ls : Array Slot), b_X11_rest_25 N  Q x1 σ → va_P (dC, dI) vwCl (x_W ad cI cJ σ) H → va_D (zAW x_n ad s.heap.size) (x_W ad cI cJ σ) → va_S (zAW x_n ad s.heap.size) s.heap H locs → lv_has ls 2 [(0, .ref (ad 0)), (1, .int x1)] → W p l e rm_X11_rest s m args below meth c H locs 0 0 (MQ below (zQi (dC, dI) (x_ty cI cJ) (x_W ad cI cJ) (zAW x_n ad s.heap.size) Q) args s 0 0 (zAW x_n ad s.heap.size)) (F0 m 25 ls []) := by
  obtain ⟨hx, hb, hml, hr, hown, hts, hlocks⟩ := id C0
  intro x1 σ H locs ls h hP hD hS hl
  unfold b_X11_rest_25 at h
  refine lv_aload_n hx hb dX11_rest_25 rfl (lv_at hl 0 rfl) ?_
  refine xg_0_6 hx hb hts hown hK hP mw_295 dX11_rest_26 ?_
  refine lv_aload_n hx hb dX11_rest_29 rfl (lv_at hl 0 rfl) ?_
  refine xg_0_15 hx hb hts hown hK hP mw_304 dX11_rest_30 ?_
  refine lv_iload_n hx hb dX11_rest_33 rfl (lv_at hl 1 rfl) ?_
  refine lv_iconst (v := (1 : Int32)) hx hb dX11_rest_34 (by decide) ?_
  refine k_X0_endRest N ⟨hx, hb, hml, hown, hts⟩ mw_594 ⟨Nat.le_of_ble_eq_true rfl, Nat.le_of_ble_eq_true rfl⟩ h hK hP hD hS hl.1 (rest := []) (Nat.le_of_ble_eq_true rfl) ⟨Nat.le_of_ble_eq_true rfl, Nat.le_of_ble_eq_true rfl⟩ dX11_rest_35 (fun r1 τ2 H locs h hP hD hS => ?_)
  refine lv_if_ne (tgt := 43) hx hb dX11_rest_38 (by decide) (fun hc => ?_) (fun hc => ?_)
  · have h := h.2 hc
    refine lv_aload_n hx hb dX11_rest_43 rfl (lv_at hl 0 rfl) ?_
    refine xg_0_13 hx hb hts hown hK hP mw_302 dX11_rest_44 ?_
    refine lv_iconst (v := (0 : Int32)) hx hb dX11_rest_47 (by decide) ?_
    refine lv_aload_n hx hb dX11_rest_48 rfl (lv_at hl 0 rfl) ?_
    refine xg_0_6 hx hb hts hown hK hP mw_295 dX11_rest_49 ?_
    refine xg_10_6 hx hb hts hown hK hP mw_227 dX11_rest_52 ?_
    refine lv_i2l hx hb dX11_rest_55 rfl ?_
    refine xs_17 (j := 0) hx hb hK hP hD hS (zin (by decide)) (by decide) dX11_rest_56 (fun τ3 H locs eτ3 hP hD hS => ?_)
    have h := h τ3 eτ3
    refine lv_aload_n hx hb dX11_rest_57 rfl (lv_at hl 0 rfl) ?_
    refine xg_0_13 hx hb hts hown hK hP mw_302 dX11_rest_58 ?_
    refine lv_iconst (v := (1 : Int32)) hx hb dX11_rest_61 (by decide) ?_
    refine lv_aload_n hx hb dX11_rest_62 rfl (lv_at hl 0 rfl) ?_
    refine xg_0_6 hx hb hts hown hK hP mw_295 dX11_rest_63 ?_
    refine xg_10_7 hx hb hts hown hK hP mw_229 dX11_rest_66 ?_
    refine lv_i2l hx hb dX11_rest_69 rfl ?_
    refine xs_17 (j := 1) hx hb hK hP hD hS (zin (by decide)) (by decide) dX11_rest_70 (fun τ4 H locs eτ4 hP hD hS => ?_)
    have h := h τ4 eτ4
    refine lv_aload_n hx hb dX11_rest_71 rfl (lv_at hl 0 rfl) ?_
    refine xg_0_13 hx hb hts hown hK hP mw_302 dX11_rest_72 ?_
    refine lv_iconst (v := (2 : Int32)) hx hb dX11_rest_75 (by decide) ?_
    refine lv_aload_n hx hb dX11_rest_76 rfl (lv_at hl 0 rfl) ?_
    refine xg_0_6 hx hb hts hown hK hP mw_295 dX11_rest_77 ?_
    refine xg_10_8 hx hb hts hown hK hP mw_231 dX11_rest_80 ?_
    refine xs_17 (j := 2) hx hb hK hP hD hS (zin (by decide)) (by decide) dX11_rest_83 (fun τ5 H locs eτ5 hP hD hS => ?_)
    have h := h τ5 eτ5
    refine lv_iconst (v := (0 : Int32)) hx hb dX11_rest_84 (by decide) ?_
    exact zret_i hx hb hr hlocks hK hP hD hS h dX11_rest_85
  · have h := h.1 hc
    refine lv_iconst (v := (1 : Int32)) hx hb dX11_rest_41 (by decide) ?_
    exact zret_i hx hb hr hlocks hK hP hD hS h dX11_rest_42
set_option maxHeartbeats 4000000 in
set_option maxRecDepth 100000 in
theorem t_X11_rest_0 (C0 : zCx p s m meth c args RX11 cX11_rest 2 (some .int) vs_X11_rest) (hK : va_K (dC, dI) vwCl (x_ty cI cJ) s) (N : Nat) {Q : Int32 → zSt → Prop} : ∀ (x1 : Int32) (σ : zSt) (H : Heap) (locs : List Loc) (ls : Array Slot), w_X11_rest N x1 σ Q → va_P (dC, dI) vwCl (x_W ad cI cJ σ) H → va_D (zAW x_n ad s.heap.size) (x_W ad cI cJ σ) → va_S (zAW x_n ad s.heap.size) s.heap H locs → lv_has ls 2 [(0, .ref (ad 0)), (1, .int x1)] → W p l e rm_X11_rest s m args below meth c H locs 0 0 (MQ below (zQi (dC, dI) (x_ty cI cJ) (x_W ad cI cJ) (zAW x_n ad s.heap.size) Q) args s 0 0 (zAW x_n ad s.heap.size)) (F0 m 0 ls []) := by
  obtain ⟨hx, hb, hml, hr, hown, hts, hlocks⟩ := id C0
  intro x1 σ H locs ls h hP hD hS hl
  unfold w_X11_rest at h
  refine lv_iload_n hx hb dX11_rest_0 rfl (lv_at hl 1 rfl) ?_
  refine k_X11_isKind N ⟨hx, hb, hml, hown, hts⟩ mw_591 ⟨Nat.le_of_ble_eq_true rfl, Nat.le_of_ble_eq_true rfl⟩ h hK hP hD hS hl.1 (rest := []) (Nat.le_of_ble_eq_true rfl) ⟨Nat.le_of_ble_eq_true rfl, Nat.le_of_ble_eq_true rfl⟩ dX11_rest_1 (fun r1 τ2 H locs h hP hD hS => ?_)
  refine lv_if_eq (tgt := 23) hx hb dX11_rest_4 (by decide) (fun hc => ?_) (fun hc => ?_)
  · have h := h.1 hc
    refine lv_iconst (v := (-1 : Int32)) hx hb dX11_rest_23 (by decide) ?_
    exact zret_i hx hb hr hlocks hK hP hD hS h dX11_rest_24
  · have h := h.2 hc
    refine lv_iload_n hx hb dX11_rest_7 rfl (lv_at hl 1 rfl) ?_
    refine lv_iconst (v := (5 : Int32)) hx hb dX11_rest_8 (by decide) ?_
    refine lv_icmp_ne (tgt := 25) hx hb dX11_rest_9 (by decide) (fun hc => ?_) (fun hc => ?_)
    · have h := h.2 hc
      exact t_X11_rest_25 C0 hK N  x1 τ2 _ _ _ h hP hD hS (lv_sub hl [0, 1] rfl)
    · have h := h.1 hc
      refine lv_aload_n hx hb dX11_rest_12 rfl (lv_at hl 0 rfl) ?_
      refine xg_0_2 hx hb hts hown hK hP mw_291 dX11_rest_13 ?_
      refine xg_3_4 hx hb hts hown hK hP mw_75 dX11_rest_16 ?_
      refine lv_iconst (v := (5 : Int32)) hx hb dX11_rest_19 (by decide) ?_
      refine lv_icmp_le (tgt := 25) hx hb dX11_rest_20 (by decide) (fun hc => ?_) (fun hc => ?_)
      · have h := h.1 hc
        exact t_X11_rest_25 C0 hK N  x1 τ2 _ _ _ h hP hD hS (lv_sub hl [0, 1] rfl)
      · have h := h.2 hc
        refine lv_iconst (v := (-1 : Int32)) hx hb dX11_rest_23 (by decide) ?_
        exact zret_i hx hb hr hlocks hK hP hD hS h dX11_rest_24
set_option maxHeartbeats 4000000 in
set_option maxRecDepth 100000 in
theorem c_X11_rest (N : Nat) (l : Launch) (dC : Nat → ClassId) (dI : Nat → Nat → Nat) (ad : Nat → Nat) (cI cJ : ClassId) (sz : Nat) (σ : zSt) (x1 : Int32) (Q : Int32 → zSt → Prop) (h : w_X11_rest N x1 σ Q) : Met l yX11_rest vs_X11_rest rm_X11_rest (va_Pc [.ref (ad 0), .int x1] (zPc (dC, dI) (x_ty cI cJ) (x_W ad cI cJ) sz σ)) (zQi (dC, dI) (x_ty cI cJ) (x_W ad cI cJ) (zAW x_n ad sz) Q) 0 0 (zAW x_n ad sz) := by
  refine Met.ofW (cc := cX11_rest) (maxL := 2) (ret := (some .int)) (by decide) rfl ?_
  intro p e s m args below meth c s₁ B hml hv
  obtain ⟨rfl, hsz, hP, hK, hD0⟩ := hv
  subst hsz
  have C0 : zCx p s m meth c _ RX11 cX11_rest 2 (some .int) vs_X11_rest := ⟨B.exec, B.bytes, hml, B.returns, findClass_of_methodNamed B.named, atoms_spec (ws := vs_X11_rest) B.pre, B.notSynchronized⟩
  have hD := x_D0 (n0 := s.heap.size) hD0
  have hl := lv_entry ([.ref (ad 0), .int x1]) (n := 2) (Nat.le_of_ble_eq_true rfl)
  rw [lg_entry_eq]
  generalize (lg_sl ([.ref (ad 0), .int x1]) ++ List.replicate (2 - (lg_sl ([.ref (ad 0), .int x1])).length) Slot.unset).toArray = ls at hl ⊢
  exact t_X11_rest_0 C0 hK N x1 σ _ _ ls h hP hD va_S.rf hl
theorem k_X11_rest (N : Nat) {R : Room} {H : Heap} {locs : List Loc} {cells slots : Nat} {Q2 : State → Prop} {cc : ByteArray} {nL pc index : Nat} {ls : Array Slot} {rest : List Value} {own : String} {c0 : Cond} {σ : zSt} {x1 : Int32} {Q : Int32 → zSt → Prop} (S0 : CallFix p m c cc nL s args (c0 :: zT) own) (hml : Cond.methodLink own index yX11_rest ∈ zT) (hR : rm_X11_rest.frames + 1 ≤ R.frames ∧ 8 + (2 + 11) + rm_X11_rest.locals ≤ R.locals) (h : w_X11_rest N x1 σ Q) (hK : va_K (dC, dI) vwCl (x_ty cI cJ) s) (hP : va_P (dC, dI) vwCl (x_W ad cI cJ σ) H) (hD : va_D (zAW x_n ad s.heap.size) (x_W ad cI cJ σ)) (hS : va_S (zAW x_n ad s.heap.size) s.heap H locs) (hsz : ls.size = nL) (hW : (rest.map fun v => v.category).sum ≤ 8) (hcs : cells ≤ R.cells ∧ slots ≤ R.slots) (hdg : decode cc pc = .ok (.invokevirtual index, 3)) (kk : ∀ (r : Int32) (τ : zSt) (H1 : Heap) (locs1 : List Loc), Q r τ → va_P (dC, dI) vwCl (x_W ad cI cJ τ) H1 → va_D (zAW x_n ad s.heap.size) (x_W ad cI cJ τ) → va_S (zAW x_n ad s.heap.size) s.heap H1 locs1 → W p l e R s m args below meth c H1 locs1 cells slots Q2 (F0 m (pc + 3) ls (.int r :: rest))) : W p l e R s m args below meth c H locs cells slots Q2 (F0 m pc ls (.int x1 :: .ref (ad 0) :: rest)) :=
  zcv_i (T := TX11) (N' := 17) (k := 0) (ci := 11) (fs := x_f0 ad σ) [.int x1] S0 (c_X11_rest N l dC dI ad cI cJ H.size σ x1 Q h) (cw_X11_rest S0.2.2.2.2 hml rfl rfl hR) rfl rfl hK hP hD hS rfl hsz hW rfl hcs hdg kk
end q09
section q09
def w_X11_bars (N : Nat) (x1 : Int32) (σ : zSt) (Q : Int64 → zSt → Prop) : Prop :=
  (x1 < 0 → Q (-1 : Int64) σ) ∧ (¬ x1 < 0 → ((3 : Int32) ≤ x1 → Q (-1 : Int64) σ) ∧ (¬ (3 : Int32) ≤ x1 → (vp_in x1 3) ∧ (Q (σ.2.2.2 0 x1.toNatClampNeg) σ)))
variable {p : Program} {l : Launch} {e : Env} {s : State} {m : MethodId} {args : Array Value} {below : List Frame} {meth : Method} {c : Code} {dC : Nat → ClassId} {dI : Nat → Nat → Nat} {ad : Nat → Nat} {cI cJ : ClassId}
set_option maxHeartbeats 4000000 in
set_option maxRecDepth 100000 in
theorem t_X11_bars_0 (C0 : zCx p s m meth c args RX11 cX11_bars 2 (some .long) vs_X11_bars) (hK : va_K (dC, dI) vwCl (x_ty cI cJ) s) (N : Nat) {Q : Int64 → zSt → Prop} : ∀ (x1 : Int32) (σ : zSt) (H : Heap) (locs : List Loc) (ls : Array Slot), w_X11_bars N x1 σ Q → va_P (dC, dI) vwCl (x_W ad cI cJ σ) H → va_D (zAW x_n ad s.heap.size) (x_W ad cI cJ σ) → va_S (zAW x_n ad s.heap.size) s.heap H locs → lv_has ls 2 [(0, .ref (ad 0)), (1, .int x1)] → W p l e rm_X11_bars s m args below meth c H locs 0 0 (MQ below (zQl (dC, dI) (x_ty cI cJ) (x_W ad cI cJ) (zAW x_n ad s.heap.size) Q) args s 0 0 (zAW x_n ad s.heap.size)) (F0 m 0 ls []) := by
  obtain ⟨hx, hb, hml, hr, hown, hts, hlocks⟩ := id C0
  intro x1 σ H locs ls h hP hD hS hl
  unfold w_X11_bars at h
  refine lv_iload_n hx hb dX11_bars_0 rfl (lv_at hl 1 rfl) ?_
  refine lv_if_lt (tgt := 22) hx hb dX11_bars_1 (by decide) (fun hc => ?_) (fun hc => ?_)
  · have h := h.1 hc
    refine lv_ldc2 (v := (-1 : Int64)) hx hb hown (hts _ (List.mem_cons_of_mem _ mw_275)) dX11_bars_22 ?_
    exact zret_l hx hb hr hlocks hK hP hD hS h dX11_bars_25
  · have h := h.2 hc
    refine lv_iload_n hx hb dX11_bars_4 rfl (lv_at hl 1 rfl) ?_
    refine lv_aload_n hx hb dX11_bars_5 rfl (lv_at hl 0 rfl) ?_
    refine xg_0_13 hx hb hts hown hK hP mw_302 dX11_bars_6 ?_
    refine xl_17 hx hb hK hP dX11_bars_9 ?_
    refine lv_icmp_ge (tgt := 22) hx hb dX11_bars_10 (by decide) (fun hc => ?_) (fun hc => ?_)
    · have h := h.1 hc
      refine lv_ldc2 (v := (-1 : Int64)) hx hb hown (hts _ (List.mem_cons_of_mem _ mw_275)) dX11_bars_22 ?_
      exact zret_l hx hb hr hlocks hK hP hD hS h dX11_bars_25
    · have h := h.2 hc
      refine lv_aload_n hx hb dX11_bars_13 rfl (lv_at hl 0 rfl) ?_
      refine xg_0_13 hx hb hts hown hK hP mw_302 dX11_bars_14 ?_
      refine lv_iload_n hx hb dX11_bars_17 rfl (lv_at hl 1 rfl) ?_
      refine xa_17 hx hb hK hP h.1 rfl dX11_bars_18 ?_
      have h := h.2
      refine lv_goto (tgt := 25) hx hb dX11_bars_19 (by decide) ?_
      exact zret_l hx hb hr hlocks hK hP hD hS h dX11_bars_25
set_option maxHeartbeats 4000000 in
set_option maxRecDepth 100000 in
theorem c_X11_bars (N : Nat) (l : Launch) (dC : Nat → ClassId) (dI : Nat → Nat → Nat) (ad : Nat → Nat) (cI cJ : ClassId) (sz : Nat) (σ : zSt) (x1 : Int32) (Q : Int64 → zSt → Prop) (h : w_X11_bars N x1 σ Q) : Met l yX11_bars vs_X11_bars rm_X11_bars (va_Pc [.ref (ad 0), .int x1] (zPc (dC, dI) (x_ty cI cJ) (x_W ad cI cJ) sz σ)) (zQl (dC, dI) (x_ty cI cJ) (x_W ad cI cJ) (zAW x_n ad sz) Q) 0 0 (zAW x_n ad sz) := by
  refine Met.ofW (cc := cX11_bars) (maxL := 2) (ret := (some .long)) (by decide) rfl ?_
  intro p e s m args below meth c s₁ B hml hv
  obtain ⟨rfl, hsz, hP, hK, hD0⟩ := hv
  subst hsz
  have C0 : zCx p s m meth c _ RX11 cX11_bars 2 (some .long) vs_X11_bars := ⟨B.exec, B.bytes, hml, B.returns, findClass_of_methodNamed B.named, atoms_spec (ws := vs_X11_bars) B.pre, B.notSynchronized⟩
  have hD := x_D0 (n0 := s.heap.size) hD0
  have hl := lv_entry ([.ref (ad 0), .int x1]) (n := 2) (Nat.le_of_ble_eq_true rfl)
  rw [lg_entry_eq]
  generalize (lg_sl ([.ref (ad 0), .int x1]) ++ List.replicate (2 - (lg_sl ([.ref (ad 0), .int x1])).length) Slot.unset).toArray = ls at hl ⊢
  exact t_X11_bars_0 C0 hK N x1 σ _ _ ls h hP hD va_S.rf hl
theorem k_X11_bars (N : Nat) {R : Room} {H : Heap} {locs : List Loc} {cells slots : Nat} {Q2 : State → Prop} {cc : ByteArray} {nL pc index : Nat} {ls : Array Slot} {rest : List Value} {own : String} {c0 : Cond} {σ : zSt} {x1 : Int32} {Q : Int64 → zSt → Prop} (S0 : CallFix p m c cc nL s args (c0 :: zT) own) (hml : Cond.methodLink own index yX11_bars ∈ zT) (hR : rm_X11_bars.frames + 1 ≤ R.frames ∧ 8 + (2 + 11) + rm_X11_bars.locals ≤ R.locals) (h : w_X11_bars N x1 σ Q) (hK : va_K (dC, dI) vwCl (x_ty cI cJ) s) (hP : va_P (dC, dI) vwCl (x_W ad cI cJ σ) H) (hD : va_D (zAW x_n ad s.heap.size) (x_W ad cI cJ σ)) (hS : va_S (zAW x_n ad s.heap.size) s.heap H locs) (hsz : ls.size = nL) (hW : (rest.map fun v => v.category).sum ≤ 8) (hcs : cells ≤ R.cells ∧ slots ≤ R.slots) (hdg : decode cc pc = .ok (.invokevirtual index, 3)) (kk : ∀ (r : Int64) (τ : zSt) (H1 : Heap) (locs1 : List Loc), Q r τ → va_P (dC, dI) vwCl (x_W ad cI cJ τ) H1 → va_D (zAW x_n ad s.heap.size) (x_W ad cI cJ τ) → va_S (zAW x_n ad s.heap.size) s.heap H1 locs1 → W p l e R s m args below meth c H1 locs1 cells slots Q2 (F0 m (pc + 3) ls (.long r :: rest))) : W p l e R s m args below meth c H locs cells slots Q2 (F0 m pc ls (.int x1 :: .ref (ad 0) :: rest)) :=
  zcv_l (T := TX11) (N' := 17) (k := 0) (ci := 11) (fs := x_f0 ad σ) [.int x1] S0 (c_X11_bars N l dC dI ad cI cJ H.size σ x1 Q h) (cw_X11_bars S0.2.2.2.2 hml rfl rfl hR) rfl rfl hK hP hD hS rfl hsz hW rfl hcs hdg kk
end q09
section q09
def b_X9_drawnPair_6 (N : Nat) (k_6 : Int64 → Int32 → Int32 → Int32 → zSt → Prop) (Q : Int32 → zSt → Prop) (x1 : Int64) (x3 : Int32) (x4 : Int32) (x5 : Int32) (σ : zSt) : Prop :=
  ((σ.1 2) ≤ x5 → (x4 = 0 → Q (-1 : Int32) σ) ∧ (¬ x4 = 0 → ∀ v1 : Int64, v1 = (((1103515245 : Int64) * x3.toInt64) + (12345 : Int64)) - (((1103515245 : Int64) * x3.toInt64) + (12345 : Int64)) / (2147483648 : Int64) * (2147483648 : Int64) → (¬ x4.toInt64 = 0) ∧ ((vp_in ((v1 / (256 : Int64)) - (v1 / (256 : Int64)) / x4.toInt64 * x4.toInt64).toInt32 45) ∧ (Q (σ.2.2.1 30 ((v1 / (256 : Int64)) - (v1 / (256 : Int64)) / x4.toInt64 * x4.toInt64).toInt32.toNatClampNeg) σ)))) ∧ (¬ (σ.1 2) ≤ x5 → w_X0_moves N x1 x5 σ (fun r2 τ3 => (r2 = 0 → ∀ v4 : Int32, v4 = x5 + (1 : Int32) → k_6 x1 x3 x4 v4 τ3) ∧ (¬ r2 = 0 → (vp_in x4 45) ∧ (∀ τ5 : zSt, τ5 = zA τ3 30 (upd (τ3.2.2.1 30) (x4.toNatClampNeg) x5) → ∀ v6 : Int32, v6 = x4 + (1 : Int32) → ∀ v7 : Int32, v7 = x5 + (1 : Int32) → k_6 x1 x3 v6 v7 τ5))))
def w_X9_drawnPair_6 (N : Nat) (Q : Int32 → zSt → Prop) : Nat → Int64 → Int32 → Int32 → Int32 → zSt → Prop
  | 0 => fun _ _ _ _ _ => False
  | f + 1 => b_X9_drawnPair_6 N (w_X9_drawnPair_6 N  Q f) Q
def w_X9_drawnPair (N : Nat) (x1 : Int64) (x3 : Int32) (σ : zSt) (Q : Int32 → zSt → Prop) : Prop :=
  w_X9_drawnPair_6 N Q N x1 x3 (0 : Int32) (0 : Int32) σ
variable {p : Program} {l : Launch} {e : Env} {s : State} {m : MethodId} {args : Array Value} {below : List Frame} {meth : Method} {c : Code} {dC : Nat → ClassId} {dI : Nat → Nat → Nat} {ad : Nat → Nat} {cI cJ : ClassId}
set_option maxHeartbeats 4000000 in
set_option maxRecDepth 100000 in
theorem tb_X9_drawnPair_6 (C0 : zCx p s m meth c args RX9 cX9_drawnPair 7 (some .int) vs_X9_drawnPair) (hK : va_K (dC, dI) vwCl (x_ty cI cJ) s) (N : Nat) {Q : Int32 → zSt → Prop} {k_6 : Int64 → Int32 → Int32 → Int32 → zSt → Prop} (hk_6 : ∀ (x1 : Int64) (x3 : Int32) (x4 : Int32) (x5 : Int32) (σ : zSt) (H : Heap) (locs : List Loc) (ls : Array Slot), k_6 x1 x3 x4 x5 σ → va_P (dC, dI) vwCl (x_W ad cI cJ σ) H → va_D (zAW x_n ad s.heap.size) (x_W ad cI cJ σ) → va_S (zAW x_n ad s.heap.size) s.heap H locs → lv_has ls 7 [(0, .ref (ad 11)), (1, .long x1), (3, .int x3), (4, .int x4), (5, .int x5)] → W p l e rm_X9_drawnPair s m args below meth c H locs 0 0 (MQ below (zQi (dC, dI) (x_ty cI cJ) (x_W ad cI cJ) (zAW x_n ad s.heap.size) Q) args s 0 0 (zAW x_n ad s.heap.size)) (F0 m 6 ls [])) : ∀ (x1 : Int64) (x3 : Int32) (x4 : Int32) (x5 : Int32) (σ : zSt) (H : Heap) (locs : List Loc) (ls : Array Slot), b_X9_drawnPair_6 N k_6 Q x1 x3 x4 x5 σ → va_P (dC, dI) vwCl (x_W ad cI cJ σ) H → va_D (zAW x_n ad s.heap.size) (x_W ad cI cJ σ) → va_S (zAW x_n ad s.heap.size) s.heap H locs → lv_has ls 7 [(0, .ref (ad 11)), (1, .long x1), (3, .int x3), (4, .int x4), (5, .int x5)] → W p l e rm_X9_drawnPair s m args below meth c H locs 0 0 (MQ below (zQi (dC, dI) (x_ty cI cJ) (x_W ad cI cJ) (zAW x_n ad s.heap.size) Q) args s 0 0 (zAW x_n ad s.heap.size)) (F0 m 6 ls []) := by
  obtain ⟨hx, hb, hml, hr, hown, hts, hlocks⟩ := id C0
  intro x1 x3 x4 x5 σ H locs ls h hP hD hS hl
  unfold b_X9_drawnPair_6 at h
  refine lv_iload hx hb dX9_drawnPair_6 (lv_at hl 4 rfl) ?_
  refine lv_aload_n hx hb dX9_drawnPair_8 rfl (lv_at hl 0 rfl) ?_
  refine xg_11_0 hx hb hts hown hK hP mw_238 dX9_drawnPair_9 ?_
  refine xg_3_5 hx hb hts hown hK hP mw_79 dX9_drawnPair_12 ?_
  refine lv_icmp_ge (tgt := 49) hx hb dX9_drawnPair_15 (by decide) (fun hc => ?_) (fun hc => ?_)
  · have h := h.1 hc
    refine lv_iload hx hb dX9_drawnPair_49 (lv_at hl 3 rfl) ?_
    refine lv_if_ne (tgt := 56) hx hb dX9_drawnPair_51 (by decide) (fun hc => ?_) (fun hc => ?_)
    · have h := h.2 hc
      refine lv_ldc2 (v := (1103515245 : Int64)) hx hb hown (hts _ (List.mem_cons_of_mem _ mw_667)) dX9_drawnPair_56 ?_
      refine lv_iload_n hx hb dX9_drawnPair_59 rfl (lv_at hl 2 rfl) ?_
      refine lv_i2l hx hb dX9_drawnPair_60 rfl ?_
      refine lv_lmul hx hb dX9_drawnPair_61 ?_
      refine lv_ldc2 (v := (12345 : Int64)) hx hb hown (hts _ (List.mem_cons_of_mem _ mw_668)) dX9_drawnPair_62 ?_
      refine lv_ladd hx hb dX9_drawnPair_65 ?_
      refine lv_ldc2 (v := (2147483648 : Int64)) hx hb hown (hts _ (List.mem_cons_of_mem _ mw_669)) dX9_drawnPair_66 ?_
      refine lv_lrem hx hb dX9_drawnPair_69 (by decide) ?_
      refine lv_topl (fun v1 ev1 => ?_)
      have h := h v1 ev1
      refine lv_lstore (lv' := [(5, .long v1), (0, .ref (ad 11)), (1, .long x1), (3, .int x3), (4, .int x4)]) hx hb dX9_drawnPair_70 hl (by decide) rfl (fun ls hl => ?_)
      refine lv_aload_n hx hb dX9_drawnPair_72 rfl (lv_at hl 1 rfl) ?_
      refine xg_11_3 hx hb hts hown hK hP mw_241 dX9_drawnPair_73 ?_
      refine lv_lload hx hb dX9_drawnPair_76 (lv_at hl 0 rfl) ?_
      refine lv_ldc2 (v := (256 : Int64)) hx hb hown (hts _ (List.mem_cons_of_mem _ mw_670)) dX9_drawnPair_78 ?_
      refine lv_ldiv hx hb dX9_drawnPair_81 (by decide) ?_
      refine lv_iload hx hb dX9_drawnPair_82 (lv_at hl 4 rfl) ?_
      refine lv_i2l hx hb dX9_drawnPair_84 rfl ?_
      refine lv_lrem hx hb dX9_drawnPair_85 h.1 ?_
      have h := h.2
      refine lv_l2i hx hb dX9_drawnPair_86 rfl ?_
      refine xa_56 hx hb hK hP h.1 rfl dX9_drawnPair_87 ?_
      have h := h.2
      exact zret_i hx hb hr hlocks hK hP hD hS h dX9_drawnPair_88
    · have h := h.1 hc
      refine lv_iconst (v := (-1 : Int32)) hx hb dX9_drawnPair_54 (by decide) ?_
      exact zret_i hx hb hr hlocks hK hP hD hS h dX9_drawnPair_55
  · have h := h.2 hc
    refine lv_aload_n hx hb dX9_drawnPair_18 rfl (lv_at hl 0 rfl) ?_
    refine xg_11_1 hx hb hts hown hK hP mw_239 dX9_drawnPair_19 ?_
    refine lv_lload_n hx hb dX9_drawnPair_22 rfl (lv_at hl 1 rfl) ?_
    refine lv_iload hx hb dX9_drawnPair_23 (lv_at hl 4 rfl) ?_
    refine k_X0_moves N ⟨hx, hb, hml, hown, hts⟩ mw_662 ⟨Nat.le_of_ble_eq_true rfl, Nat.le_of_ble_eq_true rfl⟩ h hK hP hD hS hl.1 (rest := []) (Nat.le_of_ble_eq_true rfl) ⟨Nat.le_of_ble_eq_true rfl, Nat.le_of_ble_eq_true rfl⟩ dX9_drawnPair_25 (fun r2 τ3 H locs h hP hD hS => ?_)
    refine lv_if_eq (tgt := 43) hx hb dX9_drawnPair_28 (by decide) (fun hc => ?_) (fun hc => ?_)
    · have h := h.1 hc
      obtain ⟨v4, ev4⟩ : ∃ z : Int32, z = x5 + (1 : Int32) := ⟨_, rfl⟩
      have h := h v4 ev4
      refine lv_iinc (v := v4) (lv' := [(5, .int v4), (0, .ref (ad 11)), (1, .long x1), (3, .int x3), (4, .int x4)]) hx hb dX9_drawnPair_43 hl (k := 4) rfl (by rw [ev4]; rfl) (by decide) rfl (fun ls hl => ?_)
      refine lv_goto (tgt := 6) hx hb dX9_drawnPair_46 (by decide) ?_
      exact hk_6 x1 x3 x4 v4 τ3 _ _ _ h hP hD hS (lv_sub hl [1, 2, 3, 4, 0] rfl)
    · have h := h.2 hc
      refine lv_aload_n hx hb dX9_drawnPair_31 rfl (lv_at hl 0 rfl) ?_
      refine xg_11_3 hx hb hts hown hK hP mw_241 dX9_drawnPair_32 ?_
      refine lv_iload hx hb dX9_drawnPair_35 (lv_at hl 3 rfl) ?_
      refine lv_iload hx hb dX9_drawnPair_37 (lv_at hl 4 rfl) ?_
      refine xs_56 hx hb hK hP hD hS h.1 rfl dX9_drawnPair_39 (fun τ5 H locs eτ5 hP hD hS => ?_)
      have h := h.2
      have h := h τ5 eτ5
      obtain ⟨v6, ev6⟩ : ∃ z : Int32, z = x4 + (1 : Int32) := ⟨_, rfl⟩
      have h := h v6 ev6
      refine lv_iinc (v := v6) (lv' := [(4, .int v6), (0, .ref (ad 11)), (1, .long x1), (3, .int x3), (5, .int x5)]) hx hb dX9_drawnPair_40 hl (k := 3) rfl (by rw [ev6]; rfl) (by decide) rfl (fun ls hl => ?_)
      obtain ⟨v7, ev7⟩ : ∃ z : Int32, z = x5 + (1 : Int32) := ⟨_, rfl⟩
      have h := h v7 ev7
      refine lv_iinc (v := v7) (lv' := [(5, .int v7), (4, .int v6), (0, .ref (ad 11)), (1, .long x1), (3, .int x3)]) hx hb dX9_drawnPair_43 hl (k := 4) rfl (by rw [ev7]; rfl) (by decide) rfl (fun ls hl => ?_)
      refine lv_goto (tgt := 6) hx hb dX9_drawnPair_46 (by decide) ?_
      exact hk_6 x1 x3 v6 v7 τ5 _ _ _ h hP hD hS (lv_sub hl [2, 3, 4, 1, 0] rfl)
set_option maxHeartbeats 4000000 in
set_option maxRecDepth 100000 in
theorem t_X9_drawnPair_6 (C0 : zCx p s m meth c args RX9 cX9_drawnPair 7 (some .int) vs_X9_drawnPair) (hK : va_K (dC, dI) vwCl (x_ty cI cJ) s) (N : Nat) {Q : Int32 → zSt → Prop} : ∀ (f : Nat) (x1 : Int64) (x3 : Int32) (x4 : Int32) (x5 : Int32) (σ : zSt) (H : Heap) (locs : List Loc) (ls : Array Slot), w_X9_drawnPair_6 N  Q f x1 x3 x4 x5 σ → va_P (dC, dI) vwCl (x_W ad cI cJ σ) H → va_D (zAW x_n ad s.heap.size) (x_W ad cI cJ σ) → va_S (zAW x_n ad s.heap.size) s.heap H locs → lv_has ls 7 [(0, .ref (ad 11)), (1, .long x1), (3, .int x3), (4, .int x4), (5, .int x5)] → W p l e rm_X9_drawnPair s m args below meth c H locs 0 0 (MQ below (zQi (dC, dI) (x_ty cI cJ) (x_W ad cI cJ) (zAW x_n ad s.heap.size) Q) args s 0 0 (zAW x_n ad s.heap.size)) (F0 m 6 ls []) := by
  intro f
  induction f with
  | zero => intro x1 x3 x4 x5 σ H locs ls h; exact h.elim
  | succ f ih =>
    intro x1 x3 x4 x5 σ H locs ls h hP hD hS hl
    exact tb_X9_drawnPair_6 C0 hK N  (k_6 := w_X9_drawnPair_6 N  Q f) ih x1 x3 x4 x5 σ H locs ls h hP hD hS hl
set_option maxHeartbeats 4000000 in
set_option maxRecDepth 100000 in
theorem t_X9_drawnPair_0 (C0 : zCx p s m meth c args RX9 cX9_drawnPair 7 (some .int) vs_X9_drawnPair) (hK : va_K (dC, dI) vwCl (x_ty cI cJ) s) (N : Nat) {Q : Int32 → zSt → Prop} : ∀ (x1 : Int64) (x3 : Int32) (σ : zSt) (H : Heap) (locs : List Loc) (ls : Array Slot), w_X9_drawnPair N x1 x3 σ Q → va_P (dC, dI) vwCl (x_W ad cI cJ σ) H → va_D (zAW x_n ad s.heap.size) (x_W ad cI cJ σ) → va_S (zAW x_n ad s.heap.size) s.heap H locs → lv_has ls 7 [(0, .ref (ad 11)), (1, .long x1), (3, .int x3)] → W p l e rm_X9_drawnPair s m args below meth c H locs 0 0 (MQ below (zQi (dC, dI) (x_ty cI cJ) (x_W ad cI cJ) (zAW x_n ad s.heap.size) Q) args s 0 0 (zAW x_n ad s.heap.size)) (F0 m 0 ls []) := by
  obtain ⟨hx, hb, hml, hr, hown, hts, hlocks⟩ := id C0
  intro x1 x3 σ H locs ls h hP hD hS hl
  unfold w_X9_drawnPair at h
  refine lv_iconst (v := (0 : Int32)) hx hb dX9_drawnPair_0 (by decide) ?_
  refine lv_istore (lv' := [(4, .int (0 : Int32)), (0, .ref (ad 11)), (1, .long x1), (3, .int x3)]) hx hb dX9_drawnPair_1 hl (by decide) rfl (fun ls hl => ?_)
  refine lv_iconst (v := (0 : Int32)) hx hb dX9_drawnPair_3 (by decide) ?_
  refine lv_istore (lv' := [(5, .int (0 : Int32)), (4, .int (0 : Int32)), (0, .ref (ad 11)), (1, .long x1), (3, .int x3)]) hx hb dX9_drawnPair_4 hl (by decide) rfl (fun ls hl => ?_)
  exact t_X9_drawnPair_6 C0 hK N  N x1 x3 (0 : Int32) (0 : Int32) σ _ _ _ h hP hD hS (lv_sub hl [2, 3, 4, 1, 0] rfl)
set_option maxHeartbeats 4000000 in
set_option maxRecDepth 100000 in
theorem c_X9_drawnPair (N : Nat) (l : Launch) (dC : Nat → ClassId) (dI : Nat → Nat → Nat) (ad : Nat → Nat) (cI cJ : ClassId) (sz : Nat) (σ : zSt) (x1 : Int64) (x3 : Int32) (Q : Int32 → zSt → Prop) (h : w_X9_drawnPair N x1 x3 σ Q) : Met l yX9_drawnPair vs_X9_drawnPair rm_X9_drawnPair (va_Pc [.ref (ad 11), .long x1, .int x3] (zPc (dC, dI) (x_ty cI cJ) (x_W ad cI cJ) sz σ)) (zQi (dC, dI) (x_ty cI cJ) (x_W ad cI cJ) (zAW x_n ad sz) Q) 0 0 (zAW x_n ad sz) := by
  refine Met.ofW (cc := cX9_drawnPair) (maxL := 7) (ret := (some .int)) (by decide) rfl ?_
  intro p e s m args below meth c s₁ B hml hv
  obtain ⟨rfl, hsz, hP, hK, hD0⟩ := hv
  subst hsz
  have C0 : zCx p s m meth c _ RX9 cX9_drawnPair 7 (some .int) vs_X9_drawnPair := ⟨B.exec, B.bytes, hml, B.returns, findClass_of_methodNamed B.named, atoms_spec (ws := vs_X9_drawnPair) B.pre, B.notSynchronized⟩
  have hD := x_D0 (n0 := s.heap.size) hD0
  have hl := lv_entry ([.ref (ad 11), .long x1, .int x3]) (n := 7) (Nat.le_of_ble_eq_true rfl)
  rw [lg_entry_eq]
  generalize (lg_sl ([.ref (ad 11), .long x1, .int x3]) ++ List.replicate (7 - (lg_sl ([.ref (ad 11), .long x1, .int x3])).length) Slot.unset).toArray = ls at hl ⊢
  exact t_X9_drawnPair_0 C0 hK N x1 x3 σ _ _ ls h hP hD va_S.rf hl
theorem k_X9_drawnPair (N : Nat) {R : Room} {H : Heap} {locs : List Loc} {cells slots : Nat} {Q2 : State → Prop} {cc : ByteArray} {nL pc index : Nat} {ls : Array Slot} {rest : List Value} {own : String} {c0 : Cond} {σ : zSt} {x1 : Int64} {x3 : Int32} {Q : Int32 → zSt → Prop} (S0 : CallFix p m c cc nL s args (c0 :: zT) own) (hml : Cond.methodLink own index yX9_drawnPair ∈ zT) (hR : rm_X9_drawnPair.frames + 1 ≤ R.frames ∧ 8 + (7 + 11) + rm_X9_drawnPair.locals ≤ R.locals) (h : w_X9_drawnPair N x1 x3 σ Q) (hK : va_K (dC, dI) vwCl (x_ty cI cJ) s) (hP : va_P (dC, dI) vwCl (x_W ad cI cJ σ) H) (hD : va_D (zAW x_n ad s.heap.size) (x_W ad cI cJ σ)) (hS : va_S (zAW x_n ad s.heap.size) s.heap H locs) (hsz : ls.size = nL) (hW : (rest.map fun v => v.category).sum ≤ 8) (hcs : cells ≤ R.cells ∧ slots ≤ R.slots) (hdg : decode cc pc = .ok (.invokevirtual index, 3)) (kk : ∀ (r : Int32) (τ : zSt) (H1 : Heap) (locs1 : List Loc), Q r τ → va_P (dC, dI) vwCl (x_W ad cI cJ τ) H1 → va_D (zAW x_n ad s.heap.size) (x_W ad cI cJ τ) → va_S (zAW x_n ad s.heap.size) s.heap H1 locs1 → W p l e R s m args below meth c H1 locs1 cells slots Q2 (F0 m (pc + 3) ls (.int r :: rest))) : W p l e R s m args below meth c H locs cells slots Q2 (F0 m pc ls (.int x3 :: .long x1 :: .ref (ad 11) :: rest)) :=
  zcv_i (T := TX9) (N' := 7) (k := 11) (ci := 9) (fs := x_f11 ad σ) [.long x1, .int x3] S0 (c_X9_drawnPair N l dC dI ad cI cJ H.size σ x1 x3 Q h) (cw_X9_drawnPair S0.2.2.2.2 hml rfl rfl hR) rfl rfl hK hP hD hS rfl hsz hW rfl hcs hdg kk
end q09
section q09
def b_X9_firstPair_2 (N : Nat) (k_2 : Int64 → Int32 → zSt → Prop) (Q : Int32 → zSt → Prop) (x1 : Int64) (x3 : Int32) (σ : zSt) : Prop :=
  ((σ.1 2) ≤ x3 → Q (-1 : Int32) σ) ∧ (¬ (σ.1 2) ≤ x3 → w_X0_moves N x1 x3 σ (fun r1 τ2 => (r1 = 0 → ∀ v3 : Int32, v3 = x3 + (1 : Int32) → k_2 x1 v3 τ2) ∧ (¬ r1 = 0 → Q x3 τ2)))
def w_X9_firstPair_2 (N : Nat) (Q : Int32 → zSt → Prop) : Nat → Int64 → Int32 → zSt → Prop
  | 0 => fun _ _ _ => False
  | f + 1 => b_X9_firstPair_2 N (w_X9_firstPair_2 N  Q f) Q
def w_X9_firstPair (N : Nat) (x1 : Int64) (σ : zSt) (Q : Int32 → zSt → Prop) : Prop :=
  w_X9_firstPair_2 N Q N x1 (0 : Int32) σ
variable {p : Program} {l : Launch} {e : Env} {s : State} {m : MethodId} {args : Array Value} {below : List Frame} {meth : Method} {c : Code} {dC : Nat → ClassId} {dI : Nat → Nat → Nat} {ad : Nat → Nat} {cI cJ : ClassId}
set_option maxHeartbeats 4000000 in
set_option maxRecDepth 100000 in
theorem tb_X9_firstPair_2 (C0 : zCx p s m meth c args RX9 cX9_firstPair 4 (some .int) vs_X9_firstPair) (hK : va_K (dC, dI) vwCl (x_ty cI cJ) s) (N : Nat) {Q : Int32 → zSt → Prop} {k_2 : Int64 → Int32 → zSt → Prop} (hk_2 : ∀ (x1 : Int64) (x3 : Int32) (σ : zSt) (H : Heap) (locs : List Loc) (ls : Array Slot), k_2 x1 x3 σ → va_P (dC, dI) vwCl (x_W ad cI cJ σ) H → va_D (zAW x_n ad s.heap.size) (x_W ad cI cJ σ) → va_S (zAW x_n ad s.heap.size) s.heap H locs → lv_has ls 4 [(0, .ref (ad 11)), (1, .long x1), (3, .int x3)] → W p l e rm_X9_firstPair s m args below meth c H locs 0 0 (MQ below (zQi (dC, dI) (x_ty cI cJ) (x_W ad cI cJ) (zAW x_n ad s.heap.size) Q) args s 0 0 (zAW x_n ad s.heap.size)) (F0 m 2 ls [])) : ∀ (x1 : Int64) (x3 : Int32) (σ : zSt) (H : Heap) (locs : List Loc) (ls : Array Slot), b_X9_firstPair_2 N k_2 Q x1 x3 σ → va_P (dC, dI) vwCl (x_W ad cI cJ σ) H → va_D (zAW x_n ad s.heap.size) (x_W ad cI cJ σ) → va_S (zAW x_n ad s.heap.size) s.heap H locs → lv_has ls 4 [(0, .ref (ad 11)), (1, .long x1), (3, .int x3)] → W p l e rm_X9_firstPair s m args below meth c H locs 0 0 (MQ below (zQi (dC, dI) (x_ty cI cJ) (x_W ad cI cJ) (zAW x_n ad s.heap.size) Q) args s 0 0 (zAW x_n ad s.heap.size)) (F0 m 2 ls []) := by
  obtain ⟨hx, hb, hml, hr, hown, hts, hlocks⟩ := id C0
  intro x1 x3 σ H locs ls h hP hD hS hl
  unfold b_X9_firstPair_2 at h
  refine lv_iload_n hx hb dX9_firstPair_2 rfl (lv_at hl 2 rfl) ?_
  refine lv_aload_n hx hb dX9_firstPair_3 rfl (lv_at hl 0 rfl) ?_
  refine xg_11_0 hx hb hts hown hK hP mw_238 dX9_firstPair_4 ?_
  refine xg_3_5 hx hb hts hown hK hP mw_79 dX9_firstPair_7 ?_
  refine lv_icmp_ge (tgt := 33) hx hb dX9_firstPair_10 (by decide) (fun hc => ?_) (fun hc => ?_)
  · have h := h.1 hc
    refine lv_iconst (v := (-1 : Int32)) hx hb dX9_firstPair_33 (by decide) ?_
    exact zret_i hx hb hr hlocks hK hP hD hS h dX9_firstPair_34
  · have h := h.2 hc
    refine lv_aload_n hx hb dX9_firstPair_13 rfl (lv_at hl 0 rfl) ?_
    refine xg_11_1 hx hb hts hown hK hP mw_239 dX9_firstPair_14 ?_
    refine lv_lload_n hx hb dX9_firstPair_17 rfl (lv_at hl 1 rfl) ?_
    refine lv_iload_n hx hb dX9_firstPair_18 rfl (lv_at hl 2 rfl) ?_
    refine k_X0_moves N ⟨hx, hb, hml, hown, hts⟩ mw_662 ⟨Nat.le_of_ble_eq_true rfl, Nat.le_of_ble_eq_true rfl⟩ h hK hP hD hS hl.1 (rest := []) (Nat.le_of_ble_eq_true rfl) ⟨Nat.le_of_ble_eq_true rfl, Nat.le_of_ble_eq_true rfl⟩ dX9_firstPair_19 (fun r1 τ2 H locs h hP hD hS => ?_)
    refine lv_if_eq (tgt := 27) hx hb dX9_firstPair_22 (by decide) (fun hc => ?_) (fun hc => ?_)
    · have h := h.1 hc
      obtain ⟨v3, ev3⟩ : ∃ z : Int32, z = x3 + (1 : Int32) := ⟨_, rfl⟩
      have h := h v3 ev3
      refine lv_iinc (v := v3) (lv' := [(3, .int v3), (0, .ref (ad 11)), (1, .long x1)]) hx hb dX9_firstPair_27 hl (k := 2) rfl (by rw [ev3]; rfl) (by decide) rfl (fun ls hl => ?_)
      refine lv_goto (tgt := 2) hx hb dX9_firstPair_30 (by decide) ?_
      exact hk_2 x1 v3 τ2 _ _ _ h hP hD hS (lv_sub hl [1, 2, 0] rfl)
    · have h := h.2 hc
      refine lv_iload_n hx hb dX9_firstPair_25 rfl (lv_at hl 2 rfl) ?_
      exact zret_i hx hb hr hlocks hK hP hD hS h dX9_firstPair_26
set_option maxHeartbeats 4000000 in
set_option maxRecDepth 100000 in
theorem t_X9_firstPair_2 (C0 : zCx p s m meth c args RX9 cX9_firstPair 4 (some .int) vs_X9_firstPair) (hK : va_K (dC, dI) vwCl (x_ty cI cJ) s) (N : Nat) {Q : Int32 → zSt → Prop} : ∀ (f : Nat) (x1 : Int64) (x3 : Int32) (σ : zSt) (H : Heap) (locs : List Loc) (ls : Array Slot), w_X9_firstPair_2 N  Q f x1 x3 σ → va_P (dC, dI) vwCl (x_W ad cI cJ σ) H → va_D (zAW x_n ad s.heap.size) (x_W ad cI cJ σ) → va_S (zAW x_n ad s.heap.size) s.heap H locs → lv_has ls 4 [(0, .ref (ad 11)), (1, .long x1), (3, .int x3)] → W p l e rm_X9_firstPair s m args below meth c H locs 0 0 (MQ below (zQi (dC, dI) (x_ty cI cJ) (x_W ad cI cJ) (zAW x_n ad s.heap.size) Q) args s 0 0 (zAW x_n ad s.heap.size)) (F0 m 2 ls []) := by
  intro f
  induction f with
  | zero => intro x1 x3 σ H locs ls h; exact h.elim
  | succ f ih =>
    intro x1 x3 σ H locs ls h hP hD hS hl
    exact tb_X9_firstPair_2 C0 hK N  (k_2 := w_X9_firstPair_2 N  Q f) ih x1 x3 σ H locs ls h hP hD hS hl
set_option maxHeartbeats 4000000 in
set_option maxRecDepth 100000 in
theorem t_X9_firstPair_0 (C0 : zCx p s m meth c args RX9 cX9_firstPair 4 (some .int) vs_X9_firstPair) (hK : va_K (dC, dI) vwCl (x_ty cI cJ) s) (N : Nat) {Q : Int32 → zSt → Prop} : ∀ (x1 : Int64) (σ : zSt) (H : Heap) (locs : List Loc) (ls : Array Slot), w_X9_firstPair N x1 σ Q → va_P (dC, dI) vwCl (x_W ad cI cJ σ) H → va_D (zAW x_n ad s.heap.size) (x_W ad cI cJ σ) → va_S (zAW x_n ad s.heap.size) s.heap H locs → lv_has ls 4 [(0, .ref (ad 11)), (1, .long x1)] → W p l e rm_X9_firstPair s m args below meth c H locs 0 0 (MQ below (zQi (dC, dI) (x_ty cI cJ) (x_W ad cI cJ) (zAW x_n ad s.heap.size) Q) args s 0 0 (zAW x_n ad s.heap.size)) (F0 m 0 ls []) := by
  obtain ⟨hx, hb, hml, hr, hown, hts, hlocks⟩ := id C0
  intro x1 σ H locs ls h hP hD hS hl
  unfold w_X9_firstPair at h
  refine lv_iconst (v := (0 : Int32)) hx hb dX9_firstPair_0 (by decide) ?_
  refine lv_istore_n (lv' := [(3, .int (0 : Int32)), (0, .ref (ad 11)), (1, .long x1)]) hx hb dX9_firstPair_1 rfl hl (by decide) rfl (fun ls hl => ?_)
  exact t_X9_firstPair_2 C0 hK N  N x1 (0 : Int32) σ _ _ _ h hP hD hS (lv_sub hl [1, 2, 0] rfl)
set_option maxHeartbeats 4000000 in
set_option maxRecDepth 100000 in
theorem c_X9_firstPair (N : Nat) (l : Launch) (dC : Nat → ClassId) (dI : Nat → Nat → Nat) (ad : Nat → Nat) (cI cJ : ClassId) (sz : Nat) (σ : zSt) (x1 : Int64) (Q : Int32 → zSt → Prop) (h : w_X9_firstPair N x1 σ Q) : Met l yX9_firstPair vs_X9_firstPair rm_X9_firstPair (va_Pc [.ref (ad 11), .long x1] (zPc (dC, dI) (x_ty cI cJ) (x_W ad cI cJ) sz σ)) (zQi (dC, dI) (x_ty cI cJ) (x_W ad cI cJ) (zAW x_n ad sz) Q) 0 0 (zAW x_n ad sz) := by
  refine Met.ofW (cc := cX9_firstPair) (maxL := 4) (ret := (some .int)) (by decide) rfl ?_
  intro p e s m args below meth c s₁ B hml hv
  obtain ⟨rfl, hsz, hP, hK, hD0⟩ := hv
  subst hsz
  have C0 : zCx p s m meth c _ RX9 cX9_firstPair 4 (some .int) vs_X9_firstPair := ⟨B.exec, B.bytes, hml, B.returns, findClass_of_methodNamed B.named, atoms_spec (ws := vs_X9_firstPair) B.pre, B.notSynchronized⟩
  have hD := x_D0 (n0 := s.heap.size) hD0
  have hl := lv_entry ([.ref (ad 11), .long x1]) (n := 4) (Nat.le_of_ble_eq_true rfl)
  rw [lg_entry_eq]
  generalize (lg_sl ([.ref (ad 11), .long x1]) ++ List.replicate (4 - (lg_sl ([.ref (ad 11), .long x1])).length) Slot.unset).toArray = ls at hl ⊢
  exact t_X9_firstPair_0 C0 hK N x1 σ _ _ ls h hP hD va_S.rf hl
theorem k_X9_firstPair (N : Nat) {R : Room} {H : Heap} {locs : List Loc} {cells slots : Nat} {Q2 : State → Prop} {cc : ByteArray} {nL pc index : Nat} {ls : Array Slot} {rest : List Value} {own : String} {c0 : Cond} {σ : zSt} {x1 : Int64} {Q : Int32 → zSt → Prop} (S0 : CallFix p m c cc nL s args (c0 :: zT) own) (hml : Cond.methodLink own index yX9_firstPair ∈ zT) (hR : rm_X9_firstPair.frames + 1 ≤ R.frames ∧ 8 + (4 + 11) + rm_X9_firstPair.locals ≤ R.locals) (h : w_X9_firstPair N x1 σ Q) (hK : va_K (dC, dI) vwCl (x_ty cI cJ) s) (hP : va_P (dC, dI) vwCl (x_W ad cI cJ σ) H) (hD : va_D (zAW x_n ad s.heap.size) (x_W ad cI cJ σ)) (hS : va_S (zAW x_n ad s.heap.size) s.heap H locs) (hsz : ls.size = nL) (hW : (rest.map fun v => v.category).sum ≤ 8) (hcs : cells ≤ R.cells ∧ slots ≤ R.slots) (hdg : decode cc pc = .ok (.invokevirtual index, 3)) (kk : ∀ (r : Int32) (τ : zSt) (H1 : Heap) (locs1 : List Loc), Q r τ → va_P (dC, dI) vwCl (x_W ad cI cJ τ) H1 → va_D (zAW x_n ad s.heap.size) (x_W ad cI cJ τ) → va_S (zAW x_n ad s.heap.size) s.heap H1 locs1 → W p l e R s m args below meth c H1 locs1 cells slots Q2 (F0 m (pc + 3) ls (.int r :: rest))) : W p l e R s m args below meth c H locs cells slots Q2 (F0 m pc ls (.long x1 :: .ref (ad 11) :: rest)) :=
  zcv_i (T := TX9) (N' := 7) (k := 11) (ci := 9) (fs := x_f11 ad σ) [.long x1] S0 (c_X9_firstPair N l dC dI ad cI cJ H.size σ x1 Q h) (cw_X9_firstPair S0.2.2.2.2 hml rfl rfl hR) rfl rfl hK hP hD hS rfl hsz hW rfl hcs hdg kk
end q09
section q09
def b_X11_step_39 (N : Nat) (Q : Int32 → zSt → Prop) (s0 : Int32) (σ : zSt) : Prop :=
  (s0 = (-1 : Int32) → Q s0 σ) ∧ (¬ s0 = (-1 : Int32) → ∀ τ1 : zSt, τ1 = zJ σ 0 ((σ.2.1 0) ^^^ ((1 : Int64) <<< (s0.toInt64 &&& 63))) → Q s0 τ1)
def w_X11_step (N : Nat) (x1 : Int32) (σ : zSt) (Q : Int32 → zSt → Prop) : Prop :=
  ((-1 : Int32) ≤ x1 → (x1 = (-1 : Int32) → w_X9_firstPair N (σ.2.1 0) σ (fun r3 τ4 => b_X11_step_39 N Q r3 τ4)) ∧ (¬ x1 = (-1 : Int32) → w_X9_drawnPair N (σ.2.1 0) x1 σ (fun r1 τ2 => b_X11_step_39 N Q r1 τ2))) ∧ (¬ (-1 : Int32) ≤ x1 → Q (-2 : Int32) σ)
variable {p : Program} {l : Launch} {e : Env} {s : State} {m : MethodId} {args : Array Value} {below : List Frame} {meth : Method} {c : Code} {dC : Nat → ClassId} {dI : Nat → Nat → Nat} {ad : Nat → Nat} {cI cJ : ClassId}
set_option maxHeartbeats 4000000 in
set_option maxRecDepth 100000 in
theorem t_X11_step_39 (C0 : zCx p s m meth c args RX11 cX11_step 3 (some .int) vs_X11_step) (hK : va_K (dC, dI) vwCl (x_ty cI cJ) s) (N : Nat) {Q : Int32 → zSt → Prop} : ∀ (s0 : Int32) (σ : zSt) (H : Heap) (locs : List Loc) (ls : Array Slot), b_X11_step_39 N  Q s0 σ → va_P (dC, dI) vwCl (x_W ad cI cJ σ) H → va_D (zAW x_n ad s.heap.size) (x_W ad cI cJ σ) → va_S (zAW x_n ad s.heap.size) s.heap H locs → lv_has ls 3 [(0, .ref (ad 0))] → W p l e rm_X11_step s m args below meth c H locs 0 0 (MQ below (zQi (dC, dI) (x_ty cI cJ) (x_W ad cI cJ) (zAW x_n ad s.heap.size) Q) args s 0 0 (zAW x_n ad s.heap.size)) (F0 m 39 ls [.int s0]) := by
  obtain ⟨hx, hb, hml, hr, hown, hts, hlocks⟩ := id C0
  intro s0 σ H locs ls h hP hD hS hl
  unfold b_X11_step_39 at h
  refine lv_istore_n (lv' := [(2, .int s0), (0, .ref (ad 0))]) hx hb dX11_step_39 rfl hl (by decide) rfl (fun ls hl => ?_)
  refine lv_iload_n hx hb dX11_step_40 rfl (lv_at hl 0 rfl) ?_
  refine lv_iconst (v := (-1 : Int32)) hx hb dX11_step_41 (by decide) ?_
  refine lv_icmp_eq (tgt := 57) hx hb dX11_step_42 (by decide) (fun hc => ?_) (fun hc => ?_)
  · have h := h.1 hc
    refine lv_iload_n hx hb dX11_step_57 rfl (lv_at hl 0 rfl) ?_
    exact zret_i hx hb hr hlocks hK hP hD hS h dX11_step_58
  · have h := h.2 hc
    refine lv_aload_n hx hb dX11_step_45 rfl (lv_at hl 1 rfl) ?_
    refine lv_dup hx hb dX11_step_46 rfl ?_
    refine xg_0_15 hx hb hts hown hK hP mw_304 dX11_step_47 ?_
    refine lv_lconst (v := (1 : Int64)) hx hb dX11_step_50 (by decide) ?_
    refine lv_iload_n hx hb dX11_step_51 rfl (lv_at hl 0 rfl) ?_
    refine lv_lshl hx hb dX11_step_52 rfl ?_
    refine lv_lxor hx hb dX11_step_53 ?_
    refine xp_0_15 hx hb hts hown hK hP hD hS mw_304 dX11_step_54 (fun τ1 H locs eτ1 hP hD hS => ?_)
    have h := h τ1 eτ1
    refine lv_iload_n hx hb dX11_step_57 rfl (lv_at hl 0 rfl) ?_
    exact zret_i hx hb hr hlocks hK hP hD hS h dX11_step_58
set_option maxHeartbeats 4000000 in
set_option maxRecDepth 100000 in
theorem t_X11_step_0 (C0 : zCx p s m meth c args RX11 cX11_step 3 (some .int) vs_X11_step) (hK : va_K (dC, dI) vwCl (x_ty cI cJ) s) (N : Nat) {Q : Int32 → zSt → Prop} : ∀ (x1 : Int32) (σ : zSt) (H : Heap) (locs : List Loc) (ls : Array Slot), w_X11_step N x1 σ Q → va_P (dC, dI) vwCl (x_W ad cI cJ σ) H → va_D (zAW x_n ad s.heap.size) (x_W ad cI cJ σ) → va_S (zAW x_n ad s.heap.size) s.heap H locs → lv_has ls 3 [(0, .ref (ad 0)), (1, .int x1)] → W p l e rm_X11_step s m args below meth c H locs 0 0 (MQ below (zQi (dC, dI) (x_ty cI cJ) (x_W ad cI cJ) (zAW x_n ad s.heap.size) Q) args s 0 0 (zAW x_n ad s.heap.size)) (F0 m 0 ls []) := by
  obtain ⟨hx, hb, hml, hr, hown, hts, hlocks⟩ := id C0
  intro x1 σ H locs ls h hP hD hS hl
  unfold w_X11_step at h
  refine lv_iload_n hx hb dX11_step_0 rfl (lv_at hl 1 rfl) ?_
  refine lv_iconst (v := (-1 : Int32)) hx hb dX11_step_1 (by decide) ?_
  refine lv_icmp_ge (tgt := 8) hx hb dX11_step_2 (by decide) (fun hc => ?_) (fun hc => ?_)
  · have h := h.1 hc
    refine lv_iload_n hx hb dX11_step_8 rfl (lv_at hl 1 rfl) ?_
    refine lv_iconst (v := (-1 : Int32)) hx hb dX11_step_9 (by decide) ?_
    refine lv_icmp_ne (tgt := 27) hx hb dX11_step_10 (by decide) (fun hc => ?_) (fun hc => ?_)
    · have h := h.2 hc
      refine lv_aload_n hx hb dX11_step_27 rfl (lv_at hl 0 rfl) ?_
      refine xg_0_7 hx hb hts hown hK hP mw_296 dX11_step_28 ?_
      refine lv_aload_n hx hb dX11_step_31 rfl (lv_at hl 0 rfl) ?_
      refine xg_0_15 hx hb hts hown hK hP mw_304 dX11_step_32 ?_
      refine lv_iload_n hx hb dX11_step_35 rfl (lv_at hl 1 rfl) ?_
      refine k_X9_drawnPair N ⟨hx, hb, hml, hown, hts⟩ mw_663 ⟨Nat.le_of_ble_eq_true rfl, Nat.le_of_ble_eq_true rfl⟩ h hK hP hD hS hl.1 (rest := []) (Nat.le_of_ble_eq_true rfl) ⟨Nat.le_of_ble_eq_true rfl, Nat.le_of_ble_eq_true rfl⟩ dX11_step_36 (fun r1 τ2 H locs h hP hD hS => ?_)
      exact t_X11_step_39 C0 hK N  r1 τ2 _ _ _ h hP hD hS (lv_sub hl [0] rfl)
    · have h := h.1 hc
      refine lv_aload_n hx hb dX11_step_13 rfl (lv_at hl 0 rfl) ?_
      refine xg_0_7 hx hb hts hown hK hP mw_296 dX11_step_14 ?_
      refine lv_aload_n hx hb dX11_step_17 rfl (lv_at hl 0 rfl) ?_
      refine xg_0_15 hx hb hts hown hK hP mw_304 dX11_step_18 ?_
      refine k_X9_firstPair N ⟨hx, hb, hml, hown, hts⟩ mw_658 ⟨Nat.le_of_ble_eq_true rfl, Nat.le_of_ble_eq_true rfl⟩ h hK hP hD hS hl.1 (rest := []) (Nat.le_of_ble_eq_true rfl) ⟨Nat.le_of_ble_eq_true rfl, Nat.le_of_ble_eq_true rfl⟩ dX11_step_21 (fun r3 τ4 H locs h hP hD hS => ?_)
      refine lv_goto (tgt := 39) hx hb dX11_step_24 (by decide) ?_
      exact t_X11_step_39 C0 hK N  r3 τ4 _ _ _ h hP hD hS (lv_sub hl [0] rfl)
  · have h := h.2 hc
    refine lv_bipush (v := (-2 : Int32)) hx hb dX11_step_5 (by decide) ?_
    exact zret_i hx hb hr hlocks hK hP hD hS h dX11_step_7
set_option maxHeartbeats 4000000 in
set_option maxRecDepth 100000 in
theorem c_X11_step (N : Nat) (l : Launch) (dC : Nat → ClassId) (dI : Nat → Nat → Nat) (ad : Nat → Nat) (cI cJ : ClassId) (sz : Nat) (σ : zSt) (x1 : Int32) (Q : Int32 → zSt → Prop) (h : w_X11_step N x1 σ Q) : Met l yX11_step vs_X11_step rm_X11_step (va_Pc [.ref (ad 0), .int x1] (zPc (dC, dI) (x_ty cI cJ) (x_W ad cI cJ) sz σ)) (zQi (dC, dI) (x_ty cI cJ) (x_W ad cI cJ) (zAW x_n ad sz) Q) 0 0 (zAW x_n ad sz) := by
  refine Met.ofW (cc := cX11_step) (maxL := 3) (ret := (some .int)) (by decide) rfl ?_
  intro p e s m args below meth c s₁ B hml hv
  obtain ⟨rfl, hsz, hP, hK, hD0⟩ := hv
  subst hsz
  have C0 : zCx p s m meth c _ RX11 cX11_step 3 (some .int) vs_X11_step := ⟨B.exec, B.bytes, hml, B.returns, findClass_of_methodNamed B.named, atoms_spec (ws := vs_X11_step) B.pre, B.notSynchronized⟩
  have hD := x_D0 (n0 := s.heap.size) hD0
  have hl := lv_entry ([.ref (ad 0), .int x1]) (n := 3) (Nat.le_of_ble_eq_true rfl)
  rw [lg_entry_eq]
  generalize (lg_sl ([.ref (ad 0), .int x1]) ++ List.replicate (3 - (lg_sl ([.ref (ad 0), .int x1])).length) Slot.unset).toArray = ls at hl ⊢
  exact t_X11_step_0 C0 hK N x1 σ _ _ ls h hP hD va_S.rf hl
theorem k_X11_step (N : Nat) {R : Room} {H : Heap} {locs : List Loc} {cells slots : Nat} {Q2 : State → Prop} {cc : ByteArray} {nL pc index : Nat} {ls : Array Slot} {rest : List Value} {own : String} {c0 : Cond} {σ : zSt} {x1 : Int32} {Q : Int32 → zSt → Prop} (S0 : CallFix p m c cc nL s args (c0 :: zT) own) (hml : Cond.methodLink own index yX11_step ∈ zT) (hR : rm_X11_step.frames + 1 ≤ R.frames ∧ 8 + (3 + 11) + rm_X11_step.locals ≤ R.locals) (h : w_X11_step N x1 σ Q) (hK : va_K (dC, dI) vwCl (x_ty cI cJ) s) (hP : va_P (dC, dI) vwCl (x_W ad cI cJ σ) H) (hD : va_D (zAW x_n ad s.heap.size) (x_W ad cI cJ σ)) (hS : va_S (zAW x_n ad s.heap.size) s.heap H locs) (hsz : ls.size = nL) (hW : (rest.map fun v => v.category).sum ≤ 8) (hcs : cells ≤ R.cells ∧ slots ≤ R.slots) (hdg : decode cc pc = .ok (.invokevirtual index, 3)) (kk : ∀ (r : Int32) (τ : zSt) (H1 : Heap) (locs1 : List Loc), Q r τ → va_P (dC, dI) vwCl (x_W ad cI cJ τ) H1 → va_D (zAW x_n ad s.heap.size) (x_W ad cI cJ τ) → va_S (zAW x_n ad s.heap.size) s.heap H1 locs1 → W p l e R s m args below meth c H1 locs1 cells slots Q2 (F0 m (pc + 3) ls (.int r :: rest))) : W p l e R s m args below meth c H locs cells slots Q2 (F0 m pc ls (.int x1 :: .ref (ad 0) :: rest)) :=
  zcv_i (T := TX11) (N' := 17) (k := 0) (ci := 11) (fs := x_f0 ad σ) [.int x1] S0 (c_X11_step N l dC dI ad cI cJ H.size σ x1 Q h) (cw_X11_step S0.2.2.2.2 hml rfl rfl hR) rfl rfl hK hP hD hS rfl hsz hW rfl hcs hdg kk
end q09
section q09
def b_X9_stepsSinceThere_2 (N : Nat) (k_2 : Int32 → zSt → Prop) (Q : Int32 → zSt → Prop) (x1 : Int32) (σ : zSt) : Prop :=
  ((σ.1 30) ≤ x1 → Q (0 : Int32) σ) ∧ (¬ (σ.1 30) ≤ x1 → (vp_in x1 201) ∧ ((vp_in (σ.1 30) 201) ∧ (((lg_cmp (σ.2.2.2 10 x1.toNatClampNeg) (σ.2.2.2 10 (σ.1 30).toNatClampNeg)) = 0 → Q ((σ.1 30) - x1) σ) ∧ (¬ (lg_cmp (σ.2.2.2 10 x1.toNatClampNeg) (σ.2.2.2 10 (σ.1 30).toNatClampNeg)) = 0 → ∀ v1 : Int32, v1 = x1 + (1 : Int32) → k_2 v1 σ))))
def w_X9_stepsSinceThere_2 (N : Nat) (Q : Int32 → zSt → Prop) : Nat → Int32 → zSt → Prop
  | 0 => fun _ _ => False
  | f + 1 => b_X9_stepsSinceThere_2 N (w_X9_stepsSinceThere_2 N  Q f) Q
def w_X9_stepsSinceThere (N : Nat)  (σ : zSt) (Q : Int32 → zSt → Prop) : Prop :=
  w_X9_stepsSinceThere_2 N Q N (0 : Int32) σ
variable {p : Program} {l : Launch} {e : Env} {s : State} {m : MethodId} {args : Array Value} {below : List Frame} {meth : Method} {c : Code} {dC : Nat → ClassId} {dI : Nat → Nat → Nat} {ad : Nat → Nat} {cI cJ : ClassId}
set_option maxHeartbeats 4000000 in
set_option maxRecDepth 100000 in
theorem tb_X9_stepsSinceThere_2 (C0 : zCx p s m meth c args RX9 cX9_stepsSinceThere 2 (some .int) vs_X9_stepsSinceThere) (hK : va_K (dC, dI) vwCl (x_ty cI cJ) s) (N : Nat) {Q : Int32 → zSt → Prop} {k_2 : Int32 → zSt → Prop} (hk_2 : ∀ (x1 : Int32) (σ : zSt) (H : Heap) (locs : List Loc) (ls : Array Slot), k_2 x1 σ → va_P (dC, dI) vwCl (x_W ad cI cJ σ) H → va_D (zAW x_n ad s.heap.size) (x_W ad cI cJ σ) → va_S (zAW x_n ad s.heap.size) s.heap H locs → lv_has ls 2 [(0, .ref (ad 11)), (1, .int x1)] → W p l e rm_X9_stepsSinceThere s m args below meth c H locs 0 0 (MQ below (zQi (dC, dI) (x_ty cI cJ) (x_W ad cI cJ) (zAW x_n ad s.heap.size) Q) args s 0 0 (zAW x_n ad s.heap.size)) (F0 m 2 ls [])) : ∀ (x1 : Int32) (σ : zSt) (H : Heap) (locs : List Loc) (ls : Array Slot), b_X9_stepsSinceThere_2 N k_2 Q x1 σ → va_P (dC, dI) vwCl (x_W ad cI cJ σ) H → va_D (zAW x_n ad s.heap.size) (x_W ad cI cJ σ) → va_S (zAW x_n ad s.heap.size) s.heap H locs → lv_has ls 2 [(0, .ref (ad 11)), (1, .int x1)] → W p l e rm_X9_stepsSinceThere s m args below meth c H locs 0 0 (MQ below (zQi (dC, dI) (x_ty cI cJ) (x_W ad cI cJ) (zAW x_n ad s.heap.size) Q) args s 0 0 (zAW x_n ad s.heap.size)) (F0 m 2 ls []) := by
  obtain ⟨hx, hb, hml, hr, hown, hts, hlocks⟩ := id C0
  intro x1 σ H locs ls h hP hD hS hl
  unfold b_X9_stepsSinceThere_2 at h
  refine lv_iload_n hx hb dX9_stepsSinceThere_2 rfl (lv_at hl 1 rfl) ?_
  refine lv_aload_n hx hb dX9_stepsSinceThere_3 rfl (lv_at hl 0 rfl) ?_
  refine xg_11_4 hx hb hts hown hK hP mw_242 dX9_stepsSinceThere_4 ?_
  refine lv_icmp_ge (tgt := 42) hx hb dX9_stepsSinceThere_7 (by decide) (fun hc => ?_) (fun hc => ?_)
  · have h := h.1 hc
    refine lv_iconst (v := (0 : Int32)) hx hb dX9_stepsSinceThere_42 (by decide) ?_
    exact zret_i hx hb hr hlocks hK hP hD hS h dX9_stepsSinceThere_43
  · have h := h.2 hc
    refine lv_aload_n hx hb dX9_stepsSinceThere_10 rfl (lv_at hl 0 rfl) ?_
    refine xg_11_2 hx hb hts hown hK hP mw_240 dX9_stepsSinceThere_11 ?_
    refine lv_iload_n hx hb dX9_stepsSinceThere_14 rfl (lv_at hl 1 rfl) ?_
    refine xa_55 hx hb hK hP h.1 rfl dX9_stepsSinceThere_15 ?_
    have h := h.2
    refine lv_aload_n hx hb dX9_stepsSinceThere_16 rfl (lv_at hl 0 rfl) ?_
    refine xg_11_2 hx hb hts hown hK hP mw_240 dX9_stepsSinceThere_17 ?_
    refine lv_aload_n hx hb dX9_stepsSinceThere_20 rfl (lv_at hl 0 rfl) ?_
    refine xg_11_4 hx hb hts hown hK hP mw_242 dX9_stepsSinceThere_21 ?_
    refine xa_55 hx hb hK hP h.1 rfl dX9_stepsSinceThere_24 ?_
    have h := h.2
    refine W.lcmp hx hb dX9_stepsSinceThere_25 ?_
    refine lv_if_ne (tgt := 36) hx hb dX9_stepsSinceThere_26 (by decide) (fun hc => ?_) (fun hc => ?_)
    · have h := h.2 hc
      obtain ⟨v1, ev1⟩ : ∃ z : Int32, z = x1 + (1 : Int32) := ⟨_, rfl⟩
      have h := h v1 ev1
      refine lv_iinc (v := v1) (lv' := [(1, .int v1), (0, .ref (ad 11))]) hx hb dX9_stepsSinceThere_36 hl (k := 1) rfl (by rw [ev1]; rfl) (by decide) rfl (fun ls hl => ?_)
      refine lv_goto (tgt := 2) hx hb dX9_stepsSinceThere_39 (by decide) ?_
      exact hk_2 v1 σ _ _ _ h hP hD hS (lv_sub hl [1, 0] rfl)
    · have h := h.1 hc
      refine lv_aload_n hx hb dX9_stepsSinceThere_29 rfl (lv_at hl 0 rfl) ?_
      refine xg_11_4 hx hb hts hown hK hP mw_242 dX9_stepsSinceThere_30 ?_
      refine lv_iload_n hx hb dX9_stepsSinceThere_33 rfl (lv_at hl 1 rfl) ?_
      refine lv_isub hx hb dX9_stepsSinceThere_34 ?_
      exact zret_i hx hb hr hlocks hK hP hD hS h dX9_stepsSinceThere_35
set_option maxHeartbeats 4000000 in
set_option maxRecDepth 100000 in
theorem t_X9_stepsSinceThere_2 (C0 : zCx p s m meth c args RX9 cX9_stepsSinceThere 2 (some .int) vs_X9_stepsSinceThere) (hK : va_K (dC, dI) vwCl (x_ty cI cJ) s) (N : Nat) {Q : Int32 → zSt → Prop} : ∀ (f : Nat) (x1 : Int32) (σ : zSt) (H : Heap) (locs : List Loc) (ls : Array Slot), w_X9_stepsSinceThere_2 N  Q f x1 σ → va_P (dC, dI) vwCl (x_W ad cI cJ σ) H → va_D (zAW x_n ad s.heap.size) (x_W ad cI cJ σ) → va_S (zAW x_n ad s.heap.size) s.heap H locs → lv_has ls 2 [(0, .ref (ad 11)), (1, .int x1)] → W p l e rm_X9_stepsSinceThere s m args below meth c H locs 0 0 (MQ below (zQi (dC, dI) (x_ty cI cJ) (x_W ad cI cJ) (zAW x_n ad s.heap.size) Q) args s 0 0 (zAW x_n ad s.heap.size)) (F0 m 2 ls []) := by
  intro f
  induction f with
  | zero => intro x1 σ H locs ls h; exact h.elim
  | succ f ih =>
    intro x1 σ H locs ls h hP hD hS hl
    exact tb_X9_stepsSinceThere_2 C0 hK N  (k_2 := w_X9_stepsSinceThere_2 N  Q f) ih x1 σ H locs ls h hP hD hS hl
set_option maxHeartbeats 4000000 in
set_option maxRecDepth 100000 in
theorem t_X9_stepsSinceThere_0 (C0 : zCx p s m meth c args RX9 cX9_stepsSinceThere 2 (some .int) vs_X9_stepsSinceThere) (hK : va_K (dC, dI) vwCl (x_ty cI cJ) s) (N : Nat) {Q : Int32 → zSt → Prop} : ∀  (σ : zSt) (H : Heap) (locs : List Loc) (ls : Array Slot), w_X9_stepsSinceThere N  σ Q → va_P (dC, dI) vwCl (x_W ad cI cJ σ) H → va_D (zAW x_n ad s.heap.size) (x_W ad cI cJ σ) → va_S (zAW x_n ad s.heap.size) s.heap H locs → lv_has ls 2 [(0, .ref (ad 11))] → W p l e rm_X9_stepsSinceThere s m args below meth c H locs 0 0 (MQ below (zQi (dC, dI) (x_ty cI cJ) (x_W ad cI cJ) (zAW x_n ad s.heap.size) Q) args s 0 0 (zAW x_n ad s.heap.size)) (F0 m 0 ls []) := by
  obtain ⟨hx, hb, hml, hr, hown, hts, hlocks⟩ := id C0
  intro  σ H locs ls h hP hD hS hl
  unfold w_X9_stepsSinceThere at h
  refine lv_iconst (v := (0 : Int32)) hx hb dX9_stepsSinceThere_0 (by decide) ?_
  refine lv_istore_n (lv' := [(1, .int (0 : Int32)), (0, .ref (ad 11))]) hx hb dX9_stepsSinceThere_1 rfl hl (by decide) rfl (fun ls hl => ?_)
  exact t_X9_stepsSinceThere_2 C0 hK N  N (0 : Int32) σ _ _ _ h hP hD hS (lv_sub hl [1, 0] rfl)
set_option maxHeartbeats 4000000 in
set_option maxRecDepth 100000 in
theorem c_X9_stepsSinceThere (N : Nat) (l : Launch) (dC : Nat → ClassId) (dI : Nat → Nat → Nat) (ad : Nat → Nat) (cI cJ : ClassId) (sz : Nat) (σ : zSt)  (Q : Int32 → zSt → Prop) (h : w_X9_stepsSinceThere N  σ Q) : Met l yX9_stepsSinceThere vs_X9_stepsSinceThere rm_X9_stepsSinceThere (va_Pc [.ref (ad 11)] (zPc (dC, dI) (x_ty cI cJ) (x_W ad cI cJ) sz σ)) (zQi (dC, dI) (x_ty cI cJ) (x_W ad cI cJ) (zAW x_n ad sz) Q) 0 0 (zAW x_n ad sz) := by
  refine Met.ofW (cc := cX9_stepsSinceThere) (maxL := 2) (ret := (some .int)) (by decide) rfl ?_
  intro p e s m args below meth c s₁ B hml hv
  obtain ⟨rfl, hsz, hP, hK, hD0⟩ := hv
  subst hsz
  have C0 : zCx p s m meth c _ RX9 cX9_stepsSinceThere 2 (some .int) vs_X9_stepsSinceThere := ⟨B.exec, B.bytes, hml, B.returns, findClass_of_methodNamed B.named, atoms_spec (ws := vs_X9_stepsSinceThere) B.pre, B.notSynchronized⟩
  have hD := x_D0 (n0 := s.heap.size) hD0
  have hl := lv_entry ([.ref (ad 11)]) (n := 2) (Nat.le_of_ble_eq_true rfl)
  rw [lg_entry_eq]
  generalize (lg_sl ([.ref (ad 11)]) ++ List.replicate (2 - (lg_sl ([.ref (ad 11)])).length) Slot.unset).toArray = ls at hl ⊢
  exact t_X9_stepsSinceThere_0 C0 hK N  σ _ _ ls h hP hD va_S.rf hl
theorem k_X9_stepsSinceThere (N : Nat) {R : Room} {H : Heap} {locs : List Loc} {cells slots : Nat} {Q2 : State → Prop} {cc : ByteArray} {nL pc index : Nat} {ls : Array Slot} {rest : List Value} {own : String} {c0 : Cond} {σ : zSt}  {Q : Int32 → zSt → Prop} (S0 : CallFix p m c cc nL s args (c0 :: zT) own) (hml : Cond.methodLink own index yX9_stepsSinceThere ∈ zT) (hR : rm_X9_stepsSinceThere.frames + 1 ≤ R.frames ∧ 8 + (2 + 11) + rm_X9_stepsSinceThere.locals ≤ R.locals) (h : w_X9_stepsSinceThere N  σ Q) (hK : va_K (dC, dI) vwCl (x_ty cI cJ) s) (hP : va_P (dC, dI) vwCl (x_W ad cI cJ σ) H) (hD : va_D (zAW x_n ad s.heap.size) (x_W ad cI cJ σ)) (hS : va_S (zAW x_n ad s.heap.size) s.heap H locs) (hsz : ls.size = nL) (hW : (rest.map fun v => v.category).sum ≤ 8) (hcs : cells ≤ R.cells ∧ slots ≤ R.slots) (hdg : decode cc pc = .ok (.invokevirtual index, 3)) (kk : ∀ (r : Int32) (τ : zSt) (H1 : Heap) (locs1 : List Loc), Q r τ → va_P (dC, dI) vwCl (x_W ad cI cJ τ) H1 → va_D (zAW x_n ad s.heap.size) (x_W ad cI cJ τ) → va_S (zAW x_n ad s.heap.size) s.heap H1 locs1 → W p l e R s m args below meth c H1 locs1 cells slots Q2 (F0 m (pc + 3) ls (.int r :: rest))) : W p l e R s m args below meth c H locs cells slots Q2 (F0 m pc ls (.ref (ad 11) :: rest)) :=
  zcv_i (T := TX9) (N' := 7) (k := 11) (ci := 9) (fs := x_f11 ad σ) [] S0 (c_X9_stepsSinceThere N l dC dI ad cI cJ H.size σ  Q h) (cw_X9_stepsSinceThere S0.2.2.2.2 hml rfl rfl hR) rfl rfl hK hP hD hS rfl hsz hW rfl hcs hdg kk
end q09
