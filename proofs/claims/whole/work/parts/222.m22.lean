section q22
end q22
section q22
def b_X12_findsSwap_116 (N : Nat) (k_2 : Int64 → Int32 → zSt → Prop) (k_13 : Int64 → Int32 → Int32 → zSt → Prop) (k_55 : Int64 → Int32 → Int32 → Int32 → zSt → Prop) (Q : Int32 → zSt → Prop) (x1 : Int64) (x3 : Int32) (x4 : Int32) (x5 : Int32) (s0 : Int32) (σ : zSt) : Prop :=
  ∀ v1 : Int64, v1 = (x1 &&& (((1 : Int64) <<< (x4.toInt64 &&& 63)) ^^^ (-1 : Int64))) ||| ((1 : Int64) <<< (x5.toInt64 &&& 63)) → w_X12_may N v1 σ (fun r2 τ3 => (r2 = 0 → ∀ v4 : Int32, v4 = x5 + (1 : Int32) → k_55 x1 x3 x4 v4 τ3) ∧ (¬ r2 = 0 → w_X12_gains N v1 x3 τ3 (fun r5 τ6 => (r5 = 0 → ∀ v7 : Int32, v7 = x5 + (1 : Int32) → k_55 x1 x3 x4 v7 τ6) ∧ (¬ r5 = 0 → w_X12_worthOf N v1 s0 τ6 (fun r8 τ9 => (vp_in s0 10) ∧ (((lg_cmp r8 (τ9.2.2.2 4 s0.toNatClampNeg)) < 0 → ∀ v10 : Int32, v10 = x5 + (1 : Int32) → k_55 x1 x3 x4 v10 τ9) ∧ (¬ (lg_cmp r8 (τ9.2.2.2 4 s0.toNatClampNeg)) < 0 → w_X12_finds N (3 : Int32) (((1 : Int32) <<< (x3 &&& 31)) ||| ((1 : Int32) <<< (s0 &&& 31))) v1 τ9 (fun r11 τ12 => (zb r11) ∧ Q r11 τ12))))))))
def b_X12_findsSwap_94 (N : Nat) (k_2 : Int64 → Int32 → zSt → Prop) (k_13 : Int64 → Int32 → Int32 → zSt → Prop) (k_55 : Int64 → Int32 → Int32 → Int32 → zSt → Prop) (Q : Int32 → zSt → Prop) (x1 : Int64) (x3 : Int32) (x4 : Int32) (x5 : Int32) (σ : zSt) : Prop :=
  w_X12_lowOf N x5 σ (fun r1 τ2 => (r1 = x3 → w_X12_highOf N x5 τ2 (fun r5 τ6 => b_X12_findsSwap_116 N k_2 k_13 k_55 Q x1 x3 x4 x5 r5 τ6)) ∧ (¬ r1 = x3 → w_X12_lowOf N x5 τ2 (fun r3 τ4 => b_X12_findsSwap_116 N k_2 k_13 k_55 Q x1 x3 x4 x5 r3 τ4)))
def b_X12_findsSwap_55 (N : Nat) (k_2 : Int64 → Int32 → zSt → Prop) (k_13 : Int64 → Int32 → Int32 → zSt → Prop) (k_55 : Int64 → Int32 → Int32 → Int32 → zSt → Prop) (Q : Int32 → zSt → Prop) (x1 : Int64) (x3 : Int32) (x4 : Int32) (x5 : Int32) (σ : zSt) : Prop :=
  w_X12_pairs N σ (fun r1 τ2 => (r1 ≤ x5 → ∀ v3 : Int32, v3 = x4 + (1 : Int32) → k_13 x1 x3 v3 τ2) ∧ (¬ r1 ≤ x5 → w_X12_isTied N x1 x5 τ2 (fun r4 τ5 => (r4 = 0 → w_X12_lowOf N x5 τ5 (fun r7 τ8 => (r7 = x3 → b_X12_findsSwap_94 N k_2 k_13 k_55 Q x1 x3 x4 x5 τ8) ∧ (¬ r7 = x3 → w_X12_highOf N x5 τ8 (fun r9 τ10 => (r9 = x3 → b_X12_findsSwap_94 N k_2 k_13 k_55 Q x1 x3 x4 x5 τ10) ∧ (¬ r9 = x3 → ∀ v11 : Int32, v11 = x5 + (1 : Int32) → k_55 x1 x3 x4 v11 τ10))))) ∧ (¬ r4 = 0 → ∀ v6 : Int32, v6 = x5 + (1 : Int32) → k_55 x1 x3 x4 v6 τ5))))
def w_X12_findsSwap_55 (N : Nat) (k_2 : Int64 → Int32 → zSt → Prop) (k_13 : Int64 → Int32 → Int32 → zSt → Prop) (Q : Int32 → zSt → Prop) : Nat → Int64 → Int32 → Int32 → Int32 → zSt → Prop
  | 0 => fun _ _ _ _ _ => False
  | f + 1 => b_X12_findsSwap_55 N k_2 k_13 (w_X12_findsSwap_55 N k_2 k_13 Q f) Q
def b_X12_findsSwap_13 (N : Nat) (k_2 : Int64 → Int32 → zSt → Prop) (k_13 : Int64 → Int32 → Int32 → zSt → Prop) (Q : Int32 → zSt → Prop) (x1 : Int64) (x3 : Int32) (x4 : Int32) (σ : zSt) : Prop :=
  w_X12_pairs N σ (fun r1 τ2 => (r1 ≤ x4 → ∀ v3 : Int32, v3 = x3 + (1 : Int32) → k_2 x1 v3 τ2) ∧ (¬ r1 ≤ x4 → w_X12_isTied N x1 x4 τ2 (fun r4 τ5 => (r4 = 0 → ∀ v6 : Int32, v6 = x4 + (1 : Int32) → k_13 x1 x3 v6 τ5) ∧ (¬ r4 = 0 → w_X12_lowOf N x4 τ5 (fun r7 τ8 => (r7 = x3 → w_X12_findsSwap_55 N k_2 k_13 Q N x1 x3 x4 (0 : Int32) τ8) ∧ (¬ r7 = x3 → w_X12_highOf N x4 τ8 (fun r9 τ10 => (r9 = x3 → w_X12_findsSwap_55 N k_2 k_13 Q N x1 x3 x4 (0 : Int32) τ10) ∧ (¬ r9 = x3 → ∀ v11 : Int32, v11 = x4 + (1 : Int32) → k_13 x1 x3 v11 τ10))))))))
def w_X12_findsSwap_13 (N : Nat) (k_2 : Int64 → Int32 → zSt → Prop) (Q : Int32 → zSt → Prop) : Nat → Int64 → Int32 → Int32 → zSt → Prop
  | 0 => fun _ _ _ _ => False
  | f + 1 => b_X12_findsSwap_13 N k_2 (w_X12_findsSwap_13 N k_2 Q f) Q
def b_X12_findsSwap_2 (N : Nat) (k_2 : Int64 → Int32 → zSt → Prop) (Q : Int32 → zSt → Prop) (x1 : Int64) (x3 : Int32) (σ : zSt) : Prop :=
  w_X12_many N σ (fun r1 τ2 => (r1 ≤ x3 → Q (0 : Int32) τ2) ∧ (¬ r1 ≤ x3 → w_X12_findsSwap_13 N k_2 Q N x1 x3 (0 : Int32) τ2))
def w_X12_findsSwap_2 (N : Nat) (Q : Int32 → zSt → Prop) : Nat → Int64 → Int32 → zSt → Prop
  | 0 => fun _ _ _ => False
  | f + 1 => b_X12_findsSwap_2 N (w_X12_findsSwap_2 N  Q f) Q
def w_X12_findsSwap (N : Nat) (x1 : Int64) (σ : zSt) (Q : Int32 → zSt → Prop) : Prop :=
  w_X12_findsSwap_2 N Q N x1 (0 : Int32) σ
variable {p : Program} {l : Launch} {e : Env} {s : State} {m : MethodId} {args : Array Value} {below : List Frame} {meth : Method} {c : Code} {dC : Nat → ClassId} {dI : Nat → Nat → Nat} {ad : Nat → Nat} {cI cJ cC : ClassId}
set_option maxHeartbeats 4000000 in
set_option maxRecDepth 100000 in
theorem t_X12_findsSwap_116 (C0 : zCx p s m meth c args RX12 cX12_findsSwap 9 (some .boolean) vs_X12_findsSwap) (hK : va_K (dC, dI) vwCl (m_ty cI cJ cC) s) (N : Nat) {Q : Int32 → zSt → Prop} {k_2 : Int64 → Int32 → zSt → Prop} (hk_2 : ∀ (x1 : Int64) (x3 : Int32) (σ : zSt) (H : Heap) (locs : List Loc) (ls : Array Slot), k_2 x1 x3 σ → va_P (dC, dI) vwCl (m_W ad cI cJ cC σ) H → va_D (zAW m_n ad s.heap.size) (m_W ad cI cJ cC σ) → va_S (zAW m_n ad s.heap.size) s.heap H locs → lv_has ls 9 [(0, .ref (ad 0)), (1, .long x1), (3, .int x3)] → W p l e rm_X12_findsSwap s m args below meth c H locs 0 0 (MQ below (zQi (dC, dI) (m_ty cI cJ cC) (m_W ad cI cJ cC) (zAW m_n ad s.heap.size) Q) args s 0 0 (zAW m_n ad s.heap.size)) (F0 m 2 ls [])) {k_13 : Int64 → Int32 → Int32 → zSt → Prop} (hk_13 : ∀ (x1 : Int64) (x3 : Int32) (x4 : Int32) (σ : zSt) (H : Heap) (locs : List Loc) (ls : Array Slot), k_13 x1 x3 x4 σ → va_P (dC, dI) vwCl (m_W ad cI cJ cC σ) H → va_D (zAW m_n ad s.heap.size) (m_W ad cI cJ cC σ) → va_S (zAW m_n ad s.heap.size) s.heap H locs → lv_has ls 9 [(0, .ref (ad 0)), (1, .long x1), (3, .int x3), (4, .int x4)] → W p l e rm_X12_findsSwap s m args below meth c H locs 0 0 (MQ below (zQi (dC, dI) (m_ty cI cJ cC) (m_W ad cI cJ cC) (zAW m_n ad s.heap.size) Q) args s 0 0 (zAW m_n ad s.heap.size)) (F0 m 13 ls [])) {k_55 : Int64 → Int32 → Int32 → Int32 → zSt → Prop} (hk_55 : ∀ (x1 : Int64) (x3 : Int32) (x4 : Int32) (x5 : Int32) (σ : zSt) (H : Heap) (locs : List Loc) (ls : Array Slot), k_55 x1 x3 x4 x5 σ → va_P (dC, dI) vwCl (m_W ad cI cJ cC σ) H → va_D (zAW m_n ad s.heap.size) (m_W ad cI cJ cC σ) → va_S (zAW m_n ad s.heap.size) s.heap H locs → lv_has ls 9 [(0, .ref (ad 0)), (1, .long x1), (3, .int x3), (4, .int x4), (5, .int x5)] → W p l e rm_X12_findsSwap s m args below meth c H locs 0 0 (MQ below (zQi (dC, dI) (m_ty cI cJ cC) (m_W ad cI cJ cC) (zAW m_n ad s.heap.size) Q) args s 0 0 (zAW m_n ad s.heap.size)) (F0 m 55 ls [])) : ∀ (x1 : Int64) (x3 : Int32) (x4 : Int32) (x5 : Int32) (s0 : Int32) (σ : zSt) (H : Heap) (locs : List Loc) (ls : Array Slot), b_X12_findsSwap_116 N k_2 k_13 k_55 Q x1 x3 x4 x5 s0 σ → va_P (dC, dI) vwCl (m_W ad cI cJ cC σ) H → va_D (zAW m_n ad s.heap.size) (m_W ad cI cJ cC σ) → va_S (zAW m_n ad s.heap.size) s.heap H locs → lv_has ls 9 [(0, .ref (ad 0)), (1, .long x1), (3, .int x3), (4, .int x4), (5, .int x5)] → W p l e rm_X12_findsSwap s m args below meth c H locs 0 0 (MQ below (zQi (dC, dI) (m_ty cI cJ cC) (m_W ad cI cJ cC) (zAW m_n ad s.heap.size) Q) args s 0 0 (zAW m_n ad s.heap.size)) (F0 m 116 ls [.int s0]) := by
  obtain ⟨hx, hb, hml, hr, hown, hts, hlocks⟩ := id C0
  intro x1 x3 x4 x5 s0 σ H locs ls h hP hD hS hl
  unfold b_X12_findsSwap_116 at h
  refine lv_istore (lv' := [(6, .int s0), (0, .ref (ad 0)), (1, .long x1), (3, .int x3), (4, .int x4), (5, .int x5)]) hx hb dX12_findsSwap_116 hl (by decide) rfl (fun ls hl => ?_)
  refine lv_lload_n hx hb dX12_findsSwap_118 rfl (lv_at hl 2 rfl) ?_
  refine lv_lconst (v := (1 : Int64)) hx hb dX12_findsSwap_119 (by decide) ?_
  refine lv_iload hx hb dX12_findsSwap_120 (lv_at hl 4 rfl) ?_
  refine lv_lshl hx hb dX12_findsSwap_122 rfl ?_
  refine lv_ldc2 (v := (-1 : Int64)) hx hb hown (hts _ (List.mem_cons_of_mem _ mw_832)) dX12_findsSwap_123 ?_
  refine lv_lxor hx hb dX12_findsSwap_126 ?_
  refine lv_land hx hb dX12_findsSwap_127 ?_
  refine lv_lconst (v := (1 : Int64)) hx hb dX12_findsSwap_128 (by decide) ?_
  refine lv_iload hx hb dX12_findsSwap_129 (lv_at hl 5 rfl) ?_
  refine lv_lshl hx hb dX12_findsSwap_131 rfl ?_
  refine lv_lor hx hb dX12_findsSwap_132 ?_
  refine lv_topl (fun v1 ev1 => ?_)
  have h := h v1 ev1
  refine lv_lstore (lv' := [(7, .long v1), (6, .int s0), (0, .ref (ad 0)), (1, .long x1), (3, .int x3), (4, .int x4), (5, .int x5)]) hx hb dX12_findsSwap_133 hl (by decide) rfl (fun ls hl => ?_)
  refine lv_aload_n hx hb dX12_findsSwap_135 rfl (lv_at hl 2 rfl) ?_
  refine lv_lload hx hb dX12_findsSwap_136 (lv_at hl 0 rfl) ?_
  refine k_X12_may N ⟨hx, hb, hml, hown, hts⟩ mw_1065 ⟨Nat.le_of_ble_eq_true rfl, Nat.le_of_ble_eq_true rfl⟩ h hK hP hD hS hl.1 (rest := []) (Nat.le_of_ble_eq_true rfl) ⟨Nat.le_of_ble_eq_true rfl, Nat.le_of_ble_eq_true rfl⟩ dX12_findsSwap_138 (fun r2 τ3 H locs h hP hD hS => ?_)
  refine lv_if_eq (tgt := 189) hx hb dX12_findsSwap_141 (by decide) (fun hc => ?_) (fun hc => ?_)
  · have h := h.1 hc
    obtain ⟨v4, ev4⟩ : ∃ z : Int32, z = x5 + (1 : Int32) := ⟨_, rfl⟩
    have h := h v4 ev4
    refine lv_iinc (v := v4) (lv' := [(5, .int v4), (7, .long v1), (6, .int s0), (0, .ref (ad 0)), (1, .long x1), (3, .int x3), (4, .int x4)]) hx hb dX12_findsSwap_189 hl (k := 6) rfl (by rw [ev4]; rfl) (by decide) rfl (fun ls hl => ?_)
    refine lv_goto (tgt := 55) hx hb dX12_findsSwap_192 (by decide) ?_
    exact hk_55 x1 x3 x4 v4 τ3 _ _ _ h hP hD hS (lv_sub hl [3, 4, 5, 6, 0] rfl)
  · have h := h.2 hc
    refine lv_aload_n hx hb dX12_findsSwap_144 rfl (lv_at hl 2 rfl) ?_
    refine lv_lload hx hb dX12_findsSwap_145 (lv_at hl 0 rfl) ?_
    refine lv_iload_n hx hb dX12_findsSwap_147 rfl (lv_at hl 4 rfl) ?_
    refine k_X12_gains N ⟨hx, hb, hml, hown, hts⟩ mw_1175 ⟨Nat.le_of_ble_eq_true rfl, Nat.le_of_ble_eq_true rfl⟩ h hK hP hD hS hl.1 (rest := []) (Nat.le_of_ble_eq_true rfl) ⟨Nat.le_of_ble_eq_true rfl, Nat.le_of_ble_eq_true rfl⟩ dX12_findsSwap_148 (fun r5 τ6 H locs h hP hD hS => ?_)
    refine lv_if_eq (tgt := 189) hx hb dX12_findsSwap_151 (by decide) (fun hc => ?_) (fun hc => ?_)
    · have h := h.1 hc
      obtain ⟨v7, ev7⟩ : ∃ z : Int32, z = x5 + (1 : Int32) := ⟨_, rfl⟩
      have h := h v7 ev7
      refine lv_iinc (v := v7) (lv' := [(5, .int v7), (7, .long v1), (6, .int s0), (0, .ref (ad 0)), (1, .long x1), (3, .int x3), (4, .int x4)]) hx hb dX12_findsSwap_189 hl (k := 6) rfl (by rw [ev7]; rfl) (by decide) rfl (fun ls hl => ?_)
      refine lv_goto (tgt := 55) hx hb dX12_findsSwap_192 (by decide) ?_
      exact hk_55 x1 x3 x4 v7 τ6 _ _ _ h hP hD hS (lv_sub hl [3, 4, 5, 6, 0] rfl)
    · have h := h.2 hc
      refine lv_aload_n hx hb dX12_findsSwap_154 rfl (lv_at hl 2 rfl) ?_
      refine lv_lload hx hb dX12_findsSwap_155 (lv_at hl 0 rfl) ?_
      refine lv_iload hx hb dX12_findsSwap_157 (lv_at hl 1 rfl) ?_
      refine k_X12_worthOf N ⟨hx, hb, hml, hown, hts⟩ mw_1104 ⟨Nat.le_of_ble_eq_true rfl, Nat.le_of_ble_eq_true rfl⟩ h hK hP hD hS hl.1 (rest := []) (Nat.le_of_ble_eq_true rfl) ⟨Nat.le_of_ble_eq_true rfl, Nat.le_of_ble_eq_true rfl⟩ dX12_findsSwap_159 (fun r8 τ9 H locs h hP hD hS => ?_)
      refine lv_aload_n hx hb dX12_findsSwap_162 rfl (lv_at hl 2 rfl) ?_
      refine mg_0_59 hx hb hts hown hK hP mw_892 dX12_findsSwap_163 ?_
      refine lv_iload hx hb dX12_findsSwap_166 (lv_at hl 1 rfl) ?_
      refine ma_19 hx hb hK hP h.1 rfl dX12_findsSwap_168 ?_
      have h := h.2
      refine W.lcmp hx hb dX12_findsSwap_169 ?_
      refine lv_if_lt (tgt := 189) hx hb dX12_findsSwap_170 (by decide) (fun hc => ?_) (fun hc => ?_)
      · have h := h.1 hc
        obtain ⟨v10, ev10⟩ : ∃ z : Int32, z = x5 + (1 : Int32) := ⟨_, rfl⟩
        have h := h v10 ev10
        refine lv_iinc (v := v10) (lv' := [(5, .int v10), (7, .long v1), (6, .int s0), (0, .ref (ad 0)), (1, .long x1), (3, .int x3), (4, .int x4)]) hx hb dX12_findsSwap_189 hl (k := 6) rfl (by rw [ev10]; rfl) (by decide) rfl (fun ls hl => ?_)
        refine lv_goto (tgt := 55) hx hb dX12_findsSwap_192 (by decide) ?_
        exact hk_55 x1 x3 x4 v10 τ9 _ _ _ h hP hD hS (lv_sub hl [3, 4, 5, 6, 0] rfl)
      · have h := h.2 hc
        refine lv_aload_n hx hb dX12_findsSwap_173 rfl (lv_at hl 2 rfl) ?_
        refine lv_iconst (v := (3 : Int32)) hx hb dX12_findsSwap_174 (by decide) ?_
        refine lv_iconst (v := (1 : Int32)) hx hb dX12_findsSwap_175 (by decide) ?_
        refine lv_iload_n hx hb dX12_findsSwap_176 rfl (lv_at hl 4 rfl) ?_
        refine lv_ishl hx hb dX12_findsSwap_177 ?_
        refine lv_iconst (v := (1 : Int32)) hx hb dX12_findsSwap_178 (by decide) ?_
        refine lv_iload hx hb dX12_findsSwap_179 (lv_at hl 1 rfl) ?_
        refine lv_ishl hx hb dX12_findsSwap_181 ?_
        refine lv_ior hx hb dX12_findsSwap_182 ?_
        refine lv_lload hx hb dX12_findsSwap_183 (lv_at hl 0 rfl) ?_
        refine k_X12_finds N ⟨hx, hb, hml, hown, hts⟩ mw_1160 ⟨Nat.le_of_ble_eq_true rfl, Nat.le_of_ble_eq_true rfl⟩ h hK hP hD hS hl.1 (rest := []) (Nat.le_of_ble_eq_true rfl) ⟨Nat.le_of_ble_eq_true rfl, Nat.le_of_ble_eq_true rfl⟩ dX12_findsSwap_185 (fun r11 τ12 H locs h hP hD hS => ?_)
        exact zret_z hx hb hr hlocks hK hP hD hS h.1 h.2 dX12_findsSwap_188
set_option maxHeartbeats 4000000 in
set_option maxRecDepth 100000 in
theorem t_X12_findsSwap_94 (C0 : zCx p s m meth c args RX12 cX12_findsSwap 9 (some .boolean) vs_X12_findsSwap) (hK : va_K (dC, dI) vwCl (m_ty cI cJ cC) s) (N : Nat) {Q : Int32 → zSt → Prop} {k_2 : Int64 → Int32 → zSt → Prop} (hk_2 : ∀ (x1 : Int64) (x3 : Int32) (σ : zSt) (H : Heap) (locs : List Loc) (ls : Array Slot), k_2 x1 x3 σ → va_P (dC, dI) vwCl (m_W ad cI cJ cC σ) H → va_D (zAW m_n ad s.heap.size) (m_W ad cI cJ cC σ) → va_S (zAW m_n ad s.heap.size) s.heap H locs → lv_has ls 9 [(0, .ref (ad 0)), (1, .long x1), (3, .int x3)] → W p l e rm_X12_findsSwap s m args below meth c H locs 0 0 (MQ below (zQi (dC, dI) (m_ty cI cJ cC) (m_W ad cI cJ cC) (zAW m_n ad s.heap.size) Q) args s 0 0 (zAW m_n ad s.heap.size)) (F0 m 2 ls [])) {k_13 : Int64 → Int32 → Int32 → zSt → Prop} (hk_13 : ∀ (x1 : Int64) (x3 : Int32) (x4 : Int32) (σ : zSt) (H : Heap) (locs : List Loc) (ls : Array Slot), k_13 x1 x3 x4 σ → va_P (dC, dI) vwCl (m_W ad cI cJ cC σ) H → va_D (zAW m_n ad s.heap.size) (m_W ad cI cJ cC σ) → va_S (zAW m_n ad s.heap.size) s.heap H locs → lv_has ls 9 [(0, .ref (ad 0)), (1, .long x1), (3, .int x3), (4, .int x4)] → W p l e rm_X12_findsSwap s m args below meth c H locs 0 0 (MQ below (zQi (dC, dI) (m_ty cI cJ cC) (m_W ad cI cJ cC) (zAW m_n ad s.heap.size) Q) args s 0 0 (zAW m_n ad s.heap.size)) (F0 m 13 ls [])) {k_55 : Int64 → Int32 → Int32 → Int32 → zSt → Prop} (hk_55 : ∀ (x1 : Int64) (x3 : Int32) (x4 : Int32) (x5 : Int32) (σ : zSt) (H : Heap) (locs : List Loc) (ls : Array Slot), k_55 x1 x3 x4 x5 σ → va_P (dC, dI) vwCl (m_W ad cI cJ cC σ) H → va_D (zAW m_n ad s.heap.size) (m_W ad cI cJ cC σ) → va_S (zAW m_n ad s.heap.size) s.heap H locs → lv_has ls 9 [(0, .ref (ad 0)), (1, .long x1), (3, .int x3), (4, .int x4), (5, .int x5)] → W p l e rm_X12_findsSwap s m args below meth c H locs 0 0 (MQ below (zQi (dC, dI) (m_ty cI cJ cC) (m_W ad cI cJ cC) (zAW m_n ad s.heap.size) Q) args s 0 0 (zAW m_n ad s.heap.size)) (F0 m 55 ls [])) : ∀ (x1 : Int64) (x3 : Int32) (x4 : Int32) (x5 : Int32) (σ : zSt) (H : Heap) (locs : List Loc) (ls : Array Slot), b_X12_findsSwap_94 N k_2 k_13 k_55 Q x1 x3 x4 x5 σ → va_P (dC, dI) vwCl (m_W ad cI cJ cC σ) H → va_D (zAW m_n ad s.heap.size) (m_W ad cI cJ cC σ) → va_S (zAW m_n ad s.heap.size) s.heap H locs → lv_has ls 9 [(0, .ref (ad 0)), (1, .long x1), (3, .int x3), (4, .int x4), (5, .int x5)] → W p l e rm_X12_findsSwap s m args below meth c H locs 0 0 (MQ below (zQi (dC, dI) (m_ty cI cJ cC) (m_W ad cI cJ cC) (zAW m_n ad s.heap.size) Q) args s 0 0 (zAW m_n ad s.heap.size)) (F0 m 94 ls []) := by
  obtain ⟨hx, hb, hml, hr, hown, hts, hlocks⟩ := id C0
  intro x1 x3 x4 x5 σ H locs ls h hP hD hS hl
  unfold b_X12_findsSwap_94 at h
  refine lv_iload hx hb dX12_findsSwap_94 (lv_at hl 4 rfl) ?_
  refine k_X12_lowOf N ⟨hx, hb, hml, hown, hts⟩ mw_1154 ⟨Nat.le_of_ble_eq_true rfl, Nat.le_of_ble_eq_true rfl⟩ h hK hP hD hS hl.1 (rest := []) (Nat.le_of_ble_eq_true rfl) ⟨Nat.le_of_ble_eq_true rfl, Nat.le_of_ble_eq_true rfl⟩ dX12_findsSwap_96 (fun r1 τ2 H locs h hP hD hS => ?_)
  refine lv_iload_n hx hb dX12_findsSwap_99 rfl (lv_at hl 2 rfl) ?_
  refine lv_icmp_ne (tgt := 111) hx hb dX12_findsSwap_100 (by decide) (fun hc => ?_) (fun hc => ?_)
  · have h := h.2 hc
    refine lv_iload hx hb dX12_findsSwap_111 (lv_at hl 4 rfl) ?_
    refine k_X12_lowOf N ⟨hx, hb, hml, hown, hts⟩ mw_1154 ⟨Nat.le_of_ble_eq_true rfl, Nat.le_of_ble_eq_true rfl⟩ h hK hP hD hS hl.1 (rest := []) (Nat.le_of_ble_eq_true rfl) ⟨Nat.le_of_ble_eq_true rfl, Nat.le_of_ble_eq_true rfl⟩ dX12_findsSwap_113 (fun r3 τ4 H locs h hP hD hS => ?_)
    exact t_X12_findsSwap_116 C0 hK N hk_2 hk_13 hk_55 x1 x3 x4 x5 r3 τ4 _ _ _ h hP hD hS (lv_sub hl [0, 1, 2, 3, 4] rfl)
  · have h := h.1 hc
    refine lv_iload hx hb dX12_findsSwap_103 (lv_at hl 4 rfl) ?_
    refine k_X12_highOf N ⟨hx, hb, hml, hown, hts⟩ mw_1157 ⟨Nat.le_of_ble_eq_true rfl, Nat.le_of_ble_eq_true rfl⟩ h hK hP hD hS hl.1 (rest := []) (Nat.le_of_ble_eq_true rfl) ⟨Nat.le_of_ble_eq_true rfl, Nat.le_of_ble_eq_true rfl⟩ dX12_findsSwap_105 (fun r5 τ6 H locs h hP hD hS => ?_)
    refine lv_goto (tgt := 116) hx hb dX12_findsSwap_108 (by decide) ?_
    exact t_X12_findsSwap_116 C0 hK N hk_2 hk_13 hk_55 x1 x3 x4 x5 r5 τ6 _ _ _ h hP hD hS (lv_sub hl [0, 1, 2, 3, 4] rfl)
set_option maxHeartbeats 4000000 in
set_option maxRecDepth 100000 in
theorem tb_X12_findsSwap_55 (C0 : zCx p s m meth c args RX12 cX12_findsSwap 9 (some .boolean) vs_X12_findsSwap) (hK : va_K (dC, dI) vwCl (m_ty cI cJ cC) s) (N : Nat) {Q : Int32 → zSt → Prop} {k_2 : Int64 → Int32 → zSt → Prop} (hk_2 : ∀ (x1 : Int64) (x3 : Int32) (σ : zSt) (H : Heap) (locs : List Loc) (ls : Array Slot), k_2 x1 x3 σ → va_P (dC, dI) vwCl (m_W ad cI cJ cC σ) H → va_D (zAW m_n ad s.heap.size) (m_W ad cI cJ cC σ) → va_S (zAW m_n ad s.heap.size) s.heap H locs → lv_has ls 9 [(0, .ref (ad 0)), (1, .long x1), (3, .int x3)] → W p l e rm_X12_findsSwap s m args below meth c H locs 0 0 (MQ below (zQi (dC, dI) (m_ty cI cJ cC) (m_W ad cI cJ cC) (zAW m_n ad s.heap.size) Q) args s 0 0 (zAW m_n ad s.heap.size)) (F0 m 2 ls [])) {k_13 : Int64 → Int32 → Int32 → zSt → Prop} (hk_13 : ∀ (x1 : Int64) (x3 : Int32) (x4 : Int32) (σ : zSt) (H : Heap) (locs : List Loc) (ls : Array Slot), k_13 x1 x3 x4 σ → va_P (dC, dI) vwCl (m_W ad cI cJ cC σ) H → va_D (zAW m_n ad s.heap.size) (m_W ad cI cJ cC σ) → va_S (zAW m_n ad s.heap.size) s.heap H locs → lv_has ls 9 [(0, .ref (ad 0)), (1, .long x1), (3, .int x3), (4, .int x4)] → W p l e rm_X12_findsSwap s m args below meth c H locs 0 0 (MQ below (zQi (dC, dI) (m_ty cI cJ cC) (m_W ad cI cJ cC) (zAW m_n ad s.heap.size) Q) args s 0 0 (zAW m_n ad s.heap.size)) (F0 m 13 ls [])) {k_55 : Int64 → Int32 → Int32 → Int32 → zSt → Prop} (hk_55 : ∀ (x1 : Int64) (x3 : Int32) (x4 : Int32) (x5 : Int32) (σ : zSt) (H : Heap) (locs : List Loc) (ls : Array Slot), k_55 x1 x3 x4 x5 σ → va_P (dC, dI) vwCl (m_W ad cI cJ cC σ) H → va_D (zAW m_n ad s.heap.size) (m_W ad cI cJ cC σ) → va_S (zAW m_n ad s.heap.size) s.heap H locs → lv_has ls 9 [(0, .ref (ad 0)), (1, .long x1), (3, .int x3), (4, .int x4), (5, .int x5)] → W p l e rm_X12_findsSwap s m args below meth c H locs 0 0 (MQ below (zQi (dC, dI) (m_ty cI cJ cC) (m_W ad cI cJ cC) (zAW m_n ad s.heap.size) Q) args s 0 0 (zAW m_n ad s.heap.size)) (F0 m 55 ls [])) : ∀ (x1 : Int64) (x3 : Int32) (x4 : Int32) (x5 : Int32) (σ : zSt) (H : Heap) (locs : List Loc) (ls : Array Slot), b_X12_findsSwap_55 N k_2 k_13 k_55 Q x1 x3 x4 x5 σ → va_P (dC, dI) vwCl (m_W ad cI cJ cC σ) H → va_D (zAW m_n ad s.heap.size) (m_W ad cI cJ cC σ) → va_S (zAW m_n ad s.heap.size) s.heap H locs → lv_has ls 9 [(0, .ref (ad 0)), (1, .long x1), (3, .int x3), (4, .int x4), (5, .int x5)] → W p l e rm_X12_findsSwap s m args below meth c H locs 0 0 (MQ below (zQi (dC, dI) (m_ty cI cJ cC) (m_W ad cI cJ cC) (zAW m_n ad s.heap.size) Q) args s 0 0 (zAW m_n ad s.heap.size)) (F0 m 55 ls []) := by
  obtain ⟨hx, hb, hml, hr, hown, hts, hlocks⟩ := id C0
  intro x1 x3 x4 x5 σ H locs ls h hP hD hS hl
  unfold b_X12_findsSwap_55 at h
  refine lv_iload hx hb dX12_findsSwap_55 (lv_at hl 4 rfl) ?_
  refine lv_aload_n hx hb dX12_findsSwap_57 rfl (lv_at hl 0 rfl) ?_
  refine k_X12_pairs N ⟨hx, hb, hml, hown, hts⟩ mw_1047 ⟨Nat.le_of_ble_eq_true rfl, Nat.le_of_ble_eq_true rfl⟩ h hK hP hD hS hl.1 (rest := [.int x5]) (Nat.le_of_ble_eq_true rfl) ⟨Nat.le_of_ble_eq_true rfl, Nat.le_of_ble_eq_true rfl⟩ dX12_findsSwap_58 (fun r1 τ2 H locs h hP hD hS => ?_)
  refine lv_icmp_ge (tgt := 195) hx hb dX12_findsSwap_61 (by decide) (fun hc => ?_) (fun hc => ?_)
  · have h := h.1 hc
    obtain ⟨v3, ev3⟩ : ∃ z : Int32, z = x4 + (1 : Int32) := ⟨_, rfl⟩
    have h := h v3 ev3
    refine lv_iinc (v := v3) (lv' := [(4, .int v3), (0, .ref (ad 0)), (1, .long x1), (3, .int x3), (5, .int x5)]) hx hb dX12_findsSwap_195 hl (k := 3) rfl (by rw [ev3]; rfl) (by decide) rfl (fun ls hl => ?_)
    refine lv_goto (tgt := 13) hx hb dX12_findsSwap_198 (by decide) ?_
    exact hk_13 x1 x3 v3 τ2 _ _ _ h hP hD hS (lv_sub hl [1, 2, 3, 0] rfl)
  · have h := h.2 hc
    refine lv_lload_n hx hb dX12_findsSwap_64 rfl (lv_at hl 1 rfl) ?_
    refine lv_iload hx hb dX12_findsSwap_65 (lv_at hl 4 rfl) ?_
    refine k_X12_isTied N ⟨hx, hb, hml, hown, hts⟩ mw_1071 ⟨Nat.le_of_ble_eq_true rfl, Nat.le_of_ble_eq_true rfl⟩ h hK hP hD hS hl.1 (rest := []) (Nat.le_of_ble_eq_true rfl) ⟨Nat.le_of_ble_eq_true rfl, Nat.le_of_ble_eq_true rfl⟩ dX12_findsSwap_67 (fun r4 τ5 H locs h hP hD hS => ?_)
    refine lv_if_ne (tgt := 189) hx hb dX12_findsSwap_70 (by decide) (fun hc => ?_) (fun hc => ?_)
    · have h := h.2 hc
      obtain ⟨v6, ev6⟩ : ∃ z : Int32, z = x5 + (1 : Int32) := ⟨_, rfl⟩
      have h := h v6 ev6
      refine lv_iinc (v := v6) (lv' := [(5, .int v6), (0, .ref (ad 0)), (1, .long x1), (3, .int x3), (4, .int x4)]) hx hb dX12_findsSwap_189 hl (k := 4) rfl (by rw [ev6]; rfl) (by decide) rfl (fun ls hl => ?_)
      refine lv_goto (tgt := 55) hx hb dX12_findsSwap_192 (by decide) ?_
      exact hk_55 x1 x3 x4 v6 τ5 _ _ _ h hP hD hS (lv_sub hl [1, 2, 3, 4, 0] rfl)
    · have h := h.1 hc
      refine lv_iload hx hb dX12_findsSwap_73 (lv_at hl 4 rfl) ?_
      refine k_X12_lowOf N ⟨hx, hb, hml, hown, hts⟩ mw_1154 ⟨Nat.le_of_ble_eq_true rfl, Nat.le_of_ble_eq_true rfl⟩ h hK hP hD hS hl.1 (rest := []) (Nat.le_of_ble_eq_true rfl) ⟨Nat.le_of_ble_eq_true rfl, Nat.le_of_ble_eq_true rfl⟩ dX12_findsSwap_75 (fun r7 τ8 H locs h hP hD hS => ?_)
      refine lv_iload_n hx hb dX12_findsSwap_78 rfl (lv_at hl 2 rfl) ?_
      refine lv_icmp_eq (tgt := 94) hx hb dX12_findsSwap_79 (by decide) (fun hc => ?_) (fun hc => ?_)
      · have h := h.1 hc
        exact t_X12_findsSwap_94 C0 hK N hk_2 hk_13 hk_55 x1 x3 x4 x5 τ8 _ _ _ h hP hD hS (lv_sub hl [0, 1, 2, 3, 4] rfl)
      · have h := h.2 hc
        refine lv_iload hx hb dX12_findsSwap_82 (lv_at hl 4 rfl) ?_
        refine k_X12_highOf N ⟨hx, hb, hml, hown, hts⟩ mw_1157 ⟨Nat.le_of_ble_eq_true rfl, Nat.le_of_ble_eq_true rfl⟩ h hK hP hD hS hl.1 (rest := []) (Nat.le_of_ble_eq_true rfl) ⟨Nat.le_of_ble_eq_true rfl, Nat.le_of_ble_eq_true rfl⟩ dX12_findsSwap_84 (fun r9 τ10 H locs h hP hD hS => ?_)
        refine lv_iload_n hx hb dX12_findsSwap_87 rfl (lv_at hl 2 rfl) ?_
        refine lv_icmp_eq (tgt := 94) hx hb dX12_findsSwap_88 (by decide) (fun hc => ?_) (fun hc => ?_)
        · have h := h.1 hc
          exact t_X12_findsSwap_94 C0 hK N hk_2 hk_13 hk_55 x1 x3 x4 x5 τ10 _ _ _ h hP hD hS (lv_sub hl [0, 1, 2, 3, 4] rfl)
        · have h := h.2 hc
          refine lv_goto (tgt := 189) hx hb dX12_findsSwap_91 (by decide) ?_
          obtain ⟨v11, ev11⟩ : ∃ z : Int32, z = x5 + (1 : Int32) := ⟨_, rfl⟩
          have h := h v11 ev11
          refine lv_iinc (v := v11) (lv' := [(5, .int v11), (0, .ref (ad 0)), (1, .long x1), (3, .int x3), (4, .int x4)]) hx hb dX12_findsSwap_189 hl (k := 4) rfl (by rw [ev11]; rfl) (by decide) rfl (fun ls hl => ?_)
          refine lv_goto (tgt := 55) hx hb dX12_findsSwap_192 (by decide) ?_
          exact hk_55 x1 x3 x4 v11 τ10 _ _ _ h hP hD hS (lv_sub hl [1, 2, 3, 4, 0] rfl)
set_option maxHeartbeats 4000000 in
set_option maxRecDepth 100000 in
theorem t_X12_findsSwap_55 (C0 : zCx p s m meth c args RX12 cX12_findsSwap 9 (some .boolean) vs_X12_findsSwap) (hK : va_K (dC, dI) vwCl (m_ty cI cJ cC) s) (N : Nat) {Q : Int32 → zSt → Prop} {k_2 : Int64 → Int32 → zSt → Prop} (hk_2 : ∀ (x1 : Int64) (x3 : Int32) (σ : zSt) (H : Heap) (locs : List Loc) (ls : Array Slot), k_2 x1 x3 σ → va_P (dC, dI) vwCl (m_W ad cI cJ cC σ) H → va_D (zAW m_n ad s.heap.size) (m_W ad cI cJ cC σ) → va_S (zAW m_n ad s.heap.size) s.heap H locs → lv_has ls 9 [(0, .ref (ad 0)), (1, .long x1), (3, .int x3)] → W p l e rm_X12_findsSwap s m args below meth c H locs 0 0 (MQ below (zQi (dC, dI) (m_ty cI cJ cC) (m_W ad cI cJ cC) (zAW m_n ad s.heap.size) Q) args s 0 0 (zAW m_n ad s.heap.size)) (F0 m 2 ls [])) {k_13 : Int64 → Int32 → Int32 → zSt → Prop} (hk_13 : ∀ (x1 : Int64) (x3 : Int32) (x4 : Int32) (σ : zSt) (H : Heap) (locs : List Loc) (ls : Array Slot), k_13 x1 x3 x4 σ → va_P (dC, dI) vwCl (m_W ad cI cJ cC σ) H → va_D (zAW m_n ad s.heap.size) (m_W ad cI cJ cC σ) → va_S (zAW m_n ad s.heap.size) s.heap H locs → lv_has ls 9 [(0, .ref (ad 0)), (1, .long x1), (3, .int x3), (4, .int x4)] → W p l e rm_X12_findsSwap s m args below meth c H locs 0 0 (MQ below (zQi (dC, dI) (m_ty cI cJ cC) (m_W ad cI cJ cC) (zAW m_n ad s.heap.size) Q) args s 0 0 (zAW m_n ad s.heap.size)) (F0 m 13 ls [])) : ∀ (f : Nat) (x1 : Int64) (x3 : Int32) (x4 : Int32) (x5 : Int32) (σ : zSt) (H : Heap) (locs : List Loc) (ls : Array Slot), w_X12_findsSwap_55 N k_2 k_13 Q f x1 x3 x4 x5 σ → va_P (dC, dI) vwCl (m_W ad cI cJ cC σ) H → va_D (zAW m_n ad s.heap.size) (m_W ad cI cJ cC σ) → va_S (zAW m_n ad s.heap.size) s.heap H locs → lv_has ls 9 [(0, .ref (ad 0)), (1, .long x1), (3, .int x3), (4, .int x4), (5, .int x5)] → W p l e rm_X12_findsSwap s m args below meth c H locs 0 0 (MQ below (zQi (dC, dI) (m_ty cI cJ cC) (m_W ad cI cJ cC) (zAW m_n ad s.heap.size) Q) args s 0 0 (zAW m_n ad s.heap.size)) (F0 m 55 ls []) := by
  intro f
  induction f with
  | zero => intro x1 x3 x4 x5 σ H locs ls h; exact h.elim
  | succ f ih =>
    intro x1 x3 x4 x5 σ H locs ls h hP hD hS hl
    exact tb_X12_findsSwap_55 C0 hK N hk_2 hk_13 (k_55 := w_X12_findsSwap_55 N k_2 k_13 Q f) ih x1 x3 x4 x5 σ H locs ls h hP hD hS hl
set_option maxHeartbeats 4000000 in
set_option maxRecDepth 100000 in
theorem tb_X12_findsSwap_13 (C0 : zCx p s m meth c args RX12 cX12_findsSwap 9 (some .boolean) vs_X12_findsSwap) (hK : va_K (dC, dI) vwCl (m_ty cI cJ cC) s) (N : Nat) {Q : Int32 → zSt → Prop} {k_2 : Int64 → Int32 → zSt → Prop} (hk_2 : ∀ (x1 : Int64) (x3 : Int32) (σ : zSt) (H : Heap) (locs : List Loc) (ls : Array Slot), k_2 x1 x3 σ → va_P (dC, dI) vwCl (m_W ad cI cJ cC σ) H → va_D (zAW m_n ad s.heap.size) (m_W ad cI cJ cC σ) → va_S (zAW m_n ad s.heap.size) s.heap H locs → lv_has ls 9 [(0, .ref (ad 0)), (1, .long x1), (3, .int x3)] → W p l e rm_X12_findsSwap s m args below meth c H locs 0 0 (MQ below (zQi (dC, dI) (m_ty cI cJ cC) (m_W ad cI cJ cC) (zAW m_n ad s.heap.size) Q) args s 0 0 (zAW m_n ad s.heap.size)) (F0 m 2 ls [])) {k_13 : Int64 → Int32 → Int32 → zSt → Prop} (hk_13 : ∀ (x1 : Int64) (x3 : Int32) (x4 : Int32) (σ : zSt) (H : Heap) (locs : List Loc) (ls : Array Slot), k_13 x1 x3 x4 σ → va_P (dC, dI) vwCl (m_W ad cI cJ cC σ) H → va_D (zAW m_n ad s.heap.size) (m_W ad cI cJ cC σ) → va_S (zAW m_n ad s.heap.size) s.heap H locs → lv_has ls 9 [(0, .ref (ad 0)), (1, .long x1), (3, .int x3), (4, .int x4)] → W p l e rm_X12_findsSwap s m args below meth c H locs 0 0 (MQ below (zQi (dC, dI) (m_ty cI cJ cC) (m_W ad cI cJ cC) (zAW m_n ad s.heap.size) Q) args s 0 0 (zAW m_n ad s.heap.size)) (F0 m 13 ls [])) : ∀ (x1 : Int64) (x3 : Int32) (x4 : Int32) (σ : zSt) (H : Heap) (locs : List Loc) (ls : Array Slot), b_X12_findsSwap_13 N k_2 k_13 Q x1 x3 x4 σ → va_P (dC, dI) vwCl (m_W ad cI cJ cC σ) H → va_D (zAW m_n ad s.heap.size) (m_W ad cI cJ cC σ) → va_S (zAW m_n ad s.heap.size) s.heap H locs → lv_has ls 9 [(0, .ref (ad 0)), (1, .long x1), (3, .int x3), (4, .int x4)] → W p l e rm_X12_findsSwap s m args below meth c H locs 0 0 (MQ below (zQi (dC, dI) (m_ty cI cJ cC) (m_W ad cI cJ cC) (zAW m_n ad s.heap.size) Q) args s 0 0 (zAW m_n ad s.heap.size)) (F0 m 13 ls []) := by
  obtain ⟨hx, hb, hml, hr, hown, hts, hlocks⟩ := id C0
  intro x1 x3 x4 σ H locs ls h hP hD hS hl
  unfold b_X12_findsSwap_13 at h
  refine lv_iload hx hb dX12_findsSwap_13 (lv_at hl 3 rfl) ?_
  refine lv_aload_n hx hb dX12_findsSwap_15 rfl (lv_at hl 0 rfl) ?_
  refine k_X12_pairs N ⟨hx, hb, hml, hown, hts⟩ mw_1047 ⟨Nat.le_of_ble_eq_true rfl, Nat.le_of_ble_eq_true rfl⟩ h hK hP hD hS hl.1 (rest := [.int x4]) (Nat.le_of_ble_eq_true rfl) ⟨Nat.le_of_ble_eq_true rfl, Nat.le_of_ble_eq_true rfl⟩ dX12_findsSwap_16 (fun r1 τ2 H locs h hP hD hS => ?_)
  refine lv_icmp_ge (tgt := 201) hx hb dX12_findsSwap_19 (by decide) (fun hc => ?_) (fun hc => ?_)
  · have h := h.1 hc
    obtain ⟨v3, ev3⟩ : ∃ z : Int32, z = x3 + (1 : Int32) := ⟨_, rfl⟩
    have h := h v3 ev3
    refine lv_iinc (v := v3) (lv' := [(3, .int v3), (0, .ref (ad 0)), (1, .long x1), (4, .int x4)]) hx hb dX12_findsSwap_201 hl (k := 2) rfl (by rw [ev3]; rfl) (by decide) rfl (fun ls hl => ?_)
    refine lv_goto (tgt := 2) hx hb dX12_findsSwap_204 (by decide) ?_
    exact hk_2 x1 v3 τ2 _ _ _ h hP hD hS (lv_sub hl [1, 2, 0] rfl)
  · have h := h.2 hc
    refine lv_lload_n hx hb dX12_findsSwap_22 rfl (lv_at hl 1 rfl) ?_
    refine lv_iload hx hb dX12_findsSwap_23 (lv_at hl 3 rfl) ?_
    refine k_X12_isTied N ⟨hx, hb, hml, hown, hts⟩ mw_1071 ⟨Nat.le_of_ble_eq_true rfl, Nat.le_of_ble_eq_true rfl⟩ h hK hP hD hS hl.1 (rest := []) (Nat.le_of_ble_eq_true rfl) ⟨Nat.le_of_ble_eq_true rfl, Nat.le_of_ble_eq_true rfl⟩ dX12_findsSwap_25 (fun r4 τ5 H locs h hP hD hS => ?_)
    refine lv_if_eq (tgt := 195) hx hb dX12_findsSwap_28 (by decide) (fun hc => ?_) (fun hc => ?_)
    · have h := h.1 hc
      obtain ⟨v6, ev6⟩ : ∃ z : Int32, z = x4 + (1 : Int32) := ⟨_, rfl⟩
      have h := h v6 ev6
      refine lv_iinc (v := v6) (lv' := [(4, .int v6), (0, .ref (ad 0)), (1, .long x1), (3, .int x3)]) hx hb dX12_findsSwap_195 hl (k := 3) rfl (by rw [ev6]; rfl) (by decide) rfl (fun ls hl => ?_)
      refine lv_goto (tgt := 13) hx hb dX12_findsSwap_198 (by decide) ?_
      exact hk_13 x1 x3 v6 τ5 _ _ _ h hP hD hS (lv_sub hl [1, 2, 3, 0] rfl)
    · have h := h.2 hc
      refine lv_iload hx hb dX12_findsSwap_31 (lv_at hl 3 rfl) ?_
      refine k_X12_lowOf N ⟨hx, hb, hml, hown, hts⟩ mw_1154 ⟨Nat.le_of_ble_eq_true rfl, Nat.le_of_ble_eq_true rfl⟩ h hK hP hD hS hl.1 (rest := []) (Nat.le_of_ble_eq_true rfl) ⟨Nat.le_of_ble_eq_true rfl, Nat.le_of_ble_eq_true rfl⟩ dX12_findsSwap_33 (fun r7 τ8 H locs h hP hD hS => ?_)
      refine lv_iload_n hx hb dX12_findsSwap_36 rfl (lv_at hl 2 rfl) ?_
      refine lv_icmp_eq (tgt := 52) hx hb dX12_findsSwap_37 (by decide) (fun hc => ?_) (fun hc => ?_)
      · have h := h.1 hc
        refine lv_iconst (v := (0 : Int32)) hx hb dX12_findsSwap_52 (by decide) ?_
        refine lv_istore (lv' := [(5, .int (0 : Int32)), (0, .ref (ad 0)), (1, .long x1), (3, .int x3), (4, .int x4)]) hx hb dX12_findsSwap_53 hl (by decide) rfl (fun ls hl => ?_)
        exact t_X12_findsSwap_55 C0 hK N hk_2 hk_13 N x1 x3 x4 (0 : Int32) τ8 _ _ _ h hP hD hS (lv_sub hl [1, 2, 3, 4, 0] rfl)
      · have h := h.2 hc
        refine lv_iload hx hb dX12_findsSwap_40 (lv_at hl 3 rfl) ?_
        refine k_X12_highOf N ⟨hx, hb, hml, hown, hts⟩ mw_1157 ⟨Nat.le_of_ble_eq_true rfl, Nat.le_of_ble_eq_true rfl⟩ h hK hP hD hS hl.1 (rest := []) (Nat.le_of_ble_eq_true rfl) ⟨Nat.le_of_ble_eq_true rfl, Nat.le_of_ble_eq_true rfl⟩ dX12_findsSwap_42 (fun r9 τ10 H locs h hP hD hS => ?_)
        refine lv_iload_n hx hb dX12_findsSwap_45 rfl (lv_at hl 2 rfl) ?_
        refine lv_icmp_eq (tgt := 52) hx hb dX12_findsSwap_46 (by decide) (fun hc => ?_) (fun hc => ?_)
        · have h := h.1 hc
          refine lv_iconst (v := (0 : Int32)) hx hb dX12_findsSwap_52 (by decide) ?_
          refine lv_istore (lv' := [(5, .int (0 : Int32)), (0, .ref (ad 0)), (1, .long x1), (3, .int x3), (4, .int x4)]) hx hb dX12_findsSwap_53 hl (by decide) rfl (fun ls hl => ?_)
          exact t_X12_findsSwap_55 C0 hK N hk_2 hk_13 N x1 x3 x4 (0 : Int32) τ10 _ _ _ h hP hD hS (lv_sub hl [1, 2, 3, 4, 0] rfl)
        · have h := h.2 hc
          refine lv_goto (tgt := 195) hx hb dX12_findsSwap_49 (by decide) ?_
          obtain ⟨v11, ev11⟩ : ∃ z : Int32, z = x4 + (1 : Int32) := ⟨_, rfl⟩
          have h := h v11 ev11
          refine lv_iinc (v := v11) (lv' := [(4, .int v11), (0, .ref (ad 0)), (1, .long x1), (3, .int x3)]) hx hb dX12_findsSwap_195 hl (k := 3) rfl (by rw [ev11]; rfl) (by decide) rfl (fun ls hl => ?_)
          refine lv_goto (tgt := 13) hx hb dX12_findsSwap_198 (by decide) ?_
          exact hk_13 x1 x3 v11 τ10 _ _ _ h hP hD hS (lv_sub hl [1, 2, 3, 0] rfl)
set_option maxHeartbeats 4000000 in
set_option maxRecDepth 100000 in
theorem t_X12_findsSwap_13 (C0 : zCx p s m meth c args RX12 cX12_findsSwap 9 (some .boolean) vs_X12_findsSwap) (hK : va_K (dC, dI) vwCl (m_ty cI cJ cC) s) (N : Nat) {Q : Int32 → zSt → Prop} {k_2 : Int64 → Int32 → zSt → Prop} (hk_2 : ∀ (x1 : Int64) (x3 : Int32) (σ : zSt) (H : Heap) (locs : List Loc) (ls : Array Slot), k_2 x1 x3 σ → va_P (dC, dI) vwCl (m_W ad cI cJ cC σ) H → va_D (zAW m_n ad s.heap.size) (m_W ad cI cJ cC σ) → va_S (zAW m_n ad s.heap.size) s.heap H locs → lv_has ls 9 [(0, .ref (ad 0)), (1, .long x1), (3, .int x3)] → W p l e rm_X12_findsSwap s m args below meth c H locs 0 0 (MQ below (zQi (dC, dI) (m_ty cI cJ cC) (m_W ad cI cJ cC) (zAW m_n ad s.heap.size) Q) args s 0 0 (zAW m_n ad s.heap.size)) (F0 m 2 ls [])) : ∀ (f : Nat) (x1 : Int64) (x3 : Int32) (x4 : Int32) (σ : zSt) (H : Heap) (locs : List Loc) (ls : Array Slot), w_X12_findsSwap_13 N k_2 Q f x1 x3 x4 σ → va_P (dC, dI) vwCl (m_W ad cI cJ cC σ) H → va_D (zAW m_n ad s.heap.size) (m_W ad cI cJ cC σ) → va_S (zAW m_n ad s.heap.size) s.heap H locs → lv_has ls 9 [(0, .ref (ad 0)), (1, .long x1), (3, .int x3), (4, .int x4)] → W p l e rm_X12_findsSwap s m args below meth c H locs 0 0 (MQ below (zQi (dC, dI) (m_ty cI cJ cC) (m_W ad cI cJ cC) (zAW m_n ad s.heap.size) Q) args s 0 0 (zAW m_n ad s.heap.size)) (F0 m 13 ls []) := by
  intro f
  induction f with
  | zero => intro x1 x3 x4 σ H locs ls h; exact h.elim
  | succ f ih =>
    intro x1 x3 x4 σ H locs ls h hP hD hS hl
    exact tb_X12_findsSwap_13 C0 hK N hk_2 (k_13 := w_X12_findsSwap_13 N k_2 Q f) ih x1 x3 x4 σ H locs ls h hP hD hS hl
set_option maxHeartbeats 4000000 in
set_option maxRecDepth 100000 in
theorem tb_X12_findsSwap_2 (C0 : zCx p s m meth c args RX12 cX12_findsSwap 9 (some .boolean) vs_X12_findsSwap) (hK : va_K (dC, dI) vwCl (m_ty cI cJ cC) s) (N : Nat) {Q : Int32 → zSt → Prop} {k_2 : Int64 → Int32 → zSt → Prop} (hk_2 : ∀ (x1 : Int64) (x3 : Int32) (σ : zSt) (H : Heap) (locs : List Loc) (ls : Array Slot), k_2 x1 x3 σ → va_P (dC, dI) vwCl (m_W ad cI cJ cC σ) H → va_D (zAW m_n ad s.heap.size) (m_W ad cI cJ cC σ) → va_S (zAW m_n ad s.heap.size) s.heap H locs → lv_has ls 9 [(0, .ref (ad 0)), (1, .long x1), (3, .int x3)] → W p l e rm_X12_findsSwap s m args below meth c H locs 0 0 (MQ below (zQi (dC, dI) (m_ty cI cJ cC) (m_W ad cI cJ cC) (zAW m_n ad s.heap.size) Q) args s 0 0 (zAW m_n ad s.heap.size)) (F0 m 2 ls [])) : ∀ (x1 : Int64) (x3 : Int32) (σ : zSt) (H : Heap) (locs : List Loc) (ls : Array Slot), b_X12_findsSwap_2 N k_2 Q x1 x3 σ → va_P (dC, dI) vwCl (m_W ad cI cJ cC σ) H → va_D (zAW m_n ad s.heap.size) (m_W ad cI cJ cC σ) → va_S (zAW m_n ad s.heap.size) s.heap H locs → lv_has ls 9 [(0, .ref (ad 0)), (1, .long x1), (3, .int x3)] → W p l e rm_X12_findsSwap s m args below meth c H locs 0 0 (MQ below (zQi (dC, dI) (m_ty cI cJ cC) (m_W ad cI cJ cC) (zAW m_n ad s.heap.size) Q) args s 0 0 (zAW m_n ad s.heap.size)) (F0 m 2 ls []) := by
  obtain ⟨hx, hb, hml, hr, hown, hts, hlocks⟩ := id C0
  intro x1 x3 σ H locs ls h hP hD hS hl
  unfold b_X12_findsSwap_2 at h
  refine lv_iload_n hx hb dX12_findsSwap_2 rfl (lv_at hl 2 rfl) ?_
  refine lv_aload_n hx hb dX12_findsSwap_3 rfl (lv_at hl 0 rfl) ?_
  refine k_X12_many N ⟨hx, hb, hml, hown, hts⟩ mw_1044 ⟨Nat.le_of_ble_eq_true rfl, Nat.le_of_ble_eq_true rfl⟩ h hK hP hD hS hl.1 (rest := [.int x3]) (Nat.le_of_ble_eq_true rfl) ⟨Nat.le_of_ble_eq_true rfl, Nat.le_of_ble_eq_true rfl⟩ dX12_findsSwap_4 (fun r1 τ2 H locs h hP hD hS => ?_)
  refine lv_icmp_ge (tgt := 207) hx hb dX12_findsSwap_7 (by decide) (fun hc => ?_) (fun hc => ?_)
  · have h := h.1 hc
    refine lv_iconst (v := (0 : Int32)) hx hb dX12_findsSwap_207 (by decide) ?_
    exact zret_z hx hb hr hlocks hK hP hD hS zb_0 h dX12_findsSwap_208
  · have h := h.2 hc
    refine lv_iconst (v := (0 : Int32)) hx hb dX12_findsSwap_10 (by decide) ?_
    refine lv_istore (lv' := [(4, .int (0 : Int32)), (0, .ref (ad 0)), (1, .long x1), (3, .int x3)]) hx hb dX12_findsSwap_11 hl (by decide) rfl (fun ls hl => ?_)
    exact t_X12_findsSwap_13 C0 hK N hk_2 N x1 x3 (0 : Int32) τ2 _ _ _ h hP hD hS (lv_sub hl [1, 2, 3, 0] rfl)
set_option maxHeartbeats 4000000 in
set_option maxRecDepth 100000 in
theorem t_X12_findsSwap_2 (C0 : zCx p s m meth c args RX12 cX12_findsSwap 9 (some .boolean) vs_X12_findsSwap) (hK : va_K (dC, dI) vwCl (m_ty cI cJ cC) s) (N : Nat) {Q : Int32 → zSt → Prop} : ∀ (f : Nat) (x1 : Int64) (x3 : Int32) (σ : zSt) (H : Heap) (locs : List Loc) (ls : Array Slot), w_X12_findsSwap_2 N  Q f x1 x3 σ → va_P (dC, dI) vwCl (m_W ad cI cJ cC σ) H → va_D (zAW m_n ad s.heap.size) (m_W ad cI cJ cC σ) → va_S (zAW m_n ad s.heap.size) s.heap H locs → lv_has ls 9 [(0, .ref (ad 0)), (1, .long x1), (3, .int x3)] → W p l e rm_X12_findsSwap s m args below meth c H locs 0 0 (MQ below (zQi (dC, dI) (m_ty cI cJ cC) (m_W ad cI cJ cC) (zAW m_n ad s.heap.size) Q) args s 0 0 (zAW m_n ad s.heap.size)) (F0 m 2 ls []) := by
  intro f
  induction f with
  | zero => intro x1 x3 σ H locs ls h; exact h.elim
  | succ f ih =>
    intro x1 x3 σ H locs ls h hP hD hS hl
    exact tb_X12_findsSwap_2 C0 hK N  (k_2 := w_X12_findsSwap_2 N  Q f) ih x1 x3 σ H locs ls h hP hD hS hl
set_option maxHeartbeats 4000000 in
set_option maxRecDepth 100000 in
theorem t_X12_findsSwap_0 (C0 : zCx p s m meth c args RX12 cX12_findsSwap 9 (some .boolean) vs_X12_findsSwap) (hK : va_K (dC, dI) vwCl (m_ty cI cJ cC) s) (N : Nat) {Q : Int32 → zSt → Prop} : ∀ (x1 : Int64) (σ : zSt) (H : Heap) (locs : List Loc) (ls : Array Slot), w_X12_findsSwap N x1 σ Q → va_P (dC, dI) vwCl (m_W ad cI cJ cC σ) H → va_D (zAW m_n ad s.heap.size) (m_W ad cI cJ cC σ) → va_S (zAW m_n ad s.heap.size) s.heap H locs → lv_has ls 9 [(0, .ref (ad 0)), (1, .long x1)] → W p l e rm_X12_findsSwap s m args below meth c H locs 0 0 (MQ below (zQi (dC, dI) (m_ty cI cJ cC) (m_W ad cI cJ cC) (zAW m_n ad s.heap.size) Q) args s 0 0 (zAW m_n ad s.heap.size)) (F0 m 0 ls []) := by
  obtain ⟨hx, hb, hml, hr, hown, hts, hlocks⟩ := id C0
  intro x1 σ H locs ls h hP hD hS hl
  unfold w_X12_findsSwap at h
  refine lv_iconst (v := (0 : Int32)) hx hb dX12_findsSwap_0 (by decide) ?_
  refine lv_istore_n (lv' := [(3, .int (0 : Int32)), (0, .ref (ad 0)), (1, .long x1)]) hx hb dX12_findsSwap_1 rfl hl (by decide) rfl (fun ls hl => ?_)
  exact t_X12_findsSwap_2 C0 hK N  N x1 (0 : Int32) σ _ _ _ h hP hD hS (lv_sub hl [1, 2, 0] rfl)
set_option maxHeartbeats 4000000 in
set_option maxRecDepth 100000 in
theorem c_X12_findsSwap (N : Nat) (l : Launch) (dC : Nat → ClassId) (dI : Nat → Nat → Nat) (ad : Nat → Nat) (cI cJ cC : ClassId) (sz : Nat) (σ : zSt) (x1 : Int64) (Q : Int32 → zSt → Prop) (h : w_X12_findsSwap N x1 σ Q) : Met l yX12_findsSwap vs_X12_findsSwap rm_X12_findsSwap (va_Pc [.ref (ad 0), .long x1] (zPc (dC, dI) (m_ty cI cJ cC) (m_W ad cI cJ cC) sz σ)) (zQi (dC, dI) (m_ty cI cJ cC) (m_W ad cI cJ cC) (zAW m_n ad sz) Q) 0 0 (zAW m_n ad sz) := by
  refine Met.ofW (cc := cX12_findsSwap) (maxL := 9) (ret := (some .boolean)) (by decide) rfl ?_
  intro p e s m args below meth c s₁ B hml hv
  obtain ⟨rfl, hsz, hP, hK, hD0⟩ := hv
  subst hsz
  have C0 : zCx p s m meth c _ RX12 cX12_findsSwap 9 (some .boolean) vs_X12_findsSwap := ⟨B.exec, B.bytes, hml, B.returns, findClass_of_methodNamed B.named, atoms_spec (ws := vs_X12_findsSwap) B.pre, B.notSynchronized⟩
  have hD := m_D0 (n0 := s.heap.size) hD0
  have hl := lv_entry ([.ref (ad 0), .long x1]) (n := 9) (Nat.le_of_ble_eq_true rfl)
  rw [lg_entry_eq]
  generalize (lg_sl ([.ref (ad 0), .long x1]) ++ List.replicate (9 - (lg_sl ([.ref (ad 0), .long x1])).length) Slot.unset).toArray = ls at hl ⊢
  exact t_X12_findsSwap_0 C0 hK N x1 σ _ _ ls h hP hD va_S.rf hl
theorem k_X12_findsSwap (N : Nat) {R : Room} {H : Heap} {locs : List Loc} {cells slots : Nat} {Q2 : State → Prop} {cc : ByteArray} {nL pc index : Nat} {ls : Array Slot} {rest : List Value} {own : String} {c0 : Cond} {σ : zSt} {x1 : Int64} {Q : Int32 → zSt → Prop} (S0 : CallFix p m c cc nL s args (c0 :: zT) own) (hml : Cond.methodLink own index yX12_findsSwap ∈ zT) (hR : rm_X12_findsSwap.frames + 1 ≤ R.frames ∧ 8 + (9 + 11) + rm_X12_findsSwap.locals ≤ R.locals) (h : w_X12_findsSwap N x1 σ Q) (hK : va_K (dC, dI) vwCl (m_ty cI cJ cC) s) (hP : va_P (dC, dI) vwCl (m_W ad cI cJ cC σ) H) (hD : va_D (zAW m_n ad s.heap.size) (m_W ad cI cJ cC σ)) (hS : va_S (zAW m_n ad s.heap.size) s.heap H locs) (hsz : ls.size = nL) (hW : (rest.map fun v => v.category).sum ≤ 8) (hcs : cells ≤ R.cells ∧ slots ≤ R.slots) (hdg : decode cc pc = .ok (.invokevirtual index, 3)) (kk : ∀ (r : Int32) (τ : zSt) (H1 : Heap) (locs1 : List Loc), Q r τ → va_P (dC, dI) vwCl (m_W ad cI cJ cC τ) H1 → va_D (zAW m_n ad s.heap.size) (m_W ad cI cJ cC τ) → va_S (zAW m_n ad s.heap.size) s.heap H1 locs1 → W p l e R s m args below meth c H1 locs1 cells slots Q2 (F0 m (pc + 3) ls (.int r :: rest))) : W p l e R s m args below meth c H locs cells slots Q2 (F0 m pc ls (.long x1 :: .ref (ad 0) :: rest)) :=
  zcv_i (T := TX12) (N' := 83) (k := 0) (ci := 12) (fs := m_f0 ad σ) [.long x1] S0 (c_X12_findsSwap N l dC dI ad cI cJ cC H.size σ x1 Q h) (cw_X12_findsSwap S0.2.2.2.2 hml rfl rfl hR) rfl rfl hK hP hD hS rfl hsz hW rfl hcs hdg kk
end q22
section q22
def b_X12_ownTies_6 (N : Nat) (k_6 : Int64 → Int32 → Int64 → Int32 → zSt → Prop) (Q : Int64 → zSt → Prop) (x1 : Int64) (x3 : Int32) (x4 : Int64) (x6 : Int32) (σ : zSt) : Prop :=
  w_X12_many N σ (fun r1 τ2 => (r1 ≤ x6 → Q x4 τ2) ∧ (¬ r1 ≤ x6 → (x6 = x3 → ∀ v3 : Int32, v3 = x6 + (1 : Int32) → k_6 x1 x3 x4 v3 τ2) ∧ (¬ x6 = x3 → w_X12_tied N x3 x6 τ2 (fun r4 τ5 => ∀ v6 : Int64, v6 = x4 ||| (x1 &&& r4) → ∀ v7 : Int32, v7 = x6 + (1 : Int32) → k_6 x1 x3 v6 v7 τ5))))
def w_X12_ownTies_6 (N : Nat) (Q : Int64 → zSt → Prop) : Nat → Int64 → Int32 → Int64 → Int32 → zSt → Prop
  | 0 => fun _ _ _ _ _ => False
  | f + 1 => b_X12_ownTies_6 N (w_X12_ownTies_6 N  Q f) Q
def w_X12_ownTies (N : Nat) (x1 : Int64) (x3 : Int32) (σ : zSt) (Q : Int64 → zSt → Prop) : Prop :=
  w_X12_ownTies_6 N Q N x1 x3 (0 : Int64) (0 : Int32) σ
variable {p : Program} {l : Launch} {e : Env} {s : State} {m : MethodId} {args : Array Value} {below : List Frame} {meth : Method} {c : Code} {dC : Nat → ClassId} {dI : Nat → Nat → Nat} {ad : Nat → Nat} {cI cJ cC : ClassId}
set_option maxHeartbeats 4000000 in
set_option maxRecDepth 100000 in
theorem tb_X12_ownTies_6 (C0 : zCx p s m meth c args RX12 cX12_ownTies 7 (some .long) vs_X12_ownTies) (hK : va_K (dC, dI) vwCl (m_ty cI cJ cC) s) (N : Nat) {Q : Int64 → zSt → Prop} {k_6 : Int64 → Int32 → Int64 → Int32 → zSt → Prop} (hk_6 : ∀ (x1 : Int64) (x3 : Int32) (x4 : Int64) (x6 : Int32) (σ : zSt) (H : Heap) (locs : List Loc) (ls : Array Slot), k_6 x1 x3 x4 x6 σ → va_P (dC, dI) vwCl (m_W ad cI cJ cC σ) H → va_D (zAW m_n ad s.heap.size) (m_W ad cI cJ cC σ) → va_S (zAW m_n ad s.heap.size) s.heap H locs → lv_has ls 7 [(0, .ref (ad 0)), (1, .long x1), (3, .int x3), (4, .long x4), (6, .int x6)] → W p l e rm_X12_ownTies s m args below meth c H locs 0 0 (MQ below (zQl (dC, dI) (m_ty cI cJ cC) (m_W ad cI cJ cC) (zAW m_n ad s.heap.size) Q) args s 0 0 (zAW m_n ad s.heap.size)) (F0 m 6 ls [])) : ∀ (x1 : Int64) (x3 : Int32) (x4 : Int64) (x6 : Int32) (σ : zSt) (H : Heap) (locs : List Loc) (ls : Array Slot), b_X12_ownTies_6 N k_6 Q x1 x3 x4 x6 σ → va_P (dC, dI) vwCl (m_W ad cI cJ cC σ) H → va_D (zAW m_n ad s.heap.size) (m_W ad cI cJ cC σ) → va_S (zAW m_n ad s.heap.size) s.heap H locs → lv_has ls 7 [(0, .ref (ad 0)), (1, .long x1), (3, .int x3), (4, .long x4), (6, .int x6)] → W p l e rm_X12_ownTies s m args below meth c H locs 0 0 (MQ below (zQl (dC, dI) (m_ty cI cJ cC) (m_W ad cI cJ cC) (zAW m_n ad s.heap.size) Q) args s 0 0 (zAW m_n ad s.heap.size)) (F0 m 6 ls []) := by
  obtain ⟨hx, hb, hml, hr, hown, hts, hlocks⟩ := id C0
  intro x1 x3 x4 x6 σ H locs ls h hP hD hS hl
  unfold b_X12_ownTies_6 at h
  refine lv_iload hx hb dX12_ownTies_6 (lv_at hl 4 rfl) ?_
  refine lv_aload_n hx hb dX12_ownTies_8 rfl (lv_at hl 0 rfl) ?_
  refine k_X12_many N ⟨hx, hb, hml, hown, hts⟩ mw_1044 ⟨Nat.le_of_ble_eq_true rfl, Nat.le_of_ble_eq_true rfl⟩ h hK hP hD hS hl.1 (rest := [.int x6]) (Nat.le_of_ble_eq_true rfl) ⟨Nat.le_of_ble_eq_true rfl, Nat.le_of_ble_eq_true rfl⟩ dX12_ownTies_9 (fun r1 τ2 H locs h hP hD hS => ?_)
  refine lv_icmp_ge (tgt := 41) hx hb dX12_ownTies_12 (by decide) (fun hc => ?_) (fun hc => ?_)
  · have h := h.1 hc
    refine lv_lload hx hb dX12_ownTies_41 (lv_at hl 3 rfl) ?_
    exact zret_l hx hb hr hlocks hK hP hD hS h dX12_ownTies_43
  · have h := h.2 hc
    refine lv_iload hx hb dX12_ownTies_15 (lv_at hl 4 rfl) ?_
    refine lv_iload_n hx hb dX12_ownTies_17 rfl (lv_at hl 2 rfl) ?_
    refine lv_icmp_eq (tgt := 35) hx hb dX12_ownTies_18 (by decide) (fun hc => ?_) (fun hc => ?_)
    · have h := h.1 hc
      obtain ⟨v3, ev3⟩ : ∃ z : Int32, z = x6 + (1 : Int32) := ⟨_, rfl⟩
      have h := h v3 ev3
      refine lv_iinc (v := v3) (lv' := [(6, .int v3), (0, .ref (ad 0)), (1, .long x1), (3, .int x3), (4, .long x4)]) hx hb dX12_ownTies_35 hl (k := 4) rfl (by rw [ev3]; rfl) (by decide) rfl (fun ls hl => ?_)
      refine lv_goto (tgt := 6) hx hb dX12_ownTies_38 (by decide) ?_
      exact hk_6 x1 x3 x4 v3 τ2 _ _ _ h hP hD hS (lv_sub hl [1, 2, 3, 4, 0] rfl)
    · have h := h.2 hc
      refine lv_lload hx hb dX12_ownTies_21 (lv_at hl 3 rfl) ?_
      refine lv_lload_n hx hb dX12_ownTies_23 rfl (lv_at hl 1 rfl) ?_
      refine lv_aload_n hx hb dX12_ownTies_24 rfl (lv_at hl 0 rfl) ?_
      refine lv_iload_n hx hb dX12_ownTies_25 rfl (lv_at hl 2 rfl) ?_
      refine lv_iload hx hb dX12_ownTies_26 (lv_at hl 4 rfl) ?_
      refine k_X12_tied N ⟨hx, hb, hml, hown, hts⟩ mw_1085 ⟨Nat.le_of_ble_eq_true rfl, Nat.le_of_ble_eq_true rfl⟩ h hK hP hD hS hl.1 (rest := [.long x1, .long x4]) (Nat.le_of_ble_eq_true rfl) ⟨Nat.le_of_ble_eq_true rfl, Nat.le_of_ble_eq_true rfl⟩ dX12_ownTies_28 (fun r4 τ5 H locs h hP hD hS => ?_)
      refine lv_land hx hb dX12_ownTies_31 ?_
      refine lv_lor hx hb dX12_ownTies_32 ?_
      refine lv_topl (fun v6 ev6 => ?_)
      have h := h v6 ev6
      refine lv_lstore (lv' := [(4, .long v6), (0, .ref (ad 0)), (1, .long x1), (3, .int x3), (6, .int x6)]) hx hb dX12_ownTies_33 hl (by decide) rfl (fun ls hl => ?_)
      obtain ⟨v7, ev7⟩ : ∃ z : Int32, z = x6 + (1 : Int32) := ⟨_, rfl⟩
      have h := h v7 ev7
      refine lv_iinc (v := v7) (lv' := [(6, .int v7), (4, .long v6), (0, .ref (ad 0)), (1, .long x1), (3, .int x3)]) hx hb dX12_ownTies_35 hl (k := 4) rfl (by rw [ev7]; rfl) (by decide) rfl (fun ls hl => ?_)
      refine lv_goto (tgt := 6) hx hb dX12_ownTies_38 (by decide) ?_
      exact hk_6 x1 x3 v6 v7 τ5 _ _ _ h hP hD hS (lv_sub hl [2, 3, 4, 1, 0] rfl)
set_option maxHeartbeats 4000000 in
set_option maxRecDepth 100000 in
theorem t_X12_ownTies_6 (C0 : zCx p s m meth c args RX12 cX12_ownTies 7 (some .long) vs_X12_ownTies) (hK : va_K (dC, dI) vwCl (m_ty cI cJ cC) s) (N : Nat) {Q : Int64 → zSt → Prop} : ∀ (f : Nat) (x1 : Int64) (x3 : Int32) (x4 : Int64) (x6 : Int32) (σ : zSt) (H : Heap) (locs : List Loc) (ls : Array Slot), w_X12_ownTies_6 N  Q f x1 x3 x4 x6 σ → va_P (dC, dI) vwCl (m_W ad cI cJ cC σ) H → va_D (zAW m_n ad s.heap.size) (m_W ad cI cJ cC σ) → va_S (zAW m_n ad s.heap.size) s.heap H locs → lv_has ls 7 [(0, .ref (ad 0)), (1, .long x1), (3, .int x3), (4, .long x4), (6, .int x6)] → W p l e rm_X12_ownTies s m args below meth c H locs 0 0 (MQ below (zQl (dC, dI) (m_ty cI cJ cC) (m_W ad cI cJ cC) (zAW m_n ad s.heap.size) Q) args s 0 0 (zAW m_n ad s.heap.size)) (F0 m 6 ls []) := by
  intro f
  induction f with
  | zero => intro x1 x3 x4 x6 σ H locs ls h; exact h.elim
  | succ f ih =>
    intro x1 x3 x4 x6 σ H locs ls h hP hD hS hl
    exact tb_X12_ownTies_6 C0 hK N  (k_6 := w_X12_ownTies_6 N  Q f) ih x1 x3 x4 x6 σ H locs ls h hP hD hS hl
set_option maxHeartbeats 4000000 in
set_option maxRecDepth 100000 in
theorem t_X12_ownTies_0 (C0 : zCx p s m meth c args RX12 cX12_ownTies 7 (some .long) vs_X12_ownTies) (hK : va_K (dC, dI) vwCl (m_ty cI cJ cC) s) (N : Nat) {Q : Int64 → zSt → Prop} : ∀ (x1 : Int64) (x3 : Int32) (σ : zSt) (H : Heap) (locs : List Loc) (ls : Array Slot), w_X12_ownTies N x1 x3 σ Q → va_P (dC, dI) vwCl (m_W ad cI cJ cC σ) H → va_D (zAW m_n ad s.heap.size) (m_W ad cI cJ cC σ) → va_S (zAW m_n ad s.heap.size) s.heap H locs → lv_has ls 7 [(0, .ref (ad 0)), (1, .long x1), (3, .int x3)] → W p l e rm_X12_ownTies s m args below meth c H locs 0 0 (MQ below (zQl (dC, dI) (m_ty cI cJ cC) (m_W ad cI cJ cC) (zAW m_n ad s.heap.size) Q) args s 0 0 (zAW m_n ad s.heap.size)) (F0 m 0 ls []) := by
  obtain ⟨hx, hb, hml, hr, hown, hts, hlocks⟩ := id C0
  intro x1 x3 σ H locs ls h hP hD hS hl
  unfold w_X12_ownTies at h
  refine lv_lconst (v := (0 : Int64)) hx hb dX12_ownTies_0 (by decide) ?_
  refine lv_lstore (lv' := [(4, .long (0 : Int64)), (0, .ref (ad 0)), (1, .long x1), (3, .int x3)]) hx hb dX12_ownTies_1 hl (by decide) rfl (fun ls hl => ?_)
  refine lv_iconst (v := (0 : Int32)) hx hb dX12_ownTies_3 (by decide) ?_
  refine lv_istore (lv' := [(6, .int (0 : Int32)), (4, .long (0 : Int64)), (0, .ref (ad 0)), (1, .long x1), (3, .int x3)]) hx hb dX12_ownTies_4 hl (by decide) rfl (fun ls hl => ?_)
  exact t_X12_ownTies_6 C0 hK N  N x1 x3 (0 : Int64) (0 : Int32) σ _ _ _ h hP hD hS (lv_sub hl [2, 3, 4, 1, 0] rfl)
set_option maxHeartbeats 4000000 in
set_option maxRecDepth 100000 in
theorem c_X12_ownTies (N : Nat) (l : Launch) (dC : Nat → ClassId) (dI : Nat → Nat → Nat) (ad : Nat → Nat) (cI cJ cC : ClassId) (sz : Nat) (σ : zSt) (x1 : Int64) (x3 : Int32) (Q : Int64 → zSt → Prop) (h : w_X12_ownTies N x1 x3 σ Q) : Met l yX12_ownTies vs_X12_ownTies rm_X12_ownTies (va_Pc [.ref (ad 0), .long x1, .int x3] (zPc (dC, dI) (m_ty cI cJ cC) (m_W ad cI cJ cC) sz σ)) (zQl (dC, dI) (m_ty cI cJ cC) (m_W ad cI cJ cC) (zAW m_n ad sz) Q) 0 0 (zAW m_n ad sz) := by
  refine Met.ofW (cc := cX12_ownTies) (maxL := 7) (ret := (some .long)) (by decide) rfl ?_
  intro p e s m args below meth c s₁ B hml hv
  obtain ⟨rfl, hsz, hP, hK, hD0⟩ := hv
  subst hsz
  have C0 : zCx p s m meth c _ RX12 cX12_ownTies 7 (some .long) vs_X12_ownTies := ⟨B.exec, B.bytes, hml, B.returns, findClass_of_methodNamed B.named, atoms_spec (ws := vs_X12_ownTies) B.pre, B.notSynchronized⟩
  have hD := m_D0 (n0 := s.heap.size) hD0
  have hl := lv_entry ([.ref (ad 0), .long x1, .int x3]) (n := 7) (Nat.le_of_ble_eq_true rfl)
  rw [lg_entry_eq]
  generalize (lg_sl ([.ref (ad 0), .long x1, .int x3]) ++ List.replicate (7 - (lg_sl ([.ref (ad 0), .long x1, .int x3])).length) Slot.unset).toArray = ls at hl ⊢
  exact t_X12_ownTies_0 C0 hK N x1 x3 σ _ _ ls h hP hD va_S.rf hl
theorem k_X12_ownTies (N : Nat) {R : Room} {H : Heap} {locs : List Loc} {cells slots : Nat} {Q2 : State → Prop} {cc : ByteArray} {nL pc index : Nat} {ls : Array Slot} {rest : List Value} {own : String} {c0 : Cond} {σ : zSt} {x1 : Int64} {x3 : Int32} {Q : Int64 → zSt → Prop} (S0 : CallFix p m c cc nL s args (c0 :: zT) own) (hml : Cond.methodLink own index yX12_ownTies ∈ zT) (hR : rm_X12_ownTies.frames + 1 ≤ R.frames ∧ 8 + (7 + 11) + rm_X12_ownTies.locals ≤ R.locals) (h : w_X12_ownTies N x1 x3 σ Q) (hK : va_K (dC, dI) vwCl (m_ty cI cJ cC) s) (hP : va_P (dC, dI) vwCl (m_W ad cI cJ cC σ) H) (hD : va_D (zAW m_n ad s.heap.size) (m_W ad cI cJ cC σ)) (hS : va_S (zAW m_n ad s.heap.size) s.heap H locs) (hsz : ls.size = nL) (hW : (rest.map fun v => v.category).sum ≤ 8) (hcs : cells ≤ R.cells ∧ slots ≤ R.slots) (hdg : decode cc pc = .ok (.invokevirtual index, 3)) (kk : ∀ (r : Int64) (τ : zSt) (H1 : Heap) (locs1 : List Loc), Q r τ → va_P (dC, dI) vwCl (m_W ad cI cJ cC τ) H1 → va_D (zAW m_n ad s.heap.size) (m_W ad cI cJ cC τ) → va_S (zAW m_n ad s.heap.size) s.heap H1 locs1 → W p l e R s m args below meth c H1 locs1 cells slots Q2 (F0 m (pc + 3) ls (.long r :: rest))) : W p l e R s m args below meth c H locs cells slots Q2 (F0 m pc ls (.int x3 :: .long x1 :: .ref (ad 0) :: rest)) :=
  zcv_l (T := TX12) (N' := 83) (k := 0) (ci := 12) (fs := m_f0 ad σ) [.long x1, .int x3] S0 (c_X12_ownTies N l dC dI ad cI cJ cC H.size σ x1 x3 Q h) (cw_X12_ownTies S0.2.2.2.2 hml rfl rfl hR) rfl rfl hK hP hD hS rfl hsz hW rfl hcs hdg kk
end q22
section q22
def b_X12_findsSeveral_75 (N : Nat) (k_2 : Int64 → Int32 → zSt → Prop) (k_26 : Int64 → Int32 → Int64 → Int64 → zSt → Prop) (Q : Int32 → zSt → Prop) (x1 : Int64) (x3 : Int32) (x4 : Int64) (x6 : Int64) (σ : zSt) : Prop :=
  ∀ v1 : Int64, v1 = (x6 - x4) &&& x4 → k_26 x1 x3 x4 v1 σ
def b_X12_findsSeveral_26 (N : Nat) (k_2 : Int64 → Int32 → zSt → Prop) (k_26 : Int64 → Int32 → Int64 → Int64 → zSt → Prop) (Q : Int32 → zSt → Prop) (x1 : Int64) (x3 : Int32) (x4 : Int64) (x6 : Int64) (σ : zSt) : Prop :=
  ((lg_cmp x6 (0 : Int64)) = 0 → ∀ v1 : Int32, v1 = x3 + (1 : Int32) → k_2 x1 v1 σ) ∧ (¬ (lg_cmp x6 (0 : Int64)) = 0 → w_X12_bits N x6 σ (fun r2 τ3 => (r2 ≤ (1 : Int32) → b_X12_findsSeveral_75 N k_2 k_26 Q x1 x3 x4 x6 τ3) ∧ (¬ r2 ≤ (1 : Int32) → w_X12_gains N (x1 &&& (x6 ^^^ (-1 : Int64))) x3 τ3 (fun r4 τ5 => (r4 = 0 → b_X12_findsSeveral_75 N k_2 k_26 Q x1 x3 x4 x6 τ5) ∧ (¬ r4 = 0 → w_X12_finds N (2 : Int32) ((1 : Int32) <<< (x3 &&& 31)) (x1 &&& (x6 ^^^ (-1 : Int64))) τ5 (fun r6 τ7 => (zb r6) ∧ Q r6 τ7))))))
def w_X12_findsSeveral_26 (N : Nat) (k_2 : Int64 → Int32 → zSt → Prop) (Q : Int32 → zSt → Prop) : Nat → Int64 → Int32 → Int64 → Int64 → zSt → Prop
  | 0 => fun _ _ _ _ _ => False
  | f + 1 => b_X12_findsSeveral_26 N k_2 (w_X12_findsSeveral_26 N k_2 Q f) Q
def b_X12_findsSeveral_2 (N : Nat) (k_2 : Int64 → Int32 → zSt → Prop) (Q : Int32 → zSt → Prop) (x1 : Int64) (x3 : Int32) (σ : zSt) : Prop :=
  w_X12_many N σ (fun r1 τ2 => (r1 ≤ x3 → Q (0 : Int32) τ2) ∧ (¬ r1 ≤ x3 → w_X12_ownTies N x1 x3 τ2 (fun r3 τ4 => ∀ v5 : Int64, v5 = r3 &&& (-r3) → w_X12_findsSeveral_26 N k_2 Q N x1 x3 r3 v5 τ4)))
def w_X12_findsSeveral_2 (N : Nat) (Q : Int32 → zSt → Prop) : Nat → Int64 → Int32 → zSt → Prop
  | 0 => fun _ _ _ => False
  | f + 1 => b_X12_findsSeveral_2 N (w_X12_findsSeveral_2 N  Q f) Q
def w_X12_findsSeveral (N : Nat) (x1 : Int64) (σ : zSt) (Q : Int32 → zSt → Prop) : Prop :=
  w_X12_findsSeveral_2 N Q N x1 (0 : Int32) σ
variable {p : Program} {l : Launch} {e : Env} {s : State} {m : MethodId} {args : Array Value} {below : List Frame} {meth : Method} {c : Code} {dC : Nat → ClassId} {dI : Nat → Nat → Nat} {ad : Nat → Nat} {cI cJ cC : ClassId}
set_option maxHeartbeats 4000000 in
set_option maxRecDepth 100000 in
theorem t_X12_findsSeveral_75 (C0 : zCx p s m meth c args RX12 cX12_findsSeveral 8 (some .boolean) vs_X12_findsSeveral) (hK : va_K (dC, dI) vwCl (m_ty cI cJ cC) s) (N : Nat) {Q : Int32 → zSt → Prop} {k_2 : Int64 → Int32 → zSt → Prop} (hk_2 : ∀ (x1 : Int64) (x3 : Int32) (σ : zSt) (H : Heap) (locs : List Loc) (ls : Array Slot), k_2 x1 x3 σ → va_P (dC, dI) vwCl (m_W ad cI cJ cC σ) H → va_D (zAW m_n ad s.heap.size) (m_W ad cI cJ cC σ) → va_S (zAW m_n ad s.heap.size) s.heap H locs → lv_has ls 8 [(0, .ref (ad 0)), (1, .long x1), (3, .int x3)] → W p l e rm_X12_findsSeveral s m args below meth c H locs 0 0 (MQ below (zQi (dC, dI) (m_ty cI cJ cC) (m_W ad cI cJ cC) (zAW m_n ad s.heap.size) Q) args s 0 0 (zAW m_n ad s.heap.size)) (F0 m 2 ls [])) {k_26 : Int64 → Int32 → Int64 → Int64 → zSt → Prop} (hk_26 : ∀ (x1 : Int64) (x3 : Int32) (x4 : Int64) (x6 : Int64) (σ : zSt) (H : Heap) (locs : List Loc) (ls : Array Slot), k_26 x1 x3 x4 x6 σ → va_P (dC, dI) vwCl (m_W ad cI cJ cC σ) H → va_D (zAW m_n ad s.heap.size) (m_W ad cI cJ cC σ) → va_S (zAW m_n ad s.heap.size) s.heap H locs → lv_has ls 8 [(0, .ref (ad 0)), (1, .long x1), (3, .int x3), (4, .long x4), (6, .long x6)] → W p l e rm_X12_findsSeveral s m args below meth c H locs 0 0 (MQ below (zQi (dC, dI) (m_ty cI cJ cC) (m_W ad cI cJ cC) (zAW m_n ad s.heap.size) Q) args s 0 0 (zAW m_n ad s.heap.size)) (F0 m 26 ls [])) : ∀ (x1 : Int64) (x3 : Int32) (x4 : Int64) (x6 : Int64) (σ : zSt) (H : Heap) (locs : List Loc) (ls : Array Slot), b_X12_findsSeveral_75 N k_2 k_26 Q x1 x3 x4 x6 σ → va_P (dC, dI) vwCl (m_W ad cI cJ cC σ) H → va_D (zAW m_n ad s.heap.size) (m_W ad cI cJ cC σ) → va_S (zAW m_n ad s.heap.size) s.heap H locs → lv_has ls 8 [(0, .ref (ad 0)), (1, .long x1), (3, .int x3), (4, .long x4), (6, .long x6)] → W p l e rm_X12_findsSeveral s m args below meth c H locs 0 0 (MQ below (zQi (dC, dI) (m_ty cI cJ cC) (m_W ad cI cJ cC) (zAW m_n ad s.heap.size) Q) args s 0 0 (zAW m_n ad s.heap.size)) (F0 m 75 ls []) := by
  obtain ⟨hx, hb, hml, hr, hown, hts, hlocks⟩ := id C0
  intro x1 x3 x4 x6 σ H locs ls h hP hD hS hl
  unfold b_X12_findsSeveral_75 at h
  refine lv_lload hx hb dX12_findsSeveral_75 (lv_at hl 4 rfl) ?_
  refine lv_lload hx hb dX12_findsSeveral_77 (lv_at hl 3 rfl) ?_
  refine lv_lsub hx hb dX12_findsSeveral_79 ?_
  refine lv_lload hx hb dX12_findsSeveral_80 (lv_at hl 3 rfl) ?_
  refine lv_land hx hb dX12_findsSeveral_82 ?_
  refine lv_topl (fun v1 ev1 => ?_)
  have h := h v1 ev1
  refine lv_lstore (lv' := [(6, .long v1), (0, .ref (ad 0)), (1, .long x1), (3, .int x3), (4, .long x4)]) hx hb dX12_findsSeveral_83 hl (by decide) rfl (fun ls hl => ?_)
  refine lv_goto (tgt := 26) hx hb dX12_findsSeveral_85 (by decide) ?_
  exact hk_26 x1 x3 x4 v1 σ _ _ _ h hP hD hS (lv_sub hl [1, 2, 3, 4, 0] rfl)
set_option maxHeartbeats 4000000 in
set_option maxRecDepth 100000 in
theorem tb_X12_findsSeveral_26 (C0 : zCx p s m meth c args RX12 cX12_findsSeveral 8 (some .boolean) vs_X12_findsSeveral) (hK : va_K (dC, dI) vwCl (m_ty cI cJ cC) s) (N : Nat) {Q : Int32 → zSt → Prop} {k_2 : Int64 → Int32 → zSt → Prop} (hk_2 : ∀ (x1 : Int64) (x3 : Int32) (σ : zSt) (H : Heap) (locs : List Loc) (ls : Array Slot), k_2 x1 x3 σ → va_P (dC, dI) vwCl (m_W ad cI cJ cC σ) H → va_D (zAW m_n ad s.heap.size) (m_W ad cI cJ cC σ) → va_S (zAW m_n ad s.heap.size) s.heap H locs → lv_has ls 8 [(0, .ref (ad 0)), (1, .long x1), (3, .int x3)] → W p l e rm_X12_findsSeveral s m args below meth c H locs 0 0 (MQ below (zQi (dC, dI) (m_ty cI cJ cC) (m_W ad cI cJ cC) (zAW m_n ad s.heap.size) Q) args s 0 0 (zAW m_n ad s.heap.size)) (F0 m 2 ls [])) {k_26 : Int64 → Int32 → Int64 → Int64 → zSt → Prop} (hk_26 : ∀ (x1 : Int64) (x3 : Int32) (x4 : Int64) (x6 : Int64) (σ : zSt) (H : Heap) (locs : List Loc) (ls : Array Slot), k_26 x1 x3 x4 x6 σ → va_P (dC, dI) vwCl (m_W ad cI cJ cC σ) H → va_D (zAW m_n ad s.heap.size) (m_W ad cI cJ cC σ) → va_S (zAW m_n ad s.heap.size) s.heap H locs → lv_has ls 8 [(0, .ref (ad 0)), (1, .long x1), (3, .int x3), (4, .long x4), (6, .long x6)] → W p l e rm_X12_findsSeveral s m args below meth c H locs 0 0 (MQ below (zQi (dC, dI) (m_ty cI cJ cC) (m_W ad cI cJ cC) (zAW m_n ad s.heap.size) Q) args s 0 0 (zAW m_n ad s.heap.size)) (F0 m 26 ls [])) : ∀ (x1 : Int64) (x3 : Int32) (x4 : Int64) (x6 : Int64) (σ : zSt) (H : Heap) (locs : List Loc) (ls : Array Slot), b_X12_findsSeveral_26 N k_2 k_26 Q x1 x3 x4 x6 σ → va_P (dC, dI) vwCl (m_W ad cI cJ cC σ) H → va_D (zAW m_n ad s.heap.size) (m_W ad cI cJ cC σ) → va_S (zAW m_n ad s.heap.size) s.heap H locs → lv_has ls 8 [(0, .ref (ad 0)), (1, .long x1), (3, .int x3), (4, .long x4), (6, .long x6)] → W p l e rm_X12_findsSeveral s m args below meth c H locs 0 0 (MQ below (zQi (dC, dI) (m_ty cI cJ cC) (m_W ad cI cJ cC) (zAW m_n ad s.heap.size) Q) args s 0 0 (zAW m_n ad s.heap.size)) (F0 m 26 ls []) := by
  obtain ⟨hx, hb, hml, hr, hown, hts, hlocks⟩ := id C0
  intro x1 x3 x4 x6 σ H locs ls h hP hD hS hl
  unfold b_X12_findsSeveral_26 at h
  refine lv_lload hx hb dX12_findsSeveral_26 (lv_at hl 4 rfl) ?_
  refine lv_lconst (v := (0 : Int64)) hx hb dX12_findsSeveral_28 (by decide) ?_
  refine W.lcmp hx hb dX12_findsSeveral_29 ?_
  refine lv_if_eq (tgt := 88) hx hb dX12_findsSeveral_30 (by decide) (fun hc => ?_) (fun hc => ?_)
  · have h := h.1 hc
    obtain ⟨v1, ev1⟩ : ∃ z : Int32, z = x3 + (1 : Int32) := ⟨_, rfl⟩
    have h := h v1 ev1
    refine lv_iinc (v := v1) (lv' := [(3, .int v1), (0, .ref (ad 0)), (1, .long x1), (4, .long x4), (6, .long x6)]) hx hb dX12_findsSeveral_88 hl (k := 2) rfl (by rw [ev1]; rfl) (by decide) rfl (fun ls hl => ?_)
    refine lv_goto (tgt := 2) hx hb dX12_findsSeveral_91 (by decide) ?_
    exact hk_2 x1 v1 σ _ _ _ h hP hD hS (lv_sub hl [1, 2, 0] rfl)
  · have h := h.2 hc
    refine lv_lload hx hb dX12_findsSeveral_33 (lv_at hl 4 rfl) ?_
    refine k_X12_bits N ⟨hx, hb, hml, hown, hts⟩ mw_1050 ⟨Nat.le_of_ble_eq_true rfl, Nat.le_of_ble_eq_true rfl⟩ h hK hP hD hS hl.1 (rest := []) (Nat.le_of_ble_eq_true rfl) ⟨Nat.le_of_ble_eq_true rfl, Nat.le_of_ble_eq_true rfl⟩ dX12_findsSeveral_35 (fun r2 τ3 H locs h hP hD hS => ?_)
    refine lv_iconst (v := (1 : Int32)) hx hb dX12_findsSeveral_38 (by decide) ?_
    refine lv_icmp_le (tgt := 75) hx hb dX12_findsSeveral_39 (by decide) (fun hc => ?_) (fun hc => ?_)
    · have h := h.1 hc
      exact t_X12_findsSeveral_75 C0 hK N hk_2 hk_26 x1 x3 x4 x6 τ3 _ _ _ h hP hD hS (lv_sub hl [0, 1, 2, 3, 4] rfl)
    · have h := h.2 hc
      refine lv_aload_n hx hb dX12_findsSeveral_42 rfl (lv_at hl 0 rfl) ?_
      refine lv_lload_n hx hb dX12_findsSeveral_43 rfl (lv_at hl 1 rfl) ?_
      refine lv_lload hx hb dX12_findsSeveral_44 (lv_at hl 4 rfl) ?_
      refine lv_ldc2 (v := (-1 : Int64)) hx hb hown (hts _ (List.mem_cons_of_mem _ mw_832)) dX12_findsSeveral_46 ?_
      refine lv_lxor hx hb dX12_findsSeveral_49 ?_
      refine lv_land hx hb dX12_findsSeveral_50 ?_
      refine lv_iload_n hx hb dX12_findsSeveral_51 rfl (lv_at hl 2 rfl) ?_
      refine k_X12_gains N ⟨hx, hb, hml, hown, hts⟩ mw_1175 ⟨Nat.le_of_ble_eq_true rfl, Nat.le_of_ble_eq_true rfl⟩ h hK hP hD hS hl.1 (rest := []) (Nat.le_of_ble_eq_true rfl) ⟨Nat.le_of_ble_eq_true rfl, Nat.le_of_ble_eq_true rfl⟩ dX12_findsSeveral_52 (fun r4 τ5 H locs h hP hD hS => ?_)
      refine lv_if_eq (tgt := 75) hx hb dX12_findsSeveral_55 (by decide) (fun hc => ?_) (fun hc => ?_)
      · have h := h.1 hc
        exact t_X12_findsSeveral_75 C0 hK N hk_2 hk_26 x1 x3 x4 x6 τ5 _ _ _ h hP hD hS (lv_sub hl [0, 1, 2, 3, 4] rfl)
      · have h := h.2 hc
        refine lv_aload_n hx hb dX12_findsSeveral_58 rfl (lv_at hl 0 rfl) ?_
        refine lv_iconst (v := (2 : Int32)) hx hb dX12_findsSeveral_59 (by decide) ?_
        refine lv_iconst (v := (1 : Int32)) hx hb dX12_findsSeveral_60 (by decide) ?_
        refine lv_iload_n hx hb dX12_findsSeveral_61 rfl (lv_at hl 2 rfl) ?_
        refine lv_ishl hx hb dX12_findsSeveral_62 ?_
        refine lv_lload_n hx hb dX12_findsSeveral_63 rfl (lv_at hl 1 rfl) ?_
        refine lv_lload hx hb dX12_findsSeveral_64 (lv_at hl 4 rfl) ?_
        refine lv_ldc2 (v := (-1 : Int64)) hx hb hown (hts _ (List.mem_cons_of_mem _ mw_832)) dX12_findsSeveral_66 ?_
        refine lv_lxor hx hb dX12_findsSeveral_69 ?_
        refine lv_land hx hb dX12_findsSeveral_70 ?_
        refine k_X12_finds N ⟨hx, hb, hml, hown, hts⟩ mw_1160 ⟨Nat.le_of_ble_eq_true rfl, Nat.le_of_ble_eq_true rfl⟩ h hK hP hD hS hl.1 (rest := []) (Nat.le_of_ble_eq_true rfl) ⟨Nat.le_of_ble_eq_true rfl, Nat.le_of_ble_eq_true rfl⟩ dX12_findsSeveral_71 (fun r6 τ7 H locs h hP hD hS => ?_)
        exact zret_z hx hb hr hlocks hK hP hD hS h.1 h.2 dX12_findsSeveral_74
set_option maxHeartbeats 4000000 in
set_option maxRecDepth 100000 in
theorem t_X12_findsSeveral_26 (C0 : zCx p s m meth c args RX12 cX12_findsSeveral 8 (some .boolean) vs_X12_findsSeveral) (hK : va_K (dC, dI) vwCl (m_ty cI cJ cC) s) (N : Nat) {Q : Int32 → zSt → Prop} {k_2 : Int64 → Int32 → zSt → Prop} (hk_2 : ∀ (x1 : Int64) (x3 : Int32) (σ : zSt) (H : Heap) (locs : List Loc) (ls : Array Slot), k_2 x1 x3 σ → va_P (dC, dI) vwCl (m_W ad cI cJ cC σ) H → va_D (zAW m_n ad s.heap.size) (m_W ad cI cJ cC σ) → va_S (zAW m_n ad s.heap.size) s.heap H locs → lv_has ls 8 [(0, .ref (ad 0)), (1, .long x1), (3, .int x3)] → W p l e rm_X12_findsSeveral s m args below meth c H locs 0 0 (MQ below (zQi (dC, dI) (m_ty cI cJ cC) (m_W ad cI cJ cC) (zAW m_n ad s.heap.size) Q) args s 0 0 (zAW m_n ad s.heap.size)) (F0 m 2 ls [])) : ∀ (f : Nat) (x1 : Int64) (x3 : Int32) (x4 : Int64) (x6 : Int64) (σ : zSt) (H : Heap) (locs : List Loc) (ls : Array Slot), w_X12_findsSeveral_26 N k_2 Q f x1 x3 x4 x6 σ → va_P (dC, dI) vwCl (m_W ad cI cJ cC σ) H → va_D (zAW m_n ad s.heap.size) (m_W ad cI cJ cC σ) → va_S (zAW m_n ad s.heap.size) s.heap H locs → lv_has ls 8 [(0, .ref (ad 0)), (1, .long x1), (3, .int x3), (4, .long x4), (6, .long x6)] → W p l e rm_X12_findsSeveral s m args below meth c H locs 0 0 (MQ below (zQi (dC, dI) (m_ty cI cJ cC) (m_W ad cI cJ cC) (zAW m_n ad s.heap.size) Q) args s 0 0 (zAW m_n ad s.heap.size)) (F0 m 26 ls []) := by
  intro f
  induction f with
  | zero => intro x1 x3 x4 x6 σ H locs ls h; exact h.elim
  | succ f ih =>
    intro x1 x3 x4 x6 σ H locs ls h hP hD hS hl
    exact tb_X12_findsSeveral_26 C0 hK N hk_2 (k_26 := w_X12_findsSeveral_26 N k_2 Q f) ih x1 x3 x4 x6 σ H locs ls h hP hD hS hl
set_option maxHeartbeats 4000000 in
set_option maxRecDepth 100000 in
theorem tb_X12_findsSeveral_2 (C0 : zCx p s m meth c args RX12 cX12_findsSeveral 8 (some .boolean) vs_X12_findsSeveral) (hK : va_K (dC, dI) vwCl (m_ty cI cJ cC) s) (N : Nat) {Q : Int32 → zSt → Prop} {k_2 : Int64 → Int32 → zSt → Prop} (hk_2 : ∀ (x1 : Int64) (x3 : Int32) (σ : zSt) (H : Heap) (locs : List Loc) (ls : Array Slot), k_2 x1 x3 σ → va_P (dC, dI) vwCl (m_W ad cI cJ cC σ) H → va_D (zAW m_n ad s.heap.size) (m_W ad cI cJ cC σ) → va_S (zAW m_n ad s.heap.size) s.heap H locs → lv_has ls 8 [(0, .ref (ad 0)), (1, .long x1), (3, .int x3)] → W p l e rm_X12_findsSeveral s m args below meth c H locs 0 0 (MQ below (zQi (dC, dI) (m_ty cI cJ cC) (m_W ad cI cJ cC) (zAW m_n ad s.heap.size) Q) args s 0 0 (zAW m_n ad s.heap.size)) (F0 m 2 ls [])) : ∀ (x1 : Int64) (x3 : Int32) (σ : zSt) (H : Heap) (locs : List Loc) (ls : Array Slot), b_X12_findsSeveral_2 N k_2 Q x1 x3 σ → va_P (dC, dI) vwCl (m_W ad cI cJ cC σ) H → va_D (zAW m_n ad s.heap.size) (m_W ad cI cJ cC σ) → va_S (zAW m_n ad s.heap.size) s.heap H locs → lv_has ls 8 [(0, .ref (ad 0)), (1, .long x1), (3, .int x3)] → W p l e rm_X12_findsSeveral s m args below meth c H locs 0 0 (MQ below (zQi (dC, dI) (m_ty cI cJ cC) (m_W ad cI cJ cC) (zAW m_n ad s.heap.size) Q) args s 0 0 (zAW m_n ad s.heap.size)) (F0 m 2 ls []) := by
  obtain ⟨hx, hb, hml, hr, hown, hts, hlocks⟩ := id C0
  intro x1 x3 σ H locs ls h hP hD hS hl
  unfold b_X12_findsSeveral_2 at h
  refine lv_iload_n hx hb dX12_findsSeveral_2 rfl (lv_at hl 2 rfl) ?_
  refine lv_aload_n hx hb dX12_findsSeveral_3 rfl (lv_at hl 0 rfl) ?_
  refine k_X12_many N ⟨hx, hb, hml, hown, hts⟩ mw_1044 ⟨Nat.le_of_ble_eq_true rfl, Nat.le_of_ble_eq_true rfl⟩ h hK hP hD hS hl.1 (rest := [.int x3]) (Nat.le_of_ble_eq_true rfl) ⟨Nat.le_of_ble_eq_true rfl, Nat.le_of_ble_eq_true rfl⟩ dX12_findsSeveral_4 (fun r1 τ2 H locs h hP hD hS => ?_)
  refine lv_icmp_ge (tgt := 94) hx hb dX12_findsSeveral_7 (by decide) (fun hc => ?_) (fun hc => ?_)
  · have h := h.1 hc
    refine lv_iconst (v := (0 : Int32)) hx hb dX12_findsSeveral_94 (by decide) ?_
    exact zret_z hx hb hr hlocks hK hP hD hS zb_0 h dX12_findsSeveral_95
  · have h := h.2 hc
    refine lv_aload_n hx hb dX12_findsSeveral_10 rfl (lv_at hl 0 rfl) ?_
    refine lv_lload_n hx hb dX12_findsSeveral_11 rfl (lv_at hl 1 rfl) ?_
    refine lv_iload_n hx hb dX12_findsSeveral_12 rfl (lv_at hl 2 rfl) ?_
    refine k_X12_ownTies N ⟨hx, hb, hml, hown, hts⟩ mw_1187 ⟨Nat.le_of_ble_eq_true rfl, Nat.le_of_ble_eq_true rfl⟩ h hK hP hD hS hl.1 (rest := []) (Nat.le_of_ble_eq_true rfl) ⟨Nat.le_of_ble_eq_true rfl, Nat.le_of_ble_eq_true rfl⟩ dX12_findsSeveral_13 (fun r3 τ4 H locs h hP hD hS => ?_)
    refine lv_lstore (lv' := [(4, .long r3), (0, .ref (ad 0)), (1, .long x1), (3, .int x3)]) hx hb dX12_findsSeveral_16 hl (by decide) rfl (fun ls hl => ?_)
    refine lv_lload hx hb dX12_findsSeveral_18 (lv_at hl 0 rfl) ?_
    refine lv_lload hx hb dX12_findsSeveral_20 (lv_at hl 0 rfl) ?_
    refine lv_lneg hx hb dX12_findsSeveral_22 ?_
    refine lv_land hx hb dX12_findsSeveral_23 ?_
    refine lv_topl (fun v5 ev5 => ?_)
    have h := h v5 ev5
    refine lv_lstore (lv' := [(6, .long v5), (4, .long r3), (0, .ref (ad 0)), (1, .long x1), (3, .int x3)]) hx hb dX12_findsSeveral_24 hl (by decide) rfl (fun ls hl => ?_)
    exact t_X12_findsSeveral_26 C0 hK N hk_2 N x1 x3 r3 v5 τ4 _ _ _ h hP hD hS (lv_sub hl [2, 3, 4, 1, 0] rfl)
set_option maxHeartbeats 4000000 in
set_option maxRecDepth 100000 in
theorem t_X12_findsSeveral_2 (C0 : zCx p s m meth c args RX12 cX12_findsSeveral 8 (some .boolean) vs_X12_findsSeveral) (hK : va_K (dC, dI) vwCl (m_ty cI cJ cC) s) (N : Nat) {Q : Int32 → zSt → Prop} : ∀ (f : Nat) (x1 : Int64) (x3 : Int32) (σ : zSt) (H : Heap) (locs : List Loc) (ls : Array Slot), w_X12_findsSeveral_2 N  Q f x1 x3 σ → va_P (dC, dI) vwCl (m_W ad cI cJ cC σ) H → va_D (zAW m_n ad s.heap.size) (m_W ad cI cJ cC σ) → va_S (zAW m_n ad s.heap.size) s.heap H locs → lv_has ls 8 [(0, .ref (ad 0)), (1, .long x1), (3, .int x3)] → W p l e rm_X12_findsSeveral s m args below meth c H locs 0 0 (MQ below (zQi (dC, dI) (m_ty cI cJ cC) (m_W ad cI cJ cC) (zAW m_n ad s.heap.size) Q) args s 0 0 (zAW m_n ad s.heap.size)) (F0 m 2 ls []) := by
  intro f
  induction f with
  | zero => intro x1 x3 σ H locs ls h; exact h.elim
  | succ f ih =>
    intro x1 x3 σ H locs ls h hP hD hS hl
    exact tb_X12_findsSeveral_2 C0 hK N  (k_2 := w_X12_findsSeveral_2 N  Q f) ih x1 x3 σ H locs ls h hP hD hS hl
set_option maxHeartbeats 4000000 in
set_option maxRecDepth 100000 in
theorem t_X12_findsSeveral_0 (C0 : zCx p s m meth c args RX12 cX12_findsSeveral 8 (some .boolean) vs_X12_findsSeveral) (hK : va_K (dC, dI) vwCl (m_ty cI cJ cC) s) (N : Nat) {Q : Int32 → zSt → Prop} : ∀ (x1 : Int64) (σ : zSt) (H : Heap) (locs : List Loc) (ls : Array Slot), w_X12_findsSeveral N x1 σ Q → va_P (dC, dI) vwCl (m_W ad cI cJ cC σ) H → va_D (zAW m_n ad s.heap.size) (m_W ad cI cJ cC σ) → va_S (zAW m_n ad s.heap.size) s.heap H locs → lv_has ls 8 [(0, .ref (ad 0)), (1, .long x1)] → W p l e rm_X12_findsSeveral s m args below meth c H locs 0 0 (MQ below (zQi (dC, dI) (m_ty cI cJ cC) (m_W ad cI cJ cC) (zAW m_n ad s.heap.size) Q) args s 0 0 (zAW m_n ad s.heap.size)) (F0 m 0 ls []) := by
  obtain ⟨hx, hb, hml, hr, hown, hts, hlocks⟩ := id C0
  intro x1 σ H locs ls h hP hD hS hl
  unfold w_X12_findsSeveral at h
  refine lv_iconst (v := (0 : Int32)) hx hb dX12_findsSeveral_0 (by decide) ?_
  refine lv_istore_n (lv' := [(3, .int (0 : Int32)), (0, .ref (ad 0)), (1, .long x1)]) hx hb dX12_findsSeveral_1 rfl hl (by decide) rfl (fun ls hl => ?_)
  exact t_X12_findsSeveral_2 C0 hK N  N x1 (0 : Int32) σ _ _ _ h hP hD hS (lv_sub hl [1, 2, 0] rfl)
set_option maxHeartbeats 4000000 in
set_option maxRecDepth 100000 in
theorem c_X12_findsSeveral (N : Nat) (l : Launch) (dC : Nat → ClassId) (dI : Nat → Nat → Nat) (ad : Nat → Nat) (cI cJ cC : ClassId) (sz : Nat) (σ : zSt) (x1 : Int64) (Q : Int32 → zSt → Prop) (h : w_X12_findsSeveral N x1 σ Q) : Met l yX12_findsSeveral vs_X12_findsSeveral rm_X12_findsSeveral (va_Pc [.ref (ad 0), .long x1] (zPc (dC, dI) (m_ty cI cJ cC) (m_W ad cI cJ cC) sz σ)) (zQi (dC, dI) (m_ty cI cJ cC) (m_W ad cI cJ cC) (zAW m_n ad sz) Q) 0 0 (zAW m_n ad sz) := by
  refine Met.ofW (cc := cX12_findsSeveral) (maxL := 8) (ret := (some .boolean)) (by decide) rfl ?_
  intro p e s m args below meth c s₁ B hml hv
  obtain ⟨rfl, hsz, hP, hK, hD0⟩ := hv
  subst hsz
  have C0 : zCx p s m meth c _ RX12 cX12_findsSeveral 8 (some .boolean) vs_X12_findsSeveral := ⟨B.exec, B.bytes, hml, B.returns, findClass_of_methodNamed B.named, atoms_spec (ws := vs_X12_findsSeveral) B.pre, B.notSynchronized⟩
  have hD := m_D0 (n0 := s.heap.size) hD0
  have hl := lv_entry ([.ref (ad 0), .long x1]) (n := 8) (Nat.le_of_ble_eq_true rfl)
  rw [lg_entry_eq]
  generalize (lg_sl ([.ref (ad 0), .long x1]) ++ List.replicate (8 - (lg_sl ([.ref (ad 0), .long x1])).length) Slot.unset).toArray = ls at hl ⊢
  exact t_X12_findsSeveral_0 C0 hK N x1 σ _ _ ls h hP hD va_S.rf hl
theorem k_X12_findsSeveral (N : Nat) {R : Room} {H : Heap} {locs : List Loc} {cells slots : Nat} {Q2 : State → Prop} {cc : ByteArray} {nL pc index : Nat} {ls : Array Slot} {rest : List Value} {own : String} {c0 : Cond} {σ : zSt} {x1 : Int64} {Q : Int32 → zSt → Prop} (S0 : CallFix p m c cc nL s args (c0 :: zT) own) (hml : Cond.methodLink own index yX12_findsSeveral ∈ zT) (hR : rm_X12_findsSeveral.frames + 1 ≤ R.frames ∧ 8 + (8 + 11) + rm_X12_findsSeveral.locals ≤ R.locals) (h : w_X12_findsSeveral N x1 σ Q) (hK : va_K (dC, dI) vwCl (m_ty cI cJ cC) s) (hP : va_P (dC, dI) vwCl (m_W ad cI cJ cC σ) H) (hD : va_D (zAW m_n ad s.heap.size) (m_W ad cI cJ cC σ)) (hS : va_S (zAW m_n ad s.heap.size) s.heap H locs) (hsz : ls.size = nL) (hW : (rest.map fun v => v.category).sum ≤ 8) (hcs : cells ≤ R.cells ∧ slots ≤ R.slots) (hdg : decode cc pc = .ok (.invokevirtual index, 3)) (kk : ∀ (r : Int32) (τ : zSt) (H1 : Heap) (locs1 : List Loc), Q r τ → va_P (dC, dI) vwCl (m_W ad cI cJ cC τ) H1 → va_D (zAW m_n ad s.heap.size) (m_W ad cI cJ cC τ) → va_S (zAW m_n ad s.heap.size) s.heap H1 locs1 → W p l e R s m args below meth c H1 locs1 cells slots Q2 (F0 m (pc + 3) ls (.int r :: rest))) : W p l e R s m args below meth c H locs cells slots Q2 (F0 m pc ls (.long x1 :: .ref (ad 0) :: rest)) :=
  zcv_i (T := TX12) (N' := 83) (k := 0) (ci := 12) (fs := m_f0 ad σ) [.long x1] S0 (c_X12_findsSeveral N l dC dI ad cI cJ cC H.size σ x1 Q h) (cw_X12_findsSeveral S0.2.2.2.2 hml rfl rfl hR) rfl rfl hK hP hD hS rfl hsz hW rfl hcs hdg kk
end q22
section q22
def w_X12_isAdd (N : Nat) (x1 : Int64) (x3 : Int32) (σ : zSt) (Q : Int32 → zSt → Prop) : Prop :=
  ∀ v1 : Int64, v1 = x1 ||| ((1 : Int64) <<< (x3.toInt64 &&& 63)) → w_X12_may N v1 σ (fun r2 τ3 => (r2 = 0 → Q (0 : Int32) τ3) ∧ (¬ r2 = 0 → w_X12_lowOf N x3 τ3 (fun r4 τ5 => w_X12_worthOf N v1 r4 τ5 (fun r6 τ7 => w_X12_lowOf N x3 τ7 (fun r8 τ9 => (vp_in r8 10) ∧ (∀ v10 : Int64, v10 = r6 - (τ9.2.2.2 4 r8.toNatClampNeg) → w_X12_highOf N x3 τ9 (fun r11 τ12 => w_X12_worthOf N v1 r11 τ12 (fun r13 τ14 => w_X12_highOf N x3 τ14 (fun r15 τ16 => (vp_in r15 10) ∧ (∀ v17 : Int64, v17 = r13 - (τ16.2.2.2 4 r15.toNatClampNeg) → ((lg_cmp v10 (0 : Int64)) < 0 → Q (0 : Int32) τ16) ∧ (¬ (lg_cmp v10 (0 : Int64)) < 0 → ((lg_cmp v17 (0 : Int64)) < 0 → Q (0 : Int32) τ16) ∧ (¬ (lg_cmp v17 (0 : Int64)) < 0 → ((lg_cmp (v10 + v17) (0 : Int64)) ≤ 0 → Q (0 : Int32) τ16) ∧ (¬ (lg_cmp (v10 + v17) (0 : Int64)) ≤ 0 → Q (1 : Int32) τ16)))))))))))))
variable {p : Program} {l : Launch} {e : Env} {s : State} {m : MethodId} {args : Array Value} {below : List Frame} {meth : Method} {c : Code} {dC : Nat → ClassId} {dI : Nat → Nat → Nat} {ad : Nat → Nat} {cI cJ cC : ClassId}
set_option maxHeartbeats 4000000 in
set_option maxRecDepth 100000 in
theorem t_X12_isAdd_0 (C0 : zCx p s m meth c args RX12 cX12_isAdd 10 (some .boolean) vs_X12_isAdd) (hK : va_K (dC, dI) vwCl (m_ty cI cJ cC) s) (N : Nat) {Q : Int32 → zSt → Prop} : ∀ (x1 : Int64) (x3 : Int32) (σ : zSt) (H : Heap) (locs : List Loc) (ls : Array Slot), w_X12_isAdd N x1 x3 σ Q → va_P (dC, dI) vwCl (m_W ad cI cJ cC σ) H → va_D (zAW m_n ad s.heap.size) (m_W ad cI cJ cC σ) → va_S (zAW m_n ad s.heap.size) s.heap H locs → lv_has ls 10 [(0, .ref (ad 0)), (1, .long x1), (3, .int x3)] → W p l e rm_X12_isAdd s m args below meth c H locs 0 0 (MQ below (zQi (dC, dI) (m_ty cI cJ cC) (m_W ad cI cJ cC) (zAW m_n ad s.heap.size) Q) args s 0 0 (zAW m_n ad s.heap.size)) (F0 m 0 ls []) := by
  obtain ⟨hx, hb, hml, hr, hown, hts, hlocks⟩ := id C0
  intro x1 x3 σ H locs ls h hP hD hS hl
  unfold w_X12_isAdd at h
  refine lv_lload_n hx hb dX12_isAdd_0 rfl (lv_at hl 1 rfl) ?_
  refine lv_lconst (v := (1 : Int64)) hx hb dX12_isAdd_1 (by decide) ?_
  refine lv_iload_n hx hb dX12_isAdd_2 rfl (lv_at hl 2 rfl) ?_
  refine lv_lshl hx hb dX12_isAdd_3 rfl ?_
  refine lv_lor hx hb dX12_isAdd_4 ?_
  refine lv_topl (fun v1 ev1 => ?_)
  have h := h v1 ev1
  refine lv_lstore (lv' := [(4, .long v1), (0, .ref (ad 0)), (1, .long x1), (3, .int x3)]) hx hb dX12_isAdd_5 hl (by decide) rfl (fun ls hl => ?_)
  refine lv_aload_n hx hb dX12_isAdd_7 rfl (lv_at hl 1 rfl) ?_
  refine lv_lload hx hb dX12_isAdd_8 (lv_at hl 0 rfl) ?_
  refine k_X12_may N ⟨hx, hb, hml, hown, hts⟩ mw_1065 ⟨Nat.le_of_ble_eq_true rfl, Nat.le_of_ble_eq_true rfl⟩ h hK hP hD hS hl.1 (rest := []) (Nat.le_of_ble_eq_true rfl) ⟨Nat.le_of_ble_eq_true rfl, Nat.le_of_ble_eq_true rfl⟩ dX12_isAdd_10 (fun r2 τ3 H locs h hP hD hS => ?_)
  refine lv_if_ne (tgt := 18) hx hb dX12_isAdd_13 (by decide) (fun hc => ?_) (fun hc => ?_)
  · have h := h.2 hc
    refine lv_aload_n hx hb dX12_isAdd_18 rfl (lv_at hl 1 rfl) ?_
    refine lv_lload hx hb dX12_isAdd_19 (lv_at hl 0 rfl) ?_
    refine lv_iload_n hx hb dX12_isAdd_21 rfl (lv_at hl 3 rfl) ?_
    refine k_X12_lowOf N ⟨hx, hb, hml, hown, hts⟩ mw_1154 ⟨Nat.le_of_ble_eq_true rfl, Nat.le_of_ble_eq_true rfl⟩ h hK hP hD hS hl.1 (rest := [.long v1, .ref (ad 0)]) (Nat.le_of_ble_eq_true rfl) ⟨Nat.le_of_ble_eq_true rfl, Nat.le_of_ble_eq_true rfl⟩ dX12_isAdd_22 (fun r4 τ5 H locs h hP hD hS => ?_)
    refine k_X12_worthOf N ⟨hx, hb, hml, hown, hts⟩ mw_1104 ⟨Nat.le_of_ble_eq_true rfl, Nat.le_of_ble_eq_true rfl⟩ h hK hP hD hS hl.1 (rest := []) (Nat.le_of_ble_eq_true rfl) ⟨Nat.le_of_ble_eq_true rfl, Nat.le_of_ble_eq_true rfl⟩ dX12_isAdd_25 (fun r6 τ7 H locs h hP hD hS => ?_)
    refine lv_aload_n hx hb dX12_isAdd_28 rfl (lv_at hl 1 rfl) ?_
    refine mg_0_59 hx hb hts hown hK hP mw_892 dX12_isAdd_29 ?_
    refine lv_iload_n hx hb dX12_isAdd_32 rfl (lv_at hl 3 rfl) ?_
    refine k_X12_lowOf N ⟨hx, hb, hml, hown, hts⟩ mw_1154 ⟨Nat.le_of_ble_eq_true rfl, Nat.le_of_ble_eq_true rfl⟩ h hK hP hD hS hl.1 (rest := [.ref (ad 19), .long r6]) (Nat.le_of_ble_eq_true rfl) ⟨Nat.le_of_ble_eq_true rfl, Nat.le_of_ble_eq_true rfl⟩ dX12_isAdd_33 (fun r8 τ9 H locs h hP hD hS => ?_)
    refine ma_19 hx hb hK hP h.1 rfl dX12_isAdd_36 ?_
    have h := h.2
    refine lv_lsub hx hb dX12_isAdd_37 ?_
    refine lv_topl (fun v10 ev10 => ?_)
    have h := h v10 ev10
    refine lv_lstore (lv' := [(6, .long v10), (4, .long v1), (0, .ref (ad 0)), (1, .long x1), (3, .int x3)]) hx hb dX12_isAdd_38 hl (by decide) rfl (fun ls hl => ?_)
    refine lv_aload_n hx hb dX12_isAdd_40 rfl (lv_at hl 2 rfl) ?_
    refine lv_lload hx hb dX12_isAdd_41 (lv_at hl 1 rfl) ?_
    refine lv_iload_n hx hb dX12_isAdd_43 rfl (lv_at hl 4 rfl) ?_
    refine k_X12_highOf N ⟨hx, hb, hml, hown, hts⟩ mw_1157 ⟨Nat.le_of_ble_eq_true rfl, Nat.le_of_ble_eq_true rfl⟩ h hK hP hD hS hl.1 (rest := [.long v1, .ref (ad 0)]) (Nat.le_of_ble_eq_true rfl) ⟨Nat.le_of_ble_eq_true rfl, Nat.le_of_ble_eq_true rfl⟩ dX12_isAdd_44 (fun r11 τ12 H locs h hP hD hS => ?_)
    refine k_X12_worthOf N ⟨hx, hb, hml, hown, hts⟩ mw_1104 ⟨Nat.le_of_ble_eq_true rfl, Nat.le_of_ble_eq_true rfl⟩ h hK hP hD hS hl.1 (rest := []) (Nat.le_of_ble_eq_true rfl) ⟨Nat.le_of_ble_eq_true rfl, Nat.le_of_ble_eq_true rfl⟩ dX12_isAdd_47 (fun r13 τ14 H locs h hP hD hS => ?_)
    refine lv_aload_n hx hb dX12_isAdd_50 rfl (lv_at hl 2 rfl) ?_
    refine mg_0_59 hx hb hts hown hK hP mw_892 dX12_isAdd_51 ?_
    refine lv_iload_n hx hb dX12_isAdd_54 rfl (lv_at hl 4 rfl) ?_
    refine k_X12_highOf N ⟨hx, hb, hml, hown, hts⟩ mw_1157 ⟨Nat.le_of_ble_eq_true rfl, Nat.le_of_ble_eq_true rfl⟩ h hK hP hD hS hl.1 (rest := [.ref (ad 19), .long r13]) (Nat.le_of_ble_eq_true rfl) ⟨Nat.le_of_ble_eq_true rfl, Nat.le_of_ble_eq_true rfl⟩ dX12_isAdd_55 (fun r15 τ16 H locs h hP hD hS => ?_)
    refine ma_19 hx hb hK hP h.1 rfl dX12_isAdd_58 ?_
    have h := h.2
    refine lv_lsub hx hb dX12_isAdd_59 ?_
    refine lv_topl (fun v17 ev17 => ?_)
    have h := h v17 ev17
    refine lv_lstore (lv' := [(8, .long v17), (6, .long v10), (4, .long v1), (0, .ref (ad 0)), (1, .long x1), (3, .int x3)]) hx hb dX12_isAdd_60 hl (by decide) rfl (fun ls hl => ?_)
    refine lv_lload hx hb dX12_isAdd_62 (lv_at hl 1 rfl) ?_
    refine lv_lconst (v := (0 : Int64)) hx hb dX12_isAdd_64 (by decide) ?_
    refine W.lcmp hx hb dX12_isAdd_65 ?_
    refine lv_if_lt (tgt := 90) hx hb dX12_isAdd_66 (by decide) (fun hc => ?_) (fun hc => ?_)
    · have h := h.1 hc
      refine lv_iconst (v := (0 : Int32)) hx hb dX12_isAdd_90 (by decide) ?_
      exact zret_z hx hb hr hlocks hK hP hD hS zb_0 h dX12_isAdd_91
    · have h := h.2 hc
      refine lv_lload hx hb dX12_isAdd_69 (lv_at hl 0 rfl) ?_
      refine lv_lconst (v := (0 : Int64)) hx hb dX12_isAdd_71 (by decide) ?_
      refine W.lcmp hx hb dX12_isAdd_72 ?_
      refine lv_if_lt (tgt := 90) hx hb dX12_isAdd_73 (by decide) (fun hc => ?_) (fun hc => ?_)
      · have h := h.1 hc
        refine lv_iconst (v := (0 : Int32)) hx hb dX12_isAdd_90 (by decide) ?_
        exact zret_z hx hb hr hlocks hK hP hD hS zb_0 h dX12_isAdd_91
      · have h := h.2 hc
        refine lv_lload hx hb dX12_isAdd_76 (lv_at hl 1 rfl) ?_
        refine lv_lload hx hb dX12_isAdd_78 (lv_at hl 0 rfl) ?_
        refine lv_ladd hx hb dX12_isAdd_80 ?_
        refine lv_lconst (v := (0 : Int64)) hx hb dX12_isAdd_81 (by decide) ?_
        refine W.lcmp hx hb dX12_isAdd_82 ?_
        refine lv_if_le (tgt := 90) hx hb dX12_isAdd_83 (by decide) (fun hc => ?_) (fun hc => ?_)
        · have h := h.1 hc
          refine lv_iconst (v := (0 : Int32)) hx hb dX12_isAdd_90 (by decide) ?_
          exact zret_z hx hb hr hlocks hK hP hD hS zb_0 h dX12_isAdd_91
        · have h := h.2 hc
          refine lv_iconst (v := (1 : Int32)) hx hb dX12_isAdd_86 (by decide) ?_
          refine lv_goto (tgt := 91) hx hb dX12_isAdd_87 (by decide) ?_
          exact zret_z hx hb hr hlocks hK hP hD hS zb_1 h dX12_isAdd_91
  · have h := h.1 hc
    refine lv_iconst (v := (0 : Int32)) hx hb dX12_isAdd_16 (by decide) ?_
    exact zret_z hx hb hr hlocks hK hP hD hS zb_0 h dX12_isAdd_17
set_option maxHeartbeats 4000000 in
set_option maxRecDepth 100000 in
theorem c_X12_isAdd (N : Nat) (l : Launch) (dC : Nat → ClassId) (dI : Nat → Nat → Nat) (ad : Nat → Nat) (cI cJ cC : ClassId) (sz : Nat) (σ : zSt) (x1 : Int64) (x3 : Int32) (Q : Int32 → zSt → Prop) (h : w_X12_isAdd N x1 x3 σ Q) : Met l yX12_isAdd vs_X12_isAdd rm_X12_isAdd (va_Pc [.ref (ad 0), .long x1, .int x3] (zPc (dC, dI) (m_ty cI cJ cC) (m_W ad cI cJ cC) sz σ)) (zQi (dC, dI) (m_ty cI cJ cC) (m_W ad cI cJ cC) (zAW m_n ad sz) Q) 0 0 (zAW m_n ad sz) := by
  refine Met.ofW (cc := cX12_isAdd) (maxL := 10) (ret := (some .boolean)) (by decide) rfl ?_
  intro p e s m args below meth c s₁ B hml hv
  obtain ⟨rfl, hsz, hP, hK, hD0⟩ := hv
  subst hsz
  have C0 : zCx p s m meth c _ RX12 cX12_isAdd 10 (some .boolean) vs_X12_isAdd := ⟨B.exec, B.bytes, hml, B.returns, findClass_of_methodNamed B.named, atoms_spec (ws := vs_X12_isAdd) B.pre, B.notSynchronized⟩
  have hD := m_D0 (n0 := s.heap.size) hD0
  have hl := lv_entry ([.ref (ad 0), .long x1, .int x3]) (n := 10) (Nat.le_of_ble_eq_true rfl)
  rw [lg_entry_eq]
  generalize (lg_sl ([.ref (ad 0), .long x1, .int x3]) ++ List.replicate (10 - (lg_sl ([.ref (ad 0), .long x1, .int x3])).length) Slot.unset).toArray = ls at hl ⊢
  exact t_X12_isAdd_0 C0 hK N x1 x3 σ _ _ ls h hP hD va_S.rf hl
theorem k_X12_isAdd (N : Nat) {R : Room} {H : Heap} {locs : List Loc} {cells slots : Nat} {Q2 : State → Prop} {cc : ByteArray} {nL pc index : Nat} {ls : Array Slot} {rest : List Value} {own : String} {c0 : Cond} {σ : zSt} {x1 : Int64} {x3 : Int32} {Q : Int32 → zSt → Prop} (S0 : CallFix p m c cc nL s args (c0 :: zT) own) (hml : Cond.methodLink own index yX12_isAdd ∈ zT) (hR : rm_X12_isAdd.frames + 1 ≤ R.frames ∧ 8 + (10 + 11) + rm_X12_isAdd.locals ≤ R.locals) (h : w_X12_isAdd N x1 x3 σ Q) (hK : va_K (dC, dI) vwCl (m_ty cI cJ cC) s) (hP : va_P (dC, dI) vwCl (m_W ad cI cJ cC σ) H) (hD : va_D (zAW m_n ad s.heap.size) (m_W ad cI cJ cC σ)) (hS : va_S (zAW m_n ad s.heap.size) s.heap H locs) (hsz : ls.size = nL) (hW : (rest.map fun v => v.category).sum ≤ 8) (hcs : cells ≤ R.cells ∧ slots ≤ R.slots) (hdg : decode cc pc = .ok (.invokevirtual index, 3)) (kk : ∀ (r : Int32) (τ : zSt) (H1 : Heap) (locs1 : List Loc), Q r τ → va_P (dC, dI) vwCl (m_W ad cI cJ cC τ) H1 → va_D (zAW m_n ad s.heap.size) (m_W ad cI cJ cC τ) → va_S (zAW m_n ad s.heap.size) s.heap H1 locs1 → W p l e R s m args below meth c H1 locs1 cells slots Q2 (F0 m (pc + 3) ls (.int r :: rest))) : W p l e R s m args below meth c H locs cells slots Q2 (F0 m pc ls (.int x3 :: .long x1 :: .ref (ad 0) :: rest)) :=
  zcv_i (T := TX12) (N' := 83) (k := 0) (ci := 12) (fs := m_f0 ad σ) [.long x1, .int x3] S0 (c_X12_isAdd N l dC dI ad cI cJ cC H.size σ x1 x3 Q h) (cw_X12_isAdd S0.2.2.2.2 hml rfl rfl hR) rfl rfl hK hP hD hS rfl hsz hW rfl hcs hdg kk
end q22
section q22
def b_X12_findsAdd_2 (N : Nat) (k_2 : Int64 → Int32 → zSt → Prop) (Q : Int32 → zSt → Prop) (x1 : Int64) (x3 : Int32) (σ : zSt) : Prop :=
  w_X12_pairs N σ (fun r1 τ2 => (r1 ≤ x3 → Q (0 : Int32) τ2) ∧ (¬ r1 ≤ x3 → w_X12_isTied N x1 x3 τ2 (fun r3 τ4 => (r3 = 0 → w_X12_isAdd N x1 x3 τ4 (fun r6 τ7 => (r6 = 0 → ∀ v8 : Int32, v8 = x3 + (1 : Int32) → k_2 x1 v8 τ7) ∧ (¬ r6 = 0 → w_X12_lowOf N x3 τ7 (fun r9 τ10 => w_X12_highOf N x3 τ10 (fun r11 τ12 => w_X12_finds N (1 : Int32) (((1 : Int32) <<< (r9 &&& 31)) ||| ((1 : Int32) <<< (r11 &&& 31))) (x1 ||| ((1 : Int64) <<< (x3.toInt64 &&& 63))) τ12 (fun r13 τ14 => (zb r13) ∧ Q r13 τ14)))))) ∧ (¬ r3 = 0 → ∀ v5 : Int32, v5 = x3 + (1 : Int32) → k_2 x1 v5 τ4))))
def w_X12_findsAdd_2 (N : Nat) (Q : Int32 → zSt → Prop) : Nat → Int64 → Int32 → zSt → Prop
  | 0 => fun _ _ _ => False
  | f + 1 => b_X12_findsAdd_2 N (w_X12_findsAdd_2 N  Q f) Q
def w_X12_findsAdd (N : Nat) (x1 : Int64) (σ : zSt) (Q : Int32 → zSt → Prop) : Prop :=
  w_X12_findsAdd_2 N Q N x1 (0 : Int32) σ
variable {p : Program} {l : Launch} {e : Env} {s : State} {m : MethodId} {args : Array Value} {below : List Frame} {meth : Method} {c : Code} {dC : Nat → ClassId} {dI : Nat → Nat → Nat} {ad : Nat → Nat} {cI cJ cC : ClassId}
set_option maxHeartbeats 4000000 in
set_option maxRecDepth 100000 in
theorem tb_X12_findsAdd_2 (C0 : zCx p s m meth c args RX12 cX12_findsAdd 4 (some .boolean) vs_X12_findsAdd) (hK : va_K (dC, dI) vwCl (m_ty cI cJ cC) s) (N : Nat) {Q : Int32 → zSt → Prop} {k_2 : Int64 → Int32 → zSt → Prop} (hk_2 : ∀ (x1 : Int64) (x3 : Int32) (σ : zSt) (H : Heap) (locs : List Loc) (ls : Array Slot), k_2 x1 x3 σ → va_P (dC, dI) vwCl (m_W ad cI cJ cC σ) H → va_D (zAW m_n ad s.heap.size) (m_W ad cI cJ cC σ) → va_S (zAW m_n ad s.heap.size) s.heap H locs → lv_has ls 4 [(0, .ref (ad 0)), (1, .long x1), (3, .int x3)] → W p l e rm_X12_findsAdd s m args below meth c H locs 0 0 (MQ below (zQi (dC, dI) (m_ty cI cJ cC) (m_W ad cI cJ cC) (zAW m_n ad s.heap.size) Q) args s 0 0 (zAW m_n ad s.heap.size)) (F0 m 2 ls [])) : ∀ (x1 : Int64) (x3 : Int32) (σ : zSt) (H : Heap) (locs : List Loc) (ls : Array Slot), b_X12_findsAdd_2 N k_2 Q x1 x3 σ → va_P (dC, dI) vwCl (m_W ad cI cJ cC σ) H → va_D (zAW m_n ad s.heap.size) (m_W ad cI cJ cC σ) → va_S (zAW m_n ad s.heap.size) s.heap H locs → lv_has ls 4 [(0, .ref (ad 0)), (1, .long x1), (3, .int x3)] → W p l e rm_X12_findsAdd s m args below meth c H locs 0 0 (MQ below (zQi (dC, dI) (m_ty cI cJ cC) (m_W ad cI cJ cC) (zAW m_n ad s.heap.size) Q) args s 0 0 (zAW m_n ad s.heap.size)) (F0 m 2 ls []) := by
  obtain ⟨hx, hb, hml, hr, hown, hts, hlocks⟩ := id C0
  intro x1 x3 σ H locs ls h hP hD hS hl
  unfold b_X12_findsAdd_2 at h
  refine lv_iload_n hx hb dX12_findsAdd_2 rfl (lv_at hl 2 rfl) ?_
  refine lv_aload_n hx hb dX12_findsAdd_3 rfl (lv_at hl 0 rfl) ?_
  refine k_X12_pairs N ⟨hx, hb, hml, hown, hts⟩ mw_1047 ⟨Nat.le_of_ble_eq_true rfl, Nat.le_of_ble_eq_true rfl⟩ h hK hP hD hS hl.1 (rest := [.int x3]) (Nat.le_of_ble_eq_true rfl) ⟨Nat.le_of_ble_eq_true rfl, Nat.le_of_ble_eq_true rfl⟩ dX12_findsAdd_4 (fun r1 τ2 H locs h hP hD hS => ?_)
  refine lv_icmp_ge (tgt := 57) hx hb dX12_findsAdd_7 (by decide) (fun hc => ?_) (fun hc => ?_)
  · have h := h.1 hc
    refine lv_iconst (v := (0 : Int32)) hx hb dX12_findsAdd_57 (by decide) ?_
    exact zret_z hx hb hr hlocks hK hP hD hS zb_0 h dX12_findsAdd_58
  · have h := h.2 hc
    refine lv_lload_n hx hb dX12_findsAdd_10 rfl (lv_at hl 1 rfl) ?_
    refine lv_iload_n hx hb dX12_findsAdd_11 rfl (lv_at hl 2 rfl) ?_
    refine k_X12_isTied N ⟨hx, hb, hml, hown, hts⟩ mw_1071 ⟨Nat.le_of_ble_eq_true rfl, Nat.le_of_ble_eq_true rfl⟩ h hK hP hD hS hl.1 (rest := []) (Nat.le_of_ble_eq_true rfl) ⟨Nat.le_of_ble_eq_true rfl, Nat.le_of_ble_eq_true rfl⟩ dX12_findsAdd_12 (fun r3 τ4 H locs h hP hD hS => ?_)
    refine lv_if_ne (tgt := 51) hx hb dX12_findsAdd_15 (by decide) (fun hc => ?_) (fun hc => ?_)
    · have h := h.2 hc
      obtain ⟨v5, ev5⟩ : ∃ z : Int32, z = x3 + (1 : Int32) := ⟨_, rfl⟩
      have h := h v5 ev5
      refine lv_iinc (v := v5) (lv' := [(3, .int v5), (0, .ref (ad 0)), (1, .long x1)]) hx hb dX12_findsAdd_51 hl (k := 2) rfl (by rw [ev5]; rfl) (by decide) rfl (fun ls hl => ?_)
      refine lv_goto (tgt := 2) hx hb dX12_findsAdd_54 (by decide) ?_
      exact hk_2 x1 v5 τ4 _ _ _ h hP hD hS (lv_sub hl [1, 2, 0] rfl)
    · have h := h.1 hc
      refine lv_aload_n hx hb dX12_findsAdd_18 rfl (lv_at hl 0 rfl) ?_
      refine lv_lload_n hx hb dX12_findsAdd_19 rfl (lv_at hl 1 rfl) ?_
      refine lv_iload_n hx hb dX12_findsAdd_20 rfl (lv_at hl 2 rfl) ?_
      refine k_X12_isAdd N ⟨hx, hb, hml, hown, hts⟩ mw_1181 ⟨Nat.le_of_ble_eq_true rfl, Nat.le_of_ble_eq_true rfl⟩ h hK hP hD hS hl.1 (rest := []) (Nat.le_of_ble_eq_true rfl) ⟨Nat.le_of_ble_eq_true rfl, Nat.le_of_ble_eq_true rfl⟩ dX12_findsAdd_21 (fun r6 τ7 H locs h hP hD hS => ?_)
      refine lv_if_eq (tgt := 51) hx hb dX12_findsAdd_24 (by decide) (fun hc => ?_) (fun hc => ?_)
      · have h := h.1 hc
        obtain ⟨v8, ev8⟩ : ∃ z : Int32, z = x3 + (1 : Int32) := ⟨_, rfl⟩
        have h := h v8 ev8
        refine lv_iinc (v := v8) (lv' := [(3, .int v8), (0, .ref (ad 0)), (1, .long x1)]) hx hb dX12_findsAdd_51 hl (k := 2) rfl (by rw [ev8]; rfl) (by decide) rfl (fun ls hl => ?_)
        refine lv_goto (tgt := 2) hx hb dX12_findsAdd_54 (by decide) ?_
        exact hk_2 x1 v8 τ7 _ _ _ h hP hD hS (lv_sub hl [1, 2, 0] rfl)
      · have h := h.2 hc
        refine lv_aload_n hx hb dX12_findsAdd_27 rfl (lv_at hl 0 rfl) ?_
        refine lv_iconst (v := (1 : Int32)) hx hb dX12_findsAdd_28 (by decide) ?_
        refine lv_iconst (v := (1 : Int32)) hx hb dX12_findsAdd_29 (by decide) ?_
        refine lv_iload_n hx hb dX12_findsAdd_30 rfl (lv_at hl 2 rfl) ?_
        refine k_X12_lowOf N ⟨hx, hb, hml, hown, hts⟩ mw_1154 ⟨Nat.le_of_ble_eq_true rfl, Nat.le_of_ble_eq_true rfl⟩ h hK hP hD hS hl.1 (rest := [.int (1 : Int32), .int (1 : Int32), .ref (ad 0)]) (Nat.le_of_ble_eq_true rfl) ⟨Nat.le_of_ble_eq_true rfl, Nat.le_of_ble_eq_true rfl⟩ dX12_findsAdd_31 (fun r9 τ10 H locs h hP hD hS => ?_)
        refine lv_ishl hx hb dX12_findsAdd_34 ?_
        refine lv_iconst (v := (1 : Int32)) hx hb dX12_findsAdd_35 (by decide) ?_
        refine lv_iload_n hx hb dX12_findsAdd_36 rfl (lv_at hl 2 rfl) ?_
        refine k_X12_highOf N ⟨hx, hb, hml, hown, hts⟩ mw_1157 ⟨Nat.le_of_ble_eq_true rfl, Nat.le_of_ble_eq_true rfl⟩ h hK hP hD hS hl.1 (rest := [.int (1 : Int32), .int ((1 : Int32) <<< (r9 &&& 31)), .int (1 : Int32), .ref (ad 0)]) (Nat.le_of_ble_eq_true rfl) ⟨Nat.le_of_ble_eq_true rfl, Nat.le_of_ble_eq_true rfl⟩ dX12_findsAdd_37 (fun r11 τ12 H locs h hP hD hS => ?_)
        refine lv_ishl hx hb dX12_findsAdd_40 ?_
        refine lv_ior hx hb dX12_findsAdd_41 ?_
        refine lv_lload_n hx hb dX12_findsAdd_42 rfl (lv_at hl 1 rfl) ?_
        refine lv_lconst (v := (1 : Int64)) hx hb dX12_findsAdd_43 (by decide) ?_
        refine lv_iload_n hx hb dX12_findsAdd_44 rfl (lv_at hl 2 rfl) ?_
        refine lv_lshl hx hb dX12_findsAdd_45 rfl ?_
        refine lv_lor hx hb dX12_findsAdd_46 ?_
        refine k_X12_finds N ⟨hx, hb, hml, hown, hts⟩ mw_1160 ⟨Nat.le_of_ble_eq_true rfl, Nat.le_of_ble_eq_true rfl⟩ h hK hP hD hS hl.1 (rest := []) (Nat.le_of_ble_eq_true rfl) ⟨Nat.le_of_ble_eq_true rfl, Nat.le_of_ble_eq_true rfl⟩ dX12_findsAdd_47 (fun r13 τ14 H locs h hP hD hS => ?_)
        exact zret_z hx hb hr hlocks hK hP hD hS h.1 h.2 dX12_findsAdd_50
set_option maxHeartbeats 4000000 in
set_option maxRecDepth 100000 in
theorem t_X12_findsAdd_2 (C0 : zCx p s m meth c args RX12 cX12_findsAdd 4 (some .boolean) vs_X12_findsAdd) (hK : va_K (dC, dI) vwCl (m_ty cI cJ cC) s) (N : Nat) {Q : Int32 → zSt → Prop} : ∀ (f : Nat) (x1 : Int64) (x3 : Int32) (σ : zSt) (H : Heap) (locs : List Loc) (ls : Array Slot), w_X12_findsAdd_2 N  Q f x1 x3 σ → va_P (dC, dI) vwCl (m_W ad cI cJ cC σ) H → va_D (zAW m_n ad s.heap.size) (m_W ad cI cJ cC σ) → va_S (zAW m_n ad s.heap.size) s.heap H locs → lv_has ls 4 [(0, .ref (ad 0)), (1, .long x1), (3, .int x3)] → W p l e rm_X12_findsAdd s m args below meth c H locs 0 0 (MQ below (zQi (dC, dI) (m_ty cI cJ cC) (m_W ad cI cJ cC) (zAW m_n ad s.heap.size) Q) args s 0 0 (zAW m_n ad s.heap.size)) (F0 m 2 ls []) := by
  intro f
  induction f with
  | zero => intro x1 x3 σ H locs ls h; exact h.elim
  | succ f ih =>
    intro x1 x3 σ H locs ls h hP hD hS hl
    exact tb_X12_findsAdd_2 C0 hK N  (k_2 := w_X12_findsAdd_2 N  Q f) ih x1 x3 σ H locs ls h hP hD hS hl
set_option maxHeartbeats 4000000 in
set_option maxRecDepth 100000 in
theorem t_X12_findsAdd_0 (C0 : zCx p s m meth c args RX12 cX12_findsAdd 4 (some .boolean) vs_X12_findsAdd) (hK : va_K (dC, dI) vwCl (m_ty cI cJ cC) s) (N : Nat) {Q : Int32 → zSt → Prop} : ∀ (x1 : Int64) (σ : zSt) (H : Heap) (locs : List Loc) (ls : Array Slot), w_X12_findsAdd N x1 σ Q → va_P (dC, dI) vwCl (m_W ad cI cJ cC σ) H → va_D (zAW m_n ad s.heap.size) (m_W ad cI cJ cC σ) → va_S (zAW m_n ad s.heap.size) s.heap H locs → lv_has ls 4 [(0, .ref (ad 0)), (1, .long x1)] → W p l e rm_X12_findsAdd s m args below meth c H locs 0 0 (MQ below (zQi (dC, dI) (m_ty cI cJ cC) (m_W ad cI cJ cC) (zAW m_n ad s.heap.size) Q) args s 0 0 (zAW m_n ad s.heap.size)) (F0 m 0 ls []) := by
  obtain ⟨hx, hb, hml, hr, hown, hts, hlocks⟩ := id C0
  intro x1 σ H locs ls h hP hD hS hl
  unfold w_X12_findsAdd at h
  refine lv_iconst (v := (0 : Int32)) hx hb dX12_findsAdd_0 (by decide) ?_
  refine lv_istore_n (lv' := [(3, .int (0 : Int32)), (0, .ref (ad 0)), (1, .long x1)]) hx hb dX12_findsAdd_1 rfl hl (by decide) rfl (fun ls hl => ?_)
  exact t_X12_findsAdd_2 C0 hK N  N x1 (0 : Int32) σ _ _ _ h hP hD hS (lv_sub hl [1, 2, 0] rfl)
set_option maxHeartbeats 4000000 in
set_option maxRecDepth 100000 in
theorem c_X12_findsAdd (N : Nat) (l : Launch) (dC : Nat → ClassId) (dI : Nat → Nat → Nat) (ad : Nat → Nat) (cI cJ cC : ClassId) (sz : Nat) (σ : zSt) (x1 : Int64) (Q : Int32 → zSt → Prop) (h : w_X12_findsAdd N x1 σ Q) : Met l yX12_findsAdd vs_X12_findsAdd rm_X12_findsAdd (va_Pc [.ref (ad 0), .long x1] (zPc (dC, dI) (m_ty cI cJ cC) (m_W ad cI cJ cC) sz σ)) (zQi (dC, dI) (m_ty cI cJ cC) (m_W ad cI cJ cC) (zAW m_n ad sz) Q) 0 0 (zAW m_n ad sz) := by
  refine Met.ofW (cc := cX12_findsAdd) (maxL := 4) (ret := (some .boolean)) (by decide) rfl ?_
  intro p e s m args below meth c s₁ B hml hv
  obtain ⟨rfl, hsz, hP, hK, hD0⟩ := hv
  subst hsz
  have C0 : zCx p s m meth c _ RX12 cX12_findsAdd 4 (some .boolean) vs_X12_findsAdd := ⟨B.exec, B.bytes, hml, B.returns, findClass_of_methodNamed B.named, atoms_spec (ws := vs_X12_findsAdd) B.pre, B.notSynchronized⟩
  have hD := m_D0 (n0 := s.heap.size) hD0
  have hl := lv_entry ([.ref (ad 0), .long x1]) (n := 4) (Nat.le_of_ble_eq_true rfl)
  rw [lg_entry_eq]
  generalize (lg_sl ([.ref (ad 0), .long x1]) ++ List.replicate (4 - (lg_sl ([.ref (ad 0), .long x1])).length) Slot.unset).toArray = ls at hl ⊢
  exact t_X12_findsAdd_0 C0 hK N x1 σ _ _ ls h hP hD va_S.rf hl
theorem k_X12_findsAdd (N : Nat) {R : Room} {H : Heap} {locs : List Loc} {cells slots : Nat} {Q2 : State → Prop} {cc : ByteArray} {nL pc index : Nat} {ls : Array Slot} {rest : List Value} {own : String} {c0 : Cond} {σ : zSt} {x1 : Int64} {Q : Int32 → zSt → Prop} (S0 : CallFix p m c cc nL s args (c0 :: zT) own) (hml : Cond.methodLink own index yX12_findsAdd ∈ zT) (hR : rm_X12_findsAdd.frames + 1 ≤ R.frames ∧ 8 + (4 + 11) + rm_X12_findsAdd.locals ≤ R.locals) (h : w_X12_findsAdd N x1 σ Q) (hK : va_K (dC, dI) vwCl (m_ty cI cJ cC) s) (hP : va_P (dC, dI) vwCl (m_W ad cI cJ cC σ) H) (hD : va_D (zAW m_n ad s.heap.size) (m_W ad cI cJ cC σ)) (hS : va_S (zAW m_n ad s.heap.size) s.heap H locs) (hsz : ls.size = nL) (hW : (rest.map fun v => v.category).sum ≤ 8) (hcs : cells ≤ R.cells ∧ slots ≤ R.slots) (hdg : decode cc pc = .ok (.invokevirtual index, 3)) (kk : ∀ (r : Int32) (τ : zSt) (H1 : Heap) (locs1 : List Loc), Q r τ → va_P (dC, dI) vwCl (m_W ad cI cJ cC τ) H1 → va_D (zAW m_n ad s.heap.size) (m_W ad cI cJ cC τ) → va_S (zAW m_n ad s.heap.size) s.heap H1 locs1 → W p l e R s m args below meth c H1 locs1 cells slots Q2 (F0 m (pc + 3) ls (.int r :: rest))) : W p l e R s m args below meth c H locs cells slots Q2 (F0 m pc ls (.long x1 :: .ref (ad 0) :: rest)) :=
  zcv_i (T := TX12) (N' := 83) (k := 0) (ci := 12) (fs := m_f0 ad σ) [.long x1] S0 (c_X12_findsAdd N l dC dI ad cI cJ cC H.size σ x1 Q h) (cw_X12_findsAdd S0.2.2.2.2 hml rfl rfl hR) rfl rfl hK hP hD hS rfl hsz hW rfl hcs hdg kk
end q22
section q22
def b_X12_canMake_58 (N : Nat) (k_3 : Int64 → Int64 → Int32 → Int32 → zSt → Prop) (Q : Int32 → zSt → Prop) (x1 : Int64) (x3 : Int64) (x5 : Int32) (x6 : Int32) (x7 : Int32) (σ : zSt) : Prop :=
  w_X12_isTied N x1 x6 σ (fun r1 τ2 => (r1 = 0 → w_X12_isTied N x3 x6 τ2 (fun r4 τ5 => (r4 = 0 → ∀ v6 : Int32, v6 = x6 + (1 : Int32) → k_3 x1 x3 x5 v6 τ5) ∧ (¬ r4 = 0 → ((2 : Int32) ≤ x7 → ∀ v7 : Int32, v7 = x6 + (1 : Int32) → k_3 x1 x3 x5 v7 τ5) ∧ (¬ (2 : Int32) ≤ x7 → Q (0 : Int32) τ5)))) ∧ (¬ r1 = 0 → ∀ v3 : Int32, v3 = x6 + (1 : Int32) → k_3 x1 x3 x5 v3 τ2))
def b_X12_canMake_3 (N : Nat) (k_3 : Int64 → Int64 → Int32 → Int32 → zSt → Prop) (Q : Int32 → zSt → Prop) (x1 : Int64) (x3 : Int64) (x5 : Int32) (x6 : Int32) (σ : zSt) : Prop :=
  w_X12_pairs N σ (fun r1 τ2 => (r1 ≤ x6 → Q (1 : Int32) τ2) ∧ (¬ r1 ≤ x6 → w_X12_lowOf N x6 τ2 (fun r3 τ4 => w_X12_highOf N x6 τ4 (fun r5 τ6 => ∀ v7 : Int32, v7 = ((x5 >>> (r3 &&& 31)) &&& (1 : Int32)) + ((x5 >>> (r5 &&& 31)) &&& (1 : Int32)) → w_X12_isTied N x1 x6 τ6 (fun r8 τ9 => (r8 = 0 → b_X12_canMake_58 N k_3 Q x1 x3 x5 x6 v7 τ9) ∧ (¬ r8 = 0 → w_X12_isTied N x3 x6 τ9 (fun r10 τ11 => (r10 = 0 → (v7 = 0 → Q (0 : Int32) τ11) ∧ (¬ v7 = 0 → b_X12_canMake_58 N k_3 Q x1 x3 x5 x6 v7 τ11)) ∧ (¬ r10 = 0 → b_X12_canMake_58 N k_3 Q x1 x3 x5 x6 v7 τ11))))))))
def w_X12_canMake_3 (N : Nat) (Q : Int32 → zSt → Prop) : Nat → Int64 → Int64 → Int32 → Int32 → zSt → Prop
  | 0 => fun _ _ _ _ _ => False
  | f + 1 => b_X12_canMake_3 N (w_X12_canMake_3 N  Q f) Q
def w_X12_canMake (N : Nat) (x1 : Int64) (x3 : Int64) (x5 : Int32) (σ : zSt) (Q : Int32 → zSt → Prop) : Prop :=
  w_X12_canMake_3 N Q N x1 x3 x5 (0 : Int32) σ
variable {p : Program} {l : Launch} {e : Env} {s : State} {m : MethodId} {args : Array Value} {below : List Frame} {meth : Method} {c : Code} {dC : Nat → ClassId} {dI : Nat → Nat → Nat} {ad : Nat → Nat} {cI cJ cC : ClassId}
set_option maxHeartbeats 4000000 in
set_option maxRecDepth 100000 in
theorem t_X12_canMake_58 (C0 : zCx p s m meth c args RX12 cX12_canMake 8 (some .boolean) vs_X12_canMake) (hK : va_K (dC, dI) vwCl (m_ty cI cJ cC) s) (N : Nat) {Q : Int32 → zSt → Prop} {k_3 : Int64 → Int64 → Int32 → Int32 → zSt → Prop} (hk_3 : ∀ (x1 : Int64) (x3 : Int64) (x5 : Int32) (x6 : Int32) (σ : zSt) (H : Heap) (locs : List Loc) (ls : Array Slot), k_3 x1 x3 x5 x6 σ → va_P (dC, dI) vwCl (m_W ad cI cJ cC σ) H → va_D (zAW m_n ad s.heap.size) (m_W ad cI cJ cC σ) → va_S (zAW m_n ad s.heap.size) s.heap H locs → lv_has ls 8 [(0, .ref (ad 0)), (1, .long x1), (3, .long x3), (5, .int x5), (6, .int x6)] → W p l e rm_X12_canMake s m args below meth c H locs 0 0 (MQ below (zQi (dC, dI) (m_ty cI cJ cC) (m_W ad cI cJ cC) (zAW m_n ad s.heap.size) Q) args s 0 0 (zAW m_n ad s.heap.size)) (F0 m 3 ls [])) : ∀ (x1 : Int64) (x3 : Int64) (x5 : Int32) (x6 : Int32) (x7 : Int32) (σ : zSt) (H : Heap) (locs : List Loc) (ls : Array Slot), b_X12_canMake_58 N k_3 Q x1 x3 x5 x6 x7 σ → va_P (dC, dI) vwCl (m_W ad cI cJ cC σ) H → va_D (zAW m_n ad s.heap.size) (m_W ad cI cJ cC σ) → va_S (zAW m_n ad s.heap.size) s.heap H locs → lv_has ls 8 [(0, .ref (ad 0)), (1, .long x1), (3, .long x3), (5, .int x5), (6, .int x6), (7, .int x7)] → W p l e rm_X12_canMake s m args below meth c H locs 0 0 (MQ below (zQi (dC, dI) (m_ty cI cJ cC) (m_W ad cI cJ cC) (zAW m_n ad s.heap.size) Q) args s 0 0 (zAW m_n ad s.heap.size)) (F0 m 58 ls []) := by
  obtain ⟨hx, hb, hml, hr, hown, hts, hlocks⟩ := id C0
  intro x1 x3 x5 x6 x7 σ H locs ls h hP hD hS hl
  unfold b_X12_canMake_58 at h
  refine lv_lload_n hx hb dX12_canMake_58 rfl (lv_at hl 1 rfl) ?_
  refine lv_iload hx hb dX12_canMake_59 (lv_at hl 4 rfl) ?_
  refine k_X12_isTied N ⟨hx, hb, hml, hown, hts⟩ mw_1071 ⟨Nat.le_of_ble_eq_true rfl, Nat.le_of_ble_eq_true rfl⟩ h hK hP hD hS hl.1 (rest := []) (Nat.le_of_ble_eq_true rfl) ⟨Nat.le_of_ble_eq_true rfl, Nat.le_of_ble_eq_true rfl⟩ dX12_canMake_61 (fun r1 τ2 H locs h hP hD hS => ?_)
  refine lv_if_ne (tgt := 84) hx hb dX12_canMake_64 (by decide) (fun hc => ?_) (fun hc => ?_)
  · have h := h.2 hc
    obtain ⟨v3, ev3⟩ : ∃ z : Int32, z = x6 + (1 : Int32) := ⟨_, rfl⟩
    have h := h v3 ev3
    refine lv_iinc (v := v3) (lv' := [(6, .int v3), (0, .ref (ad 0)), (1, .long x1), (3, .long x3), (5, .int x5), (7, .int x7)]) hx hb dX12_canMake_84 hl (k := 4) rfl (by rw [ev3]; rfl) (by decide) rfl (fun ls hl => ?_)
    refine lv_goto (tgt := 3) hx hb dX12_canMake_87 (by decide) ?_
    exact hk_3 x1 x3 x5 v3 τ2 _ _ _ h hP hD hS (lv_sub hl [1, 2, 3, 4, 0] rfl)
  · have h := h.1 hc
    refine lv_lload_n hx hb dX12_canMake_67 rfl (lv_at hl 2 rfl) ?_
    refine lv_iload hx hb dX12_canMake_68 (lv_at hl 4 rfl) ?_
    refine k_X12_isTied N ⟨hx, hb, hml, hown, hts⟩ mw_1071 ⟨Nat.le_of_ble_eq_true rfl, Nat.le_of_ble_eq_true rfl⟩ h hK hP hD hS hl.1 (rest := []) (Nat.le_of_ble_eq_true rfl) ⟨Nat.le_of_ble_eq_true rfl, Nat.le_of_ble_eq_true rfl⟩ dX12_canMake_70 (fun r4 τ5 H locs h hP hD hS => ?_)
    refine lv_if_eq (tgt := 84) hx hb dX12_canMake_73 (by decide) (fun hc => ?_) (fun hc => ?_)
    · have h := h.1 hc
      obtain ⟨v6, ev6⟩ : ∃ z : Int32, z = x6 + (1 : Int32) := ⟨_, rfl⟩
      have h := h v6 ev6
      refine lv_iinc (v := v6) (lv' := [(6, .int v6), (0, .ref (ad 0)), (1, .long x1), (3, .long x3), (5, .int x5), (7, .int x7)]) hx hb dX12_canMake_84 hl (k := 4) rfl (by rw [ev6]; rfl) (by decide) rfl (fun ls hl => ?_)
      refine lv_goto (tgt := 3) hx hb dX12_canMake_87 (by decide) ?_
      exact hk_3 x1 x3 x5 v6 τ5 _ _ _ h hP hD hS (lv_sub hl [1, 2, 3, 4, 0] rfl)
    · have h := h.2 hc
      refine lv_iload hx hb dX12_canMake_76 (lv_at hl 5 rfl) ?_
      refine lv_iconst (v := (2 : Int32)) hx hb dX12_canMake_78 (by decide) ?_
      refine lv_icmp_ge (tgt := 84) hx hb dX12_canMake_79 (by decide) (fun hc => ?_) (fun hc => ?_)
      · have h := h.1 hc
        obtain ⟨v7, ev7⟩ : ∃ z : Int32, z = x6 + (1 : Int32) := ⟨_, rfl⟩
        have h := h v7 ev7
        refine lv_iinc (v := v7) (lv' := [(6, .int v7), (0, .ref (ad 0)), (1, .long x1), (3, .long x3), (5, .int x5), (7, .int x7)]) hx hb dX12_canMake_84 hl (k := 4) rfl (by rw [ev7]; rfl) (by decide) rfl (fun ls hl => ?_)
        refine lv_goto (tgt := 3) hx hb dX12_canMake_87 (by decide) ?_
        exact hk_3 x1 x3 x5 v7 τ5 _ _ _ h hP hD hS (lv_sub hl [1, 2, 3, 4, 0] rfl)
      · have h := h.2 hc
        refine lv_iconst (v := (0 : Int32)) hx hb dX12_canMake_82 (by decide) ?_
        exact zret_z hx hb hr hlocks hK hP hD hS zb_0 h dX12_canMake_83
set_option maxHeartbeats 4000000 in
set_option maxRecDepth 100000 in
theorem tb_X12_canMake_3 (C0 : zCx p s m meth c args RX12 cX12_canMake 8 (some .boolean) vs_X12_canMake) (hK : va_K (dC, dI) vwCl (m_ty cI cJ cC) s) (N : Nat) {Q : Int32 → zSt → Prop} {k_3 : Int64 → Int64 → Int32 → Int32 → zSt → Prop} (hk_3 : ∀ (x1 : Int64) (x3 : Int64) (x5 : Int32) (x6 : Int32) (σ : zSt) (H : Heap) (locs : List Loc) (ls : Array Slot), k_3 x1 x3 x5 x6 σ → va_P (dC, dI) vwCl (m_W ad cI cJ cC σ) H → va_D (zAW m_n ad s.heap.size) (m_W ad cI cJ cC σ) → va_S (zAW m_n ad s.heap.size) s.heap H locs → lv_has ls 8 [(0, .ref (ad 0)), (1, .long x1), (3, .long x3), (5, .int x5), (6, .int x6)] → W p l e rm_X12_canMake s m args below meth c H locs 0 0 (MQ below (zQi (dC, dI) (m_ty cI cJ cC) (m_W ad cI cJ cC) (zAW m_n ad s.heap.size) Q) args s 0 0 (zAW m_n ad s.heap.size)) (F0 m 3 ls [])) : ∀ (x1 : Int64) (x3 : Int64) (x5 : Int32) (x6 : Int32) (σ : zSt) (H : Heap) (locs : List Loc) (ls : Array Slot), b_X12_canMake_3 N k_3 Q x1 x3 x5 x6 σ → va_P (dC, dI) vwCl (m_W ad cI cJ cC σ) H → va_D (zAW m_n ad s.heap.size) (m_W ad cI cJ cC σ) → va_S (zAW m_n ad s.heap.size) s.heap H locs → lv_has ls 8 [(0, .ref (ad 0)), (1, .long x1), (3, .long x3), (5, .int x5), (6, .int x6)] → W p l e rm_X12_canMake s m args below meth c H locs 0 0 (MQ below (zQi (dC, dI) (m_ty cI cJ cC) (m_W ad cI cJ cC) (zAW m_n ad s.heap.size) Q) args s 0 0 (zAW m_n ad s.heap.size)) (F0 m 3 ls []) := by
  obtain ⟨hx, hb, hml, hr, hown, hts, hlocks⟩ := id C0
  intro x1 x3 x5 x6 σ H locs ls h hP hD hS hl
  unfold b_X12_canMake_3 at h
  refine lv_iload hx hb dX12_canMake_3 (lv_at hl 4 rfl) ?_
  refine lv_aload_n hx hb dX12_canMake_5 rfl (lv_at hl 0 rfl) ?_
  refine k_X12_pairs N ⟨hx, hb, hml, hown, hts⟩ mw_1047 ⟨Nat.le_of_ble_eq_true rfl, Nat.le_of_ble_eq_true rfl⟩ h hK hP hD hS hl.1 (rest := [.int x6]) (Nat.le_of_ble_eq_true rfl) ⟨Nat.le_of_ble_eq_true rfl, Nat.le_of_ble_eq_true rfl⟩ dX12_canMake_6 (fun r1 τ2 H locs h hP hD hS => ?_)
  refine lv_icmp_ge (tgt := 90) hx hb dX12_canMake_9 (by decide) (fun hc => ?_) (fun hc => ?_)
  · have h := h.1 hc
    refine lv_iconst (v := (1 : Int32)) hx hb dX12_canMake_90 (by decide) ?_
    exact zret_z hx hb hr hlocks hK hP hD hS zb_1 h dX12_canMake_91
  · have h := h.2 hc
    refine lv_iload hx hb dX12_canMake_12 (lv_at hl 3 rfl) ?_
    refine lv_iload hx hb dX12_canMake_14 (lv_at hl 4 rfl) ?_
    refine k_X12_lowOf N ⟨hx, hb, hml, hown, hts⟩ mw_1154 ⟨Nat.le_of_ble_eq_true rfl, Nat.le_of_ble_eq_true rfl⟩ h hK hP hD hS hl.1 (rest := [.int x5]) (Nat.le_of_ble_eq_true rfl) ⟨Nat.le_of_ble_eq_true rfl, Nat.le_of_ble_eq_true rfl⟩ dX12_canMake_16 (fun r3 τ4 H locs h hP hD hS => ?_)
    refine lv_ishr hx hb dX12_canMake_19 ?_
    refine lv_iconst (v := (1 : Int32)) hx hb dX12_canMake_20 (by decide) ?_
    refine lv_iand hx hb dX12_canMake_21 ?_
    refine lv_iload hx hb dX12_canMake_22 (lv_at hl 3 rfl) ?_
    refine lv_iload hx hb dX12_canMake_24 (lv_at hl 4 rfl) ?_
    refine k_X12_highOf N ⟨hx, hb, hml, hown, hts⟩ mw_1157 ⟨Nat.le_of_ble_eq_true rfl, Nat.le_of_ble_eq_true rfl⟩ h hK hP hD hS hl.1 (rest := [.int x5, .int ((x5 >>> (r3 &&& 31)) &&& (1 : Int32))]) (Nat.le_of_ble_eq_true rfl) ⟨Nat.le_of_ble_eq_true rfl, Nat.le_of_ble_eq_true rfl⟩ dX12_canMake_26 (fun r5 τ6 H locs h hP hD hS => ?_)
    refine lv_ishr hx hb dX12_canMake_29 ?_
    refine lv_iconst (v := (1 : Int32)) hx hb dX12_canMake_30 (by decide) ?_
    refine lv_iand hx hb dX12_canMake_31 ?_
    refine lv_iadd hx hb dX12_canMake_32 ?_
    refine lv_topi (fun v7 ev7 => ?_)
    have h := h v7 ev7
    refine lv_istore (lv' := [(7, .int v7), (0, .ref (ad 0)), (1, .long x1), (3, .long x3), (5, .int x5), (6, .int x6)]) hx hb dX12_canMake_33 hl (by decide) rfl (fun ls hl => ?_)
    refine lv_lload_n hx hb dX12_canMake_35 rfl (lv_at hl 2 rfl) ?_
    refine lv_iload hx hb dX12_canMake_36 (lv_at hl 5 rfl) ?_
    refine k_X12_isTied N ⟨hx, hb, hml, hown, hts⟩ mw_1071 ⟨Nat.le_of_ble_eq_true rfl, Nat.le_of_ble_eq_true rfl⟩ h hK hP hD hS hl.1 (rest := []) (Nat.le_of_ble_eq_true rfl) ⟨Nat.le_of_ble_eq_true rfl, Nat.le_of_ble_eq_true rfl⟩ dX12_canMake_38 (fun r8 τ9 H locs h hP hD hS => ?_)
    refine lv_if_eq (tgt := 58) hx hb dX12_canMake_41 (by decide) (fun hc => ?_) (fun hc => ?_)
    · have h := h.1 hc
      exact t_X12_canMake_58 C0 hK N hk_3 x1 x3 x5 x6 v7 τ9 _ _ _ h hP hD hS (lv_sub hl [1, 2, 3, 4, 5, 0] rfl)
    · have h := h.2 hc
      refine lv_lload_n hx hb dX12_canMake_44 rfl (lv_at hl 3 rfl) ?_
      refine lv_iload hx hb dX12_canMake_45 (lv_at hl 5 rfl) ?_
      refine k_X12_isTied N ⟨hx, hb, hml, hown, hts⟩ mw_1071 ⟨Nat.le_of_ble_eq_true rfl, Nat.le_of_ble_eq_true rfl⟩ h hK hP hD hS hl.1 (rest := []) (Nat.le_of_ble_eq_true rfl) ⟨Nat.le_of_ble_eq_true rfl, Nat.le_of_ble_eq_true rfl⟩ dX12_canMake_47 (fun r10 τ11 H locs h hP hD hS => ?_)
      refine lv_if_ne (tgt := 58) hx hb dX12_canMake_50 (by decide) (fun hc => ?_) (fun hc => ?_)
      · have h := h.2 hc
        exact t_X12_canMake_58 C0 hK N hk_3 x1 x3 x5 x6 v7 τ11 _ _ _ h hP hD hS (lv_sub hl [1, 2, 3, 4, 5, 0] rfl)
      · have h := h.1 hc
        refine lv_iload hx hb dX12_canMake_53 (lv_at hl 0 rfl) ?_
        refine lv_if_eq (tgt := 82) hx hb dX12_canMake_55 (by decide) (fun hc => ?_) (fun hc => ?_)
        · have h := h.1 hc
          refine lv_iconst (v := (0 : Int32)) hx hb dX12_canMake_82 (by decide) ?_
          exact zret_z hx hb hr hlocks hK hP hD hS zb_0 h dX12_canMake_83
        · have h := h.2 hc
          exact t_X12_canMake_58 C0 hK N hk_3 x1 x3 x5 x6 v7 τ11 _ _ _ h hP hD hS (lv_sub hl [1, 2, 3, 4, 5, 0] rfl)
set_option maxHeartbeats 4000000 in
set_option maxRecDepth 100000 in
theorem t_X12_canMake_3 (C0 : zCx p s m meth c args RX12 cX12_canMake 8 (some .boolean) vs_X12_canMake) (hK : va_K (dC, dI) vwCl (m_ty cI cJ cC) s) (N : Nat) {Q : Int32 → zSt → Prop} : ∀ (f : Nat) (x1 : Int64) (x3 : Int64) (x5 : Int32) (x6 : Int32) (σ : zSt) (H : Heap) (locs : List Loc) (ls : Array Slot), w_X12_canMake_3 N  Q f x1 x3 x5 x6 σ → va_P (dC, dI) vwCl (m_W ad cI cJ cC σ) H → va_D (zAW m_n ad s.heap.size) (m_W ad cI cJ cC σ) → va_S (zAW m_n ad s.heap.size) s.heap H locs → lv_has ls 8 [(0, .ref (ad 0)), (1, .long x1), (3, .long x3), (5, .int x5), (6, .int x6)] → W p l e rm_X12_canMake s m args below meth c H locs 0 0 (MQ below (zQi (dC, dI) (m_ty cI cJ cC) (m_W ad cI cJ cC) (zAW m_n ad s.heap.size) Q) args s 0 0 (zAW m_n ad s.heap.size)) (F0 m 3 ls []) := by
  intro f
  induction f with
  | zero => intro x1 x3 x5 x6 σ H locs ls h; exact h.elim
  | succ f ih =>
    intro x1 x3 x5 x6 σ H locs ls h hP hD hS hl
    exact tb_X12_canMake_3 C0 hK N  (k_3 := w_X12_canMake_3 N  Q f) ih x1 x3 x5 x6 σ H locs ls h hP hD hS hl
set_option maxHeartbeats 4000000 in
set_option maxRecDepth 100000 in
theorem t_X12_canMake_0 (C0 : zCx p s m meth c args RX12 cX12_canMake 8 (some .boolean) vs_X12_canMake) (hK : va_K (dC, dI) vwCl (m_ty cI cJ cC) s) (N : Nat) {Q : Int32 → zSt → Prop} : ∀ (x1 : Int64) (x3 : Int64) (x5 : Int32) (σ : zSt) (H : Heap) (locs : List Loc) (ls : Array Slot), w_X12_canMake N x1 x3 x5 σ Q → va_P (dC, dI) vwCl (m_W ad cI cJ cC σ) H → va_D (zAW m_n ad s.heap.size) (m_W ad cI cJ cC σ) → va_S (zAW m_n ad s.heap.size) s.heap H locs → lv_has ls 8 [(0, .ref (ad 0)), (1, .long x1), (3, .long x3), (5, .int x5)] → W p l e rm_X12_canMake s m args below meth c H locs 0 0 (MQ below (zQi (dC, dI) (m_ty cI cJ cC) (m_W ad cI cJ cC) (zAW m_n ad s.heap.size) Q) args s 0 0 (zAW m_n ad s.heap.size)) (F0 m 0 ls []) := by
  obtain ⟨hx, hb, hml, hr, hown, hts, hlocks⟩ := id C0
  intro x1 x3 x5 σ H locs ls h hP hD hS hl
  unfold w_X12_canMake at h
  refine lv_iconst (v := (0 : Int32)) hx hb dX12_canMake_0 (by decide) ?_
  refine lv_istore (lv' := [(6, .int (0 : Int32)), (0, .ref (ad 0)), (1, .long x1), (3, .long x3), (5, .int x5)]) hx hb dX12_canMake_1 hl (by decide) rfl (fun ls hl => ?_)
  exact t_X12_canMake_3 C0 hK N  N x1 x3 x5 (0 : Int32) σ _ _ _ h hP hD hS (lv_sub hl [1, 2, 3, 4, 0] rfl)
set_option maxHeartbeats 4000000 in
set_option maxRecDepth 100000 in
theorem c_X12_canMake (N : Nat) (l : Launch) (dC : Nat → ClassId) (dI : Nat → Nat → Nat) (ad : Nat → Nat) (cI cJ cC : ClassId) (sz : Nat) (σ : zSt) (x1 : Int64) (x3 : Int64) (x5 : Int32) (Q : Int32 → zSt → Prop) (h : w_X12_canMake N x1 x3 x5 σ Q) : Met l yX12_canMake vs_X12_canMake rm_X12_canMake (va_Pc [.ref (ad 0), .long x1, .long x3, .int x5] (zPc (dC, dI) (m_ty cI cJ cC) (m_W ad cI cJ cC) sz σ)) (zQi (dC, dI) (m_ty cI cJ cC) (m_W ad cI cJ cC) (zAW m_n ad sz) Q) 0 0 (zAW m_n ad sz) := by
  refine Met.ofW (cc := cX12_canMake) (maxL := 8) (ret := (some .boolean)) (by decide) rfl ?_
  intro p e s m args below meth c s₁ B hml hv
  obtain ⟨rfl, hsz, hP, hK, hD0⟩ := hv
  subst hsz
  have C0 : zCx p s m meth c _ RX12 cX12_canMake 8 (some .boolean) vs_X12_canMake := ⟨B.exec, B.bytes, hml, B.returns, findClass_of_methodNamed B.named, atoms_spec (ws := vs_X12_canMake) B.pre, B.notSynchronized⟩
  have hD := m_D0 (n0 := s.heap.size) hD0
  have hl := lv_entry ([.ref (ad 0), .long x1, .long x3, .int x5]) (n := 8) (Nat.le_of_ble_eq_true rfl)
  rw [lg_entry_eq]
  generalize (lg_sl ([.ref (ad 0), .long x1, .long x3, .int x5]) ++ List.replicate (8 - (lg_sl ([.ref (ad 0), .long x1, .long x3, .int x5])).length) Slot.unset).toArray = ls at hl ⊢
  exact t_X12_canMake_0 C0 hK N x1 x3 x5 σ _ _ ls h hP hD va_S.rf hl
theorem k_X12_canMake (N : Nat) {R : Room} {H : Heap} {locs : List Loc} {cells slots : Nat} {Q2 : State → Prop} {cc : ByteArray} {nL pc index : Nat} {ls : Array Slot} {rest : List Value} {own : String} {c0 : Cond} {σ : zSt} {x1 : Int64} {x3 : Int64} {x5 : Int32} {Q : Int32 → zSt → Prop} (S0 : CallFix p m c cc nL s args (c0 :: zT) own) (hml : Cond.methodLink own index yX12_canMake ∈ zT) (hR : rm_X12_canMake.frames + 1 ≤ R.frames ∧ 8 + (8 + 11) + rm_X12_canMake.locals ≤ R.locals) (h : w_X12_canMake N x1 x3 x5 σ Q) (hK : va_K (dC, dI) vwCl (m_ty cI cJ cC) s) (hP : va_P (dC, dI) vwCl (m_W ad cI cJ cC σ) H) (hD : va_D (zAW m_n ad s.heap.size) (m_W ad cI cJ cC σ)) (hS : va_S (zAW m_n ad s.heap.size) s.heap H locs) (hsz : ls.size = nL) (hW : (rest.map fun v => v.category).sum ≤ 8) (hcs : cells ≤ R.cells ∧ slots ≤ R.slots) (hdg : decode cc pc = .ok (.invokevirtual index, 3)) (kk : ∀ (r : Int32) (τ : zSt) (H1 : Heap) (locs1 : List Loc), Q r τ → va_P (dC, dI) vwCl (m_W ad cI cJ cC τ) H1 → va_D (zAW m_n ad s.heap.size) (m_W ad cI cJ cC τ) → va_S (zAW m_n ad s.heap.size) s.heap H1 locs1 → W p l e R s m args below meth c H1 locs1 cells slots Q2 (F0 m (pc + 3) ls (.int r :: rest))) : W p l e R s m args below meth c H locs cells slots Q2 (F0 m pc ls (.int x5 :: .long x3 :: .long x1 :: .ref (ad 0) :: rest)) :=
  zcv_i (T := TX12) (N' := 83) (k := 0) (ci := 12) (fs := m_f0 ad σ) [.long x1, .long x3, .int x5] S0 (c_X12_canMake N l dC dI ad cI cJ cC H.size σ x1 x3 x5 Q h) (cw_X12_canMake S0.2.2.2.2 hml rfl rfl hR) rfl rfl hK hP hD hS rfl hsz hW rfl hcs hdg kk
end q22
section q22
def b_X12_findsSet_81 (N : Nat) (k_2 : Int64 → Int64 → zSt → Prop) (k_81 : Int64 → Int64 → Int32 → Int32 → zSt → Prop) (Q : Int32 → zSt → Prop) (x1 : Int64) (x3 : Int64) (x5 : Int32) (x6 : Int32) (σ : zSt) : Prop :=
  w_X12_many N σ (fun r1 τ2 => (((1 : Int32) <<< (r1 &&& 31)) ≤ x6 → ∀ v3 : Int64, v3 = x3 + (1 : Int64) → k_2 x1 v3 τ2) ∧ (¬ ((1 : Int32) <<< (r1 &&& 31)) ≤ x6 → (x5 = 0 → ∀ v4 : Int64, v4 = x3 + (1 : Int64) → k_2 x1 v4 τ2) ∧ (¬ x5 = 0 → ((x6 &&& (x5 ^^^ (-1 : Int32))) = 0 → w_X12_canMake N x1 x3 x6 τ2 (fun r6 τ7 => (r6 = 0 → ∀ v8 : Int32, v8 = x6 + (1 : Int32) → k_81 x1 x3 x5 v8 τ7) ∧ (¬ r6 = 0 → w_X12_finds N (5 : Int32) x6 x3 τ7 (fun r9 τ10 => (zb r9) ∧ Q r9 τ10)))) ∧ (¬ (x6 &&& (x5 ^^^ (-1 : Int32))) = 0 → ∀ v5 : Int32, v5 = x6 + (1 : Int32) → k_81 x1 x3 x5 v5 τ2))))
def w_X12_findsSet_81 (N : Nat) (k_2 : Int64 → Int64 → zSt → Prop) (Q : Int32 → zSt → Prop) : Nat → Int64 → Int64 → Int32 → Int32 → zSt → Prop
  | 0 => fun _ _ _ _ _ => False
  | f + 1 => b_X12_findsSet_81 N k_2 (w_X12_findsSet_81 N k_2 Q f) Q
def b_X12_findsSet_36 (N : Nat) (k_2 : Int64 → Int64 → zSt → Prop) (k_36 : Int64 → Int64 → Int32 → Int32 → zSt → Prop) (Q : Int32 → zSt → Prop) (x1 : Int64) (x3 : Int64) (x5 : Int32) (x6 : Int32) (σ : zSt) : Prop :=
  w_X12_many N σ (fun r1 τ2 => (r1 ≤ x6 → w_X12_findsSet_81 N k_2 Q N x1 x3 x5 (1 : Int32) τ2) ∧ (¬ r1 ≤ x6 → w_X12_worthOf N x3 x6 τ2 (fun r3 τ4 => (vp_in x6 10) ∧ (((lg_cmp r3 (τ4.2.2.2 4 x6.toNatClampNeg)) ≤ 0 → ∀ v5 : Int32, v5 = x6 + (1 : Int32) → k_36 x1 x3 x5 v5 τ4) ∧ (¬ (lg_cmp r3 (τ4.2.2.2 4 x6.toNatClampNeg)) ≤ 0 → ∀ v6 : Int32, v6 = x5 ||| ((1 : Int32) <<< (x6 &&& 31)) → ∀ v7 : Int32, v7 = x6 + (1 : Int32) → k_36 x1 x3 v6 v7 τ4)))))
def w_X12_findsSet_36 (N : Nat) (k_2 : Int64 → Int64 → zSt → Prop) (Q : Int32 → zSt → Prop) : Nat → Int64 → Int64 → Int32 → Int32 → zSt → Prop
  | 0 => fun _ _ _ _ _ => False
  | f + 1 => b_X12_findsSet_36 N k_2 (w_X12_findsSet_36 N k_2 Q f) Q
def b_X12_findsSet_2 (N : Nat) (k_2 : Int64 → Int64 → zSt → Prop) (Q : Int32 → zSt → Prop) (x1 : Int64) (x3 : Int64) (σ : zSt) : Prop :=
  w_X12_pairs N σ (fun r1 τ2 => (0 ≤ (lg_cmp x3 ((1 : Int64) <<< (r1.toInt64 &&& 63))) → Q (0 : Int32) τ2) ∧ (¬ 0 ≤ (lg_cmp x3 ((1 : Int64) <<< (r1.toInt64 &&& 63))) → ((lg_cmp x3 x1) = 0 → ∀ v3 : Int64, v3 = x3 + (1 : Int64) → k_2 x1 v3 τ2) ∧ (¬ (lg_cmp x3 x1) = 0 → w_X12_may N x3 τ2 (fun r4 τ5 => (r4 = 0 → ∀ v6 : Int64, v6 = x3 + (1 : Int64) → k_2 x1 v6 τ5) ∧ (¬ r4 = 0 → w_X12_findsSet_36 N k_2 Q N x1 x3 (0 : Int32) (0 : Int32) τ5)))))
def w_X12_findsSet_2 (N : Nat) (Q : Int32 → zSt → Prop) : Nat → Int64 → Int64 → zSt → Prop
  | 0 => fun _ _ _ => False
  | f + 1 => b_X12_findsSet_2 N (w_X12_findsSet_2 N  Q f) Q
def w_X12_findsSet (N : Nat) (x1 : Int64) (σ : zSt) (Q : Int32 → zSt → Prop) : Prop :=
  w_X12_findsSet_2 N Q N x1 (0 : Int64) σ
variable {p : Program} {l : Launch} {e : Env} {s : State} {m : MethodId} {args : Array Value} {below : List Frame} {meth : Method} {c : Code} {dC : Nat → ClassId} {dI : Nat → Nat → Nat} {ad : Nat → Nat} {cI cJ cC : ClassId}
set_option maxHeartbeats 4000000 in
set_option maxRecDepth 100000 in
theorem tb_X12_findsSet_81 (C0 : zCx p s m meth c args RX12 cX12_findsSet 7 (some .boolean) vs_X12_findsSet) (hK : va_K (dC, dI) vwCl (m_ty cI cJ cC) s) (N : Nat) {Q : Int32 → zSt → Prop} {k_2 : Int64 → Int64 → zSt → Prop} (hk_2 : ∀ (x1 : Int64) (x3 : Int64) (σ : zSt) (H : Heap) (locs : List Loc) (ls : Array Slot), k_2 x1 x3 σ → va_P (dC, dI) vwCl (m_W ad cI cJ cC σ) H → va_D (zAW m_n ad s.heap.size) (m_W ad cI cJ cC σ) → va_S (zAW m_n ad s.heap.size) s.heap H locs → lv_has ls 7 [(0, .ref (ad 0)), (1, .long x1), (3, .long x3)] → W p l e rm_X12_findsSet s m args below meth c H locs 0 0 (MQ below (zQi (dC, dI) (m_ty cI cJ cC) (m_W ad cI cJ cC) (zAW m_n ad s.heap.size) Q) args s 0 0 (zAW m_n ad s.heap.size)) (F0 m 2 ls [])) {k_81 : Int64 → Int64 → Int32 → Int32 → zSt → Prop} (hk_81 : ∀ (x1 : Int64) (x3 : Int64) (x5 : Int32) (x6 : Int32) (σ : zSt) (H : Heap) (locs : List Loc) (ls : Array Slot), k_81 x1 x3 x5 x6 σ → va_P (dC, dI) vwCl (m_W ad cI cJ cC σ) H → va_D (zAW m_n ad s.heap.size) (m_W ad cI cJ cC σ) → va_S (zAW m_n ad s.heap.size) s.heap H locs → lv_has ls 7 [(0, .ref (ad 0)), (1, .long x1), (3, .long x3), (5, .int x5), (6, .int x6)] → W p l e rm_X12_findsSet s m args below meth c H locs 0 0 (MQ below (zQi (dC, dI) (m_ty cI cJ cC) (m_W ad cI cJ cC) (zAW m_n ad s.heap.size) Q) args s 0 0 (zAW m_n ad s.heap.size)) (F0 m 81 ls [])) : ∀ (x1 : Int64) (x3 : Int64) (x5 : Int32) (x6 : Int32) (σ : zSt) (H : Heap) (locs : List Loc) (ls : Array Slot), b_X12_findsSet_81 N k_2 k_81 Q x1 x3 x5 x6 σ → va_P (dC, dI) vwCl (m_W ad cI cJ cC σ) H → va_D (zAW m_n ad s.heap.size) (m_W ad cI cJ cC σ) → va_S (zAW m_n ad s.heap.size) s.heap H locs → lv_has ls 7 [(0, .ref (ad 0)), (1, .long x1), (3, .long x3), (5, .int x5), (6, .int x6)] → W p l e rm_X12_findsSet s m args below meth c H locs 0 0 (MQ below (zQi (dC, dI) (m_ty cI cJ cC) (m_W ad cI cJ cC) (zAW m_n ad s.heap.size) Q) args s 0 0 (zAW m_n ad s.heap.size)) (F0 m 81 ls []) := by
  obtain ⟨hx, hb, hml, hr, hown, hts, hlocks⟩ := id C0
  intro x1 x3 x5 x6 σ H locs ls h hP hD hS hl
  unfold b_X12_findsSet_81 at h
  refine lv_iload hx hb dX12_findsSet_81 (lv_at hl 4 rfl) ?_
  refine lv_iconst (v := (1 : Int32)) hx hb dX12_findsSet_83 (by decide) ?_
  refine lv_aload_n hx hb dX12_findsSet_84 rfl (lv_at hl 0 rfl) ?_
  refine k_X12_many N ⟨hx, hb, hml, hown, hts⟩ mw_1044 ⟨Nat.le_of_ble_eq_true rfl, Nat.le_of_ble_eq_true rfl⟩ h hK hP hD hS hl.1 (rest := [.int (1 : Int32), .int x6]) (Nat.le_of_ble_eq_true rfl) ⟨Nat.le_of_ble_eq_true rfl, Nat.le_of_ble_eq_true rfl⟩ dX12_findsSet_85 (fun r1 τ2 H locs h hP hD hS => ?_)
  refine lv_ishl hx hb dX12_findsSet_88 ?_
  refine lv_icmp_ge (tgt := 133) hx hb dX12_findsSet_89 (by decide) (fun hc => ?_) (fun hc => ?_)
  · have h := h.1 hc
    refine lv_lload_n hx hb dX12_findsSet_133 rfl (lv_at hl 2 rfl) ?_
    refine lv_lconst (v := (1 : Int64)) hx hb dX12_findsSet_134 (by decide) ?_
    refine lv_ladd hx hb dX12_findsSet_135 ?_
    refine lv_topl (fun v3 ev3 => ?_)
    have h := h v3 ev3
    refine lv_lstore_n (lv' := [(3, .long v3), (0, .ref (ad 0)), (1, .long x1), (5, .int x5), (6, .int x6)]) hx hb dX12_findsSet_136 rfl hl (by decide) rfl (fun ls hl => ?_)
    refine lv_goto (tgt := 2) hx hb dX12_findsSet_137 (by decide) ?_
    exact hk_2 x1 v3 τ2 _ _ _ h hP hD hS (lv_sub hl [1, 2, 0] rfl)
  · have h := h.2 hc
    refine lv_iload hx hb dX12_findsSet_92 (lv_at hl 3 rfl) ?_
    refine lv_if_eq (tgt := 133) hx hb dX12_findsSet_94 (by decide) (fun hc => ?_) (fun hc => ?_)
    · have h := h.1 hc
      refine lv_lload_n hx hb dX12_findsSet_133 rfl (lv_at hl 2 rfl) ?_
      refine lv_lconst (v := (1 : Int64)) hx hb dX12_findsSet_134 (by decide) ?_
      refine lv_ladd hx hb dX12_findsSet_135 ?_
      refine lv_topl (fun v4 ev4 => ?_)
      have h := h v4 ev4
      refine lv_lstore_n (lv' := [(3, .long v4), (0, .ref (ad 0)), (1, .long x1), (5, .int x5), (6, .int x6)]) hx hb dX12_findsSet_136 rfl hl (by decide) rfl (fun ls hl => ?_)
      refine lv_goto (tgt := 2) hx hb dX12_findsSet_137 (by decide) ?_
      exact hk_2 x1 v4 τ2 _ _ _ h hP hD hS (lv_sub hl [1, 2, 0] rfl)
    · have h := h.2 hc
      refine lv_iload hx hb dX12_findsSet_97 (lv_at hl 4 rfl) ?_
      refine lv_iload hx hb dX12_findsSet_99 (lv_at hl 3 rfl) ?_
      refine lv_iconst (v := (-1 : Int32)) hx hb dX12_findsSet_101 (by decide) ?_
      refine lv_ixor hx hb dX12_findsSet_102 ?_
      refine lv_iand hx hb dX12_findsSet_103 ?_
      refine lv_if_ne (tgt := 127) hx hb dX12_findsSet_104 (by decide) (fun hc => ?_) (fun hc => ?_)
      · have h := h.2 hc
        obtain ⟨v5, ev5⟩ : ∃ z : Int32, z = x6 + (1 : Int32) := ⟨_, rfl⟩
        have h := h v5 ev5
        refine lv_iinc (v := v5) (lv' := [(6, .int v5), (0, .ref (ad 0)), (1, .long x1), (3, .long x3), (5, .int x5)]) hx hb dX12_findsSet_127 hl (k := 4) rfl (by rw [ev5]; rfl) (by decide) rfl (fun ls hl => ?_)
        refine lv_goto (tgt := 81) hx hb dX12_findsSet_130 (by decide) ?_
        exact hk_81 x1 x3 x5 v5 τ2 _ _ _ h hP hD hS (lv_sub hl [1, 2, 3, 4, 0] rfl)
      · have h := h.1 hc
        refine lv_aload_n hx hb dX12_findsSet_107 rfl (lv_at hl 0 rfl) ?_
        refine lv_lload_n hx hb dX12_findsSet_108 rfl (lv_at hl 1 rfl) ?_
        refine lv_lload_n hx hb dX12_findsSet_109 rfl (lv_at hl 2 rfl) ?_
        refine lv_iload hx hb dX12_findsSet_110 (lv_at hl 4 rfl) ?_
        refine k_X12_canMake N ⟨hx, hb, hml, hown, hts⟩ mw_1166 ⟨Nat.le_of_ble_eq_true rfl, Nat.le_of_ble_eq_true rfl⟩ h hK hP hD hS hl.1 (rest := []) (Nat.le_of_ble_eq_true rfl) ⟨Nat.le_of_ble_eq_true rfl, Nat.le_of_ble_eq_true rfl⟩ dX12_findsSet_112 (fun r6 τ7 H locs h hP hD hS => ?_)
        refine lv_if_eq (tgt := 127) hx hb dX12_findsSet_115 (by decide) (fun hc => ?_) (fun hc => ?_)
        · have h := h.1 hc
          obtain ⟨v8, ev8⟩ : ∃ z : Int32, z = x6 + (1 : Int32) := ⟨_, rfl⟩
          have h := h v8 ev8
          refine lv_iinc (v := v8) (lv' := [(6, .int v8), (0, .ref (ad 0)), (1, .long x1), (3, .long x3), (5, .int x5)]) hx hb dX12_findsSet_127 hl (k := 4) rfl (by rw [ev8]; rfl) (by decide) rfl (fun ls hl => ?_)
          refine lv_goto (tgt := 81) hx hb dX12_findsSet_130 (by decide) ?_
          exact hk_81 x1 x3 x5 v8 τ7 _ _ _ h hP hD hS (lv_sub hl [1, 2, 3, 4, 0] rfl)
        · have h := h.2 hc
          refine lv_aload_n hx hb dX12_findsSet_118 rfl (lv_at hl 0 rfl) ?_
          refine lv_iconst (v := (5 : Int32)) hx hb dX12_findsSet_119 (by decide) ?_
          refine lv_iload hx hb dX12_findsSet_120 (lv_at hl 4 rfl) ?_
          refine lv_lload_n hx hb dX12_findsSet_122 rfl (lv_at hl 2 rfl) ?_
          refine k_X12_finds N ⟨hx, hb, hml, hown, hts⟩ mw_1160 ⟨Nat.le_of_ble_eq_true rfl, Nat.le_of_ble_eq_true rfl⟩ h hK hP hD hS hl.1 (rest := []) (Nat.le_of_ble_eq_true rfl) ⟨Nat.le_of_ble_eq_true rfl, Nat.le_of_ble_eq_true rfl⟩ dX12_findsSet_123 (fun r9 τ10 H locs h hP hD hS => ?_)
          exact zret_z hx hb hr hlocks hK hP hD hS h.1 h.2 dX12_findsSet_126
set_option maxHeartbeats 4000000 in
set_option maxRecDepth 100000 in
theorem t_X12_findsSet_81 (C0 : zCx p s m meth c args RX12 cX12_findsSet 7 (some .boolean) vs_X12_findsSet) (hK : va_K (dC, dI) vwCl (m_ty cI cJ cC) s) (N : Nat) {Q : Int32 → zSt → Prop} {k_2 : Int64 → Int64 → zSt → Prop} (hk_2 : ∀ (x1 : Int64) (x3 : Int64) (σ : zSt) (H : Heap) (locs : List Loc) (ls : Array Slot), k_2 x1 x3 σ → va_P (dC, dI) vwCl (m_W ad cI cJ cC σ) H → va_D (zAW m_n ad s.heap.size) (m_W ad cI cJ cC σ) → va_S (zAW m_n ad s.heap.size) s.heap H locs → lv_has ls 7 [(0, .ref (ad 0)), (1, .long x1), (3, .long x3)] → W p l e rm_X12_findsSet s m args below meth c H locs 0 0 (MQ below (zQi (dC, dI) (m_ty cI cJ cC) (m_W ad cI cJ cC) (zAW m_n ad s.heap.size) Q) args s 0 0 (zAW m_n ad s.heap.size)) (F0 m 2 ls [])) : ∀ (f : Nat) (x1 : Int64) (x3 : Int64) (x5 : Int32) (x6 : Int32) (σ : zSt) (H : Heap) (locs : List Loc) (ls : Array Slot), w_X12_findsSet_81 N k_2 Q f x1 x3 x5 x6 σ → va_P (dC, dI) vwCl (m_W ad cI cJ cC σ) H → va_D (zAW m_n ad s.heap.size) (m_W ad cI cJ cC σ) → va_S (zAW m_n ad s.heap.size) s.heap H locs → lv_has ls 7 [(0, .ref (ad 0)), (1, .long x1), (3, .long x3), (5, .int x5), (6, .int x6)] → W p l e rm_X12_findsSet s m args below meth c H locs 0 0 (MQ below (zQi (dC, dI) (m_ty cI cJ cC) (m_W ad cI cJ cC) (zAW m_n ad s.heap.size) Q) args s 0 0 (zAW m_n ad s.heap.size)) (F0 m 81 ls []) := by
  intro f
  induction f with
  | zero => intro x1 x3 x5 x6 σ H locs ls h; exact h.elim
  | succ f ih =>
    intro x1 x3 x5 x6 σ H locs ls h hP hD hS hl
    exact tb_X12_findsSet_81 C0 hK N hk_2 (k_81 := w_X12_findsSet_81 N k_2 Q f) ih x1 x3 x5 x6 σ H locs ls h hP hD hS hl
set_option maxHeartbeats 4000000 in
set_option maxRecDepth 100000 in
theorem tb_X12_findsSet_36 (C0 : zCx p s m meth c args RX12 cX12_findsSet 7 (some .boolean) vs_X12_findsSet) (hK : va_K (dC, dI) vwCl (m_ty cI cJ cC) s) (N : Nat) {Q : Int32 → zSt → Prop} {k_2 : Int64 → Int64 → zSt → Prop} (hk_2 : ∀ (x1 : Int64) (x3 : Int64) (σ : zSt) (H : Heap) (locs : List Loc) (ls : Array Slot), k_2 x1 x3 σ → va_P (dC, dI) vwCl (m_W ad cI cJ cC σ) H → va_D (zAW m_n ad s.heap.size) (m_W ad cI cJ cC σ) → va_S (zAW m_n ad s.heap.size) s.heap H locs → lv_has ls 7 [(0, .ref (ad 0)), (1, .long x1), (3, .long x3)] → W p l e rm_X12_findsSet s m args below meth c H locs 0 0 (MQ below (zQi (dC, dI) (m_ty cI cJ cC) (m_W ad cI cJ cC) (zAW m_n ad s.heap.size) Q) args s 0 0 (zAW m_n ad s.heap.size)) (F0 m 2 ls [])) {k_36 : Int64 → Int64 → Int32 → Int32 → zSt → Prop} (hk_36 : ∀ (x1 : Int64) (x3 : Int64) (x5 : Int32) (x6 : Int32) (σ : zSt) (H : Heap) (locs : List Loc) (ls : Array Slot), k_36 x1 x3 x5 x6 σ → va_P (dC, dI) vwCl (m_W ad cI cJ cC σ) H → va_D (zAW m_n ad s.heap.size) (m_W ad cI cJ cC σ) → va_S (zAW m_n ad s.heap.size) s.heap H locs → lv_has ls 7 [(0, .ref (ad 0)), (1, .long x1), (3, .long x3), (5, .int x5), (6, .int x6)] → W p l e rm_X12_findsSet s m args below meth c H locs 0 0 (MQ below (zQi (dC, dI) (m_ty cI cJ cC) (m_W ad cI cJ cC) (zAW m_n ad s.heap.size) Q) args s 0 0 (zAW m_n ad s.heap.size)) (F0 m 36 ls [])) : ∀ (x1 : Int64) (x3 : Int64) (x5 : Int32) (x6 : Int32) (σ : zSt) (H : Heap) (locs : List Loc) (ls : Array Slot), b_X12_findsSet_36 N k_2 k_36 Q x1 x3 x5 x6 σ → va_P (dC, dI) vwCl (m_W ad cI cJ cC σ) H → va_D (zAW m_n ad s.heap.size) (m_W ad cI cJ cC σ) → va_S (zAW m_n ad s.heap.size) s.heap H locs → lv_has ls 7 [(0, .ref (ad 0)), (1, .long x1), (3, .long x3), (5, .int x5), (6, .int x6)] → W p l e rm_X12_findsSet s m args below meth c H locs 0 0 (MQ below (zQi (dC, dI) (m_ty cI cJ cC) (m_W ad cI cJ cC) (zAW m_n ad s.heap.size) Q) args s 0 0 (zAW m_n ad s.heap.size)) (F0 m 36 ls []) := by
  obtain ⟨hx, hb, hml, hr, hown, hts, hlocks⟩ := id C0
  intro x1 x3 x5 x6 σ H locs ls h hP hD hS hl
  unfold b_X12_findsSet_36 at h
  refine lv_iload hx hb dX12_findsSet_36 (lv_at hl 4 rfl) ?_
  refine lv_aload_n hx hb dX12_findsSet_38 rfl (lv_at hl 0 rfl) ?_
  refine k_X12_many N ⟨hx, hb, hml, hown, hts⟩ mw_1044 ⟨Nat.le_of_ble_eq_true rfl, Nat.le_of_ble_eq_true rfl⟩ h hK hP hD hS hl.1 (rest := [.int x6]) (Nat.le_of_ble_eq_true rfl) ⟨Nat.le_of_ble_eq_true rfl, Nat.le_of_ble_eq_true rfl⟩ dX12_findsSet_39 (fun r1 τ2 H locs h hP hD hS => ?_)
  refine lv_icmp_ge (tgt := 78) hx hb dX12_findsSet_42 (by decide) (fun hc => ?_) (fun hc => ?_)
  · have h := h.1 hc
    refine lv_iconst (v := (1 : Int32)) hx hb dX12_findsSet_78 (by decide) ?_
    refine lv_istore (lv' := [(6, .int (1 : Int32)), (0, .ref (ad 0)), (1, .long x1), (3, .long x3), (5, .int x5)]) hx hb dX12_findsSet_79 hl (by decide) rfl (fun ls hl => ?_)
    exact t_X12_findsSet_81 C0 hK N hk_2 N x1 x3 x5 (1 : Int32) τ2 _ _ _ h hP hD hS (lv_sub hl [1, 2, 3, 4, 0] rfl)
  · have h := h.2 hc
    refine lv_aload_n hx hb dX12_findsSet_45 rfl (lv_at hl 0 rfl) ?_
    refine lv_lload_n hx hb dX12_findsSet_46 rfl (lv_at hl 2 rfl) ?_
    refine lv_iload hx hb dX12_findsSet_47 (lv_at hl 4 rfl) ?_
    refine k_X12_worthOf N ⟨hx, hb, hml, hown, hts⟩ mw_1104 ⟨Nat.le_of_ble_eq_true rfl, Nat.le_of_ble_eq_true rfl⟩ h hK hP hD hS hl.1 (rest := []) (Nat.le_of_ble_eq_true rfl) ⟨Nat.le_of_ble_eq_true rfl, Nat.le_of_ble_eq_true rfl⟩ dX12_findsSet_49 (fun r3 τ4 H locs h hP hD hS => ?_)
    refine lv_aload_n hx hb dX12_findsSet_52 rfl (lv_at hl 0 rfl) ?_
    refine mg_0_59 hx hb hts hown hK hP mw_892 dX12_findsSet_53 ?_
    refine lv_iload hx hb dX12_findsSet_56 (lv_at hl 4 rfl) ?_
    refine ma_19 hx hb hK hP h.1 rfl dX12_findsSet_58 ?_
    have h := h.2
    refine W.lcmp hx hb dX12_findsSet_59 ?_
    refine lv_if_le (tgt := 72) hx hb dX12_findsSet_60 (by decide) (fun hc => ?_) (fun hc => ?_)
    · have h := h.1 hc
      obtain ⟨v5, ev5⟩ : ∃ z : Int32, z = x6 + (1 : Int32) := ⟨_, rfl⟩
      have h := h v5 ev5
      refine lv_iinc (v := v5) (lv' := [(6, .int v5), (0, .ref (ad 0)), (1, .long x1), (3, .long x3), (5, .int x5)]) hx hb dX12_findsSet_72 hl (k := 4) rfl (by rw [ev5]; rfl) (by decide) rfl (fun ls hl => ?_)
      refine lv_goto (tgt := 36) hx hb dX12_findsSet_75 (by decide) ?_
      exact hk_36 x1 x3 x5 v5 τ4 _ _ _ h hP hD hS (lv_sub hl [1, 2, 3, 4, 0] rfl)
    · have h := h.2 hc
      refine lv_iload hx hb dX12_findsSet_63 (lv_at hl 3 rfl) ?_
      refine lv_iconst (v := (1 : Int32)) hx hb dX12_findsSet_65 (by decide) ?_
      refine lv_iload hx hb dX12_findsSet_66 (lv_at hl 4 rfl) ?_
      refine lv_ishl hx hb dX12_findsSet_68 ?_
      refine lv_ior hx hb dX12_findsSet_69 ?_
      refine lv_topi (fun v6 ev6 => ?_)
      have h := h v6 ev6
      refine lv_istore (lv' := [(5, .int v6), (0, .ref (ad 0)), (1, .long x1), (3, .long x3), (6, .int x6)]) hx hb dX12_findsSet_70 hl (by decide) rfl (fun ls hl => ?_)
      obtain ⟨v7, ev7⟩ : ∃ z : Int32, z = x6 + (1 : Int32) := ⟨_, rfl⟩
      have h := h v7 ev7
      refine lv_iinc (v := v7) (lv' := [(6, .int v7), (5, .int v6), (0, .ref (ad 0)), (1, .long x1), (3, .long x3)]) hx hb dX12_findsSet_72 hl (k := 4) rfl (by rw [ev7]; rfl) (by decide) rfl (fun ls hl => ?_)
      refine lv_goto (tgt := 36) hx hb dX12_findsSet_75 (by decide) ?_
      exact hk_36 x1 x3 v6 v7 τ4 _ _ _ h hP hD hS (lv_sub hl [2, 3, 4, 1, 0] rfl)
set_option maxHeartbeats 4000000 in
set_option maxRecDepth 100000 in
theorem t_X12_findsSet_36 (C0 : zCx p s m meth c args RX12 cX12_findsSet 7 (some .boolean) vs_X12_findsSet) (hK : va_K (dC, dI) vwCl (m_ty cI cJ cC) s) (N : Nat) {Q : Int32 → zSt → Prop} {k_2 : Int64 → Int64 → zSt → Prop} (hk_2 : ∀ (x1 : Int64) (x3 : Int64) (σ : zSt) (H : Heap) (locs : List Loc) (ls : Array Slot), k_2 x1 x3 σ → va_P (dC, dI) vwCl (m_W ad cI cJ cC σ) H → va_D (zAW m_n ad s.heap.size) (m_W ad cI cJ cC σ) → va_S (zAW m_n ad s.heap.size) s.heap H locs → lv_has ls 7 [(0, .ref (ad 0)), (1, .long x1), (3, .long x3)] → W p l e rm_X12_findsSet s m args below meth c H locs 0 0 (MQ below (zQi (dC, dI) (m_ty cI cJ cC) (m_W ad cI cJ cC) (zAW m_n ad s.heap.size) Q) args s 0 0 (zAW m_n ad s.heap.size)) (F0 m 2 ls [])) : ∀ (f : Nat) (x1 : Int64) (x3 : Int64) (x5 : Int32) (x6 : Int32) (σ : zSt) (H : Heap) (locs : List Loc) (ls : Array Slot), w_X12_findsSet_36 N k_2 Q f x1 x3 x5 x6 σ → va_P (dC, dI) vwCl (m_W ad cI cJ cC σ) H → va_D (zAW m_n ad s.heap.size) (m_W ad cI cJ cC σ) → va_S (zAW m_n ad s.heap.size) s.heap H locs → lv_has ls 7 [(0, .ref (ad 0)), (1, .long x1), (3, .long x3), (5, .int x5), (6, .int x6)] → W p l e rm_X12_findsSet s m args below meth c H locs 0 0 (MQ below (zQi (dC, dI) (m_ty cI cJ cC) (m_W ad cI cJ cC) (zAW m_n ad s.heap.size) Q) args s 0 0 (zAW m_n ad s.heap.size)) (F0 m 36 ls []) := by
  intro f
  induction f with
  | zero => intro x1 x3 x5 x6 σ H locs ls h; exact h.elim
  | succ f ih =>
    intro x1 x3 x5 x6 σ H locs ls h hP hD hS hl
    exact tb_X12_findsSet_36 C0 hK N hk_2 (k_36 := w_X12_findsSet_36 N k_2 Q f) ih x1 x3 x5 x6 σ H locs ls h hP hD hS hl
set_option maxHeartbeats 4000000 in
set_option maxRecDepth 100000 in
theorem tb_X12_findsSet_2 (C0 : zCx p s m meth c args RX12 cX12_findsSet 7 (some .boolean) vs_X12_findsSet) (hK : va_K (dC, dI) vwCl (m_ty cI cJ cC) s) (N : Nat) {Q : Int32 → zSt → Prop} {k_2 : Int64 → Int64 → zSt → Prop} (hk_2 : ∀ (x1 : Int64) (x3 : Int64) (σ : zSt) (H : Heap) (locs : List Loc) (ls : Array Slot), k_2 x1 x3 σ → va_P (dC, dI) vwCl (m_W ad cI cJ cC σ) H → va_D (zAW m_n ad s.heap.size) (m_W ad cI cJ cC σ) → va_S (zAW m_n ad s.heap.size) s.heap H locs → lv_has ls 7 [(0, .ref (ad 0)), (1, .long x1), (3, .long x3)] → W p l e rm_X12_findsSet s m args below meth c H locs 0 0 (MQ below (zQi (dC, dI) (m_ty cI cJ cC) (m_W ad cI cJ cC) (zAW m_n ad s.heap.size) Q) args s 0 0 (zAW m_n ad s.heap.size)) (F0 m 2 ls [])) : ∀ (x1 : Int64) (x3 : Int64) (σ : zSt) (H : Heap) (locs : List Loc) (ls : Array Slot), b_X12_findsSet_2 N k_2 Q x1 x3 σ → va_P (dC, dI) vwCl (m_W ad cI cJ cC σ) H → va_D (zAW m_n ad s.heap.size) (m_W ad cI cJ cC σ) → va_S (zAW m_n ad s.heap.size) s.heap H locs → lv_has ls 7 [(0, .ref (ad 0)), (1, .long x1), (3, .long x3)] → W p l e rm_X12_findsSet s m args below meth c H locs 0 0 (MQ below (zQi (dC, dI) (m_ty cI cJ cC) (m_W ad cI cJ cC) (zAW m_n ad s.heap.size) Q) args s 0 0 (zAW m_n ad s.heap.size)) (F0 m 2 ls []) := by
  obtain ⟨hx, hb, hml, hr, hown, hts, hlocks⟩ := id C0
  intro x1 x3 σ H locs ls h hP hD hS hl
  unfold b_X12_findsSet_2 at h
  refine lv_lload_n hx hb dX12_findsSet_2 rfl (lv_at hl 2 rfl) ?_
  refine lv_lconst (v := (1 : Int64)) hx hb dX12_findsSet_3 (by decide) ?_
  refine lv_aload_n hx hb dX12_findsSet_4 rfl (lv_at hl 0 rfl) ?_
  refine k_X12_pairs N ⟨hx, hb, hml, hown, hts⟩ mw_1047 ⟨Nat.le_of_ble_eq_true rfl, Nat.le_of_ble_eq_true rfl⟩ h hK hP hD hS hl.1 (rest := [.long (1 : Int64), .long x3]) (Nat.le_of_ble_eq_true rfl) ⟨Nat.le_of_ble_eq_true rfl, Nat.le_of_ble_eq_true rfl⟩ dX12_findsSet_5 (fun r1 τ2 H locs h hP hD hS => ?_)
  refine lv_lshl hx hb dX12_findsSet_8 rfl ?_
  refine W.lcmp hx hb dX12_findsSet_9 ?_
  refine lv_if_ge (tgt := 140) hx hb dX12_findsSet_10 (by decide) (fun hc => ?_) (fun hc => ?_)
  · have h := h.1 hc
    refine lv_iconst (v := (0 : Int32)) hx hb dX12_findsSet_140 (by decide) ?_
    exact zret_z hx hb hr hlocks hK hP hD hS zb_0 h dX12_findsSet_141
  · have h := h.2 hc
    refine lv_lload_n hx hb dX12_findsSet_13 rfl (lv_at hl 2 rfl) ?_
    refine lv_lload_n hx hb dX12_findsSet_14 rfl (lv_at hl 1 rfl) ?_
    refine W.lcmp hx hb dX12_findsSet_15 ?_
    refine lv_if_eq (tgt := 133) hx hb dX12_findsSet_16 (by decide) (fun hc => ?_) (fun hc => ?_)
    · have h := h.1 hc
      refine lv_lload_n hx hb dX12_findsSet_133 rfl (lv_at hl 2 rfl) ?_
      refine lv_lconst (v := (1 : Int64)) hx hb dX12_findsSet_134 (by decide) ?_
      refine lv_ladd hx hb dX12_findsSet_135 ?_
      refine lv_topl (fun v3 ev3 => ?_)
      have h := h v3 ev3
      refine lv_lstore_n (lv' := [(3, .long v3), (0, .ref (ad 0)), (1, .long x1)]) hx hb dX12_findsSet_136 rfl hl (by decide) rfl (fun ls hl => ?_)
      refine lv_goto (tgt := 2) hx hb dX12_findsSet_137 (by decide) ?_
      exact hk_2 x1 v3 τ2 _ _ _ h hP hD hS (lv_sub hl [1, 2, 0] rfl)
    · have h := h.2 hc
      refine lv_aload_n hx hb dX12_findsSet_19 rfl (lv_at hl 0 rfl) ?_
      refine lv_lload_n hx hb dX12_findsSet_20 rfl (lv_at hl 2 rfl) ?_
      refine k_X12_may N ⟨hx, hb, hml, hown, hts⟩ mw_1065 ⟨Nat.le_of_ble_eq_true rfl, Nat.le_of_ble_eq_true rfl⟩ h hK hP hD hS hl.1 (rest := []) (Nat.le_of_ble_eq_true rfl) ⟨Nat.le_of_ble_eq_true rfl, Nat.le_of_ble_eq_true rfl⟩ dX12_findsSet_21 (fun r4 τ5 H locs h hP hD hS => ?_)
      refine lv_if_ne (tgt := 30) hx hb dX12_findsSet_24 (by decide) (fun hc => ?_) (fun hc => ?_)
      · have h := h.2 hc
        refine lv_iconst (v := (0 : Int32)) hx hb dX12_findsSet_30 (by decide) ?_
        refine lv_istore (lv' := [(5, .int (0 : Int32)), (0, .ref (ad 0)), (1, .long x1), (3, .long x3)]) hx hb dX12_findsSet_31 hl (by decide) rfl (fun ls hl => ?_)
        refine lv_iconst (v := (0 : Int32)) hx hb dX12_findsSet_33 (by decide) ?_
        refine lv_istore (lv' := [(6, .int (0 : Int32)), (5, .int (0 : Int32)), (0, .ref (ad 0)), (1, .long x1), (3, .long x3)]) hx hb dX12_findsSet_34 hl (by decide) rfl (fun ls hl => ?_)
        exact t_X12_findsSet_36 C0 hK N hk_2 N x1 x3 (0 : Int32) (0 : Int32) τ5 _ _ _ h hP hD hS (lv_sub hl [2, 3, 4, 1, 0] rfl)
      · have h := h.1 hc
        refine lv_goto (tgt := 133) hx hb dX12_findsSet_27 (by decide) ?_
        refine lv_lload_n hx hb dX12_findsSet_133 rfl (lv_at hl 2 rfl) ?_
        refine lv_lconst (v := (1 : Int64)) hx hb dX12_findsSet_134 (by decide) ?_
        refine lv_ladd hx hb dX12_findsSet_135 ?_
        refine lv_topl (fun v6 ev6 => ?_)
        have h := h v6 ev6
        refine lv_lstore_n (lv' := [(3, .long v6), (0, .ref (ad 0)), (1, .long x1)]) hx hb dX12_findsSet_136 rfl hl (by decide) rfl (fun ls hl => ?_)
        refine lv_goto (tgt := 2) hx hb dX12_findsSet_137 (by decide) ?_
        exact hk_2 x1 v6 τ5 _ _ _ h hP hD hS (lv_sub hl [1, 2, 0] rfl)
set_option maxHeartbeats 4000000 in
set_option maxRecDepth 100000 in
theorem t_X12_findsSet_2 (C0 : zCx p s m meth c args RX12 cX12_findsSet 7 (some .boolean) vs_X12_findsSet) (hK : va_K (dC, dI) vwCl (m_ty cI cJ cC) s) (N : Nat) {Q : Int32 → zSt → Prop} : ∀ (f : Nat) (x1 : Int64) (x3 : Int64) (σ : zSt) (H : Heap) (locs : List Loc) (ls : Array Slot), w_X12_findsSet_2 N  Q f x1 x3 σ → va_P (dC, dI) vwCl (m_W ad cI cJ cC σ) H → va_D (zAW m_n ad s.heap.size) (m_W ad cI cJ cC σ) → va_S (zAW m_n ad s.heap.size) s.heap H locs → lv_has ls 7 [(0, .ref (ad 0)), (1, .long x1), (3, .long x3)] → W p l e rm_X12_findsSet s m args below meth c H locs 0 0 (MQ below (zQi (dC, dI) (m_ty cI cJ cC) (m_W ad cI cJ cC) (zAW m_n ad s.heap.size) Q) args s 0 0 (zAW m_n ad s.heap.size)) (F0 m 2 ls []) := by
  intro f
  induction f with
  | zero => intro x1 x3 σ H locs ls h; exact h.elim
  | succ f ih =>
    intro x1 x3 σ H locs ls h hP hD hS hl
    exact tb_X12_findsSet_2 C0 hK N  (k_2 := w_X12_findsSet_2 N  Q f) ih x1 x3 σ H locs ls h hP hD hS hl
set_option maxHeartbeats 4000000 in
set_option maxRecDepth 100000 in
theorem t_X12_findsSet_0 (C0 : zCx p s m meth c args RX12 cX12_findsSet 7 (some .boolean) vs_X12_findsSet) (hK : va_K (dC, dI) vwCl (m_ty cI cJ cC) s) (N : Nat) {Q : Int32 → zSt → Prop} : ∀ (x1 : Int64) (σ : zSt) (H : Heap) (locs : List Loc) (ls : Array Slot), w_X12_findsSet N x1 σ Q → va_P (dC, dI) vwCl (m_W ad cI cJ cC σ) H → va_D (zAW m_n ad s.heap.size) (m_W ad cI cJ cC σ) → va_S (zAW m_n ad s.heap.size) s.heap H locs → lv_has ls 7 [(0, .ref (ad 0)), (1, .long x1)] → W p l e rm_X12_findsSet s m args below meth c H locs 0 0 (MQ below (zQi (dC, dI) (m_ty cI cJ cC) (m_W ad cI cJ cC) (zAW m_n ad s.heap.size) Q) args s 0 0 (zAW m_n ad s.heap.size)) (F0 m 0 ls []) := by
  obtain ⟨hx, hb, hml, hr, hown, hts, hlocks⟩ := id C0
  intro x1 σ H locs ls h hP hD hS hl
  unfold w_X12_findsSet at h
  refine lv_lconst (v := (0 : Int64)) hx hb dX12_findsSet_0 (by decide) ?_
  refine lv_lstore_n (lv' := [(3, .long (0 : Int64)), (0, .ref (ad 0)), (1, .long x1)]) hx hb dX12_findsSet_1 rfl hl (by decide) rfl (fun ls hl => ?_)
  exact t_X12_findsSet_2 C0 hK N  N x1 (0 : Int64) σ _ _ _ h hP hD hS (lv_sub hl [1, 2, 0] rfl)
set_option maxHeartbeats 4000000 in
set_option maxRecDepth 100000 in
theorem c_X12_findsSet (N : Nat) (l : Launch) (dC : Nat → ClassId) (dI : Nat → Nat → Nat) (ad : Nat → Nat) (cI cJ cC : ClassId) (sz : Nat) (σ : zSt) (x1 : Int64) (Q : Int32 → zSt → Prop) (h : w_X12_findsSet N x1 σ Q) : Met l yX12_findsSet vs_X12_findsSet rm_X12_findsSet (va_Pc [.ref (ad 0), .long x1] (zPc (dC, dI) (m_ty cI cJ cC) (m_W ad cI cJ cC) sz σ)) (zQi (dC, dI) (m_ty cI cJ cC) (m_W ad cI cJ cC) (zAW m_n ad sz) Q) 0 0 (zAW m_n ad sz) := by
  refine Met.ofW (cc := cX12_findsSet) (maxL := 7) (ret := (some .boolean)) (by decide) rfl ?_
  intro p e s m args below meth c s₁ B hml hv
  obtain ⟨rfl, hsz, hP, hK, hD0⟩ := hv
  subst hsz
  have C0 : zCx p s m meth c _ RX12 cX12_findsSet 7 (some .boolean) vs_X12_findsSet := ⟨B.exec, B.bytes, hml, B.returns, findClass_of_methodNamed B.named, atoms_spec (ws := vs_X12_findsSet) B.pre, B.notSynchronized⟩
  have hD := m_D0 (n0 := s.heap.size) hD0
  have hl := lv_entry ([.ref (ad 0), .long x1]) (n := 7) (Nat.le_of_ble_eq_true rfl)
  rw [lg_entry_eq]
  generalize (lg_sl ([.ref (ad 0), .long x1]) ++ List.replicate (7 - (lg_sl ([.ref (ad 0), .long x1])).length) Slot.unset).toArray = ls at hl ⊢
  exact t_X12_findsSet_0 C0 hK N x1 σ _ _ ls h hP hD va_S.rf hl
theorem k_X12_findsSet (N : Nat) {R : Room} {H : Heap} {locs : List Loc} {cells slots : Nat} {Q2 : State → Prop} {cc : ByteArray} {nL pc index : Nat} {ls : Array Slot} {rest : List Value} {own : String} {c0 : Cond} {σ : zSt} {x1 : Int64} {Q : Int32 → zSt → Prop} (S0 : CallFix p m c cc nL s args (c0 :: zT) own) (hml : Cond.methodLink own index yX12_findsSet ∈ zT) (hR : rm_X12_findsSet.frames + 1 ≤ R.frames ∧ 8 + (7 + 11) + rm_X12_findsSet.locals ≤ R.locals) (h : w_X12_findsSet N x1 σ Q) (hK : va_K (dC, dI) vwCl (m_ty cI cJ cC) s) (hP : va_P (dC, dI) vwCl (m_W ad cI cJ cC σ) H) (hD : va_D (zAW m_n ad s.heap.size) (m_W ad cI cJ cC σ)) (hS : va_S (zAW m_n ad s.heap.size) s.heap H locs) (hsz : ls.size = nL) (hW : (rest.map fun v => v.category).sum ≤ 8) (hcs : cells ≤ R.cells ∧ slots ≤ R.slots) (hdg : decode cc pc = .ok (.invokevirtual index, 3)) (kk : ∀ (r : Int32) (τ : zSt) (H1 : Heap) (locs1 : List Loc), Q r τ → va_P (dC, dI) vwCl (m_W ad cI cJ cC τ) H1 → va_D (zAW m_n ad s.heap.size) (m_W ad cI cJ cC τ) → va_S (zAW m_n ad s.heap.size) s.heap H1 locs1 → W p l e R s m args below meth c H1 locs1 cells slots Q2 (F0 m (pc + 3) ls (.int r :: rest))) : W p l e R s m args below meth c H locs cells slots Q2 (F0 m pc ls (.long x1 :: .ref (ad 0) :: rest)) :=
  zcv_i (T := TX12) (N' := 83) (k := 0) (ci := 12) (fs := m_f0 ad σ) [.long x1] S0 (c_X12_findsSet N l dC dI ad cI cJ cC H.size σ x1 Q h) (cw_X12_findsSet S0.2.2.2.2 hml rfl rfl hR) rfl rfl hK hP hD hS rfl hsz hW rfl hcs hdg kk
end q22
