section q15
end q15
section q15
def b_X12_number_30 (N : Nat) (Q : Int32 → zSt → Prop)  (σ : zSt) : Prop :=
  w_X12_fail N (1 : Int32) (σ.1 1) σ (fun τ2 => Q (0 : Int32) τ2)
def b_X12_number_129 (N : Nat) (Q : Int32 → zSt → Prop) (x1 : Int32) (x2 : Int32) (x3 : Int32) (x4 : Int32) (σ : zSt) : Prop :=
  ∀ τ1 : zSt, τ1 = zI σ 3 (σ.1 1) → w_X12_isIn N x4.toInt64 x1.toInt64 x2.toInt64 τ1 (fun r2 τ3 => (r2 = 0 → w_X12_fail N (2 : Int32) x3 τ3 (fun τ5 => Q x4 τ5)) ∧ (¬ r2 = 0 → Q x4 τ3))
def b_X12_number_49 (N : Nat) (k_49 : Int32 → Int32 → Int32 → Int32 → zSt → Prop) (Q : Int32 → zSt → Prop) (x1 : Int32) (x2 : Int32) (x3 : Int32) (x4 : Int32) (σ : zSt) : Prop :=
  ((σ.1 2) ≤ (σ.1 1) → b_X12_number_129 N Q x1 x2 x3 x4 σ) ∧ (¬ (σ.1 2) ≤ (σ.1 1) → (vp_in (σ.1 1) 800) ∧ (w_X12_isDigit N (σ.2.2.1 0 (σ.1 1).toNatClampNeg) σ (fun r1 τ2 => (r1 = 0 → b_X12_number_129 N Q x1 x2 x3 x4 τ2) ∧ (¬ r1 = 0 → (((τ2.1 1) - x3) = (4 : Int32) → w_X12_fail N (1 : Int32) (τ2.1 1) τ2 (fun τ6 => Q (0 : Int32) τ6)) ∧ (¬ ((τ2.1 1) - x3) = (4 : Int32) → (vp_in (τ2.1 1) 800) ∧ (∀ v3 : Int32, v3 = (((10 : Int32) * x4) + (τ2.2.2.1 0 (τ2.1 1).toNatClampNeg)) - (48 : Int32) → ∀ τ4 : zSt, τ4 = zI τ2 1 ((τ2.1 1) + (1 : Int32)) → k_49 x1 x2 x3 v3 τ4))))))
def w_X12_number_49 (N : Nat) (Q : Int32 → zSt → Prop) : Nat → Int32 → Int32 → Int32 → Int32 → zSt → Prop
  | 0 => fun _ _ _ _ _ => False
  | f + 1 => b_X12_number_49 N (w_X12_number_49 N  Q f) Q
def w_X12_number (N : Nat) (x1 : Int32) (x2 : Int32) (σ : zSt) (Q : Int32 → zSt → Prop) : Prop :=
  ((σ.1 4) = 0 → w_X12_look N σ (fun r1 τ2 => w_X12_isDigit N r1 τ2 (fun r3 τ4 => (r3 = 0 → b_X12_number_30 N Q τ4) ∧ (¬ r3 = 0 → ((τ4.1 1) = (τ4.1 3) → b_X12_number_30 N Q τ4) ∧ (¬ (τ4.1 1) = (τ4.1 3) → ∀ v5 : Int32, v5 = τ4.1 1 → w_X12_number_49 N Q N x1 x2 v5 (0 : Int32) τ4))))) ∧ (¬ (σ.1 4) = 0 → Q (0 : Int32) σ)
variable {p : Program} {l : Launch} {e : Env} {s : State} {m : MethodId} {args : Array Value} {below : List Frame} {meth : Method} {c : Code} {dC : Nat → ClassId} {dI : Nat → Nat → Nat} {ad : Nat → Nat} {cI cJ cC : ClassId}
set_option maxHeartbeats 4000000 in
set_option maxRecDepth 100000 in
theorem t_X12_number_30 (C0 : zCx p s m meth c args RX12 cX12_number 5 (some .int) vs_X12_number) (hK : va_K (dC, dI) vwCl (m_ty cI cJ cC) s) (N : Nat) {Q : Int32 → zSt → Prop} : ∀  (σ : zSt) (H : Heap) (locs : List Loc) (ls : Array Slot), b_X12_number_30 N  Q  σ → va_P (dC, dI) vwCl (m_W ad cI cJ cC σ) H → va_D (zAW m_n ad s.heap.size) (m_W ad cI cJ cC σ) → va_S (zAW m_n ad s.heap.size) s.heap H locs → lv_has ls 5 [(0, .ref (ad 0))] → W p l e rm_X12_number s m args below meth c H locs 0 0 (MQ below (zQi (dC, dI) (m_ty cI cJ cC) (m_W ad cI cJ cC) (zAW m_n ad s.heap.size) Q) args s 0 0 (zAW m_n ad s.heap.size)) (F0 m 30 ls []) := by
  obtain ⟨hx, hb, hml, hr, hown, hts, hlocks⟩ := id C0
  intro  σ H locs ls h hP hD hS hl
  unfold b_X12_number_30 at h
  refine lv_aload_n hx hb dX12_number_30 rfl (lv_at hl 0 rfl) ?_
  refine lv_iconst (v := (1 : Int32)) hx hb dX12_number_31 (by decide) ?_
  refine lv_aload_n hx hb dX12_number_32 rfl (lv_at hl 0 rfl) ?_
  refine mg_0_2 hx hb hts hown hK hP mw_835 dX12_number_33 ?_
  refine k_X12_fail N ⟨hx, hb, hml, hown, hts⟩ mw_944 ⟨Nat.le_of_ble_eq_true rfl, Nat.le_of_ble_eq_true rfl⟩ h hK hP hD hS hl.1 (rest := []) (Nat.le_of_ble_eq_true rfl) ⟨Nat.le_of_ble_eq_true rfl, Nat.le_of_ble_eq_true rfl⟩ dX12_number_36 (fun τ2 H locs h hP hD hS => ?_)
  refine lv_iconst (v := (0 : Int32)) hx hb dX12_number_39 (by decide) ?_
  exact zret_i hx hb hr hlocks hK hP hD hS h dX12_number_40
set_option maxHeartbeats 4000000 in
set_option maxRecDepth 100000 in
theorem t_X12_number_129 (C0 : zCx p s m meth c args RX12 cX12_number 5 (some .int) vs_X12_number) (hK : va_K (dC, dI) vwCl (m_ty cI cJ cC) s) (N : Nat) {Q : Int32 → zSt → Prop} : ∀ (x1 : Int32) (x2 : Int32) (x3 : Int32) (x4 : Int32) (σ : zSt) (H : Heap) (locs : List Loc) (ls : Array Slot), b_X12_number_129 N  Q x1 x2 x3 x4 σ → va_P (dC, dI) vwCl (m_W ad cI cJ cC σ) H → va_D (zAW m_n ad s.heap.size) (m_W ad cI cJ cC σ) → va_S (zAW m_n ad s.heap.size) s.heap H locs → lv_has ls 5 [(0, .ref (ad 0)), (1, .int x1), (2, .int x2), (3, .int x3), (4, .int x4)] → W p l e rm_X12_number s m args below meth c H locs 0 0 (MQ below (zQi (dC, dI) (m_ty cI cJ cC) (m_W ad cI cJ cC) (zAW m_n ad s.heap.size) Q) args s 0 0 (zAW m_n ad s.heap.size)) (F0 m 129 ls []) := by
  obtain ⟨hx, hb, hml, hr, hown, hts, hlocks⟩ := id C0
  intro x1 x2 x3 x4 σ H locs ls h hP hD hS hl
  unfold b_X12_number_129 at h
  refine lv_aload_n hx hb dX12_number_129 rfl (lv_at hl 0 rfl) ?_
  refine lv_aload_n hx hb dX12_number_130 rfl (lv_at hl 0 rfl) ?_
  refine mg_0_2 hx hb hts hown hK hP mw_835 dX12_number_131 ?_
  refine mp_0_4 hx hb hts hown hK hP hD hS mw_837 dX12_number_134 (fun τ1 H locs eτ1 hP hD hS => ?_)
  have h := h τ1 eτ1
  refine lv_iload hx hb dX12_number_137 (lv_at hl 4 rfl) ?_
  refine lv_i2l hx hb dX12_number_139 rfl ?_
  refine lv_iload_n hx hb dX12_number_140 rfl (lv_at hl 1 rfl) ?_
  refine lv_i2l hx hb dX12_number_141 rfl ?_
  refine lv_iload_n hx hb dX12_number_142 rfl (lv_at hl 2 rfl) ?_
  refine lv_i2l hx hb dX12_number_143 rfl ?_
  refine k_X12_isIn N ⟨hx, hb, hml, hown, hts⟩ mw_970 ⟨Nat.le_of_ble_eq_true rfl, Nat.le_of_ble_eq_true rfl⟩ h hK hP hD hS hl.1 (rest := []) (Nat.le_of_ble_eq_true rfl) ⟨Nat.le_of_ble_eq_true rfl, Nat.le_of_ble_eq_true rfl⟩ dX12_number_144 (fun r2 τ3 H locs h hP hD hS => ?_)
  refine lv_if_ne (tgt := 156) hx hb dX12_number_147 (by decide) (fun hc => ?_) (fun hc => ?_)
  · have h := h.2 hc
    refine lv_iload hx hb dX12_number_156 (lv_at hl 4 rfl) ?_
    exact zret_i hx hb hr hlocks hK hP hD hS h dX12_number_158
  · have h := h.1 hc
    refine lv_aload_n hx hb dX12_number_150 rfl (lv_at hl 0 rfl) ?_
    refine lv_iconst (v := (2 : Int32)) hx hb dX12_number_151 (by decide) ?_
    refine lv_iload_n hx hb dX12_number_152 rfl (lv_at hl 3 rfl) ?_
    refine k_X12_fail N ⟨hx, hb, hml, hown, hts⟩ mw_944 ⟨Nat.le_of_ble_eq_true rfl, Nat.le_of_ble_eq_true rfl⟩ h hK hP hD hS hl.1 (rest := []) (Nat.le_of_ble_eq_true rfl) ⟨Nat.le_of_ble_eq_true rfl, Nat.le_of_ble_eq_true rfl⟩ dX12_number_153 (fun τ5 H locs h hP hD hS => ?_)
    refine lv_iload hx hb dX12_number_156 (lv_at hl 4 rfl) ?_
    exact zret_i hx hb hr hlocks hK hP hD hS h dX12_number_158
set_option maxHeartbeats 4000000 in
set_option maxRecDepth 100000 in
theorem tb_X12_number_49 (C0 : zCx p s m meth c args RX12 cX12_number 5 (some .int) vs_X12_number) (hK : va_K (dC, dI) vwCl (m_ty cI cJ cC) s) (N : Nat) {Q : Int32 → zSt → Prop} {k_49 : Int32 → Int32 → Int32 → Int32 → zSt → Prop} (hk_49 : ∀ (x1 : Int32) (x2 : Int32) (x3 : Int32) (x4 : Int32) (σ : zSt) (H : Heap) (locs : List Loc) (ls : Array Slot), k_49 x1 x2 x3 x4 σ → va_P (dC, dI) vwCl (m_W ad cI cJ cC σ) H → va_D (zAW m_n ad s.heap.size) (m_W ad cI cJ cC σ) → va_S (zAW m_n ad s.heap.size) s.heap H locs → lv_has ls 5 [(0, .ref (ad 0)), (1, .int x1), (2, .int x2), (3, .int x3), (4, .int x4)] → W p l e rm_X12_number s m args below meth c H locs 0 0 (MQ below (zQi (dC, dI) (m_ty cI cJ cC) (m_W ad cI cJ cC) (zAW m_n ad s.heap.size) Q) args s 0 0 (zAW m_n ad s.heap.size)) (F0 m 49 ls [])) : ∀ (x1 : Int32) (x2 : Int32) (x3 : Int32) (x4 : Int32) (σ : zSt) (H : Heap) (locs : List Loc) (ls : Array Slot), b_X12_number_49 N k_49 Q x1 x2 x3 x4 σ → va_P (dC, dI) vwCl (m_W ad cI cJ cC σ) H → va_D (zAW m_n ad s.heap.size) (m_W ad cI cJ cC σ) → va_S (zAW m_n ad s.heap.size) s.heap H locs → lv_has ls 5 [(0, .ref (ad 0)), (1, .int x1), (2, .int x2), (3, .int x3), (4, .int x4)] → W p l e rm_X12_number s m args below meth c H locs 0 0 (MQ below (zQi (dC, dI) (m_ty cI cJ cC) (m_W ad cI cJ cC) (zAW m_n ad s.heap.size) Q) args s 0 0 (zAW m_n ad s.heap.size)) (F0 m 49 ls []) := by
  obtain ⟨hx, hb, hml, hr, hown, hts, hlocks⟩ := id C0
  intro x1 x2 x3 x4 σ H locs ls h hP hD hS hl
  unfold b_X12_number_49 at h
  refine lv_aload_n hx hb dX12_number_49 rfl (lv_at hl 0 rfl) ?_
  refine mg_0_2 hx hb hts hown hK hP mw_835 dX12_number_50 ?_
  refine lv_aload_n hx hb dX12_number_53 rfl (lv_at hl 0 rfl) ?_
  refine mg_0_3 hx hb hts hown hK hP mw_836 dX12_number_54 ?_
  refine lv_icmp_ge (tgt := 129) hx hb dX12_number_57 (by decide) (fun hc => ?_) (fun hc => ?_)
  · have h := h.1 hc
    exact t_X12_number_129 C0 hK N  x1 x2 x3 x4 σ _ _ _ h hP hD hS (lv_sub hl [0, 1, 2, 3, 4] rfl)
  · have h := h.2 hc
    refine lv_aload_n hx hb dX12_number_60 rfl (lv_at hl 0 rfl) ?_
    refine mg_0_0 hx hb hts hown hK hP mw_833 dX12_number_61 ?_
    refine lv_aload_n hx hb dX12_number_64 rfl (lv_at hl 0 rfl) ?_
    refine mg_0_2 hx hb hts hown hK hP mw_835 dX12_number_65 ?_
    refine ma_1 hx hb hK hP h.1 rfl dX12_number_68 ?_
    have h := h.2
    refine k_X12_isDigit N ⟨hx, hb, hml, hown, hts⟩ mw_967 ⟨Nat.le_of_ble_eq_true rfl, Nat.le_of_ble_eq_true rfl⟩ h hK hP hD hS hl.1 (rest := []) (Nat.le_of_ble_eq_true rfl) ⟨Nat.le_of_ble_eq_true rfl, Nat.le_of_ble_eq_true rfl⟩ dX12_number_69 (fun r1 τ2 H locs h hP hD hS => ?_)
    refine lv_if_eq (tgt := 129) hx hb dX12_number_72 (by decide) (fun hc => ?_) (fun hc => ?_)
    · have h := h.1 hc
      exact t_X12_number_129 C0 hK N  x1 x2 x3 x4 τ2 _ _ _ h hP hD hS (lv_sub hl [0, 1, 2, 3, 4] rfl)
    · have h := h.2 hc
      refine lv_aload_n hx hb dX12_number_75 rfl (lv_at hl 0 rfl) ?_
      refine mg_0_2 hx hb hts hown hK hP mw_835 dX12_number_76 ?_
      refine lv_iload_n hx hb dX12_number_79 rfl (lv_at hl 3 rfl) ?_
      refine lv_isub hx hb dX12_number_80 ?_
      refine lv_iconst (v := (4 : Int32)) hx hb dX12_number_81 (by decide) ?_
      refine lv_icmp_ne (tgt := 96) hx hb dX12_number_82 (by decide) (fun hc => ?_) (fun hc => ?_)
      · have h := h.2 hc
        refine lv_bipush (v := (10 : Int32)) hx hb dX12_number_96 (by decide) ?_
        refine lv_iload hx hb dX12_number_98 (lv_at hl 4 rfl) ?_
        refine lv_imul hx hb dX12_number_100 ?_
        refine lv_aload_n hx hb dX12_number_101 rfl (lv_at hl 0 rfl) ?_
        refine mg_0_0 hx hb hts hown hK hP mw_833 dX12_number_102 ?_
        refine lv_aload_n hx hb dX12_number_105 rfl (lv_at hl 0 rfl) ?_
        refine mg_0_2 hx hb hts hown hK hP mw_835 dX12_number_106 ?_
        refine ma_1 hx hb hK hP h.1 rfl dX12_number_109 ?_
        have h := h.2
        refine lv_iadd hx hb dX12_number_110 ?_
        refine lv_bipush (v := (48 : Int32)) hx hb dX12_number_111 (by decide) ?_
        refine lv_isub hx hb dX12_number_113 ?_
        refine lv_topi (fun v3 ev3 => ?_)
        have h := h v3 ev3
        refine lv_istore (lv' := [(4, .int v3), (0, .ref (ad 0)), (1, .int x1), (2, .int x2), (3, .int x3)]) hx hb dX12_number_114 hl (by decide) rfl (fun ls hl => ?_)
        refine lv_aload_n hx hb dX12_number_116 rfl (lv_at hl 1 rfl) ?_
        refine lv_dup hx hb dX12_number_117 rfl ?_
        refine mg_0_2 hx hb hts hown hK hP mw_835 dX12_number_118 ?_
        refine lv_iconst (v := (1 : Int32)) hx hb dX12_number_121 (by decide) ?_
        refine lv_iadd hx hb dX12_number_122 ?_
        refine mp_0_2 hx hb hts hown hK hP hD hS mw_835 dX12_number_123 (fun τ4 H locs eτ4 hP hD hS => ?_)
        have h := h τ4 eτ4
        refine lv_goto (tgt := 49) hx hb dX12_number_126 (by decide) ?_
        exact hk_49 x1 x2 x3 v3 τ4 _ _ _ h hP hD hS (lv_sub hl [1, 2, 3, 4, 0] rfl)
      · have h := h.1 hc
        refine lv_aload_n hx hb dX12_number_85 rfl (lv_at hl 0 rfl) ?_
        refine lv_iconst (v := (1 : Int32)) hx hb dX12_number_86 (by decide) ?_
        refine lv_aload_n hx hb dX12_number_87 rfl (lv_at hl 0 rfl) ?_
        refine mg_0_2 hx hb hts hown hK hP mw_835 dX12_number_88 ?_
        refine k_X12_fail N ⟨hx, hb, hml, hown, hts⟩ mw_944 ⟨Nat.le_of_ble_eq_true rfl, Nat.le_of_ble_eq_true rfl⟩ h hK hP hD hS hl.1 (rest := []) (Nat.le_of_ble_eq_true rfl) ⟨Nat.le_of_ble_eq_true rfl, Nat.le_of_ble_eq_true rfl⟩ dX12_number_91 (fun τ6 H locs h hP hD hS => ?_)
        refine lv_iconst (v := (0 : Int32)) hx hb dX12_number_94 (by decide) ?_
        exact zret_i hx hb hr hlocks hK hP hD hS h dX12_number_95
set_option maxHeartbeats 4000000 in
set_option maxRecDepth 100000 in
theorem t_X12_number_49 (C0 : zCx p s m meth c args RX12 cX12_number 5 (some .int) vs_X12_number) (hK : va_K (dC, dI) vwCl (m_ty cI cJ cC) s) (N : Nat) {Q : Int32 → zSt → Prop} : ∀ (f : Nat) (x1 : Int32) (x2 : Int32) (x3 : Int32) (x4 : Int32) (σ : zSt) (H : Heap) (locs : List Loc) (ls : Array Slot), w_X12_number_49 N  Q f x1 x2 x3 x4 σ → va_P (dC, dI) vwCl (m_W ad cI cJ cC σ) H → va_D (zAW m_n ad s.heap.size) (m_W ad cI cJ cC σ) → va_S (zAW m_n ad s.heap.size) s.heap H locs → lv_has ls 5 [(0, .ref (ad 0)), (1, .int x1), (2, .int x2), (3, .int x3), (4, .int x4)] → W p l e rm_X12_number s m args below meth c H locs 0 0 (MQ below (zQi (dC, dI) (m_ty cI cJ cC) (m_W ad cI cJ cC) (zAW m_n ad s.heap.size) Q) args s 0 0 (zAW m_n ad s.heap.size)) (F0 m 49 ls []) := by
  intro f
  induction f with
  | zero => intro x1 x2 x3 x4 σ H locs ls h; exact h.elim
  | succ f ih =>
    intro x1 x2 x3 x4 σ H locs ls h hP hD hS hl
    exact tb_X12_number_49 C0 hK N  (k_49 := w_X12_number_49 N  Q f) ih x1 x2 x3 x4 σ H locs ls h hP hD hS hl
set_option maxHeartbeats 4000000 in
set_option maxRecDepth 100000 in
theorem t_X12_number_0 (C0 : zCx p s m meth c args RX12 cX12_number 5 (some .int) vs_X12_number) (hK : va_K (dC, dI) vwCl (m_ty cI cJ cC) s) (N : Nat) {Q : Int32 → zSt → Prop} : ∀ (x1 : Int32) (x2 : Int32) (σ : zSt) (H : Heap) (locs : List Loc) (ls : Array Slot), w_X12_number N x1 x2 σ Q → va_P (dC, dI) vwCl (m_W ad cI cJ cC σ) H → va_D (zAW m_n ad s.heap.size) (m_W ad cI cJ cC σ) → va_S (zAW m_n ad s.heap.size) s.heap H locs → lv_has ls 5 [(0, .ref (ad 0)), (1, .int x1), (2, .int x2)] → W p l e rm_X12_number s m args below meth c H locs 0 0 (MQ below (zQi (dC, dI) (m_ty cI cJ cC) (m_W ad cI cJ cC) (zAW m_n ad s.heap.size) Q) args s 0 0 (zAW m_n ad s.heap.size)) (F0 m 0 ls []) := by
  obtain ⟨hx, hb, hml, hr, hown, hts, hlocks⟩ := id C0
  intro x1 x2 σ H locs ls h hP hD hS hl
  unfold w_X12_number at h
  refine lv_aload_n hx hb dX12_number_0 rfl (lv_at hl 0 rfl) ?_
  refine mg_0_5 hx hb hts hown hK hP mw_838 dX12_number_1 ?_
  refine lv_if_eq (tgt := 9) hx hb dX12_number_4 (by decide) (fun hc => ?_) (fun hc => ?_)
  · have h := h.1 hc
    refine lv_aload_n hx hb dX12_number_9 rfl (lv_at hl 0 rfl) ?_
    refine k_X12_look N ⟨hx, hb, hml, hown, hts⟩ mw_929 ⟨Nat.le_of_ble_eq_true rfl, Nat.le_of_ble_eq_true rfl⟩ h hK hP hD hS hl.1 (rest := []) (Nat.le_of_ble_eq_true rfl) ⟨Nat.le_of_ble_eq_true rfl, Nat.le_of_ble_eq_true rfl⟩ dX12_number_10 (fun r1 τ2 H locs h hP hD hS => ?_)
    refine k_X12_isDigit N ⟨hx, hb, hml, hown, hts⟩ mw_967 ⟨Nat.le_of_ble_eq_true rfl, Nat.le_of_ble_eq_true rfl⟩ h hK hP hD hS hl.1 (rest := []) (Nat.le_of_ble_eq_true rfl) ⟨Nat.le_of_ble_eq_true rfl, Nat.le_of_ble_eq_true rfl⟩ dX12_number_13 (fun r3 τ4 H locs h hP hD hS => ?_)
    refine lv_if_eq (tgt := 30) hx hb dX12_number_16 (by decide) (fun hc => ?_) (fun hc => ?_)
    · have h := h.1 hc
      exact t_X12_number_30 C0 hK N  τ4 _ _ _ h hP hD hS (lv_sub hl [0] rfl)
    · have h := h.2 hc
      refine lv_aload_n hx hb dX12_number_19 rfl (lv_at hl 0 rfl) ?_
      refine mg_0_2 hx hb hts hown hK hP mw_835 dX12_number_20 ?_
      refine lv_aload_n hx hb dX12_number_23 rfl (lv_at hl 0 rfl) ?_
      refine mg_0_4 hx hb hts hown hK hP mw_837 dX12_number_24 ?_
      refine lv_icmp_ne (tgt := 41) hx hb dX12_number_27 (by decide) (fun hc => ?_) (fun hc => ?_)
      · have h := h.2 hc
        refine lv_aload_n hx hb dX12_number_41 rfl (lv_at hl 0 rfl) ?_
        refine mg_0_2 hx hb hts hown hK hP mw_835 dX12_number_42 ?_
        refine lv_topi (fun v5 ev5 => ?_)
        have h := h v5 ev5
        refine lv_istore_n (lv' := [(3, .int v5), (0, .ref (ad 0)), (1, .int x1), (2, .int x2)]) hx hb dX12_number_45 rfl hl (by decide) rfl (fun ls hl => ?_)
        refine lv_iconst (v := (0 : Int32)) hx hb dX12_number_46 (by decide) ?_
        refine lv_istore (lv' := [(4, .int (0 : Int32)), (3, .int v5), (0, .ref (ad 0)), (1, .int x1), (2, .int x2)]) hx hb dX12_number_47 hl (by decide) rfl (fun ls hl => ?_)
        exact t_X12_number_49 C0 hK N  N x1 x2 v5 (0 : Int32) τ4 _ _ _ h hP hD hS (lv_sub hl [2, 3, 4, 1, 0] rfl)
      · have h := h.1 hc
        exact t_X12_number_30 C0 hK N  τ4 _ _ _ h hP hD hS (lv_sub hl [0] rfl)
  · have h := h.2 hc
    refine lv_iconst (v := (0 : Int32)) hx hb dX12_number_7 (by decide) ?_
    exact zret_i hx hb hr hlocks hK hP hD hS h dX12_number_8
set_option maxHeartbeats 4000000 in
set_option maxRecDepth 100000 in
theorem c_X12_number (N : Nat) (l : Launch) (dC : Nat → ClassId) (dI : Nat → Nat → Nat) (ad : Nat → Nat) (cI cJ cC : ClassId) (sz : Nat) (σ : zSt) (x1 : Int32) (x2 : Int32) (Q : Int32 → zSt → Prop) (h : w_X12_number N x1 x2 σ Q) : Met l yX12_number vs_X12_number rm_X12_number (va_Pc [.ref (ad 0), .int x1, .int x2] (zPc (dC, dI) (m_ty cI cJ cC) (m_W ad cI cJ cC) sz σ)) (zQi (dC, dI) (m_ty cI cJ cC) (m_W ad cI cJ cC) (zAW m_n ad sz) Q) 0 0 (zAW m_n ad sz) := by
  refine Met.ofW (cc := cX12_number) (maxL := 5) (ret := (some .int)) (by decide) rfl ?_
  intro p e s m args below meth c s₁ B hml hv
  obtain ⟨rfl, hsz, hP, hK, hD0⟩ := hv
  subst hsz
  have C0 : zCx p s m meth c _ RX12 cX12_number 5 (some .int) vs_X12_number := ⟨B.exec, B.bytes, hml, B.returns, findClass_of_methodNamed B.named, atoms_spec (ws := vs_X12_number) B.pre, B.notSynchronized⟩
  have hD := m_D0 (n0 := s.heap.size) hD0
  have hl := lv_entry ([.ref (ad 0), .int x1, .int x2]) (n := 5) (Nat.le_of_ble_eq_true rfl)
  rw [lg_entry_eq]
  generalize (lg_sl ([.ref (ad 0), .int x1, .int x2]) ++ List.replicate (5 - (lg_sl ([.ref (ad 0), .int x1, .int x2])).length) Slot.unset).toArray = ls at hl ⊢
  exact t_X12_number_0 C0 hK N x1 x2 σ _ _ ls h hP hD va_S.rf hl
theorem k_X12_number (N : Nat) {R : Room} {H : Heap} {locs : List Loc} {cells slots : Nat} {Q2 : State → Prop} {cc : ByteArray} {nL pc index : Nat} {ls : Array Slot} {rest : List Value} {own : String} {c0 : Cond} {σ : zSt} {x1 : Int32} {x2 : Int32} {Q : Int32 → zSt → Prop} (S0 : CallFix p m c cc nL s args (c0 :: zT) own) (hml : Cond.methodLink own index yX12_number ∈ zT) (hR : rm_X12_number.frames + 1 ≤ R.frames ∧ 8 + (5 + 11) + rm_X12_number.locals ≤ R.locals) (h : w_X12_number N x1 x2 σ Q) (hK : va_K (dC, dI) vwCl (m_ty cI cJ cC) s) (hP : va_P (dC, dI) vwCl (m_W ad cI cJ cC σ) H) (hD : va_D (zAW m_n ad s.heap.size) (m_W ad cI cJ cC σ)) (hS : va_S (zAW m_n ad s.heap.size) s.heap H locs) (hsz : ls.size = nL) (hW : (rest.map fun v => v.category).sum ≤ 8) (hcs : cells ≤ R.cells ∧ slots ≤ R.slots) (hdg : decode cc pc = .ok (.invokevirtual index, 3)) (kk : ∀ (r : Int32) (τ : zSt) (H1 : Heap) (locs1 : List Loc), Q r τ → va_P (dC, dI) vwCl (m_W ad cI cJ cC τ) H1 → va_D (zAW m_n ad s.heap.size) (m_W ad cI cJ cC τ) → va_S (zAW m_n ad s.heap.size) s.heap H1 locs1 → W p l e R s m args below meth c H1 locs1 cells slots Q2 (F0 m (pc + 3) ls (.int r :: rest))) : W p l e R s m args below meth c H locs cells slots Q2 (F0 m pc ls (.int x2 :: .int x1 :: .ref (ad 0) :: rest)) :=
  zcv_i (T := TX12) (N' := 83) (k := 0) (ci := 12) (fs := m_f0 ad σ) [.int x1, .int x2] S0 (c_X12_number N l dC dI ad cI cJ cC H.size σ x1 x2 Q h) (cw_X12_number S0.2.2.2.2 hml rfl rfl hR) rfl rfl hK hP hD hS rfl hsz hW rfl hcs hdg kk
end q15
section q15
def w_X12_takesSign (N : Nat) (x1 : Int32) (σ : zSt) (Q : Int32 → zSt → Prop) : Prop :=
  ((σ.1 4) = 0 → w_X12_look N σ (fun r1 τ2 => (r1 = x1 → ∀ τ3 : zSt, τ3 = zI τ2 1 ((τ2.1 1) + (1 : Int32)) → Q (1 : Int32) τ3) ∧ (¬ r1 = x1 → Q (0 : Int32) τ2))) ∧ (¬ (σ.1 4) = 0 → Q (0 : Int32) σ)
variable {p : Program} {l : Launch} {e : Env} {s : State} {m : MethodId} {args : Array Value} {below : List Frame} {meth : Method} {c : Code} {dC : Nat → ClassId} {dI : Nat → Nat → Nat} {ad : Nat → Nat} {cI cJ cC : ClassId}
set_option maxHeartbeats 4000000 in
set_option maxRecDepth 100000 in
theorem t_X12_takesSign_0 (C0 : zCx p s m meth c args RX12 cX12_takesSign 2 (some .boolean) vs_X12_takesSign) (hK : va_K (dC, dI) vwCl (m_ty cI cJ cC) s) (N : Nat) {Q : Int32 → zSt → Prop} : ∀ (x1 : Int32) (σ : zSt) (H : Heap) (locs : List Loc) (ls : Array Slot), w_X12_takesSign N x1 σ Q → va_P (dC, dI) vwCl (m_W ad cI cJ cC σ) H → va_D (zAW m_n ad s.heap.size) (m_W ad cI cJ cC σ) → va_S (zAW m_n ad s.heap.size) s.heap H locs → lv_has ls 2 [(0, .ref (ad 0)), (1, .int x1)] → W p l e rm_X12_takesSign s m args below meth c H locs 0 0 (MQ below (zQi (dC, dI) (m_ty cI cJ cC) (m_W ad cI cJ cC) (zAW m_n ad s.heap.size) Q) args s 0 0 (zAW m_n ad s.heap.size)) (F0 m 0 ls []) := by
  obtain ⟨hx, hb, hml, hr, hown, hts, hlocks⟩ := id C0
  intro x1 σ H locs ls h hP hD hS hl
  unfold w_X12_takesSign at h
  refine lv_aload_n hx hb dX12_takesSign_0 rfl (lv_at hl 0 rfl) ?_
  refine mg_0_5 hx hb hts hown hK hP mw_838 dX12_takesSign_1 ?_
  refine lv_if_ne (tgt := 15) hx hb dX12_takesSign_4 (by decide) (fun hc => ?_) (fun hc => ?_)
  · have h := h.2 hc
    refine lv_iconst (v := (0 : Int32)) hx hb dX12_takesSign_15 (by decide) ?_
    exact zret_z hx hb hr hlocks hK hP hD hS zb_0 h dX12_takesSign_16
  · have h := h.1 hc
    refine lv_aload_n hx hb dX12_takesSign_7 rfl (lv_at hl 0 rfl) ?_
    refine k_X12_look N ⟨hx, hb, hml, hown, hts⟩ mw_929 ⟨Nat.le_of_ble_eq_true rfl, Nat.le_of_ble_eq_true rfl⟩ h hK hP hD hS hl.1 (rest := []) (Nat.le_of_ble_eq_true rfl) ⟨Nat.le_of_ble_eq_true rfl, Nat.le_of_ble_eq_true rfl⟩ dX12_takesSign_8 (fun r1 τ2 H locs h hP hD hS => ?_)
    refine lv_iload_n hx hb dX12_takesSign_11 rfl (lv_at hl 1 rfl) ?_
    refine lv_icmp_eq (tgt := 17) hx hb dX12_takesSign_12 (by decide) (fun hc => ?_) (fun hc => ?_)
    · have h := h.1 hc
      refine lv_aload_n hx hb dX12_takesSign_17 rfl (lv_at hl 0 rfl) ?_
      refine lv_dup hx hb dX12_takesSign_18 rfl ?_
      refine mg_0_2 hx hb hts hown hK hP mw_835 dX12_takesSign_19 ?_
      refine lv_iconst (v := (1 : Int32)) hx hb dX12_takesSign_22 (by decide) ?_
      refine lv_iadd hx hb dX12_takesSign_23 ?_
      refine mp_0_2 hx hb hts hown hK hP hD hS mw_835 dX12_takesSign_24 (fun τ3 H locs eτ3 hP hD hS => ?_)
      have h := h τ3 eτ3
      refine lv_iconst (v := (1 : Int32)) hx hb dX12_takesSign_27 (by decide) ?_
      exact zret_z hx hb hr hlocks hK hP hD hS zb_1 h dX12_takesSign_28
    · have h := h.2 hc
      refine lv_iconst (v := (0 : Int32)) hx hb dX12_takesSign_15 (by decide) ?_
      exact zret_z hx hb hr hlocks hK hP hD hS zb_0 h dX12_takesSign_16
set_option maxHeartbeats 4000000 in
set_option maxRecDepth 100000 in
theorem c_X12_takesSign (N : Nat) (l : Launch) (dC : Nat → ClassId) (dI : Nat → Nat → Nat) (ad : Nat → Nat) (cI cJ cC : ClassId) (sz : Nat) (σ : zSt) (x1 : Int32) (Q : Int32 → zSt → Prop) (h : w_X12_takesSign N x1 σ Q) : Met l yX12_takesSign vs_X12_takesSign rm_X12_takesSign (va_Pc [.ref (ad 0), .int x1] (zPc (dC, dI) (m_ty cI cJ cC) (m_W ad cI cJ cC) sz σ)) (zQi (dC, dI) (m_ty cI cJ cC) (m_W ad cI cJ cC) (zAW m_n ad sz) Q) 0 0 (zAW m_n ad sz) := by
  refine Met.ofW (cc := cX12_takesSign) (maxL := 2) (ret := (some .boolean)) (by decide) rfl ?_
  intro p e s m args below meth c s₁ B hml hv
  obtain ⟨rfl, hsz, hP, hK, hD0⟩ := hv
  subst hsz
  have C0 : zCx p s m meth c _ RX12 cX12_takesSign 2 (some .boolean) vs_X12_takesSign := ⟨B.exec, B.bytes, hml, B.returns, findClass_of_methodNamed B.named, atoms_spec (ws := vs_X12_takesSign) B.pre, B.notSynchronized⟩
  have hD := m_D0 (n0 := s.heap.size) hD0
  have hl := lv_entry ([.ref (ad 0), .int x1]) (n := 2) (Nat.le_of_ble_eq_true rfl)
  rw [lg_entry_eq]
  generalize (lg_sl ([.ref (ad 0), .int x1]) ++ List.replicate (2 - (lg_sl ([.ref (ad 0), .int x1])).length) Slot.unset).toArray = ls at hl ⊢
  exact t_X12_takesSign_0 C0 hK N x1 σ _ _ ls h hP hD va_S.rf hl
theorem k_X12_takesSign (N : Nat) {R : Room} {H : Heap} {locs : List Loc} {cells slots : Nat} {Q2 : State → Prop} {cc : ByteArray} {nL pc index : Nat} {ls : Array Slot} {rest : List Value} {own : String} {c0 : Cond} {σ : zSt} {x1 : Int32} {Q : Int32 → zSt → Prop} (S0 : CallFix p m c cc nL s args (c0 :: zT) own) (hml : Cond.methodLink own index yX12_takesSign ∈ zT) (hR : rm_X12_takesSign.frames + 1 ≤ R.frames ∧ 8 + (2 + 11) + rm_X12_takesSign.locals ≤ R.locals) (h : w_X12_takesSign N x1 σ Q) (hK : va_K (dC, dI) vwCl (m_ty cI cJ cC) s) (hP : va_P (dC, dI) vwCl (m_W ad cI cJ cC σ) H) (hD : va_D (zAW m_n ad s.heap.size) (m_W ad cI cJ cC σ)) (hS : va_S (zAW m_n ad s.heap.size) s.heap H locs) (hsz : ls.size = nL) (hW : (rest.map fun v => v.category).sum ≤ 8) (hcs : cells ≤ R.cells ∧ slots ≤ R.slots) (hdg : decode cc pc = .ok (.invokevirtual index, 3)) (kk : ∀ (r : Int32) (τ : zSt) (H1 : Heap) (locs1 : List Loc), Q r τ → va_P (dC, dI) vwCl (m_W ad cI cJ cC τ) H1 → va_D (zAW m_n ad s.heap.size) (m_W ad cI cJ cC τ) → va_S (zAW m_n ad s.heap.size) s.heap H1 locs1 → W p l e R s m args below meth c H1 locs1 cells slots Q2 (F0 m (pc + 3) ls (.int r :: rest))) : W p l e R s m args below meth c H locs cells slots Q2 (F0 m pc ls (.int x1 :: .ref (ad 0) :: rest)) :=
  zcv_i (T := TX12) (N' := 83) (k := 0) (ci := 12) (fs := m_f0 ad σ) [.int x1] S0 (c_X12_takesSign N l dC dI ad cI cJ cC H.size σ x1 Q h) (cw_X12_takesSign S0.2.2.2.2 hml rfl rfl hR) rfl rfl hK hP hD hS rfl hsz hW rfl hcs hdg kk
end q15
section q15
def w_X12_asksSign (N : Nat) (x1 : Int32) (σ : zSt) (Q : zSt → Prop) : Prop :=
  ((σ.1 4) = 0 → w_X12_takesSign N x1 σ (fun r1 τ2 => (r1 = 0 → w_X12_fail N (1 : Int32) (τ2.1 1) τ2 (fun τ4 => Q τ4)) ∧ (¬ r1 = 0 → Q τ2))) ∧ (¬ (σ.1 4) = 0 → Q σ)
variable {p : Program} {l : Launch} {e : Env} {s : State} {m : MethodId} {args : Array Value} {below : List Frame} {meth : Method} {c : Code} {dC : Nat → ClassId} {dI : Nat → Nat → Nat} {ad : Nat → Nat} {cI cJ cC : ClassId}
set_option maxHeartbeats 4000000 in
set_option maxRecDepth 100000 in
theorem t_X12_asksSign_0 (C0 : zCx p s m meth c args RX12 cX12_asksSign 2 none vs_X12_asksSign) (hK : va_K (dC, dI) vwCl (m_ty cI cJ cC) s) (N : Nat) {Q : zSt → Prop} : ∀ (x1 : Int32) (σ : zSt) (H : Heap) (locs : List Loc) (ls : Array Slot), w_X12_asksSign N x1 σ Q → va_P (dC, dI) vwCl (m_W ad cI cJ cC σ) H → va_D (zAW m_n ad s.heap.size) (m_W ad cI cJ cC σ) → va_S (zAW m_n ad s.heap.size) s.heap H locs → lv_has ls 2 [(0, .ref (ad 0)), (1, .int x1)] → W p l e rm_X12_asksSign s m args below meth c H locs 0 0 (MQ below (zQv (dC, dI) (m_ty cI cJ cC) (m_W ad cI cJ cC) (zAW m_n ad s.heap.size) Q) args s 0 0 (zAW m_n ad s.heap.size)) (F0 m 0 ls []) := by
  obtain ⟨hx, hb, hml, hr, hown, hts, hlocks⟩ := id C0
  intro x1 σ H locs ls h hP hD hS hl
  unfold w_X12_asksSign at h
  refine lv_aload_n hx hb dX12_asksSign_0 rfl (lv_at hl 0 rfl) ?_
  refine mg_0_5 hx hb hts hown hK hP mw_838 dX12_asksSign_1 ?_
  refine lv_if_ne (tgt := 24) hx hb dX12_asksSign_4 (by decide) (fun hc => ?_) (fun hc => ?_)
  · have h := h.2 hc
    exact zret_v hx hb hr hlocks hK hP hD hS h dX12_asksSign_24
  · have h := h.1 hc
    refine lv_aload_n hx hb dX12_asksSign_7 rfl (lv_at hl 0 rfl) ?_
    refine lv_iload_n hx hb dX12_asksSign_8 rfl (lv_at hl 1 rfl) ?_
    refine k_X12_takesSign N ⟨hx, hb, hml, hown, hts⟩ mw_988 ⟨Nat.le_of_ble_eq_true rfl, Nat.le_of_ble_eq_true rfl⟩ h hK hP hD hS hl.1 (rest := []) (Nat.le_of_ble_eq_true rfl) ⟨Nat.le_of_ble_eq_true rfl, Nat.le_of_ble_eq_true rfl⟩ dX12_asksSign_9 (fun r1 τ2 H locs h hP hD hS => ?_)
    refine lv_if_ne (tgt := 24) hx hb dX12_asksSign_12 (by decide) (fun hc => ?_) (fun hc => ?_)
    · have h := h.2 hc
      exact zret_v hx hb hr hlocks hK hP hD hS h dX12_asksSign_24
    · have h := h.1 hc
      refine lv_aload_n hx hb dX12_asksSign_15 rfl (lv_at hl 0 rfl) ?_
      refine lv_iconst (v := (1 : Int32)) hx hb dX12_asksSign_16 (by decide) ?_
      refine lv_aload_n hx hb dX12_asksSign_17 rfl (lv_at hl 0 rfl) ?_
      refine mg_0_2 hx hb hts hown hK hP mw_835 dX12_asksSign_18 ?_
      refine k_X12_fail N ⟨hx, hb, hml, hown, hts⟩ mw_944 ⟨Nat.le_of_ble_eq_true rfl, Nat.le_of_ble_eq_true rfl⟩ h hK hP hD hS hl.1 (rest := []) (Nat.le_of_ble_eq_true rfl) ⟨Nat.le_of_ble_eq_true rfl, Nat.le_of_ble_eq_true rfl⟩ dX12_asksSign_21 (fun τ4 H locs h hP hD hS => ?_)
      exact zret_v hx hb hr hlocks hK hP hD hS h dX12_asksSign_24
set_option maxHeartbeats 4000000 in
set_option maxRecDepth 100000 in
theorem c_X12_asksSign (N : Nat) (l : Launch) (dC : Nat → ClassId) (dI : Nat → Nat → Nat) (ad : Nat → Nat) (cI cJ cC : ClassId) (sz : Nat) (σ : zSt) (x1 : Int32) (Q : zSt → Prop) (h : w_X12_asksSign N x1 σ Q) : Met l yX12_asksSign vs_X12_asksSign rm_X12_asksSign (va_Pc [.ref (ad 0), .int x1] (zPc (dC, dI) (m_ty cI cJ cC) (m_W ad cI cJ cC) sz σ)) (zQv (dC, dI) (m_ty cI cJ cC) (m_W ad cI cJ cC) (zAW m_n ad sz) Q) 0 0 (zAW m_n ad sz) := by
  refine Met.ofW (cc := cX12_asksSign) (maxL := 2) (ret := none) (by decide) rfl ?_
  intro p e s m args below meth c s₁ B hml hv
  obtain ⟨rfl, hsz, hP, hK, hD0⟩ := hv
  subst hsz
  have C0 : zCx p s m meth c _ RX12 cX12_asksSign 2 none vs_X12_asksSign := ⟨B.exec, B.bytes, hml, B.returns, findClass_of_methodNamed B.named, atoms_spec (ws := vs_X12_asksSign) B.pre, B.notSynchronized⟩
  have hD := m_D0 (n0 := s.heap.size) hD0
  have hl := lv_entry ([.ref (ad 0), .int x1]) (n := 2) (Nat.le_of_ble_eq_true rfl)
  rw [lg_entry_eq]
  generalize (lg_sl ([.ref (ad 0), .int x1]) ++ List.replicate (2 - (lg_sl ([.ref (ad 0), .int x1])).length) Slot.unset).toArray = ls at hl ⊢
  exact t_X12_asksSign_0 C0 hK N x1 σ _ _ ls h hP hD va_S.rf hl
theorem k_X12_asksSign (N : Nat) {R : Room} {H : Heap} {locs : List Loc} {cells slots : Nat} {Q2 : State → Prop} {cc : ByteArray} {nL pc index : Nat} {ls : Array Slot} {rest : List Value} {own : String} {c0 : Cond} {σ : zSt} {x1 : Int32} {Q : zSt → Prop} (S0 : CallFix p m c cc nL s args (c0 :: zT) own) (hml : Cond.methodLink own index yX12_asksSign ∈ zT) (hR : rm_X12_asksSign.frames + 1 ≤ R.frames ∧ 8 + (2 + 11) + rm_X12_asksSign.locals ≤ R.locals) (h : w_X12_asksSign N x1 σ Q) (hK : va_K (dC, dI) vwCl (m_ty cI cJ cC) s) (hP : va_P (dC, dI) vwCl (m_W ad cI cJ cC σ) H) (hD : va_D (zAW m_n ad s.heap.size) (m_W ad cI cJ cC σ)) (hS : va_S (zAW m_n ad s.heap.size) s.heap H locs) (hsz : ls.size = nL) (hW : (rest.map fun v => v.category).sum ≤ 8) (hcs : cells ≤ R.cells ∧ slots ≤ R.slots) (hdg : decode cc pc = .ok (.invokevirtual index, 3)) (kk : ∀ (τ : zSt) (H1 : Heap) (locs1 : List Loc), Q τ → va_P (dC, dI) vwCl (m_W ad cI cJ cC τ) H1 → va_D (zAW m_n ad s.heap.size) (m_W ad cI cJ cC τ) → va_S (zAW m_n ad s.heap.size) s.heap H1 locs1 → W p l e R s m args below meth c H1 locs1 cells slots Q2 (F0 m (pc + 3) ls (rest))) : W p l e R s m args below meth c H locs cells slots Q2 (F0 m pc ls (.int x1 :: .ref (ad 0) :: rest)) :=
  zcv_v (T := TX12) (N' := 83) (k := 0) (ci := 12) (fs := m_f0 ad σ) [.int x1] S0 (c_X12_asksSign N l dC dI ad cI cJ cC H.size σ x1 Q h) (cw_X12_asksSign S0.2.2.2.2 hml rfl rfl hR) rfl rfl hK hP hD hS rfl hsz hW rfl hcs hdg kk
end q15
section q15
def w_X12_opens (N : Nat) (x1 : Int32) (x2 : Int32) (σ : zSt) (Q : zSt → Prop) : Prop :=
  ((σ.1 11) = (6 : Int32) → w_X12_fail N (4 : Int32) x2 σ (fun τ5 => Q τ5)) ∧ (¬ (σ.1 11) = (6 : Int32) → ∀ τ1 : zSt, τ1 = zI σ 11 ((σ.1 11) + (1 : Int32)) → (vp_in (τ1.1 10) 900) ∧ (∀ τ2 : zSt, τ2 = zA τ1 11 (upd (τ1.2.2.1 11) ((τ1.1 10).toNatClampNeg) x1) → ∀ τ3 : zSt, τ3 = zI τ2 10 ((τ2.1 10) + (1 : Int32)) → Q τ3))
variable {p : Program} {l : Launch} {e : Env} {s : State} {m : MethodId} {args : Array Value} {below : List Frame} {meth : Method} {c : Code} {dC : Nat → ClassId} {dI : Nat → Nat → Nat} {ad : Nat → Nat} {cI cJ cC : ClassId}
set_option maxHeartbeats 4000000 in
set_option maxRecDepth 100000 in
theorem t_X12_opens_0 (C0 : zCx p s m meth c args RX12 cX12_opens 3 none vs_X12_opens) (hK : va_K (dC, dI) vwCl (m_ty cI cJ cC) s) (N : Nat) {Q : zSt → Prop} : ∀ (x1 : Int32) (x2 : Int32) (σ : zSt) (H : Heap) (locs : List Loc) (ls : Array Slot), w_X12_opens N x1 x2 σ Q → va_P (dC, dI) vwCl (m_W ad cI cJ cC σ) H → va_D (zAW m_n ad s.heap.size) (m_W ad cI cJ cC σ) → va_S (zAW m_n ad s.heap.size) s.heap H locs → lv_has ls 3 [(0, .ref (ad 0)), (1, .int x1), (2, .int x2)] → W p l e rm_X12_opens s m args below meth c H locs 0 0 (MQ below (zQv (dC, dI) (m_ty cI cJ cC) (m_W ad cI cJ cC) (zAW m_n ad s.heap.size) Q) args s 0 0 (zAW m_n ad s.heap.size)) (F0 m 0 ls []) := by
  obtain ⟨hx, hb, hml, hr, hown, hts, hlocks⟩ := id C0
  intro x1 x2 σ H locs ls h hP hD hS hl
  unfold w_X12_opens at h
  refine lv_aload_n hx hb dX12_opens_0 rfl (lv_at hl 0 rfl) ?_
  refine mg_0_44 hx hb hts hown hK hP mw_877 dX12_opens_1 ?_
  refine lv_bipush (v := (6 : Int32)) hx hb dX12_opens_4 (by decide) ?_
  refine lv_icmp_ne (tgt := 16) hx hb dX12_opens_6 (by decide) (fun hc => ?_) (fun hc => ?_)
  · have h := h.2 hc
    refine lv_aload_n hx hb dX12_opens_16 rfl (lv_at hl 0 rfl) ?_
    refine lv_dup hx hb dX12_opens_17 rfl ?_
    refine mg_0_44 hx hb hts hown hK hP mw_877 dX12_opens_18 ?_
    refine lv_iconst (v := (1 : Int32)) hx hb dX12_opens_21 (by decide) ?_
    refine lv_iadd hx hb dX12_opens_22 ?_
    refine mp_0_44 hx hb hts hown hK hP hD hS mw_877 dX12_opens_23 (fun τ1 H locs eτ1 hP hD hS => ?_)
    have h := h τ1 eτ1
    refine lv_aload_n hx hb dX12_opens_26 rfl (lv_at hl 0 rfl) ?_
    refine mg_0_42 hx hb hts hown hK hP mw_875 dX12_opens_27 ?_
    refine lv_aload_n hx hb dX12_opens_30 rfl (lv_at hl 0 rfl) ?_
    refine mg_0_43 hx hb hts hown hK hP mw_876 dX12_opens_31 ?_
    refine lv_iload_n hx hb dX12_opens_34 rfl (lv_at hl 1 rfl) ?_
    refine ms_14 hx hb hK hP hD hS h.1 rfl dX12_opens_35 (fun τ2 H locs eτ2 hP hD hS => ?_)
    have h := h.2
    have h := h τ2 eτ2
    refine lv_aload_n hx hb dX12_opens_36 rfl (lv_at hl 0 rfl) ?_
    refine lv_dup hx hb dX12_opens_37 rfl ?_
    refine mg_0_43 hx hb hts hown hK hP mw_876 dX12_opens_38 ?_
    refine lv_iconst (v := (1 : Int32)) hx hb dX12_opens_41 (by decide) ?_
    refine lv_iadd hx hb dX12_opens_42 ?_
    refine mp_0_43 hx hb hts hown hK hP hD hS mw_876 dX12_opens_43 (fun τ3 H locs eτ3 hP hD hS => ?_)
    have h := h τ3 eτ3
    exact zret_v hx hb hr hlocks hK hP hD hS h dX12_opens_46
  · have h := h.1 hc
    refine lv_aload_n hx hb dX12_opens_9 rfl (lv_at hl 0 rfl) ?_
    refine lv_iconst (v := (4 : Int32)) hx hb dX12_opens_10 (by decide) ?_
    refine lv_iload_n hx hb dX12_opens_11 rfl (lv_at hl 2 rfl) ?_
    refine k_X12_fail N ⟨hx, hb, hml, hown, hts⟩ mw_944 ⟨Nat.le_of_ble_eq_true rfl, Nat.le_of_ble_eq_true rfl⟩ h hK hP hD hS hl.1 (rest := []) (Nat.le_of_ble_eq_true rfl) ⟨Nat.le_of_ble_eq_true rfl, Nat.le_of_ble_eq_true rfl⟩ dX12_opens_12 (fun τ5 H locs h hP hD hS => ?_)
    exact zret_v hx hb hr hlocks hK hP hD hS h dX12_opens_15
set_option maxHeartbeats 4000000 in
set_option maxRecDepth 100000 in
theorem c_X12_opens (N : Nat) (l : Launch) (dC : Nat → ClassId) (dI : Nat → Nat → Nat) (ad : Nat → Nat) (cI cJ cC : ClassId) (sz : Nat) (σ : zSt) (x1 : Int32) (x2 : Int32) (Q : zSt → Prop) (h : w_X12_opens N x1 x2 σ Q) : Met l yX12_opens vs_X12_opens rm_X12_opens (va_Pc [.ref (ad 0), .int x1, .int x2] (zPc (dC, dI) (m_ty cI cJ cC) (m_W ad cI cJ cC) sz σ)) (zQv (dC, dI) (m_ty cI cJ cC) (m_W ad cI cJ cC) (zAW m_n ad sz) Q) 0 0 (zAW m_n ad sz) := by
  refine Met.ofW (cc := cX12_opens) (maxL := 3) (ret := none) (by decide) rfl ?_
  intro p e s m args below meth c s₁ B hml hv
  obtain ⟨rfl, hsz, hP, hK, hD0⟩ := hv
  subst hsz
  have C0 : zCx p s m meth c _ RX12 cX12_opens 3 none vs_X12_opens := ⟨B.exec, B.bytes, hml, B.returns, findClass_of_methodNamed B.named, atoms_spec (ws := vs_X12_opens) B.pre, B.notSynchronized⟩
  have hD := m_D0 (n0 := s.heap.size) hD0
  have hl := lv_entry ([.ref (ad 0), .int x1, .int x2]) (n := 3) (Nat.le_of_ble_eq_true rfl)
  rw [lg_entry_eq]
  generalize (lg_sl ([.ref (ad 0), .int x1, .int x2]) ++ List.replicate (3 - (lg_sl ([.ref (ad 0), .int x1, .int x2])).length) Slot.unset).toArray = ls at hl ⊢
  exact t_X12_opens_0 C0 hK N x1 x2 σ _ _ ls h hP hD va_S.rf hl
theorem k_X12_opens (N : Nat) {R : Room} {H : Heap} {locs : List Loc} {cells slots : Nat} {Q2 : State → Prop} {cc : ByteArray} {nL pc index : Nat} {ls : Array Slot} {rest : List Value} {own : String} {c0 : Cond} {σ : zSt} {x1 : Int32} {x2 : Int32} {Q : zSt → Prop} (S0 : CallFix p m c cc nL s args (c0 :: zT) own) (hml : Cond.methodLink own index yX12_opens ∈ zT) (hR : rm_X12_opens.frames + 1 ≤ R.frames ∧ 8 + (3 + 11) + rm_X12_opens.locals ≤ R.locals) (h : w_X12_opens N x1 x2 σ Q) (hK : va_K (dC, dI) vwCl (m_ty cI cJ cC) s) (hP : va_P (dC, dI) vwCl (m_W ad cI cJ cC σ) H) (hD : va_D (zAW m_n ad s.heap.size) (m_W ad cI cJ cC σ)) (hS : va_S (zAW m_n ad s.heap.size) s.heap H locs) (hsz : ls.size = nL) (hW : (rest.map fun v => v.category).sum ≤ 8) (hcs : cells ≤ R.cells ∧ slots ≤ R.slots) (hdg : decode cc pc = .ok (.invokevirtual index, 3)) (kk : ∀ (τ : zSt) (H1 : Heap) (locs1 : List Loc), Q τ → va_P (dC, dI) vwCl (m_W ad cI cJ cC τ) H1 → va_D (zAW m_n ad s.heap.size) (m_W ad cI cJ cC τ) → va_S (zAW m_n ad s.heap.size) s.heap H1 locs1 → W p l e R s m args below meth c H1 locs1 cells slots Q2 (F0 m (pc + 3) ls (rest))) : W p l e R s m args below meth c H locs cells slots Q2 (F0 m pc ls (.int x2 :: .int x1 :: .ref (ad 0) :: rest)) :=
  zcv_v (T := TX12) (N' := 83) (k := 0) (ci := 12) (fs := m_f0 ad σ) [.int x1, .int x2] S0 (c_X12_opens N l dC dI ad cI cJ cC H.size σ x1 x2 Q h) (cw_X12_opens S0.2.2.2.2 hml rfl rfl hR) rfl rfl hK hP hD hS rfl hsz hW rfl hcs hdg kk
end q15
section q15
def b_X12_onePart_258 (N : Nat) (Q : zSt → Prop) (s0 : Int32) (σ : zSt) : Prop :=
  w_X12_code N s0 σ (fun τ2 => Q τ2)
def b_X12_onePart_235 (N : Nat) (Q : zSt → Prop) (s0 : Int32) (σ : zSt) : Prop :=
  (s0 = (-1 : Int32) → w_X12_number N (0 : Int32) (9999 : Int32) σ (fun r1 τ2 => b_X12_onePart_258 N Q ((1000 : Int32) + r1) τ2)) ∧ (¬ s0 = (-1 : Int32) → b_X12_onePart_258 N Q s0 σ)
def b_X12_onePart_146 (N : Nat) (Q : zSt → Prop)  (σ : zSt) : Prop :=
  ((σ.1 4) = 0 → w_X12_takes N 12 σ (fun r1 τ2 => (r1 = 0 → w_X12_takes N 13 τ2 (fun r3 τ4 => (r3 = 0 → w_X12_takes N 14 τ4 (fun r5 τ6 => (r5 = 0 → w_X12_takes N 15 τ6 (fun r7 τ8 => (r7 = 0 → w_X12_takes N 16 τ8 (fun r9 τ10 => (r9 = 0 → b_X12_onePart_235 N Q (-1 : Int32) τ10) ∧ (¬ r9 = 0 → b_X12_onePart_235 N Q (18 : Int32) τ10))) ∧ (¬ r7 = 0 → b_X12_onePart_235 N Q (10 : Int32) τ8))) ∧ (¬ r5 = 0 → b_X12_onePart_235 N Q (9 : Int32) τ6))) ∧ (¬ r3 = 0 → b_X12_onePart_235 N Q (8 : Int32) τ4))) ∧ (¬ r1 = 0 → b_X12_onePart_235 N Q (7 : Int32) τ2))) ∧ (¬ (σ.1 4) = 0 → Q σ)
def b_X12_onePart_132 (N : Nat) (k_2 : Int32 → zSt → Prop) (Q : zSt → Prop) (x1 : Int32) (σ : zSt) : Prop :=
  w_X12_asksSign N (40 : Int32) σ (fun τ2 => k_2 x1 τ2)
def b_X12_onePart_127 (N : Nat) (k_2 : Int32 → zSt → Prop) (Q : zSt → Prop) (x1 : Int32) (x4 : Int32) (s0 : Int32) (σ : zSt) : Prop :=
  w_X12_opens N s0 x4 σ (fun τ2 => b_X12_onePart_132 N k_2 Q x1 τ2)
def b_X12_onePart_107 (N : Nat) (k_2 : Int32 → zSt → Prop) (Q : zSt → Prop) (x1 : Int32) (x3 : Int32) (s0 : Int32) (σ : zSt) : Prop :=
  (s0 = (-1 : Int32) → b_X12_onePart_132 N k_2 Q x1 σ) ∧ (¬ s0 = (-1 : Int32) → (x3 = 0 → b_X12_onePart_127 N k_2 Q x1 s0 (22 : Int32) σ) ∧ (¬ x3 = 0 → b_X12_onePart_127 N k_2 Q x1 s0 (21 : Int32) σ))
def b_X12_onePart_90 (N : Nat) (k_2 : Int32 → zSt → Prop) (Q : zSt → Prop) (x1 : Int32) (x3 : Int32) (σ : zSt) : Prop :=
  w_X12_look N σ (fun r1 τ2 => (r1 = (40 : Int32) → b_X12_onePart_107 N k_2 Q x1 x3 (τ2.1 1) τ2) ∧ (¬ r1 = (40 : Int32) → b_X12_onePart_107 N k_2 Q x1 x3 (-1 : Int32) τ2))
def b_X12_onePart_69 (N : Nat) (k_2 : Int32 → zSt → Prop) (Q : zSt → Prop) (x1 : Int32) (σ : zSt) : Prop :=
  w_X12_takes N 17 σ (fun r1 τ2 => (r1 = 0 → w_X12_asks N 18 τ2 (fun τ4 => b_X12_onePart_90 N k_2 Q x1 r1 τ4)) ∧ (¬ r1 = 0 → b_X12_onePart_90 N k_2 Q x1 r1 τ2))
def b_X12_onePart_2 (N : Nat) (k_2 : Int32 → zSt → Prop) (Q : zSt → Prop) (x1 : Int32) (σ : zSt) : Prop :=
  (x1 = 0 → b_X12_onePart_146 N Q σ) ∧ (¬ x1 = 0 → ((σ.1 4) = 0 → w_X12_look N σ (fun r1 τ2 => (r1 = (40 : Int32) → w_X12_opens N (20 : Int32) (τ2.1 1) τ2 (fun τ8 => ∀ τ9 : zSt, τ9 = zI τ8 1 ((τ8.1 1) + (1 : Int32)) → k_2 x1 τ9)) ∧ (¬ r1 = (40 : Int32) → w_X12_isHere N 17 τ2 (fun r3 τ4 => (r3 = 0 → w_X12_isHere N 18 τ4 (fun r5 τ6 => (r5 = 0 → k_2 (0 : Int32) τ6) ∧ (¬ r5 = 0 → b_X12_onePart_69 N k_2 Q x1 τ6))) ∧ (¬ r3 = 0 → b_X12_onePart_69 N k_2 Q x1 τ4))))) ∧ (¬ (σ.1 4) = 0 → b_X12_onePart_146 N Q σ))
def w_X12_onePart_2 (N : Nat) (Q : zSt → Prop) : Nat → Int32 → zSt → Prop
  | 0 => fun _ _ => False
  | f + 1 => b_X12_onePart_2 N (w_X12_onePart_2 N  Q f) Q
def w_X12_onePart (N : Nat)  (σ : zSt) (Q : zSt → Prop) : Prop :=
  w_X12_onePart_2 N Q N (1 : Int32) σ
variable {p : Program} {l : Launch} {e : Env} {s : State} {m : MethodId} {args : Array Value} {below : List Frame} {meth : Method} {c : Code} {dC : Nat → ClassId} {dI : Nat → Nat → Nat} {ad : Nat → Nat} {cI cJ cC : ClassId}
set_option maxHeartbeats 4000000 in
set_option maxRecDepth 100000 in
theorem t_X12_onePart_258 (C0 : zCx p s m meth c args RX12 cX12_onePart 5 none vs_X12_onePart) (hK : va_K (dC, dI) vwCl (m_ty cI cJ cC) s) (N : Nat) {Q : zSt → Prop} : ∀ (s0 : Int32) (σ : zSt) (H : Heap) (locs : List Loc) (ls : Array Slot), b_X12_onePart_258 N  Q s0 σ → va_P (dC, dI) vwCl (m_W ad cI cJ cC σ) H → va_D (zAW m_n ad s.heap.size) (m_W ad cI cJ cC σ) → va_S (zAW m_n ad s.heap.size) s.heap H locs → lv_has ls 5 [] → W p l e rm_X12_onePart s m args below meth c H locs 0 0 (MQ below (zQv (dC, dI) (m_ty cI cJ cC) (m_W ad cI cJ cC) (zAW m_n ad s.heap.size) Q) args s 0 0 (zAW m_n ad s.heap.size)) (F0 m 258 ls [.int s0, .ref (ad 0)]) := by
  obtain ⟨hx, hb, hml, hr, hown, hts, hlocks⟩ := id C0
  intro s0 σ H locs ls h hP hD hS hl
  unfold b_X12_onePart_258 at h
  refine k_X12_code N ⟨hx, hb, hml, hown, hts⟩ mw_991 ⟨Nat.le_of_ble_eq_true rfl, Nat.le_of_ble_eq_true rfl⟩ h hK hP hD hS hl.1 (rest := []) (Nat.le_of_ble_eq_true rfl) ⟨Nat.le_of_ble_eq_true rfl, Nat.le_of_ble_eq_true rfl⟩ dX12_onePart_258 (fun τ2 H locs h hP hD hS => ?_)
  exact zret_v hx hb hr hlocks hK hP hD hS h dX12_onePart_261
set_option maxHeartbeats 4000000 in
set_option maxRecDepth 100000 in
theorem t_X12_onePart_235 (C0 : zCx p s m meth c args RX12 cX12_onePart 5 none vs_X12_onePart) (hK : va_K (dC, dI) vwCl (m_ty cI cJ cC) s) (N : Nat) {Q : zSt → Prop} : ∀ (s0 : Int32) (σ : zSt) (H : Heap) (locs : List Loc) (ls : Array Slot), b_X12_onePart_235 N  Q s0 σ → va_P (dC, dI) vwCl (m_W ad cI cJ cC σ) H → va_D (zAW m_n ad s.heap.size) (m_W ad cI cJ cC σ) → va_S (zAW m_n ad s.heap.size) s.heap H locs → lv_has ls 5 [(0, .ref (ad 0))] → W p l e rm_X12_onePart s m args below meth c H locs 0 0 (MQ below (zQv (dC, dI) (m_ty cI cJ cC) (m_W ad cI cJ cC) (zAW m_n ad s.heap.size) Q) args s 0 0 (zAW m_n ad s.heap.size)) (F0 m 235 ls [.int s0]) := by
  obtain ⟨hx, hb, hml, hr, hown, hts, hlocks⟩ := id C0
  intro s0 σ H locs ls h hP hD hS hl
  unfold b_X12_onePart_235 at h
  refine lv_istore_n (lv' := [(2, .int s0), (0, .ref (ad 0))]) hx hb dX12_onePart_235 rfl hl (by decide) rfl (fun ls hl => ?_)
  refine lv_aload_n hx hb dX12_onePart_236 rfl (lv_at hl 1 rfl) ?_
  refine lv_iload_n hx hb dX12_onePart_237 rfl (lv_at hl 0 rfl) ?_
  refine lv_iconst (v := (-1 : Int32)) hx hb dX12_onePart_238 (by decide) ?_
  refine lv_icmp_eq (tgt := 246) hx hb dX12_onePart_239 (by decide) (fun hc => ?_) (fun hc => ?_)
  · have h := h.1 hc
    refine lv_sipush (v := (1000 : Int32)) hx hb dX12_onePart_246 (by decide) ?_
    refine lv_aload_n hx hb dX12_onePart_249 rfl (lv_at hl 1 rfl) ?_
    refine lv_iconst (v := (0 : Int32)) hx hb dX12_onePart_250 (by decide) ?_
    refine lv_sipush (v := (9999 : Int32)) hx hb dX12_onePart_251 (by decide) ?_
    refine k_X12_number N ⟨hx, hb, hml, hown, hts⟩ mw_964 ⟨Nat.le_of_ble_eq_true rfl, Nat.le_of_ble_eq_true rfl⟩ h hK hP hD hS hl.1 (rest := [.int (1000 : Int32), .ref (ad 0)]) (Nat.le_of_ble_eq_true rfl) ⟨Nat.le_of_ble_eq_true rfl, Nat.le_of_ble_eq_true rfl⟩ dX12_onePart_254 (fun r1 τ2 H locs h hP hD hS => ?_)
    refine lv_iadd hx hb dX12_onePart_257 ?_
    exact t_X12_onePart_258 C0 hK N  ((1000 : Int32) + r1) τ2 _ _ _ h hP hD hS (lv_sub hl [] rfl)
  · have h := h.2 hc
    refine lv_iload_n hx hb dX12_onePart_242 rfl (lv_at hl 0 rfl) ?_
    refine lv_goto (tgt := 258) hx hb dX12_onePart_243 (by decide) ?_
    exact t_X12_onePart_258 C0 hK N  s0 σ _ _ _ h hP hD hS (lv_sub hl [] rfl)
set_option maxHeartbeats 4000000 in
set_option maxRecDepth 100000 in
theorem t_X12_onePart_146 (C0 : zCx p s m meth c args RX12 cX12_onePart 5 none vs_X12_onePart) (hK : va_K (dC, dI) vwCl (m_ty cI cJ cC) s) (N : Nat) {Q : zSt → Prop} : ∀  (σ : zSt) (H : Heap) (locs : List Loc) (ls : Array Slot), b_X12_onePart_146 N  Q  σ → va_P (dC, dI) vwCl (m_W ad cI cJ cC σ) H → va_D (zAW m_n ad s.heap.size) (m_W ad cI cJ cC σ) → va_S (zAW m_n ad s.heap.size) s.heap H locs → lv_has ls 5 [(0, .ref (ad 0))] → W p l e rm_X12_onePart s m args below meth c H locs 0 0 (MQ below (zQv (dC, dI) (m_ty cI cJ cC) (m_W ad cI cJ cC) (zAW m_n ad s.heap.size) Q) args s 0 0 (zAW m_n ad s.heap.size)) (F0 m 146 ls []) := by
  obtain ⟨hx, hb, hml, hr, hown, hts, hlocks⟩ := id C0
  intro  σ H locs ls h hP hD hS hl
  unfold b_X12_onePart_146 at h
  refine lv_aload_n hx hb dX12_onePart_146 rfl (lv_at hl 0 rfl) ?_
  refine mg_0_5 hx hb hts hown hK hP mw_838 dX12_onePart_147 ?_
  refine lv_if_eq (tgt := 154) hx hb dX12_onePart_150 (by decide) (fun hc => ?_) (fun hc => ?_)
  · have h := h.1 hc
    refine lv_aload_n hx hb dX12_onePart_154 rfl (lv_at hl 0 rfl) ?_
    refine lv_aload_n hx hb dX12_onePart_155 rfl (lv_at hl 0 rfl) ?_
    refine mg_0_21 hx hb hts hown hK hP mw_854 dX12_onePart_156 ?_
    refine k_X12_takes N (w := 12) (by decide) ⟨hx, hb, hml, hown, hts⟩ mw_935 ⟨Nat.le_of_ble_eq_true rfl, Nat.le_of_ble_eq_true rfl⟩ h hK hP hD hS hl.1 (rest := []) (Nat.le_of_ble_eq_true rfl) ⟨Nat.le_of_ble_eq_true rfl, Nat.le_of_ble_eq_true rfl⟩ dX12_onePart_159 (fun r1 τ2 H locs h hP hD hS => ?_)
    refine lv_if_eq (tgt := 170) hx hb dX12_onePart_162 (by decide) (fun hc => ?_) (fun hc => ?_)
    · have h := h.1 hc
      refine lv_aload_n hx hb dX12_onePart_170 rfl (lv_at hl 0 rfl) ?_
      refine lv_aload_n hx hb dX12_onePart_171 rfl (lv_at hl 0 rfl) ?_
      refine mg_0_22 hx hb hts hown hK hP mw_855 dX12_onePart_172 ?_
      refine k_X12_takes N (w := 13) (by decide) ⟨hx, hb, hml, hown, hts⟩ mw_935 ⟨Nat.le_of_ble_eq_true rfl, Nat.le_of_ble_eq_true rfl⟩ h hK hP hD hS hl.1 (rest := []) (Nat.le_of_ble_eq_true rfl) ⟨Nat.le_of_ble_eq_true rfl, Nat.le_of_ble_eq_true rfl⟩ dX12_onePart_175 (fun r3 τ4 H locs h hP hD hS => ?_)
      refine lv_if_eq (tgt := 186) hx hb dX12_onePart_178 (by decide) (fun hc => ?_) (fun hc => ?_)
      · have h := h.1 hc
        refine lv_aload_n hx hb dX12_onePart_186 rfl (lv_at hl 0 rfl) ?_
        refine lv_aload_n hx hb dX12_onePart_187 rfl (lv_at hl 0 rfl) ?_
        refine mg_0_23 hx hb hts hown hK hP mw_856 dX12_onePart_188 ?_
        refine k_X12_takes N (w := 14) (by decide) ⟨hx, hb, hml, hown, hts⟩ mw_935 ⟨Nat.le_of_ble_eq_true rfl, Nat.le_of_ble_eq_true rfl⟩ h hK hP hD hS hl.1 (rest := []) (Nat.le_of_ble_eq_true rfl) ⟨Nat.le_of_ble_eq_true rfl, Nat.le_of_ble_eq_true rfl⟩ dX12_onePart_191 (fun r5 τ6 H locs h hP hD hS => ?_)
        refine lv_if_eq (tgt := 202) hx hb dX12_onePart_194 (by decide) (fun hc => ?_) (fun hc => ?_)
        · have h := h.1 hc
          refine lv_aload_n hx hb dX12_onePart_202 rfl (lv_at hl 0 rfl) ?_
          refine lv_aload_n hx hb dX12_onePart_203 rfl (lv_at hl 0 rfl) ?_
          refine mg_0_24 hx hb hts hown hK hP mw_857 dX12_onePart_204 ?_
          refine k_X12_takes N (w := 15) (by decide) ⟨hx, hb, hml, hown, hts⟩ mw_935 ⟨Nat.le_of_ble_eq_true rfl, Nat.le_of_ble_eq_true rfl⟩ h hK hP hD hS hl.1 (rest := []) (Nat.le_of_ble_eq_true rfl) ⟨Nat.le_of_ble_eq_true rfl, Nat.le_of_ble_eq_true rfl⟩ dX12_onePart_207 (fun r7 τ8 H locs h hP hD hS => ?_)
          refine lv_if_eq (tgt := 218) hx hb dX12_onePart_210 (by decide) (fun hc => ?_) (fun hc => ?_)
          · have h := h.1 hc
            refine lv_aload_n hx hb dX12_onePart_218 rfl (lv_at hl 0 rfl) ?_
            refine lv_aload_n hx hb dX12_onePart_219 rfl (lv_at hl 0 rfl) ?_
            refine mg_0_25 hx hb hts hown hK hP mw_858 dX12_onePart_220 ?_
            refine k_X12_takes N (w := 16) (by decide) ⟨hx, hb, hml, hown, hts⟩ mw_935 ⟨Nat.le_of_ble_eq_true rfl, Nat.le_of_ble_eq_true rfl⟩ h hK hP hD hS hl.1 (rest := []) (Nat.le_of_ble_eq_true rfl) ⟨Nat.le_of_ble_eq_true rfl, Nat.le_of_ble_eq_true rfl⟩ dX12_onePart_223 (fun r9 τ10 H locs h hP hD hS => ?_)
            refine lv_if_eq (tgt := 234) hx hb dX12_onePart_226 (by decide) (fun hc => ?_) (fun hc => ?_)
            · have h := h.1 hc
              refine lv_iconst (v := (-1 : Int32)) hx hb dX12_onePart_234 (by decide) ?_
              exact t_X12_onePart_235 C0 hK N  (-1 : Int32) τ10 _ _ _ h hP hD hS (lv_sub hl [0] rfl)
            · have h := h.2 hc
              refine lv_bipush (v := (18 : Int32)) hx hb dX12_onePart_229 (by decide) ?_
              refine lv_goto (tgt := 235) hx hb dX12_onePart_231 (by decide) ?_
              exact t_X12_onePart_235 C0 hK N  (18 : Int32) τ10 _ _ _ h hP hD hS (lv_sub hl [0] rfl)
          · have h := h.2 hc
            refine lv_bipush (v := (10 : Int32)) hx hb dX12_onePart_213 (by decide) ?_
            refine lv_goto (tgt := 235) hx hb dX12_onePart_215 (by decide) ?_
            exact t_X12_onePart_235 C0 hK N  (10 : Int32) τ8 _ _ _ h hP hD hS (lv_sub hl [0] rfl)
        · have h := h.2 hc
          refine lv_bipush (v := (9 : Int32)) hx hb dX12_onePart_197 (by decide) ?_
          refine lv_goto (tgt := 235) hx hb dX12_onePart_199 (by decide) ?_
          exact t_X12_onePart_235 C0 hK N  (9 : Int32) τ6 _ _ _ h hP hD hS (lv_sub hl [0] rfl)
      · have h := h.2 hc
        refine lv_bipush (v := (8 : Int32)) hx hb dX12_onePart_181 (by decide) ?_
        refine lv_goto (tgt := 235) hx hb dX12_onePart_183 (by decide) ?_
        exact t_X12_onePart_235 C0 hK N  (8 : Int32) τ4 _ _ _ h hP hD hS (lv_sub hl [0] rfl)
    · have h := h.2 hc
      refine lv_bipush (v := (7 : Int32)) hx hb dX12_onePart_165 (by decide) ?_
      refine lv_goto (tgt := 235) hx hb dX12_onePart_167 (by decide) ?_
      exact t_X12_onePart_235 C0 hK N  (7 : Int32) τ2 _ _ _ h hP hD hS (lv_sub hl [0] rfl)
  · have h := h.2 hc
    exact zret_v hx hb hr hlocks hK hP hD hS h dX12_onePart_153
set_option maxHeartbeats 4000000 in
set_option maxRecDepth 100000 in
theorem t_X12_onePart_132 (C0 : zCx p s m meth c args RX12 cX12_onePart 5 none vs_X12_onePart) (hK : va_K (dC, dI) vwCl (m_ty cI cJ cC) s) (N : Nat) {Q : zSt → Prop} {k_2 : Int32 → zSt → Prop} (hk_2 : ∀ (x1 : Int32) (σ : zSt) (H : Heap) (locs : List Loc) (ls : Array Slot), k_2 x1 σ → va_P (dC, dI) vwCl (m_W ad cI cJ cC σ) H → va_D (zAW m_n ad s.heap.size) (m_W ad cI cJ cC σ) → va_S (zAW m_n ad s.heap.size) s.heap H locs → lv_has ls 5 [(0, .ref (ad 0)), (1, .int x1)] → W p l e rm_X12_onePart s m args below meth c H locs 0 0 (MQ below (zQv (dC, dI) (m_ty cI cJ cC) (m_W ad cI cJ cC) (zAW m_n ad s.heap.size) Q) args s 0 0 (zAW m_n ad s.heap.size)) (F0 m 2 ls [])) : ∀ (x1 : Int32) (σ : zSt) (H : Heap) (locs : List Loc) (ls : Array Slot), b_X12_onePart_132 N k_2 Q x1 σ → va_P (dC, dI) vwCl (m_W ad cI cJ cC σ) H → va_D (zAW m_n ad s.heap.size) (m_W ad cI cJ cC σ) → va_S (zAW m_n ad s.heap.size) s.heap H locs → lv_has ls 5 [(0, .ref (ad 0)), (1, .int x1)] → W p l e rm_X12_onePart s m args below meth c H locs 0 0 (MQ below (zQv (dC, dI) (m_ty cI cJ cC) (m_W ad cI cJ cC) (zAW m_n ad s.heap.size) Q) args s 0 0 (zAW m_n ad s.heap.size)) (F0 m 132 ls []) := by
  obtain ⟨hx, hb, hml, hr, hown, hts, hlocks⟩ := id C0
  intro x1 σ H locs ls h hP hD hS hl
  unfold b_X12_onePart_132 at h
  refine lv_aload_n hx hb dX12_onePart_132 rfl (lv_at hl 0 rfl) ?_
  refine lv_bipush (v := (40 : Int32)) hx hb dX12_onePart_133 (by decide) ?_
  refine k_X12_asksSign N ⟨hx, hb, hml, hown, hts⟩ mw_985 ⟨Nat.le_of_ble_eq_true rfl, Nat.le_of_ble_eq_true rfl⟩ h hK hP hD hS hl.1 (rest := []) (Nat.le_of_ble_eq_true rfl) ⟨Nat.le_of_ble_eq_true rfl, Nat.le_of_ble_eq_true rfl⟩ dX12_onePart_135 (fun τ2 H locs h hP hD hS => ?_)
  refine lv_goto (tgt := 143) hx hb dX12_onePart_138 (by decide) ?_
  refine lv_goto (tgt := 2) hx hb dX12_onePart_143 (by decide) ?_
  exact hk_2 x1 τ2 _ _ _ h hP hD hS (lv_sub hl [0, 1] rfl)
set_option maxHeartbeats 4000000 in
set_option maxRecDepth 100000 in
theorem t_X12_onePart_127 (C0 : zCx p s m meth c args RX12 cX12_onePart 5 none vs_X12_onePart) (hK : va_K (dC, dI) vwCl (m_ty cI cJ cC) s) (N : Nat) {Q : zSt → Prop} {k_2 : Int32 → zSt → Prop} (hk_2 : ∀ (x1 : Int32) (σ : zSt) (H : Heap) (locs : List Loc) (ls : Array Slot), k_2 x1 σ → va_P (dC, dI) vwCl (m_W ad cI cJ cC σ) H → va_D (zAW m_n ad s.heap.size) (m_W ad cI cJ cC σ) → va_S (zAW m_n ad s.heap.size) s.heap H locs → lv_has ls 5 [(0, .ref (ad 0)), (1, .int x1)] → W p l e rm_X12_onePart s m args below meth c H locs 0 0 (MQ below (zQv (dC, dI) (m_ty cI cJ cC) (m_W ad cI cJ cC) (zAW m_n ad s.heap.size) Q) args s 0 0 (zAW m_n ad s.heap.size)) (F0 m 2 ls [])) : ∀ (x1 : Int32) (x4 : Int32) (s0 : Int32) (σ : zSt) (H : Heap) (locs : List Loc) (ls : Array Slot), b_X12_onePart_127 N k_2 Q x1 x4 s0 σ → va_P (dC, dI) vwCl (m_W ad cI cJ cC σ) H → va_D (zAW m_n ad s.heap.size) (m_W ad cI cJ cC σ) → va_S (zAW m_n ad s.heap.size) s.heap H locs → lv_has ls 5 [(0, .ref (ad 0)), (1, .int x1), (4, .int x4)] → W p l e rm_X12_onePart s m args below meth c H locs 0 0 (MQ below (zQv (dC, dI) (m_ty cI cJ cC) (m_W ad cI cJ cC) (zAW m_n ad s.heap.size) Q) args s 0 0 (zAW m_n ad s.heap.size)) (F0 m 127 ls [.int s0, .ref (ad 0)]) := by
  obtain ⟨hx, hb, hml, hr, hown, hts, hlocks⟩ := id C0
  intro x1 x4 s0 σ H locs ls h hP hD hS hl
  unfold b_X12_onePart_127 at h
  refine lv_iload hx hb dX12_onePart_127 (lv_at hl 2 rfl) ?_
  refine k_X12_opens N ⟨hx, hb, hml, hown, hts⟩ mw_982 ⟨Nat.le_of_ble_eq_true rfl, Nat.le_of_ble_eq_true rfl⟩ h hK hP hD hS hl.1 (rest := []) (Nat.le_of_ble_eq_true rfl) ⟨Nat.le_of_ble_eq_true rfl, Nat.le_of_ble_eq_true rfl⟩ dX12_onePart_129 (fun τ2 H locs h hP hD hS => ?_)
  exact t_X12_onePart_132 C0 hK N hk_2 x1 τ2 _ _ _ h hP hD hS (lv_sub hl [0, 1] rfl)
set_option maxHeartbeats 4000000 in
set_option maxRecDepth 100000 in
theorem t_X12_onePart_107 (C0 : zCx p s m meth c args RX12 cX12_onePart 5 none vs_X12_onePart) (hK : va_K (dC, dI) vwCl (m_ty cI cJ cC) s) (N : Nat) {Q : zSt → Prop} {k_2 : Int32 → zSt → Prop} (hk_2 : ∀ (x1 : Int32) (σ : zSt) (H : Heap) (locs : List Loc) (ls : Array Slot), k_2 x1 σ → va_P (dC, dI) vwCl (m_W ad cI cJ cC σ) H → va_D (zAW m_n ad s.heap.size) (m_W ad cI cJ cC σ) → va_S (zAW m_n ad s.heap.size) s.heap H locs → lv_has ls 5 [(0, .ref (ad 0)), (1, .int x1)] → W p l e rm_X12_onePart s m args below meth c H locs 0 0 (MQ below (zQv (dC, dI) (m_ty cI cJ cC) (m_W ad cI cJ cC) (zAW m_n ad s.heap.size) Q) args s 0 0 (zAW m_n ad s.heap.size)) (F0 m 2 ls [])) : ∀ (x1 : Int32) (x3 : Int32) (s0 : Int32) (σ : zSt) (H : Heap) (locs : List Loc) (ls : Array Slot), b_X12_onePart_107 N k_2 Q x1 x3 s0 σ → va_P (dC, dI) vwCl (m_W ad cI cJ cC σ) H → va_D (zAW m_n ad s.heap.size) (m_W ad cI cJ cC σ) → va_S (zAW m_n ad s.heap.size) s.heap H locs → lv_has ls 5 [(0, .ref (ad 0)), (1, .int x1), (3, .int x3)] → W p l e rm_X12_onePart s m args below meth c H locs 0 0 (MQ below (zQv (dC, dI) (m_ty cI cJ cC) (m_W ad cI cJ cC) (zAW m_n ad s.heap.size) Q) args s 0 0 (zAW m_n ad s.heap.size)) (F0 m 107 ls [.int s0]) := by
  obtain ⟨hx, hb, hml, hr, hown, hts, hlocks⟩ := id C0
  intro x1 x3 s0 σ H locs ls h hP hD hS hl
  unfold b_X12_onePart_107 at h
  refine lv_istore (lv' := [(4, .int s0), (0, .ref (ad 0)), (1, .int x1), (3, .int x3)]) hx hb dX12_onePart_107 hl (by decide) rfl (fun ls hl => ?_)
  refine lv_iload hx hb dX12_onePart_109 (lv_at hl 0 rfl) ?_
  refine lv_iconst (v := (-1 : Int32)) hx hb dX12_onePart_111 (by decide) ?_
  refine lv_icmp_eq (tgt := 132) hx hb dX12_onePart_112 (by decide) (fun hc => ?_) (fun hc => ?_)
  · have h := h.1 hc
    exact t_X12_onePart_132 C0 hK N hk_2 x1 σ _ _ _ h hP hD hS (lv_sub hl [1, 2] rfl)
  · have h := h.2 hc
    refine lv_aload_n hx hb dX12_onePart_115 rfl (lv_at hl 1 rfl) ?_
    refine lv_iload_n hx hb dX12_onePart_116 rfl (lv_at hl 3 rfl) ?_
    refine lv_if_eq (tgt := 125) hx hb dX12_onePart_117 (by decide) (fun hc => ?_) (fun hc => ?_)
    · have h := h.1 hc
      refine lv_bipush (v := (22 : Int32)) hx hb dX12_onePart_125 (by decide) ?_
      exact t_X12_onePart_127 C0 hK N hk_2 x1 s0 (22 : Int32) σ _ _ _ h hP hD hS (lv_sub hl [1, 2, 0] rfl)
    · have h := h.2 hc
      refine lv_bipush (v := (21 : Int32)) hx hb dX12_onePart_120 (by decide) ?_
      refine lv_goto (tgt := 127) hx hb dX12_onePart_122 (by decide) ?_
      exact t_X12_onePart_127 C0 hK N hk_2 x1 s0 (21 : Int32) σ _ _ _ h hP hD hS (lv_sub hl [1, 2, 0] rfl)
set_option maxHeartbeats 4000000 in
set_option maxRecDepth 100000 in
theorem t_X12_onePart_90 (C0 : zCx p s m meth c args RX12 cX12_onePart 5 none vs_X12_onePart) (hK : va_K (dC, dI) vwCl (m_ty cI cJ cC) s) (N : Nat) {Q : zSt → Prop} {k_2 : Int32 → zSt → Prop} (hk_2 : ∀ (x1 : Int32) (σ : zSt) (H : Heap) (locs : List Loc) (ls : Array Slot), k_2 x1 σ → va_P (dC, dI) vwCl (m_W ad cI cJ cC σ) H → va_D (zAW m_n ad s.heap.size) (m_W ad cI cJ cC σ) → va_S (zAW m_n ad s.heap.size) s.heap H locs → lv_has ls 5 [(0, .ref (ad 0)), (1, .int x1)] → W p l e rm_X12_onePart s m args below meth c H locs 0 0 (MQ below (zQv (dC, dI) (m_ty cI cJ cC) (m_W ad cI cJ cC) (zAW m_n ad s.heap.size) Q) args s 0 0 (zAW m_n ad s.heap.size)) (F0 m 2 ls [])) : ∀ (x1 : Int32) (x3 : Int32) (σ : zSt) (H : Heap) (locs : List Loc) (ls : Array Slot), b_X12_onePart_90 N k_2 Q x1 x3 σ → va_P (dC, dI) vwCl (m_W ad cI cJ cC σ) H → va_D (zAW m_n ad s.heap.size) (m_W ad cI cJ cC σ) → va_S (zAW m_n ad s.heap.size) s.heap H locs → lv_has ls 5 [(0, .ref (ad 0)), (1, .int x1), (3, .int x3)] → W p l e rm_X12_onePart s m args below meth c H locs 0 0 (MQ below (zQv (dC, dI) (m_ty cI cJ cC) (m_W ad cI cJ cC) (zAW m_n ad s.heap.size) Q) args s 0 0 (zAW m_n ad s.heap.size)) (F0 m 90 ls []) := by
  obtain ⟨hx, hb, hml, hr, hown, hts, hlocks⟩ := id C0
  intro x1 x3 σ H locs ls h hP hD hS hl
  unfold b_X12_onePart_90 at h
  refine lv_aload_n hx hb dX12_onePart_90 rfl (lv_at hl 0 rfl) ?_
  refine k_X12_look N ⟨hx, hb, hml, hown, hts⟩ mw_929 ⟨Nat.le_of_ble_eq_true rfl, Nat.le_of_ble_eq_true rfl⟩ h hK hP hD hS hl.1 (rest := []) (Nat.le_of_ble_eq_true rfl) ⟨Nat.le_of_ble_eq_true rfl, Nat.le_of_ble_eq_true rfl⟩ dX12_onePart_91 (fun r1 τ2 H locs h hP hD hS => ?_)
  refine lv_bipush (v := (40 : Int32)) hx hb dX12_onePart_94 (by decide) ?_
  refine lv_icmp_ne (tgt := 106) hx hb dX12_onePart_96 (by decide) (fun hc => ?_) (fun hc => ?_)
  · have h := h.2 hc
    refine lv_iconst (v := (-1 : Int32)) hx hb dX12_onePart_106 (by decide) ?_
    exact t_X12_onePart_107 C0 hK N hk_2 x1 x3 (-1 : Int32) τ2 _ _ _ h hP hD hS (lv_sub hl [0, 1, 2] rfl)
  · have h := h.1 hc
    refine lv_aload_n hx hb dX12_onePart_99 rfl (lv_at hl 0 rfl) ?_
    refine mg_0_2 hx hb hts hown hK hP mw_835 dX12_onePart_100 ?_
    refine lv_goto (tgt := 107) hx hb dX12_onePart_103 (by decide) ?_
    exact t_X12_onePart_107 C0 hK N hk_2 x1 x3 (τ2.1 1) τ2 _ _ _ h hP hD hS (lv_sub hl [0, 1, 2] rfl)
set_option maxHeartbeats 4000000 in
set_option maxRecDepth 100000 in
theorem t_X12_onePart_69 (C0 : zCx p s m meth c args RX12 cX12_onePart 5 none vs_X12_onePart) (hK : va_K (dC, dI) vwCl (m_ty cI cJ cC) s) (N : Nat) {Q : zSt → Prop} {k_2 : Int32 → zSt → Prop} (hk_2 : ∀ (x1 : Int32) (σ : zSt) (H : Heap) (locs : List Loc) (ls : Array Slot), k_2 x1 σ → va_P (dC, dI) vwCl (m_W ad cI cJ cC σ) H → va_D (zAW m_n ad s.heap.size) (m_W ad cI cJ cC σ) → va_S (zAW m_n ad s.heap.size) s.heap H locs → lv_has ls 5 [(0, .ref (ad 0)), (1, .int x1)] → W p l e rm_X12_onePart s m args below meth c H locs 0 0 (MQ below (zQv (dC, dI) (m_ty cI cJ cC) (m_W ad cI cJ cC) (zAW m_n ad s.heap.size) Q) args s 0 0 (zAW m_n ad s.heap.size)) (F0 m 2 ls [])) : ∀ (x1 : Int32) (σ : zSt) (H : Heap) (locs : List Loc) (ls : Array Slot), b_X12_onePart_69 N k_2 Q x1 σ → va_P (dC, dI) vwCl (m_W ad cI cJ cC σ) H → va_D (zAW m_n ad s.heap.size) (m_W ad cI cJ cC σ) → va_S (zAW m_n ad s.heap.size) s.heap H locs → lv_has ls 5 [(0, .ref (ad 0)), (1, .int x1)] → W p l e rm_X12_onePart s m args below meth c H locs 0 0 (MQ below (zQv (dC, dI) (m_ty cI cJ cC) (m_W ad cI cJ cC) (zAW m_n ad s.heap.size) Q) args s 0 0 (zAW m_n ad s.heap.size)) (F0 m 69 ls []) := by
  obtain ⟨hx, hb, hml, hr, hown, hts, hlocks⟩ := id C0
  intro x1 σ H locs ls h hP hD hS hl
  unfold b_X12_onePart_69 at h
  refine lv_aload_n hx hb dX12_onePart_69 rfl (lv_at hl 0 rfl) ?_
  refine lv_aload_n hx hb dX12_onePart_70 rfl (lv_at hl 0 rfl) ?_
  refine mg_0_26 hx hb hts hown hK hP mw_859 dX12_onePart_71 ?_
  refine k_X12_takes N (w := 17) (by decide) ⟨hx, hb, hml, hown, hts⟩ mw_935 ⟨Nat.le_of_ble_eq_true rfl, Nat.le_of_ble_eq_true rfl⟩ h hK hP hD hS hl.1 (rest := []) (Nat.le_of_ble_eq_true rfl) ⟨Nat.le_of_ble_eq_true rfl, Nat.le_of_ble_eq_true rfl⟩ dX12_onePart_74 (fun r1 τ2 H locs h hP hD hS => ?_)
  refine lv_istore_n (lv' := [(3, .int r1), (0, .ref (ad 0)), (1, .int x1)]) hx hb dX12_onePart_77 rfl hl (by decide) rfl (fun ls hl => ?_)
  refine lv_iload_n hx hb dX12_onePart_78 rfl (lv_at hl 0 rfl) ?_
  refine lv_if_ne (tgt := 90) hx hb dX12_onePart_79 (by decide) (fun hc => ?_) (fun hc => ?_)
  · have h := h.2 hc
    exact t_X12_onePart_90 C0 hK N hk_2 x1 r1 τ2 _ _ _ h hP hD hS (lv_sub hl [1, 2, 0] rfl)
  · have h := h.1 hc
    refine lv_aload_n hx hb dX12_onePart_82 rfl (lv_at hl 1 rfl) ?_
    refine lv_aload_n hx hb dX12_onePart_83 rfl (lv_at hl 1 rfl) ?_
    refine mg_0_27 hx hb hts hown hK hP mw_860 dX12_onePart_84 ?_
    refine k_X12_asks N (w := 18) (by decide) ⟨hx, hb, hml, hown, hts⟩ mw_961 ⟨Nat.le_of_ble_eq_true rfl, Nat.le_of_ble_eq_true rfl⟩ h hK hP hD hS hl.1 (rest := []) (Nat.le_of_ble_eq_true rfl) ⟨Nat.le_of_ble_eq_true rfl, Nat.le_of_ble_eq_true rfl⟩ dX12_onePart_87 (fun τ4 H locs h hP hD hS => ?_)
    exact t_X12_onePart_90 C0 hK N hk_2 x1 r1 τ4 _ _ _ h hP hD hS (lv_sub hl [1, 2, 0] rfl)
set_option maxHeartbeats 4000000 in
set_option maxRecDepth 100000 in
theorem tb_X12_onePart_2 (C0 : zCx p s m meth c args RX12 cX12_onePart 5 none vs_X12_onePart) (hK : va_K (dC, dI) vwCl (m_ty cI cJ cC) s) (N : Nat) {Q : zSt → Prop} {k_2 : Int32 → zSt → Prop} (hk_2 : ∀ (x1 : Int32) (σ : zSt) (H : Heap) (locs : List Loc) (ls : Array Slot), k_2 x1 σ → va_P (dC, dI) vwCl (m_W ad cI cJ cC σ) H → va_D (zAW m_n ad s.heap.size) (m_W ad cI cJ cC σ) → va_S (zAW m_n ad s.heap.size) s.heap H locs → lv_has ls 5 [(0, .ref (ad 0)), (1, .int x1)] → W p l e rm_X12_onePart s m args below meth c H locs 0 0 (MQ below (zQv (dC, dI) (m_ty cI cJ cC) (m_W ad cI cJ cC) (zAW m_n ad s.heap.size) Q) args s 0 0 (zAW m_n ad s.heap.size)) (F0 m 2 ls [])) : ∀ (x1 : Int32) (σ : zSt) (H : Heap) (locs : List Loc) (ls : Array Slot), b_X12_onePart_2 N k_2 Q x1 σ → va_P (dC, dI) vwCl (m_W ad cI cJ cC σ) H → va_D (zAW m_n ad s.heap.size) (m_W ad cI cJ cC σ) → va_S (zAW m_n ad s.heap.size) s.heap H locs → lv_has ls 5 [(0, .ref (ad 0)), (1, .int x1)] → W p l e rm_X12_onePart s m args below meth c H locs 0 0 (MQ below (zQv (dC, dI) (m_ty cI cJ cC) (m_W ad cI cJ cC) (zAW m_n ad s.heap.size) Q) args s 0 0 (zAW m_n ad s.heap.size)) (F0 m 2 ls []) := by
  obtain ⟨hx, hb, hml, hr, hown, hts, hlocks⟩ := id C0
  intro x1 σ H locs ls h hP hD hS hl
  unfold b_X12_onePart_2 at h
  refine lv_iload_n hx hb dX12_onePart_2 rfl (lv_at hl 1 rfl) ?_
  refine lv_if_eq (tgt := 146) hx hb dX12_onePart_3 (by decide) (fun hc => ?_) (fun hc => ?_)
  · have h := h.1 hc
    exact t_X12_onePart_146 C0 hK N  σ _ _ _ h hP hD hS (lv_sub hl [0] rfl)
  · have h := h.2 hc
    refine lv_aload_n hx hb dX12_onePart_6 rfl (lv_at hl 0 rfl) ?_
    refine mg_0_5 hx hb hts hown hK hP mw_838 dX12_onePart_7 ?_
    refine lv_if_ne (tgt := 146) hx hb dX12_onePart_10 (by decide) (fun hc => ?_) (fun hc => ?_)
    · have h := h.2 hc
      exact t_X12_onePart_146 C0 hK N  σ _ _ _ h hP hD hS (lv_sub hl [0] rfl)
    · have h := h.1 hc
      refine lv_aload_n hx hb dX12_onePart_13 rfl (lv_at hl 0 rfl) ?_
      refine k_X12_look N ⟨hx, hb, hml, hown, hts⟩ mw_929 ⟨Nat.le_of_ble_eq_true rfl, Nat.le_of_ble_eq_true rfl⟩ h hK hP hD hS hl.1 (rest := []) (Nat.le_of_ble_eq_true rfl) ⟨Nat.le_of_ble_eq_true rfl, Nat.le_of_ble_eq_true rfl⟩ dX12_onePart_14 (fun r1 τ2 H locs h hP hD hS => ?_)
      refine lv_istore_n (lv' := [(2, .int r1), (0, .ref (ad 0)), (1, .int x1)]) hx hb dX12_onePart_17 rfl hl (by decide) rfl (fun ls hl => ?_)
      refine lv_iload_n hx hb dX12_onePart_18 rfl (lv_at hl 0 rfl) ?_
      refine lv_bipush (v := (40 : Int32)) hx hb dX12_onePart_19 (by decide) ?_
      refine lv_icmp_ne (tgt := 47) hx hb dX12_onePart_21 (by decide) (fun hc => ?_) (fun hc => ?_)
      · have h := h.2 hc
        refine lv_aload_n hx hb dX12_onePart_47 rfl (lv_at hl 1 rfl) ?_
        refine lv_aload_n hx hb dX12_onePart_48 rfl (lv_at hl 1 rfl) ?_
        refine mg_0_26 hx hb hts hown hK hP mw_859 dX12_onePart_49 ?_
        refine k_X12_isHere N (w := 17) (by decide) ⟨hx, hb, hml, hown, hts⟩ mw_938 ⟨Nat.le_of_ble_eq_true rfl, Nat.le_of_ble_eq_true rfl⟩ h hK hP hD hS hl.1 (rest := []) (Nat.le_of_ble_eq_true rfl) ⟨Nat.le_of_ble_eq_true rfl, Nat.le_of_ble_eq_true rfl⟩ dX12_onePart_52 (fun r3 τ4 H locs h hP hD hS => ?_)
        refine lv_if_ne (tgt := 69) hx hb dX12_onePart_55 (by decide) (fun hc => ?_) (fun hc => ?_)
        · have h := h.2 hc
          exact t_X12_onePart_69 C0 hK N hk_2 x1 τ4 _ _ _ h hP hD hS (lv_sub hl [1, 2] rfl)
        · have h := h.1 hc
          refine lv_aload_n hx hb dX12_onePart_58 rfl (lv_at hl 1 rfl) ?_
          refine lv_aload_n hx hb dX12_onePart_59 rfl (lv_at hl 1 rfl) ?_
          refine mg_0_27 hx hb hts hown hK hP mw_860 dX12_onePart_60 ?_
          refine k_X12_isHere N (w := 18) (by decide) ⟨hx, hb, hml, hown, hts⟩ mw_938 ⟨Nat.le_of_ble_eq_true rfl, Nat.le_of_ble_eq_true rfl⟩ h hK hP hD hS hl.1 (rest := []) (Nat.le_of_ble_eq_true rfl) ⟨Nat.le_of_ble_eq_true rfl, Nat.le_of_ble_eq_true rfl⟩ dX12_onePart_63 (fun r5 τ6 H locs h hP hD hS => ?_)
          refine lv_if_eq (tgt := 141) hx hb dX12_onePart_66 (by decide) (fun hc => ?_) (fun hc => ?_)
          · have h := h.1 hc
            refine lv_iconst (v := (0 : Int32)) hx hb dX12_onePart_141 (by decide) ?_
            refine lv_istore_n (lv' := [(1, .int (0 : Int32)), (2, .int r1), (0, .ref (ad 0))]) hx hb dX12_onePart_142 rfl hl (by decide) rfl (fun ls hl => ?_)
            refine lv_goto (tgt := 2) hx hb dX12_onePart_143 (by decide) ?_
            exact hk_2 (0 : Int32) τ6 _ _ _ h hP hD hS (lv_sub hl [2, 0] rfl)
          · have h := h.2 hc
            exact t_X12_onePart_69 C0 hK N hk_2 x1 τ6 _ _ _ h hP hD hS (lv_sub hl [1, 2] rfl)
      · have h := h.1 hc
        refine lv_aload_n hx hb dX12_onePart_24 rfl (lv_at hl 1 rfl) ?_
        refine lv_bipush (v := (20 : Int32)) hx hb dX12_onePart_25 (by decide) ?_
        refine lv_aload_n hx hb dX12_onePart_27 rfl (lv_at hl 1 rfl) ?_
        refine mg_0_2 hx hb hts hown hK hP mw_835 dX12_onePart_28 ?_
        refine k_X12_opens N ⟨hx, hb, hml, hown, hts⟩ mw_982 ⟨Nat.le_of_ble_eq_true rfl, Nat.le_of_ble_eq_true rfl⟩ h hK hP hD hS hl.1 (rest := []) (Nat.le_of_ble_eq_true rfl) ⟨Nat.le_of_ble_eq_true rfl, Nat.le_of_ble_eq_true rfl⟩ dX12_onePart_31 (fun τ8 H locs h hP hD hS => ?_)
        refine lv_aload_n hx hb dX12_onePart_34 rfl (lv_at hl 1 rfl) ?_
        refine lv_dup hx hb dX12_onePart_35 rfl ?_
        refine mg_0_2 hx hb hts hown hK hP mw_835 dX12_onePart_36 ?_
        refine lv_iconst (v := (1 : Int32)) hx hb dX12_onePart_39 (by decide) ?_
        refine lv_iadd hx hb dX12_onePart_40 ?_
        refine mp_0_2 hx hb hts hown hK hP hD hS mw_835 dX12_onePart_41 (fun τ9 H locs eτ9 hP hD hS => ?_)
        have h := h τ9 eτ9
        refine lv_goto (tgt := 143) hx hb dX12_onePart_44 (by decide) ?_
        refine lv_goto (tgt := 2) hx hb dX12_onePart_143 (by decide) ?_
        exact hk_2 x1 τ9 _ _ _ h hP hD hS (lv_sub hl [1, 2] rfl)
set_option maxHeartbeats 4000000 in
set_option maxRecDepth 100000 in
theorem t_X12_onePart_2 (C0 : zCx p s m meth c args RX12 cX12_onePart 5 none vs_X12_onePart) (hK : va_K (dC, dI) vwCl (m_ty cI cJ cC) s) (N : Nat) {Q : zSt → Prop} : ∀ (f : Nat) (x1 : Int32) (σ : zSt) (H : Heap) (locs : List Loc) (ls : Array Slot), w_X12_onePart_2 N  Q f x1 σ → va_P (dC, dI) vwCl (m_W ad cI cJ cC σ) H → va_D (zAW m_n ad s.heap.size) (m_W ad cI cJ cC σ) → va_S (zAW m_n ad s.heap.size) s.heap H locs → lv_has ls 5 [(0, .ref (ad 0)), (1, .int x1)] → W p l e rm_X12_onePart s m args below meth c H locs 0 0 (MQ below (zQv (dC, dI) (m_ty cI cJ cC) (m_W ad cI cJ cC) (zAW m_n ad s.heap.size) Q) args s 0 0 (zAW m_n ad s.heap.size)) (F0 m 2 ls []) := by
  intro f
  induction f with
  | zero => intro x1 σ H locs ls h; exact h.elim
  | succ f ih =>
    intro x1 σ H locs ls h hP hD hS hl
    exact tb_X12_onePart_2 C0 hK N  (k_2 := w_X12_onePart_2 N  Q f) ih x1 σ H locs ls h hP hD hS hl
set_option maxHeartbeats 4000000 in
set_option maxRecDepth 100000 in
theorem t_X12_onePart_0 (C0 : zCx p s m meth c args RX12 cX12_onePart 5 none vs_X12_onePart) (hK : va_K (dC, dI) vwCl (m_ty cI cJ cC) s) (N : Nat) {Q : zSt → Prop} : ∀  (σ : zSt) (H : Heap) (locs : List Loc) (ls : Array Slot), w_X12_onePart N  σ Q → va_P (dC, dI) vwCl (m_W ad cI cJ cC σ) H → va_D (zAW m_n ad s.heap.size) (m_W ad cI cJ cC σ) → va_S (zAW m_n ad s.heap.size) s.heap H locs → lv_has ls 5 [(0, .ref (ad 0))] → W p l e rm_X12_onePart s m args below meth c H locs 0 0 (MQ below (zQv (dC, dI) (m_ty cI cJ cC) (m_W ad cI cJ cC) (zAW m_n ad s.heap.size) Q) args s 0 0 (zAW m_n ad s.heap.size)) (F0 m 0 ls []) := by
  obtain ⟨hx, hb, hml, hr, hown, hts, hlocks⟩ := id C0
  intro  σ H locs ls h hP hD hS hl
  unfold w_X12_onePart at h
  refine lv_iconst (v := (1 : Int32)) hx hb dX12_onePart_0 (by decide) ?_
  refine lv_istore_n (lv' := [(1, .int (1 : Int32)), (0, .ref (ad 0))]) hx hb dX12_onePart_1 rfl hl (by decide) rfl (fun ls hl => ?_)
  exact t_X12_onePart_2 C0 hK N  N (1 : Int32) σ _ _ _ h hP hD hS (lv_sub hl [1, 0] rfl)
set_option maxHeartbeats 4000000 in
set_option maxRecDepth 100000 in
theorem c_X12_onePart (N : Nat) (l : Launch) (dC : Nat → ClassId) (dI : Nat → Nat → Nat) (ad : Nat → Nat) (cI cJ cC : ClassId) (sz : Nat) (σ : zSt)  (Q : zSt → Prop) (h : w_X12_onePart N  σ Q) : Met l yX12_onePart vs_X12_onePart rm_X12_onePart (va_Pc [.ref (ad 0)] (zPc (dC, dI) (m_ty cI cJ cC) (m_W ad cI cJ cC) sz σ)) (zQv (dC, dI) (m_ty cI cJ cC) (m_W ad cI cJ cC) (zAW m_n ad sz) Q) 0 0 (zAW m_n ad sz) := by
  refine Met.ofW (cc := cX12_onePart) (maxL := 5) (ret := none) (by decide) rfl ?_
  intro p e s m args below meth c s₁ B hml hv
  obtain ⟨rfl, hsz, hP, hK, hD0⟩ := hv
  subst hsz
  have C0 : zCx p s m meth c _ RX12 cX12_onePart 5 none vs_X12_onePart := ⟨B.exec, B.bytes, hml, B.returns, findClass_of_methodNamed B.named, atoms_spec (ws := vs_X12_onePart) B.pre, B.notSynchronized⟩
  have hD := m_D0 (n0 := s.heap.size) hD0
  have hl := lv_entry ([.ref (ad 0)]) (n := 5) (Nat.le_of_ble_eq_true rfl)
  rw [lg_entry_eq]
  generalize (lg_sl ([.ref (ad 0)]) ++ List.replicate (5 - (lg_sl ([.ref (ad 0)])).length) Slot.unset).toArray = ls at hl ⊢
  exact t_X12_onePart_0 C0 hK N  σ _ _ ls h hP hD va_S.rf hl
theorem k_X12_onePart (N : Nat) {R : Room} {H : Heap} {locs : List Loc} {cells slots : Nat} {Q2 : State → Prop} {cc : ByteArray} {nL pc index : Nat} {ls : Array Slot} {rest : List Value} {own : String} {c0 : Cond} {σ : zSt}  {Q : zSt → Prop} (S0 : CallFix p m c cc nL s args (c0 :: zT) own) (hml : Cond.methodLink own index yX12_onePart ∈ zT) (hR : rm_X12_onePart.frames + 1 ≤ R.frames ∧ 8 + (5 + 11) + rm_X12_onePart.locals ≤ R.locals) (h : w_X12_onePart N  σ Q) (hK : va_K (dC, dI) vwCl (m_ty cI cJ cC) s) (hP : va_P (dC, dI) vwCl (m_W ad cI cJ cC σ) H) (hD : va_D (zAW m_n ad s.heap.size) (m_W ad cI cJ cC σ)) (hS : va_S (zAW m_n ad s.heap.size) s.heap H locs) (hsz : ls.size = nL) (hW : (rest.map fun v => v.category).sum ≤ 8) (hcs : cells ≤ R.cells ∧ slots ≤ R.slots) (hdg : decode cc pc = .ok (.invokevirtual index, 3)) (kk : ∀ (τ : zSt) (H1 : Heap) (locs1 : List Loc), Q τ → va_P (dC, dI) vwCl (m_W ad cI cJ cC τ) H1 → va_D (zAW m_n ad s.heap.size) (m_W ad cI cJ cC τ) → va_S (zAW m_n ad s.heap.size) s.heap H1 locs1 → W p l e R s m args below meth c H1 locs1 cells slots Q2 (F0 m (pc + 3) ls (rest))) : W p l e R s m args below meth c H locs cells slots Q2 (F0 m pc ls (.ref (ad 0) :: rest)) :=
  zcv_v (T := TX12) (N' := 83) (k := 0) (ci := 12) (fs := m_f0 ad σ) [] S0 (c_X12_onePart N l dC dI ad cI cJ cC H.size σ  Q h) (cw_X12_onePart S0.2.2.2.2 hml rfl rfl hR) rfl rfl hK hP hD hS rfl hsz hW rfl hcs hdg kk
end q15
section q15
def w_X12_isOn (N : Nat) (x1 : Int32) (σ : zSt) (Q : Int32 → zSt → Prop) : Prop :=
  ((σ.1 10) ≤ 0 → Q (0 : Int32) σ) ∧ (¬ (σ.1 10) ≤ 0 → (vp_in ((σ.1 10) - (1 : Int32)) 900) ∧ (((σ.2.2.1 11 ((σ.1 10) - (1 : Int32)).toNatClampNeg) = x1 → Q (1 : Int32) σ) ∧ (¬ (σ.2.2.1 11 ((σ.1 10) - (1 : Int32)).toNatClampNeg) = x1 → Q (0 : Int32) σ)))
variable {p : Program} {l : Launch} {e : Env} {s : State} {m : MethodId} {args : Array Value} {below : List Frame} {meth : Method} {c : Code} {dC : Nat → ClassId} {dI : Nat → Nat → Nat} {ad : Nat → Nat} {cI cJ cC : ClassId}
set_option maxHeartbeats 4000000 in
set_option maxRecDepth 100000 in
theorem t_X12_isOn_0 (C0 : zCx p s m meth c args RX12 cX12_isOn 2 (some .boolean) vs_X12_isOn) (hK : va_K (dC, dI) vwCl (m_ty cI cJ cC) s) (N : Nat) {Q : Int32 → zSt → Prop} : ∀ (x1 : Int32) (σ : zSt) (H : Heap) (locs : List Loc) (ls : Array Slot), w_X12_isOn N x1 σ Q → va_P (dC, dI) vwCl (m_W ad cI cJ cC σ) H → va_D (zAW m_n ad s.heap.size) (m_W ad cI cJ cC σ) → va_S (zAW m_n ad s.heap.size) s.heap H locs → lv_has ls 2 [(0, .ref (ad 0)), (1, .int x1)] → W p l e rm_X12_isOn s m args below meth c H locs 0 0 (MQ below (zQi (dC, dI) (m_ty cI cJ cC) (m_W ad cI cJ cC) (zAW m_n ad s.heap.size) Q) args s 0 0 (zAW m_n ad s.heap.size)) (F0 m 0 ls []) := by
  obtain ⟨hx, hb, hml, hr, hown, hts, hlocks⟩ := id C0
  intro x1 σ H locs ls h hP hD hS hl
  unfold w_X12_isOn at h
  refine lv_aload_n hx hb dX12_isOn_0 rfl (lv_at hl 0 rfl) ?_
  refine mg_0_43 hx hb hts hown hK hP mw_876 dX12_isOn_1 ?_
  refine lv_if_le (tgt := 26) hx hb dX12_isOn_4 (by decide) (fun hc => ?_) (fun hc => ?_)
  · have h := h.1 hc
    refine lv_iconst (v := (0 : Int32)) hx hb dX12_isOn_26 (by decide) ?_
    exact zret_z hx hb hr hlocks hK hP hD hS zb_0 h dX12_isOn_27
  · have h := h.2 hc
    refine lv_aload_n hx hb dX12_isOn_7 rfl (lv_at hl 0 rfl) ?_
    refine mg_0_42 hx hb hts hown hK hP mw_875 dX12_isOn_8 ?_
    refine lv_aload_n hx hb dX12_isOn_11 rfl (lv_at hl 0 rfl) ?_
    refine mg_0_43 hx hb hts hown hK hP mw_876 dX12_isOn_12 ?_
    refine lv_iconst (v := (1 : Int32)) hx hb dX12_isOn_15 (by decide) ?_
    refine lv_isub hx hb dX12_isOn_16 ?_
    refine ma_14 hx hb hK hP h.1 rfl dX12_isOn_17 ?_
    have h := h.2
    refine lv_iload_n hx hb dX12_isOn_18 rfl (lv_at hl 1 rfl) ?_
    refine lv_icmp_ne (tgt := 26) hx hb dX12_isOn_19 (by decide) (fun hc => ?_) (fun hc => ?_)
    · have h := h.2 hc
      refine lv_iconst (v := (0 : Int32)) hx hb dX12_isOn_26 (by decide) ?_
      exact zret_z hx hb hr hlocks hK hP hD hS zb_0 h dX12_isOn_27
    · have h := h.1 hc
      refine lv_iconst (v := (1 : Int32)) hx hb dX12_isOn_22 (by decide) ?_
      refine lv_goto (tgt := 27) hx hb dX12_isOn_23 (by decide) ?_
      exact zret_z hx hb hr hlocks hK hP hD hS zb_1 h dX12_isOn_27
set_option maxHeartbeats 4000000 in
set_option maxRecDepth 100000 in
theorem c_X12_isOn (N : Nat) (l : Launch) (dC : Nat → ClassId) (dI : Nat → Nat → Nat) (ad : Nat → Nat) (cI cJ cC : ClassId) (sz : Nat) (σ : zSt) (x1 : Int32) (Q : Int32 → zSt → Prop) (h : w_X12_isOn N x1 σ Q) : Met l yX12_isOn vs_X12_isOn rm_X12_isOn (va_Pc [.ref (ad 0), .int x1] (zPc (dC, dI) (m_ty cI cJ cC) (m_W ad cI cJ cC) sz σ)) (zQi (dC, dI) (m_ty cI cJ cC) (m_W ad cI cJ cC) (zAW m_n ad sz) Q) 0 0 (zAW m_n ad sz) := by
  refine Met.ofW (cc := cX12_isOn) (maxL := 2) (ret := (some .boolean)) (by decide) rfl ?_
  intro p e s m args below meth c s₁ B hml hv
  obtain ⟨rfl, hsz, hP, hK, hD0⟩ := hv
  subst hsz
  have C0 : zCx p s m meth c _ RX12 cX12_isOn 2 (some .boolean) vs_X12_isOn := ⟨B.exec, B.bytes, hml, B.returns, findClass_of_methodNamed B.named, atoms_spec (ws := vs_X12_isOn) B.pre, B.notSynchronized⟩
  have hD := m_D0 (n0 := s.heap.size) hD0
  have hl := lv_entry ([.ref (ad 0), .int x1]) (n := 2) (Nat.le_of_ble_eq_true rfl)
  rw [lg_entry_eq]
  generalize (lg_sl ([.ref (ad 0), .int x1]) ++ List.replicate (2 - (lg_sl ([.ref (ad 0), .int x1])).length) Slot.unset).toArray = ls at hl ⊢
  exact t_X12_isOn_0 C0 hK N x1 σ _ _ ls h hP hD va_S.rf hl
theorem k_X12_isOn (N : Nat) {R : Room} {H : Heap} {locs : List Loc} {cells slots : Nat} {Q2 : State → Prop} {cc : ByteArray} {nL pc index : Nat} {ls : Array Slot} {rest : List Value} {own : String} {c0 : Cond} {σ : zSt} {x1 : Int32} {Q : Int32 → zSt → Prop} (S0 : CallFix p m c cc nL s args (c0 :: zT) own) (hml : Cond.methodLink own index yX12_isOn ∈ zT) (hR : rm_X12_isOn.frames + 1 ≤ R.frames ∧ 8 + (2 + 11) + rm_X12_isOn.locals ≤ R.locals) (h : w_X12_isOn N x1 σ Q) (hK : va_K (dC, dI) vwCl (m_ty cI cJ cC) s) (hP : va_P (dC, dI) vwCl (m_W ad cI cJ cC σ) H) (hD : va_D (zAW m_n ad s.heap.size) (m_W ad cI cJ cC σ)) (hS : va_S (zAW m_n ad s.heap.size) s.heap H locs) (hsz : ls.size = nL) (hW : (rest.map fun v => v.category).sum ≤ 8) (hcs : cells ≤ R.cells ∧ slots ≤ R.slots) (hdg : decode cc pc = .ok (.invokevirtual index, 3)) (kk : ∀ (r : Int32) (τ : zSt) (H1 : Heap) (locs1 : List Loc), Q r τ → va_P (dC, dI) vwCl (m_W ad cI cJ cC τ) H1 → va_D (zAW m_n ad s.heap.size) (m_W ad cI cJ cC τ) → va_S (zAW m_n ad s.heap.size) s.heap H1 locs1 → W p l e R s m args below meth c H1 locs1 cells slots Q2 (F0 m (pc + 3) ls (.int r :: rest))) : W p l e R s m args below meth c H locs cells slots Q2 (F0 m pc ls (.int x1 :: .ref (ad 0) :: rest)) :=
  zcv_i (T := TX12) (N' := 83) (k := 0) (ci := 12) (fs := m_f0 ad σ) [.int x1] S0 (c_X12_isOn N l dC dI ad cI cJ cC H.size σ x1 Q h) (cw_X12_isOn S0.2.2.2.2 hml rfl rfl hR) rfl rfl hK hP hD hS rfl hsz hW rfl hcs hdg kk
end q15
section q15
def w_X12_isMark (N : Nat) (x1 : Int32) (σ : zSt) (Q : Int32 → zSt → Prop) : Prop :=
  (x1 < (20 : Int32) → Q (0 : Int32) σ) ∧ (¬ x1 < (20 : Int32) → ((24 : Int32) < x1 → Q (0 : Int32) σ) ∧ (¬ (24 : Int32) < x1 → Q (1 : Int32) σ))
variable {p : Program} {l : Launch} {e : Env} {s : State} {m : MethodId} {args : Array Value} {below : List Frame} {meth : Method} {c : Code} {dC : Nat → ClassId} {dI : Nat → Nat → Nat} {ad : Nat → Nat} {cI cJ cC : ClassId}
set_option maxHeartbeats 4000000 in
set_option maxRecDepth 100000 in
theorem t_X12_isMark_0 (C0 : zCx p s m meth c args RX12 cX12_isMark 2 (some .boolean) vs_X12_isMark) (hK : va_K (dC, dI) vwCl (m_ty cI cJ cC) s) (N : Nat) {Q : Int32 → zSt → Prop} : ∀ (x1 : Int32) (σ : zSt) (H : Heap) (locs : List Loc) (ls : Array Slot), w_X12_isMark N x1 σ Q → va_P (dC, dI) vwCl (m_W ad cI cJ cC σ) H → va_D (zAW m_n ad s.heap.size) (m_W ad cI cJ cC σ) → va_S (zAW m_n ad s.heap.size) s.heap H locs → lv_has ls 2 [(0, .ref (ad 0)), (1, .int x1)] → W p l e rm_X12_isMark s m args below meth c H locs 0 0 (MQ below (zQi (dC, dI) (m_ty cI cJ cC) (m_W ad cI cJ cC) (zAW m_n ad s.heap.size) Q) args s 0 0 (zAW m_n ad s.heap.size)) (F0 m 0 ls []) := by
  obtain ⟨hx, hb, hml, hr, hown, hts, hlocks⟩ := id C0
  intro x1 σ H locs ls h hP hD hS hl
  unfold w_X12_isMark at h
  refine lv_iload_n hx hb dX12_isMark_0 rfl (lv_at hl 1 rfl) ?_
  refine lv_bipush (v := (20 : Int32)) hx hb dX12_isMark_1 (by decide) ?_
  refine lv_icmp_lt (tgt := 16) hx hb dX12_isMark_3 (by decide) (fun hc => ?_) (fun hc => ?_)
  · have h := h.1 hc
    refine lv_iconst (v := (0 : Int32)) hx hb dX12_isMark_16 (by decide) ?_
    exact zret_z hx hb hr hlocks hK hP hD hS zb_0 h dX12_isMark_17
  · have h := h.2 hc
    refine lv_iload_n hx hb dX12_isMark_6 rfl (lv_at hl 1 rfl) ?_
    refine lv_bipush (v := (24 : Int32)) hx hb dX12_isMark_7 (by decide) ?_
    refine lv_icmp_gt (tgt := 16) hx hb dX12_isMark_9 (by decide) (fun hc => ?_) (fun hc => ?_)
    · have h := h.1 hc
      refine lv_iconst (v := (0 : Int32)) hx hb dX12_isMark_16 (by decide) ?_
      exact zret_z hx hb hr hlocks hK hP hD hS zb_0 h dX12_isMark_17
    · have h := h.2 hc
      refine lv_iconst (v := (1 : Int32)) hx hb dX12_isMark_12 (by decide) ?_
      refine lv_goto (tgt := 17) hx hb dX12_isMark_13 (by decide) ?_
      exact zret_z hx hb hr hlocks hK hP hD hS zb_1 h dX12_isMark_17
set_option maxHeartbeats 4000000 in
set_option maxRecDepth 100000 in
theorem c_X12_isMark (N : Nat) (l : Launch) (dC : Nat → ClassId) (dI : Nat → Nat → Nat) (ad : Nat → Nat) (cI cJ cC : ClassId) (sz : Nat) (σ : zSt) (x1 : Int32) (Q : Int32 → zSt → Prop) (h : w_X12_isMark N x1 σ Q) : Met l yX12_isMark vs_X12_isMark rm_X12_isMark (va_Pc [.ref (ad 0), .int x1] (zPc (dC, dI) (m_ty cI cJ cC) (m_W ad cI cJ cC) sz σ)) (zQi (dC, dI) (m_ty cI cJ cC) (m_W ad cI cJ cC) (zAW m_n ad sz) Q) 0 0 (zAW m_n ad sz) := by
  refine Met.ofW (cc := cX12_isMark) (maxL := 2) (ret := (some .boolean)) (by decide) rfl ?_
  intro p e s m args below meth c s₁ B hml hv
  obtain ⟨rfl, hsz, hP, hK, hD0⟩ := hv
  subst hsz
  have C0 : zCx p s m meth c _ RX12 cX12_isMark 2 (some .boolean) vs_X12_isMark := ⟨B.exec, B.bytes, hml, B.returns, findClass_of_methodNamed B.named, atoms_spec (ws := vs_X12_isMark) B.pre, B.notSynchronized⟩
  have hD := m_D0 (n0 := s.heap.size) hD0
  have hl := lv_entry ([.ref (ad 0), .int x1]) (n := 2) (Nat.le_of_ble_eq_true rfl)
  rw [lg_entry_eq]
  generalize (lg_sl ([.ref (ad 0), .int x1]) ++ List.replicate (2 - (lg_sl ([.ref (ad 0), .int x1])).length) Slot.unset).toArray = ls at hl ⊢
  exact t_X12_isMark_0 C0 hK N x1 σ _ _ ls h hP hD va_S.rf hl
theorem k_X12_isMark (N : Nat) {R : Room} {H : Heap} {locs : List Loc} {cells slots : Nat} {Q2 : State → Prop} {cc : ByteArray} {nL pc index : Nat} {ls : Array Slot} {rest : List Value} {own : String} {c0 : Cond} {σ : zSt} {x1 : Int32} {Q : Int32 → zSt → Prop} (S0 : CallFix p m c cc nL s args (c0 :: zT) own) (hml : Cond.methodLink own index yX12_isMark ∈ zT) (hR : rm_X12_isMark.frames + 1 ≤ R.frames ∧ 8 + (2 + 11) + rm_X12_isMark.locals ≤ R.locals) (h : w_X12_isMark N x1 σ Q) (hK : va_K (dC, dI) vwCl (m_ty cI cJ cC) s) (hP : va_P (dC, dI) vwCl (m_W ad cI cJ cC σ) H) (hD : va_D (zAW m_n ad s.heap.size) (m_W ad cI cJ cC σ)) (hS : va_S (zAW m_n ad s.heap.size) s.heap H locs) (hsz : ls.size = nL) (hW : (rest.map fun v => v.category).sum ≤ 8) (hcs : cells ≤ R.cells ∧ slots ≤ R.slots) (hdg : decode cc pc = .ok (.invokevirtual index, 3)) (kk : ∀ (r : Int32) (τ : zSt) (H1 : Heap) (locs1 : List Loc), Q r τ → va_P (dC, dI) vwCl (m_W ad cI cJ cC τ) H1 → va_D (zAW m_n ad s.heap.size) (m_W ad cI cJ cC τ) → va_S (zAW m_n ad s.heap.size) s.heap H1 locs1 → W p l e R s m args below meth c H1 locs1 cells slots Q2 (F0 m (pc + 3) ls (.int r :: rest))) : W p l e R s m args below meth c H locs cells slots Q2 (F0 m pc ls (.int x1 :: .ref (ad 0) :: rest)) :=
  zcv_i (T := TX12) (N' := 83) (k := 0) (ci := 12) (fs := m_f0 ad σ) [.int x1] S0 (c_X12_isMark N l dC dI ad cI cJ cC H.size σ x1 Q h) (cw_X12_isMark S0.2.2.2.2 hml rfl rfl hR) rfl rfl hK hP hD hS rfl hsz hW rfl hcs hdg kk
end q15
section q15
def b_X12_mark_34 (N : Nat) (Q : Int32 → zSt → Prop) (x1 : Int32) (σ : zSt) : Prop :=
  (x1 < (σ.1 13) → Q (-1 : Int32) σ) ∧ (¬ x1 < (σ.1 13) → (vp_in x1 900) ∧ (Q (σ.2.2.1 11 x1.toNatClampNeg) σ))
def b_X12_mark_7 (N : Nat) (k_7 : Int32 → zSt → Prop) (Q : Int32 → zSt → Prop) (x1 : Int32) (σ : zSt) : Prop :=
  (x1 < (σ.1 13) → b_X12_mark_34 N Q x1 σ) ∧ (¬ x1 < (σ.1 13) → (vp_in x1 900) ∧ (w_X12_isMark N (σ.2.2.1 11 x1.toNatClampNeg) σ (fun r1 τ2 => (r1 = 0 → ∀ v3 : Int32, v3 = x1 + (-1 : Int32) → k_7 v3 τ2) ∧ (¬ r1 = 0 → b_X12_mark_34 N Q x1 τ2))))
def w_X12_mark_7 (N : Nat) (Q : Int32 → zSt → Prop) : Nat → Int32 → zSt → Prop
  | 0 => fun _ _ => False
  | f + 1 => b_X12_mark_7 N (w_X12_mark_7 N  Q f) Q
def w_X12_mark (N : Nat)  (σ : zSt) (Q : Int32 → zSt → Prop) : Prop :=
  ∀ v1 : Int32, v1 = (σ.1 10) - (1 : Int32) → w_X12_mark_7 N Q N v1 σ
variable {p : Program} {l : Launch} {e : Env} {s : State} {m : MethodId} {args : Array Value} {below : List Frame} {meth : Method} {c : Code} {dC : Nat → ClassId} {dI : Nat → Nat → Nat} {ad : Nat → Nat} {cI cJ cC : ClassId}
set_option maxHeartbeats 4000000 in
set_option maxRecDepth 100000 in
theorem t_X12_mark_34 (C0 : zCx p s m meth c args RX12 cX12_mark 2 (some .int) vs_X12_mark) (hK : va_K (dC, dI) vwCl (m_ty cI cJ cC) s) (N : Nat) {Q : Int32 → zSt → Prop} : ∀ (x1 : Int32) (σ : zSt) (H : Heap) (locs : List Loc) (ls : Array Slot), b_X12_mark_34 N  Q x1 σ → va_P (dC, dI) vwCl (m_W ad cI cJ cC σ) H → va_D (zAW m_n ad s.heap.size) (m_W ad cI cJ cC σ) → va_S (zAW m_n ad s.heap.size) s.heap H locs → lv_has ls 2 [(0, .ref (ad 0)), (1, .int x1)] → W p l e rm_X12_mark s m args below meth c H locs 0 0 (MQ below (zQi (dC, dI) (m_ty cI cJ cC) (m_W ad cI cJ cC) (zAW m_n ad s.heap.size) Q) args s 0 0 (zAW m_n ad s.heap.size)) (F0 m 34 ls []) := by
  obtain ⟨hx, hb, hml, hr, hown, hts, hlocks⟩ := id C0
  intro x1 σ H locs ls h hP hD hS hl
  unfold b_X12_mark_34 at h
  refine lv_iload_n hx hb dX12_mark_34 rfl (lv_at hl 1 rfl) ?_
  refine lv_aload_n hx hb dX12_mark_35 rfl (lv_at hl 0 rfl) ?_
  refine mg_0_46 hx hb hts hown hK hP mw_879 dX12_mark_36 ?_
  refine lv_icmp_lt (tgt := 51) hx hb dX12_mark_39 (by decide) (fun hc => ?_) (fun hc => ?_)
  · have h := h.1 hc
    refine lv_iconst (v := (-1 : Int32)) hx hb dX12_mark_51 (by decide) ?_
    exact zret_i hx hb hr hlocks hK hP hD hS h dX12_mark_52
  · have h := h.2 hc
    refine lv_aload_n hx hb dX12_mark_42 rfl (lv_at hl 0 rfl) ?_
    refine mg_0_42 hx hb hts hown hK hP mw_875 dX12_mark_43 ?_
    refine lv_iload_n hx hb dX12_mark_46 rfl (lv_at hl 1 rfl) ?_
    refine ma_14 hx hb hK hP h.1 rfl dX12_mark_47 ?_
    have h := h.2
    refine lv_goto (tgt := 52) hx hb dX12_mark_48 (by decide) ?_
    exact zret_i hx hb hr hlocks hK hP hD hS h dX12_mark_52
set_option maxHeartbeats 4000000 in
set_option maxRecDepth 100000 in
theorem tb_X12_mark_7 (C0 : zCx p s m meth c args RX12 cX12_mark 2 (some .int) vs_X12_mark) (hK : va_K (dC, dI) vwCl (m_ty cI cJ cC) s) (N : Nat) {Q : Int32 → zSt → Prop} {k_7 : Int32 → zSt → Prop} (hk_7 : ∀ (x1 : Int32) (σ : zSt) (H : Heap) (locs : List Loc) (ls : Array Slot), k_7 x1 σ → va_P (dC, dI) vwCl (m_W ad cI cJ cC σ) H → va_D (zAW m_n ad s.heap.size) (m_W ad cI cJ cC σ) → va_S (zAW m_n ad s.heap.size) s.heap H locs → lv_has ls 2 [(0, .ref (ad 0)), (1, .int x1)] → W p l e rm_X12_mark s m args below meth c H locs 0 0 (MQ below (zQi (dC, dI) (m_ty cI cJ cC) (m_W ad cI cJ cC) (zAW m_n ad s.heap.size) Q) args s 0 0 (zAW m_n ad s.heap.size)) (F0 m 7 ls [])) : ∀ (x1 : Int32) (σ : zSt) (H : Heap) (locs : List Loc) (ls : Array Slot), b_X12_mark_7 N k_7 Q x1 σ → va_P (dC, dI) vwCl (m_W ad cI cJ cC σ) H → va_D (zAW m_n ad s.heap.size) (m_W ad cI cJ cC σ) → va_S (zAW m_n ad s.heap.size) s.heap H locs → lv_has ls 2 [(0, .ref (ad 0)), (1, .int x1)] → W p l e rm_X12_mark s m args below meth c H locs 0 0 (MQ below (zQi (dC, dI) (m_ty cI cJ cC) (m_W ad cI cJ cC) (zAW m_n ad s.heap.size) Q) args s 0 0 (zAW m_n ad s.heap.size)) (F0 m 7 ls []) := by
  obtain ⟨hx, hb, hml, hr, hown, hts, hlocks⟩ := id C0
  intro x1 σ H locs ls h hP hD hS hl
  unfold b_X12_mark_7 at h
  refine lv_iload_n hx hb dX12_mark_7 rfl (lv_at hl 1 rfl) ?_
  refine lv_aload_n hx hb dX12_mark_8 rfl (lv_at hl 0 rfl) ?_
  refine mg_0_46 hx hb hts hown hK hP mw_879 dX12_mark_9 ?_
  refine lv_icmp_lt (tgt := 34) hx hb dX12_mark_12 (by decide) (fun hc => ?_) (fun hc => ?_)
  · have h := h.1 hc
    exact t_X12_mark_34 C0 hK N  x1 σ _ _ _ h hP hD hS (lv_sub hl [0, 1] rfl)
  · have h := h.2 hc
    refine lv_aload_n hx hb dX12_mark_15 rfl (lv_at hl 0 rfl) ?_
    refine lv_aload_n hx hb dX12_mark_16 rfl (lv_at hl 0 rfl) ?_
    refine mg_0_42 hx hb hts hown hK hP mw_875 dX12_mark_17 ?_
    refine lv_iload_n hx hb dX12_mark_20 rfl (lv_at hl 1 rfl) ?_
    refine ma_14 hx hb hK hP h.1 rfl dX12_mark_21 ?_
    have h := h.2
    refine k_X12_isMark N ⟨hx, hb, hml, hown, hts⟩ mw_1000 ⟨Nat.le_of_ble_eq_true rfl, Nat.le_of_ble_eq_true rfl⟩ h hK hP hD hS hl.1 (rest := []) (Nat.le_of_ble_eq_true rfl) ⟨Nat.le_of_ble_eq_true rfl, Nat.le_of_ble_eq_true rfl⟩ dX12_mark_22 (fun r1 τ2 H locs h hP hD hS => ?_)
    refine lv_if_ne (tgt := 34) hx hb dX12_mark_25 (by decide) (fun hc => ?_) (fun hc => ?_)
    · have h := h.2 hc
      exact t_X12_mark_34 C0 hK N  x1 τ2 _ _ _ h hP hD hS (lv_sub hl [0, 1] rfl)
    · have h := h.1 hc
      obtain ⟨v3, ev3⟩ : ∃ z : Int32, z = x1 + (-1 : Int32) := ⟨_, rfl⟩
      have h := h v3 ev3
      refine lv_iinc (v := v3) (lv' := [(1, .int v3), (0, .ref (ad 0))]) hx hb dX12_mark_28 hl (k := 1) rfl (by rw [ev3]; rfl) (by decide) rfl (fun ls hl => ?_)
      refine lv_goto (tgt := 7) hx hb dX12_mark_31 (by decide) ?_
      exact hk_7 v3 τ2 _ _ _ h hP hD hS (lv_sub hl [1, 0] rfl)
set_option maxHeartbeats 4000000 in
set_option maxRecDepth 100000 in
theorem t_X12_mark_7 (C0 : zCx p s m meth c args RX12 cX12_mark 2 (some .int) vs_X12_mark) (hK : va_K (dC, dI) vwCl (m_ty cI cJ cC) s) (N : Nat) {Q : Int32 → zSt → Prop} : ∀ (f : Nat) (x1 : Int32) (σ : zSt) (H : Heap) (locs : List Loc) (ls : Array Slot), w_X12_mark_7 N  Q f x1 σ → va_P (dC, dI) vwCl (m_W ad cI cJ cC σ) H → va_D (zAW m_n ad s.heap.size) (m_W ad cI cJ cC σ) → va_S (zAW m_n ad s.heap.size) s.heap H locs → lv_has ls 2 [(0, .ref (ad 0)), (1, .int x1)] → W p l e rm_X12_mark s m args below meth c H locs 0 0 (MQ below (zQi (dC, dI) (m_ty cI cJ cC) (m_W ad cI cJ cC) (zAW m_n ad s.heap.size) Q) args s 0 0 (zAW m_n ad s.heap.size)) (F0 m 7 ls []) := by
  intro f
  induction f with
  | zero => intro x1 σ H locs ls h; exact h.elim
  | succ f ih =>
    intro x1 σ H locs ls h hP hD hS hl
    exact tb_X12_mark_7 C0 hK N  (k_7 := w_X12_mark_7 N  Q f) ih x1 σ H locs ls h hP hD hS hl
set_option maxHeartbeats 4000000 in
set_option maxRecDepth 100000 in
theorem t_X12_mark_0 (C0 : zCx p s m meth c args RX12 cX12_mark 2 (some .int) vs_X12_mark) (hK : va_K (dC, dI) vwCl (m_ty cI cJ cC) s) (N : Nat) {Q : Int32 → zSt → Prop} : ∀  (σ : zSt) (H : Heap) (locs : List Loc) (ls : Array Slot), w_X12_mark N  σ Q → va_P (dC, dI) vwCl (m_W ad cI cJ cC σ) H → va_D (zAW m_n ad s.heap.size) (m_W ad cI cJ cC σ) → va_S (zAW m_n ad s.heap.size) s.heap H locs → lv_has ls 2 [(0, .ref (ad 0))] → W p l e rm_X12_mark s m args below meth c H locs 0 0 (MQ below (zQi (dC, dI) (m_ty cI cJ cC) (m_W ad cI cJ cC) (zAW m_n ad s.heap.size) Q) args s 0 0 (zAW m_n ad s.heap.size)) (F0 m 0 ls []) := by
  obtain ⟨hx, hb, hml, hr, hown, hts, hlocks⟩ := id C0
  intro  σ H locs ls h hP hD hS hl
  unfold w_X12_mark at h
  refine lv_aload_n hx hb dX12_mark_0 rfl (lv_at hl 0 rfl) ?_
  refine mg_0_43 hx hb hts hown hK hP mw_876 dX12_mark_1 ?_
  refine lv_iconst (v := (1 : Int32)) hx hb dX12_mark_4 (by decide) ?_
  refine lv_isub hx hb dX12_mark_5 ?_
  refine lv_topi (fun v1 ev1 => ?_)
  have h := h v1 ev1
  refine lv_istore_n (lv' := [(1, .int v1), (0, .ref (ad 0))]) hx hb dX12_mark_6 rfl hl (by decide) rfl (fun ls hl => ?_)
  exact t_X12_mark_7 C0 hK N  N v1 σ _ _ _ h hP hD hS (lv_sub hl [1, 0] rfl)
set_option maxHeartbeats 4000000 in
set_option maxRecDepth 100000 in
theorem c_X12_mark (N : Nat) (l : Launch) (dC : Nat → ClassId) (dI : Nat → Nat → Nat) (ad : Nat → Nat) (cI cJ cC : ClassId) (sz : Nat) (σ : zSt)  (Q : Int32 → zSt → Prop) (h : w_X12_mark N  σ Q) : Met l yX12_mark vs_X12_mark rm_X12_mark (va_Pc [.ref (ad 0)] (zPc (dC, dI) (m_ty cI cJ cC) (m_W ad cI cJ cC) sz σ)) (zQi (dC, dI) (m_ty cI cJ cC) (m_W ad cI cJ cC) (zAW m_n ad sz) Q) 0 0 (zAW m_n ad sz) := by
  refine Met.ofW (cc := cX12_mark) (maxL := 2) (ret := (some .int)) (by decide) rfl ?_
  intro p e s m args below meth c s₁ B hml hv
  obtain ⟨rfl, hsz, hP, hK, hD0⟩ := hv
  subst hsz
  have C0 : zCx p s m meth c _ RX12 cX12_mark 2 (some .int) vs_X12_mark := ⟨B.exec, B.bytes, hml, B.returns, findClass_of_methodNamed B.named, atoms_spec (ws := vs_X12_mark) B.pre, B.notSynchronized⟩
  have hD := m_D0 (n0 := s.heap.size) hD0
  have hl := lv_entry ([.ref (ad 0)]) (n := 2) (Nat.le_of_ble_eq_true rfl)
  rw [lg_entry_eq]
  generalize (lg_sl ([.ref (ad 0)]) ++ List.replicate (2 - (lg_sl ([.ref (ad 0)])).length) Slot.unset).toArray = ls at hl ⊢
  exact t_X12_mark_0 C0 hK N  σ _ _ ls h hP hD va_S.rf hl
theorem k_X12_mark (N : Nat) {R : Room} {H : Heap} {locs : List Loc} {cells slots : Nat} {Q2 : State → Prop} {cc : ByteArray} {nL pc index : Nat} {ls : Array Slot} {rest : List Value} {own : String} {c0 : Cond} {σ : zSt}  {Q : Int32 → zSt → Prop} (S0 : CallFix p m c cc nL s args (c0 :: zT) own) (hml : Cond.methodLink own index yX12_mark ∈ zT) (hR : rm_X12_mark.frames + 1 ≤ R.frames ∧ 8 + (2 + 11) + rm_X12_mark.locals ≤ R.locals) (h : w_X12_mark N  σ Q) (hK : va_K (dC, dI) vwCl (m_ty cI cJ cC) s) (hP : va_P (dC, dI) vwCl (m_W ad cI cJ cC σ) H) (hD : va_D (zAW m_n ad s.heap.size) (m_W ad cI cJ cC σ)) (hS : va_S (zAW m_n ad s.heap.size) s.heap H locs) (hsz : ls.size = nL) (hW : (rest.map fun v => v.category).sum ≤ 8) (hcs : cells ≤ R.cells ∧ slots ≤ R.slots) (hdg : decode cc pc = .ok (.invokevirtual index, 3)) (kk : ∀ (r : Int32) (τ : zSt) (H1 : Heap) (locs1 : List Loc), Q r τ → va_P (dC, dI) vwCl (m_W ad cI cJ cC τ) H1 → va_D (zAW m_n ad s.heap.size) (m_W ad cI cJ cC τ) → va_S (zAW m_n ad s.heap.size) s.heap H1 locs1 → W p l e R s m args below meth c H1 locs1 cells slots Q2 (F0 m (pc + 3) ls (.int r :: rest))) : W p l e R s m args below meth c H locs cells slots Q2 (F0 m pc ls (.ref (ad 0) :: rest)) :=
  zcv_i (T := TX12) (N' := 83) (k := 0) (ci := 12) (fs := m_f0 ad σ) [] S0 (c_X12_mark N l dC dI ad cI cJ cC H.size σ  Q h) (cw_X12_mark S0.2.2.2.2 hml rfl rfl hR) rfl rfl hK hP hD hS rfl hsz hW rfl hcs hdg kk
end q15
section q15
def b_X12_dropsToMark_0 (N : Nat) (k_0 : zSt → Prop) (Q : zSt → Prop)  (σ : zSt) : Prop :=
  ((σ.1 10) ≤ (σ.1 13) → Q σ) ∧ (¬ (σ.1 10) ≤ (σ.1 13) → (vp_in ((σ.1 10) - (1 : Int32)) 900) ∧ (w_X12_isMark N (σ.2.2.1 11 ((σ.1 10) - (1 : Int32)).toNatClampNeg) σ (fun r1 τ2 => (r1 = 0 → w_X12_drops N τ2 (fun τ4 => k_0 τ4)) ∧ (¬ r1 = 0 → Q τ2))))
def w_X12_dropsToMark_0 (N : Nat) (Q : zSt → Prop) : Nat → zSt → Prop
  | 0 => fun  _ => False
  | f + 1 => b_X12_dropsToMark_0 N (w_X12_dropsToMark_0 N  Q f) Q
def w_X12_dropsToMark (N : Nat)  (σ : zSt) (Q : zSt → Prop) : Prop := w_X12_dropsToMark_0 N Q N  σ
variable {p : Program} {l : Launch} {e : Env} {s : State} {m : MethodId} {args : Array Value} {below : List Frame} {meth : Method} {c : Code} {dC : Nat → ClassId} {dI : Nat → Nat → Nat} {ad : Nat → Nat} {cI cJ cC : ClassId}
set_option maxHeartbeats 4000000 in
set_option maxRecDepth 100000 in
theorem tb_X12_dropsToMark_0 (C0 : zCx p s m meth c args RX12 cX12_dropsToMark 1 none vs_X12_dropsToMark) (hK : va_K (dC, dI) vwCl (m_ty cI cJ cC) s) (N : Nat) {Q : zSt → Prop} {k_0 : zSt → Prop} (hk_0 : ∀  (σ : zSt) (H : Heap) (locs : List Loc) (ls : Array Slot), k_0  σ → va_P (dC, dI) vwCl (m_W ad cI cJ cC σ) H → va_D (zAW m_n ad s.heap.size) (m_W ad cI cJ cC σ) → va_S (zAW m_n ad s.heap.size) s.heap H locs → lv_has ls 1 [(0, .ref (ad 0))] → W p l e rm_X12_dropsToMark s m args below meth c H locs 0 0 (MQ below (zQv (dC, dI) (m_ty cI cJ cC) (m_W ad cI cJ cC) (zAW m_n ad s.heap.size) Q) args s 0 0 (zAW m_n ad s.heap.size)) (F0 m 0 ls [])) : ∀  (σ : zSt) (H : Heap) (locs : List Loc) (ls : Array Slot), b_X12_dropsToMark_0 N k_0 Q  σ → va_P (dC, dI) vwCl (m_W ad cI cJ cC σ) H → va_D (zAW m_n ad s.heap.size) (m_W ad cI cJ cC σ) → va_S (zAW m_n ad s.heap.size) s.heap H locs → lv_has ls 1 [(0, .ref (ad 0))] → W p l e rm_X12_dropsToMark s m args below meth c H locs 0 0 (MQ below (zQv (dC, dI) (m_ty cI cJ cC) (m_W ad cI cJ cC) (zAW m_n ad s.heap.size) Q) args s 0 0 (zAW m_n ad s.heap.size)) (F0 m 0 ls []) := by
  obtain ⟨hx, hb, hml, hr, hown, hts, hlocks⟩ := id C0
  intro  σ H locs ls h hP hD hS hl
  unfold b_X12_dropsToMark_0 at h
  refine lv_aload_n hx hb dX12_dropsToMark_0 rfl (lv_at hl 0 rfl) ?_
  refine mg_0_43 hx hb hts hown hK hP mw_876 dX12_dropsToMark_1 ?_
  refine lv_aload_n hx hb dX12_dropsToMark_4 rfl (lv_at hl 0 rfl) ?_
  refine mg_0_46 hx hb hts hown hK hP mw_879 dX12_dropsToMark_5 ?_
  refine lv_icmp_le (tgt := 36) hx hb dX12_dropsToMark_8 (by decide) (fun hc => ?_) (fun hc => ?_)
  · have h := h.1 hc
    exact zret_v hx hb hr hlocks hK hP hD hS h dX12_dropsToMark_36
  · have h := h.2 hc
    refine lv_aload_n hx hb dX12_dropsToMark_11 rfl (lv_at hl 0 rfl) ?_
    refine lv_aload_n hx hb dX12_dropsToMark_12 rfl (lv_at hl 0 rfl) ?_
    refine mg_0_42 hx hb hts hown hK hP mw_875 dX12_dropsToMark_13 ?_
    refine lv_aload_n hx hb dX12_dropsToMark_16 rfl (lv_at hl 0 rfl) ?_
    refine mg_0_43 hx hb hts hown hK hP mw_876 dX12_dropsToMark_17 ?_
    refine lv_iconst (v := (1 : Int32)) hx hb dX12_dropsToMark_20 (by decide) ?_
    refine lv_isub hx hb dX12_dropsToMark_21 ?_
    refine ma_14 hx hb hK hP h.1 rfl dX12_dropsToMark_22 ?_
    have h := h.2
    refine k_X12_isMark N ⟨hx, hb, hml, hown, hts⟩ mw_1000 ⟨Nat.le_of_ble_eq_true rfl, Nat.le_of_ble_eq_true rfl⟩ h hK hP hD hS hl.1 (rest := []) (Nat.le_of_ble_eq_true rfl) ⟨Nat.le_of_ble_eq_true rfl, Nat.le_of_ble_eq_true rfl⟩ dX12_dropsToMark_23 (fun r1 τ2 H locs h hP hD hS => ?_)
    refine lv_if_ne (tgt := 36) hx hb dX12_dropsToMark_26 (by decide) (fun hc => ?_) (fun hc => ?_)
    · have h := h.2 hc
      exact zret_v hx hb hr hlocks hK hP hD hS h dX12_dropsToMark_36
    · have h := h.1 hc
      refine lv_aload_n hx hb dX12_dropsToMark_29 rfl (lv_at hl 0 rfl) ?_
      refine k_X12_drops N ⟨hx, hb, hml, hown, hts⟩ mw_1006 ⟨Nat.le_of_ble_eq_true rfl, Nat.le_of_ble_eq_true rfl⟩ h hK hP hD hS hl.1 (rest := []) (Nat.le_of_ble_eq_true rfl) ⟨Nat.le_of_ble_eq_true rfl, Nat.le_of_ble_eq_true rfl⟩ dX12_dropsToMark_30 (fun τ4 H locs h hP hD hS => ?_)
      refine lv_goto (tgt := 0) hx hb dX12_dropsToMark_33 (by decide) ?_
      exact hk_0 τ4 _ _ _ h hP hD hS (lv_sub hl [0] rfl)
set_option maxHeartbeats 4000000 in
set_option maxRecDepth 100000 in
theorem t_X12_dropsToMark_0 (C0 : zCx p s m meth c args RX12 cX12_dropsToMark 1 none vs_X12_dropsToMark) (hK : va_K (dC, dI) vwCl (m_ty cI cJ cC) s) (N : Nat) {Q : zSt → Prop} : ∀ (f : Nat)  (σ : zSt) (H : Heap) (locs : List Loc) (ls : Array Slot), w_X12_dropsToMark_0 N  Q f  σ → va_P (dC, dI) vwCl (m_W ad cI cJ cC σ) H → va_D (zAW m_n ad s.heap.size) (m_W ad cI cJ cC σ) → va_S (zAW m_n ad s.heap.size) s.heap H locs → lv_has ls 1 [(0, .ref (ad 0))] → W p l e rm_X12_dropsToMark s m args below meth c H locs 0 0 (MQ below (zQv (dC, dI) (m_ty cI cJ cC) (m_W ad cI cJ cC) (zAW m_n ad s.heap.size) Q) args s 0 0 (zAW m_n ad s.heap.size)) (F0 m 0 ls []) := by
  intro f
  induction f with
  | zero => intro  σ H locs ls h; exact h.elim
  | succ f ih =>
    intro  σ H locs ls h hP hD hS hl
    exact tb_X12_dropsToMark_0 C0 hK N  (k_0 := w_X12_dropsToMark_0 N  Q f) ih  σ H locs ls h hP hD hS hl
set_option maxHeartbeats 4000000 in
set_option maxRecDepth 100000 in
theorem c_X12_dropsToMark (N : Nat) (l : Launch) (dC : Nat → ClassId) (dI : Nat → Nat → Nat) (ad : Nat → Nat) (cI cJ cC : ClassId) (sz : Nat) (σ : zSt)  (Q : zSt → Prop) (h : w_X12_dropsToMark N  σ Q) : Met l yX12_dropsToMark vs_X12_dropsToMark rm_X12_dropsToMark (va_Pc [.ref (ad 0)] (zPc (dC, dI) (m_ty cI cJ cC) (m_W ad cI cJ cC) sz σ)) (zQv (dC, dI) (m_ty cI cJ cC) (m_W ad cI cJ cC) (zAW m_n ad sz) Q) 0 0 (zAW m_n ad sz) := by
  refine Met.ofW (cc := cX12_dropsToMark) (maxL := 1) (ret := none) (by decide) rfl ?_
  intro p e s m args below meth c s₁ B hml hv
  obtain ⟨rfl, hsz, hP, hK, hD0⟩ := hv
  subst hsz
  have C0 : zCx p s m meth c _ RX12 cX12_dropsToMark 1 none vs_X12_dropsToMark := ⟨B.exec, B.bytes, hml, B.returns, findClass_of_methodNamed B.named, atoms_spec (ws := vs_X12_dropsToMark) B.pre, B.notSynchronized⟩
  have hD := m_D0 (n0 := s.heap.size) hD0
  have hl := lv_entry ([.ref (ad 0)]) (n := 1) (Nat.le_of_ble_eq_true rfl)
  rw [lg_entry_eq]
  generalize (lg_sl ([.ref (ad 0)]) ++ List.replicate (1 - (lg_sl ([.ref (ad 0)])).length) Slot.unset).toArray = ls at hl ⊢
  exact t_X12_dropsToMark_0 C0 hK N N  σ _ _ ls h hP hD va_S.rf hl
theorem k_X12_dropsToMark (N : Nat) {R : Room} {H : Heap} {locs : List Loc} {cells slots : Nat} {Q2 : State → Prop} {cc : ByteArray} {nL pc index : Nat} {ls : Array Slot} {rest : List Value} {own : String} {c0 : Cond} {σ : zSt}  {Q : zSt → Prop} (S0 : CallFix p m c cc nL s args (c0 :: zT) own) (hml : Cond.methodLink own index yX12_dropsToMark ∈ zT) (hR : rm_X12_dropsToMark.frames + 1 ≤ R.frames ∧ 8 + (1 + 11) + rm_X12_dropsToMark.locals ≤ R.locals) (h : w_X12_dropsToMark N  σ Q) (hK : va_K (dC, dI) vwCl (m_ty cI cJ cC) s) (hP : va_P (dC, dI) vwCl (m_W ad cI cJ cC σ) H) (hD : va_D (zAW m_n ad s.heap.size) (m_W ad cI cJ cC σ)) (hS : va_S (zAW m_n ad s.heap.size) s.heap H locs) (hsz : ls.size = nL) (hW : (rest.map fun v => v.category).sum ≤ 8) (hcs : cells ≤ R.cells ∧ slots ≤ R.slots) (hdg : decode cc pc = .ok (.invokevirtual index, 3)) (kk : ∀ (τ : zSt) (H1 : Heap) (locs1 : List Loc), Q τ → va_P (dC, dI) vwCl (m_W ad cI cJ cC τ) H1 → va_D (zAW m_n ad s.heap.size) (m_W ad cI cJ cC τ) → va_S (zAW m_n ad s.heap.size) s.heap H1 locs1 → W p l e R s m args below meth c H1 locs1 cells slots Q2 (F0 m (pc + 3) ls (rest))) : W p l e R s m args below meth c H locs cells slots Q2 (F0 m pc ls (.ref (ad 0) :: rest)) :=
  zcv_v (T := TX12) (N' := 83) (k := 0) (ci := 12) (fs := m_f0 ad σ) [] S0 (c_X12_dropsToMark N l dC dI ad cI cJ cC H.size σ  Q h) (cw_X12_dropsToMark S0.2.2.2.2 hml rfl rfl hR) rfl rfl hK hP hD hS rfl hsz hW rfl hcs hdg kk
end q15
