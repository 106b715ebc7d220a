section q20
end q20
section q20
def b_X12_joins_177 (N : Nat) (Q : zSt → Prop) (s0 : Int64) (σ : zSt) : Prop :=
  w_X12_puts N s0 σ (fun τ2 => Q τ2)
def b_X12_joins_197 (N : Nat) (Q : zSt → Prop) (s0 : Int64) (σ : zSt) : Prop :=
  w_X12_puts N s0 σ (fun τ2 => Q τ2)
def b_X12_joins_286 (N : Nat) (Q : zSt → Prop) (s0 : Int64) (σ : zSt) : Prop :=
  w_X12_puts N s0 σ (fun τ2 => Q τ2)
def b_X12_joins_216 (N : Nat) (Q : zSt → Prop) (s0 : Int64) (σ : zSt) : Prop :=
  w_X12_puts N s0 σ (fun τ2 => Q τ2)
def b_X12_joins_235 (N : Nat) (Q : zSt → Prop) (s0 : Int64) (σ : zSt) : Prop :=
  w_X12_puts N s0 σ (fun τ2 => Q τ2)
def b_X12_joins_254 (N : Nat) (Q : zSt → Prop) (s0 : Int64) (σ : zSt) : Prop :=
  w_X12_puts N s0 σ (fun τ2 => Q τ2)
def w_X12_joins (N : Nat) (x1 : Int32) (σ : zSt) (Q : zSt → Prop) : Prop :=
  (vp_in ((σ.1 18) - (1 : Int32)) 900) ∧ (∀ v1 : Int64, v1 = σ.2.2.2 2 ((σ.1 18) - (1 : Int32)).toNatClampNeg → (vp_in ((σ.1 18) - (2 : Int32)) 900) ∧ (∀ v2 : Int64, v2 = σ.2.2.2 2 ((σ.1 18) - (2 : Int32)).toNatClampNeg → ∀ τ3 : zSt, τ3 = zI σ 18 ((σ.1 18) - (2 : Int32)) → (x1 = (1 : Int32) → w_X12_clip N (v2 + v1) τ3 (fun r4 τ5 => w_X12_puts N r4 τ5 (fun τ7 => Q τ7))) ∧ (¬ x1 = (1 : Int32) → (x1 = (2 : Int32) → w_X12_clip N (v2 - v1) τ3 (fun r8 τ9 => w_X12_puts N r8 τ9 (fun τ11 => Q τ11))) ∧ (¬ x1 = (2 : Int32) → (x1 = (3 : Int32) → w_X12_clip N (v2 * v1) τ3 (fun r12 τ13 => w_X12_puts N r12 τ13 (fun τ15 => Q τ15))) ∧ (¬ x1 = (3 : Int32) → (x1 = (4 : Int32) → w_X12_floor N v2 v1 τ3 (fun r16 τ17 => w_X12_puts N r16 τ17 (fun τ19 => Q τ19))) ∧ (¬ x1 = (4 : Int32) → (x1 = (5 : Int32) → (0 ≤ (lg_cmp v2 v1) → b_X12_joins_177 N Q v1 τ3) ∧ (¬ 0 ≤ (lg_cmp v2 v1) → b_X12_joins_177 N Q v2 τ3)) ∧ (¬ x1 = (5 : Int32) → (x1 = (6 : Int32) → ((lg_cmp v2 v1) ≤ 0 → b_X12_joins_197 N Q v1 τ3) ∧ (¬ (lg_cmp v2 v1) ≤ 0 → b_X12_joins_197 N Q v2 τ3)) ∧ (¬ x1 = (6 : Int32) → (x1 = (7 : Int32) → ((lg_cmp (v2 + v1) (0 : Int64)) ≤ 0 → b_X12_joins_286 N Q (0 : Int64) τ3) ∧ (¬ (lg_cmp (v2 + v1) (0 : Int64)) ≤ 0 → b_X12_joins_286 N Q (1 : Int64) τ3)) ∧ (¬ x1 = (7 : Int32) → (x1 = (8 : Int32) → ((lg_cmp (v2 + v1) (0 : Int64)) ≤ 0 → b_X12_joins_286 N Q (0 : Int64) τ3) ∧ (¬ (lg_cmp (v2 + v1) (0 : Int64)) ≤ 0 → b_X12_joins_286 N Q (1 : Int64) τ3)) ∧ (¬ x1 = (8 : Int32) → (x1 = (9 : Int32) → ((lg_cmp (v2 + v1) (0 : Int64)) ≤ 0 → b_X12_joins_286 N Q (0 : Int64) τ3) ∧ (¬ (lg_cmp (v2 + v1) (0 : Int64)) ≤ 0 → b_X12_joins_286 N Q (1 : Int64) τ3)) ∧ (¬ x1 = (9 : Int32) → (x1 = (10 : Int32) → ((lg_cmp (v2 + v1) (0 : Int64)) ≤ 0 → b_X12_joins_286 N Q (0 : Int64) τ3) ∧ (¬ (lg_cmp (v2 + v1) (0 : Int64)) ≤ 0 → b_X12_joins_286 N Q (1 : Int64) τ3)) ∧ (¬ x1 = (10 : Int32) → (x1 = (11 : Int32) → (0 ≤ (lg_cmp v2 v1) → b_X12_joins_216 N Q (0 : Int64) τ3) ∧ (¬ 0 ≤ (lg_cmp v2 v1) → b_X12_joins_216 N Q (1 : Int64) τ3)) ∧ (¬ x1 = (11 : Int32) → (x1 = (12 : Int32) → ((lg_cmp v2 v1) ≤ 0 → b_X12_joins_235 N Q (0 : Int64) τ3) ∧ (¬ (lg_cmp v2 v1) ≤ 0 → b_X12_joins_235 N Q (1 : Int64) τ3)) ∧ (¬ x1 = (12 : Int32) → (x1 = (13 : Int32) → ((lg_cmp v2 v1) = 0 → b_X12_joins_254 N Q (1 : Int64) τ3) ∧ (¬ (lg_cmp v2 v1) = 0 → b_X12_joins_254 N Q (0 : Int64) τ3)) ∧ (¬ x1 = (13 : Int32) → (x1 = (14 : Int32) → w_X12_puts N (v2 * v1) τ3 (fun τ21 => Q τ21)) ∧ (¬ x1 = (14 : Int32) → ((lg_cmp (v2 + v1) (0 : Int64)) ≤ 0 → b_X12_joins_286 N Q (0 : Int64) τ3) ∧ (¬ (lg_cmp (v2 + v1) (0 : Int64)) ≤ 0 → b_X12_joins_286 N Q (1 : Int64) τ3)))))))))))))))))
variable {p : Program} {l : Launch} {e : Env} {s : State} {m : MethodId} {args : Array Value} {below : List Frame} {meth : Method} {c : Code} {dC : Nat → ClassId} {dI : Nat → Nat → Nat} {ad : Nat → Nat} {cI cJ cC : ClassId}
set_option maxHeartbeats 4000000 in
set_option maxRecDepth 100000 in
theorem t_X12_joins_177 (C0 : zCx p s m meth c args RX12 cX12_joins 6 none vs_X12_joins) (hK : va_K (dC, dI) vwCl (m_ty cI cJ cC) s) (N : Nat) {Q : zSt → Prop} : ∀ (s0 : Int64) (σ : zSt) (H : Heap) (locs : List Loc) (ls : Array Slot), b_X12_joins_177 N  Q s0 σ → va_P (dC, dI) vwCl (m_W ad cI cJ cC σ) H → va_D (zAW m_n ad s.heap.size) (m_W ad cI cJ cC σ) → va_S (zAW m_n ad s.heap.size) s.heap H locs → lv_has ls 6 [] → W p l e rm_X12_joins s m args below meth c H locs 0 0 (MQ below (zQv (dC, dI) (m_ty cI cJ cC) (m_W ad cI cJ cC) (zAW m_n ad s.heap.size) Q) args s 0 0 (zAW m_n ad s.heap.size)) (F0 m 177 ls [.long s0, .ref (ad 0)]) := by
  obtain ⟨hx, hb, hml, hr, hown, hts, hlocks⟩ := id C0
  intro s0 σ H locs ls h hP hD hS hl
  unfold b_X12_joins_177 at h
  refine k_X12_puts N ⟨hx, hb, hml, hown, hts⟩ mw_1122 ⟨Nat.le_of_ble_eq_true rfl, Nat.le_of_ble_eq_true rfl⟩ h hK hP hD hS hl.1 (rest := []) (Nat.le_of_ble_eq_true rfl) ⟨Nat.le_of_ble_eq_true rfl, Nat.le_of_ble_eq_true rfl⟩ dX12_joins_177 (fun τ2 H locs h hP hD hS => ?_)
  refine lv_goto (tgt := 289) hx hb dX12_joins_180 (by decide) ?_
  exact zret_v hx hb hr hlocks hK hP hD hS h dX12_joins_289
set_option maxHeartbeats 4000000 in
set_option maxRecDepth 100000 in
theorem t_X12_joins_197 (C0 : zCx p s m meth c args RX12 cX12_joins 6 none vs_X12_joins) (hK : va_K (dC, dI) vwCl (m_ty cI cJ cC) s) (N : Nat) {Q : zSt → Prop} : ∀ (s0 : Int64) (σ : zSt) (H : Heap) (locs : List Loc) (ls : Array Slot), b_X12_joins_197 N  Q s0 σ → va_P (dC, dI) vwCl (m_W ad cI cJ cC σ) H → va_D (zAW m_n ad s.heap.size) (m_W ad cI cJ cC σ) → va_S (zAW m_n ad s.heap.size) s.heap H locs → lv_has ls 6 [] → W p l e rm_X12_joins s m args below meth c H locs 0 0 (MQ below (zQv (dC, dI) (m_ty cI cJ cC) (m_W ad cI cJ cC) (zAW m_n ad s.heap.size) Q) args s 0 0 (zAW m_n ad s.heap.size)) (F0 m 197 ls [.long s0, .ref (ad 0)]) := by
  obtain ⟨hx, hb, hml, hr, hown, hts, hlocks⟩ := id C0
  intro s0 σ H locs ls h hP hD hS hl
  unfold b_X12_joins_197 at h
  refine k_X12_puts N ⟨hx, hb, hml, hown, hts⟩ mw_1122 ⟨Nat.le_of_ble_eq_true rfl, Nat.le_of_ble_eq_true rfl⟩ h hK hP hD hS hl.1 (rest := []) (Nat.le_of_ble_eq_true rfl) ⟨Nat.le_of_ble_eq_true rfl, Nat.le_of_ble_eq_true rfl⟩ dX12_joins_197 (fun τ2 H locs h hP hD hS => ?_)
  refine lv_goto (tgt := 289) hx hb dX12_joins_200 (by decide) ?_
  exact zret_v hx hb hr hlocks hK hP hD hS h dX12_joins_289
set_option maxHeartbeats 4000000 in
set_option maxRecDepth 100000 in
theorem t_X12_joins_286 (C0 : zCx p s m meth c args RX12 cX12_joins 6 none vs_X12_joins) (hK : va_K (dC, dI) vwCl (m_ty cI cJ cC) s) (N : Nat) {Q : zSt → Prop} : ∀ (s0 : Int64) (σ : zSt) (H : Heap) (locs : List Loc) (ls : Array Slot), b_X12_joins_286 N  Q s0 σ → va_P (dC, dI) vwCl (m_W ad cI cJ cC σ) H → va_D (zAW m_n ad s.heap.size) (m_W ad cI cJ cC σ) → va_S (zAW m_n ad s.heap.size) s.heap H locs → lv_has ls 6 [] → W p l e rm_X12_joins s m args below meth c H locs 0 0 (MQ below (zQv (dC, dI) (m_ty cI cJ cC) (m_W ad cI cJ cC) (zAW m_n ad s.heap.size) Q) args s 0 0 (zAW m_n ad s.heap.size)) (F0 m 286 ls [.long s0, .ref (ad 0)]) := by
  obtain ⟨hx, hb, hml, hr, hown, hts, hlocks⟩ := id C0
  intro s0 σ H locs ls h hP hD hS hl
  unfold b_X12_joins_286 at h
  refine k_X12_puts N ⟨hx, hb, hml, hown, hts⟩ mw_1122 ⟨Nat.le_of_ble_eq_true rfl, Nat.le_of_ble_eq_true rfl⟩ h hK hP hD hS hl.1 (rest := []) (Nat.le_of_ble_eq_true rfl) ⟨Nat.le_of_ble_eq_true rfl, Nat.le_of_ble_eq_true rfl⟩ dX12_joins_286 (fun τ2 H locs h hP hD hS => ?_)
  exact zret_v hx hb hr hlocks hK hP hD hS h dX12_joins_289
set_option maxHeartbeats 4000000 in
set_option maxRecDepth 100000 in
theorem t_X12_joins_216 (C0 : zCx p s m meth c args RX12 cX12_joins 6 none vs_X12_joins) (hK : va_K (dC, dI) vwCl (m_ty cI cJ cC) s) (N : Nat) {Q : zSt → Prop} : ∀ (s0 : Int64) (σ : zSt) (H : Heap) (locs : List Loc) (ls : Array Slot), b_X12_joins_216 N  Q s0 σ → va_P (dC, dI) vwCl (m_W ad cI cJ cC σ) H → va_D (zAW m_n ad s.heap.size) (m_W ad cI cJ cC σ) → va_S (zAW m_n ad s.heap.size) s.heap H locs → lv_has ls 6 [] → W p l e rm_X12_joins s m args below meth c H locs 0 0 (MQ below (zQv (dC, dI) (m_ty cI cJ cC) (m_W ad cI cJ cC) (zAW m_n ad s.heap.size) Q) args s 0 0 (zAW m_n ad s.heap.size)) (F0 m 216 ls [.long s0, .ref (ad 0)]) := by
  obtain ⟨hx, hb, hml, hr, hown, hts, hlocks⟩ := id C0
  intro s0 σ H locs ls h hP hD hS hl
  unfold b_X12_joins_216 at h
  refine k_X12_puts N ⟨hx, hb, hml, hown, hts⟩ mw_1122 ⟨Nat.le_of_ble_eq_true rfl, Nat.le_of_ble_eq_true rfl⟩ h hK hP hD hS hl.1 (rest := []) (Nat.le_of_ble_eq_true rfl) ⟨Nat.le_of_ble_eq_true rfl, Nat.le_of_ble_eq_true rfl⟩ dX12_joins_216 (fun τ2 H locs h hP hD hS => ?_)
  refine lv_goto (tgt := 289) hx hb dX12_joins_219 (by decide) ?_
  exact zret_v hx hb hr hlocks hK hP hD hS h dX12_joins_289
set_option maxHeartbeats 4000000 in
set_option maxRecDepth 100000 in
theorem t_X12_joins_235 (C0 : zCx p s m meth c args RX12 cX12_joins 6 none vs_X12_joins) (hK : va_K (dC, dI) vwCl (m_ty cI cJ cC) s) (N : Nat) {Q : zSt → Prop} : ∀ (s0 : Int64) (σ : zSt) (H : Heap) (locs : List Loc) (ls : Array Slot), b_X12_joins_235 N  Q s0 σ → va_P (dC, dI) vwCl (m_W ad cI cJ cC σ) H → va_D (zAW m_n ad s.heap.size) (m_W ad cI cJ cC σ) → va_S (zAW m_n ad s.heap.size) s.heap H locs → lv_has ls 6 [] → W p l e rm_X12_joins s m args below meth c H locs 0 0 (MQ below (zQv (dC, dI) (m_ty cI cJ cC) (m_W ad cI cJ cC) (zAW m_n ad s.heap.size) Q) args s 0 0 (zAW m_n ad s.heap.size)) (F0 m 235 ls [.long s0, .ref (ad 0)]) := by
  obtain ⟨hx, hb, hml, hr, hown, hts, hlocks⟩ := id C0
  intro s0 σ H locs ls h hP hD hS hl
  unfold b_X12_joins_235 at h
  refine k_X12_puts N ⟨hx, hb, hml, hown, hts⟩ mw_1122 ⟨Nat.le_of_ble_eq_true rfl, Nat.le_of_ble_eq_true rfl⟩ h hK hP hD hS hl.1 (rest := []) (Nat.le_of_ble_eq_true rfl) ⟨Nat.le_of_ble_eq_true rfl, Nat.le_of_ble_eq_true rfl⟩ dX12_joins_235 (fun τ2 H locs h hP hD hS => ?_)
  refine lv_goto (tgt := 289) hx hb dX12_joins_238 (by decide) ?_
  exact zret_v hx hb hr hlocks hK hP hD hS h dX12_joins_289
set_option maxHeartbeats 4000000 in
set_option maxRecDepth 100000 in
theorem t_X12_joins_254 (C0 : zCx p s m meth c args RX12 cX12_joins 6 none vs_X12_joins) (hK : va_K (dC, dI) vwCl (m_ty cI cJ cC) s) (N : Nat) {Q : zSt → Prop} : ∀ (s0 : Int64) (σ : zSt) (H : Heap) (locs : List Loc) (ls : Array Slot), b_X12_joins_254 N  Q s0 σ → va_P (dC, dI) vwCl (m_W ad cI cJ cC σ) H → va_D (zAW m_n ad s.heap.size) (m_W ad cI cJ cC σ) → va_S (zAW m_n ad s.heap.size) s.heap H locs → lv_has ls 6 [] → W p l e rm_X12_joins s m args below meth c H locs 0 0 (MQ below (zQv (dC, dI) (m_ty cI cJ cC) (m_W ad cI cJ cC) (zAW m_n ad s.heap.size) Q) args s 0 0 (zAW m_n ad s.heap.size)) (F0 m 254 ls [.long s0, .ref (ad 0)]) := by
  obtain ⟨hx, hb, hml, hr, hown, hts, hlocks⟩ := id C0
  intro s0 σ H locs ls h hP hD hS hl
  unfold b_X12_joins_254 at h
  refine k_X12_puts N ⟨hx, hb, hml, hown, hts⟩ mw_1122 ⟨Nat.le_of_ble_eq_true rfl, Nat.le_of_ble_eq_true rfl⟩ h hK hP hD hS hl.1 (rest := []) (Nat.le_of_ble_eq_true rfl) ⟨Nat.le_of_ble_eq_true rfl, Nat.le_of_ble_eq_true rfl⟩ dX12_joins_254 (fun τ2 H locs h hP hD hS => ?_)
  refine lv_goto (tgt := 289) hx hb dX12_joins_257 (by decide) ?_
  exact zret_v hx hb hr hlocks hK hP hD hS h dX12_joins_289
set_option maxHeartbeats 4000000 in
set_option maxRecDepth 100000 in
theorem t_X12_joins_0 (C0 : zCx p s m meth c args RX12 cX12_joins 6 none vs_X12_joins) (hK : va_K (dC, dI) vwCl (m_ty cI cJ cC) s) (N : Nat) {Q : zSt → Prop} : ∀ (x1 : Int32) (σ : zSt) (H : Heap) (locs : List Loc) (ls : Array Slot), w_X12_joins N x1 σ Q → va_P (dC, dI) vwCl (m_W ad cI cJ cC σ) H → va_D (zAW m_n ad s.heap.size) (m_W ad cI cJ cC σ) → va_S (zAW m_n ad s.heap.size) s.heap H locs → lv_has ls 6 [(0, .ref (ad 0)), (1, .int x1)] → W p l e rm_X12_joins s m args below meth c H locs 0 0 (MQ below (zQv (dC, dI) (m_ty cI cJ cC) (m_W ad cI cJ cC) (zAW m_n ad s.heap.size) Q) args s 0 0 (zAW m_n ad s.heap.size)) (F0 m 0 ls []) := by
  obtain ⟨hx, hb, hml, hr, hown, hts, hlocks⟩ := id C0
  intro x1 σ H locs ls h hP hD hS hl
  unfold w_X12_joins at h
  refine lv_aload_n hx hb dX12_joins_0 rfl (lv_at hl 0 rfl) ?_
  refine mg_0_55 hx hb hts hown hK hP mw_888 dX12_joins_1 ?_
  refine lv_aload_n hx hb dX12_joins_4 rfl (lv_at hl 0 rfl) ?_
  refine mg_0_56 hx hb hts hown hK hP mw_889 dX12_joins_5 ?_
  refine lv_iconst (v := (1 : Int32)) hx hb dX12_joins_8 (by decide) ?_
  refine lv_isub hx hb dX12_joins_9 ?_
  refine ma_17 hx hb hK hP h.1 rfl dX12_joins_10 ?_
  have h := h.2
  refine lv_topl (fun v1 ev1 => ?_)
  have h := h v1 ev1
  refine lv_lstore_n (lv' := [(2, .long v1), (0, .ref (ad 0)), (1, .int x1)]) hx hb dX12_joins_11 rfl hl (by decide) rfl (fun ls hl => ?_)
  refine lv_aload_n hx hb dX12_joins_12 rfl (lv_at hl 1 rfl) ?_
  refine mg_0_55 hx hb hts hown hK hP mw_888 dX12_joins_13 ?_
  refine lv_aload_n hx hb dX12_joins_16 rfl (lv_at hl 1 rfl) ?_
  refine mg_0_56 hx hb hts hown hK hP mw_889 dX12_joins_17 ?_
  refine lv_iconst (v := (2 : Int32)) hx hb dX12_joins_20 (by decide) ?_
  refine lv_isub hx hb dX12_joins_21 ?_
  refine ma_17 hx hb hK hP h.1 rfl dX12_joins_22 ?_
  have h := h.2
  refine lv_topl (fun v2 ev2 => ?_)
  have h := h v2 ev2
  refine lv_lstore (lv' := [(4, .long v2), (2, .long v1), (0, .ref (ad 0)), (1, .int x1)]) hx hb dX12_joins_23 hl (by decide) rfl (fun ls hl => ?_)
  refine lv_aload_n hx hb dX12_joins_25 rfl (lv_at hl 2 rfl) ?_
  refine lv_dup hx hb dX12_joins_26 rfl ?_
  refine mg_0_56 hx hb hts hown hK hP mw_889 dX12_joins_27 ?_
  refine lv_iconst (v := (2 : Int32)) hx hb dX12_joins_30 (by decide) ?_
  refine lv_isub hx hb dX12_joins_31 ?_
  refine mp_0_56 hx hb hts hown hK hP hD hS mw_889 dX12_joins_32 (fun τ3 H locs eτ3 hP hD hS => ?_)
  have h := h τ3 eτ3
  refine lv_iload_n hx hb dX12_joins_35 rfl (lv_at hl 3 rfl) ?_
  by_cases hc0 : x1 = (1 : Int32)
  · have h := h.1 hc0
    refine lv_tableIn (off := 72) (tgt := 108) hx hb dX12_joins_36 (by rw [hc0]; decide) (by rw [hc0]; decide) (by rw [hc0]; rfl) (by decide) ?_
    refine lv_aload_n hx hb dX12_joins_108 rfl (lv_at hl 2 rfl) ?_
    refine lv_lload hx hb dX12_joins_109 (lv_at hl 0 rfl) ?_
    refine lv_lload_n hx hb dX12_joins_111 rfl (lv_at hl 1 rfl) ?_
    refine lv_ladd hx hb dX12_joins_112 ?_
    refine k_X12_clip N ⟨hx, hb, hml, hown, hts⟩ mw_1128 ⟨Nat.le_of_ble_eq_true rfl, Nat.le_of_ble_eq_true rfl⟩ h hK hP hD hS hl.1 (rest := [.ref (ad 0)]) (Nat.le_of_ble_eq_true rfl) ⟨Nat.le_of_ble_eq_true rfl, Nat.le_of_ble_eq_true rfl⟩ dX12_joins_113 (fun r4 τ5 H locs h hP hD hS => ?_)
    refine k_X12_puts N ⟨hx, hb, hml, hown, hts⟩ mw_1122 ⟨Nat.le_of_ble_eq_true rfl, Nat.le_of_ble_eq_true rfl⟩ h hK hP hD hS hl.1 (rest := []) (Nat.le_of_ble_eq_true rfl) ⟨Nat.le_of_ble_eq_true rfl, Nat.le_of_ble_eq_true rfl⟩ dX12_joins_116 (fun τ7 H locs h hP hD hS => ?_)
    refine lv_goto (tgt := 289) hx hb dX12_joins_119 (by decide) ?_
    exact zret_v hx hb hr hlocks hK hP hD hS h dX12_joins_289
  · have hn0 := hc0
    have h := h.2 hc0
    by_cases hc1 : x1 = (2 : Int32)
    · have h := h.1 hc1
      refine lv_tableIn (off := 86) (tgt := 122) hx hb dX12_joins_36 (by rw [hc1]; decide) (by rw [hc1]; decide) (by rw [hc1]; rfl) (by decide) ?_
      refine lv_aload_n hx hb dX12_joins_122 rfl (lv_at hl 2 rfl) ?_
      refine lv_lload hx hb dX12_joins_123 (lv_at hl 0 rfl) ?_
      refine lv_lload_n hx hb dX12_joins_125 rfl (lv_at hl 1 rfl) ?_
      refine lv_lsub hx hb dX12_joins_126 ?_
      refine k_X12_clip N ⟨hx, hb, hml, hown, hts⟩ mw_1128 ⟨Nat.le_of_ble_eq_true rfl, Nat.le_of_ble_eq_true rfl⟩ h hK hP hD hS hl.1 (rest := [.ref (ad 0)]) (Nat.le_of_ble_eq_true rfl) ⟨Nat.le_of_ble_eq_true rfl, Nat.le_of_ble_eq_true rfl⟩ dX12_joins_127 (fun r8 τ9 H locs h hP hD hS => ?_)
      refine k_X12_puts N ⟨hx, hb, hml, hown, hts⟩ mw_1122 ⟨Nat.le_of_ble_eq_true rfl, Nat.le_of_ble_eq_true rfl⟩ h hK hP hD hS hl.1 (rest := []) (Nat.le_of_ble_eq_true rfl) ⟨Nat.le_of_ble_eq_true rfl, Nat.le_of_ble_eq_true rfl⟩ dX12_joins_130 (fun τ11 H locs h hP hD hS => ?_)
      refine lv_goto (tgt := 289) hx hb dX12_joins_133 (by decide) ?_
      exact zret_v hx hb hr hlocks hK hP hD hS h dX12_joins_289
    · have hn1 := hc1
      have h := h.2 hc1
      by_cases hc2 : x1 = (3 : Int32)
      · have h := h.1 hc2
        refine lv_tableIn (off := 100) (tgt := 136) hx hb dX12_joins_36 (by rw [hc2]; decide) (by rw [hc2]; decide) (by rw [hc2]; rfl) (by decide) ?_
        refine lv_aload_n hx hb dX12_joins_136 rfl (lv_at hl 2 rfl) ?_
        refine lv_lload hx hb dX12_joins_137 (lv_at hl 0 rfl) ?_
        refine lv_lload_n hx hb dX12_joins_139 rfl (lv_at hl 1 rfl) ?_
        refine lv_lmul hx hb dX12_joins_140 ?_
        refine k_X12_clip N ⟨hx, hb, hml, hown, hts⟩ mw_1128 ⟨Nat.le_of_ble_eq_true rfl, Nat.le_of_ble_eq_true rfl⟩ h hK hP hD hS hl.1 (rest := [.ref (ad 0)]) (Nat.le_of_ble_eq_true rfl) ⟨Nat.le_of_ble_eq_true rfl, Nat.le_of_ble_eq_true rfl⟩ dX12_joins_141 (fun r12 τ13 H locs h hP hD hS => ?_)
        refine k_X12_puts N ⟨hx, hb, hml, hown, hts⟩ mw_1122 ⟨Nat.le_of_ble_eq_true rfl, Nat.le_of_ble_eq_true rfl⟩ h hK hP hD hS hl.1 (rest := []) (Nat.le_of_ble_eq_true rfl) ⟨Nat.le_of_ble_eq_true rfl, Nat.le_of_ble_eq_true rfl⟩ dX12_joins_144 (fun τ15 H locs h hP hD hS => ?_)
        refine lv_goto (tgt := 289) hx hb dX12_joins_147 (by decide) ?_
        exact zret_v hx hb hr hlocks hK hP hD hS h dX12_joins_289
      · have hn2 := hc2
        have h := h.2 hc2
        by_cases hc3 : x1 = (4 : Int32)
        · have h := h.1 hc3
          refine lv_tableIn (off := 114) (tgt := 150) hx hb dX12_joins_36 (by rw [hc3]; decide) (by rw [hc3]; decide) (by rw [hc3]; rfl) (by decide) ?_
          refine lv_aload_n hx hb dX12_joins_150 rfl (lv_at hl 2 rfl) ?_
          refine lv_lload hx hb dX12_joins_151 (lv_at hl 0 rfl) ?_
          refine lv_lload_n hx hb dX12_joins_153 rfl (lv_at hl 1 rfl) ?_
          refine k_X12_floor N ⟨hx, hb, hml, hown, hts⟩ mw_1133 ⟨Nat.le_of_ble_eq_true rfl, Nat.le_of_ble_eq_true rfl⟩ h hK hP hD hS hl.1 (rest := [.ref (ad 0)]) (Nat.le_of_ble_eq_true rfl) ⟨Nat.le_of_ble_eq_true rfl, Nat.le_of_ble_eq_true rfl⟩ dX12_joins_154 (fun r16 τ17 H locs h hP hD hS => ?_)
          refine k_X12_puts N ⟨hx, hb, hml, hown, hts⟩ mw_1122 ⟨Nat.le_of_ble_eq_true rfl, Nat.le_of_ble_eq_true rfl⟩ h hK hP hD hS hl.1 (rest := []) (Nat.le_of_ble_eq_true rfl) ⟨Nat.le_of_ble_eq_true rfl, Nat.le_of_ble_eq_true rfl⟩ dX12_joins_157 (fun τ19 H locs h hP hD hS => ?_)
          refine lv_goto (tgt := 289) hx hb dX12_joins_160 (by decide) ?_
          exact zret_v hx hb hr hlocks hK hP hD hS h dX12_joins_289
        · have hn3 := hc3
          have h := h.2 hc3
          by_cases hc4 : x1 = (5 : Int32)
          · have h := h.1 hc4
            refine lv_tableIn (off := 127) (tgt := 163) hx hb dX12_joins_36 (by rw [hc4]; decide) (by rw [hc4]; decide) (by rw [hc4]; rfl) (by decide) ?_
            refine lv_aload_n hx hb dX12_joins_163 rfl (lv_at hl 2 rfl) ?_
            refine lv_lload hx hb dX12_joins_164 (lv_at hl 0 rfl) ?_
            refine lv_lload_n hx hb dX12_joins_166 rfl (lv_at hl 1 rfl) ?_
            refine W.lcmp hx hb dX12_joins_167 ?_
            refine lv_if_ge (tgt := 176) hx hb dX12_joins_168 (by decide) (fun hc => ?_) (fun hc => ?_)
            · have h := h.1 hc
              refine lv_lload_n hx hb dX12_joins_176 rfl (lv_at hl 1 rfl) ?_
              exact t_X12_joins_177 C0 hK N  v1 τ3 _ _ _ h hP hD hS (lv_sub hl [] rfl)
            · have h := h.2 hc
              refine lv_lload hx hb dX12_joins_171 (lv_at hl 0 rfl) ?_
              refine lv_goto (tgt := 177) hx hb dX12_joins_173 (by decide) ?_
              exact t_X12_joins_177 C0 hK N  v2 τ3 _ _ _ h hP hD hS (lv_sub hl [] rfl)
          · have hn4 := hc4
            have h := h.2 hc4
            by_cases hc5 : x1 = (6 : Int32)
            · have h := h.1 hc5
              refine lv_tableIn (off := 147) (tgt := 183) hx hb dX12_joins_36 (by rw [hc5]; decide) (by rw [hc5]; decide) (by rw [hc5]; rfl) (by decide) ?_
              refine lv_aload_n hx hb dX12_joins_183 rfl (lv_at hl 2 rfl) ?_
              refine lv_lload hx hb dX12_joins_184 (lv_at hl 0 rfl) ?_
              refine lv_lload_n hx hb dX12_joins_186 rfl (lv_at hl 1 rfl) ?_
              refine W.lcmp hx hb dX12_joins_187 ?_
              refine lv_if_le (tgt := 196) hx hb dX12_joins_188 (by decide) (fun hc => ?_) (fun hc => ?_)
              · have h := h.1 hc
                refine lv_lload_n hx hb dX12_joins_196 rfl (lv_at hl 1 rfl) ?_
                exact t_X12_joins_197 C0 hK N  v1 τ3 _ _ _ h hP hD hS (lv_sub hl [] rfl)
              · have h := h.2 hc
                refine lv_lload hx hb dX12_joins_191 (lv_at hl 0 rfl) ?_
                refine lv_goto (tgt := 197) hx hb dX12_joins_193 (by decide) ?_
                exact t_X12_joins_197 C0 hK N  v2 τ3 _ _ _ h hP hD hS (lv_sub hl [] rfl)
            · have hn5 := hc5
              have h := h.2 hc5
              by_cases hc6 : x1 = (7 : Int32)
              · have h := h.1 hc6
                refine lv_tableIn (off := 235) (tgt := 271) hx hb dX12_joins_36 (by rw [hc6]; decide) (by rw [hc6]; decide) (by rw [hc6]; rfl) (by decide) ?_
                refine lv_aload_n hx hb dX12_joins_271 rfl (lv_at hl 2 rfl) ?_
                refine lv_lload hx hb dX12_joins_272 (lv_at hl 0 rfl) ?_
                refine lv_lload_n hx hb dX12_joins_274 rfl (lv_at hl 1 rfl) ?_
                refine lv_ladd hx hb dX12_joins_275 ?_
                refine lv_lconst (v := (0 : Int64)) hx hb dX12_joins_276 (by decide) ?_
                refine W.lcmp hx hb dX12_joins_277 ?_
                refine lv_if_le (tgt := 285) hx hb dX12_joins_278 (by decide) (fun hc => ?_) (fun hc => ?_)
                · have h := h.1 hc
                  refine lv_lconst (v := (0 : Int64)) hx hb dX12_joins_285 (by decide) ?_
                  exact t_X12_joins_286 C0 hK N  (0 : Int64) τ3 _ _ _ h hP hD hS (lv_sub hl [] rfl)
                · have h := h.2 hc
                  refine lv_lconst (v := (1 : Int64)) hx hb dX12_joins_281 (by decide) ?_
                  refine lv_goto (tgt := 286) hx hb dX12_joins_282 (by decide) ?_
                  exact t_X12_joins_286 C0 hK N  (1 : Int64) τ3 _ _ _ h hP hD hS (lv_sub hl [] rfl)
              · have hn6 := hc6
                have h := h.2 hc6
                by_cases hc7 : x1 = (8 : Int32)
                · have h := h.1 hc7
                  refine lv_tableIn (off := 235) (tgt := 271) hx hb dX12_joins_36 (by rw [hc7]; decide) (by rw [hc7]; decide) (by rw [hc7]; rfl) (by decide) ?_
                  refine lv_aload_n hx hb dX12_joins_271 rfl (lv_at hl 2 rfl) ?_
                  refine lv_lload hx hb dX12_joins_272 (lv_at hl 0 rfl) ?_
                  refine lv_lload_n hx hb dX12_joins_274 rfl (lv_at hl 1 rfl) ?_
                  refine lv_ladd hx hb dX12_joins_275 ?_
                  refine lv_lconst (v := (0 : Int64)) hx hb dX12_joins_276 (by decide) ?_
                  refine W.lcmp hx hb dX12_joins_277 ?_
                  refine lv_if_le (tgt := 285) hx hb dX12_joins_278 (by decide) (fun hc => ?_) (fun hc => ?_)
                  · have h := h.1 hc
                    refine lv_lconst (v := (0 : Int64)) hx hb dX12_joins_285 (by decide) ?_
                    exact t_X12_joins_286 C0 hK N  (0 : Int64) τ3 _ _ _ h hP hD hS (lv_sub hl [] rfl)
                  · have h := h.2 hc
                    refine lv_lconst (v := (1 : Int64)) hx hb dX12_joins_281 (by decide) ?_
                    refine lv_goto (tgt := 286) hx hb dX12_joins_282 (by decide) ?_
                    exact t_X12_joins_286 C0 hK N  (1 : Int64) τ3 _ _ _ h hP hD hS (lv_sub hl [] rfl)
                · have hn7 := hc7
                  have h := h.2 hc7
                  by_cases hc8 : x1 = (9 : Int32)
                  · have h := h.1 hc8
                    refine lv_tableIn (off := 235) (tgt := 271) hx hb dX12_joins_36 (by rw [hc8]; decide) (by rw [hc8]; decide) (by rw [hc8]; rfl) (by decide) ?_
                    refine lv_aload_n hx hb dX12_joins_271 rfl (lv_at hl 2 rfl) ?_
                    refine lv_lload hx hb dX12_joins_272 (lv_at hl 0 rfl) ?_
                    refine lv_lload_n hx hb dX12_joins_274 rfl (lv_at hl 1 rfl) ?_
                    refine lv_ladd hx hb dX12_joins_275 ?_
                    refine lv_lconst (v := (0 : Int64)) hx hb dX12_joins_276 (by decide) ?_
                    refine W.lcmp hx hb dX12_joins_277 ?_
                    refine lv_if_le (tgt := 285) hx hb dX12_joins_278 (by decide) (fun hc => ?_) (fun hc => ?_)
                    · have h := h.1 hc
                      refine lv_lconst (v := (0 : Int64)) hx hb dX12_joins_285 (by decide) ?_
                      exact t_X12_joins_286 C0 hK N  (0 : Int64) τ3 _ _ _ h hP hD hS (lv_sub hl [] rfl)
                    · have h := h.2 hc
                      refine lv_lconst (v := (1 : Int64)) hx hb dX12_joins_281 (by decide) ?_
                      refine lv_goto (tgt := 286) hx hb dX12_joins_282 (by decide) ?_
                      exact t_X12_joins_286 C0 hK N  (1 : Int64) τ3 _ _ _ h hP hD hS (lv_sub hl [] rfl)
                  · have hn8 := hc8
                    have h := h.2 hc8
                    by_cases hc9 : x1 = (10 : Int32)
                    · have h := h.1 hc9
                      refine lv_tableIn (off := 235) (tgt := 271) hx hb dX12_joins_36 (by rw [hc9]; decide) (by rw [hc9]; decide) (by rw [hc9]; rfl) (by decide) ?_
                      refine lv_aload_n hx hb dX12_joins_271 rfl (lv_at hl 2 rfl) ?_
                      refine lv_lload hx hb dX12_joins_272 (lv_at hl 0 rfl) ?_
                      refine lv_lload_n hx hb dX12_joins_274 rfl (lv_at hl 1 rfl) ?_
                      refine lv_ladd hx hb dX12_joins_275 ?_
                      refine lv_lconst (v := (0 : Int64)) hx hb dX12_joins_276 (by decide) ?_
                      refine W.lcmp hx hb dX12_joins_277 ?_
                      refine lv_if_le (tgt := 285) hx hb dX12_joins_278 (by decide) (fun hc => ?_) (fun hc => ?_)
                      · have h := h.1 hc
                        refine lv_lconst (v := (0 : Int64)) hx hb dX12_joins_285 (by decide) ?_
                        exact t_X12_joins_286 C0 hK N  (0 : Int64) τ3 _ _ _ h hP hD hS (lv_sub hl [] rfl)
                      · have h := h.2 hc
                        refine lv_lconst (v := (1 : Int64)) hx hb dX12_joins_281 (by decide) ?_
                        refine lv_goto (tgt := 286) hx hb dX12_joins_282 (by decide) ?_
                        exact t_X12_joins_286 C0 hK N  (1 : Int64) τ3 _ _ _ h hP hD hS (lv_sub hl [] rfl)
                    · have hn9 := hc9
                      have h := h.2 hc9
                      by_cases hc10 : x1 = (11 : Int32)
                      · have h := h.1 hc10
                        refine lv_tableIn (off := 167) (tgt := 203) hx hb dX12_joins_36 (by rw [hc10]; decide) (by rw [hc10]; decide) (by rw [hc10]; rfl) (by decide) ?_
                        refine lv_aload_n hx hb dX12_joins_203 rfl (lv_at hl 2 rfl) ?_
                        refine lv_lload hx hb dX12_joins_204 (lv_at hl 0 rfl) ?_
                        refine lv_lload_n hx hb dX12_joins_206 rfl (lv_at hl 1 rfl) ?_
                        refine W.lcmp hx hb dX12_joins_207 ?_
                        refine lv_if_ge (tgt := 215) hx hb dX12_joins_208 (by decide) (fun hc => ?_) (fun hc => ?_)
                        · have h := h.1 hc
                          refine lv_lconst (v := (0 : Int64)) hx hb dX12_joins_215 (by decide) ?_
                          exact t_X12_joins_216 C0 hK N  (0 : Int64) τ3 _ _ _ h hP hD hS (lv_sub hl [] rfl)
                        · have h := h.2 hc
                          refine lv_lconst (v := (1 : Int64)) hx hb dX12_joins_211 (by decide) ?_
                          refine lv_goto (tgt := 216) hx hb dX12_joins_212 (by decide) ?_
                          exact t_X12_joins_216 C0 hK N  (1 : Int64) τ3 _ _ _ h hP hD hS (lv_sub hl [] rfl)
                      · have hn10 := hc10
                        have h := h.2 hc10
                        by_cases hc11 : x1 = (12 : Int32)
                        · have h := h.1 hc11
                          refine lv_tableIn (off := 186) (tgt := 222) hx hb dX12_joins_36 (by rw [hc11]; decide) (by rw [hc11]; decide) (by rw [hc11]; rfl) (by decide) ?_
                          refine lv_aload_n hx hb dX12_joins_222 rfl (lv_at hl 2 rfl) ?_
                          refine lv_lload hx hb dX12_joins_223 (lv_at hl 0 rfl) ?_
                          refine lv_lload_n hx hb dX12_joins_225 rfl (lv_at hl 1 rfl) ?_
                          refine W.lcmp hx hb dX12_joins_226 ?_
                          refine lv_if_le (tgt := 234) hx hb dX12_joins_227 (by decide) (fun hc => ?_) (fun hc => ?_)
                          · have h := h.1 hc
                            refine lv_lconst (v := (0 : Int64)) hx hb dX12_joins_234 (by decide) ?_
                            exact t_X12_joins_235 C0 hK N  (0 : Int64) τ3 _ _ _ h hP hD hS (lv_sub hl [] rfl)
                          · have h := h.2 hc
                            refine lv_lconst (v := (1 : Int64)) hx hb dX12_joins_230 (by decide) ?_
                            refine lv_goto (tgt := 235) hx hb dX12_joins_231 (by decide) ?_
                            exact t_X12_joins_235 C0 hK N  (1 : Int64) τ3 _ _ _ h hP hD hS (lv_sub hl [] rfl)
                        · have hn11 := hc11
                          have h := h.2 hc11
                          by_cases hc12 : x1 = (13 : Int32)
                          · have h := h.1 hc12
                            refine lv_tableIn (off := 205) (tgt := 241) hx hb dX12_joins_36 (by rw [hc12]; decide) (by rw [hc12]; decide) (by rw [hc12]; rfl) (by decide) ?_
                            refine lv_aload_n hx hb dX12_joins_241 rfl (lv_at hl 2 rfl) ?_
                            refine lv_lload hx hb dX12_joins_242 (lv_at hl 0 rfl) ?_
                            refine lv_lload_n hx hb dX12_joins_244 rfl (lv_at hl 1 rfl) ?_
                            refine W.lcmp hx hb dX12_joins_245 ?_
                            refine lv_if_ne (tgt := 253) hx hb dX12_joins_246 (by decide) (fun hc => ?_) (fun hc => ?_)
                            · have h := h.2 hc
                              refine lv_lconst (v := (0 : Int64)) hx hb dX12_joins_253 (by decide) ?_
                              exact t_X12_joins_254 C0 hK N  (0 : Int64) τ3 _ _ _ h hP hD hS (lv_sub hl [] rfl)
                            · have h := h.1 hc
                              refine lv_lconst (v := (1 : Int64)) hx hb dX12_joins_249 (by decide) ?_
                              refine lv_goto (tgt := 254) hx hb dX12_joins_250 (by decide) ?_
                              exact t_X12_joins_254 C0 hK N  (1 : Int64) τ3 _ _ _ h hP hD hS (lv_sub hl [] rfl)
                          · have hn12 := hc12
                            have h := h.2 hc12
                            by_cases hc13 : x1 = (14 : Int32)
                            · have h := h.1 hc13
                              refine lv_tableIn (off := 224) (tgt := 260) hx hb dX12_joins_36 (by rw [hc13]; decide) (by rw [hc13]; decide) (by rw [hc13]; rfl) (by decide) ?_
                              refine lv_aload_n hx hb dX12_joins_260 rfl (lv_at hl 2 rfl) ?_
                              refine lv_lload hx hb dX12_joins_261 (lv_at hl 0 rfl) ?_
                              refine lv_lload_n hx hb dX12_joins_263 rfl (lv_at hl 1 rfl) ?_
                              refine lv_lmul hx hb dX12_joins_264 ?_
                              refine k_X12_puts N ⟨hx, hb, hml, hown, hts⟩ mw_1122 ⟨Nat.le_of_ble_eq_true rfl, Nat.le_of_ble_eq_true rfl⟩ h hK hP hD hS hl.1 (rest := []) (Nat.le_of_ble_eq_true rfl) ⟨Nat.le_of_ble_eq_true rfl, Nat.le_of_ble_eq_true rfl⟩ dX12_joins_265 (fun τ21 H locs h hP hD hS => ?_)
                              refine lv_goto (tgt := 289) hx hb dX12_joins_268 (by decide) ?_
                              exact zret_v hx hb hr hlocks hK hP hD hS h dX12_joins_289
                            · have hn13 := hc13
                              have h := h.2 hc13
                              refine lv_tableOut (tgt := 271) hx hb dX12_joins_36 (by have e0 := zne (k := 1) (by decide) hn0; have e1 := zne (k := 2) (by decide) hn1; have e2 := zne (k := 3) (by decide) hn2; have e3 := zne (k := 4) (by decide) hn3; have e4 := zne (k := 5) (by decide) hn4; have e5 := zne (k := 6) (by decide) hn5; have e6 := zne (k := 7) (by decide) hn6; have e7 := zne (k := 8) (by decide) hn7; have e8 := zne (k := 9) (by decide) hn8; have e9 := zne (k := 10) (by decide) hn9; have e10 := zne (k := 11) (by decide) hn10; have e11 := zne (k := 12) (by decide) hn11; have e12 := zne (k := 13) (by decide) hn12; have e13 := zne (k := 14) (by decide) hn13; omega) (by decide) ?_
                              refine lv_aload_n hx hb dX12_joins_271 rfl (lv_at hl 2 rfl) ?_
                              refine lv_lload hx hb dX12_joins_272 (lv_at hl 0 rfl) ?_
                              refine lv_lload_n hx hb dX12_joins_274 rfl (lv_at hl 1 rfl) ?_
                              refine lv_ladd hx hb dX12_joins_275 ?_
                              refine lv_lconst (v := (0 : Int64)) hx hb dX12_joins_276 (by decide) ?_
                              refine W.lcmp hx hb dX12_joins_277 ?_
                              refine lv_if_le (tgt := 285) hx hb dX12_joins_278 (by decide) (fun hc => ?_) (fun hc => ?_)
                              · have h := h.1 hc
                                refine lv_lconst (v := (0 : Int64)) hx hb dX12_joins_285 (by decide) ?_
                                exact t_X12_joins_286 C0 hK N  (0 : Int64) τ3 _ _ _ h hP hD hS (lv_sub hl [] rfl)
                              · have h := h.2 hc
                                refine lv_lconst (v := (1 : Int64)) hx hb dX12_joins_281 (by decide) ?_
                                refine lv_goto (tgt := 286) hx hb dX12_joins_282 (by decide) ?_
                                exact t_X12_joins_286 C0 hK N  (1 : Int64) τ3 _ _ _ h hP hD hS (lv_sub hl [] rfl)
set_option maxHeartbeats 4000000 in
set_option maxRecDepth 100000 in
theorem c_X12_joins (N : Nat) (l : Launch) (dC : Nat → ClassId) (dI : Nat → Nat → Nat) (ad : Nat → Nat) (cI cJ cC : ClassId) (sz : Nat) (σ : zSt) (x1 : Int32) (Q : zSt → Prop) (h : w_X12_joins N x1 σ Q) : Met l yX12_joins vs_X12_joins rm_X12_joins (va_Pc [.ref (ad 0), .int x1] (zPc (dC, dI) (m_ty cI cJ cC) (m_W ad cI cJ cC) sz σ)) (zQv (dC, dI) (m_ty cI cJ cC) (m_W ad cI cJ cC) (zAW m_n ad sz) Q) 0 0 (zAW m_n ad sz) := by
  refine Met.ofW (cc := cX12_joins) (maxL := 6) (ret := none) (by decide) rfl ?_
  intro p e s m args below meth c s₁ B hml hv
  obtain ⟨rfl, hsz, hP, hK, hD0⟩ := hv
  subst hsz
  have C0 : zCx p s m meth c _ RX12 cX12_joins 6 none vs_X12_joins := ⟨B.exec, B.bytes, hml, B.returns, findClass_of_methodNamed B.named, atoms_spec (ws := vs_X12_joins) B.pre, B.notSynchronized⟩
  have hD := m_D0 (n0 := s.heap.size) hD0
  have hl := lv_entry ([.ref (ad 0), .int x1]) (n := 6) (Nat.le_of_ble_eq_true rfl)
  rw [lg_entry_eq]
  generalize (lg_sl ([.ref (ad 0), .int x1]) ++ List.replicate (6 - (lg_sl ([.ref (ad 0), .int x1])).length) Slot.unset).toArray = ls at hl ⊢
  exact t_X12_joins_0 C0 hK N x1 σ _ _ ls h hP hD va_S.rf hl
theorem k_X12_joins (N : Nat) {R : Room} {H : Heap} {locs : List Loc} {cells slots : Nat} {Q2 : State → Prop} {cc : ByteArray} {nL pc index : Nat} {ls : Array Slot} {rest : List Value} {own : String} {c0 : Cond} {σ : zSt} {x1 : Int32} {Q : zSt → Prop} (S0 : CallFix p m c cc nL s args (c0 :: zT) own) (hml : Cond.methodLink own index yX12_joins ∈ zT) (hR : rm_X12_joins.frames + 1 ≤ R.frames ∧ 8 + (6 + 11) + rm_X12_joins.locals ≤ R.locals) (h : w_X12_joins N x1 σ Q) (hK : va_K (dC, dI) vwCl (m_ty cI cJ cC) s) (hP : va_P (dC, dI) vwCl (m_W ad cI cJ cC σ) H) (hD : va_D (zAW m_n ad s.heap.size) (m_W ad cI cJ cC σ)) (hS : va_S (zAW m_n ad s.heap.size) s.heap H locs) (hsz : ls.size = nL) (hW : (rest.map fun v => v.category).sum ≤ 8) (hcs : cells ≤ R.cells ∧ slots ≤ R.slots) (hdg : decode cc pc = .ok (.invokevirtual index, 3)) (kk : ∀ (τ : zSt) (H1 : Heap) (locs1 : List Loc), Q τ → va_P (dC, dI) vwCl (m_W ad cI cJ cC τ) H1 → va_D (zAW m_n ad s.heap.size) (m_W ad cI cJ cC τ) → va_S (zAW m_n ad s.heap.size) s.heap H1 locs1 → W p l e R s m args below meth c H1 locs1 cells slots Q2 (F0 m (pc + 3) ls (rest))) : W p l e R s m args below meth c H locs cells slots Q2 (F0 m pc ls (.int x1 :: .ref (ad 0) :: rest)) :=
  zcv_v (T := TX12) (N' := 83) (k := 0) (ci := 12) (fs := m_f0 ad σ) [.int x1] S0 (c_X12_joins N l dC dI ad cI cJ cC H.size σ x1 Q h) (cw_X12_joins S0.2.2.2.2 hml rfl rfl hR) rfl rfl hK hP hD hS rfl hsz hW rfl hcs hdg kk
end q20
section q20
def b_X12_tellsCodes_179 (N : Nat) (k_8 : Int32 → Int32 → Int32 → Int32 → zSt → Prop) (Q : Int64 → zSt → Prop) (x2 : Int32) (x3 : Int32) (x4 : Int32) (x5 : Int32) (s0 : Int64) (σ : zSt) : Prop :=
  w_X12_puts N s0 σ (fun τ2 => ∀ v3 : Int32, v3 = x5 + (1 : Int32) → k_8 x2 x3 x4 v3 τ2)
def b_X12_tellsCodes_71 (N : Nat) (k_8 : Int32 → Int32 → Int32 → Int32 → zSt → Prop) (Q : Int64 → zSt → Prop) (x2 : Int32) (x3 : Int32) (x4 : Int32) (x5 : Int32) (s0 : Int64) (σ : zSt) : Prop :=
  w_X12_puts N s0 σ (fun τ2 => ∀ v3 : Int32, v3 = x5 + (1 : Int32) → k_8 x2 x3 x4 v3 τ2)
def b_X12_tellsCodes_8 (N : Nat) (k_8 : Int32 → Int32 → Int32 → Int32 → zSt → Prop) (Q : Int64 → zSt → Prop) (x2 : Int32) (x3 : Int32) (x4 : Int32) (x5 : Int32) (σ : zSt) : Prop :=
  (x2 ≤ x5 → Q (σ.2.2.2 2 0) σ) ∧ (¬ x2 ≤ x5 → (vp_in ((900 : Int32) + x5) 1800) ∧ (∀ v1 : Int32, v1 = σ.2.2.1 10 ((900 : Int32) + x5).toNatClampNeg → (v1 < (1000 : Int32) → (v1 < (100 : Int32) → (v1 = (7 : Int32) → (vp_in (((10 : Int32) * x3) + x4) 100) ∧ (w_X12_puts N (σ.2.2.1 12 (((10 : Int32) * x3) + x4).toNatClampNeg).toInt64 σ (fun τ20 => ∀ v21 : Int32, v21 = x5 + (1 : Int32) → k_8 x2 x3 x4 v21 τ20))) ∧ (¬ v1 = (7 : Int32) → (v1 = (8 : Int32) → (vp_in ((10 : Int32) + x3) 20) ∧ ((vp_in ((10 : Int32) + x4) 20) ∧ (((σ.2.2.1 2 ((10 : Int32) + x3).toNatClampNeg) ≤ (σ.2.2.1 2 ((10 : Int32) + x4).toNatClampNeg) → (vp_in ((10 : Int32) + x4) 20) ∧ ((vp_in ((10 : Int32) + x3) 20) ∧ (b_X12_tellsCodes_179 N k_8 Q x2 x3 x4 x5 ((σ.2.2.1 2 ((10 : Int32) + x4).toNatClampNeg) - (σ.2.2.1 2 ((10 : Int32) + x3).toNatClampNeg)).toInt64 σ))) ∧ (¬ (σ.2.2.1 2 ((10 : Int32) + x3).toNatClampNeg) ≤ (σ.2.2.1 2 ((10 : Int32) + x4).toNatClampNeg) → (vp_in ((10 : Int32) + x3) 20) ∧ ((vp_in ((10 : Int32) + x4) 20) ∧ (b_X12_tellsCodes_179 N k_8 Q x2 x3 x4 x5 ((σ.2.2.1 2 ((10 : Int32) + x3).toNatClampNeg) - (σ.2.2.1 2 ((10 : Int32) + x4).toNatClampNeg)).toInt64 σ)))))) ∧ (¬ v1 = (8 : Int32) → (v1 = (9 : Int32) → (vp_in x3 10) ∧ (w_X12_puts N (σ.2.2.1 13 x3.toNatClampNeg).toInt64 σ (fun τ17 => ∀ v18 : Int32, v18 = x5 + (1 : Int32) → k_8 x2 x3 x4 v18 τ17))) ∧ (¬ v1 = (9 : Int32) → (v1 = (10 : Int32) → (vp_in x4 10) ∧ (w_X12_puts N (σ.2.2.1 13 x4.toNatClampNeg).toInt64 σ (fun τ14 => ∀ v15 : Int32, v15 = x5 + (1 : Int32) → k_8 x2 x3 x4 v15 τ14))) ∧ (¬ v1 = (10 : Int32) → (v1 = (18 : Int32) → w_X12_puts N (σ.1 15).toInt64 σ (fun τ11 => ∀ v12 : Int32, v12 = x5 + (1 : Int32) → k_8 x2 x3 x4 v12 τ11)) ∧ (¬ v1 = (18 : Int32) → (v1 = (17 : Int32) → w_X12_puts N (1 : Int64) σ (fun τ8 => ∀ v9 : Int32, v9 = x5 + (1 : Int32) → k_8 x2 x3 x4 v9 τ8)) ∧ (¬ v1 = (17 : Int32) → (v1 = (16 : Int32) → (vp_in ((σ.1 18) - (1 : Int32)) 900) ∧ ((vp_in ((σ.1 18) - (1 : Int32)) 900) ∧ (∀ τ5 : zSt, τ5 = zB σ 2 (vp_updL (σ.2.2.2 2) (((σ.1 18) - (1 : Int32)).toNatClampNeg) ((1 : Int64) - (σ.2.2.2 2 ((σ.1 18) - (1 : Int32)).toNatClampNeg))) → ∀ v6 : Int32, v6 = x5 + (1 : Int32) → k_8 x2 x3 x4 v6 τ5))) ∧ (¬ v1 = (16 : Int32) → w_X12_joins N v1 σ (fun τ3 => ∀ v4 : Int32, v4 = x5 + (1 : Int32) → k_8 x2 x3 x4 v4 τ3))))))))) ∧ (¬ v1 < (100 : Int32) → ((v1 - (100 : Int32)) = x3 → b_X12_tellsCodes_71 N k_8 Q x2 x3 x4 x5 (1 : Int64) σ) ∧ (¬ (v1 - (100 : Int32)) = x3 → b_X12_tellsCodes_71 N k_8 Q x2 x3 x4 x5 (0 : Int64) σ))) ∧ (¬ v1 < (1000 : Int32) → w_X12_puts N (v1 - (1000 : Int32)).toInt64 σ (fun τ23 => ∀ v24 : Int32, v24 = x5 + (1 : Int32) → k_8 x2 x3 x4 v24 τ23))))
def w_X12_tellsCodes_8 (N : Nat) (Q : Int64 → zSt → Prop) : Nat → Int32 → Int32 → Int32 → Int32 → zSt → Prop
  | 0 => fun _ _ _ _ _ => False
  | f + 1 => b_X12_tellsCodes_8 N (w_X12_tellsCodes_8 N  Q f) Q
def w_X12_tellsCodes (N : Nat) (x1 : Int32) (x2 : Int32) (x3 : Int32) (x4 : Int32) (σ : zSt) (Q : Int64 → zSt → Prop) : Prop :=
  ∀ τ1 : zSt, τ1 = zI σ 18 (0 : Int32) → w_X12_tellsCodes_8 N Q N x2 x3 x4 x1 τ1
variable {p : Program} {l : Launch} {e : Env} {s : State} {m : MethodId} {args : Array Value} {below : List Frame} {meth : Method} {c : Code} {dC : Nat → ClassId} {dI : Nat → Nat → Nat} {ad : Nat → Nat} {cI cJ cC : ClassId}
set_option maxHeartbeats 4000000 in
set_option maxRecDepth 100000 in
theorem t_X12_tellsCodes_179 (C0 : zCx p s m meth c args RX12 cX12_tellsCodes 7 (some .long) vs_X12_tellsCodes) (hK : va_K (dC, dI) vwCl (m_ty cI cJ cC) s) (N : Nat) {Q : Int64 → zSt → Prop} {k_8 : Int32 → Int32 → Int32 → Int32 → zSt → Prop} (hk_8 : ∀ (x2 : Int32) (x3 : Int32) (x4 : Int32) (x5 : Int32) (σ : zSt) (H : Heap) (locs : List Loc) (ls : Array Slot), k_8 x2 x3 x4 x5 σ → va_P (dC, dI) vwCl (m_W ad cI cJ cC σ) H → va_D (zAW m_n ad s.heap.size) (m_W ad cI cJ cC σ) → va_S (zAW m_n ad s.heap.size) s.heap H locs → lv_has ls 7 [(0, .ref (ad 0)), (2, .int x2), (3, .int x3), (4, .int x4), (5, .int x5)] → W p l e rm_X12_tellsCodes s m args below meth c H locs 0 0 (MQ below (zQl (dC, dI) (m_ty cI cJ cC) (m_W ad cI cJ cC) (zAW m_n ad s.heap.size) Q) args s 0 0 (zAW m_n ad s.heap.size)) (F0 m 8 ls [])) : ∀ (x2 : Int32) (x3 : Int32) (x4 : Int32) (x5 : Int32) (s0 : Int64) (σ : zSt) (H : Heap) (locs : List Loc) (ls : Array Slot), b_X12_tellsCodes_179 N k_8 Q x2 x3 x4 x5 s0 σ → va_P (dC, dI) vwCl (m_W ad cI cJ cC σ) H → va_D (zAW m_n ad s.heap.size) (m_W ad cI cJ cC σ) → va_S (zAW m_n ad s.heap.size) s.heap H locs → lv_has ls 7 [(0, .ref (ad 0)), (2, .int x2), (3, .int x3), (4, .int x4), (5, .int x5)] → W p l e rm_X12_tellsCodes s m args below meth c H locs 0 0 (MQ below (zQl (dC, dI) (m_ty cI cJ cC) (m_W ad cI cJ cC) (zAW m_n ad s.heap.size) Q) args s 0 0 (zAW m_n ad s.heap.size)) (F0 m 179 ls [.long s0, .ref (ad 0)]) := by
  obtain ⟨hx, hb, hml, hr, hown, hts, hlocks⟩ := id C0
  intro x2 x3 x4 x5 s0 σ H locs ls h hP hD hS hl
  unfold b_X12_tellsCodes_179 at h
  refine k_X12_puts N ⟨hx, hb, hml, hown, hts⟩ mw_1122 ⟨Nat.le_of_ble_eq_true rfl, Nat.le_of_ble_eq_true rfl⟩ h hK hP hD hS hl.1 (rest := []) (Nat.le_of_ble_eq_true rfl) ⟨Nat.le_of_ble_eq_true rfl, Nat.le_of_ble_eq_true rfl⟩ dX12_tellsCodes_179 (fun τ2 H locs h hP hD hS => ?_)
  refine lv_goto (tgt := 302) hx hb dX12_tellsCodes_182 (by decide) ?_
  obtain ⟨v3, ev3⟩ : ∃ z : Int32, z = x5 + (1 : Int32) := ⟨_, rfl⟩
  have h := h v3 ev3
  refine lv_iinc (v := v3) (lv' := [(5, .int v3), (0, .ref (ad 0)), (2, .int x2), (3, .int x3), (4, .int x4)]) hx hb dX12_tellsCodes_302 hl (k := 4) rfl (by rw [ev3]; rfl) (by decide) rfl (fun ls hl => ?_)
  refine lv_goto (tgt := 8) hx hb dX12_tellsCodes_305 (by decide) ?_
  exact hk_8 x2 x3 x4 v3 τ2 _ _ _ h hP hD hS (lv_sub hl [1, 2, 3, 4, 0] rfl)
set_option maxHeartbeats 4000000 in
set_option maxRecDepth 100000 in
theorem t_X12_tellsCodes_71 (C0 : zCx p s m meth c args RX12 cX12_tellsCodes 7 (some .long) vs_X12_tellsCodes) (hK : va_K (dC, dI) vwCl (m_ty cI cJ cC) s) (N : Nat) {Q : Int64 → zSt → Prop} {k_8 : Int32 → Int32 → Int32 → Int32 → zSt → Prop} (hk_8 : ∀ (x2 : Int32) (x3 : Int32) (x4 : Int32) (x5 : Int32) (σ : zSt) (H : Heap) (locs : List Loc) (ls : Array Slot), k_8 x2 x3 x4 x5 σ → va_P (dC, dI) vwCl (m_W ad cI cJ cC σ) H → va_D (zAW m_n ad s.heap.size) (m_W ad cI cJ cC σ) → va_S (zAW m_n ad s.heap.size) s.heap H locs → lv_has ls 7 [(0, .ref (ad 0)), (2, .int x2), (3, .int x3), (4, .int x4), (5, .int x5)] → W p l e rm_X12_tellsCodes s m args below meth c H locs 0 0 (MQ below (zQl (dC, dI) (m_ty cI cJ cC) (m_W ad cI cJ cC) (zAW m_n ad s.heap.size) Q) args s 0 0 (zAW m_n ad s.heap.size)) (F0 m 8 ls [])) : ∀ (x2 : Int32) (x3 : Int32) (x4 : Int32) (x5 : Int32) (s0 : Int64) (σ : zSt) (H : Heap) (locs : List Loc) (ls : Array Slot), b_X12_tellsCodes_71 N k_8 Q x2 x3 x4 x5 s0 σ → va_P (dC, dI) vwCl (m_W ad cI cJ cC σ) H → va_D (zAW m_n ad s.heap.size) (m_W ad cI cJ cC σ) → va_S (zAW m_n ad s.heap.size) s.heap H locs → lv_has ls 7 [(0, .ref (ad 0)), (2, .int x2), (3, .int x3), (4, .int x4), (5, .int x5)] → W p l e rm_X12_tellsCodes s m args below meth c H locs 0 0 (MQ below (zQl (dC, dI) (m_ty cI cJ cC) (m_W ad cI cJ cC) (zAW m_n ad s.heap.size) Q) args s 0 0 (zAW m_n ad s.heap.size)) (F0 m 71 ls [.long s0, .ref (ad 0)]) := by
  obtain ⟨hx, hb, hml, hr, hown, hts, hlocks⟩ := id C0
  intro x2 x3 x4 x5 s0 σ H locs ls h hP hD hS hl
  unfold b_X12_tellsCodes_71 at h
  refine k_X12_puts N ⟨hx, hb, hml, hown, hts⟩ mw_1122 ⟨Nat.le_of_ble_eq_true rfl, Nat.le_of_ble_eq_true rfl⟩ h hK hP hD hS hl.1 (rest := []) (Nat.le_of_ble_eq_true rfl) ⟨Nat.le_of_ble_eq_true rfl, Nat.le_of_ble_eq_true rfl⟩ dX12_tellsCodes_71 (fun τ2 H locs h hP hD hS => ?_)
  refine lv_goto (tgt := 302) hx hb dX12_tellsCodes_74 (by decide) ?_
  obtain ⟨v3, ev3⟩ : ∃ z : Int32, z = x5 + (1 : Int32) := ⟨_, rfl⟩
  have h := h v3 ev3
  refine lv_iinc (v := v3) (lv' := [(5, .int v3), (0, .ref (ad 0)), (2, .int x2), (3, .int x3), (4, .int x4)]) hx hb dX12_tellsCodes_302 hl (k := 4) rfl (by rw [ev3]; rfl) (by decide) rfl (fun ls hl => ?_)
  refine lv_goto (tgt := 8) hx hb dX12_tellsCodes_305 (by decide) ?_
  exact hk_8 x2 x3 x4 v3 τ2 _ _ _ h hP hD hS (lv_sub hl [1, 2, 3, 4, 0] rfl)
set_option maxHeartbeats 4000000 in
set_option maxRecDepth 100000 in
theorem tb_X12_tellsCodes_8 (C0 : zCx p s m meth c args RX12 cX12_tellsCodes 7 (some .long) vs_X12_tellsCodes) (hK : va_K (dC, dI) vwCl (m_ty cI cJ cC) s) (N : Nat) {Q : Int64 → zSt → Prop} {k_8 : Int32 → Int32 → Int32 → Int32 → zSt → Prop} (hk_8 : ∀ (x2 : Int32) (x3 : Int32) (x4 : Int32) (x5 : Int32) (σ : zSt) (H : Heap) (locs : List Loc) (ls : Array Slot), k_8 x2 x3 x4 x5 σ → va_P (dC, dI) vwCl (m_W ad cI cJ cC σ) H → va_D (zAW m_n ad s.heap.size) (m_W ad cI cJ cC σ) → va_S (zAW m_n ad s.heap.size) s.heap H locs → lv_has ls 7 [(0, .ref (ad 0)), (2, .int x2), (3, .int x3), (4, .int x4), (5, .int x5)] → W p l e rm_X12_tellsCodes s m args below meth c H locs 0 0 (MQ below (zQl (dC, dI) (m_ty cI cJ cC) (m_W ad cI cJ cC) (zAW m_n ad s.heap.size) Q) args s 0 0 (zAW m_n ad s.heap.size)) (F0 m 8 ls [])) : ∀ (x2 : Int32) (x3 : Int32) (x4 : Int32) (x5 : Int32) (σ : zSt) (H : Heap) (locs : List Loc) (ls : Array Slot), b_X12_tellsCodes_8 N k_8 Q x2 x3 x4 x5 σ → va_P (dC, dI) vwCl (m_W ad cI cJ cC σ) H → va_D (zAW m_n ad s.heap.size) (m_W ad cI cJ cC σ) → va_S (zAW m_n ad s.heap.size) s.heap H locs → lv_has ls 7 [(0, .ref (ad 0)), (2, .int x2), (3, .int x3), (4, .int x4), (5, .int x5)] → W p l e rm_X12_tellsCodes s m args below meth c H locs 0 0 (MQ below (zQl (dC, dI) (m_ty cI cJ cC) (m_W ad cI cJ cC) (zAW m_n ad s.heap.size) Q) args s 0 0 (zAW m_n ad s.heap.size)) (F0 m 8 ls []) := by
  obtain ⟨hx, hb, hml, hr, hown, hts, hlocks⟩ := id C0
  intro x2 x3 x4 x5 σ H locs ls h hP hD hS hl
  unfold b_X12_tellsCodes_8 at h
  refine lv_iload hx hb dX12_tellsCodes_8 (lv_at hl 4 rfl) ?_
  refine lv_iload_n hx hb dX12_tellsCodes_10 rfl (lv_at hl 1 rfl) ?_
  refine lv_icmp_ge (tgt := 308) hx hb dX12_tellsCodes_11 (by decide) (fun hc => ?_) (fun hc => ?_)
  · have h := h.1 hc
    refine lv_aload_n hx hb dX12_tellsCodes_308 rfl (lv_at hl 0 rfl) ?_
    refine mg_0_55 hx hb hts hown hK hP mw_888 dX12_tellsCodes_309 ?_
    refine lv_iconst (v := (0 : Int32)) hx hb dX12_tellsCodes_312 (by decide) ?_
    refine ma_17 (j := 0) hx hb hK hP (zin (by decide)) (by decide) dX12_tellsCodes_313 ?_
    exact zret_l hx hb hr hlocks hK hP hD hS h dX12_tellsCodes_314
  · have h := h.2 hc
    refine lv_aload_n hx hb dX12_tellsCodes_14 rfl (lv_at hl 0 rfl) ?_
    refine mg_0_40 hx hb hts hown hK hP mw_873 dX12_tellsCodes_15 ?_
    refine lv_sipush (v := (900 : Int32)) hx hb dX12_tellsCodes_18 (by decide) ?_
    refine lv_iload hx hb dX12_tellsCodes_21 (lv_at hl 4 rfl) ?_
    refine lv_iadd hx hb dX12_tellsCodes_23 ?_
    refine ma_13 hx hb hK hP h.1 rfl dX12_tellsCodes_24 ?_
    have h := h.2
    refine lv_topi (fun v1 ev1 => ?_)
    have h := h v1 ev1
    refine lv_istore (lv' := [(6, .int v1), (0, .ref (ad 0)), (2, .int x2), (3, .int x3), (4, .int x4), (5, .int x5)]) hx hb dX12_tellsCodes_25 hl (by decide) rfl (fun ls hl => ?_)
    refine lv_iload hx hb dX12_tellsCodes_27 (lv_at hl 0 rfl) ?_
    refine lv_sipush (v := (1000 : Int32)) hx hb dX12_tellsCodes_29 (by decide) ?_
    refine lv_icmp_lt (tgt := 49) hx hb dX12_tellsCodes_32 (by decide) (fun hc => ?_) (fun hc => ?_)
    · have h := h.1 hc
      refine lv_iload hx hb dX12_tellsCodes_49 (lv_at hl 0 rfl) ?_
      refine lv_bipush (v := (100 : Int32)) hx hb dX12_tellsCodes_51 (by decide) ?_
      refine lv_icmp_lt (tgt := 77) hx hb dX12_tellsCodes_53 (by decide) (fun hc => ?_) (fun hc => ?_)
      · have h := h.1 hc
        refine lv_iload hx hb dX12_tellsCodes_77 (lv_at hl 0 rfl) ?_
        refine lv_bipush (v := (7 : Int32)) hx hb dX12_tellsCodes_79 (by decide) ?_
        refine lv_icmp_ne (tgt := 104) hx hb dX12_tellsCodes_81 (by decide) (fun hc => ?_) (fun hc => ?_)
        · have h := h.2 hc
          refine lv_iload hx hb dX12_tellsCodes_104 (lv_at hl 0 rfl) ?_
          refine lv_bipush (v := (8 : Int32)) hx hb dX12_tellsCodes_106 (by decide) ?_
          refine lv_icmp_ne (tgt := 185) hx hb dX12_tellsCodes_108 (by decide) (fun hc => ?_) (fun hc => ?_)
          · have h := h.2 hc
            refine lv_iload hx hb dX12_tellsCodes_185 (lv_at hl 0 rfl) ?_
            refine lv_bipush (v := (9 : Int32)) hx hb dX12_tellsCodes_187 (by decide) ?_
            refine lv_icmp_ne (tgt := 206) hx hb dX12_tellsCodes_189 (by decide) (fun hc => ?_) (fun hc => ?_)
            · have h := h.2 hc
              refine lv_iload hx hb dX12_tellsCodes_206 (lv_at hl 0 rfl) ?_
              refine lv_bipush (v := (10 : Int32)) hx hb dX12_tellsCodes_208 (by decide) ?_
              refine lv_icmp_ne (tgt := 228) hx hb dX12_tellsCodes_210 (by decide) (fun hc => ?_) (fun hc => ?_)
              · have h := h.2 hc
                refine lv_iload hx hb dX12_tellsCodes_228 (lv_at hl 0 rfl) ?_
                refine lv_bipush (v := (18 : Int32)) hx hb dX12_tellsCodes_230 (by decide) ?_
                refine lv_icmp_ne (tgt := 247) hx hb dX12_tellsCodes_232 (by decide) (fun hc => ?_) (fun hc => ?_)
                · have h := h.2 hc
                  refine lv_iload hx hb dX12_tellsCodes_247 (lv_at hl 0 rfl) ?_
                  refine lv_bipush (v := (17 : Int32)) hx hb dX12_tellsCodes_249 (by decide) ?_
                  refine lv_icmp_ne (tgt := 262) hx hb dX12_tellsCodes_251 (by decide) (fun hc => ?_) (fun hc => ?_)
                  · have h := h.2 hc
                    refine lv_iload hx hb dX12_tellsCodes_262 (lv_at hl 0 rfl) ?_
                    refine lv_bipush (v := (16 : Int32)) hx hb dX12_tellsCodes_264 (by decide) ?_
                    refine lv_icmp_ne (tgt := 296) hx hb dX12_tellsCodes_266 (by decide) (fun hc => ?_) (fun hc => ?_)
                    · have h := h.2 hc
                      refine lv_aload_n hx hb dX12_tellsCodes_296 rfl (lv_at hl 1 rfl) ?_
                      refine lv_iload hx hb dX12_tellsCodes_297 (lv_at hl 0 rfl) ?_
                      refine k_X12_joins N ⟨hx, hb, hml, hown, hts⟩ mw_1125 ⟨Nat.le_of_ble_eq_true rfl, Nat.le_of_ble_eq_true rfl⟩ h hK hP hD hS hl.1 (rest := []) (Nat.le_of_ble_eq_true rfl) ⟨Nat.le_of_ble_eq_true rfl, Nat.le_of_ble_eq_true rfl⟩ dX12_tellsCodes_299 (fun τ3 H locs h hP hD hS => ?_)
                      obtain ⟨v4, ev4⟩ : ∃ z : Int32, z = x5 + (1 : Int32) := ⟨_, rfl⟩
                      have h := h v4 ev4
                      refine lv_iinc (v := v4) (lv' := [(5, .int v4), (6, .int v1), (0, .ref (ad 0)), (2, .int x2), (3, .int x3), (4, .int x4)]) hx hb dX12_tellsCodes_302 hl (k := 5) rfl (by rw [ev4]; rfl) (by decide) rfl (fun ls hl => ?_)
                      refine lv_goto (tgt := 8) hx hb dX12_tellsCodes_305 (by decide) ?_
                      exact hk_8 x2 x3 x4 v4 τ3 _ _ _ h hP hD hS (lv_sub hl [2, 3, 4, 5, 0] rfl)
                    · have h := h.1 hc
                      refine lv_aload_n hx hb dX12_tellsCodes_269 rfl (lv_at hl 1 rfl) ?_
                      refine mg_0_55 hx hb hts hown hK hP mw_888 dX12_tellsCodes_270 ?_
                      refine lv_aload_n hx hb dX12_tellsCodes_273 rfl (lv_at hl 1 rfl) ?_
                      refine mg_0_56 hx hb hts hown hK hP mw_889 dX12_tellsCodes_274 ?_
                      refine lv_iconst (v := (1 : Int32)) hx hb dX12_tellsCodes_277 (by decide) ?_
                      refine lv_isub hx hb dX12_tellsCodes_278 ?_
                      refine lv_lconst (v := (1 : Int64)) hx hb dX12_tellsCodes_279 (by decide) ?_
                      refine lv_aload_n hx hb dX12_tellsCodes_280 rfl (lv_at hl 1 rfl) ?_
                      refine mg_0_55 hx hb hts hown hK hP mw_888 dX12_tellsCodes_281 ?_
                      refine lv_aload_n hx hb dX12_tellsCodes_284 rfl (lv_at hl 1 rfl) ?_
                      refine mg_0_56 hx hb hts hown hK hP mw_889 dX12_tellsCodes_285 ?_
                      refine lv_iconst (v := (1 : Int32)) hx hb dX12_tellsCodes_288 (by decide) ?_
                      refine lv_isub hx hb dX12_tellsCodes_289 ?_
                      refine ma_17 hx hb hK hP h.1 rfl dX12_tellsCodes_290 ?_
                      have h := h.2
                      refine lv_lsub hx hb dX12_tellsCodes_291 ?_
                      refine ms_17 hx hb hK hP hD hS h.1 rfl dX12_tellsCodes_292 (fun τ5 H locs eτ5 hP hD hS => ?_)
                      have h := h.2
                      have h := h τ5 eτ5
                      refine lv_goto (tgt := 302) hx hb dX12_tellsCodes_293 (by decide) ?_
                      obtain ⟨v6, ev6⟩ : ∃ z : Int32, z = x5 + (1 : Int32) := ⟨_, rfl⟩
                      have h := h v6 ev6
                      refine lv_iinc (v := v6) (lv' := [(5, .int v6), (6, .int v1), (0, .ref (ad 0)), (2, .int x2), (3, .int x3), (4, .int x4)]) hx hb dX12_tellsCodes_302 hl (k := 5) rfl (by rw [ev6]; rfl) (by decide) rfl (fun ls hl => ?_)
                      refine lv_goto (tgt := 8) hx hb dX12_tellsCodes_305 (by decide) ?_
                      exact hk_8 x2 x3 x4 v6 τ5 _ _ _ h hP hD hS (lv_sub hl [2, 3, 4, 5, 0] rfl)
                  · have h := h.1 hc
                    refine lv_aload_n hx hb dX12_tellsCodes_254 rfl (lv_at hl 1 rfl) ?_
                    refine lv_lconst (v := (1 : Int64)) hx hb dX12_tellsCodes_255 (by decide) ?_
                    refine k_X12_puts N ⟨hx, hb, hml, hown, hts⟩ mw_1122 ⟨Nat.le_of_ble_eq_true rfl, Nat.le_of_ble_eq_true rfl⟩ h hK hP hD hS hl.1 (rest := []) (Nat.le_of_ble_eq_true rfl) ⟨Nat.le_of_ble_eq_true rfl, Nat.le_of_ble_eq_true rfl⟩ dX12_tellsCodes_256 (fun τ8 H locs h hP hD hS => ?_)
                    refine lv_goto (tgt := 302) hx hb dX12_tellsCodes_259 (by decide) ?_
                    obtain ⟨v9, ev9⟩ : ∃ z : Int32, z = x5 + (1 : Int32) := ⟨_, rfl⟩
                    have h := h v9 ev9
                    refine lv_iinc (v := v9) (lv' := [(5, .int v9), (6, .int v1), (0, .ref (ad 0)), (2, .int x2), (3, .int x3), (4, .int x4)]) hx hb dX12_tellsCodes_302 hl (k := 5) rfl (by rw [ev9]; rfl) (by decide) rfl (fun ls hl => ?_)
                    refine lv_goto (tgt := 8) hx hb dX12_tellsCodes_305 (by decide) ?_
                    exact hk_8 x2 x3 x4 v9 τ8 _ _ _ h hP hD hS (lv_sub hl [2, 3, 4, 5, 0] rfl)
                · have h := h.1 hc
                  refine lv_aload_n hx hb dX12_tellsCodes_235 rfl (lv_at hl 1 rfl) ?_
                  refine lv_aload_n hx hb dX12_tellsCodes_236 rfl (lv_at hl 1 rfl) ?_
                  refine mg_0_52 hx hb hts hown hK hP mw_885 dX12_tellsCodes_237 ?_
                  refine lv_i2l hx hb dX12_tellsCodes_240 rfl ?_
                  refine k_X12_puts N ⟨hx, hb, hml, hown, hts⟩ mw_1122 ⟨Nat.le_of_ble_eq_true rfl, Nat.le_of_ble_eq_true rfl⟩ h hK hP hD hS hl.1 (rest := []) (Nat.le_of_ble_eq_true rfl) ⟨Nat.le_of_ble_eq_true rfl, Nat.le_of_ble_eq_true rfl⟩ dX12_tellsCodes_241 (fun τ11 H locs h hP hD hS => ?_)
                  refine lv_goto (tgt := 302) hx hb dX12_tellsCodes_244 (by decide) ?_
                  obtain ⟨v12, ev12⟩ : ∃ z : Int32, z = x5 + (1 : Int32) := ⟨_, rfl⟩
                  have h := h v12 ev12
                  refine lv_iinc (v := v12) (lv' := [(5, .int v12), (6, .int v1), (0, .ref (ad 0)), (2, .int x2), (3, .int x3), (4, .int x4)]) hx hb dX12_tellsCodes_302 hl (k := 5) rfl (by rw [ev12]; rfl) (by decide) rfl (fun ls hl => ?_)
                  refine lv_goto (tgt := 8) hx hb dX12_tellsCodes_305 (by decide) ?_
                  exact hk_8 x2 x3 x4 v12 τ11 _ _ _ h hP hD hS (lv_sub hl [2, 3, 4, 5, 0] rfl)
              · have h := h.1 hc
                refine lv_aload_n hx hb dX12_tellsCodes_213 rfl (lv_at hl 1 rfl) ?_
                refine lv_aload_n hx hb dX12_tellsCodes_214 rfl (lv_at hl 1 rfl) ?_
                refine mg_0_51 hx hb hts hown hK hP mw_884 dX12_tellsCodes_215 ?_
                refine lv_iload hx hb dX12_tellsCodes_218 (lv_at hl 4 rfl) ?_
                refine ma_16 hx hb hK hP h.1 rfl dX12_tellsCodes_220 ?_
                have h := h.2
                refine lv_i2l hx hb dX12_tellsCodes_221 rfl ?_
                refine k_X12_puts N ⟨hx, hb, hml, hown, hts⟩ mw_1122 ⟨Nat.le_of_ble_eq_true rfl, Nat.le_of_ble_eq_true rfl⟩ h hK hP hD hS hl.1 (rest := []) (Nat.le_of_ble_eq_true rfl) ⟨Nat.le_of_ble_eq_true rfl, Nat.le_of_ble_eq_true rfl⟩ dX12_tellsCodes_222 (fun τ14 H locs h hP hD hS => ?_)
                refine lv_goto (tgt := 302) hx hb dX12_tellsCodes_225 (by decide) ?_
                obtain ⟨v15, ev15⟩ : ∃ z : Int32, z = x5 + (1 : Int32) := ⟨_, rfl⟩
                have h := h v15 ev15
                refine lv_iinc (v := v15) (lv' := [(5, .int v15), (6, .int v1), (0, .ref (ad 0)), (2, .int x2), (3, .int x3), (4, .int x4)]) hx hb dX12_tellsCodes_302 hl (k := 5) rfl (by rw [ev15]; rfl) (by decide) rfl (fun ls hl => ?_)
                refine lv_goto (tgt := 8) hx hb dX12_tellsCodes_305 (by decide) ?_
                exact hk_8 x2 x3 x4 v15 τ14 _ _ _ h hP hD hS (lv_sub hl [2, 3, 4, 5, 0] rfl)
            · have h := h.1 hc
              refine lv_aload_n hx hb dX12_tellsCodes_192 rfl (lv_at hl 1 rfl) ?_
              refine lv_aload_n hx hb dX12_tellsCodes_193 rfl (lv_at hl 1 rfl) ?_
              refine mg_0_51 hx hb hts hown hK hP mw_884 dX12_tellsCodes_194 ?_
              refine lv_iload_n hx hb dX12_tellsCodes_197 rfl (lv_at hl 3 rfl) ?_
              refine ma_16 hx hb hK hP h.1 rfl dX12_tellsCodes_198 ?_
              have h := h.2
              refine lv_i2l hx hb dX12_tellsCodes_199 rfl ?_
              refine k_X12_puts N ⟨hx, hb, hml, hown, hts⟩ mw_1122 ⟨Nat.le_of_ble_eq_true rfl, Nat.le_of_ble_eq_true rfl⟩ h hK hP hD hS hl.1 (rest := []) (Nat.le_of_ble_eq_true rfl) ⟨Nat.le_of_ble_eq_true rfl, Nat.le_of_ble_eq_true rfl⟩ dX12_tellsCodes_200 (fun τ17 H locs h hP hD hS => ?_)
              refine lv_goto (tgt := 302) hx hb dX12_tellsCodes_203 (by decide) ?_
              obtain ⟨v18, ev18⟩ : ∃ z : Int32, z = x5 + (1 : Int32) := ⟨_, rfl⟩
              have h := h v18 ev18
              refine lv_iinc (v := v18) (lv' := [(5, .int v18), (6, .int v1), (0, .ref (ad 0)), (2, .int x2), (3, .int x3), (4, .int x4)]) hx hb dX12_tellsCodes_302 hl (k := 5) rfl (by rw [ev18]; rfl) (by decide) rfl (fun ls hl => ?_)
              refine lv_goto (tgt := 8) hx hb dX12_tellsCodes_305 (by decide) ?_
              exact hk_8 x2 x3 x4 v18 τ17 _ _ _ h hP hD hS (lv_sub hl [2, 3, 4, 5, 0] rfl)
          · have h := h.1 hc
            refine lv_aload_n hx hb dX12_tellsCodes_111 rfl (lv_at hl 1 rfl) ?_
            refine lv_aload_n hx hb dX12_tellsCodes_112 rfl (lv_at hl 1 rfl) ?_
            refine mg_0_31 hx hb hts hown hK hP mw_864 dX12_tellsCodes_113 ?_
            refine lv_bipush (v := (10 : Int32)) hx hb dX12_tellsCodes_116 (by decide) ?_
            refine lv_iload_n hx hb dX12_tellsCodes_118 rfl (lv_at hl 3 rfl) ?_
            refine lv_iadd hx hb dX12_tellsCodes_119 ?_
            refine ma_4 hx hb hK hP h.1 rfl dX12_tellsCodes_120 ?_
            have h := h.2
            refine lv_aload_n hx hb dX12_tellsCodes_121 rfl (lv_at hl 1 rfl) ?_
            refine mg_0_31 hx hb hts hown hK hP mw_864 dX12_tellsCodes_122 ?_
            refine lv_bipush (v := (10 : Int32)) hx hb dX12_tellsCodes_125 (by decide) ?_
            refine lv_iload hx hb dX12_tellsCodes_127 (lv_at hl 4 rfl) ?_
            refine lv_iadd hx hb dX12_tellsCodes_129 ?_
            refine ma_4 hx hb hK hP h.1 rfl dX12_tellsCodes_130 ?_
            have h := h.2
            refine lv_icmp_le (tgt := 158) hx hb dX12_tellsCodes_131 (by decide) (fun hc => ?_) (fun hc => ?_)
            · have h := h.1 hc
              refine lv_aload_n hx hb dX12_tellsCodes_158 rfl (lv_at hl 1 rfl) ?_
              refine mg_0_31 hx hb hts hown hK hP mw_864 dX12_tellsCodes_159 ?_
              refine lv_bipush (v := (10 : Int32)) hx hb dX12_tellsCodes_162 (by decide) ?_
              refine lv_iload hx hb dX12_tellsCodes_164 (lv_at hl 4 rfl) ?_
              refine lv_iadd hx hb dX12_tellsCodes_166 ?_
              refine ma_4 hx hb hK hP h.1 rfl dX12_tellsCodes_167 ?_
              have h := h.2
              refine lv_aload_n hx hb dX12_tellsCodes_168 rfl (lv_at hl 1 rfl) ?_
              refine mg_0_31 hx hb hts hown hK hP mw_864 dX12_tellsCodes_169 ?_
              refine lv_bipush (v := (10 : Int32)) hx hb dX12_tellsCodes_172 (by decide) ?_
              refine lv_iload_n hx hb dX12_tellsCodes_174 rfl (lv_at hl 3 rfl) ?_
              refine lv_iadd hx hb dX12_tellsCodes_175 ?_
              refine ma_4 hx hb hK hP h.1 rfl dX12_tellsCodes_176 ?_
              have h := h.2
              refine lv_isub hx hb dX12_tellsCodes_177 ?_
              refine lv_i2l hx hb dX12_tellsCodes_178 rfl ?_
              exact t_X12_tellsCodes_179 C0 hK N hk_8 x2 x3 x4 x5 ((σ.2.2.1 2 ((10 : Int32) + x4).toNatClampNeg) - (σ.2.2.1 2 ((10 : Int32) + x3).toNatClampNeg)).toInt64 σ _ _ _ h hP hD hS (lv_sub hl [1, 2, 3, 4, 5] rfl)
            · have h := h.2 hc
              refine lv_aload_n hx hb dX12_tellsCodes_134 rfl (lv_at hl 1 rfl) ?_
              refine mg_0_31 hx hb hts hown hK hP mw_864 dX12_tellsCodes_135 ?_
              refine lv_bipush (v := (10 : Int32)) hx hb dX12_tellsCodes_138 (by decide) ?_
              refine lv_iload_n hx hb dX12_tellsCodes_140 rfl (lv_at hl 3 rfl) ?_
              refine lv_iadd hx hb dX12_tellsCodes_141 ?_
              refine ma_4 hx hb hK hP h.1 rfl dX12_tellsCodes_142 ?_
              have h := h.2
              refine lv_aload_n hx hb dX12_tellsCodes_143 rfl (lv_at hl 1 rfl) ?_
              refine mg_0_31 hx hb hts hown hK hP mw_864 dX12_tellsCodes_144 ?_
              refine lv_bipush (v := (10 : Int32)) hx hb dX12_tellsCodes_147 (by decide) ?_
              refine lv_iload hx hb dX12_tellsCodes_149 (lv_at hl 4 rfl) ?_
              refine lv_iadd hx hb dX12_tellsCodes_151 ?_
              refine ma_4 hx hb hK hP h.1 rfl dX12_tellsCodes_152 ?_
              have h := h.2
              refine lv_isub hx hb dX12_tellsCodes_153 ?_
              refine lv_i2l hx hb dX12_tellsCodes_154 rfl ?_
              refine lv_goto (tgt := 179) hx hb dX12_tellsCodes_155 (by decide) ?_
              exact t_X12_tellsCodes_179 C0 hK N hk_8 x2 x3 x4 x5 ((σ.2.2.1 2 ((10 : Int32) + x3).toNatClampNeg) - (σ.2.2.1 2 ((10 : Int32) + x4).toNatClampNeg)).toInt64 σ _ _ _ h hP hD hS (lv_sub hl [1, 2, 3, 4, 5] rfl)
        · have h := h.1 hc
          refine lv_aload_n hx hb dX12_tellsCodes_84 rfl (lv_at hl 1 rfl) ?_
          refine lv_aload_n hx hb dX12_tellsCodes_85 rfl (lv_at hl 1 rfl) ?_
          refine mg_0_50 hx hb hts hown hK hP mw_883 dX12_tellsCodes_86 ?_
          refine lv_bipush (v := (10 : Int32)) hx hb dX12_tellsCodes_89 (by decide) ?_
          refine lv_iload_n hx hb dX12_tellsCodes_91 rfl (lv_at hl 3 rfl) ?_
          refine lv_imul hx hb dX12_tellsCodes_92 ?_
          refine lv_iload hx hb dX12_tellsCodes_93 (lv_at hl 4 rfl) ?_
          refine lv_iadd hx hb dX12_tellsCodes_95 ?_
          refine ma_15 hx hb hK hP h.1 rfl dX12_tellsCodes_96 ?_
          have h := h.2
          refine lv_i2l hx hb dX12_tellsCodes_97 rfl ?_
          refine k_X12_puts N ⟨hx, hb, hml, hown, hts⟩ mw_1122 ⟨Nat.le_of_ble_eq_true rfl, Nat.le_of_ble_eq_true rfl⟩ h hK hP hD hS hl.1 (rest := []) (Nat.le_of_ble_eq_true rfl) ⟨Nat.le_of_ble_eq_true rfl, Nat.le_of_ble_eq_true rfl⟩ dX12_tellsCodes_98 (fun τ20 H locs h hP hD hS => ?_)
          refine lv_goto (tgt := 302) hx hb dX12_tellsCodes_101 (by decide) ?_
          obtain ⟨v21, ev21⟩ : ∃ z : Int32, z = x5 + (1 : Int32) := ⟨_, rfl⟩
          have h := h v21 ev21
          refine lv_iinc (v := v21) (lv' := [(5, .int v21), (6, .int v1), (0, .ref (ad 0)), (2, .int x2), (3, .int x3), (4, .int x4)]) hx hb dX12_tellsCodes_302 hl (k := 5) rfl (by rw [ev21]; rfl) (by decide) rfl (fun ls hl => ?_)
          refine lv_goto (tgt := 8) hx hb dX12_tellsCodes_305 (by decide) ?_
          exact hk_8 x2 x3 x4 v21 τ20 _ _ _ h hP hD hS (lv_sub hl [2, 3, 4, 5, 0] rfl)
      · have h := h.2 hc
        refine lv_aload_n hx hb dX12_tellsCodes_56 rfl (lv_at hl 1 rfl) ?_
        refine lv_iload hx hb dX12_tellsCodes_57 (lv_at hl 0 rfl) ?_
        refine lv_bipush (v := (100 : Int32)) hx hb dX12_tellsCodes_59 (by decide) ?_
        refine lv_isub hx hb dX12_tellsCodes_61 ?_
        refine lv_iload_n hx hb dX12_tellsCodes_62 rfl (lv_at hl 3 rfl) ?_
        refine lv_icmp_ne (tgt := 70) hx hb dX12_tellsCodes_63 (by decide) (fun hc => ?_) (fun hc => ?_)
        · have h := h.2 hc
          refine lv_lconst (v := (0 : Int64)) hx hb dX12_tellsCodes_70 (by decide) ?_
          exact t_X12_tellsCodes_71 C0 hK N hk_8 x2 x3 x4 x5 (0 : Int64) σ _ _ _ h hP hD hS (lv_sub hl [1, 2, 3, 4, 5] rfl)
        · have h := h.1 hc
          refine lv_lconst (v := (1 : Int64)) hx hb dX12_tellsCodes_66 (by decide) ?_
          refine lv_goto (tgt := 71) hx hb dX12_tellsCodes_67 (by decide) ?_
          exact t_X12_tellsCodes_71 C0 hK N hk_8 x2 x3 x4 x5 (1 : Int64) σ _ _ _ h hP hD hS (lv_sub hl [1, 2, 3, 4, 5] rfl)
    · have h := h.2 hc
      refine lv_aload_n hx hb dX12_tellsCodes_35 rfl (lv_at hl 1 rfl) ?_
      refine lv_iload hx hb dX12_tellsCodes_36 (lv_at hl 0 rfl) ?_
      refine lv_sipush (v := (1000 : Int32)) hx hb dX12_tellsCodes_38 (by decide) ?_
      refine lv_isub hx hb dX12_tellsCodes_41 ?_
      refine lv_i2l hx hb dX12_tellsCodes_42 rfl ?_
      refine k_X12_puts N ⟨hx, hb, hml, hown, hts⟩ mw_1122 ⟨Nat.le_of_ble_eq_true rfl, Nat.le_of_ble_eq_true rfl⟩ h hK hP hD hS hl.1 (rest := []) (Nat.le_of_ble_eq_true rfl) ⟨Nat.le_of_ble_eq_true rfl, Nat.le_of_ble_eq_true rfl⟩ dX12_tellsCodes_43 (fun τ23 H locs h hP hD hS => ?_)
      refine lv_goto (tgt := 302) hx hb dX12_tellsCodes_46 (by decide) ?_
      obtain ⟨v24, ev24⟩ : ∃ z : Int32, z = x5 + (1 : Int32) := ⟨_, rfl⟩
      have h := h v24 ev24
      refine lv_iinc (v := v24) (lv' := [(5, .int v24), (6, .int v1), (0, .ref (ad 0)), (2, .int x2), (3, .int x3), (4, .int x4)]) hx hb dX12_tellsCodes_302 hl (k := 5) rfl (by rw [ev24]; rfl) (by decide) rfl (fun ls hl => ?_)
      refine lv_goto (tgt := 8) hx hb dX12_tellsCodes_305 (by decide) ?_
      exact hk_8 x2 x3 x4 v24 τ23 _ _ _ h hP hD hS (lv_sub hl [2, 3, 4, 5, 0] rfl)
set_option maxHeartbeats 4000000 in
set_option maxRecDepth 100000 in
theorem t_X12_tellsCodes_8 (C0 : zCx p s m meth c args RX12 cX12_tellsCodes 7 (some .long) vs_X12_tellsCodes) (hK : va_K (dC, dI) vwCl (m_ty cI cJ cC) s) (N : Nat) {Q : Int64 → zSt → Prop} : ∀ (f : Nat) (x2 : Int32) (x3 : Int32) (x4 : Int32) (x5 : Int32) (σ : zSt) (H : Heap) (locs : List Loc) (ls : Array Slot), w_X12_tellsCodes_8 N  Q f x2 x3 x4 x5 σ → va_P (dC, dI) vwCl (m_W ad cI cJ cC σ) H → va_D (zAW m_n ad s.heap.size) (m_W ad cI cJ cC σ) → va_S (zAW m_n ad s.heap.size) s.heap H locs → lv_has ls 7 [(0, .ref (ad 0)), (2, .int x2), (3, .int x3), (4, .int x4), (5, .int x5)] → W p l e rm_X12_tellsCodes s m args below meth c H locs 0 0 (MQ below (zQl (dC, dI) (m_ty cI cJ cC) (m_W ad cI cJ cC) (zAW m_n ad s.heap.size) Q) args s 0 0 (zAW m_n ad s.heap.size)) (F0 m 8 ls []) := by
  intro f
  induction f with
  | zero => intro x2 x3 x4 x5 σ H locs ls h; exact h.elim
  | succ f ih =>
    intro x2 x3 x4 x5 σ H locs ls h hP hD hS hl
    exact tb_X12_tellsCodes_8 C0 hK N  (k_8 := w_X12_tellsCodes_8 N  Q f) ih x2 x3 x4 x5 σ H locs ls h hP hD hS hl
set_option maxHeartbeats 4000000 in
set_option maxRecDepth 100000 in
theorem t_X12_tellsCodes_0 (C0 : zCx p s m meth c args RX12 cX12_tellsCodes 7 (some .long) vs_X12_tellsCodes) (hK : va_K (dC, dI) vwCl (m_ty cI cJ cC) s) (N : Nat) {Q : Int64 → zSt → Prop} : ∀ (x1 : Int32) (x2 : Int32) (x3 : Int32) (x4 : Int32) (σ : zSt) (H : Heap) (locs : List Loc) (ls : Array Slot), w_X12_tellsCodes N x1 x2 x3 x4 σ Q → va_P (dC, dI) vwCl (m_W ad cI cJ cC σ) H → va_D (zAW m_n ad s.heap.size) (m_W ad cI cJ cC σ) → va_S (zAW m_n ad s.heap.size) s.heap H locs → lv_has ls 7 [(0, .ref (ad 0)), (1, .int x1), (2, .int x2), (3, .int x3), (4, .int x4)] → W p l e rm_X12_tellsCodes s m args below meth c H locs 0 0 (MQ below (zQl (dC, dI) (m_ty cI cJ cC) (m_W ad cI cJ cC) (zAW m_n ad s.heap.size) Q) args s 0 0 (zAW m_n ad s.heap.size)) (F0 m 0 ls []) := by
  obtain ⟨hx, hb, hml, hr, hown, hts, hlocks⟩ := id C0
  intro x1 x2 x3 x4 σ H locs ls h hP hD hS hl
  unfold w_X12_tellsCodes at h
  refine lv_aload_n hx hb dX12_tellsCodes_0 rfl (lv_at hl 0 rfl) ?_
  refine lv_iconst (v := (0 : Int32)) hx hb dX12_tellsCodes_1 (by decide) ?_
  refine mp_0_56 hx hb hts hown hK hP hD hS mw_889 dX12_tellsCodes_2 (fun τ1 H locs eτ1 hP hD hS => ?_)
  have h := h τ1 eτ1
  refine lv_iload_n hx hb dX12_tellsCodes_5 rfl (lv_at hl 1 rfl) ?_
  refine lv_istore (lv' := [(5, .int x1), (0, .ref (ad 0)), (1, .int x1), (2, .int x2), (3, .int x3), (4, .int x4)]) hx hb dX12_tellsCodes_6 hl (by decide) rfl (fun ls hl => ?_)
  exact t_X12_tellsCodes_8 C0 hK N  N x2 x3 x4 x1 τ1 _ _ _ h hP hD hS (lv_sub hl [1, 3, 4, 5, 0] rfl)
set_option maxHeartbeats 4000000 in
set_option maxRecDepth 100000 in
theorem c_X12_tellsCodes (N : Nat) (l : Launch) (dC : Nat → ClassId) (dI : Nat → Nat → Nat) (ad : Nat → Nat) (cI cJ cC : ClassId) (sz : Nat) (σ : zSt) (x1 : Int32) (x2 : Int32) (x3 : Int32) (x4 : Int32) (Q : Int64 → zSt → Prop) (h : w_X12_tellsCodes N x1 x2 x3 x4 σ Q) : Met l yX12_tellsCodes vs_X12_tellsCodes rm_X12_tellsCodes (va_Pc [.ref (ad 0), .int x1, .int x2, .int x3, .int x4] (zPc (dC, dI) (m_ty cI cJ cC) (m_W ad cI cJ cC) sz σ)) (zQl (dC, dI) (m_ty cI cJ cC) (m_W ad cI cJ cC) (zAW m_n ad sz) Q) 0 0 (zAW m_n ad sz) := by
  refine Met.ofW (cc := cX12_tellsCodes) (maxL := 7) (ret := (some .long)) (by decide) rfl ?_
  intro p e s m args below meth c s₁ B hml hv
  obtain ⟨rfl, hsz, hP, hK, hD0⟩ := hv
  subst hsz
  have C0 : zCx p s m meth c _ RX12 cX12_tellsCodes 7 (some .long) vs_X12_tellsCodes := ⟨B.exec, B.bytes, hml, B.returns, findClass_of_methodNamed B.named, atoms_spec (ws := vs_X12_tellsCodes) B.pre, B.notSynchronized⟩
  have hD := m_D0 (n0 := s.heap.size) hD0
  have hl := lv_entry ([.ref (ad 0), .int x1, .int x2, .int x3, .int x4]) (n := 7) (Nat.le_of_ble_eq_true rfl)
  rw [lg_entry_eq]
  generalize (lg_sl ([.ref (ad 0), .int x1, .int x2, .int x3, .int x4]) ++ List.replicate (7 - (lg_sl ([.ref (ad 0), .int x1, .int x2, .int x3, .int x4])).length) Slot.unset).toArray = ls at hl ⊢
  exact t_X12_tellsCodes_0 C0 hK N x1 x2 x3 x4 σ _ _ ls h hP hD va_S.rf hl
theorem k_X12_tellsCodes (N : Nat) {R : Room} {H : Heap} {locs : List Loc} {cells slots : Nat} {Q2 : State → Prop} {cc : ByteArray} {nL pc index : Nat} {ls : Array Slot} {rest : List Value} {own : String} {c0 : Cond} {σ : zSt} {x1 : Int32} {x2 : Int32} {x3 : Int32} {x4 : Int32} {Q : Int64 → zSt → Prop} (S0 : CallFix p m c cc nL s args (c0 :: zT) own) (hml : Cond.methodLink own index yX12_tellsCodes ∈ zT) (hR : rm_X12_tellsCodes.frames + 1 ≤ R.frames ∧ 8 + (7 + 11) + rm_X12_tellsCodes.locals ≤ R.locals) (h : w_X12_tellsCodes N x1 x2 x3 x4 σ Q) (hK : va_K (dC, dI) vwCl (m_ty cI cJ cC) s) (hP : va_P (dC, dI) vwCl (m_W ad cI cJ cC σ) H) (hD : va_D (zAW m_n ad s.heap.size) (m_W ad cI cJ cC σ)) (hS : va_S (zAW m_n ad s.heap.size) s.heap H locs) (hsz : ls.size = nL) (hW : (rest.map fun v => v.category).sum ≤ 8) (hcs : cells ≤ R.cells ∧ slots ≤ R.slots) (hdg : decode cc pc = .ok (.invokevirtual index, 3)) (kk : ∀ (r : Int64) (τ : zSt) (H1 : Heap) (locs1 : List Loc), Q r τ → va_P (dC, dI) vwCl (m_W ad cI cJ cC τ) H1 → va_D (zAW m_n ad s.heap.size) (m_W ad cI cJ cC τ) → va_S (zAW m_n ad s.heap.size) s.heap H1 locs1 → W p l e R s m args below meth c H1 locs1 cells slots Q2 (F0 m (pc + 3) ls (.long r :: rest))) : W p l e R s m args below meth c H locs cells slots Q2 (F0 m pc ls (.int x4 :: .int x3 :: .int x2 :: .int x1 :: .ref (ad 0) :: rest)) :=
  zcv_l (T := TX12) (N' := 83) (k := 0) (ci := 12) (fs := m_f0 ad σ) [.int x1, .int x2, .int x3, .int x4] S0 (c_X12_tellsCodes N l dC dI ad cI cJ cC H.size σ x1 x2 x3 x4 Q h) (cw_X12_tellsCodes S0.2.2.2.2 hml rfl rfl hR) rfl rfl hK hP hD hS rfl hsz hW rfl hcs hdg kk
end q20
section q20
def b_X12_tellsRule_4 (N : Nat) (k_4 : Int32 → Int32 → Int32 → Int32 → zSt → Prop) (Q : Int64 → zSt → Prop) (x1 : Int32) (x2 : Int32) (x3 : Int32) (x4 : Int32) (σ : zSt) : Prop :=
  (((20 : Int32) + (σ.2.2.1 4 1)) ≤ x4 → Q (0 : Int64) σ) ∧ (¬ ((20 : Int32) + (σ.2.2.1 4 1)) ≤ x4 → (vp_in x4 40) ∧ (((σ.2.2.1 5 x4.toNatClampNeg) = x1 → (vp_in x4 40) ∧ ((vp_in x4 40) ∧ (w_X12_tellsCodes N (σ.2.2.1 7 x4.toNatClampNeg) (σ.2.2.1 8 x4.toNatClampNeg) x2 x3 σ (fun r2 τ3 => ((lg_cmp r2 (1 : Int64)) = 0 → (vp_in x4 40) ∧ ((vp_in x4 40) ∧ (w_X12_tellsCodes N (τ3.2.2.1 6 x4.toNatClampNeg) (τ3.2.2.1 7 x4.toNatClampNeg) x2 x3 τ3 (fun r5 τ6 => Q r5 τ6)))) ∧ (¬ (lg_cmp r2 (1 : Int64)) = 0 → ∀ v4 : Int32, v4 = x4 + (1 : Int32) → k_4 x1 x2 x3 v4 τ3))))) ∧ (¬ (σ.2.2.1 5 x4.toNatClampNeg) = x1 → ∀ v1 : Int32, v1 = x4 + (1 : Int32) → k_4 x1 x2 x3 v1 σ)))
def w_X12_tellsRule_4 (N : Nat) (Q : Int64 → zSt → Prop) : Nat → Int32 → Int32 → Int32 → Int32 → zSt → Prop
  | 0 => fun _ _ _ _ _ => False
  | f + 1 => b_X12_tellsRule_4 N (w_X12_tellsRule_4 N  Q f) Q
def w_X12_tellsRule (N : Nat) (x1 : Int32) (x2 : Int32) (x3 : Int32) (σ : zSt) (Q : Int64 → zSt → Prop) : Prop :=
  w_X12_tellsRule_4 N Q N x1 x2 x3 (20 : Int32) σ
variable {p : Program} {l : Launch} {e : Env} {s : State} {m : MethodId} {args : Array Value} {below : List Frame} {meth : Method} {c : Code} {dC : Nat → ClassId} {dI : Nat → Nat → Nat} {ad : Nat → Nat} {cI cJ cC : ClassId}
set_option maxHeartbeats 4000000 in
set_option maxRecDepth 100000 in
theorem tb_X12_tellsRule_4 (C0 : zCx p s m meth c args RX12 cX12_tellsRule 5 (some .long) vs_X12_tellsRule) (hK : va_K (dC, dI) vwCl (m_ty cI cJ cC) s) (N : Nat) {Q : Int64 → zSt → Prop} {k_4 : Int32 → Int32 → Int32 → Int32 → zSt → Prop} (hk_4 : ∀ (x1 : Int32) (x2 : Int32) (x3 : Int32) (x4 : Int32) (σ : zSt) (H : Heap) (locs : List Loc) (ls : Array Slot), k_4 x1 x2 x3 x4 σ → va_P (dC, dI) vwCl (m_W ad cI cJ cC σ) H → va_D (zAW m_n ad s.heap.size) (m_W ad cI cJ cC σ) → va_S (zAW m_n ad s.heap.size) s.heap H locs → lv_has ls 5 [(0, .ref (ad 0)), (1, .int x1), (2, .int x2), (3, .int x3), (4, .int x4)] → W p l e rm_X12_tellsRule s m args below meth c H locs 0 0 (MQ below (zQl (dC, dI) (m_ty cI cJ cC) (m_W ad cI cJ cC) (zAW m_n ad s.heap.size) Q) args s 0 0 (zAW m_n ad s.heap.size)) (F0 m 4 ls [])) : ∀ (x1 : Int32) (x2 : Int32) (x3 : Int32) (x4 : Int32) (σ : zSt) (H : Heap) (locs : List Loc) (ls : Array Slot), b_X12_tellsRule_4 N k_4 Q x1 x2 x3 x4 σ → va_P (dC, dI) vwCl (m_W ad cI cJ cC σ) H → va_D (zAW m_n ad s.heap.size) (m_W ad cI cJ cC σ) → va_S (zAW m_n ad s.heap.size) s.heap H locs → lv_has ls 5 [(0, .ref (ad 0)), (1, .int x1), (2, .int x2), (3, .int x3), (4, .int x4)] → W p l e rm_X12_tellsRule s m args below meth c H locs 0 0 (MQ below (zQl (dC, dI) (m_ty cI cJ cC) (m_W ad cI cJ cC) (zAW m_n ad s.heap.size) Q) args s 0 0 (zAW m_n ad s.heap.size)) (F0 m 4 ls []) := by
  obtain ⟨hx, hb, hml, hr, hown, hts, hlocks⟩ := id C0
  intro x1 x2 x3 x4 σ H locs ls h hP hD hS hl
  unfold b_X12_tellsRule_4 at h
  refine lv_iload hx hb dX12_tellsRule_4 (lv_at hl 4 rfl) ?_
  refine lv_bipush (v := (20 : Int32)) hx hb dX12_tellsRule_6 (by decide) ?_
  refine lv_aload_n hx hb dX12_tellsRule_8 rfl (lv_at hl 0 rfl) ?_
  refine mg_0_33 hx hb hts hown hK hP mw_866 dX12_tellsRule_9 ?_
  refine lv_iconst (v := (1 : Int32)) hx hb dX12_tellsRule_12 (by decide) ?_
  refine ma_6 (j := 1) hx hb hK hP (zin (by decide)) (by decide) dX12_tellsRule_13 ?_
  refine lv_iadd hx hb dX12_tellsRule_14 ?_
  refine lv_icmp_ge (tgt := 81) hx hb dX12_tellsRule_15 (by decide) (fun hc => ?_) (fun hc => ?_)
  · have h := h.1 hc
    refine lv_lconst (v := (0 : Int64)) hx hb dX12_tellsRule_81 (by decide) ?_
    exact zret_l hx hb hr hlocks hK hP hD hS h dX12_tellsRule_82
  · have h := h.2 hc
    refine lv_aload_n hx hb dX12_tellsRule_18 rfl (lv_at hl 0 rfl) ?_
    refine mg_0_34 hx hb hts hown hK hP mw_867 dX12_tellsRule_19 ?_
    refine lv_iload hx hb dX12_tellsRule_22 (lv_at hl 4 rfl) ?_
    refine ma_7 hx hb hK hP h.1 rfl dX12_tellsRule_24 ?_
    have h := h.2
    refine lv_iload_n hx hb dX12_tellsRule_25 rfl (lv_at hl 1 rfl) ?_
    refine lv_icmp_ne (tgt := 75) hx hb dX12_tellsRule_26 (by decide) (fun hc => ?_) (fun hc => ?_)
    · have h := h.2 hc
      obtain ⟨v1, ev1⟩ : ∃ z : Int32, z = x4 + (1 : Int32) := ⟨_, rfl⟩
      have h := h v1 ev1
      refine lv_iinc (v := v1) (lv' := [(4, .int v1), (0, .ref (ad 0)), (1, .int x1), (2, .int x2), (3, .int x3)]) hx hb dX12_tellsRule_75 hl (k := 4) rfl (by rw [ev1]; rfl) (by decide) rfl (fun ls hl => ?_)
      refine lv_goto (tgt := 4) hx hb dX12_tellsRule_78 (by decide) ?_
      exact hk_4 x1 x2 x3 v1 σ _ _ _ h hP hD hS (lv_sub hl [1, 2, 3, 4, 0] rfl)
    · have h := h.1 hc
      refine lv_aload_n hx hb dX12_tellsRule_29 rfl (lv_at hl 0 rfl) ?_
      refine lv_aload_n hx hb dX12_tellsRule_30 rfl (lv_at hl 0 rfl) ?_
      refine mg_0_36 hx hb hts hown hK hP mw_869 dX12_tellsRule_31 ?_
      refine lv_iload hx hb dX12_tellsRule_34 (lv_at hl 4 rfl) ?_
      refine ma_9 hx hb hK hP h.1 rfl dX12_tellsRule_36 ?_
      have h := h.2
      refine lv_aload_n hx hb dX12_tellsRule_37 rfl (lv_at hl 0 rfl) ?_
      refine mg_0_37 hx hb hts hown hK hP mw_870 dX12_tellsRule_38 ?_
      refine lv_iload hx hb dX12_tellsRule_41 (lv_at hl 4 rfl) ?_
      refine ma_10 hx hb hK hP h.1 rfl dX12_tellsRule_43 ?_
      have h := h.2
      refine lv_iload_n hx hb dX12_tellsRule_44 rfl (lv_at hl 2 rfl) ?_
      refine lv_iload_n hx hb dX12_tellsRule_45 rfl (lv_at hl 3 rfl) ?_
      refine k_X12_tellsCodes N ⟨hx, hb, hml, hown, hts⟩ mw_1119 ⟨Nat.le_of_ble_eq_true rfl, Nat.le_of_ble_eq_true rfl⟩ h hK hP hD hS hl.1 (rest := []) (Nat.le_of_ble_eq_true rfl) ⟨Nat.le_of_ble_eq_true rfl, Nat.le_of_ble_eq_true rfl⟩ dX12_tellsRule_46 (fun r2 τ3 H locs h hP hD hS => ?_)
      refine lv_lconst (v := (1 : Int64)) hx hb dX12_tellsRule_49 (by decide) ?_
      refine W.lcmp hx hb dX12_tellsRule_50 ?_
      refine lv_if_ne (tgt := 75) hx hb dX12_tellsRule_51 (by decide) (fun hc => ?_) (fun hc => ?_)
      · have h := h.2 hc
        obtain ⟨v4, ev4⟩ : ∃ z : Int32, z = x4 + (1 : Int32) := ⟨_, rfl⟩
        have h := h v4 ev4
        refine lv_iinc (v := v4) (lv' := [(4, .int v4), (0, .ref (ad 0)), (1, .int x1), (2, .int x2), (3, .int x3)]) hx hb dX12_tellsRule_75 hl (k := 4) rfl (by rw [ev4]; rfl) (by decide) rfl (fun ls hl => ?_)
        refine lv_goto (tgt := 4) hx hb dX12_tellsRule_78 (by decide) ?_
        exact hk_4 x1 x2 x3 v4 τ3 _ _ _ h hP hD hS (lv_sub hl [1, 2, 3, 4, 0] rfl)
      · have h := h.1 hc
        refine lv_aload_n hx hb dX12_tellsRule_54 rfl (lv_at hl 0 rfl) ?_
        refine lv_aload_n hx hb dX12_tellsRule_55 rfl (lv_at hl 0 rfl) ?_
        refine mg_0_35 hx hb hts hown hK hP mw_868 dX12_tellsRule_56 ?_
        refine lv_iload hx hb dX12_tellsRule_59 (lv_at hl 4 rfl) ?_
        refine ma_8 hx hb hK hP h.1 rfl dX12_tellsRule_61 ?_
        have h := h.2
        refine lv_aload_n hx hb dX12_tellsRule_62 rfl (lv_at hl 0 rfl) ?_
        refine mg_0_36 hx hb hts hown hK hP mw_869 dX12_tellsRule_63 ?_
        refine lv_iload hx hb dX12_tellsRule_66 (lv_at hl 4 rfl) ?_
        refine ma_9 hx hb hK hP h.1 rfl dX12_tellsRule_68 ?_
        have h := h.2
        refine lv_iload_n hx hb dX12_tellsRule_69 rfl (lv_at hl 2 rfl) ?_
        refine lv_iload_n hx hb dX12_tellsRule_70 rfl (lv_at hl 3 rfl) ?_
        refine k_X12_tellsCodes N ⟨hx, hb, hml, hown, hts⟩ mw_1119 ⟨Nat.le_of_ble_eq_true rfl, Nat.le_of_ble_eq_true rfl⟩ h hK hP hD hS hl.1 (rest := []) (Nat.le_of_ble_eq_true rfl) ⟨Nat.le_of_ble_eq_true rfl, Nat.le_of_ble_eq_true rfl⟩ dX12_tellsRule_71 (fun r5 τ6 H locs h hP hD hS => ?_)
        exact zret_l hx hb hr hlocks hK hP hD hS h dX12_tellsRule_74
set_option maxHeartbeats 4000000 in
set_option maxRecDepth 100000 in
theorem t_X12_tellsRule_4 (C0 : zCx p s m meth c args RX12 cX12_tellsRule 5 (some .long) vs_X12_tellsRule) (hK : va_K (dC, dI) vwCl (m_ty cI cJ cC) s) (N : Nat) {Q : Int64 → zSt → Prop} : ∀ (f : Nat) (x1 : Int32) (x2 : Int32) (x3 : Int32) (x4 : Int32) (σ : zSt) (H : Heap) (locs : List Loc) (ls : Array Slot), w_X12_tellsRule_4 N  Q f x1 x2 x3 x4 σ → va_P (dC, dI) vwCl (m_W ad cI cJ cC σ) H → va_D (zAW m_n ad s.heap.size) (m_W ad cI cJ cC σ) → va_S (zAW m_n ad s.heap.size) s.heap H locs → lv_has ls 5 [(0, .ref (ad 0)), (1, .int x1), (2, .int x2), (3, .int x3), (4, .int x4)] → W p l e rm_X12_tellsRule s m args below meth c H locs 0 0 (MQ below (zQl (dC, dI) (m_ty cI cJ cC) (m_W ad cI cJ cC) (zAW m_n ad s.heap.size) Q) args s 0 0 (zAW m_n ad s.heap.size)) (F0 m 4 ls []) := by
  intro f
  induction f with
  | zero => intro x1 x2 x3 x4 σ H locs ls h; exact h.elim
  | succ f ih =>
    intro x1 x2 x3 x4 σ H locs ls h hP hD hS hl
    exact tb_X12_tellsRule_4 C0 hK N  (k_4 := w_X12_tellsRule_4 N  Q f) ih x1 x2 x3 x4 σ H locs ls h hP hD hS hl
set_option maxHeartbeats 4000000 in
set_option maxRecDepth 100000 in
theorem t_X12_tellsRule_0 (C0 : zCx p s m meth c args RX12 cX12_tellsRule 5 (some .long) vs_X12_tellsRule) (hK : va_K (dC, dI) vwCl (m_ty cI cJ cC) s) (N : Nat) {Q : Int64 → zSt → Prop} : ∀ (x1 : Int32) (x2 : Int32) (x3 : Int32) (σ : zSt) (H : Heap) (locs : List Loc) (ls : Array Slot), w_X12_tellsRule N x1 x2 x3 σ Q → va_P (dC, dI) vwCl (m_W ad cI cJ cC σ) H → va_D (zAW m_n ad s.heap.size) (m_W ad cI cJ cC σ) → va_S (zAW m_n ad s.heap.size) s.heap H locs → lv_has ls 5 [(0, .ref (ad 0)), (1, .int x1), (2, .int x2), (3, .int x3)] → W p l e rm_X12_tellsRule s m args below meth c H locs 0 0 (MQ below (zQl (dC, dI) (m_ty cI cJ cC) (m_W ad cI cJ cC) (zAW m_n ad s.heap.size) Q) args s 0 0 (zAW m_n ad s.heap.size)) (F0 m 0 ls []) := by
  obtain ⟨hx, hb, hml, hr, hown, hts, hlocks⟩ := id C0
  intro x1 x2 x3 σ H locs ls h hP hD hS hl
  unfold w_X12_tellsRule at h
  refine lv_bipush (v := (20 : Int32)) hx hb dX12_tellsRule_0 (by decide) ?_
  refine lv_istore (lv' := [(4, .int (20 : Int32)), (0, .ref (ad 0)), (1, .int x1), (2, .int x2), (3, .int x3)]) hx hb dX12_tellsRule_2 hl (by decide) rfl (fun ls hl => ?_)
  exact t_X12_tellsRule_4 C0 hK N  N x1 x2 x3 (20 : Int32) σ _ _ _ h hP hD hS (lv_sub hl [1, 2, 3, 4, 0] rfl)
set_option maxHeartbeats 4000000 in
set_option maxRecDepth 100000 in
theorem c_X12_tellsRule (N : Nat) (l : Launch) (dC : Nat → ClassId) (dI : Nat → Nat → Nat) (ad : Nat → Nat) (cI cJ cC : ClassId) (sz : Nat) (σ : zSt) (x1 : Int32) (x2 : Int32) (x3 : Int32) (Q : Int64 → zSt → Prop) (h : w_X12_tellsRule N x1 x2 x3 σ Q) : Met l yX12_tellsRule vs_X12_tellsRule rm_X12_tellsRule (va_Pc [.ref (ad 0), .int x1, .int x2, .int x3] (zPc (dC, dI) (m_ty cI cJ cC) (m_W ad cI cJ cC) sz σ)) (zQl (dC, dI) (m_ty cI cJ cC) (m_W ad cI cJ cC) (zAW m_n ad sz) Q) 0 0 (zAW m_n ad sz) := by
  refine Met.ofW (cc := cX12_tellsRule) (maxL := 5) (ret := (some .long)) (by decide) rfl ?_
  intro p e s m args below meth c s₁ B hml hv
  obtain ⟨rfl, hsz, hP, hK, hD0⟩ := hv
  subst hsz
  have C0 : zCx p s m meth c _ RX12 cX12_tellsRule 5 (some .long) vs_X12_tellsRule := ⟨B.exec, B.bytes, hml, B.returns, findClass_of_methodNamed B.named, atoms_spec (ws := vs_X12_tellsRule) B.pre, B.notSynchronized⟩
  have hD := m_D0 (n0 := s.heap.size) hD0
  have hl := lv_entry ([.ref (ad 0), .int x1, .int x2, .int x3]) (n := 5) (Nat.le_of_ble_eq_true rfl)
  rw [lg_entry_eq]
  generalize (lg_sl ([.ref (ad 0), .int x1, .int x2, .int x3]) ++ List.replicate (5 - (lg_sl ([.ref (ad 0), .int x1, .int x2, .int x3])).length) Slot.unset).toArray = ls at hl ⊢
  exact t_X12_tellsRule_0 C0 hK N x1 x2 x3 σ _ _ ls h hP hD va_S.rf hl
theorem k_X12_tellsRule (N : Nat) {R : Room} {H : Heap} {locs : List Loc} {cells slots : Nat} {Q2 : State → Prop} {cc : ByteArray} {nL pc index : Nat} {ls : Array Slot} {rest : List Value} {own : String} {c0 : Cond} {σ : zSt} {x1 : Int32} {x2 : Int32} {x3 : Int32} {Q : Int64 → zSt → Prop} (S0 : CallFix p m c cc nL s args (c0 :: zT) own) (hml : Cond.methodLink own index yX12_tellsRule ∈ zT) (hR : rm_X12_tellsRule.frames + 1 ≤ R.frames ∧ 8 + (5 + 11) + rm_X12_tellsRule.locals ≤ R.locals) (h : w_X12_tellsRule N x1 x2 x3 σ Q) (hK : va_K (dC, dI) vwCl (m_ty cI cJ cC) s) (hP : va_P (dC, dI) vwCl (m_W ad cI cJ cC σ) H) (hD : va_D (zAW m_n ad s.heap.size) (m_W ad cI cJ cC σ)) (hS : va_S (zAW m_n ad s.heap.size) s.heap H locs) (hsz : ls.size = nL) (hW : (rest.map fun v => v.category).sum ≤ 8) (hcs : cells ≤ R.cells ∧ slots ≤ R.slots) (hdg : decode cc pc = .ok (.invokevirtual index, 3)) (kk : ∀ (r : Int64) (τ : zSt) (H1 : Heap) (locs1 : List Loc), Q r τ → va_P (dC, dI) vwCl (m_W ad cI cJ cC τ) H1 → va_D (zAW m_n ad s.heap.size) (m_W ad cI cJ cC τ) → va_S (zAW m_n ad s.heap.size) s.heap H1 locs1 → W p l e R s m args below meth c H1 locs1 cells slots Q2 (F0 m (pc + 3) ls (.long r :: rest))) : W p l e R s m args below meth c H locs cells slots Q2 (F0 m pc ls (.int x3 :: .int x2 :: .int x1 :: .ref (ad 0) :: rest)) :=
  zcv_l (T := TX12) (N' := 83) (k := 0) (ci := 12) (fs := m_f0 ad σ) [.int x1, .int x2, .int x3] S0 (c_X12_tellsRule N l dC dI ad cI cJ cC H.size σ x1 x2 x3 Q h) (cw_X12_tellsRule S0.2.2.2.2 hml rfl rfl hR) rfl rfl hK hP hD hS rfl hsz hW rfl hcs hdg kk
end q20
section q20
def b_X12_worthTo_5 (N : Nat) (k_5 : Int32 → Int64 → Int32 → zSt → Prop) (Q : Int64 → zSt → Prop) (x1 : Int32) (x2 : Int64) (x4 : Int32) (σ : zSt) : Prop :=
  w_X12_many N σ (fun r1 τ2 => (r1 ≤ x4 → Q x2 τ2) ∧ (¬ r1 ≤ x4 → (x4 = x1 → ∀ v3 : Int32, v3 = x4 + (1 : Int32) → k_5 x1 x2 v3 τ2) ∧ (¬ x4 = x1 → (vp_in (((10 : Int32) * x1) + x4) 100) ∧ (((τ2.2.2.1 12 (((10 : Int32) * x1) + x4).toNatClampNeg) = (-1 : Int32) → ∀ v12 : Int32, v12 = x4 + (1 : Int32) → k_5 x1 x2 v12 τ2) ∧ (¬ (τ2.2.2.1 12 (((10 : Int32) * x1) + x4).toNatClampNeg) = (-1 : Int32) → w_X12_tellsRule N (1 : Int32) x1 x4 τ2 (fun r4 τ5 => ∀ v6 : Int64, v6 = x2 + r4 → (vp_in (((10 : Int32) * x1) + x4) 100) ∧ (((τ5.2.2.1 12 (((10 : Int32) * x1) + x4).toNatClampNeg) = (1 : Int32) → w_X12_tellsRule N (0 : Int32) x1 x4 τ5 (fun r8 τ9 => ∀ v10 : Int64, v10 = v6 - r8 → ∀ v11 : Int32, v11 = x4 + (1 : Int32) → k_5 x1 v10 v11 τ9)) ∧ (¬ (τ5.2.2.1 12 (((10 : Int32) * x1) + x4).toNatClampNeg) = (1 : Int32) → ∀ v7 : Int32, v7 = x4 + (1 : Int32) → k_5 x1 v6 v7 τ5))))))))
def w_X12_worthTo_5 (N : Nat) (Q : Int64 → zSt → Prop) : Nat → Int32 → Int64 → Int32 → zSt → Prop
  | 0 => fun _ _ _ _ => False
  | f + 1 => b_X12_worthTo_5 N (w_X12_worthTo_5 N  Q f) Q
def w_X12_worthTo (N : Nat) (x1 : Int32) (σ : zSt) (Q : Int64 → zSt → Prop) : Prop :=
  w_X12_worthTo_5 N Q N x1 (0 : Int64) (0 : Int32) σ
variable {p : Program} {l : Launch} {e : Env} {s : State} {m : MethodId} {args : Array Value} {below : List Frame} {meth : Method} {c : Code} {dC : Nat → ClassId} {dI : Nat → Nat → Nat} {ad : Nat → Nat} {cI cJ cC : ClassId}
set_option maxHeartbeats 4000000 in
set_option maxRecDepth 100000 in
theorem tb_X12_worthTo_5 (C0 : zCx p s m meth c args RX12 cX12_worthTo 5 (some .long) vs_X12_worthTo) (hK : va_K (dC, dI) vwCl (m_ty cI cJ cC) s) (N : Nat) {Q : Int64 → zSt → Prop} {k_5 : Int32 → Int64 → Int32 → zSt → Prop} (hk_5 : ∀ (x1 : Int32) (x2 : Int64) (x4 : Int32) (σ : zSt) (H : Heap) (locs : List Loc) (ls : Array Slot), k_5 x1 x2 x4 σ → va_P (dC, dI) vwCl (m_W ad cI cJ cC σ) H → va_D (zAW m_n ad s.heap.size) (m_W ad cI cJ cC σ) → va_S (zAW m_n ad s.heap.size) s.heap H locs → lv_has ls 5 [(0, .ref (ad 0)), (1, .int x1), (2, .long x2), (4, .int x4)] → W p l e rm_X12_worthTo s m args below meth c H locs 0 0 (MQ below (zQl (dC, dI) (m_ty cI cJ cC) (m_W ad cI cJ cC) (zAW m_n ad s.heap.size) Q) args s 0 0 (zAW m_n ad s.heap.size)) (F0 m 5 ls [])) : ∀ (x1 : Int32) (x2 : Int64) (x4 : Int32) (σ : zSt) (H : Heap) (locs : List Loc) (ls : Array Slot), b_X12_worthTo_5 N k_5 Q x1 x2 x4 σ → va_P (dC, dI) vwCl (m_W ad cI cJ cC σ) H → va_D (zAW m_n ad s.heap.size) (m_W ad cI cJ cC σ) → va_S (zAW m_n ad s.heap.size) s.heap H locs → lv_has ls 5 [(0, .ref (ad 0)), (1, .int x1), (2, .long x2), (4, .int x4)] → W p l e rm_X12_worthTo s m args below meth c H locs 0 0 (MQ below (zQl (dC, dI) (m_ty cI cJ cC) (m_W ad cI cJ cC) (zAW m_n ad s.heap.size) Q) args s 0 0 (zAW m_n ad s.heap.size)) (F0 m 5 ls []) := by
  obtain ⟨hx, hb, hml, hr, hown, hts, hlocks⟩ := id C0
  intro x1 x2 x4 σ H locs ls h hP hD hS hl
  unfold b_X12_worthTo_5 at h
  refine lv_iload hx hb dX12_worthTo_5 (lv_at hl 3 rfl) ?_
  refine lv_aload_n hx hb dX12_worthTo_7 rfl (lv_at hl 0 rfl) ?_
  refine k_X12_many N ⟨hx, hb, hml, hown, hts⟩ mw_1044 ⟨Nat.le_of_ble_eq_true rfl, Nat.le_of_ble_eq_true rfl⟩ h hK hP hD hS hl.1 (rest := [.int x4]) (Nat.le_of_ble_eq_true rfl) ⟨Nat.le_of_ble_eq_true rfl, Nat.le_of_ble_eq_true rfl⟩ dX12_worthTo_8 (fun r1 τ2 H locs h hP hD hS => ?_)
  refine lv_icmp_ge (tgt := 83) hx hb dX12_worthTo_11 (by decide) (fun hc => ?_) (fun hc => ?_)
  · have h := h.1 hc
    refine lv_lload_n hx hb dX12_worthTo_83 rfl (lv_at hl 2 rfl) ?_
    exact zret_l hx hb hr hlocks hK hP hD hS h dX12_worthTo_84
  · have h := h.2 hc
    refine lv_iload hx hb dX12_worthTo_14 (lv_at hl 3 rfl) ?_
    refine lv_iload_n hx hb dX12_worthTo_16 rfl (lv_at hl 1 rfl) ?_
    refine lv_icmp_eq (tgt := 77) hx hb dX12_worthTo_17 (by decide) (fun hc => ?_) (fun hc => ?_)
    · have h := h.1 hc
      obtain ⟨v3, ev3⟩ : ∃ z : Int32, z = x4 + (1 : Int32) := ⟨_, rfl⟩
      have h := h v3 ev3
      refine lv_iinc (v := v3) (lv' := [(4, .int v3), (0, .ref (ad 0)), (1, .int x1), (2, .long x2)]) hx hb dX12_worthTo_77 hl (k := 3) rfl (by rw [ev3]; rfl) (by decide) rfl (fun ls hl => ?_)
      refine lv_goto (tgt := 5) hx hb dX12_worthTo_80 (by decide) ?_
      exact hk_5 x1 x2 v3 τ2 _ _ _ h hP hD hS (lv_sub hl [1, 2, 3, 0] rfl)
    · have h := h.2 hc
      refine lv_aload_n hx hb dX12_worthTo_20 rfl (lv_at hl 0 rfl) ?_
      refine mg_0_50 hx hb hts hown hK hP mw_883 dX12_worthTo_21 ?_
      refine lv_bipush (v := (10 : Int32)) hx hb dX12_worthTo_24 (by decide) ?_
      refine lv_iload_n hx hb dX12_worthTo_26 rfl (lv_at hl 1 rfl) ?_
      refine lv_imul hx hb dX12_worthTo_27 ?_
      refine lv_iload hx hb dX12_worthTo_28 (lv_at hl 3 rfl) ?_
      refine lv_iadd hx hb dX12_worthTo_30 ?_
      refine ma_15 hx hb hK hP h.1 rfl dX12_worthTo_31 ?_
      have h := h.2
      refine lv_iconst (v := (-1 : Int32)) hx hb dX12_worthTo_32 (by decide) ?_
      refine lv_icmp_ne (tgt := 39) hx hb dX12_worthTo_33 (by decide) (fun hc => ?_) (fun hc => ?_)
      · have h := h.2 hc
        refine lv_lload_n hx hb dX12_worthTo_39 rfl (lv_at hl 2 rfl) ?_
        refine lv_aload_n hx hb dX12_worthTo_40 rfl (lv_at hl 0 rfl) ?_
        refine lv_iconst (v := (1 : Int32)) hx hb dX12_worthTo_41 (by decide) ?_
        refine lv_iload_n hx hb dX12_worthTo_42 rfl (lv_at hl 1 rfl) ?_
        refine lv_iload hx hb dX12_worthTo_43 (lv_at hl 3 rfl) ?_
        refine k_X12_tellsRule N ⟨hx, hb, hml, hown, hts⟩ mw_1116 ⟨Nat.le_of_ble_eq_true rfl, Nat.le_of_ble_eq_true rfl⟩ h hK hP hD hS hl.1 (rest := [.long x2]) (Nat.le_of_ble_eq_true rfl) ⟨Nat.le_of_ble_eq_true rfl, Nat.le_of_ble_eq_true rfl⟩ dX12_worthTo_45 (fun r4 τ5 H locs h hP hD hS => ?_)
        refine lv_ladd hx hb dX12_worthTo_48 ?_
        refine lv_topl (fun v6 ev6 => ?_)
        have h := h v6 ev6
        refine lv_lstore_n (lv' := [(2, .long v6), (0, .ref (ad 0)), (1, .int x1), (4, .int x4)]) hx hb dX12_worthTo_49 rfl hl (by decide) rfl (fun ls hl => ?_)
        refine lv_aload_n hx hb dX12_worthTo_50 rfl (lv_at hl 1 rfl) ?_
        refine mg_0_50 hx hb hts hown hK hP mw_883 dX12_worthTo_51 ?_
        refine lv_bipush (v := (10 : Int32)) hx hb dX12_worthTo_54 (by decide) ?_
        refine lv_iload_n hx hb dX12_worthTo_56 rfl (lv_at hl 2 rfl) ?_
        refine lv_imul hx hb dX12_worthTo_57 ?_
        refine lv_iload hx hb dX12_worthTo_58 (lv_at hl 3 rfl) ?_
        refine lv_iadd hx hb dX12_worthTo_60 ?_
        refine ma_15 hx hb hK hP h.1 rfl dX12_worthTo_61 ?_
        have h := h.2
        refine lv_iconst (v := (1 : Int32)) hx hb dX12_worthTo_62 (by decide) ?_
        refine lv_icmp_ne (tgt := 77) hx hb dX12_worthTo_63 (by decide) (fun hc => ?_) (fun hc => ?_)
        · have h := h.2 hc
          obtain ⟨v7, ev7⟩ : ∃ z : Int32, z = x4 + (1 : Int32) := ⟨_, rfl⟩
          have h := h v7 ev7
          refine lv_iinc (v := v7) (lv' := [(4, .int v7), (2, .long v6), (0, .ref (ad 0)), (1, .int x1)]) hx hb dX12_worthTo_77 hl (k := 3) rfl (by rw [ev7]; rfl) (by decide) rfl (fun ls hl => ?_)
          refine lv_goto (tgt := 5) hx hb dX12_worthTo_80 (by decide) ?_
          exact hk_5 x1 v6 v7 τ5 _ _ _ h hP hD hS (lv_sub hl [2, 3, 1, 0] rfl)
        · have h := h.1 hc
          refine lv_lload_n hx hb dX12_worthTo_66 rfl (lv_at hl 0 rfl) ?_
          refine lv_aload_n hx hb dX12_worthTo_67 rfl (lv_at hl 1 rfl) ?_
          refine lv_iconst (v := (0 : Int32)) hx hb dX12_worthTo_68 (by decide) ?_
          refine lv_iload_n hx hb dX12_worthTo_69 rfl (lv_at hl 2 rfl) ?_
          refine lv_iload hx hb dX12_worthTo_70 (lv_at hl 3 rfl) ?_
          refine k_X12_tellsRule N ⟨hx, hb, hml, hown, hts⟩ mw_1116 ⟨Nat.le_of_ble_eq_true rfl, Nat.le_of_ble_eq_true rfl⟩ h hK hP hD hS hl.1 (rest := [.long v6]) (Nat.le_of_ble_eq_true rfl) ⟨Nat.le_of_ble_eq_true rfl, Nat.le_of_ble_eq_true rfl⟩ dX12_worthTo_72 (fun r8 τ9 H locs h hP hD hS => ?_)
          refine lv_lsub hx hb dX12_worthTo_75 ?_
          refine lv_topl (fun v10 ev10 => ?_)
          have h := h v10 ev10
          refine lv_lstore_n (lv' := [(2, .long v10), (0, .ref (ad 0)), (1, .int x1), (4, .int x4)]) hx hb dX12_worthTo_76 rfl hl (by decide) rfl (fun ls hl => ?_)
          obtain ⟨v11, ev11⟩ : ∃ z : Int32, z = x4 + (1 : Int32) := ⟨_, rfl⟩
          have h := h v11 ev11
          refine lv_iinc (v := v11) (lv' := [(4, .int v11), (2, .long v10), (0, .ref (ad 0)), (1, .int x1)]) hx hb dX12_worthTo_77 hl (k := 3) rfl (by rw [ev11]; rfl) (by decide) rfl (fun ls hl => ?_)
          refine lv_goto (tgt := 5) hx hb dX12_worthTo_80 (by decide) ?_
          exact hk_5 x1 v10 v11 τ9 _ _ _ h hP hD hS (lv_sub hl [2, 3, 1, 0] rfl)
      · have h := h.1 hc
        refine lv_goto (tgt := 77) hx hb dX12_worthTo_36 (by decide) ?_
        obtain ⟨v12, ev12⟩ : ∃ z : Int32, z = x4 + (1 : Int32) := ⟨_, rfl⟩
        have h := h v12 ev12
        refine lv_iinc (v := v12) (lv' := [(4, .int v12), (0, .ref (ad 0)), (1, .int x1), (2, .long x2)]) hx hb dX12_worthTo_77 hl (k := 3) rfl (by rw [ev12]; rfl) (by decide) rfl (fun ls hl => ?_)
        refine lv_goto (tgt := 5) hx hb dX12_worthTo_80 (by decide) ?_
        exact hk_5 x1 x2 v12 τ2 _ _ _ h hP hD hS (lv_sub hl [1, 2, 3, 0] rfl)
set_option maxHeartbeats 4000000 in
set_option maxRecDepth 100000 in
theorem t_X12_worthTo_5 (C0 : zCx p s m meth c args RX12 cX12_worthTo 5 (some .long) vs_X12_worthTo) (hK : va_K (dC, dI) vwCl (m_ty cI cJ cC) s) (N : Nat) {Q : Int64 → zSt → Prop} : ∀ (f : Nat) (x1 : Int32) (x2 : Int64) (x4 : Int32) (σ : zSt) (H : Heap) (locs : List Loc) (ls : Array Slot), w_X12_worthTo_5 N  Q f x1 x2 x4 σ → va_P (dC, dI) vwCl (m_W ad cI cJ cC σ) H → va_D (zAW m_n ad s.heap.size) (m_W ad cI cJ cC σ) → va_S (zAW m_n ad s.heap.size) s.heap H locs → lv_has ls 5 [(0, .ref (ad 0)), (1, .int x1), (2, .long x2), (4, .int x4)] → W p l e rm_X12_worthTo s m args below meth c H locs 0 0 (MQ below (zQl (dC, dI) (m_ty cI cJ cC) (m_W ad cI cJ cC) (zAW m_n ad s.heap.size) Q) args s 0 0 (zAW m_n ad s.heap.size)) (F0 m 5 ls []) := by
  intro f
  induction f with
  | zero => intro x1 x2 x4 σ H locs ls h; exact h.elim
  | succ f ih =>
    intro x1 x2 x4 σ H locs ls h hP hD hS hl
    exact tb_X12_worthTo_5 C0 hK N  (k_5 := w_X12_worthTo_5 N  Q f) ih x1 x2 x4 σ H locs ls h hP hD hS hl
set_option maxHeartbeats 4000000 in
set_option maxRecDepth 100000 in
theorem t_X12_worthTo_0 (C0 : zCx p s m meth c args RX12 cX12_worthTo 5 (some .long) vs_X12_worthTo) (hK : va_K (dC, dI) vwCl (m_ty cI cJ cC) s) (N : Nat) {Q : Int64 → zSt → Prop} : ∀ (x1 : Int32) (σ : zSt) (H : Heap) (locs : List Loc) (ls : Array Slot), w_X12_worthTo N x1 σ Q → va_P (dC, dI) vwCl (m_W ad cI cJ cC σ) H → va_D (zAW m_n ad s.heap.size) (m_W ad cI cJ cC σ) → va_S (zAW m_n ad s.heap.size) s.heap H locs → lv_has ls 5 [(0, .ref (ad 0)), (1, .int x1)] → W p l e rm_X12_worthTo s m args below meth c H locs 0 0 (MQ below (zQl (dC, dI) (m_ty cI cJ cC) (m_W ad cI cJ cC) (zAW m_n ad s.heap.size) Q) args s 0 0 (zAW m_n ad s.heap.size)) (F0 m 0 ls []) := by
  obtain ⟨hx, hb, hml, hr, hown, hts, hlocks⟩ := id C0
  intro x1 σ H locs ls h hP hD hS hl
  unfold w_X12_worthTo at h
  refine lv_lconst (v := (0 : Int64)) hx hb dX12_worthTo_0 (by decide) ?_
  refine lv_lstore_n (lv' := [(2, .long (0 : Int64)), (0, .ref (ad 0)), (1, .int x1)]) hx hb dX12_worthTo_1 rfl hl (by decide) rfl (fun ls hl => ?_)
  refine lv_iconst (v := (0 : Int32)) hx hb dX12_worthTo_2 (by decide) ?_
  refine lv_istore (lv' := [(4, .int (0 : Int32)), (2, .long (0 : Int64)), (0, .ref (ad 0)), (1, .int x1)]) hx hb dX12_worthTo_3 hl (by decide) rfl (fun ls hl => ?_)
  exact t_X12_worthTo_5 C0 hK N  N x1 (0 : Int64) (0 : Int32) σ _ _ _ h hP hD hS (lv_sub hl [2, 3, 1, 0] rfl)
set_option maxHeartbeats 4000000 in
set_option maxRecDepth 100000 in
theorem c_X12_worthTo (N : Nat) (l : Launch) (dC : Nat → ClassId) (dI : Nat → Nat → Nat) (ad : Nat → Nat) (cI cJ cC : ClassId) (sz : Nat) (σ : zSt) (x1 : Int32) (Q : Int64 → zSt → Prop) (h : w_X12_worthTo N x1 σ Q) : Met l yX12_worthTo vs_X12_worthTo rm_X12_worthTo (va_Pc [.ref (ad 0), .int x1] (zPc (dC, dI) (m_ty cI cJ cC) (m_W ad cI cJ cC) sz σ)) (zQl (dC, dI) (m_ty cI cJ cC) (m_W ad cI cJ cC) (zAW m_n ad sz) Q) 0 0 (zAW m_n ad sz) := by
  refine Met.ofW (cc := cX12_worthTo) (maxL := 5) (ret := (some .long)) (by decide) rfl ?_
  intro p e s m args below meth c s₁ B hml hv
  obtain ⟨rfl, hsz, hP, hK, hD0⟩ := hv
  subst hsz
  have C0 : zCx p s m meth c _ RX12 cX12_worthTo 5 (some .long) vs_X12_worthTo := ⟨B.exec, B.bytes, hml, B.returns, findClass_of_methodNamed B.named, atoms_spec (ws := vs_X12_worthTo) B.pre, B.notSynchronized⟩
  have hD := m_D0 (n0 := s.heap.size) hD0
  have hl := lv_entry ([.ref (ad 0), .int x1]) (n := 5) (Nat.le_of_ble_eq_true rfl)
  rw [lg_entry_eq]
  generalize (lg_sl ([.ref (ad 0), .int x1]) ++ List.replicate (5 - (lg_sl ([.ref (ad 0), .int x1])).length) Slot.unset).toArray = ls at hl ⊢
  exact t_X12_worthTo_0 C0 hK N x1 σ _ _ ls h hP hD va_S.rf hl
theorem k_X12_worthTo (N : Nat) {R : Room} {H : Heap} {locs : List Loc} {cells slots : Nat} {Q2 : State → Prop} {cc : ByteArray} {nL pc index : Nat} {ls : Array Slot} {rest : List Value} {own : String} {c0 : Cond} {σ : zSt} {x1 : Int32} {Q : Int64 → zSt → Prop} (S0 : CallFix p m c cc nL s args (c0 :: zT) own) (hml : Cond.methodLink own index yX12_worthTo ∈ zT) (hR : rm_X12_worthTo.frames + 1 ≤ R.frames ∧ 8 + (5 + 11) + rm_X12_worthTo.locals ≤ R.locals) (h : w_X12_worthTo N x1 σ Q) (hK : va_K (dC, dI) vwCl (m_ty cI cJ cC) s) (hP : va_P (dC, dI) vwCl (m_W ad cI cJ cC σ) H) (hD : va_D (zAW m_n ad s.heap.size) (m_W ad cI cJ cC σ)) (hS : va_S (zAW m_n ad s.heap.size) s.heap H locs) (hsz : ls.size = nL) (hW : (rest.map fun v => v.category).sum ≤ 8) (hcs : cells ≤ R.cells ∧ slots ≤ R.slots) (hdg : decode cc pc = .ok (.invokevirtual index, 3)) (kk : ∀ (r : Int64) (τ : zSt) (H1 : Heap) (locs1 : List Loc), Q r τ → va_P (dC, dI) vwCl (m_W ad cI cJ cC τ) H1 → va_D (zAW m_n ad s.heap.size) (m_W ad cI cJ cC τ) → va_S (zAW m_n ad s.heap.size) s.heap H1 locs1 → W p l e R s m args below meth c H1 locs1 cells slots Q2 (F0 m (pc + 3) ls (.long r :: rest))) : W p l e R s m args below meth c H locs cells slots Q2 (F0 m pc ls (.int x1 :: .ref (ad 0) :: rest)) :=
  zcv_l (T := TX12) (N' := 83) (k := 0) (ci := 12) (fs := m_f0 ad σ) [.int x1] S0 (c_X12_worthTo N l dC dI ad cI cJ cC H.size σ x1 Q h) (cw_X12_worthTo S0.2.2.2.2 hml rfl rfl hR) rfl rfl hK hP hD hS rfl hsz hW rfl hcs hdg kk
end q20
