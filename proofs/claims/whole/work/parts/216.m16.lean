section q16
end q16
section q16
def b_X12_goesOn_174 (N : Nat) (k_158 : Int32 → zSt → Prop) (Q : Int32 → zSt → Prop) (x1 : Int32) (σ : zSt) : Prop :=
  w_X12_drops N σ (fun τ2 => k_158 x1 τ2)
def b_X12_goesOn_158 (N : Nat) (k_158 : Int32 → zSt → Prop) (Q : Int32 → zSt → Prop) (x1 : Int32) (σ : zSt) : Prop :=
  w_X12_isOn N (3 : Int32) σ (fun r1 τ2 => (r1 = 0 → w_X12_isOn N (4 : Int32) τ2 (fun r3 τ4 => (r3 = 0 → (vp_in (τ4.1 10) 900) ∧ (∀ τ5 : zSt, τ5 = zA τ4 11 (upd (τ4.2.2.1 11) ((τ4.1 10).toNatClampNeg) x1) → ∀ τ6 : zSt, τ6 = zI τ5 10 ((τ5.1 10) + (1 : Int32)) → Q (1 : Int32) τ6)) ∧ (¬ r3 = 0 → b_X12_goesOn_174 N k_158 Q x1 τ4))) ∧ (¬ r1 = 0 → b_X12_goesOn_174 N k_158 Q x1 τ2))
def w_X12_goesOn_158 (N : Nat) (Q : Int32 → zSt → Prop) : Nat → Int32 → zSt → Prop
  | 0 => fun _ _ => False
  | f + 1 => b_X12_goesOn_158 N (w_X12_goesOn_158 N  Q f) Q
def b_X12_goesOn_136 (N : Nat) (Q : Int32 → zSt → Prop)  (σ : zSt) : Prop :=
  (vp_in ((σ.1 1) - (1 : Int32)) 800) ∧ (((σ.2.2.1 0 ((σ.1 1) - (1 : Int32)).toNatClampNeg) = (42 : Int32) → w_X12_goesOn_158 N Q N (3 : Int32) σ) ∧ (¬ (σ.2.2.1 0 ((σ.1 1) - (1 : Int32)).toNatClampNeg) = (42 : Int32) → w_X12_goesOn_158 N Q N (4 : Int32) σ))
def b_X12_goesOn_275 (N : Nat) (k_243 : Int32 → zSt → Prop) (Q : Int32 → zSt → Prop) (x1 : Int32) (σ : zSt) : Prop :=
  w_X12_drops N σ (fun τ2 => k_243 x1 τ2)
def b_X12_goesOn_243 (N : Nat) (k_243 : Int32 → zSt → Prop) (Q : Int32 → zSt → Prop) (x1 : Int32) (σ : zSt) : Prop :=
  w_X12_isOn N (3 : Int32) σ (fun r1 τ2 => (r1 = 0 → w_X12_isOn N (4 : Int32) τ2 (fun r3 τ4 => (r3 = 0 → w_X12_isOn N (1 : Int32) τ4 (fun r5 τ6 => (r5 = 0 → w_X12_isOn N (2 : Int32) τ6 (fun r7 τ8 => (r7 = 0 → (vp_in (τ8.1 10) 900) ∧ (∀ τ9 : zSt, τ9 = zA τ8 11 (upd (τ8.2.2.1 11) ((τ8.1 10).toNatClampNeg) x1) → ∀ τ10 : zSt, τ10 = zI τ9 10 ((τ9.1 10) + (1 : Int32)) → Q (1 : Int32) τ10)) ∧ (¬ r7 = 0 → b_X12_goesOn_275 N k_243 Q x1 τ8))) ∧ (¬ r5 = 0 → b_X12_goesOn_275 N k_243 Q x1 τ6))) ∧ (¬ r3 = 0 → b_X12_goesOn_275 N k_243 Q x1 τ4))) ∧ (¬ r1 = 0 → b_X12_goesOn_275 N k_243 Q x1 τ2))
def w_X12_goesOn_243 (N : Nat) (Q : Int32 → zSt → Prop) : Nat → Int32 → zSt → Prop
  | 0 => fun _ _ => False
  | f + 1 => b_X12_goesOn_243 N (w_X12_goesOn_243 N  Q f) Q
def b_X12_goesOn_221 (N : Nat) (Q : Int32 → zSt → Prop)  (σ : zSt) : Prop :=
  (vp_in ((σ.1 1) - (1 : Int32)) 800) ∧ (((σ.2.2.1 0 ((σ.1 1) - (1 : Int32)).toNatClampNeg) = (43 : Int32) → w_X12_goesOn_243 N Q N (1 : Int32) σ) ∧ (¬ (σ.2.2.1 0 ((σ.1 1) - (1 : Int32)).toNatClampNeg) = (43 : Int32) → w_X12_goesOn_243 N Q N (2 : Int32) σ))
def b_X12_goesOn_322 (N : Nat) (Q : Int32 → zSt → Prop)  (σ : zSt) : Prop :=
  w_X12_asksSign N (44 : Int32) σ (fun τ2 => ((τ2.1 4) = 0 → w_X12_dropsToMark N τ2 (fun τ4 => (vp_in ((τ4.1 10) - (1 : Int32)) 900) ∧ ((vp_in ((τ4.1 10) - (1 : Int32)) 900) ∧ (∀ τ5 : zSt, τ5 = zA τ4 11 (upd (τ4.2.2.1 11) (((τ4.1 10) - (1 : Int32)).toNatClampNeg) ((τ4.2.2.1 11 ((τ4.1 10) - (1 : Int32)).toNatClampNeg) + (2 : Int32))) → Q (1 : Int32) τ5)))) ∧ (¬ (τ2.1 4) = 0 → Q (0 : Int32) τ2))
def b_X12_goesOn_118 (N : Nat) (Q : Int32 → zSt → Prop)  (σ : zSt) : Prop :=
  w_X12_takesSign N (42 : Int32) σ (fun r1 τ2 => (r1 = 0 → w_X12_takesSign N (47 : Int32) τ2 (fun r3 τ4 => (r3 = 0 → w_X12_takesSign N (43 : Int32) τ4 (fun r5 τ6 => (r5 = 0 → w_X12_takesSign N (45 : Int32) τ6 (fun r7 τ8 => (r7 = 0 → w_X12_mark N τ8 (fun r9 τ10 => (r9 = (21 : Int32) → b_X12_goesOn_322 N Q τ10) ∧ (¬ r9 = (21 : Int32) → w_X12_mark N τ10 (fun r11 τ12 => (r11 = (22 : Int32) → b_X12_goesOn_322 N Q τ12) ∧ (¬ r11 = (22 : Int32) → w_X12_mark N τ12 (fun r13 τ14 => (r13 = (-1 : Int32) → Q (0 : Int32) τ14) ∧ (¬ r13 = (-1 : Int32) → ((τ14.1 4) = 0 → w_X12_fail N (1 : Int32) (τ14.1 1) τ14 (fun τ16 => Q (0 : Int32) τ16)) ∧ (¬ (τ14.1 4) = 0 → Q (0 : Int32) τ14)))))))) ∧ (¬ r7 = 0 → b_X12_goesOn_221 N Q τ8))) ∧ (¬ r5 = 0 → b_X12_goesOn_221 N Q τ6))) ∧ (¬ r3 = 0 → b_X12_goesOn_136 N Q τ4))) ∧ (¬ r1 = 0 → b_X12_goesOn_136 N Q τ2))
def b_X12_goesOn_112 (N : Nat) (k_0 : zSt → Prop) (Q : Int32 → zSt → Prop) (s0 : Int32) (σ : zSt) : Prop :=
  w_X12_code N s0 σ (fun τ2 => k_0 τ2)
def b_X12_goesOn_43 (N : Nat) (k_0 : zSt → Prop) (Q : Int32 → zSt → Prop)  (σ : zSt) : Prop :=
  ∀ τ1 : zSt, τ1 = zI σ 1 ((σ.1 1) + (1 : Int32)) → w_X12_dropsToMark N τ1 (fun τ3 => ∀ τ4 : zSt, τ4 = zI τ3 10 ((τ3.1 10) - (1 : Int32)) → ∀ τ5 : zSt, τ5 = zI τ4 11 ((τ4.1 11) - (1 : Int32)) → (vp_in (τ5.1 10) 900) ∧ (((τ5.2.2.1 11 (τ5.1 10).toNatClampNeg) = (20 : Int32) → k_0 τ5) ∧ (¬ (τ5.2.2.1 11 (τ5.1 10).toNatClampNeg) = (20 : Int32) → (vp_in (τ5.1 10) 900) ∧ (((τ5.2.2.1 11 (τ5.1 10).toNatClampNeg) = (23 : Int32) → b_X12_goesOn_112 N k_0 Q (5 : Int32) τ5) ∧ (¬ (τ5.2.2.1 11 (τ5.1 10).toNatClampNeg) = (23 : Int32) → b_X12_goesOn_112 N k_0 Q (6 : Int32) τ5)))))
def b_X12_goesOn_0 (N : Nat) (k_0 : zSt → Prop) (Q : Int32 → zSt → Prop)  (σ : zSt) : Prop :=
  ((σ.1 4) = 0 → w_X12_look N σ (fun r1 τ2 => (r1 = (41 : Int32) → w_X12_mark N τ2 (fun r3 τ4 => (r3 = (20 : Int32) → b_X12_goesOn_43 N k_0 Q τ4) ∧ (¬ r3 = (20 : Int32) → w_X12_mark N τ4 (fun r5 τ6 => (r5 = (23 : Int32) → b_X12_goesOn_43 N k_0 Q τ6) ∧ (¬ r5 = (23 : Int32) → w_X12_mark N τ6 (fun r7 τ8 => (r7 = (24 : Int32) → b_X12_goesOn_43 N k_0 Q τ8) ∧ (¬ r7 = (24 : Int32) → b_X12_goesOn_118 N Q τ8))))))) ∧ (¬ r1 = (41 : Int32) → b_X12_goesOn_118 N Q τ2))) ∧ (¬ (σ.1 4) = 0 → b_X12_goesOn_118 N Q σ)
def w_X12_goesOn_0 (N : Nat) (Q : Int32 → zSt → Prop) : Nat → zSt → Prop
  | 0 => fun  _ => False
  | f + 1 => b_X12_goesOn_0 N (w_X12_goesOn_0 N  Q f) Q
def w_X12_goesOn (N : Nat)  (σ : zSt) (Q : Int32 → zSt → Prop) : Prop := w_X12_goesOn_0 N Q N  σ
variable {p : Program} {l : Launch} {e : Env} {s : State} {m : MethodId} {args : Array Value} {below : List Frame} {meth : Method} {c : Code} {dC : Nat → ClassId} {dI : Nat → Nat → Nat} {ad : Nat → Nat} {cI cJ cC : ClassId}
set_option maxHeartbeats 4000000 in
set_option maxRecDepth 100000 in
theorem t_X12_goesOn_174 (C0 : zCx p s m meth c args RX12 cX12_goesOn 2 (some .boolean) vs_X12_goesOn) (hK : va_K (dC, dI) vwCl (m_ty cI cJ cC) s) (N : Nat) {Q : Int32 → zSt → Prop} {k_158 : Int32 → zSt → Prop} (hk_158 : ∀ (x1 : Int32) (σ : zSt) (H : Heap) (locs : List Loc) (ls : Array Slot), k_158 x1 σ → va_P (dC, dI) vwCl (m_W ad cI cJ cC σ) H → va_D (zAW m_n ad s.heap.size) (m_W ad cI cJ cC σ) → va_S (zAW m_n ad s.heap.size) s.heap H locs → lv_has ls 2 [(0, .ref (ad 0)), (1, .int x1)] → W p l e rm_X12_goesOn s m args below meth c H locs 0 0 (MQ below (zQi (dC, dI) (m_ty cI cJ cC) (m_W ad cI cJ cC) (zAW m_n ad s.heap.size) Q) args s 0 0 (zAW m_n ad s.heap.size)) (F0 m 158 ls [])) : ∀ (x1 : Int32) (σ : zSt) (H : Heap) (locs : List Loc) (ls : Array Slot), b_X12_goesOn_174 N k_158 Q x1 σ → va_P (dC, dI) vwCl (m_W ad cI cJ cC σ) H → va_D (zAW m_n ad s.heap.size) (m_W ad cI cJ cC σ) → va_S (zAW m_n ad s.heap.size) s.heap H locs → lv_has ls 2 [(0, .ref (ad 0)), (1, .int x1)] → W p l e rm_X12_goesOn s m args below meth c H locs 0 0 (MQ below (zQi (dC, dI) (m_ty cI cJ cC) (m_W ad cI cJ cC) (zAW m_n ad s.heap.size) Q) args s 0 0 (zAW m_n ad s.heap.size)) (F0 m 174 ls []) := by
  obtain ⟨hx, hb, hml, hr, hown, hts, hlocks⟩ := id C0
  intro x1 σ H locs ls h hP hD hS hl
  unfold b_X12_goesOn_174 at h
  refine lv_aload_n hx hb dX12_goesOn_174 rfl (lv_at hl 0 rfl) ?_
  refine k_X12_drops N ⟨hx, hb, hml, hown, hts⟩ mw_1006 ⟨Nat.le_of_ble_eq_true rfl, Nat.le_of_ble_eq_true rfl⟩ h hK hP hD hS hl.1 (rest := []) (Nat.le_of_ble_eq_true rfl) ⟨Nat.le_of_ble_eq_true rfl, Nat.le_of_ble_eq_true rfl⟩ dX12_goesOn_175 (fun τ2 H locs h hP hD hS => ?_)
  refine lv_goto (tgt := 158) hx hb dX12_goesOn_178 (by decide) ?_
  exact hk_158 x1 τ2 _ _ _ h hP hD hS (lv_sub hl [0, 1] rfl)
set_option maxHeartbeats 4000000 in
set_option maxRecDepth 100000 in
theorem tb_X12_goesOn_158 (C0 : zCx p s m meth c args RX12 cX12_goesOn 2 (some .boolean) vs_X12_goesOn) (hK : va_K (dC, dI) vwCl (m_ty cI cJ cC) s) (N : Nat) {Q : Int32 → zSt → Prop} {k_158 : Int32 → zSt → Prop} (hk_158 : ∀ (x1 : Int32) (σ : zSt) (H : Heap) (locs : List Loc) (ls : Array Slot), k_158 x1 σ → va_P (dC, dI) vwCl (m_W ad cI cJ cC σ) H → va_D (zAW m_n ad s.heap.size) (m_W ad cI cJ cC σ) → va_S (zAW m_n ad s.heap.size) s.heap H locs → lv_has ls 2 [(0, .ref (ad 0)), (1, .int x1)] → W p l e rm_X12_goesOn s m args below meth c H locs 0 0 (MQ below (zQi (dC, dI) (m_ty cI cJ cC) (m_W ad cI cJ cC) (zAW m_n ad s.heap.size) Q) args s 0 0 (zAW m_n ad s.heap.size)) (F0 m 158 ls [])) : ∀ (x1 : Int32) (σ : zSt) (H : Heap) (locs : List Loc) (ls : Array Slot), b_X12_goesOn_158 N k_158 Q x1 σ → va_P (dC, dI) vwCl (m_W ad cI cJ cC σ) H → va_D (zAW m_n ad s.heap.size) (m_W ad cI cJ cC σ) → va_S (zAW m_n ad s.heap.size) s.heap H locs → lv_has ls 2 [(0, .ref (ad 0)), (1, .int x1)] → W p l e rm_X12_goesOn s m args below meth c H locs 0 0 (MQ below (zQi (dC, dI) (m_ty cI cJ cC) (m_W ad cI cJ cC) (zAW m_n ad s.heap.size) Q) args s 0 0 (zAW m_n ad s.heap.size)) (F0 m 158 ls []) := by
  obtain ⟨hx, hb, hml, hr, hown, hts, hlocks⟩ := id C0
  intro x1 σ H locs ls h hP hD hS hl
  unfold b_X12_goesOn_158 at h
  refine lv_aload_n hx hb dX12_goesOn_158 rfl (lv_at hl 0 rfl) ?_
  refine lv_iconst (v := (3 : Int32)) hx hb dX12_goesOn_159 (by decide) ?_
  refine k_X12_isOn N ⟨hx, hb, hml, hown, hts⟩ mw_1009 ⟨Nat.le_of_ble_eq_true rfl, Nat.le_of_ble_eq_true rfl⟩ h hK hP hD hS hl.1 (rest := []) (Nat.le_of_ble_eq_true rfl) ⟨Nat.le_of_ble_eq_true rfl, Nat.le_of_ble_eq_true rfl⟩ dX12_goesOn_160 (fun r1 τ2 H locs h hP hD hS => ?_)
  refine lv_if_ne (tgt := 174) hx hb dX12_goesOn_163 (by decide) (fun hc => ?_) (fun hc => ?_)
  · have h := h.2 hc
    exact t_X12_goesOn_174 C0 hK N hk_158 x1 τ2 _ _ _ h hP hD hS (lv_sub hl [0, 1] rfl)
  · have h := h.1 hc
    refine lv_aload_n hx hb dX12_goesOn_166 rfl (lv_at hl 0 rfl) ?_
    refine lv_iconst (v := (4 : Int32)) hx hb dX12_goesOn_167 (by decide) ?_
    refine k_X12_isOn N ⟨hx, hb, hml, hown, hts⟩ mw_1009 ⟨Nat.le_of_ble_eq_true rfl, Nat.le_of_ble_eq_true rfl⟩ h hK hP hD hS hl.1 (rest := []) (Nat.le_of_ble_eq_true rfl) ⟨Nat.le_of_ble_eq_true rfl, Nat.le_of_ble_eq_true rfl⟩ dX12_goesOn_168 (fun r3 τ4 H locs h hP hD hS => ?_)
    refine lv_if_eq (tgt := 181) hx hb dX12_goesOn_171 (by decide) (fun hc => ?_) (fun hc => ?_)
    · have h := h.1 hc
      refine lv_aload_n hx hb dX12_goesOn_181 rfl (lv_at hl 0 rfl) ?_
      refine mg_0_42 hx hb hts hown hK hP mw_875 dX12_goesOn_182 ?_
      refine lv_aload_n hx hb dX12_goesOn_185 rfl (lv_at hl 0 rfl) ?_
      refine mg_0_43 hx hb hts hown hK hP mw_876 dX12_goesOn_186 ?_
      refine lv_iload_n hx hb dX12_goesOn_189 rfl (lv_at hl 1 rfl) ?_
      refine ms_14 hx hb hK hP hD hS h.1 rfl dX12_goesOn_190 (fun τ5 H locs eτ5 hP hD hS => ?_)
      have h := h.2
      have h := h τ5 eτ5
      refine lv_aload_n hx hb dX12_goesOn_191 rfl (lv_at hl 0 rfl) ?_
      refine lv_dup hx hb dX12_goesOn_192 rfl ?_
      refine mg_0_43 hx hb hts hown hK hP mw_876 dX12_goesOn_193 ?_
      refine lv_iconst (v := (1 : Int32)) hx hb dX12_goesOn_196 (by decide) ?_
      refine lv_iadd hx hb dX12_goesOn_197 ?_
      refine mp_0_43 hx hb hts hown hK hP hD hS mw_876 dX12_goesOn_198 (fun τ6 H locs eτ6 hP hD hS => ?_)
      have h := h τ6 eτ6
      refine lv_iconst (v := (1 : Int32)) hx hb dX12_goesOn_201 (by decide) ?_
      exact zret_z hx hb hr hlocks hK hP hD hS zb_1 h dX12_goesOn_202
    · have h := h.2 hc
      exact t_X12_goesOn_174 C0 hK N hk_158 x1 τ4 _ _ _ h hP hD hS (lv_sub hl [0, 1] rfl)
set_option maxHeartbeats 4000000 in
set_option maxRecDepth 100000 in
theorem t_X12_goesOn_158 (C0 : zCx p s m meth c args RX12 cX12_goesOn 2 (some .boolean) vs_X12_goesOn) (hK : va_K (dC, dI) vwCl (m_ty cI cJ cC) s) (N : Nat) {Q : Int32 → zSt → Prop} : ∀ (f : Nat) (x1 : Int32) (σ : zSt) (H : Heap) (locs : List Loc) (ls : Array Slot), w_X12_goesOn_158 N  Q f x1 σ → va_P (dC, dI) vwCl (m_W ad cI cJ cC σ) H → va_D (zAW m_n ad s.heap.size) (m_W ad cI cJ cC σ) → va_S (zAW m_n ad s.heap.size) s.heap H locs → lv_has ls 2 [(0, .ref (ad 0)), (1, .int x1)] → W p l e rm_X12_goesOn s m args below meth c H locs 0 0 (MQ below (zQi (dC, dI) (m_ty cI cJ cC) (m_W ad cI cJ cC) (zAW m_n ad s.heap.size) Q) args s 0 0 (zAW m_n ad s.heap.size)) (F0 m 158 ls []) := by
  intro f
  induction f with
  | zero => intro x1 σ H locs ls h; exact h.elim
  | succ f ih =>
    intro x1 σ H locs ls h hP hD hS hl
    exact tb_X12_goesOn_158 C0 hK N  (k_158 := w_X12_goesOn_158 N  Q f) ih x1 σ H locs ls h hP hD hS hl
set_option maxHeartbeats 4000000 in
set_option maxRecDepth 100000 in
theorem t_X12_goesOn_136 (C0 : zCx p s m meth c args RX12 cX12_goesOn 2 (some .boolean) vs_X12_goesOn) (hK : va_K (dC, dI) vwCl (m_ty cI cJ cC) s) (N : Nat) {Q : Int32 → zSt → Prop} : ∀  (σ : zSt) (H : Heap) (locs : List Loc) (ls : Array Slot), b_X12_goesOn_136 N  Q  σ → va_P (dC, dI) vwCl (m_W ad cI cJ cC σ) H → va_D (zAW m_n ad s.heap.size) (m_W ad cI cJ cC σ) → va_S (zAW m_n ad s.heap.size) s.heap H locs → lv_has ls 2 [(0, .ref (ad 0))] → W p l e rm_X12_goesOn s m args below meth c H locs 0 0 (MQ below (zQi (dC, dI) (m_ty cI cJ cC) (m_W ad cI cJ cC) (zAW m_n ad s.heap.size) Q) args s 0 0 (zAW m_n ad s.heap.size)) (F0 m 136 ls []) := by
  obtain ⟨hx, hb, hml, hr, hown, hts, hlocks⟩ := id C0
  intro  σ H locs ls h hP hD hS hl
  unfold b_X12_goesOn_136 at h
  refine lv_aload_n hx hb dX12_goesOn_136 rfl (lv_at hl 0 rfl) ?_
  refine mg_0_0 hx hb hts hown hK hP mw_833 dX12_goesOn_137 ?_
  refine lv_aload_n hx hb dX12_goesOn_140 rfl (lv_at hl 0 rfl) ?_
  refine mg_0_2 hx hb hts hown hK hP mw_835 dX12_goesOn_141 ?_
  refine lv_iconst (v := (1 : Int32)) hx hb dX12_goesOn_144 (by decide) ?_
  refine lv_isub hx hb dX12_goesOn_145 ?_
  refine ma_1 hx hb hK hP h.1 rfl dX12_goesOn_146 ?_
  have h := h.2
  refine lv_bipush (v := (42 : Int32)) hx hb dX12_goesOn_147 (by decide) ?_
  refine lv_icmp_ne (tgt := 156) hx hb dX12_goesOn_149 (by decide) (fun hc => ?_) (fun hc => ?_)
  · have h := h.2 hc
    refine lv_iconst (v := (4 : Int32)) hx hb dX12_goesOn_156 (by decide) ?_
    refine lv_istore_n (lv' := [(1, .int (4 : Int32)), (0, .ref (ad 0))]) hx hb dX12_goesOn_157 rfl hl (by decide) rfl (fun ls hl => ?_)
    exact t_X12_goesOn_158 C0 hK N  N (4 : Int32) σ _ _ _ h hP hD hS (lv_sub hl [1, 0] rfl)
  · have h := h.1 hc
    refine lv_iconst (v := (3 : Int32)) hx hb dX12_goesOn_152 (by decide) ?_
    refine lv_goto (tgt := 157) hx hb dX12_goesOn_153 (by decide) ?_
    refine lv_istore_n (lv' := [(1, .int (3 : Int32)), (0, .ref (ad 0))]) hx hb dX12_goesOn_157 rfl hl (by decide) rfl (fun ls hl => ?_)
    exact t_X12_goesOn_158 C0 hK N  N (3 : Int32) σ _ _ _ h hP hD hS (lv_sub hl [1, 0] rfl)
set_option maxHeartbeats 4000000 in
set_option maxRecDepth 100000 in
theorem t_X12_goesOn_275 (C0 : zCx p s m meth c args RX12 cX12_goesOn 2 (some .boolean) vs_X12_goesOn) (hK : va_K (dC, dI) vwCl (m_ty cI cJ cC) s) (N : Nat) {Q : Int32 → zSt → Prop} {k_243 : Int32 → zSt → Prop} (hk_243 : ∀ (x1 : Int32) (σ : zSt) (H : Heap) (locs : List Loc) (ls : Array Slot), k_243 x1 σ → va_P (dC, dI) vwCl (m_W ad cI cJ cC σ) H → va_D (zAW m_n ad s.heap.size) (m_W ad cI cJ cC σ) → va_S (zAW m_n ad s.heap.size) s.heap H locs → lv_has ls 2 [(0, .ref (ad 0)), (1, .int x1)] → W p l e rm_X12_goesOn s m args below meth c H locs 0 0 (MQ below (zQi (dC, dI) (m_ty cI cJ cC) (m_W ad cI cJ cC) (zAW m_n ad s.heap.size) Q) args s 0 0 (zAW m_n ad s.heap.size)) (F0 m 243 ls [])) : ∀ (x1 : Int32) (σ : zSt) (H : Heap) (locs : List Loc) (ls : Array Slot), b_X12_goesOn_275 N k_243 Q x1 σ → va_P (dC, dI) vwCl (m_W ad cI cJ cC σ) H → va_D (zAW m_n ad s.heap.size) (m_W ad cI cJ cC σ) → va_S (zAW m_n ad s.heap.size) s.heap H locs → lv_has ls 2 [(0, .ref (ad 0)), (1, .int x1)] → W p l e rm_X12_goesOn s m args below meth c H locs 0 0 (MQ below (zQi (dC, dI) (m_ty cI cJ cC) (m_W ad cI cJ cC) (zAW m_n ad s.heap.size) Q) args s 0 0 (zAW m_n ad s.heap.size)) (F0 m 275 ls []) := by
  obtain ⟨hx, hb, hml, hr, hown, hts, hlocks⟩ := id C0
  intro x1 σ H locs ls h hP hD hS hl
  unfold b_X12_goesOn_275 at h
  refine lv_aload_n hx hb dX12_goesOn_275 rfl (lv_at hl 0 rfl) ?_
  refine k_X12_drops N ⟨hx, hb, hml, hown, hts⟩ mw_1006 ⟨Nat.le_of_ble_eq_true rfl, Nat.le_of_ble_eq_true rfl⟩ h hK hP hD hS hl.1 (rest := []) (Nat.le_of_ble_eq_true rfl) ⟨Nat.le_of_ble_eq_true rfl, Nat.le_of_ble_eq_true rfl⟩ dX12_goesOn_276 (fun τ2 H locs h hP hD hS => ?_)
  refine lv_goto (tgt := 243) hx hb dX12_goesOn_279 (by decide) ?_
  exact hk_243 x1 τ2 _ _ _ h hP hD hS (lv_sub hl [0, 1] rfl)
set_option maxHeartbeats 4000000 in
set_option maxRecDepth 100000 in
theorem tb_X12_goesOn_243 (C0 : zCx p s m meth c args RX12 cX12_goesOn 2 (some .boolean) vs_X12_goesOn) (hK : va_K (dC, dI) vwCl (m_ty cI cJ cC) s) (N : Nat) {Q : Int32 → zSt → Prop} {k_243 : Int32 → zSt → Prop} (hk_243 : ∀ (x1 : Int32) (σ : zSt) (H : Heap) (locs : List Loc) (ls : Array Slot), k_243 x1 σ → va_P (dC, dI) vwCl (m_W ad cI cJ cC σ) H → va_D (zAW m_n ad s.heap.size) (m_W ad cI cJ cC σ) → va_S (zAW m_n ad s.heap.size) s.heap H locs → lv_has ls 2 [(0, .ref (ad 0)), (1, .int x1)] → W p l e rm_X12_goesOn s m args below meth c H locs 0 0 (MQ below (zQi (dC, dI) (m_ty cI cJ cC) (m_W ad cI cJ cC) (zAW m_n ad s.heap.size) Q) args s 0 0 (zAW m_n ad s.heap.size)) (F0 m 243 ls [])) : ∀ (x1 : Int32) (σ : zSt) (H : Heap) (locs : List Loc) (ls : Array Slot), b_X12_goesOn_243 N k_243 Q x1 σ → va_P (dC, dI) vwCl (m_W ad cI cJ cC σ) H → va_D (zAW m_n ad s.heap.size) (m_W ad cI cJ cC σ) → va_S (zAW m_n ad s.heap.size) s.heap H locs → lv_has ls 2 [(0, .ref (ad 0)), (1, .int x1)] → W p l e rm_X12_goesOn s m args below meth c H locs 0 0 (MQ below (zQi (dC, dI) (m_ty cI cJ cC) (m_W ad cI cJ cC) (zAW m_n ad s.heap.size) Q) args s 0 0 (zAW m_n ad s.heap.size)) (F0 m 243 ls []) := by
  obtain ⟨hx, hb, hml, hr, hown, hts, hlocks⟩ := id C0
  intro x1 σ H locs ls h hP hD hS hl
  unfold b_X12_goesOn_243 at h
  refine lv_aload_n hx hb dX12_goesOn_243 rfl (lv_at hl 0 rfl) ?_
  refine lv_iconst (v := (3 : Int32)) hx hb dX12_goesOn_244 (by decide) ?_
  refine k_X12_isOn N ⟨hx, hb, hml, hown, hts⟩ mw_1009 ⟨Nat.le_of_ble_eq_true rfl, Nat.le_of_ble_eq_true rfl⟩ h hK hP hD hS hl.1 (rest := []) (Nat.le_of_ble_eq_true rfl) ⟨Nat.le_of_ble_eq_true rfl, Nat.le_of_ble_eq_true rfl⟩ dX12_goesOn_245 (fun r1 τ2 H locs h hP hD hS => ?_)
  refine lv_if_ne (tgt := 275) hx hb dX12_goesOn_248 (by decide) (fun hc => ?_) (fun hc => ?_)
  · have h := h.2 hc
    exact t_X12_goesOn_275 C0 hK N hk_243 x1 τ2 _ _ _ h hP hD hS (lv_sub hl [0, 1] rfl)
  · have h := h.1 hc
    refine lv_aload_n hx hb dX12_goesOn_251 rfl (lv_at hl 0 rfl) ?_
    refine lv_iconst (v := (4 : Int32)) hx hb dX12_goesOn_252 (by decide) ?_
    refine k_X12_isOn N ⟨hx, hb, hml, hown, hts⟩ mw_1009 ⟨Nat.le_of_ble_eq_true rfl, Nat.le_of_ble_eq_true rfl⟩ h hK hP hD hS hl.1 (rest := []) (Nat.le_of_ble_eq_true rfl) ⟨Nat.le_of_ble_eq_true rfl, Nat.le_of_ble_eq_true rfl⟩ dX12_goesOn_253 (fun r3 τ4 H locs h hP hD hS => ?_)
    refine lv_if_ne (tgt := 275) hx hb dX12_goesOn_256 (by decide) (fun hc => ?_) (fun hc => ?_)
    · have h := h.2 hc
      exact t_X12_goesOn_275 C0 hK N hk_243 x1 τ4 _ _ _ h hP hD hS (lv_sub hl [0, 1] rfl)
    · have h := h.1 hc
      refine lv_aload_n hx hb dX12_goesOn_259 rfl (lv_at hl 0 rfl) ?_
      refine lv_iconst (v := (1 : Int32)) hx hb dX12_goesOn_260 (by decide) ?_
      refine k_X12_isOn N ⟨hx, hb, hml, hown, hts⟩ mw_1009 ⟨Nat.le_of_ble_eq_true rfl, Nat.le_of_ble_eq_true rfl⟩ h hK hP hD hS hl.1 (rest := []) (Nat.le_of_ble_eq_true rfl) ⟨Nat.le_of_ble_eq_true rfl, Nat.le_of_ble_eq_true rfl⟩ dX12_goesOn_261 (fun r5 τ6 H locs h hP hD hS => ?_)
      refine lv_if_ne (tgt := 275) hx hb dX12_goesOn_264 (by decide) (fun hc => ?_) (fun hc => ?_)
      · have h := h.2 hc
        exact t_X12_goesOn_275 C0 hK N hk_243 x1 τ6 _ _ _ h hP hD hS (lv_sub hl [0, 1] rfl)
      · have h := h.1 hc
        refine lv_aload_n hx hb dX12_goesOn_267 rfl (lv_at hl 0 rfl) ?_
        refine lv_iconst (v := (2 : Int32)) hx hb dX12_goesOn_268 (by decide) ?_
        refine k_X12_isOn N ⟨hx, hb, hml, hown, hts⟩ mw_1009 ⟨Nat.le_of_ble_eq_true rfl, Nat.le_of_ble_eq_true rfl⟩ h hK hP hD hS hl.1 (rest := []) (Nat.le_of_ble_eq_true rfl) ⟨Nat.le_of_ble_eq_true rfl, Nat.le_of_ble_eq_true rfl⟩ dX12_goesOn_269 (fun r7 τ8 H locs h hP hD hS => ?_)
        refine lv_if_eq (tgt := 282) hx hb dX12_goesOn_272 (by decide) (fun hc => ?_) (fun hc => ?_)
        · have h := h.1 hc
          refine lv_aload_n hx hb dX12_goesOn_282 rfl (lv_at hl 0 rfl) ?_
          refine mg_0_42 hx hb hts hown hK hP mw_875 dX12_goesOn_283 ?_
          refine lv_aload_n hx hb dX12_goesOn_286 rfl (lv_at hl 0 rfl) ?_
          refine mg_0_43 hx hb hts hown hK hP mw_876 dX12_goesOn_287 ?_
          refine lv_iload_n hx hb dX12_goesOn_290 rfl (lv_at hl 1 rfl) ?_
          refine ms_14 hx hb hK hP hD hS h.1 rfl dX12_goesOn_291 (fun τ9 H locs eτ9 hP hD hS => ?_)
          have h := h.2
          have h := h τ9 eτ9
          refine lv_aload_n hx hb dX12_goesOn_292 rfl (lv_at hl 0 rfl) ?_
          refine lv_dup hx hb dX12_goesOn_293 rfl ?_
          refine mg_0_43 hx hb hts hown hK hP mw_876 dX12_goesOn_294 ?_
          refine lv_iconst (v := (1 : Int32)) hx hb dX12_goesOn_297 (by decide) ?_
          refine lv_iadd hx hb dX12_goesOn_298 ?_
          refine mp_0_43 hx hb hts hown hK hP hD hS mw_876 dX12_goesOn_299 (fun τ10 H locs eτ10 hP hD hS => ?_)
          have h := h τ10 eτ10
          refine lv_iconst (v := (1 : Int32)) hx hb dX12_goesOn_302 (by decide) ?_
          exact zret_z hx hb hr hlocks hK hP hD hS zb_1 h dX12_goesOn_303
        · have h := h.2 hc
          exact t_X12_goesOn_275 C0 hK N hk_243 x1 τ8 _ _ _ h hP hD hS (lv_sub hl [0, 1] rfl)
set_option maxHeartbeats 4000000 in
set_option maxRecDepth 100000 in
theorem t_X12_goesOn_243 (C0 : zCx p s m meth c args RX12 cX12_goesOn 2 (some .boolean) vs_X12_goesOn) (hK : va_K (dC, dI) vwCl (m_ty cI cJ cC) s) (N : Nat) {Q : Int32 → zSt → Prop} : ∀ (f : Nat) (x1 : Int32) (σ : zSt) (H : Heap) (locs : List Loc) (ls : Array Slot), w_X12_goesOn_243 N  Q f x1 σ → va_P (dC, dI) vwCl (m_W ad cI cJ cC σ) H → va_D (zAW m_n ad s.heap.size) (m_W ad cI cJ cC σ) → va_S (zAW m_n ad s.heap.size) s.heap H locs → lv_has ls 2 [(0, .ref (ad 0)), (1, .int x1)] → W p l e rm_X12_goesOn s m args below meth c H locs 0 0 (MQ below (zQi (dC, dI) (m_ty cI cJ cC) (m_W ad cI cJ cC) (zAW m_n ad s.heap.size) Q) args s 0 0 (zAW m_n ad s.heap.size)) (F0 m 243 ls []) := by
  intro f
  induction f with
  | zero => intro x1 σ H locs ls h; exact h.elim
  | succ f ih =>
    intro x1 σ H locs ls h hP hD hS hl
    exact tb_X12_goesOn_243 C0 hK N  (k_243 := w_X12_goesOn_243 N  Q f) ih x1 σ H locs ls h hP hD hS hl
set_option maxHeartbeats 4000000 in
set_option maxRecDepth 100000 in
theorem t_X12_goesOn_221 (C0 : zCx p s m meth c args RX12 cX12_goesOn 2 (some .boolean) vs_X12_goesOn) (hK : va_K (dC, dI) vwCl (m_ty cI cJ cC) s) (N : Nat) {Q : Int32 → zSt → Prop} : ∀  (σ : zSt) (H : Heap) (locs : List Loc) (ls : Array Slot), b_X12_goesOn_221 N  Q  σ → va_P (dC, dI) vwCl (m_W ad cI cJ cC σ) H → va_D (zAW m_n ad s.heap.size) (m_W ad cI cJ cC σ) → va_S (zAW m_n ad s.heap.size) s.heap H locs → lv_has ls 2 [(0, .ref (ad 0))] → W p l e rm_X12_goesOn s m args below meth c H locs 0 0 (MQ below (zQi (dC, dI) (m_ty cI cJ cC) (m_W ad cI cJ cC) (zAW m_n ad s.heap.size) Q) args s 0 0 (zAW m_n ad s.heap.size)) (F0 m 221 ls []) := by
  obtain ⟨hx, hb, hml, hr, hown, hts, hlocks⟩ := id C0
  intro  σ H locs ls h hP hD hS hl
  unfold b_X12_goesOn_221 at h
  refine lv_aload_n hx hb dX12_goesOn_221 rfl (lv_at hl 0 rfl) ?_
  refine mg_0_0 hx hb hts hown hK hP mw_833 dX12_goesOn_222 ?_
  refine lv_aload_n hx hb dX12_goesOn_225 rfl (lv_at hl 0 rfl) ?_
  refine mg_0_2 hx hb hts hown hK hP mw_835 dX12_goesOn_226 ?_
  refine lv_iconst (v := (1 : Int32)) hx hb dX12_goesOn_229 (by decide) ?_
  refine lv_isub hx hb dX12_goesOn_230 ?_
  refine ma_1 hx hb hK hP h.1 rfl dX12_goesOn_231 ?_
  have h := h.2
  refine lv_bipush (v := (43 : Int32)) hx hb dX12_goesOn_232 (by decide) ?_
  refine lv_icmp_ne (tgt := 241) hx hb dX12_goesOn_234 (by decide) (fun hc => ?_) (fun hc => ?_)
  · have h := h.2 hc
    refine lv_iconst (v := (2 : Int32)) hx hb dX12_goesOn_241 (by decide) ?_
    refine lv_istore_n (lv' := [(1, .int (2 : Int32)), (0, .ref (ad 0))]) hx hb dX12_goesOn_242 rfl hl (by decide) rfl (fun ls hl => ?_)
    exact t_X12_goesOn_243 C0 hK N  N (2 : Int32) σ _ _ _ h hP hD hS (lv_sub hl [1, 0] rfl)
  · have h := h.1 hc
    refine lv_iconst (v := (1 : Int32)) hx hb dX12_goesOn_237 (by decide) ?_
    refine lv_goto (tgt := 242) hx hb dX12_goesOn_238 (by decide) ?_
    refine lv_istore_n (lv' := [(1, .int (1 : Int32)), (0, .ref (ad 0))]) hx hb dX12_goesOn_242 rfl hl (by decide) rfl (fun ls hl => ?_)
    exact t_X12_goesOn_243 C0 hK N  N (1 : Int32) σ _ _ _ h hP hD hS (lv_sub hl [1, 0] rfl)
set_option maxHeartbeats 4000000 in
set_option maxRecDepth 100000 in
theorem t_X12_goesOn_322 (C0 : zCx p s m meth c args RX12 cX12_goesOn 2 (some .boolean) vs_X12_goesOn) (hK : va_K (dC, dI) vwCl (m_ty cI cJ cC) s) (N : Nat) {Q : Int32 → zSt → Prop} : ∀  (σ : zSt) (H : Heap) (locs : List Loc) (ls : Array Slot), b_X12_goesOn_322 N  Q  σ → va_P (dC, dI) vwCl (m_W ad cI cJ cC σ) H → va_D (zAW m_n ad s.heap.size) (m_W ad cI cJ cC σ) → va_S (zAW m_n ad s.heap.size) s.heap H locs → lv_has ls 2 [(0, .ref (ad 0))] → W p l e rm_X12_goesOn s m args below meth c H locs 0 0 (MQ below (zQi (dC, dI) (m_ty cI cJ cC) (m_W ad cI cJ cC) (zAW m_n ad s.heap.size) Q) args s 0 0 (zAW m_n ad s.heap.size)) (F0 m 322 ls []) := by
  obtain ⟨hx, hb, hml, hr, hown, hts, hlocks⟩ := id C0
  intro  σ H locs ls h hP hD hS hl
  unfold b_X12_goesOn_322 at h
  refine lv_aload_n hx hb dX12_goesOn_322 rfl (lv_at hl 0 rfl) ?_
  refine lv_bipush (v := (44 : Int32)) hx hb dX12_goesOn_323 (by decide) ?_
  refine k_X12_asksSign N ⟨hx, hb, hml, hown, hts⟩ mw_985 ⟨Nat.le_of_ble_eq_true rfl, Nat.le_of_ble_eq_true rfl⟩ h hK hP hD hS hl.1 (rest := []) (Nat.le_of_ble_eq_true rfl) ⟨Nat.le_of_ble_eq_true rfl, Nat.le_of_ble_eq_true rfl⟩ dX12_goesOn_325 (fun τ2 H locs h hP hD hS => ?_)
  refine lv_aload_n hx hb dX12_goesOn_328 rfl (lv_at hl 0 rfl) ?_
  refine mg_0_5 hx hb hts hown hK hP mw_838 dX12_goesOn_329 ?_
  refine lv_if_eq (tgt := 337) hx hb dX12_goesOn_332 (by decide) (fun hc => ?_) (fun hc => ?_)
  · have h := h.1 hc
    refine lv_aload_n hx hb dX12_goesOn_337 rfl (lv_at hl 0 rfl) ?_
    refine k_X12_dropsToMark N ⟨hx, hb, hml, hown, hts⟩ mw_1003 ⟨Nat.le_of_ble_eq_true rfl, Nat.le_of_ble_eq_true rfl⟩ h hK hP hD hS hl.1 (rest := []) (Nat.le_of_ble_eq_true rfl) ⟨Nat.le_of_ble_eq_true rfl, Nat.le_of_ble_eq_true rfl⟩ dX12_goesOn_338 (fun τ4 H locs h hP hD hS => ?_)
    refine lv_aload_n hx hb dX12_goesOn_341 rfl (lv_at hl 0 rfl) ?_
    refine mg_0_42 hx hb hts hown hK hP mw_875 dX12_goesOn_342 ?_
    refine lv_aload_n hx hb dX12_goesOn_345 rfl (lv_at hl 0 rfl) ?_
    refine mg_0_43 hx hb hts hown hK hP mw_876 dX12_goesOn_346 ?_
    refine lv_iconst (v := (1 : Int32)) hx hb dX12_goesOn_349 (by decide) ?_
    refine lv_isub hx hb dX12_goesOn_350 ?_
    refine lv_dup2_11 hx hb dX12_goesOn_351 rfl rfl ?_
    refine ma_14 hx hb hK hP h.1 rfl dX12_goesOn_352 ?_
    have h := h.2
    refine lv_iconst (v := (2 : Int32)) hx hb dX12_goesOn_353 (by decide) ?_
    refine lv_iadd hx hb dX12_goesOn_354 ?_
    refine ms_14 hx hb hK hP hD hS h.1 rfl dX12_goesOn_355 (fun τ5 H locs eτ5 hP hD hS => ?_)
    have h := h.2
    have h := h τ5 eτ5
    refine lv_iconst (v := (1 : Int32)) hx hb dX12_goesOn_356 (by decide) ?_
    exact zret_z hx hb hr hlocks hK hP hD hS zb_1 h dX12_goesOn_357
  · have h := h.2 hc
    refine lv_iconst (v := (0 : Int32)) hx hb dX12_goesOn_335 (by decide) ?_
    exact zret_z hx hb hr hlocks hK hP hD hS zb_0 h dX12_goesOn_336
set_option maxHeartbeats 4000000 in
set_option maxRecDepth 100000 in
theorem t_X12_goesOn_118 (C0 : zCx p s m meth c args RX12 cX12_goesOn 2 (some .boolean) vs_X12_goesOn) (hK : va_K (dC, dI) vwCl (m_ty cI cJ cC) s) (N : Nat) {Q : Int32 → zSt → Prop} : ∀  (σ : zSt) (H : Heap) (locs : List Loc) (ls : Array Slot), b_X12_goesOn_118 N  Q  σ → va_P (dC, dI) vwCl (m_W ad cI cJ cC σ) H → va_D (zAW m_n ad s.heap.size) (m_W ad cI cJ cC σ) → va_S (zAW m_n ad s.heap.size) s.heap H locs → lv_has ls 2 [(0, .ref (ad 0))] → W p l e rm_X12_goesOn s m args below meth c H locs 0 0 (MQ below (zQi (dC, dI) (m_ty cI cJ cC) (m_W ad cI cJ cC) (zAW m_n ad s.heap.size) Q) args s 0 0 (zAW m_n ad s.heap.size)) (F0 m 118 ls []) := by
  obtain ⟨hx, hb, hml, hr, hown, hts, hlocks⟩ := id C0
  intro  σ H locs ls h hP hD hS hl
  unfold b_X12_goesOn_118 at h
  refine lv_aload_n hx hb dX12_goesOn_118 rfl (lv_at hl 0 rfl) ?_
  refine lv_bipush (v := (42 : Int32)) hx hb dX12_goesOn_119 (by decide) ?_
  refine k_X12_takesSign N ⟨hx, hb, hml, hown, hts⟩ mw_988 ⟨Nat.le_of_ble_eq_true rfl, Nat.le_of_ble_eq_true rfl⟩ h hK hP hD hS hl.1 (rest := []) (Nat.le_of_ble_eq_true rfl) ⟨Nat.le_of_ble_eq_true rfl, Nat.le_of_ble_eq_true rfl⟩ dX12_goesOn_121 (fun r1 τ2 H locs h hP hD hS => ?_)
  refine lv_if_ne (tgt := 136) hx hb dX12_goesOn_124 (by decide) (fun hc => ?_) (fun hc => ?_)
  · have h := h.2 hc
    exact t_X12_goesOn_136 C0 hK N  τ2 _ _ _ h hP hD hS (lv_sub hl [0] rfl)
  · have h := h.1 hc
    refine lv_aload_n hx hb dX12_goesOn_127 rfl (lv_at hl 0 rfl) ?_
    refine lv_bipush (v := (47 : Int32)) hx hb dX12_goesOn_128 (by decide) ?_
    refine k_X12_takesSign N ⟨hx, hb, hml, hown, hts⟩ mw_988 ⟨Nat.le_of_ble_eq_true rfl, Nat.le_of_ble_eq_true rfl⟩ h hK hP hD hS hl.1 (rest := []) (Nat.le_of_ble_eq_true rfl) ⟨Nat.le_of_ble_eq_true rfl, Nat.le_of_ble_eq_true rfl⟩ dX12_goesOn_130 (fun r3 τ4 H locs h hP hD hS => ?_)
    refine lv_if_eq (tgt := 203) hx hb dX12_goesOn_133 (by decide) (fun hc => ?_) (fun hc => ?_)
    · have h := h.1 hc
      refine lv_aload_n hx hb dX12_goesOn_203 rfl (lv_at hl 0 rfl) ?_
      refine lv_bipush (v := (43 : Int32)) hx hb dX12_goesOn_204 (by decide) ?_
      refine k_X12_takesSign N ⟨hx, hb, hml, hown, hts⟩ mw_988 ⟨Nat.le_of_ble_eq_true rfl, Nat.le_of_ble_eq_true rfl⟩ h hK hP hD hS hl.1 (rest := []) (Nat.le_of_ble_eq_true rfl) ⟨Nat.le_of_ble_eq_true rfl, Nat.le_of_ble_eq_true rfl⟩ dX12_goesOn_206 (fun r5 τ6 H locs h hP hD hS => ?_)
      refine lv_if_ne (tgt := 221) hx hb dX12_goesOn_209 (by decide) (fun hc => ?_) (fun hc => ?_)
      · have h := h.2 hc
        exact t_X12_goesOn_221 C0 hK N  τ6 _ _ _ h hP hD hS (lv_sub hl [0] rfl)
      · have h := h.1 hc
        refine lv_aload_n hx hb dX12_goesOn_212 rfl (lv_at hl 0 rfl) ?_
        refine lv_bipush (v := (45 : Int32)) hx hb dX12_goesOn_213 (by decide) ?_
        refine k_X12_takesSign N ⟨hx, hb, hml, hown, hts⟩ mw_988 ⟨Nat.le_of_ble_eq_true rfl, Nat.le_of_ble_eq_true rfl⟩ h hK hP hD hS hl.1 (rest := []) (Nat.le_of_ble_eq_true rfl) ⟨Nat.le_of_ble_eq_true rfl, Nat.le_of_ble_eq_true rfl⟩ dX12_goesOn_215 (fun r7 τ8 H locs h hP hD hS => ?_)
        refine lv_if_eq (tgt := 304) hx hb dX12_goesOn_218 (by decide) (fun hc => ?_) (fun hc => ?_)
        · have h := h.1 hc
          refine lv_aload_n hx hb dX12_goesOn_304 rfl (lv_at hl 0 rfl) ?_
          refine k_X12_mark N ⟨hx, hb, hml, hown, hts⟩ mw_997 ⟨Nat.le_of_ble_eq_true rfl, Nat.le_of_ble_eq_true rfl⟩ h hK hP hD hS hl.1 (rest := []) (Nat.le_of_ble_eq_true rfl) ⟨Nat.le_of_ble_eq_true rfl, Nat.le_of_ble_eq_true rfl⟩ dX12_goesOn_305 (fun r9 τ10 H locs h hP hD hS => ?_)
          refine lv_bipush (v := (21 : Int32)) hx hb dX12_goesOn_308 (by decide) ?_
          refine lv_icmp_eq (tgt := 322) hx hb dX12_goesOn_310 (by decide) (fun hc => ?_) (fun hc => ?_)
          · have h := h.1 hc
            exact t_X12_goesOn_322 C0 hK N  τ10 _ _ _ h hP hD hS (lv_sub hl [0] rfl)
          · have h := h.2 hc
            refine lv_aload_n hx hb dX12_goesOn_313 rfl (lv_at hl 0 rfl) ?_
            refine k_X12_mark N ⟨hx, hb, hml, hown, hts⟩ mw_997 ⟨Nat.le_of_ble_eq_true rfl, Nat.le_of_ble_eq_true rfl⟩ h hK hP hD hS hl.1 (rest := []) (Nat.le_of_ble_eq_true rfl) ⟨Nat.le_of_ble_eq_true rfl, Nat.le_of_ble_eq_true rfl⟩ dX12_goesOn_314 (fun r11 τ12 H locs h hP hD hS => ?_)
            refine lv_bipush (v := (22 : Int32)) hx hb dX12_goesOn_317 (by decide) ?_
            refine lv_icmp_ne (tgt := 358) hx hb dX12_goesOn_319 (by decide) (fun hc => ?_) (fun hc => ?_)
            · have h := h.2 hc
              refine lv_aload_n hx hb dX12_goesOn_358 rfl (lv_at hl 0 rfl) ?_
              refine k_X12_mark N ⟨hx, hb, hml, hown, hts⟩ mw_997 ⟨Nat.le_of_ble_eq_true rfl, Nat.le_of_ble_eq_true rfl⟩ h hK hP hD hS hl.1 (rest := []) (Nat.le_of_ble_eq_true rfl) ⟨Nat.le_of_ble_eq_true rfl, Nat.le_of_ble_eq_true rfl⟩ dX12_goesOn_359 (fun r13 τ14 H locs h hP hD hS => ?_)
              refine lv_iconst (v := (-1 : Int32)) hx hb dX12_goesOn_362 (by decide) ?_
              refine lv_icmp_eq (tgt := 382) hx hb dX12_goesOn_363 (by decide) (fun hc => ?_) (fun hc => ?_)
              · have h := h.1 hc
                refine lv_iconst (v := (0 : Int32)) hx hb dX12_goesOn_382 (by decide) ?_
                exact zret_z hx hb hr hlocks hK hP hD hS zb_0 h dX12_goesOn_383
              · have h := h.2 hc
                refine lv_aload_n hx hb dX12_goesOn_366 rfl (lv_at hl 0 rfl) ?_
                refine mg_0_5 hx hb hts hown hK hP mw_838 dX12_goesOn_367 ?_
                refine lv_if_ne (tgt := 382) hx hb dX12_goesOn_370 (by decide) (fun hc => ?_) (fun hc => ?_)
                · have h := h.2 hc
                  refine lv_iconst (v := (0 : Int32)) hx hb dX12_goesOn_382 (by decide) ?_
                  exact zret_z hx hb hr hlocks hK hP hD hS zb_0 h dX12_goesOn_383
                · have h := h.1 hc
                  refine lv_aload_n hx hb dX12_goesOn_373 rfl (lv_at hl 0 rfl) ?_
                  refine lv_iconst (v := (1 : Int32)) hx hb dX12_goesOn_374 (by decide) ?_
                  refine lv_aload_n hx hb dX12_goesOn_375 rfl (lv_at hl 0 rfl) ?_
                  refine mg_0_2 hx hb hts hown hK hP mw_835 dX12_goesOn_376 ?_
                  refine k_X12_fail N ⟨hx, hb, hml, hown, hts⟩ mw_944 ⟨Nat.le_of_ble_eq_true rfl, Nat.le_of_ble_eq_true rfl⟩ h hK hP hD hS hl.1 (rest := []) (Nat.le_of_ble_eq_true rfl) ⟨Nat.le_of_ble_eq_true rfl, Nat.le_of_ble_eq_true rfl⟩ dX12_goesOn_379 (fun τ16 H locs h hP hD hS => ?_)
                  refine lv_iconst (v := (0 : Int32)) hx hb dX12_goesOn_382 (by decide) ?_
                  exact zret_z hx hb hr hlocks hK hP hD hS zb_0 h dX12_goesOn_383
            · have h := h.1 hc
              exact t_X12_goesOn_322 C0 hK N  τ12 _ _ _ h hP hD hS (lv_sub hl [0] rfl)
        · have h := h.2 hc
          exact t_X12_goesOn_221 C0 hK N  τ8 _ _ _ h hP hD hS (lv_sub hl [0] rfl)
    · have h := h.2 hc
      exact t_X12_goesOn_136 C0 hK N  τ4 _ _ _ h hP hD hS (lv_sub hl [0] rfl)
set_option maxHeartbeats 4000000 in
set_option maxRecDepth 100000 in
theorem t_X12_goesOn_112 (C0 : zCx p s m meth c args RX12 cX12_goesOn 2 (some .boolean) vs_X12_goesOn) (hK : va_K (dC, dI) vwCl (m_ty cI cJ cC) s) (N : Nat) {Q : Int32 → zSt → Prop} {k_0 : zSt → Prop} (hk_0 : ∀  (σ : zSt) (H : Heap) (locs : List Loc) (ls : Array Slot), k_0  σ → va_P (dC, dI) vwCl (m_W ad cI cJ cC σ) H → va_D (zAW m_n ad s.heap.size) (m_W ad cI cJ cC σ) → va_S (zAW m_n ad s.heap.size) s.heap H locs → lv_has ls 2 [(0, .ref (ad 0))] → W p l e rm_X12_goesOn s m args below meth c H locs 0 0 (MQ below (zQi (dC, dI) (m_ty cI cJ cC) (m_W ad cI cJ cC) (zAW m_n ad s.heap.size) Q) args s 0 0 (zAW m_n ad s.heap.size)) (F0 m 0 ls [])) : ∀ (s0 : Int32) (σ : zSt) (H : Heap) (locs : List Loc) (ls : Array Slot), b_X12_goesOn_112 N k_0 Q s0 σ → va_P (dC, dI) vwCl (m_W ad cI cJ cC σ) H → va_D (zAW m_n ad s.heap.size) (m_W ad cI cJ cC σ) → va_S (zAW m_n ad s.heap.size) s.heap H locs → lv_has ls 2 [(0, .ref (ad 0))] → W p l e rm_X12_goesOn s m args below meth c H locs 0 0 (MQ below (zQi (dC, dI) (m_ty cI cJ cC) (m_W ad cI cJ cC) (zAW m_n ad s.heap.size) Q) args s 0 0 (zAW m_n ad s.heap.size)) (F0 m 112 ls [.int s0, .ref (ad 0)]) := by
  obtain ⟨hx, hb, hml, hr, hown, hts, hlocks⟩ := id C0
  intro s0 σ H locs ls h hP hD hS hl
  unfold b_X12_goesOn_112 at h
  refine k_X12_code N ⟨hx, hb, hml, hown, hts⟩ mw_991 ⟨Nat.le_of_ble_eq_true rfl, Nat.le_of_ble_eq_true rfl⟩ h hK hP hD hS hl.1 (rest := []) (Nat.le_of_ble_eq_true rfl) ⟨Nat.le_of_ble_eq_true rfl, Nat.le_of_ble_eq_true rfl⟩ dX12_goesOn_112 (fun τ2 H locs h hP hD hS => ?_)
  refine lv_goto (tgt := 0) hx hb dX12_goesOn_115 (by decide) ?_
  exact hk_0 τ2 _ _ _ h hP hD hS (lv_sub hl [0] rfl)
set_option maxHeartbeats 4000000 in
set_option maxRecDepth 100000 in
theorem t_X12_goesOn_43 (C0 : zCx p s m meth c args RX12 cX12_goesOn 2 (some .boolean) vs_X12_goesOn) (hK : va_K (dC, dI) vwCl (m_ty cI cJ cC) s) (N : Nat) {Q : Int32 → zSt → Prop} {k_0 : zSt → Prop} (hk_0 : ∀  (σ : zSt) (H : Heap) (locs : List Loc) (ls : Array Slot), k_0  σ → va_P (dC, dI) vwCl (m_W ad cI cJ cC σ) H → va_D (zAW m_n ad s.heap.size) (m_W ad cI cJ cC σ) → va_S (zAW m_n ad s.heap.size) s.heap H locs → lv_has ls 2 [(0, .ref (ad 0))] → W p l e rm_X12_goesOn s m args below meth c H locs 0 0 (MQ below (zQi (dC, dI) (m_ty cI cJ cC) (m_W ad cI cJ cC) (zAW m_n ad s.heap.size) Q) args s 0 0 (zAW m_n ad s.heap.size)) (F0 m 0 ls [])) : ∀  (σ : zSt) (H : Heap) (locs : List Loc) (ls : Array Slot), b_X12_goesOn_43 N k_0 Q  σ → va_P (dC, dI) vwCl (m_W ad cI cJ cC σ) H → va_D (zAW m_n ad s.heap.size) (m_W ad cI cJ cC σ) → va_S (zAW m_n ad s.heap.size) s.heap H locs → lv_has ls 2 [(0, .ref (ad 0))] → W p l e rm_X12_goesOn s m args below meth c H locs 0 0 (MQ below (zQi (dC, dI) (m_ty cI cJ cC) (m_W ad cI cJ cC) (zAW m_n ad s.heap.size) Q) args s 0 0 (zAW m_n ad s.heap.size)) (F0 m 43 ls []) := by
  obtain ⟨hx, hb, hml, hr, hown, hts, hlocks⟩ := id C0
  intro  σ H locs ls h hP hD hS hl
  unfold b_X12_goesOn_43 at h
  refine lv_aload_n hx hb dX12_goesOn_43 rfl (lv_at hl 0 rfl) ?_
  refine lv_dup hx hb dX12_goesOn_44 rfl ?_
  refine mg_0_2 hx hb hts hown hK hP mw_835 dX12_goesOn_45 ?_
  refine lv_iconst (v := (1 : Int32)) hx hb dX12_goesOn_48 (by decide) ?_
  refine lv_iadd hx hb dX12_goesOn_49 ?_
  refine mp_0_2 hx hb hts hown hK hP hD hS mw_835 dX12_goesOn_50 (fun τ1 H locs eτ1 hP hD hS => ?_)
  have h := h τ1 eτ1
  refine lv_aload_n hx hb dX12_goesOn_53 rfl (lv_at hl 0 rfl) ?_
  refine k_X12_dropsToMark N ⟨hx, hb, hml, hown, hts⟩ mw_1003 ⟨Nat.le_of_ble_eq_true rfl, Nat.le_of_ble_eq_true rfl⟩ h hK hP hD hS hl.1 (rest := []) (Nat.le_of_ble_eq_true rfl) ⟨Nat.le_of_ble_eq_true rfl, Nat.le_of_ble_eq_true rfl⟩ dX12_goesOn_54 (fun τ3 H locs h hP hD hS => ?_)
  refine lv_aload_n hx hb dX12_goesOn_57 rfl (lv_at hl 0 rfl) ?_
  refine lv_dup hx hb dX12_goesOn_58 rfl ?_
  refine mg_0_43 hx hb hts hown hK hP mw_876 dX12_goesOn_59 ?_
  refine lv_iconst (v := (1 : Int32)) hx hb dX12_goesOn_62 (by decide) ?_
  refine lv_isub hx hb dX12_goesOn_63 ?_
  refine mp_0_43 hx hb hts hown hK hP hD hS mw_876 dX12_goesOn_64 (fun τ4 H locs eτ4 hP hD hS => ?_)
  have h := h τ4 eτ4
  refine lv_aload_n hx hb dX12_goesOn_67 rfl (lv_at hl 0 rfl) ?_
  refine lv_dup hx hb dX12_goesOn_68 rfl ?_
  refine mg_0_44 hx hb hts hown hK hP mw_877 dX12_goesOn_69 ?_
  refine lv_iconst (v := (1 : Int32)) hx hb dX12_goesOn_72 (by decide) ?_
  refine lv_isub hx hb dX12_goesOn_73 ?_
  refine mp_0_44 hx hb hts hown hK hP hD hS mw_877 dX12_goesOn_74 (fun τ5 H locs eτ5 hP hD hS => ?_)
  have h := h τ5 eτ5
  refine lv_aload_n hx hb dX12_goesOn_77 rfl (lv_at hl 0 rfl) ?_
  refine mg_0_42 hx hb hts hown hK hP mw_875 dX12_goesOn_78 ?_
  refine lv_aload_n hx hb dX12_goesOn_81 rfl (lv_at hl 0 rfl) ?_
  refine mg_0_43 hx hb hts hown hK hP mw_876 dX12_goesOn_82 ?_
  refine ma_14 hx hb hK hP h.1 rfl dX12_goesOn_85 ?_
  have h := h.2
  refine lv_bipush (v := (20 : Int32)) hx hb dX12_goesOn_86 (by decide) ?_
  refine lv_icmp_eq (tgt := 0) hx hb dX12_goesOn_88 (by decide) (fun hc => ?_) (fun hc => ?_)
  · have h := h.1 hc
    exact hk_0 τ5 _ _ _ h hP hD hS (lv_sub hl [0] rfl)
  · have h := h.2 hc
    refine lv_aload_n hx hb dX12_goesOn_91 rfl (lv_at hl 0 rfl) ?_
    refine lv_aload_n hx hb dX12_goesOn_92 rfl (lv_at hl 0 rfl) ?_
    refine mg_0_42 hx hb hts hown hK hP mw_875 dX12_goesOn_93 ?_
    refine lv_aload_n hx hb dX12_goesOn_96 rfl (lv_at hl 0 rfl) ?_
    refine mg_0_43 hx hb hts hown hK hP mw_876 dX12_goesOn_97 ?_
    refine ma_14 hx hb hK hP h.1 rfl dX12_goesOn_100 ?_
    have h := h.2
    refine lv_bipush (v := (23 : Int32)) hx hb dX12_goesOn_101 (by decide) ?_
    refine lv_icmp_ne (tgt := 110) hx hb dX12_goesOn_103 (by decide) (fun hc => ?_) (fun hc => ?_)
    · have h := h.2 hc
      refine lv_bipush (v := (6 : Int32)) hx hb dX12_goesOn_110 (by decide) ?_
      exact t_X12_goesOn_112 C0 hK N hk_0 (6 : Int32) τ5 _ _ _ h hP hD hS (lv_sub hl [0] rfl)
    · have h := h.1 hc
      refine lv_iconst (v := (5 : Int32)) hx hb dX12_goesOn_106 (by decide) ?_
      refine lv_goto (tgt := 112) hx hb dX12_goesOn_107 (by decide) ?_
      exact t_X12_goesOn_112 C0 hK N hk_0 (5 : Int32) τ5 _ _ _ h hP hD hS (lv_sub hl [0] rfl)
set_option maxHeartbeats 4000000 in
set_option maxRecDepth 100000 in
theorem tb_X12_goesOn_0 (C0 : zCx p s m meth c args RX12 cX12_goesOn 2 (some .boolean) vs_X12_goesOn) (hK : va_K (dC, dI) vwCl (m_ty cI cJ cC) s) (N : Nat) {Q : Int32 → zSt → Prop} {k_0 : zSt → Prop} (hk_0 : ∀  (σ : zSt) (H : Heap) (locs : List Loc) (ls : Array Slot), k_0  σ → va_P (dC, dI) vwCl (m_W ad cI cJ cC σ) H → va_D (zAW m_n ad s.heap.size) (m_W ad cI cJ cC σ) → va_S (zAW m_n ad s.heap.size) s.heap H locs → lv_has ls 2 [(0, .ref (ad 0))] → W p l e rm_X12_goesOn s m args below meth c H locs 0 0 (MQ below (zQi (dC, dI) (m_ty cI cJ cC) (m_W ad cI cJ cC) (zAW m_n ad s.heap.size) Q) args s 0 0 (zAW m_n ad s.heap.size)) (F0 m 0 ls [])) : ∀  (σ : zSt) (H : Heap) (locs : List Loc) (ls : Array Slot), b_X12_goesOn_0 N k_0 Q  σ → va_P (dC, dI) vwCl (m_W ad cI cJ cC σ) H → va_D (zAW m_n ad s.heap.size) (m_W ad cI cJ cC σ) → va_S (zAW m_n ad s.heap.size) s.heap H locs → lv_has ls 2 [(0, .ref (ad 0))] → W p l e rm_X12_goesOn s m args below meth c H locs 0 0 (MQ below (zQi (dC, dI) (m_ty cI cJ cC) (m_W ad cI cJ cC) (zAW m_n ad s.heap.size) Q) args s 0 0 (zAW m_n ad s.heap.size)) (F0 m 0 ls []) := by
  obtain ⟨hx, hb, hml, hr, hown, hts, hlocks⟩ := id C0
  intro  σ H locs ls h hP hD hS hl
  unfold b_X12_goesOn_0 at h
  refine lv_aload_n hx hb dX12_goesOn_0 rfl (lv_at hl 0 rfl) ?_
  refine mg_0_5 hx hb hts hown hK hP mw_838 dX12_goesOn_1 ?_
  refine lv_if_ne (tgt := 118) hx hb dX12_goesOn_4 (by decide) (fun hc => ?_) (fun hc => ?_)
  · have h := h.2 hc
    exact t_X12_goesOn_118 C0 hK N  σ _ _ _ h hP hD hS (lv_sub hl [0] rfl)
  · have h := h.1 hc
    refine lv_aload_n hx hb dX12_goesOn_7 rfl (lv_at hl 0 rfl) ?_
    refine k_X12_look N ⟨hx, hb, hml, hown, hts⟩ mw_929 ⟨Nat.le_of_ble_eq_true rfl, Nat.le_of_ble_eq_true rfl⟩ h hK hP hD hS hl.1 (rest := []) (Nat.le_of_ble_eq_true rfl) ⟨Nat.le_of_ble_eq_true rfl, Nat.le_of_ble_eq_true rfl⟩ dX12_goesOn_8 (fun r1 τ2 H locs h hP hD hS => ?_)
    refine lv_bipush (v := (41 : Int32)) hx hb dX12_goesOn_11 (by decide) ?_
    refine lv_icmp_ne (tgt := 118) hx hb dX12_goesOn_13 (by decide) (fun hc => ?_) (fun hc => ?_)
    · have h := h.2 hc
      exact t_X12_goesOn_118 C0 hK N  τ2 _ _ _ h hP hD hS (lv_sub hl [0] rfl)
    · have h := h.1 hc
      refine lv_aload_n hx hb dX12_goesOn_16 rfl (lv_at hl 0 rfl) ?_
      refine k_X12_mark N ⟨hx, hb, hml, hown, hts⟩ mw_997 ⟨Nat.le_of_ble_eq_true rfl, Nat.le_of_ble_eq_true rfl⟩ h hK hP hD hS hl.1 (rest := []) (Nat.le_of_ble_eq_true rfl) ⟨Nat.le_of_ble_eq_true rfl, Nat.le_of_ble_eq_true rfl⟩ dX12_goesOn_17 (fun r3 τ4 H locs h hP hD hS => ?_)
      refine lv_bipush (v := (20 : Int32)) hx hb dX12_goesOn_20 (by decide) ?_
      refine lv_icmp_eq (tgt := 43) hx hb dX12_goesOn_22 (by decide) (fun hc => ?_) (fun hc => ?_)
      · have h := h.1 hc
        exact t_X12_goesOn_43 C0 hK N hk_0 τ4 _ _ _ h hP hD hS (lv_sub hl [0] rfl)
      · have h := h.2 hc
        refine lv_aload_n hx hb dX12_goesOn_25 rfl (lv_at hl 0 rfl) ?_
        refine k_X12_mark N ⟨hx, hb, hml, hown, hts⟩ mw_997 ⟨Nat.le_of_ble_eq_true rfl, Nat.le_of_ble_eq_true rfl⟩ h hK hP hD hS hl.1 (rest := []) (Nat.le_of_ble_eq_true rfl) ⟨Nat.le_of_ble_eq_true rfl, Nat.le_of_ble_eq_true rfl⟩ dX12_goesOn_26 (fun r5 τ6 H locs h hP hD hS => ?_)
        refine lv_bipush (v := (23 : Int32)) hx hb dX12_goesOn_29 (by decide) ?_
        refine lv_icmp_eq (tgt := 43) hx hb dX12_goesOn_31 (by decide) (fun hc => ?_) (fun hc => ?_)
        · have h := h.1 hc
          exact t_X12_goesOn_43 C0 hK N hk_0 τ6 _ _ _ h hP hD hS (lv_sub hl [0] rfl)
        · have h := h.2 hc
          refine lv_aload_n hx hb dX12_goesOn_34 rfl (lv_at hl 0 rfl) ?_
          refine k_X12_mark N ⟨hx, hb, hml, hown, hts⟩ mw_997 ⟨Nat.le_of_ble_eq_true rfl, Nat.le_of_ble_eq_true rfl⟩ h hK hP hD hS hl.1 (rest := []) (Nat.le_of_ble_eq_true rfl) ⟨Nat.le_of_ble_eq_true rfl, Nat.le_of_ble_eq_true rfl⟩ dX12_goesOn_35 (fun r7 τ8 H locs h hP hD hS => ?_)
          refine lv_bipush (v := (24 : Int32)) hx hb dX12_goesOn_38 (by decide) ?_
          refine lv_icmp_ne (tgt := 118) hx hb dX12_goesOn_40 (by decide) (fun hc => ?_) (fun hc => ?_)
          · have h := h.2 hc
            exact t_X12_goesOn_118 C0 hK N  τ8 _ _ _ h hP hD hS (lv_sub hl [0] rfl)
          · have h := h.1 hc
            exact t_X12_goesOn_43 C0 hK N hk_0 τ8 _ _ _ h hP hD hS (lv_sub hl [0] rfl)
set_option maxHeartbeats 4000000 in
set_option maxRecDepth 100000 in
theorem t_X12_goesOn_0 (C0 : zCx p s m meth c args RX12 cX12_goesOn 2 (some .boolean) vs_X12_goesOn) (hK : va_K (dC, dI) vwCl (m_ty cI cJ cC) s) (N : Nat) {Q : Int32 → zSt → Prop} : ∀ (f : Nat)  (σ : zSt) (H : Heap) (locs : List Loc) (ls : Array Slot), w_X12_goesOn_0 N  Q f  σ → va_P (dC, dI) vwCl (m_W ad cI cJ cC σ) H → va_D (zAW m_n ad s.heap.size) (m_W ad cI cJ cC σ) → va_S (zAW m_n ad s.heap.size) s.heap H locs → lv_has ls 2 [(0, .ref (ad 0))] → W p l e rm_X12_goesOn s m args below meth c H locs 0 0 (MQ below (zQi (dC, dI) (m_ty cI cJ cC) (m_W ad cI cJ cC) (zAW m_n ad s.heap.size) Q) args s 0 0 (zAW m_n ad s.heap.size)) (F0 m 0 ls []) := by
  intro f
  induction f with
  | zero => intro  σ H locs ls h; exact h.elim
  | succ f ih =>
    intro  σ H locs ls h hP hD hS hl
    exact tb_X12_goesOn_0 C0 hK N  (k_0 := w_X12_goesOn_0 N  Q f) ih  σ H locs ls h hP hD hS hl
set_option maxHeartbeats 4000000 in
set_option maxRecDepth 100000 in
theorem c_X12_goesOn (N : Nat) (l : Launch) (dC : Nat → ClassId) (dI : Nat → Nat → Nat) (ad : Nat → Nat) (cI cJ cC : ClassId) (sz : Nat) (σ : zSt)  (Q : Int32 → zSt → Prop) (h : w_X12_goesOn N  σ Q) : Met l yX12_goesOn vs_X12_goesOn rm_X12_goesOn (va_Pc [.ref (ad 0)] (zPc (dC, dI) (m_ty cI cJ cC) (m_W ad cI cJ cC) sz σ)) (zQi (dC, dI) (m_ty cI cJ cC) (m_W ad cI cJ cC) (zAW m_n ad sz) Q) 0 0 (zAW m_n ad sz) := by
  refine Met.ofW (cc := cX12_goesOn) (maxL := 2) (ret := (some .boolean)) (by decide) rfl ?_
  intro p e s m args below meth c s₁ B hml hv
  obtain ⟨rfl, hsz, hP, hK, hD0⟩ := hv
  subst hsz
  have C0 : zCx p s m meth c _ RX12 cX12_goesOn 2 (some .boolean) vs_X12_goesOn := ⟨B.exec, B.bytes, hml, B.returns, findClass_of_methodNamed B.named, atoms_spec (ws := vs_X12_goesOn) B.pre, B.notSynchronized⟩
  have hD := m_D0 (n0 := s.heap.size) hD0
  have hl := lv_entry ([.ref (ad 0)]) (n := 2) (Nat.le_of_ble_eq_true rfl)
  rw [lg_entry_eq]
  generalize (lg_sl ([.ref (ad 0)]) ++ List.replicate (2 - (lg_sl ([.ref (ad 0)])).length) Slot.unset).toArray = ls at hl ⊢
  exact t_X12_goesOn_0 C0 hK N N  σ _ _ ls h hP hD va_S.rf hl
theorem k_X12_goesOn (N : Nat) {R : Room} {H : Heap} {locs : List Loc} {cells slots : Nat} {Q2 : State → Prop} {cc : ByteArray} {nL pc index : Nat} {ls : Array Slot} {rest : List Value} {own : String} {c0 : Cond} {σ : zSt}  {Q : Int32 → zSt → Prop} (S0 : CallFix p m c cc nL s args (c0 :: zT) own) (hml : Cond.methodLink own index yX12_goesOn ∈ zT) (hR : rm_X12_goesOn.frames + 1 ≤ R.frames ∧ 8 + (2 + 11) + rm_X12_goesOn.locals ≤ R.locals) (h : w_X12_goesOn N  σ Q) (hK : va_K (dC, dI) vwCl (m_ty cI cJ cC) s) (hP : va_P (dC, dI) vwCl (m_W ad cI cJ cC σ) H) (hD : va_D (zAW m_n ad s.heap.size) (m_W ad cI cJ cC σ)) (hS : va_S (zAW m_n ad s.heap.size) s.heap H locs) (hsz : ls.size = nL) (hW : (rest.map fun v => v.category).sum ≤ 8) (hcs : cells ≤ R.cells ∧ slots ≤ R.slots) (hdg : decode cc pc = .ok (.invokevirtual index, 3)) (kk : ∀ (r : Int32) (τ : zSt) (H1 : Heap) (locs1 : List Loc), Q r τ → va_P (dC, dI) vwCl (m_W ad cI cJ cC τ) H1 → va_D (zAW m_n ad s.heap.size) (m_W ad cI cJ cC τ) → va_S (zAW m_n ad s.heap.size) s.heap H1 locs1 → W p l e R s m args below meth c H1 locs1 cells slots Q2 (F0 m (pc + 3) ls (.int r :: rest))) : W p l e R s m args below meth c H locs cells slots Q2 (F0 m pc ls (.ref (ad 0) :: rest)) :=
  zcv_i (T := TX12) (N' := 83) (k := 0) (ci := 12) (fs := m_f0 ad σ) [] S0 (c_X12_goesOn N l dC dI ad cI cJ cC H.size σ  Q h) (cw_X12_goesOn S0.2.2.2.2 hml rfl rfl hR) rfl rfl hK hP hD hS rfl hsz hW rfl hcs hdg kk
end q16
section q16
def b_X12_sums_53 (N : Nat) (k_53 : Int32 → zSt → Prop) (Q : zSt → Prop) (x1 : Int32) (σ : zSt) : Prop :=
  ((σ.1 4) = 0 → ((σ.1 10) ≤ (σ.1 13) → ∀ τ2 : zSt, τ2 = zI σ 13 x1 → Q τ2) ∧ (¬ (σ.1 10) ≤ (σ.1 13) → w_X12_drops N σ (fun τ4 => k_53 x1 τ4))) ∧ (¬ (σ.1 4) = 0 → ∀ τ1 : zSt, τ1 = zI σ 13 x1 → Q τ1)
def w_X12_sums_53 (N : Nat) (Q : zSt → Prop) : Nat → Int32 → zSt → Prop
  | 0 => fun _ _ => False
  | f + 1 => b_X12_sums_53 N (w_X12_sums_53 N  Q f) Q
def b_X12_sums_15 (N : Nat) (k_15 : Int32 → Int32 → zSt → Prop) (Q : zSt → Prop) (x1 : Int32) (x2 : Int32) (σ : zSt) : Prop :=
  (x2 = 0 → w_X12_sums_53 N Q N x1 σ) ∧ (¬ x2 = 0 → ((σ.1 4) = 0 → w_X12_onePart N σ (fun τ2 => ((τ2.1 4) = 0 → w_X12_goesOn N τ2 (fun r3 τ4 => (r3 = 0 → k_15 x1 (0 : Int32) τ4) ∧ (¬ r3 = 0 → k_15 x1 (1 : Int32) τ4))) ∧ (¬ (τ2.1 4) = 0 → k_15 x1 (0 : Int32) τ2))) ∧ (¬ (σ.1 4) = 0 → w_X12_sums_53 N Q N x1 σ))
def w_X12_sums_15 (N : Nat) (Q : zSt → Prop) : Nat → Int32 → Int32 → zSt → Prop
  | 0 => fun _ _ _ => False
  | f + 1 => b_X12_sums_15 N (w_X12_sums_15 N  Q f) Q
def w_X12_sums (N : Nat)  (σ : zSt) (Q : zSt → Prop) : Prop :=
  ∀ v1 : Int32, v1 = σ.1 13 → ∀ τ2 : zSt, τ2 = zI σ 13 (σ.1 10) → w_X12_sums_15 N Q N v1 (1 : Int32) τ2
variable {p : Program} {l : Launch} {e : Env} {s : State} {m : MethodId} {args : Array Value} {below : List Frame} {meth : Method} {c : Code} {dC : Nat → ClassId} {dI : Nat → Nat → Nat} {ad : Nat → Nat} {cI cJ cC : ClassId}
set_option maxHeartbeats 4000000 in
set_option maxRecDepth 100000 in
theorem tb_X12_sums_53 (C0 : zCx p s m meth c args RX12 cX12_sums 3 none vs_X12_sums) (hK : va_K (dC, dI) vwCl (m_ty cI cJ cC) s) (N : Nat) {Q : zSt → Prop} {k_53 : Int32 → zSt → Prop} (hk_53 : ∀ (x1 : Int32) (σ : zSt) (H : Heap) (locs : List Loc) (ls : Array Slot), k_53 x1 σ → va_P (dC, dI) vwCl (m_W ad cI cJ cC σ) H → va_D (zAW m_n ad s.heap.size) (m_W ad cI cJ cC σ) → va_S (zAW m_n ad s.heap.size) s.heap H locs → lv_has ls 3 [(0, .ref (ad 0)), (1, .int x1)] → W p l e rm_X12_sums s m args below meth c H locs 0 0 (MQ below (zQv (dC, dI) (m_ty cI cJ cC) (m_W ad cI cJ cC) (zAW m_n ad s.heap.size) Q) args s 0 0 (zAW m_n ad s.heap.size)) (F0 m 53 ls [])) : ∀ (x1 : Int32) (σ : zSt) (H : Heap) (locs : List Loc) (ls : Array Slot), b_X12_sums_53 N k_53 Q x1 σ → va_P (dC, dI) vwCl (m_W ad cI cJ cC σ) H → va_D (zAW m_n ad s.heap.size) (m_W ad cI cJ cC σ) → va_S (zAW m_n ad s.heap.size) s.heap H locs → lv_has ls 3 [(0, .ref (ad 0)), (1, .int x1)] → W p l e rm_X12_sums s m args below meth c H locs 0 0 (MQ below (zQv (dC, dI) (m_ty cI cJ cC) (m_W ad cI cJ cC) (zAW m_n ad s.heap.size) Q) args s 0 0 (zAW m_n ad s.heap.size)) (F0 m 53 ls []) := by
  obtain ⟨hx, hb, hml, hr, hown, hts, hlocks⟩ := id C0
  intro x1 σ H locs ls h hP hD hS hl
  unfold b_X12_sums_53 at h
  refine lv_aload_n hx hb dX12_sums_53 rfl (lv_at hl 0 rfl) ?_
  refine mg_0_5 hx hb hts hown hK hP mw_838 dX12_sums_54 ?_
  refine lv_if_ne (tgt := 78) hx hb dX12_sums_57 (by decide) (fun hc => ?_) (fun hc => ?_)
  · have h := h.2 hc
    refine lv_aload_n hx hb dX12_sums_78 rfl (lv_at hl 0 rfl) ?_
    refine lv_iload_n hx hb dX12_sums_79 rfl (lv_at hl 1 rfl) ?_
    refine mp_0_46 hx hb hts hown hK hP hD hS mw_879 dX12_sums_80 (fun τ1 H locs eτ1 hP hD hS => ?_)
    have h := h τ1 eτ1
    exact zret_v hx hb hr hlocks hK hP hD hS h dX12_sums_83
  · have h := h.1 hc
    refine lv_aload_n hx hb dX12_sums_60 rfl (lv_at hl 0 rfl) ?_
    refine mg_0_43 hx hb hts hown hK hP mw_876 dX12_sums_61 ?_
    refine lv_aload_n hx hb dX12_sums_64 rfl (lv_at hl 0 rfl) ?_
    refine mg_0_46 hx hb hts hown hK hP mw_879 dX12_sums_65 ?_
    refine lv_icmp_le (tgt := 78) hx hb dX12_sums_68 (by decide) (fun hc => ?_) (fun hc => ?_)
    · have h := h.1 hc
      refine lv_aload_n hx hb dX12_sums_78 rfl (lv_at hl 0 rfl) ?_
      refine lv_iload_n hx hb dX12_sums_79 rfl (lv_at hl 1 rfl) ?_
      refine mp_0_46 hx hb hts hown hK hP hD hS mw_879 dX12_sums_80 (fun τ2 H locs eτ2 hP hD hS => ?_)
      have h := h τ2 eτ2
      exact zret_v hx hb hr hlocks hK hP hD hS h dX12_sums_83
    · have h := h.2 hc
      refine lv_aload_n hx hb dX12_sums_71 rfl (lv_at hl 0 rfl) ?_
      refine k_X12_drops N ⟨hx, hb, hml, hown, hts⟩ mw_1006 ⟨Nat.le_of_ble_eq_true rfl, Nat.le_of_ble_eq_true rfl⟩ h hK hP hD hS hl.1 (rest := []) (Nat.le_of_ble_eq_true rfl) ⟨Nat.le_of_ble_eq_true rfl, Nat.le_of_ble_eq_true rfl⟩ dX12_sums_72 (fun τ4 H locs h hP hD hS => ?_)
      refine lv_goto (tgt := 53) hx hb dX12_sums_75 (by decide) ?_
      exact hk_53 x1 τ4 _ _ _ h hP hD hS (lv_sub hl [0, 1] rfl)
set_option maxHeartbeats 4000000 in
set_option maxRecDepth 100000 in
theorem t_X12_sums_53 (C0 : zCx p s m meth c args RX12 cX12_sums 3 none vs_X12_sums) (hK : va_K (dC, dI) vwCl (m_ty cI cJ cC) s) (N : Nat) {Q : zSt → Prop} : ∀ (f : Nat) (x1 : Int32) (σ : zSt) (H : Heap) (locs : List Loc) (ls : Array Slot), w_X12_sums_53 N  Q f x1 σ → va_P (dC, dI) vwCl (m_W ad cI cJ cC σ) H → va_D (zAW m_n ad s.heap.size) (m_W ad cI cJ cC σ) → va_S (zAW m_n ad s.heap.size) s.heap H locs → lv_has ls 3 [(0, .ref (ad 0)), (1, .int x1)] → W p l e rm_X12_sums s m args below meth c H locs 0 0 (MQ below (zQv (dC, dI) (m_ty cI cJ cC) (m_W ad cI cJ cC) (zAW m_n ad s.heap.size) Q) args s 0 0 (zAW m_n ad s.heap.size)) (F0 m 53 ls []) := by
  intro f
  induction f with
  | zero => intro x1 σ H locs ls h; exact h.elim
  | succ f ih =>
    intro x1 σ H locs ls h hP hD hS hl
    exact tb_X12_sums_53 C0 hK N  (k_53 := w_X12_sums_53 N  Q f) ih x1 σ H locs ls h hP hD hS hl
set_option maxHeartbeats 4000000 in
set_option maxRecDepth 100000 in
theorem tb_X12_sums_15 (C0 : zCx p s m meth c args RX12 cX12_sums 3 none vs_X12_sums) (hK : va_K (dC, dI) vwCl (m_ty cI cJ cC) s) (N : Nat) {Q : zSt → Prop} {k_15 : Int32 → Int32 → zSt → Prop} (hk_15 : ∀ (x1 : Int32) (x2 : Int32) (σ : zSt) (H : Heap) (locs : List Loc) (ls : Array Slot), k_15 x1 x2 σ → va_P (dC, dI) vwCl (m_W ad cI cJ cC σ) H → va_D (zAW m_n ad s.heap.size) (m_W ad cI cJ cC σ) → va_S (zAW m_n ad s.heap.size) s.heap H locs → lv_has ls 3 [(0, .ref (ad 0)), (1, .int x1), (2, .int x2)] → W p l e rm_X12_sums s m args below meth c H locs 0 0 (MQ below (zQv (dC, dI) (m_ty cI cJ cC) (m_W ad cI cJ cC) (zAW m_n ad s.heap.size) Q) args s 0 0 (zAW m_n ad s.heap.size)) (F0 m 15 ls [])) : ∀ (x1 : Int32) (x2 : Int32) (σ : zSt) (H : Heap) (locs : List Loc) (ls : Array Slot), b_X12_sums_15 N k_15 Q x1 x2 σ → va_P (dC, dI) vwCl (m_W ad cI cJ cC σ) H → va_D (zAW m_n ad s.heap.size) (m_W ad cI cJ cC σ) → va_S (zAW m_n ad s.heap.size) s.heap H locs → lv_has ls 3 [(0, .ref (ad 0)), (1, .int x1), (2, .int x2)] → W p l e rm_X12_sums s m args below meth c H locs 0 0 (MQ below (zQv (dC, dI) (m_ty cI cJ cC) (m_W ad cI cJ cC) (zAW m_n ad s.heap.size) Q) args s 0 0 (zAW m_n ad s.heap.size)) (F0 m 15 ls []) := by
  obtain ⟨hx, hb, hml, hr, hown, hts, hlocks⟩ := id C0
  intro x1 x2 σ H locs ls h hP hD hS hl
  unfold b_X12_sums_15 at h
  refine lv_iload_n hx hb dX12_sums_15 rfl (lv_at hl 2 rfl) ?_
  refine lv_if_eq (tgt := 53) hx hb dX12_sums_16 (by decide) (fun hc => ?_) (fun hc => ?_)
  · have h := h.1 hc
    exact t_X12_sums_53 C0 hK N  N x1 σ _ _ _ h hP hD hS (lv_sub hl [0, 1] rfl)
  · have h := h.2 hc
    refine lv_aload_n hx hb dX12_sums_19 rfl (lv_at hl 0 rfl) ?_
    refine mg_0_5 hx hb hts hown hK hP mw_838 dX12_sums_20 ?_
    refine lv_if_ne (tgt := 53) hx hb dX12_sums_23 (by decide) (fun hc => ?_) (fun hc => ?_)
    · have h := h.2 hc
      exact t_X12_sums_53 C0 hK N  N x1 σ _ _ _ h hP hD hS (lv_sub hl [0, 1] rfl)
    · have h := h.1 hc
      refine lv_aload_n hx hb dX12_sums_26 rfl (lv_at hl 0 rfl) ?_
      refine k_X12_onePart N ⟨hx, hb, hml, hown, hts⟩ mw_979 ⟨Nat.le_of_ble_eq_true rfl, Nat.le_of_ble_eq_true rfl⟩ h hK hP hD hS hl.1 (rest := []) (Nat.le_of_ble_eq_true rfl) ⟨Nat.le_of_ble_eq_true rfl, Nat.le_of_ble_eq_true rfl⟩ dX12_sums_27 (fun τ2 H locs h hP hD hS => ?_)
      refine lv_aload_n hx hb dX12_sums_30 rfl (lv_at hl 0 rfl) ?_
      refine mg_0_5 hx hb hts hown hK hP mw_838 dX12_sums_31 ?_
      refine lv_if_ne (tgt := 48) hx hb dX12_sums_34 (by decide) (fun hc => ?_) (fun hc => ?_)
      · have h := h.2 hc
        refine lv_iconst (v := (0 : Int32)) hx hb dX12_sums_48 (by decide) ?_
        refine lv_istore_n (lv' := [(2, .int (0 : Int32)), (0, .ref (ad 0)), (1, .int x1)]) hx hb dX12_sums_49 rfl hl (by decide) rfl (fun ls hl => ?_)
        refine lv_goto (tgt := 15) hx hb dX12_sums_50 (by decide) ?_
        exact hk_15 x1 (0 : Int32) τ2 _ _ _ h hP hD hS (lv_sub hl [1, 2, 0] rfl)
      · have h := h.1 hc
        refine lv_aload_n hx hb dX12_sums_37 rfl (lv_at hl 0 rfl) ?_
        refine k_X12_goesOn N ⟨hx, hb, hml, hown, hts⟩ mw_994 ⟨Nat.le_of_ble_eq_true rfl, Nat.le_of_ble_eq_true rfl⟩ h hK hP hD hS hl.1 (rest := []) (Nat.le_of_ble_eq_true rfl) ⟨Nat.le_of_ble_eq_true rfl, Nat.le_of_ble_eq_true rfl⟩ dX12_sums_38 (fun r3 τ4 H locs h hP hD hS => ?_)
        refine lv_if_eq (tgt := 48) hx hb dX12_sums_41 (by decide) (fun hc => ?_) (fun hc => ?_)
        · have h := h.1 hc
          refine lv_iconst (v := (0 : Int32)) hx hb dX12_sums_48 (by decide) ?_
          refine lv_istore_n (lv' := [(2, .int (0 : Int32)), (0, .ref (ad 0)), (1, .int x1)]) hx hb dX12_sums_49 rfl hl (by decide) rfl (fun ls hl => ?_)
          refine lv_goto (tgt := 15) hx hb dX12_sums_50 (by decide) ?_
          exact hk_15 x1 (0 : Int32) τ4 _ _ _ h hP hD hS (lv_sub hl [1, 2, 0] rfl)
        · have h := h.2 hc
          refine lv_iconst (v := (1 : Int32)) hx hb dX12_sums_44 (by decide) ?_
          refine lv_goto (tgt := 49) hx hb dX12_sums_45 (by decide) ?_
          refine lv_istore_n (lv' := [(2, .int (1 : Int32)), (0, .ref (ad 0)), (1, .int x1)]) hx hb dX12_sums_49 rfl hl (by decide) rfl (fun ls hl => ?_)
          refine lv_goto (tgt := 15) hx hb dX12_sums_50 (by decide) ?_
          exact hk_15 x1 (1 : Int32) τ4 _ _ _ h hP hD hS (lv_sub hl [1, 2, 0] rfl)
set_option maxHeartbeats 4000000 in
set_option maxRecDepth 100000 in
theorem t_X12_sums_15 (C0 : zCx p s m meth c args RX12 cX12_sums 3 none vs_X12_sums) (hK : va_K (dC, dI) vwCl (m_ty cI cJ cC) s) (N : Nat) {Q : zSt → Prop} : ∀ (f : Nat) (x1 : Int32) (x2 : Int32) (σ : zSt) (H : Heap) (locs : List Loc) (ls : Array Slot), w_X12_sums_15 N  Q f x1 x2 σ → va_P (dC, dI) vwCl (m_W ad cI cJ cC σ) H → va_D (zAW m_n ad s.heap.size) (m_W ad cI cJ cC σ) → va_S (zAW m_n ad s.heap.size) s.heap H locs → lv_has ls 3 [(0, .ref (ad 0)), (1, .int x1), (2, .int x2)] → W p l e rm_X12_sums s m args below meth c H locs 0 0 (MQ below (zQv (dC, dI) (m_ty cI cJ cC) (m_W ad cI cJ cC) (zAW m_n ad s.heap.size) Q) args s 0 0 (zAW m_n ad s.heap.size)) (F0 m 15 ls []) := by
  intro f
  induction f with
  | zero => intro x1 x2 σ H locs ls h; exact h.elim
  | succ f ih =>
    intro x1 x2 σ H locs ls h hP hD hS hl
    exact tb_X12_sums_15 C0 hK N  (k_15 := w_X12_sums_15 N  Q f) ih x1 x2 σ H locs ls h hP hD hS hl
set_option maxHeartbeats 4000000 in
set_option maxRecDepth 100000 in
theorem t_X12_sums_0 (C0 : zCx p s m meth c args RX12 cX12_sums 3 none vs_X12_sums) (hK : va_K (dC, dI) vwCl (m_ty cI cJ cC) s) (N : Nat) {Q : zSt → Prop} : ∀  (σ : zSt) (H : Heap) (locs : List Loc) (ls : Array Slot), w_X12_sums N  σ Q → va_P (dC, dI) vwCl (m_W ad cI cJ cC σ) H → va_D (zAW m_n ad s.heap.size) (m_W ad cI cJ cC σ) → va_S (zAW m_n ad s.heap.size) s.heap H locs → lv_has ls 3 [(0, .ref (ad 0))] → W p l e rm_X12_sums s m args below meth c H locs 0 0 (MQ below (zQv (dC, dI) (m_ty cI cJ cC) (m_W ad cI cJ cC) (zAW m_n ad s.heap.size) Q) args s 0 0 (zAW m_n ad s.heap.size)) (F0 m 0 ls []) := by
  obtain ⟨hx, hb, hml, hr, hown, hts, hlocks⟩ := id C0
  intro  σ H locs ls h hP hD hS hl
  unfold w_X12_sums at h
  refine lv_aload_n hx hb dX12_sums_0 rfl (lv_at hl 0 rfl) ?_
  refine mg_0_46 hx hb hts hown hK hP mw_879 dX12_sums_1 ?_
  refine lv_topi (fun v1 ev1 => ?_)
  have h := h v1 ev1
  refine lv_istore_n (lv' := [(1, .int v1), (0, .ref (ad 0))]) hx hb dX12_sums_4 rfl hl (by decide) rfl (fun ls hl => ?_)
  refine lv_aload_n hx hb dX12_sums_5 rfl (lv_at hl 1 rfl) ?_
  refine lv_aload_n hx hb dX12_sums_6 rfl (lv_at hl 1 rfl) ?_
  refine mg_0_43 hx hb hts hown hK hP mw_876 dX12_sums_7 ?_
  refine mp_0_46 hx hb hts hown hK hP hD hS mw_879 dX12_sums_10 (fun τ2 H locs eτ2 hP hD hS => ?_)
  have h := h τ2 eτ2
  refine lv_iconst (v := (1 : Int32)) hx hb dX12_sums_13 (by decide) ?_
  refine lv_istore_n (lv' := [(2, .int (1 : Int32)), (1, .int v1), (0, .ref (ad 0))]) hx hb dX12_sums_14 rfl hl (by decide) rfl (fun ls hl => ?_)
  exact t_X12_sums_15 C0 hK N  N v1 (1 : Int32) τ2 _ _ _ h hP hD hS (lv_sub hl [2, 1, 0] rfl)
set_option maxHeartbeats 4000000 in
set_option maxRecDepth 100000 in
theorem c_X12_sums (N : Nat) (l : Launch) (dC : Nat → ClassId) (dI : Nat → Nat → Nat) (ad : Nat → Nat) (cI cJ cC : ClassId) (sz : Nat) (σ : zSt)  (Q : zSt → Prop) (h : w_X12_sums N  σ Q) : Met l yX12_sums vs_X12_sums rm_X12_sums (va_Pc [.ref (ad 0)] (zPc (dC, dI) (m_ty cI cJ cC) (m_W ad cI cJ cC) sz σ)) (zQv (dC, dI) (m_ty cI cJ cC) (m_W ad cI cJ cC) (zAW m_n ad sz) Q) 0 0 (zAW m_n ad sz) := by
  refine Met.ofW (cc := cX12_sums) (maxL := 3) (ret := none) (by decide) rfl ?_
  intro p e s m args below meth c s₁ B hml hv
  obtain ⟨rfl, hsz, hP, hK, hD0⟩ := hv
  subst hsz
  have C0 : zCx p s m meth c _ RX12 cX12_sums 3 none vs_X12_sums := ⟨B.exec, B.bytes, hml, B.returns, findClass_of_methodNamed B.named, atoms_spec (ws := vs_X12_sums) B.pre, B.notSynchronized⟩
  have hD := m_D0 (n0 := s.heap.size) hD0
  have hl := lv_entry ([.ref (ad 0)]) (n := 3) (Nat.le_of_ble_eq_true rfl)
  rw [lg_entry_eq]
  generalize (lg_sl ([.ref (ad 0)]) ++ List.replicate (3 - (lg_sl ([.ref (ad 0)])).length) Slot.unset).toArray = ls at hl ⊢
  exact t_X12_sums_0 C0 hK N  σ _ _ ls h hP hD va_S.rf hl
theorem k_X12_sums (N : Nat) {R : Room} {H : Heap} {locs : List Loc} {cells slots : Nat} {Q2 : State → Prop} {cc : ByteArray} {nL pc index : Nat} {ls : Array Slot} {rest : List Value} {own : String} {c0 : Cond} {σ : zSt}  {Q : zSt → Prop} (S0 : CallFix p m c cc nL s args (c0 :: zT) own) (hml : Cond.methodLink own index yX12_sums ∈ zT) (hR : rm_X12_sums.frames + 1 ≤ R.frames ∧ 8 + (3 + 11) + rm_X12_sums.locals ≤ R.locals) (h : w_X12_sums N  σ Q) (hK : va_K (dC, dI) vwCl (m_ty cI cJ cC) s) (hP : va_P (dC, dI) vwCl (m_W ad cI cJ cC σ) H) (hD : va_D (zAW m_n ad s.heap.size) (m_W ad cI cJ cC σ)) (hS : va_S (zAW m_n ad s.heap.size) s.heap H locs) (hsz : ls.size = nL) (hW : (rest.map fun v => v.category).sum ≤ 8) (hcs : cells ≤ R.cells ∧ slots ≤ R.slots) (hdg : decode cc pc = .ok (.invokevirtual index, 3)) (kk : ∀ (τ : zSt) (H1 : Heap) (locs1 : List Loc), Q τ → va_P (dC, dI) vwCl (m_W ad cI cJ cC τ) H1 → va_D (zAW m_n ad s.heap.size) (m_W ad cI cJ cC τ) → va_S (zAW m_n ad s.heap.size) s.heap H1 locs1 → W p l e R s m args below meth c H1 locs1 cells slots Q2 (F0 m (pc + 3) ls (rest))) : W p l e R s m args below meth c H locs cells slots Q2 (F0 m pc ls (.ref (ad 0) :: rest)) :=
  zcv_v (T := TX12) (N' := 83) (k := 0) (ci := 12) (fs := m_f0 ad σ) [] S0 (c_X12_sums N l dC dI ad cI cJ cC H.size σ  Q h) (cw_X12_sums S0.2.2.2.2 hml rfl rfl hR) rfl rfl hK hP hD hS rfl hsz hW rfl hcs hdg kk
end q16
section q16
def b_X12_isOwnHere_115 (N : Nat) (Q : Int32 → zSt → Prop) (s0 : Int32) (σ : zSt) : Prop :=
  (s0 = 0 → w_X12_isHere N 10 σ (fun r1 τ2 => (r1 = 0 → w_X12_isHere N 11 τ2 (fun r3 τ4 => (r3 = 0 → w_X12_isHere N 12 τ4 (fun r5 τ6 => (r5 = 0 → w_X12_isHere N 13 τ6 (fun r7 τ8 => (r7 = 0 → w_X12_isHere N 14 τ8 (fun r9 τ10 => (r9 = 0 → w_X12_isHere N 15 τ10 (fun r11 τ12 => (r11 = 0 → w_X12_isHere N 16 τ12 (fun r13 τ14 => (r13 = 0 → w_X12_isHere N 17 τ14 (fun r15 τ16 => (r15 = 0 → w_X12_isHere N 18 τ16 (fun r17 τ18 => (r17 = 0 → Q (0 : Int32) τ18) ∧ (¬ r17 = 0 → Q (1 : Int32) τ18))) ∧ (¬ r15 = 0 → Q (1 : Int32) τ16))) ∧ (¬ r13 = 0 → Q (1 : Int32) τ14))) ∧ (¬ r11 = 0 → Q (1 : Int32) τ12))) ∧ (¬ r9 = 0 → Q (1 : Int32) τ10))) ∧ (¬ r7 = 0 → Q (1 : Int32) τ8))) ∧ (¬ r5 = 0 → Q (1 : Int32) τ6))) ∧ (¬ r3 = 0 → Q (1 : Int32) τ4))) ∧ (¬ r1 = 0 → Q (1 : Int32) τ2))) ∧ (¬ s0 = 0 → Q (1 : Int32) σ)
def b_X12_isOwnHere_110 (N : Nat) (Q : Int32 → zSt → Prop)  (σ : zSt) : Prop :=
  b_X12_isOwnHere_115 N Q (1 : Int32) σ
def w_X12_isOwnHere (N : Nat)  (σ : zSt) (Q : Int32 → zSt → Prop) : Prop :=
  w_X12_isHere N 0 σ (fun r1 τ2 => (r1 = 0 → w_X12_isHere N 1 τ2 (fun r3 τ4 => (r3 = 0 → w_X12_isHere N 2 τ4 (fun r5 τ6 => (r5 = 0 → w_X12_isHere N 3 τ6 (fun r7 τ8 => (r7 = 0 → w_X12_isHere N 4 τ8 (fun r9 τ10 => (r9 = 0 → w_X12_isHere N 5 τ10 (fun r11 τ12 => (r11 = 0 → w_X12_isHere N 6 τ12 (fun r13 τ14 => (r13 = 0 → w_X12_isHere N 7 τ14 (fun r15 τ16 => (r15 = 0 → w_X12_isHere N 8 τ16 (fun r17 τ18 => (r17 = 0 → w_X12_isHere N 9 τ18 (fun r19 τ20 => (r19 = 0 → b_X12_isOwnHere_115 N Q (0 : Int32) τ20) ∧ (¬ r19 = 0 → b_X12_isOwnHere_110 N Q τ20))) ∧ (¬ r17 = 0 → b_X12_isOwnHere_110 N Q τ18))) ∧ (¬ r15 = 0 → b_X12_isOwnHere_110 N Q τ16))) ∧ (¬ r13 = 0 → b_X12_isOwnHere_110 N Q τ14))) ∧ (¬ r11 = 0 → b_X12_isOwnHere_110 N Q τ12))) ∧ (¬ r9 = 0 → b_X12_isOwnHere_110 N Q τ10))) ∧ (¬ r7 = 0 → b_X12_isOwnHere_110 N Q τ8))) ∧ (¬ r5 = 0 → b_X12_isOwnHere_110 N Q τ6))) ∧ (¬ r3 = 0 → b_X12_isOwnHere_110 N Q τ4))) ∧ (¬ r1 = 0 → b_X12_isOwnHere_110 N Q τ2))
variable {p : Program} {l : Launch} {e : Env} {s : State} {m : MethodId} {args : Array Value} {below : List Frame} {meth : Method} {c : Code} {dC : Nat → ClassId} {dI : Nat → Nat → Nat} {ad : Nat → Nat} {cI cJ cC : ClassId}
set_option maxHeartbeats 4000000 in
set_option maxRecDepth 100000 in
theorem t_X12_isOwnHere_115 (C0 : zCx p s m meth c args RX12 cX12_isOwnHere 2 (some .boolean) vs_X12_isOwnHere) (hK : va_K (dC, dI) vwCl (m_ty cI cJ cC) s) (N : Nat) {Q : Int32 → zSt → Prop} : ∀ (s0 : Int32) (σ : zSt) (H : Heap) (locs : List Loc) (ls : Array Slot), b_X12_isOwnHere_115 N  Q s0 σ → va_P (dC, dI) vwCl (m_W ad cI cJ cC σ) H → va_D (zAW m_n ad s.heap.size) (m_W ad cI cJ cC σ) → va_S (zAW m_n ad s.heap.size) s.heap H locs → lv_has ls 2 [(0, .ref (ad 0))] → W p l e rm_X12_isOwnHere s m args below meth c H locs 0 0 (MQ below (zQi (dC, dI) (m_ty cI cJ cC) (m_W ad cI cJ cC) (zAW m_n ad s.heap.size) Q) args s 0 0 (zAW m_n ad s.heap.size)) (F0 m 115 ls [.int s0]) := by
  obtain ⟨hx, hb, hml, hr, hown, hts, hlocks⟩ := id C0
  intro s0 σ H locs ls h hP hD hS hl
  unfold b_X12_isOwnHere_115 at h
  refine lv_istore_n (lv' := [(1, .int s0), (0, .ref (ad 0))]) hx hb dX12_isOwnHere_115 rfl hl (by decide) rfl (fun ls hl => ?_)
  refine lv_iload_n hx hb dX12_isOwnHere_116 rfl (lv_at hl 0 rfl) ?_
  refine lv_if_ne (tgt := 219) hx hb dX12_isOwnHere_117 (by decide) (fun hc => ?_) (fun hc => ?_)
  · have h := h.2 hc
    refine lv_iconst (v := (1 : Int32)) hx hb dX12_isOwnHere_219 (by decide) ?_
    refine lv_goto (tgt := 224) hx hb dX12_isOwnHere_220 (by decide) ?_
    exact zret_z hx hb hr hlocks hK hP hD hS zb_1 h dX12_isOwnHere_224
  · have h := h.1 hc
    refine lv_aload_n hx hb dX12_isOwnHere_120 rfl (lv_at hl 1 rfl) ?_
    refine lv_aload_n hx hb dX12_isOwnHere_121 rfl (lv_at hl 1 rfl) ?_
    refine mg_0_19 hx hb hts hown hK hP mw_852 dX12_isOwnHere_122 ?_
    refine k_X12_isHere N (w := 10) (by decide) ⟨hx, hb, hml, hown, hts⟩ mw_938 ⟨Nat.le_of_ble_eq_true rfl, Nat.le_of_ble_eq_true rfl⟩ h hK hP hD hS hl.1 (rest := []) (Nat.le_of_ble_eq_true rfl) ⟨Nat.le_of_ble_eq_true rfl, Nat.le_of_ble_eq_true rfl⟩ dX12_isOwnHere_125 (fun r1 τ2 H locs h hP hD hS => ?_)
    refine lv_if_ne (tgt := 219) hx hb dX12_isOwnHere_128 (by decide) (fun hc => ?_) (fun hc => ?_)
    · have h := h.2 hc
      refine lv_iconst (v := (1 : Int32)) hx hb dX12_isOwnHere_219 (by decide) ?_
      refine lv_goto (tgt := 224) hx hb dX12_isOwnHere_220 (by decide) ?_
      exact zret_z hx hb hr hlocks hK hP hD hS zb_1 h dX12_isOwnHere_224
    · have h := h.1 hc
      refine lv_aload_n hx hb dX12_isOwnHere_131 rfl (lv_at hl 1 rfl) ?_
      refine lv_aload_n hx hb dX12_isOwnHere_132 rfl (lv_at hl 1 rfl) ?_
      refine mg_0_20 hx hb hts hown hK hP mw_853 dX12_isOwnHere_133 ?_
      refine k_X12_isHere N (w := 11) (by decide) ⟨hx, hb, hml, hown, hts⟩ mw_938 ⟨Nat.le_of_ble_eq_true rfl, Nat.le_of_ble_eq_true rfl⟩ h hK hP hD hS hl.1 (rest := []) (Nat.le_of_ble_eq_true rfl) ⟨Nat.le_of_ble_eq_true rfl, Nat.le_of_ble_eq_true rfl⟩ dX12_isOwnHere_136 (fun r3 τ4 H locs h hP hD hS => ?_)
      refine lv_if_ne (tgt := 219) hx hb dX12_isOwnHere_139 (by decide) (fun hc => ?_) (fun hc => ?_)
      · have h := h.2 hc
        refine lv_iconst (v := (1 : Int32)) hx hb dX12_isOwnHere_219 (by decide) ?_
        refine lv_goto (tgt := 224) hx hb dX12_isOwnHere_220 (by decide) ?_
        exact zret_z hx hb hr hlocks hK hP hD hS zb_1 h dX12_isOwnHere_224
      · have h := h.1 hc
        refine lv_aload_n hx hb dX12_isOwnHere_142 rfl (lv_at hl 1 rfl) ?_
        refine lv_aload_n hx hb dX12_isOwnHere_143 rfl (lv_at hl 1 rfl) ?_
        refine mg_0_21 hx hb hts hown hK hP mw_854 dX12_isOwnHere_144 ?_
        refine k_X12_isHere N (w := 12) (by decide) ⟨hx, hb, hml, hown, hts⟩ mw_938 ⟨Nat.le_of_ble_eq_true rfl, Nat.le_of_ble_eq_true rfl⟩ h hK hP hD hS hl.1 (rest := []) (Nat.le_of_ble_eq_true rfl) ⟨Nat.le_of_ble_eq_true rfl, Nat.le_of_ble_eq_true rfl⟩ dX12_isOwnHere_147 (fun r5 τ6 H locs h hP hD hS => ?_)
        refine lv_if_ne (tgt := 219) hx hb dX12_isOwnHere_150 (by decide) (fun hc => ?_) (fun hc => ?_)
        · have h := h.2 hc
          refine lv_iconst (v := (1 : Int32)) hx hb dX12_isOwnHere_219 (by decide) ?_
          refine lv_goto (tgt := 224) hx hb dX12_isOwnHere_220 (by decide) ?_
          exact zret_z hx hb hr hlocks hK hP hD hS zb_1 h dX12_isOwnHere_224
        · have h := h.1 hc
          refine lv_aload_n hx hb dX12_isOwnHere_153 rfl (lv_at hl 1 rfl) ?_
          refine lv_aload_n hx hb dX12_isOwnHere_154 rfl (lv_at hl 1 rfl) ?_
          refine mg_0_22 hx hb hts hown hK hP mw_855 dX12_isOwnHere_155 ?_
          refine k_X12_isHere N (w := 13) (by decide) ⟨hx, hb, hml, hown, hts⟩ mw_938 ⟨Nat.le_of_ble_eq_true rfl, Nat.le_of_ble_eq_true rfl⟩ h hK hP hD hS hl.1 (rest := []) (Nat.le_of_ble_eq_true rfl) ⟨Nat.le_of_ble_eq_true rfl, Nat.le_of_ble_eq_true rfl⟩ dX12_isOwnHere_158 (fun r7 τ8 H locs h hP hD hS => ?_)
          refine lv_if_ne (tgt := 219) hx hb dX12_isOwnHere_161 (by decide) (fun hc => ?_) (fun hc => ?_)
          · have h := h.2 hc
            refine lv_iconst (v := (1 : Int32)) hx hb dX12_isOwnHere_219 (by decide) ?_
            refine lv_goto (tgt := 224) hx hb dX12_isOwnHere_220 (by decide) ?_
            exact zret_z hx hb hr hlocks hK hP hD hS zb_1 h dX12_isOwnHere_224
          · have h := h.1 hc
            refine lv_aload_n hx hb dX12_isOwnHere_164 rfl (lv_at hl 1 rfl) ?_
            refine lv_aload_n hx hb dX12_isOwnHere_165 rfl (lv_at hl 1 rfl) ?_
            refine mg_0_23 hx hb hts hown hK hP mw_856 dX12_isOwnHere_166 ?_
            refine k_X12_isHere N (w := 14) (by decide) ⟨hx, hb, hml, hown, hts⟩ mw_938 ⟨Nat.le_of_ble_eq_true rfl, Nat.le_of_ble_eq_true rfl⟩ h hK hP hD hS hl.1 (rest := []) (Nat.le_of_ble_eq_true rfl) ⟨Nat.le_of_ble_eq_true rfl, Nat.le_of_ble_eq_true rfl⟩ dX12_isOwnHere_169 (fun r9 τ10 H locs h hP hD hS => ?_)
            refine lv_if_ne (tgt := 219) hx hb dX12_isOwnHere_172 (by decide) (fun hc => ?_) (fun hc => ?_)
            · have h := h.2 hc
              refine lv_iconst (v := (1 : Int32)) hx hb dX12_isOwnHere_219 (by decide) ?_
              refine lv_goto (tgt := 224) hx hb dX12_isOwnHere_220 (by decide) ?_
              exact zret_z hx hb hr hlocks hK hP hD hS zb_1 h dX12_isOwnHere_224
            · have h := h.1 hc
              refine lv_aload_n hx hb dX12_isOwnHere_175 rfl (lv_at hl 1 rfl) ?_
              refine lv_aload_n hx hb dX12_isOwnHere_176 rfl (lv_at hl 1 rfl) ?_
              refine mg_0_24 hx hb hts hown hK hP mw_857 dX12_isOwnHere_177 ?_
              refine k_X12_isHere N (w := 15) (by decide) ⟨hx, hb, hml, hown, hts⟩ mw_938 ⟨Nat.le_of_ble_eq_true rfl, Nat.le_of_ble_eq_true rfl⟩ h hK hP hD hS hl.1 (rest := []) (Nat.le_of_ble_eq_true rfl) ⟨Nat.le_of_ble_eq_true rfl, Nat.le_of_ble_eq_true rfl⟩ dX12_isOwnHere_180 (fun r11 τ12 H locs h hP hD hS => ?_)
              refine lv_if_ne (tgt := 219) hx hb dX12_isOwnHere_183 (by decide) (fun hc => ?_) (fun hc => ?_)
              · have h := h.2 hc
                refine lv_iconst (v := (1 : Int32)) hx hb dX12_isOwnHere_219 (by decide) ?_
                refine lv_goto (tgt := 224) hx hb dX12_isOwnHere_220 (by decide) ?_
                exact zret_z hx hb hr hlocks hK hP hD hS zb_1 h dX12_isOwnHere_224
              · have h := h.1 hc
                refine lv_aload_n hx hb dX12_isOwnHere_186 rfl (lv_at hl 1 rfl) ?_
                refine lv_aload_n hx hb dX12_isOwnHere_187 rfl (lv_at hl 1 rfl) ?_
                refine mg_0_25 hx hb hts hown hK hP mw_858 dX12_isOwnHere_188 ?_
                refine k_X12_isHere N (w := 16) (by decide) ⟨hx, hb, hml, hown, hts⟩ mw_938 ⟨Nat.le_of_ble_eq_true rfl, Nat.le_of_ble_eq_true rfl⟩ h hK hP hD hS hl.1 (rest := []) (Nat.le_of_ble_eq_true rfl) ⟨Nat.le_of_ble_eq_true rfl, Nat.le_of_ble_eq_true rfl⟩ dX12_isOwnHere_191 (fun r13 τ14 H locs h hP hD hS => ?_)
                refine lv_if_ne (tgt := 219) hx hb dX12_isOwnHere_194 (by decide) (fun hc => ?_) (fun hc => ?_)
                · have h := h.2 hc
                  refine lv_iconst (v := (1 : Int32)) hx hb dX12_isOwnHere_219 (by decide) ?_
                  refine lv_goto (tgt := 224) hx hb dX12_isOwnHere_220 (by decide) ?_
                  exact zret_z hx hb hr hlocks hK hP hD hS zb_1 h dX12_isOwnHere_224
                · have h := h.1 hc
                  refine lv_aload_n hx hb dX12_isOwnHere_197 rfl (lv_at hl 1 rfl) ?_
                  refine lv_aload_n hx hb dX12_isOwnHere_198 rfl (lv_at hl 1 rfl) ?_
                  refine mg_0_26 hx hb hts hown hK hP mw_859 dX12_isOwnHere_199 ?_
                  refine k_X12_isHere N (w := 17) (by decide) ⟨hx, hb, hml, hown, hts⟩ mw_938 ⟨Nat.le_of_ble_eq_true rfl, Nat.le_of_ble_eq_true rfl⟩ h hK hP hD hS hl.1 (rest := []) (Nat.le_of_ble_eq_true rfl) ⟨Nat.le_of_ble_eq_true rfl, Nat.le_of_ble_eq_true rfl⟩ dX12_isOwnHere_202 (fun r15 τ16 H locs h hP hD hS => ?_)
                  refine lv_if_ne (tgt := 219) hx hb dX12_isOwnHere_205 (by decide) (fun hc => ?_) (fun hc => ?_)
                  · have h := h.2 hc
                    refine lv_iconst (v := (1 : Int32)) hx hb dX12_isOwnHere_219 (by decide) ?_
                    refine lv_goto (tgt := 224) hx hb dX12_isOwnHere_220 (by decide) ?_
                    exact zret_z hx hb hr hlocks hK hP hD hS zb_1 h dX12_isOwnHere_224
                  · have h := h.1 hc
                    refine lv_aload_n hx hb dX12_isOwnHere_208 rfl (lv_at hl 1 rfl) ?_
                    refine lv_aload_n hx hb dX12_isOwnHere_209 rfl (lv_at hl 1 rfl) ?_
                    refine mg_0_27 hx hb hts hown hK hP mw_860 dX12_isOwnHere_210 ?_
                    refine k_X12_isHere N (w := 18) (by decide) ⟨hx, hb, hml, hown, hts⟩ mw_938 ⟨Nat.le_of_ble_eq_true rfl, Nat.le_of_ble_eq_true rfl⟩ h hK hP hD hS hl.1 (rest := []) (Nat.le_of_ble_eq_true rfl) ⟨Nat.le_of_ble_eq_true rfl, Nat.le_of_ble_eq_true rfl⟩ dX12_isOwnHere_213 (fun r17 τ18 H locs h hP hD hS => ?_)
                    refine lv_if_eq (tgt := 223) hx hb dX12_isOwnHere_216 (by decide) (fun hc => ?_) (fun hc => ?_)
                    · have h := h.1 hc
                      refine lv_iconst (v := (0 : Int32)) hx hb dX12_isOwnHere_223 (by decide) ?_
                      exact zret_z hx hb hr hlocks hK hP hD hS zb_0 h dX12_isOwnHere_224
                    · have h := h.2 hc
                      refine lv_iconst (v := (1 : Int32)) hx hb dX12_isOwnHere_219 (by decide) ?_
                      refine lv_goto (tgt := 224) hx hb dX12_isOwnHere_220 (by decide) ?_
                      exact zret_z hx hb hr hlocks hK hP hD hS zb_1 h dX12_isOwnHere_224
set_option maxHeartbeats 4000000 in
set_option maxRecDepth 100000 in
theorem t_X12_isOwnHere_110 (C0 : zCx p s m meth c args RX12 cX12_isOwnHere 2 (some .boolean) vs_X12_isOwnHere) (hK : va_K (dC, dI) vwCl (m_ty cI cJ cC) s) (N : Nat) {Q : Int32 → zSt → Prop} : ∀  (σ : zSt) (H : Heap) (locs : List Loc) (ls : Array Slot), b_X12_isOwnHere_110 N  Q  σ → va_P (dC, dI) vwCl (m_W ad cI cJ cC σ) H → va_D (zAW m_n ad s.heap.size) (m_W ad cI cJ cC σ) → va_S (zAW m_n ad s.heap.size) s.heap H locs → lv_has ls 2 [(0, .ref (ad 0))] → W p l e rm_X12_isOwnHere s m args below meth c H locs 0 0 (MQ below (zQi (dC, dI) (m_ty cI cJ cC) (m_W ad cI cJ cC) (zAW m_n ad s.heap.size) Q) args s 0 0 (zAW m_n ad s.heap.size)) (F0 m 110 ls []) := by
  obtain ⟨hx, hb, hml, hr, hown, hts, hlocks⟩ := id C0
  intro  σ H locs ls h hP hD hS hl
  unfold b_X12_isOwnHere_110 at h
  refine lv_iconst (v := (1 : Int32)) hx hb dX12_isOwnHere_110 (by decide) ?_
  refine lv_goto (tgt := 115) hx hb dX12_isOwnHere_111 (by decide) ?_
  exact t_X12_isOwnHere_115 C0 hK N  (1 : Int32) σ _ _ _ h hP hD hS (lv_sub hl [0] rfl)
set_option maxHeartbeats 4000000 in
set_option maxRecDepth 100000 in
theorem t_X12_isOwnHere_0 (C0 : zCx p s m meth c args RX12 cX12_isOwnHere 2 (some .boolean) vs_X12_isOwnHere) (hK : va_K (dC, dI) vwCl (m_ty cI cJ cC) s) (N : Nat) {Q : Int32 → zSt → Prop} : ∀  (σ : zSt) (H : Heap) (locs : List Loc) (ls : Array Slot), w_X12_isOwnHere N  σ Q → va_P (dC, dI) vwCl (m_W ad cI cJ cC σ) H → va_D (zAW m_n ad s.heap.size) (m_W ad cI cJ cC σ) → va_S (zAW m_n ad s.heap.size) s.heap H locs → lv_has ls 2 [(0, .ref (ad 0))] → W p l e rm_X12_isOwnHere s m args below meth c H locs 0 0 (MQ below (zQi (dC, dI) (m_ty cI cJ cC) (m_W ad cI cJ cC) (zAW m_n ad s.heap.size) Q) args s 0 0 (zAW m_n ad s.heap.size)) (F0 m 0 ls []) := by
  obtain ⟨hx, hb, hml, hr, hown, hts, hlocks⟩ := id C0
  intro  σ H locs ls h hP hD hS hl
  unfold w_X12_isOwnHere at h
  refine lv_aload_n hx hb dX12_isOwnHere_0 rfl (lv_at hl 0 rfl) ?_
  refine lv_aload_n hx hb dX12_isOwnHere_1 rfl (lv_at hl 0 rfl) ?_
  refine mg_0_9 hx hb hts hown hK hP mw_842 dX12_isOwnHere_2 ?_
  refine k_X12_isHere N (w := 0) (by decide) ⟨hx, hb, hml, hown, hts⟩ mw_938 ⟨Nat.le_of_ble_eq_true rfl, Nat.le_of_ble_eq_true rfl⟩ h hK hP hD hS hl.1 (rest := []) (Nat.le_of_ble_eq_true rfl) ⟨Nat.le_of_ble_eq_true rfl, Nat.le_of_ble_eq_true rfl⟩ dX12_isOwnHere_5 (fun r1 τ2 H locs h hP hD hS => ?_)
  refine lv_if_ne (tgt := 110) hx hb dX12_isOwnHere_8 (by decide) (fun hc => ?_) (fun hc => ?_)
  · have h := h.2 hc
    exact t_X12_isOwnHere_110 C0 hK N  τ2 _ _ _ h hP hD hS (lv_sub hl [0] rfl)
  · have h := h.1 hc
    refine lv_aload_n hx hb dX12_isOwnHere_11 rfl (lv_at hl 0 rfl) ?_
    refine lv_aload_n hx hb dX12_isOwnHere_12 rfl (lv_at hl 0 rfl) ?_
    refine mg_0_10 hx hb hts hown hK hP mw_843 dX12_isOwnHere_13 ?_
    refine k_X12_isHere N (w := 1) (by decide) ⟨hx, hb, hml, hown, hts⟩ mw_938 ⟨Nat.le_of_ble_eq_true rfl, Nat.le_of_ble_eq_true rfl⟩ h hK hP hD hS hl.1 (rest := []) (Nat.le_of_ble_eq_true rfl) ⟨Nat.le_of_ble_eq_true rfl, Nat.le_of_ble_eq_true rfl⟩ dX12_isOwnHere_16 (fun r3 τ4 H locs h hP hD hS => ?_)
    refine lv_if_ne (tgt := 110) hx hb dX12_isOwnHere_19 (by decide) (fun hc => ?_) (fun hc => ?_)
    · have h := h.2 hc
      exact t_X12_isOwnHere_110 C0 hK N  τ4 _ _ _ h hP hD hS (lv_sub hl [0] rfl)
    · have h := h.1 hc
      refine lv_aload_n hx hb dX12_isOwnHere_22 rfl (lv_at hl 0 rfl) ?_
      refine lv_aload_n hx hb dX12_isOwnHere_23 rfl (lv_at hl 0 rfl) ?_
      refine mg_0_11 hx hb hts hown hK hP mw_844 dX12_isOwnHere_24 ?_
      refine k_X12_isHere N (w := 2) (by decide) ⟨hx, hb, hml, hown, hts⟩ mw_938 ⟨Nat.le_of_ble_eq_true rfl, Nat.le_of_ble_eq_true rfl⟩ h hK hP hD hS hl.1 (rest := []) (Nat.le_of_ble_eq_true rfl) ⟨Nat.le_of_ble_eq_true rfl, Nat.le_of_ble_eq_true rfl⟩ dX12_isOwnHere_27 (fun r5 τ6 H locs h hP hD hS => ?_)
      refine lv_if_ne (tgt := 110) hx hb dX12_isOwnHere_30 (by decide) (fun hc => ?_) (fun hc => ?_)
      · have h := h.2 hc
        exact t_X12_isOwnHere_110 C0 hK N  τ6 _ _ _ h hP hD hS (lv_sub hl [0] rfl)
      · have h := h.1 hc
        refine lv_aload_n hx hb dX12_isOwnHere_33 rfl (lv_at hl 0 rfl) ?_
        refine lv_aload_n hx hb dX12_isOwnHere_34 rfl (lv_at hl 0 rfl) ?_
        refine mg_0_12 hx hb hts hown hK hP mw_845 dX12_isOwnHere_35 ?_
        refine k_X12_isHere N (w := 3) (by decide) ⟨hx, hb, hml, hown, hts⟩ mw_938 ⟨Nat.le_of_ble_eq_true rfl, Nat.le_of_ble_eq_true rfl⟩ h hK hP hD hS hl.1 (rest := []) (Nat.le_of_ble_eq_true rfl) ⟨Nat.le_of_ble_eq_true rfl, Nat.le_of_ble_eq_true rfl⟩ dX12_isOwnHere_38 (fun r7 τ8 H locs h hP hD hS => ?_)
        refine lv_if_ne (tgt := 110) hx hb dX12_isOwnHere_41 (by decide) (fun hc => ?_) (fun hc => ?_)
        · have h := h.2 hc
          exact t_X12_isOwnHere_110 C0 hK N  τ8 _ _ _ h hP hD hS (lv_sub hl [0] rfl)
        · have h := h.1 hc
          refine lv_aload_n hx hb dX12_isOwnHere_44 rfl (lv_at hl 0 rfl) ?_
          refine lv_aload_n hx hb dX12_isOwnHere_45 rfl (lv_at hl 0 rfl) ?_
          refine mg_0_13 hx hb hts hown hK hP mw_846 dX12_isOwnHere_46 ?_
          refine k_X12_isHere N (w := 4) (by decide) ⟨hx, hb, hml, hown, hts⟩ mw_938 ⟨Nat.le_of_ble_eq_true rfl, Nat.le_of_ble_eq_true rfl⟩ h hK hP hD hS hl.1 (rest := []) (Nat.le_of_ble_eq_true rfl) ⟨Nat.le_of_ble_eq_true rfl, Nat.le_of_ble_eq_true rfl⟩ dX12_isOwnHere_49 (fun r9 τ10 H locs h hP hD hS => ?_)
          refine lv_if_ne (tgt := 110) hx hb dX12_isOwnHere_52 (by decide) (fun hc => ?_) (fun hc => ?_)
          · have h := h.2 hc
            exact t_X12_isOwnHere_110 C0 hK N  τ10 _ _ _ h hP hD hS (lv_sub hl [0] rfl)
          · have h := h.1 hc
            refine lv_aload_n hx hb dX12_isOwnHere_55 rfl (lv_at hl 0 rfl) ?_
            refine lv_aload_n hx hb dX12_isOwnHere_56 rfl (lv_at hl 0 rfl) ?_
            refine mg_0_14 hx hb hts hown hK hP mw_847 dX12_isOwnHere_57 ?_
            refine k_X12_isHere N (w := 5) (by decide) ⟨hx, hb, hml, hown, hts⟩ mw_938 ⟨Nat.le_of_ble_eq_true rfl, Nat.le_of_ble_eq_true rfl⟩ h hK hP hD hS hl.1 (rest := []) (Nat.le_of_ble_eq_true rfl) ⟨Nat.le_of_ble_eq_true rfl, Nat.le_of_ble_eq_true rfl⟩ dX12_isOwnHere_60 (fun r11 τ12 H locs h hP hD hS => ?_)
            refine lv_if_ne (tgt := 110) hx hb dX12_isOwnHere_63 (by decide) (fun hc => ?_) (fun hc => ?_)
            · have h := h.2 hc
              exact t_X12_isOwnHere_110 C0 hK N  τ12 _ _ _ h hP hD hS (lv_sub hl [0] rfl)
            · have h := h.1 hc
              refine lv_aload_n hx hb dX12_isOwnHere_66 rfl (lv_at hl 0 rfl) ?_
              refine lv_aload_n hx hb dX12_isOwnHere_67 rfl (lv_at hl 0 rfl) ?_
              refine mg_0_15 hx hb hts hown hK hP mw_848 dX12_isOwnHere_68 ?_
              refine k_X12_isHere N (w := 6) (by decide) ⟨hx, hb, hml, hown, hts⟩ mw_938 ⟨Nat.le_of_ble_eq_true rfl, Nat.le_of_ble_eq_true rfl⟩ h hK hP hD hS hl.1 (rest := []) (Nat.le_of_ble_eq_true rfl) ⟨Nat.le_of_ble_eq_true rfl, Nat.le_of_ble_eq_true rfl⟩ dX12_isOwnHere_71 (fun r13 τ14 H locs h hP hD hS => ?_)
              refine lv_if_ne (tgt := 110) hx hb dX12_isOwnHere_74 (by decide) (fun hc => ?_) (fun hc => ?_)
              · have h := h.2 hc
                exact t_X12_isOwnHere_110 C0 hK N  τ14 _ _ _ h hP hD hS (lv_sub hl [0] rfl)
              · have h := h.1 hc
                refine lv_aload_n hx hb dX12_isOwnHere_77 rfl (lv_at hl 0 rfl) ?_
                refine lv_aload_n hx hb dX12_isOwnHere_78 rfl (lv_at hl 0 rfl) ?_
                refine mg_0_16 hx hb hts hown hK hP mw_849 dX12_isOwnHere_79 ?_
                refine k_X12_isHere N (w := 7) (by decide) ⟨hx, hb, hml, hown, hts⟩ mw_938 ⟨Nat.le_of_ble_eq_true rfl, Nat.le_of_ble_eq_true rfl⟩ h hK hP hD hS hl.1 (rest := []) (Nat.le_of_ble_eq_true rfl) ⟨Nat.le_of_ble_eq_true rfl, Nat.le_of_ble_eq_true rfl⟩ dX12_isOwnHere_82 (fun r15 τ16 H locs h hP hD hS => ?_)
                refine lv_if_ne (tgt := 110) hx hb dX12_isOwnHere_85 (by decide) (fun hc => ?_) (fun hc => ?_)
                · have h := h.2 hc
                  exact t_X12_isOwnHere_110 C0 hK N  τ16 _ _ _ h hP hD hS (lv_sub hl [0] rfl)
                · have h := h.1 hc
                  refine lv_aload_n hx hb dX12_isOwnHere_88 rfl (lv_at hl 0 rfl) ?_
                  refine lv_aload_n hx hb dX12_isOwnHere_89 rfl (lv_at hl 0 rfl) ?_
                  refine mg_0_17 hx hb hts hown hK hP mw_850 dX12_isOwnHere_90 ?_
                  refine k_X12_isHere N (w := 8) (by decide) ⟨hx, hb, hml, hown, hts⟩ mw_938 ⟨Nat.le_of_ble_eq_true rfl, Nat.le_of_ble_eq_true rfl⟩ h hK hP hD hS hl.1 (rest := []) (Nat.le_of_ble_eq_true rfl) ⟨Nat.le_of_ble_eq_true rfl, Nat.le_of_ble_eq_true rfl⟩ dX12_isOwnHere_93 (fun r17 τ18 H locs h hP hD hS => ?_)
                  refine lv_if_ne (tgt := 110) hx hb dX12_isOwnHere_96 (by decide) (fun hc => ?_) (fun hc => ?_)
                  · have h := h.2 hc
                    exact t_X12_isOwnHere_110 C0 hK N  τ18 _ _ _ h hP hD hS (lv_sub hl [0] rfl)
                  · have h := h.1 hc
                    refine lv_aload_n hx hb dX12_isOwnHere_99 rfl (lv_at hl 0 rfl) ?_
                    refine lv_aload_n hx hb dX12_isOwnHere_100 rfl (lv_at hl 0 rfl) ?_
                    refine mg_0_18 hx hb hts hown hK hP mw_851 dX12_isOwnHere_101 ?_
                    refine k_X12_isHere N (w := 9) (by decide) ⟨hx, hb, hml, hown, hts⟩ mw_938 ⟨Nat.le_of_ble_eq_true rfl, Nat.le_of_ble_eq_true rfl⟩ h hK hP hD hS hl.1 (rest := []) (Nat.le_of_ble_eq_true rfl) ⟨Nat.le_of_ble_eq_true rfl, Nat.le_of_ble_eq_true rfl⟩ dX12_isOwnHere_104 (fun r19 τ20 H locs h hP hD hS => ?_)
                    refine lv_if_eq (tgt := 114) hx hb dX12_isOwnHere_107 (by decide) (fun hc => ?_) (fun hc => ?_)
                    · have h := h.1 hc
                      refine lv_iconst (v := (0 : Int32)) hx hb dX12_isOwnHere_114 (by decide) ?_
                      exact t_X12_isOwnHere_115 C0 hK N  (0 : Int32) τ20 _ _ _ h hP hD hS (lv_sub hl [0] rfl)
                    · have h := h.2 hc
                      exact t_X12_isOwnHere_110 C0 hK N  τ20 _ _ _ h hP hD hS (lv_sub hl [0] rfl)
set_option maxHeartbeats 4000000 in
set_option maxRecDepth 100000 in
theorem c_X12_isOwnHere (N : Nat) (l : Launch) (dC : Nat → ClassId) (dI : Nat → Nat → Nat) (ad : Nat → Nat) (cI cJ cC : ClassId) (sz : Nat) (σ : zSt)  (Q : Int32 → zSt → Prop) (h : w_X12_isOwnHere N  σ Q) : Met l yX12_isOwnHere vs_X12_isOwnHere rm_X12_isOwnHere (va_Pc [.ref (ad 0)] (zPc (dC, dI) (m_ty cI cJ cC) (m_W ad cI cJ cC) sz σ)) (zQi (dC, dI) (m_ty cI cJ cC) (m_W ad cI cJ cC) (zAW m_n ad sz) Q) 0 0 (zAW m_n ad sz) := by
  refine Met.ofW (cc := cX12_isOwnHere) (maxL := 2) (ret := (some .boolean)) (by decide) rfl ?_
  intro p e s m args below meth c s₁ B hml hv
  obtain ⟨rfl, hsz, hP, hK, hD0⟩ := hv
  subst hsz
  have C0 : zCx p s m meth c _ RX12 cX12_isOwnHere 2 (some .boolean) vs_X12_isOwnHere := ⟨B.exec, B.bytes, hml, B.returns, findClass_of_methodNamed B.named, atoms_spec (ws := vs_X12_isOwnHere) B.pre, B.notSynchronized⟩
  have hD := m_D0 (n0 := s.heap.size) hD0
  have hl := lv_entry ([.ref (ad 0)]) (n := 2) (Nat.le_of_ble_eq_true rfl)
  rw [lg_entry_eq]
  generalize (lg_sl ([.ref (ad 0)]) ++ List.replicate (2 - (lg_sl ([.ref (ad 0)])).length) Slot.unset).toArray = ls at hl ⊢
  exact t_X12_isOwnHere_0 C0 hK N  σ _ _ ls h hP hD va_S.rf hl
theorem k_X12_isOwnHere (N : Nat) {R : Room} {H : Heap} {locs : List Loc} {cells slots : Nat} {Q2 : State → Prop} {cc : ByteArray} {nL pc index : Nat} {ls : Array Slot} {rest : List Value} {own : String} {c0 : Cond} {σ : zSt}  {Q : Int32 → zSt → Prop} (S0 : CallFix p m c cc nL s args (c0 :: zT) own) (hml : Cond.methodLink own index yX12_isOwnHere ∈ zT) (hR : rm_X12_isOwnHere.frames + 1 ≤ R.frames ∧ 8 + (2 + 11) + rm_X12_isOwnHere.locals ≤ R.locals) (h : w_X12_isOwnHere N  σ Q) (hK : va_K (dC, dI) vwCl (m_ty cI cJ cC) s) (hP : va_P (dC, dI) vwCl (m_W ad cI cJ cC σ) H) (hD : va_D (zAW m_n ad s.heap.size) (m_W ad cI cJ cC σ)) (hS : va_S (zAW m_n ad s.heap.size) s.heap H locs) (hsz : ls.size = nL) (hW : (rest.map fun v => v.category).sum ≤ 8) (hcs : cells ≤ R.cells ∧ slots ≤ R.slots) (hdg : decode cc pc = .ok (.invokevirtual index, 3)) (kk : ∀ (r : Int32) (τ : zSt) (H1 : Heap) (locs1 : List Loc), Q r τ → va_P (dC, dI) vwCl (m_W ad cI cJ cC τ) H1 → va_D (zAW m_n ad s.heap.size) (m_W ad cI cJ cC τ) → va_S (zAW m_n ad s.heap.size) s.heap H1 locs1 → W p l e R s m args below meth c H1 locs1 cells slots Q2 (F0 m (pc + 3) ls (.int r :: rest))) : W p l e R s m args below meth c H locs cells slots Q2 (F0 m pc ls (.ref (ad 0) :: rest)) :=
  zcv_i (T := TX12) (N' := 83) (k := 0) (ci := 12) (fs := m_f0 ad σ) [] S0 (c_X12_isOwnHere N l dC dI ad cI cJ cC H.size σ  Q h) (cw_X12_isOwnHere S0.2.2.2.2 hml rfl rfl hR) rfl rfl hK hP hD hS rfl hsz hW rfl hcs hdg kk
end q16
section q16
def b_X12_name_37 (N : Nat) (Q : Int64 → zSt → Prop)  (σ : zSt) : Prop :=
  w_X12_fail N (1 : Int32) (σ.1 1) σ (fun τ2 => Q (0 : Int64) τ2)
def b_X12_name_58 (N : Nat) (k_58 : Int64 → zSt → Prop) (Q : Int64 → zSt → Prop) (x1 : Int64) (σ : zSt) : Prop :=
  ((σ.1 2) ≤ (σ.1 1) → ∀ τ1 : zSt, τ1 = zI σ 3 (σ.1 1) → Q x1 τ1) ∧ (¬ (σ.1 2) ≤ (σ.1 1) → (vp_in (σ.1 1) 800) ∧ (w_X12_isLetter N (σ.2.2.1 0 (σ.1 1).toNatClampNeg) σ (fun r2 τ3 => (r2 = 0 → ∀ τ4 : zSt, τ4 = zI τ3 3 (τ3.1 1) → Q x1 τ4) ∧ (¬ r2 = 0 → (((τ3.1 1) - (τ3.1 8)) = (6 : Int32) → w_X12_fail N (1 : Int32) (τ3.1 1) τ3 (fun τ8 => Q (0 : Int64) τ8)) ∧ (¬ ((τ3.1 1) - (τ3.1 8)) = (6 : Int32) → (vp_in (τ3.1 1) 800) ∧ (∀ v5 : Int64, v5 = ((((27 : Int64) * x1) + (τ3.2.2.1 0 (τ3.1 1).toNatClampNeg).toInt64) - (97 : Int64)) + (1 : Int64) → ∀ τ6 : zSt, τ6 = zI τ3 1 ((τ3.1 1) + (1 : Int32)) → k_58 v5 τ6))))))
def w_X12_name_58 (N : Nat) (Q : Int64 → zSt → Prop) : Nat → Int64 → zSt → Prop
  | 0 => fun _ _ => False
  | f + 1 => b_X12_name_58 N (w_X12_name_58 N  Q f) Q
def w_X12_name (N : Nat)  (σ : zSt) (Q : Int64 → zSt → Prop) : Prop :=
  ((σ.1 4) = 0 → w_X12_look N σ (fun r1 τ2 => w_X12_isLetter N r1 τ2 (fun r3 τ4 => (r3 = 0 → b_X12_name_37 N Q τ4) ∧ (¬ r3 = 0 → ((τ4.1 1) = (τ4.1 3) → b_X12_name_37 N Q τ4) ∧ (¬ (τ4.1 1) = (τ4.1 3) → w_X12_isOwnHere N τ4 (fun r5 τ6 => (r5 = 0 → ∀ τ7 : zSt, τ7 = zI τ6 8 (τ6.1 1) → w_X12_name_58 N Q N (0 : Int64) τ7) ∧ (¬ r5 = 0 → b_X12_name_37 N Q τ6))))))) ∧ (¬ (σ.1 4) = 0 → Q (0 : Int64) σ)
variable {p : Program} {l : Launch} {e : Env} {s : State} {m : MethodId} {args : Array Value} {below : List Frame} {meth : Method} {c : Code} {dC : Nat → ClassId} {dI : Nat → Nat → Nat} {ad : Nat → Nat} {cI cJ cC : ClassId}
set_option maxHeartbeats 4000000 in
set_option maxRecDepth 100000 in
theorem t_X12_name_37 (C0 : zCx p s m meth c args RX12 cX12_name 3 (some .long) vs_X12_name) (hK : va_K (dC, dI) vwCl (m_ty cI cJ cC) s) (N : Nat) {Q : Int64 → zSt → Prop} : ∀  (σ : zSt) (H : Heap) (locs : List Loc) (ls : Array Slot), b_X12_name_37 N  Q  σ → va_P (dC, dI) vwCl (m_W ad cI cJ cC σ) H → va_D (zAW m_n ad s.heap.size) (m_W ad cI cJ cC σ) → va_S (zAW m_n ad s.heap.size) s.heap H locs → lv_has ls 3 [(0, .ref (ad 0))] → W p l e rm_X12_name s m args below meth c H locs 0 0 (MQ below (zQl (dC, dI) (m_ty cI cJ cC) (m_W ad cI cJ cC) (zAW m_n ad s.heap.size) Q) args s 0 0 (zAW m_n ad s.heap.size)) (F0 m 37 ls []) := by
  obtain ⟨hx, hb, hml, hr, hown, hts, hlocks⟩ := id C0
  intro  σ H locs ls h hP hD hS hl
  unfold b_X12_name_37 at h
  refine lv_aload_n hx hb dX12_name_37 rfl (lv_at hl 0 rfl) ?_
  refine lv_iconst (v := (1 : Int32)) hx hb dX12_name_38 (by decide) ?_
  refine lv_aload_n hx hb dX12_name_39 rfl (lv_at hl 0 rfl) ?_
  refine mg_0_2 hx hb hts hown hK hP mw_835 dX12_name_40 ?_
  refine k_X12_fail N ⟨hx, hb, hml, hown, hts⟩ mw_944 ⟨Nat.le_of_ble_eq_true rfl, Nat.le_of_ble_eq_true rfl⟩ h hK hP hD hS hl.1 (rest := []) (Nat.le_of_ble_eq_true rfl) ⟨Nat.le_of_ble_eq_true rfl, Nat.le_of_ble_eq_true rfl⟩ dX12_name_43 (fun τ2 H locs h hP hD hS => ?_)
  refine lv_lconst (v := (0 : Int64)) hx hb dX12_name_46 (by decide) ?_
  exact zret_l hx hb hr hlocks hK hP hD hS h dX12_name_47
set_option maxHeartbeats 4000000 in
set_option maxRecDepth 100000 in
theorem tb_X12_name_58 (C0 : zCx p s m meth c args RX12 cX12_name 3 (some .long) vs_X12_name) (hK : va_K (dC, dI) vwCl (m_ty cI cJ cC) s) (N : Nat) {Q : Int64 → zSt → Prop} {k_58 : Int64 → zSt → Prop} (hk_58 : ∀ (x1 : Int64) (σ : zSt) (H : Heap) (locs : List Loc) (ls : Array Slot), k_58 x1 σ → va_P (dC, dI) vwCl (m_W ad cI cJ cC σ) H → va_D (zAW m_n ad s.heap.size) (m_W ad cI cJ cC σ) → va_S (zAW m_n ad s.heap.size) s.heap H locs → lv_has ls 3 [(0, .ref (ad 0)), (1, .long x1)] → W p l e rm_X12_name s m args below meth c H locs 0 0 (MQ below (zQl (dC, dI) (m_ty cI cJ cC) (m_W ad cI cJ cC) (zAW m_n ad s.heap.size) Q) args s 0 0 (zAW m_n ad s.heap.size)) (F0 m 58 ls [])) : ∀ (x1 : Int64) (σ : zSt) (H : Heap) (locs : List Loc) (ls : Array Slot), b_X12_name_58 N k_58 Q x1 σ → va_P (dC, dI) vwCl (m_W ad cI cJ cC σ) H → va_D (zAW m_n ad s.heap.size) (m_W ad cI cJ cC σ) → va_S (zAW m_n ad s.heap.size) s.heap H locs → lv_has ls 3 [(0, .ref (ad 0)), (1, .long x1)] → W p l e rm_X12_name s m args below meth c H locs 0 0 (MQ below (zQl (dC, dI) (m_ty cI cJ cC) (m_W ad cI cJ cC) (zAW m_n ad s.heap.size) Q) args s 0 0 (zAW m_n ad s.heap.size)) (F0 m 58 ls []) := by
  obtain ⟨hx, hb, hml, hr, hown, hts, hlocks⟩ := id C0
  intro x1 σ H locs ls h hP hD hS hl
  unfold b_X12_name_58 at h
  refine lv_aload_n hx hb dX12_name_58 rfl (lv_at hl 0 rfl) ?_
  refine mg_0_2 hx hb hts hown hK hP mw_835 dX12_name_59 ?_
  refine lv_aload_n hx hb dX12_name_62 rfl (lv_at hl 0 rfl) ?_
  refine mg_0_3 hx hb hts hown hK hP mw_836 dX12_name_63 ?_
  refine lv_icmp_ge (tgt := 145) hx hb dX12_name_66 (by decide) (fun hc => ?_) (fun hc => ?_)
  · have h := h.1 hc
    refine lv_aload_n hx hb dX12_name_145 rfl (lv_at hl 0 rfl) ?_
    refine lv_aload_n hx hb dX12_name_146 rfl (lv_at hl 0 rfl) ?_
    refine mg_0_2 hx hb hts hown hK hP mw_835 dX12_name_147 ?_
    refine mp_0_4 hx hb hts hown hK hP hD hS mw_837 dX12_name_150 (fun τ1 H locs eτ1 hP hD hS => ?_)
    have h := h τ1 eτ1
    refine lv_lload_n hx hb dX12_name_153 rfl (lv_at hl 1 rfl) ?_
    exact zret_l hx hb hr hlocks hK hP hD hS h dX12_name_154
  · have h := h.2 hc
    refine lv_aload_n hx hb dX12_name_69 rfl (lv_at hl 0 rfl) ?_
    refine mg_0_0 hx hb hts hown hK hP mw_833 dX12_name_70 ?_
    refine lv_aload_n hx hb dX12_name_73 rfl (lv_at hl 0 rfl) ?_
    refine mg_0_2 hx hb hts hown hK hP mw_835 dX12_name_74 ?_
    refine ma_1 hx hb hK hP h.1 rfl dX12_name_77 ?_
    have h := h.2
    refine k_X12_isLetter N ⟨hx, hb, hml, hown, hts⟩ mw_941 ⟨Nat.le_of_ble_eq_true rfl, Nat.le_of_ble_eq_true rfl⟩ h hK hP hD hS hl.1 (rest := []) (Nat.le_of_ble_eq_true rfl) ⟨Nat.le_of_ble_eq_true rfl, Nat.le_of_ble_eq_true rfl⟩ dX12_name_78 (fun r2 τ3 H locs h hP hD hS => ?_)
    refine lv_if_eq (tgt := 145) hx hb dX12_name_81 (by decide) (fun hc => ?_) (fun hc => ?_)
    · have h := h.1 hc
      refine lv_aload_n hx hb dX12_name_145 rfl (lv_at hl 0 rfl) ?_
      refine lv_aload_n hx hb dX12_name_146 rfl (lv_at hl 0 rfl) ?_
      refine mg_0_2 hx hb hts hown hK hP mw_835 dX12_name_147 ?_
      refine mp_0_4 hx hb hts hown hK hP hD hS mw_837 dX12_name_150 (fun τ4 H locs eτ4 hP hD hS => ?_)
      have h := h τ4 eτ4
      refine lv_lload_n hx hb dX12_name_153 rfl (lv_at hl 1 rfl) ?_
      exact zret_l hx hb hr hlocks hK hP hD hS h dX12_name_154
    · have h := h.2 hc
      refine lv_aload_n hx hb dX12_name_84 rfl (lv_at hl 0 rfl) ?_
      refine mg_0_2 hx hb hts hown hK hP mw_835 dX12_name_85 ?_
      refine lv_aload_n hx hb dX12_name_88 rfl (lv_at hl 0 rfl) ?_
      refine mg_0_28 hx hb hts hown hK hP mw_861 dX12_name_89 ?_
      refine lv_isub hx hb dX12_name_92 ?_
      refine lv_bipush (v := (6 : Int32)) hx hb dX12_name_93 (by decide) ?_
      refine lv_icmp_ne (tgt := 109) hx hb dX12_name_95 (by decide) (fun hc => ?_) (fun hc => ?_)
      · have h := h.2 hc
        refine lv_ldc2 (v := (27 : Int64)) hx hb hown (hts _ (List.mem_cons_of_mem _ mw_956)) dX12_name_109 ?_
        refine lv_lload_n hx hb dX12_name_112 rfl (lv_at hl 1 rfl) ?_
        refine lv_lmul hx hb dX12_name_113 ?_
        refine lv_aload_n hx hb dX12_name_114 rfl (lv_at hl 0 rfl) ?_
        refine mg_0_0 hx hb hts hown hK hP mw_833 dX12_name_115 ?_
        refine lv_aload_n hx hb dX12_name_118 rfl (lv_at hl 0 rfl) ?_
        refine mg_0_2 hx hb hts hown hK hP mw_835 dX12_name_119 ?_
        refine ma_1 hx hb hK hP h.1 rfl dX12_name_122 ?_
        have h := h.2
        refine lv_i2l hx hb dX12_name_123 rfl ?_
        refine lv_ladd hx hb dX12_name_124 ?_
        refine lv_ldc2 (v := (97 : Int64)) hx hb hown (hts _ (List.mem_cons_of_mem _ mw_957)) dX12_name_125 ?_
        refine lv_lsub hx hb dX12_name_128 ?_
        refine lv_lconst (v := (1 : Int64)) hx hb dX12_name_129 (by decide) ?_
        refine lv_ladd hx hb dX12_name_130 ?_
        refine lv_topl (fun v5 ev5 => ?_)
        have h := h v5 ev5
        refine lv_lstore_n (lv' := [(1, .long v5), (0, .ref (ad 0))]) hx hb dX12_name_131 rfl hl (by decide) rfl (fun ls hl => ?_)
        refine lv_aload_n hx hb dX12_name_132 rfl (lv_at hl 1 rfl) ?_
        refine lv_dup hx hb dX12_name_133 rfl ?_
        refine mg_0_2 hx hb hts hown hK hP mw_835 dX12_name_134 ?_
        refine lv_iconst (v := (1 : Int32)) hx hb dX12_name_137 (by decide) ?_
        refine lv_iadd hx hb dX12_name_138 ?_
        refine mp_0_2 hx hb hts hown hK hP hD hS mw_835 dX12_name_139 (fun τ6 H locs eτ6 hP hD hS => ?_)
        have h := h τ6 eτ6
        refine lv_goto (tgt := 58) hx hb dX12_name_142 (by decide) ?_
        exact hk_58 v5 τ6 _ _ _ h hP hD hS (lv_sub hl [1, 0] rfl)
      · have h := h.1 hc
        refine lv_aload_n hx hb dX12_name_98 rfl (lv_at hl 0 rfl) ?_
        refine lv_iconst (v := (1 : Int32)) hx hb dX12_name_99 (by decide) ?_
        refine lv_aload_n hx hb dX12_name_100 rfl (lv_at hl 0 rfl) ?_
        refine mg_0_2 hx hb hts hown hK hP mw_835 dX12_name_101 ?_
        refine k_X12_fail N ⟨hx, hb, hml, hown, hts⟩ mw_944 ⟨Nat.le_of_ble_eq_true rfl, Nat.le_of_ble_eq_true rfl⟩ h hK hP hD hS hl.1 (rest := []) (Nat.le_of_ble_eq_true rfl) ⟨Nat.le_of_ble_eq_true rfl, Nat.le_of_ble_eq_true rfl⟩ dX12_name_104 (fun τ8 H locs h hP hD hS => ?_)
        refine lv_lconst (v := (0 : Int64)) hx hb dX12_name_107 (by decide) ?_
        exact zret_l hx hb hr hlocks hK hP hD hS h dX12_name_108
set_option maxHeartbeats 4000000 in
set_option maxRecDepth 100000 in
theorem t_X12_name_58 (C0 : zCx p s m meth c args RX12 cX12_name 3 (some .long) vs_X12_name) (hK : va_K (dC, dI) vwCl (m_ty cI cJ cC) s) (N : Nat) {Q : Int64 → zSt → Prop} : ∀ (f : Nat) (x1 : Int64) (σ : zSt) (H : Heap) (locs : List Loc) (ls : Array Slot), w_X12_name_58 N  Q f x1 σ → va_P (dC, dI) vwCl (m_W ad cI cJ cC σ) H → va_D (zAW m_n ad s.heap.size) (m_W ad cI cJ cC σ) → va_S (zAW m_n ad s.heap.size) s.heap H locs → lv_has ls 3 [(0, .ref (ad 0)), (1, .long x1)] → W p l e rm_X12_name s m args below meth c H locs 0 0 (MQ below (zQl (dC, dI) (m_ty cI cJ cC) (m_W ad cI cJ cC) (zAW m_n ad s.heap.size) Q) args s 0 0 (zAW m_n ad s.heap.size)) (F0 m 58 ls []) := by
  intro f
  induction f with
  | zero => intro x1 σ H locs ls h; exact h.elim
  | succ f ih =>
    intro x1 σ H locs ls h hP hD hS hl
    exact tb_X12_name_58 C0 hK N  (k_58 := w_X12_name_58 N  Q f) ih x1 σ H locs ls h hP hD hS hl
set_option maxHeartbeats 4000000 in
set_option maxRecDepth 100000 in
theorem t_X12_name_0 (C0 : zCx p s m meth c args RX12 cX12_name 3 (some .long) vs_X12_name) (hK : va_K (dC, dI) vwCl (m_ty cI cJ cC) s) (N : Nat) {Q : Int64 → zSt → Prop} : ∀  (σ : zSt) (H : Heap) (locs : List Loc) (ls : Array Slot), w_X12_name N  σ Q → va_P (dC, dI) vwCl (m_W ad cI cJ cC σ) H → va_D (zAW m_n ad s.heap.size) (m_W ad cI cJ cC σ) → va_S (zAW m_n ad s.heap.size) s.heap H locs → lv_has ls 3 [(0, .ref (ad 0))] → W p l e rm_X12_name s m args below meth c H locs 0 0 (MQ below (zQl (dC, dI) (m_ty cI cJ cC) (m_W ad cI cJ cC) (zAW m_n ad s.heap.size) Q) args s 0 0 (zAW m_n ad s.heap.size)) (F0 m 0 ls []) := by
  obtain ⟨hx, hb, hml, hr, hown, hts, hlocks⟩ := id C0
  intro  σ H locs ls h hP hD hS hl
  unfold w_X12_name at h
  refine lv_aload_n hx hb dX12_name_0 rfl (lv_at hl 0 rfl) ?_
  refine mg_0_5 hx hb hts hown hK hP mw_838 dX12_name_1 ?_
  refine lv_if_eq (tgt := 9) hx hb dX12_name_4 (by decide) (fun hc => ?_) (fun hc => ?_)
  · have h := h.1 hc
    refine lv_aload_n hx hb dX12_name_9 rfl (lv_at hl 0 rfl) ?_
    refine k_X12_look N ⟨hx, hb, hml, hown, hts⟩ mw_929 ⟨Nat.le_of_ble_eq_true rfl, Nat.le_of_ble_eq_true rfl⟩ h hK hP hD hS hl.1 (rest := []) (Nat.le_of_ble_eq_true rfl) ⟨Nat.le_of_ble_eq_true rfl, Nat.le_of_ble_eq_true rfl⟩ dX12_name_10 (fun r1 τ2 H locs h hP hD hS => ?_)
    refine k_X12_isLetter N ⟨hx, hb, hml, hown, hts⟩ mw_941 ⟨Nat.le_of_ble_eq_true rfl, Nat.le_of_ble_eq_true rfl⟩ h hK hP hD hS hl.1 (rest := []) (Nat.le_of_ble_eq_true rfl) ⟨Nat.le_of_ble_eq_true rfl, Nat.le_of_ble_eq_true rfl⟩ dX12_name_13 (fun r3 τ4 H locs h hP hD hS => ?_)
    refine lv_if_eq (tgt := 37) hx hb dX12_name_16 (by decide) (fun hc => ?_) (fun hc => ?_)
    · have h := h.1 hc
      exact t_X12_name_37 C0 hK N  τ4 _ _ _ h hP hD hS (lv_sub hl [0] rfl)
    · have h := h.2 hc
      refine lv_aload_n hx hb dX12_name_19 rfl (lv_at hl 0 rfl) ?_
      refine mg_0_2 hx hb hts hown hK hP mw_835 dX12_name_20 ?_
      refine lv_aload_n hx hb dX12_name_23 rfl (lv_at hl 0 rfl) ?_
      refine mg_0_4 hx hb hts hown hK hP mw_837 dX12_name_24 ?_
      refine lv_icmp_eq (tgt := 37) hx hb dX12_name_27 (by decide) (fun hc => ?_) (fun hc => ?_)
      · have h := h.1 hc
        exact t_X12_name_37 C0 hK N  τ4 _ _ _ h hP hD hS (lv_sub hl [0] rfl)
      · have h := h.2 hc
        refine lv_aload_n hx hb dX12_name_30 rfl (lv_at hl 0 rfl) ?_
        refine k_X12_isOwnHere N ⟨hx, hb, hml, hown, hts⟩ mw_953 ⟨Nat.le_of_ble_eq_true rfl, Nat.le_of_ble_eq_true rfl⟩ h hK hP hD hS hl.1 (rest := []) (Nat.le_of_ble_eq_true rfl) ⟨Nat.le_of_ble_eq_true rfl, Nat.le_of_ble_eq_true rfl⟩ dX12_name_31 (fun r5 τ6 H locs h hP hD hS => ?_)
        refine lv_if_eq (tgt := 48) hx hb dX12_name_34 (by decide) (fun hc => ?_) (fun hc => ?_)
        · have h := h.1 hc
          refine lv_aload_n hx hb dX12_name_48 rfl (lv_at hl 0 rfl) ?_
          refine lv_aload_n hx hb dX12_name_49 rfl (lv_at hl 0 rfl) ?_
          refine mg_0_2 hx hb hts hown hK hP mw_835 dX12_name_50 ?_
          refine mp_0_28 hx hb hts hown hK hP hD hS mw_861 dX12_name_53 (fun τ7 H locs eτ7 hP hD hS => ?_)
          have h := h τ7 eτ7
          refine lv_lconst (v := (0 : Int64)) hx hb dX12_name_56 (by decide) ?_
          refine lv_lstore_n (lv' := [(1, .long (0 : Int64)), (0, .ref (ad 0))]) hx hb dX12_name_57 rfl hl (by decide) rfl (fun ls hl => ?_)
          exact t_X12_name_58 C0 hK N  N (0 : Int64) τ7 _ _ _ h hP hD hS (lv_sub hl [1, 0] rfl)
        · have h := h.2 hc
          exact t_X12_name_37 C0 hK N  τ6 _ _ _ h hP hD hS (lv_sub hl [0] rfl)
  · have h := h.2 hc
    refine lv_lconst (v := (0 : Int64)) hx hb dX12_name_7 (by decide) ?_
    exact zret_l hx hb hr hlocks hK hP hD hS h dX12_name_8
set_option maxHeartbeats 4000000 in
set_option maxRecDepth 100000 in
theorem c_X12_name (N : Nat) (l : Launch) (dC : Nat → ClassId) (dI : Nat → Nat → Nat) (ad : Nat → Nat) (cI cJ cC : ClassId) (sz : Nat) (σ : zSt)  (Q : Int64 → zSt → Prop) (h : w_X12_name N  σ Q) : Met l yX12_name vs_X12_name rm_X12_name (va_Pc [.ref (ad 0)] (zPc (dC, dI) (m_ty cI cJ cC) (m_W ad cI cJ cC) sz σ)) (zQl (dC, dI) (m_ty cI cJ cC) (m_W ad cI cJ cC) (zAW m_n ad sz) Q) 0 0 (zAW m_n ad sz) := by
  refine Met.ofW (cc := cX12_name) (maxL := 3) (ret := (some .long)) (by decide) rfl ?_
  intro p e s m args below meth c s₁ B hml hv
  obtain ⟨rfl, hsz, hP, hK, hD0⟩ := hv
  subst hsz
  have C0 : zCx p s m meth c _ RX12 cX12_name 3 (some .long) vs_X12_name := ⟨B.exec, B.bytes, hml, B.returns, findClass_of_methodNamed B.named, atoms_spec (ws := vs_X12_name) B.pre, B.notSynchronized⟩
  have hD := m_D0 (n0 := s.heap.size) hD0
  have hl := lv_entry ([.ref (ad 0)]) (n := 3) (Nat.le_of_ble_eq_true rfl)
  rw [lg_entry_eq]
  generalize (lg_sl ([.ref (ad 0)]) ++ List.replicate (3 - (lg_sl ([.ref (ad 0)])).length) Slot.unset).toArray = ls at hl ⊢
  exact t_X12_name_0 C0 hK N  σ _ _ ls h hP hD va_S.rf hl
theorem k_X12_name (N : Nat) {R : Room} {H : Heap} {locs : List Loc} {cells slots : Nat} {Q2 : State → Prop} {cc : ByteArray} {nL pc index : Nat} {ls : Array Slot} {rest : List Value} {own : String} {c0 : Cond} {σ : zSt}  {Q : Int64 → zSt → Prop} (S0 : CallFix p m c cc nL s args (c0 :: zT) own) (hml : Cond.methodLink own index yX12_name ∈ zT) (hR : rm_X12_name.frames + 1 ≤ R.frames ∧ 8 + (3 + 11) + rm_X12_name.locals ≤ R.locals) (h : w_X12_name N  σ Q) (hK : va_K (dC, dI) vwCl (m_ty cI cJ cC) s) (hP : va_P (dC, dI) vwCl (m_W ad cI cJ cC σ) H) (hD : va_D (zAW m_n ad s.heap.size) (m_W ad cI cJ cC σ)) (hS : va_S (zAW m_n ad s.heap.size) s.heap H locs) (hsz : ls.size = nL) (hW : (rest.map fun v => v.category).sum ≤ 8) (hcs : cells ≤ R.cells ∧ slots ≤ R.slots) (hdg : decode cc pc = .ok (.invokevirtual index, 3)) (kk : ∀ (r : Int64) (τ : zSt) (H1 : Heap) (locs1 : List Loc), Q r τ → va_P (dC, dI) vwCl (m_W ad cI cJ cC τ) H1 → va_D (zAW m_n ad s.heap.size) (m_W ad cI cJ cC τ) → va_S (zAW m_n ad s.heap.size) s.heap H1 locs1 → W p l e R s m args below meth c H1 locs1 cells slots Q2 (F0 m (pc + 3) ls (.long r :: rest))) : W p l e R s m args below meth c H locs cells slots Q2 (F0 m pc ls (.ref (ad 0) :: rest)) :=
  zcv_l (T := TX12) (N' := 83) (k := 0) (ci := 12) (fs := m_f0 ad σ) [] S0 (c_X12_name N l dC dI ad cI cJ cC H.size σ  Q h) (cw_X12_name S0.2.2.2.2 hml rfl rfl hR) rfl rfl hK hP hD hS rfl hsz hW rfl hcs hdg kk
end q16
