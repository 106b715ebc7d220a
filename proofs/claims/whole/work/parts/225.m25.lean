section q25
end q25
section q25
def b_X12_netOf_26 (N : Nat) (k_8 : Int32 → Int64 → Int32 → Int32 → zSt → Prop) (k_26 : Int32 → Int64 → Int32 → Int32 → Int32 → Int32 → zSt → Prop) (Q : Int64 → zSt → Prop) (x1 : Int32) (x2 : Int64) (x4 : Int32) (x5 : Int32) (x6 : Int32) (x7 : Int32) (σ : zSt) : Prop :=
  w_X12_many N σ (fun r1 τ2 => (r1 ≤ x7 → ∀ v3 : Int32, v3 = x4 ||| ((1 : Int32) <<< (x6 &&& 31)) → ∀ v4 : Int32, v4 = x5 + (1 : Int32) → k_8 x1 x2 v3 v4 τ2) ∧ (¬ r1 ≤ x7 → (((x4 >>> (x7 &&& 31)) &&& (1 : Int32)) = 0 → ∀ v16 : Int32, v16 = x7 + (1 : Int32) → k_26 x1 x2 x4 x5 x6 v16 τ2) ∧ (¬ ((x4 >>> (x7 &&& 31)) &&& (1 : Int32)) = 0 → w_X12_begins N x2 τ2 (fun τ6 => w_X12_pairOf N x6 x7 τ6 (fun r7 τ8 => w_X12_isAdd N x2 r7 τ8 (fun r9 τ10 => (r9 = 0 → ∀ v11 : Int32, v11 = x7 + (1 : Int32) → k_26 x1 x2 x4 x5 x6 v11 τ10) ∧ (¬ r9 = 0 → w_X12_tied N x6 x7 τ10 (fun r12 τ13 => ∀ v14 : Int64, v14 = x2 ||| r12 → ∀ v15 : Int32, v15 = x7 + (1 : Int32) → k_26 x1 v14 x4 x5 x6 v15 τ13))))))))
def w_X12_netOf_26 (N : Nat) (k_8 : Int32 → Int64 → Int32 → Int32 → zSt → Prop) (Q : Int64 → zSt → Prop) : Nat → Int32 → Int64 → Int32 → Int32 → Int32 → Int32 → zSt → Prop
  | 0 => fun _ _ _ _ _ _ _ => False
  | f + 1 => b_X12_netOf_26 N k_8 (w_X12_netOf_26 N k_8 Q f) Q
def b_X12_netOf_8 (N : Nat) (k_8 : Int32 → Int64 → Int32 → Int32 → zSt → Prop) (Q : Int64 → zSt → Prop) (x1 : Int32) (x2 : Int64) (x4 : Int32) (x5 : Int32) (σ : zSt) : Prop :=
  (x1 ≤ x5 → Q x2 σ) ∧ (¬ x1 ≤ x5 → (vp_in x5 5) ∧ (∀ v1 : Int32, v1 = σ.2.2.1 15 x5.toNatClampNeg → w_X12_netOf_26 N k_8 Q N x1 x2 x4 x5 v1 (0 : Int32) σ))
def w_X12_netOf_8 (N : Nat) (Q : Int64 → zSt → Prop) : Nat → Int32 → Int64 → Int32 → Int32 → zSt → Prop
  | 0 => fun _ _ _ _ _ => False
  | f + 1 => b_X12_netOf_8 N (w_X12_netOf_8 N  Q f) Q
def w_X12_netOf (N : Nat) (x1 : Int32) (σ : zSt) (Q : Int64 → zSt → Prop) : Prop :=
  w_X12_netOf_8 N Q N x1 (0 : Int64) (0 : Int32) (0 : Int32) σ
variable {p : Program} {l : Launch} {e : Env} {s : State} {m : MethodId} {args : Array Value} {below : List Frame} {meth : Method} {c : Code} {dC : Nat → ClassId} {dI : Nat → Nat → Nat} {ad : Nat → Nat} {cI cJ cC : ClassId}
set_option maxHeartbeats 4000000 in
set_option maxRecDepth 100000 in
theorem tb_X12_netOf_26 (C0 : zCx p s m meth c args RX12 cX12_netOf 8 (some .long) vs_X12_netOf) (hK : va_K (dC, dI) vwCl (m_ty cI cJ cC) s) (N : Nat) {Q : Int64 → zSt → Prop} {k_8 : Int32 → Int64 → Int32 → Int32 → zSt → Prop} (hk_8 : ∀ (x1 : Int32) (x2 : Int64) (x4 : Int32) (x5 : Int32) (σ : zSt) (H : Heap) (locs : List Loc) (ls : Array Slot), k_8 x1 x2 x4 x5 σ → va_P (dC, dI) vwCl (m_W ad cI cJ cC σ) H → va_D (zAW m_n ad s.heap.size) (m_W ad cI cJ cC σ) → va_S (zAW m_n ad s.heap.size) s.heap H locs → lv_has ls 8 [(0, .ref (ad 0)), (1, .int x1), (2, .long x2), (4, .int x4), (5, .int x5)] → W p l e rm_X12_netOf s m args below meth c H locs 0 0 (MQ below (zQl (dC, dI) (m_ty cI cJ cC) (m_W ad cI cJ cC) (zAW m_n ad s.heap.size) Q) args s 0 0 (zAW m_n ad s.heap.size)) (F0 m 8 ls [])) {k_26 : Int32 → Int64 → Int32 → Int32 → Int32 → Int32 → zSt → Prop} (hk_26 : ∀ (x1 : Int32) (x2 : Int64) (x4 : Int32) (x5 : Int32) (x6 : Int32) (x7 : Int32) (σ : zSt) (H : Heap) (locs : List Loc) (ls : Array Slot), k_26 x1 x2 x4 x5 x6 x7 σ → va_P (dC, dI) vwCl (m_W ad cI cJ cC σ) H → va_D (zAW m_n ad s.heap.size) (m_W ad cI cJ cC σ) → va_S (zAW m_n ad s.heap.size) s.heap H locs → lv_has ls 8 [(0, .ref (ad 0)), (1, .int x1), (2, .long x2), (4, .int x4), (5, .int x5), (6, .int x6), (7, .int x7)] → W p l e rm_X12_netOf s m args below meth c H locs 0 0 (MQ below (zQl (dC, dI) (m_ty cI cJ cC) (m_W ad cI cJ cC) (zAW m_n ad s.heap.size) Q) args s 0 0 (zAW m_n ad s.heap.size)) (F0 m 26 ls [])) : ∀ (x1 : Int32) (x2 : Int64) (x4 : Int32) (x5 : Int32) (x6 : Int32) (x7 : Int32) (σ : zSt) (H : Heap) (locs : List Loc) (ls : Array Slot), b_X12_netOf_26 N k_8 k_26 Q x1 x2 x4 x5 x6 x7 σ → va_P (dC, dI) vwCl (m_W ad cI cJ cC σ) H → va_D (zAW m_n ad s.heap.size) (m_W ad cI cJ cC σ) → va_S (zAW m_n ad s.heap.size) s.heap H locs → lv_has ls 8 [(0, .ref (ad 0)), (1, .int x1), (2, .long x2), (4, .int x4), (5, .int x5), (6, .int x6), (7, .int x7)] → W p l e rm_X12_netOf s m args below meth c H locs 0 0 (MQ below (zQl (dC, dI) (m_ty cI cJ cC) (m_W ad cI cJ cC) (zAW m_n ad s.heap.size) Q) args s 0 0 (zAW m_n ad s.heap.size)) (F0 m 26 ls []) := by
  obtain ⟨hx, hb, hml, hr, hown, hts, hlocks⟩ := id C0
  intro x1 x2 x4 x5 x6 x7 σ H locs ls h hP hD hS hl
  unfold b_X12_netOf_26 at h
  refine lv_iload hx hb dX12_netOf_26 (lv_at hl 6 rfl) ?_
  refine lv_aload_n hx hb dX12_netOf_28 rfl (lv_at hl 0 rfl) ?_
  refine k_X12_many N ⟨hx, hb, hml, hown, hts⟩ mw_1044 ⟨Nat.le_of_ble_eq_true rfl, Nat.le_of_ble_eq_true rfl⟩ h hK hP hD hS hl.1 (rest := [.int x7]) (Nat.le_of_ble_eq_true rfl) ⟨Nat.le_of_ble_eq_true rfl, Nat.le_of_ble_eq_true rfl⟩ dX12_netOf_29 (fun r1 τ2 H locs h hP hD hS => ?_)
  refine lv_icmp_ge (tgt := 85) hx hb dX12_netOf_32 (by decide) (fun hc => ?_) (fun hc => ?_)
  · have h := h.1 hc
    refine lv_iload hx hb dX12_netOf_85 (lv_at hl 3 rfl) ?_
    refine lv_iconst (v := (1 : Int32)) hx hb dX12_netOf_87 (by decide) ?_
    refine lv_iload hx hb dX12_netOf_88 (lv_at hl 5 rfl) ?_
    refine lv_ishl hx hb dX12_netOf_90 ?_
    refine lv_ior hx hb dX12_netOf_91 ?_
    refine lv_topi (fun v3 ev3 => ?_)
    have h := h v3 ev3
    refine lv_istore (lv' := [(4, .int v3), (0, .ref (ad 0)), (1, .int x1), (2, .long x2), (5, .int x5), (6, .int x6), (7, .int x7)]) hx hb dX12_netOf_92 hl (by decide) rfl (fun ls hl => ?_)
    obtain ⟨v4, ev4⟩ : ∃ z : Int32, z = x5 + (1 : Int32) := ⟨_, rfl⟩
    have h := h v4 ev4
    refine lv_iinc (v := v4) (lv' := [(5, .int v4), (4, .int v3), (0, .ref (ad 0)), (1, .int x1), (2, .long x2), (6, .int x6), (7, .int x7)]) hx hb dX12_netOf_94 hl (k := 4) rfl (by rw [ev4]; rfl) (by decide) rfl (fun ls hl => ?_)
    refine lv_goto (tgt := 8) hx hb dX12_netOf_97 (by decide) ?_
    exact hk_8 x1 x2 v3 v4 τ2 _ _ _ h hP hD hS (lv_sub hl [2, 3, 4, 1, 0] rfl)
  · have h := h.2 hc
    refine lv_iload hx hb dX12_netOf_35 (lv_at hl 3 rfl) ?_
    refine lv_iload hx hb dX12_netOf_37 (lv_at hl 6 rfl) ?_
    refine lv_ishr hx hb dX12_netOf_39 ?_
    refine lv_iconst (v := (1 : Int32)) hx hb dX12_netOf_40 (by decide) ?_
    refine lv_iand hx hb dX12_netOf_41 ?_
    refine lv_if_ne (tgt := 48) hx hb dX12_netOf_42 (by decide) (fun hc => ?_) (fun hc => ?_)
    · have h := h.2 hc
      refine lv_aload_n hx hb dX12_netOf_48 rfl (lv_at hl 0 rfl) ?_
      refine lv_lload_n hx hb dX12_netOf_49 rfl (lv_at hl 2 rfl) ?_
      refine k_X12_begins N ⟨hx, hb, hml, hown, hts⟩ mw_1148 ⟨Nat.le_of_ble_eq_true rfl, Nat.le_of_ble_eq_true rfl⟩ h hK hP hD hS hl.1 (rest := []) (Nat.le_of_ble_eq_true rfl) ⟨Nat.le_of_ble_eq_true rfl, Nat.le_of_ble_eq_true rfl⟩ dX12_netOf_50 (fun τ6 H locs h hP hD hS => ?_)
      refine lv_aload_n hx hb dX12_netOf_53 rfl (lv_at hl 0 rfl) ?_
      refine lv_lload_n hx hb dX12_netOf_54 rfl (lv_at hl 2 rfl) ?_
      refine lv_iload hx hb dX12_netOf_55 (lv_at hl 5 rfl) ?_
      refine lv_iload hx hb dX12_netOf_57 (lv_at hl 6 rfl) ?_
      refine k_X12_pairOf N ⟨hx, hb, hml, hown, hts⟩ mw_1030 ⟨Nat.le_of_ble_eq_true rfl, Nat.le_of_ble_eq_true rfl⟩ h hK hP hD hS hl.1 (rest := [.long x2, .ref (ad 0)]) (Nat.le_of_ble_eq_true rfl) ⟨Nat.le_of_ble_eq_true rfl, Nat.le_of_ble_eq_true rfl⟩ dX12_netOf_59 (fun r7 τ8 H locs h hP hD hS => ?_)
      refine k_X12_isAdd N ⟨hx, hb, hml, hown, hts⟩ mw_1181 ⟨Nat.le_of_ble_eq_true rfl, Nat.le_of_ble_eq_true rfl⟩ h hK hP hD hS hl.1 (rest := []) (Nat.le_of_ble_eq_true rfl) ⟨Nat.le_of_ble_eq_true rfl, Nat.le_of_ble_eq_true rfl⟩ dX12_netOf_62 (fun r9 τ10 H locs h hP hD hS => ?_)
      refine lv_if_eq (tgt := 79) hx hb dX12_netOf_65 (by decide) (fun hc => ?_) (fun hc => ?_)
      · have h := h.1 hc
        obtain ⟨v11, ev11⟩ : ∃ z : Int32, z = x7 + (1 : Int32) := ⟨_, rfl⟩
        have h := h v11 ev11
        refine lv_iinc (v := v11) (lv' := [(7, .int v11), (0, .ref (ad 0)), (1, .int x1), (2, .long x2), (4, .int x4), (5, .int x5), (6, .int x6)]) hx hb dX12_netOf_79 hl (k := 6) rfl (by rw [ev11]; rfl) (by decide) rfl (fun ls hl => ?_)
        refine lv_goto (tgt := 26) hx hb dX12_netOf_82 (by decide) ?_
        exact hk_26 x1 x2 x4 x5 x6 v11 τ10 _ _ _ h hP hD hS (lv_sub hl [1, 2, 3, 4, 5, 6, 0] rfl)
      · have h := h.2 hc
        refine lv_lload_n hx hb dX12_netOf_68 rfl (lv_at hl 2 rfl) ?_
        refine lv_aload_n hx hb dX12_netOf_69 rfl (lv_at hl 0 rfl) ?_
        refine lv_iload hx hb dX12_netOf_70 (lv_at hl 5 rfl) ?_
        refine lv_iload hx hb dX12_netOf_72 (lv_at hl 6 rfl) ?_
        refine k_X12_tied N ⟨hx, hb, hml, hown, hts⟩ mw_1085 ⟨Nat.le_of_ble_eq_true rfl, Nat.le_of_ble_eq_true rfl⟩ h hK hP hD hS hl.1 (rest := [.long x2]) (Nat.le_of_ble_eq_true rfl) ⟨Nat.le_of_ble_eq_true rfl, Nat.le_of_ble_eq_true rfl⟩ dX12_netOf_74 (fun r12 τ13 H locs h hP hD hS => ?_)
        refine lv_lor hx hb dX12_netOf_77 ?_
        refine lv_topl (fun v14 ev14 => ?_)
        have h := h v14 ev14
        refine lv_lstore_n (lv' := [(2, .long v14), (0, .ref (ad 0)), (1, .int x1), (4, .int x4), (5, .int x5), (6, .int x6), (7, .int x7)]) hx hb dX12_netOf_78 rfl hl (by decide) rfl (fun ls hl => ?_)
        obtain ⟨v15, ev15⟩ : ∃ z : Int32, z = x7 + (1 : Int32) := ⟨_, rfl⟩
        have h := h v15 ev15
        refine lv_iinc (v := v15) (lv' := [(7, .int v15), (2, .long v14), (0, .ref (ad 0)), (1, .int x1), (4, .int x4), (5, .int x5), (6, .int x6)]) hx hb dX12_netOf_79 hl (k := 6) rfl (by rw [ev15]; rfl) (by decide) rfl (fun ls hl => ?_)
        refine lv_goto (tgt := 26) hx hb dX12_netOf_82 (by decide) ?_
        exact hk_26 x1 v14 x4 x5 x6 v15 τ13 _ _ _ h hP hD hS (lv_sub hl [2, 3, 1, 4, 5, 6, 0] rfl)
    · have h := h.1 hc
      refine lv_goto (tgt := 79) hx hb dX12_netOf_45 (by decide) ?_
      obtain ⟨v16, ev16⟩ : ∃ z : Int32, z = x7 + (1 : Int32) := ⟨_, rfl⟩
      have h := h v16 ev16
      refine lv_iinc (v := v16) (lv' := [(7, .int v16), (0, .ref (ad 0)), (1, .int x1), (2, .long x2), (4, .int x4), (5, .int x5), (6, .int x6)]) hx hb dX12_netOf_79 hl (k := 6) rfl (by rw [ev16]; rfl) (by decide) rfl (fun ls hl => ?_)
      refine lv_goto (tgt := 26) hx hb dX12_netOf_82 (by decide) ?_
      exact hk_26 x1 x2 x4 x5 x6 v16 τ2 _ _ _ h hP hD hS (lv_sub hl [1, 2, 3, 4, 5, 6, 0] rfl)
set_option maxHeartbeats 4000000 in
set_option maxRecDepth 100000 in
theorem t_X12_netOf_26 (C0 : zCx p s m meth c args RX12 cX12_netOf 8 (some .long) vs_X12_netOf) (hK : va_K (dC, dI) vwCl (m_ty cI cJ cC) s) (N : Nat) {Q : Int64 → zSt → Prop} {k_8 : Int32 → Int64 → Int32 → Int32 → zSt → Prop} (hk_8 : ∀ (x1 : Int32) (x2 : Int64) (x4 : Int32) (x5 : Int32) (σ : zSt) (H : Heap) (locs : List Loc) (ls : Array Slot), k_8 x1 x2 x4 x5 σ → va_P (dC, dI) vwCl (m_W ad cI cJ cC σ) H → va_D (zAW m_n ad s.heap.size) (m_W ad cI cJ cC σ) → va_S (zAW m_n ad s.heap.size) s.heap H locs → lv_has ls 8 [(0, .ref (ad 0)), (1, .int x1), (2, .long x2), (4, .int x4), (5, .int x5)] → W p l e rm_X12_netOf s m args below meth c H locs 0 0 (MQ below (zQl (dC, dI) (m_ty cI cJ cC) (m_W ad cI cJ cC) (zAW m_n ad s.heap.size) Q) args s 0 0 (zAW m_n ad s.heap.size)) (F0 m 8 ls [])) : ∀ (f : Nat) (x1 : Int32) (x2 : Int64) (x4 : Int32) (x5 : Int32) (x6 : Int32) (x7 : Int32) (σ : zSt) (H : Heap) (locs : List Loc) (ls : Array Slot), w_X12_netOf_26 N k_8 Q f x1 x2 x4 x5 x6 x7 σ → va_P (dC, dI) vwCl (m_W ad cI cJ cC σ) H → va_D (zAW m_n ad s.heap.size) (m_W ad cI cJ cC σ) → va_S (zAW m_n ad s.heap.size) s.heap H locs → lv_has ls 8 [(0, .ref (ad 0)), (1, .int x1), (2, .long x2), (4, .int x4), (5, .int x5), (6, .int x6), (7, .int x7)] → W p l e rm_X12_netOf s m args below meth c H locs 0 0 (MQ below (zQl (dC, dI) (m_ty cI cJ cC) (m_W ad cI cJ cC) (zAW m_n ad s.heap.size) Q) args s 0 0 (zAW m_n ad s.heap.size)) (F0 m 26 ls []) := by
  intro f
  induction f with
  | zero => intro x1 x2 x4 x5 x6 x7 σ H locs ls h; exact h.elim
  | succ f ih =>
    intro x1 x2 x4 x5 x6 x7 σ H locs ls h hP hD hS hl
    exact tb_X12_netOf_26 C0 hK N hk_8 (k_26 := w_X12_netOf_26 N k_8 Q f) ih x1 x2 x4 x5 x6 x7 σ H locs ls h hP hD hS hl
set_option maxHeartbeats 4000000 in
set_option maxRecDepth 100000 in
theorem tb_X12_netOf_8 (C0 : zCx p s m meth c args RX12 cX12_netOf 8 (some .long) vs_X12_netOf) (hK : va_K (dC, dI) vwCl (m_ty cI cJ cC) s) (N : Nat) {Q : Int64 → zSt → Prop} {k_8 : Int32 → Int64 → Int32 → Int32 → zSt → Prop} (hk_8 : ∀ (x1 : Int32) (x2 : Int64) (x4 : Int32) (x5 : Int32) (σ : zSt) (H : Heap) (locs : List Loc) (ls : Array Slot), k_8 x1 x2 x4 x5 σ → va_P (dC, dI) vwCl (m_W ad cI cJ cC σ) H → va_D (zAW m_n ad s.heap.size) (m_W ad cI cJ cC σ) → va_S (zAW m_n ad s.heap.size) s.heap H locs → lv_has ls 8 [(0, .ref (ad 0)), (1, .int x1), (2, .long x2), (4, .int x4), (5, .int x5)] → W p l e rm_X12_netOf s m args below meth c H locs 0 0 (MQ below (zQl (dC, dI) (m_ty cI cJ cC) (m_W ad cI cJ cC) (zAW m_n ad s.heap.size) Q) args s 0 0 (zAW m_n ad s.heap.size)) (F0 m 8 ls [])) : ∀ (x1 : Int32) (x2 : Int64) (x4 : Int32) (x5 : Int32) (σ : zSt) (H : Heap) (locs : List Loc) (ls : Array Slot), b_X12_netOf_8 N k_8 Q x1 x2 x4 x5 σ → va_P (dC, dI) vwCl (m_W ad cI cJ cC σ) H → va_D (zAW m_n ad s.heap.size) (m_W ad cI cJ cC σ) → va_S (zAW m_n ad s.heap.size) s.heap H locs → lv_has ls 8 [(0, .ref (ad 0)), (1, .int x1), (2, .long x2), (4, .int x4), (5, .int x5)] → W p l e rm_X12_netOf s m args below meth c H locs 0 0 (MQ below (zQl (dC, dI) (m_ty cI cJ cC) (m_W ad cI cJ cC) (zAW m_n ad s.heap.size) Q) args s 0 0 (zAW m_n ad s.heap.size)) (F0 m 8 ls []) := by
  obtain ⟨hx, hb, hml, hr, hown, hts, hlocks⟩ := id C0
  intro x1 x2 x4 x5 σ H locs ls h hP hD hS hl
  unfold b_X12_netOf_8 at h
  refine lv_iload hx hb dX12_netOf_8 (lv_at hl 4 rfl) ?_
  refine lv_iload_n hx hb dX12_netOf_10 rfl (lv_at hl 1 rfl) ?_
  refine lv_icmp_ge (tgt := 100) hx hb dX12_netOf_11 (by decide) (fun hc => ?_) (fun hc => ?_)
  · have h := h.1 hc
    refine lv_lload_n hx hb dX12_netOf_100 rfl (lv_at hl 2 rfl) ?_
    exact zret_l hx hb hr hlocks hK hP hD hS h dX12_netOf_101
  · have h := h.2 hc
    refine lv_aload_n hx hb dX12_netOf_14 rfl (lv_at hl 0 rfl) ?_
    refine mg_0_75 hx hb hts hown hK hP mw_908 dX12_netOf_15 ?_
    refine lv_iload hx hb dX12_netOf_18 (lv_at hl 4 rfl) ?_
    refine ma_23 hx hb hK hP h.1 rfl dX12_netOf_20 ?_
    have h := h.2
    refine lv_topi (fun v1 ev1 => ?_)
    have h := h v1 ev1
    refine lv_istore (lv' := [(6, .int v1), (0, .ref (ad 0)), (1, .int x1), (2, .long x2), (4, .int x4), (5, .int x5)]) hx hb dX12_netOf_21 hl (by decide) rfl (fun ls hl => ?_)
    refine lv_iconst (v := (0 : Int32)) hx hb dX12_netOf_23 (by decide) ?_
    refine lv_istore (lv' := [(7, .int (0 : Int32)), (6, .int v1), (0, .ref (ad 0)), (1, .int x1), (2, .long x2), (4, .int x4), (5, .int x5)]) hx hb dX12_netOf_24 hl (by decide) rfl (fun ls hl => ?_)
    exact t_X12_netOf_26 C0 hK N hk_8 N x1 x2 x4 x5 v1 (0 : Int32) σ _ _ _ h hP hD hS (lv_sub hl [2, 3, 4, 5, 6, 1, 0] rfl)
set_option maxHeartbeats 4000000 in
set_option maxRecDepth 100000 in
theorem t_X12_netOf_8 (C0 : zCx p s m meth c args RX12 cX12_netOf 8 (some .long) vs_X12_netOf) (hK : va_K (dC, dI) vwCl (m_ty cI cJ cC) s) (N : Nat) {Q : Int64 → zSt → Prop} : ∀ (f : Nat) (x1 : Int32) (x2 : Int64) (x4 : Int32) (x5 : Int32) (σ : zSt) (H : Heap) (locs : List Loc) (ls : Array Slot), w_X12_netOf_8 N  Q f x1 x2 x4 x5 σ → va_P (dC, dI) vwCl (m_W ad cI cJ cC σ) H → va_D (zAW m_n ad s.heap.size) (m_W ad cI cJ cC σ) → va_S (zAW m_n ad s.heap.size) s.heap H locs → lv_has ls 8 [(0, .ref (ad 0)), (1, .int x1), (2, .long x2), (4, .int x4), (5, .int x5)] → W p l e rm_X12_netOf s m args below meth c H locs 0 0 (MQ below (zQl (dC, dI) (m_ty cI cJ cC) (m_W ad cI cJ cC) (zAW m_n ad s.heap.size) Q) args s 0 0 (zAW m_n ad s.heap.size)) (F0 m 8 ls []) := by
  intro f
  induction f with
  | zero => intro x1 x2 x4 x5 σ H locs ls h; exact h.elim
  | succ f ih =>
    intro x1 x2 x4 x5 σ H locs ls h hP hD hS hl
    exact tb_X12_netOf_8 C0 hK N  (k_8 := w_X12_netOf_8 N  Q f) ih x1 x2 x4 x5 σ H locs ls h hP hD hS hl
set_option maxHeartbeats 4000000 in
set_option maxRecDepth 100000 in
theorem t_X12_netOf_0 (C0 : zCx p s m meth c args RX12 cX12_netOf 8 (some .long) vs_X12_netOf) (hK : va_K (dC, dI) vwCl (m_ty cI cJ cC) s) (N : Nat) {Q : Int64 → zSt → Prop} : ∀ (x1 : Int32) (σ : zSt) (H : Heap) (locs : List Loc) (ls : Array Slot), w_X12_netOf N x1 σ Q → va_P (dC, dI) vwCl (m_W ad cI cJ cC σ) H → va_D (zAW m_n ad s.heap.size) (m_W ad cI cJ cC σ) → va_S (zAW m_n ad s.heap.size) s.heap H locs → lv_has ls 8 [(0, .ref (ad 0)), (1, .int x1)] → W p l e rm_X12_netOf s m args below meth c H locs 0 0 (MQ below (zQl (dC, dI) (m_ty cI cJ cC) (m_W ad cI cJ cC) (zAW m_n ad s.heap.size) Q) args s 0 0 (zAW m_n ad s.heap.size)) (F0 m 0 ls []) := by
  obtain ⟨hx, hb, hml, hr, hown, hts, hlocks⟩ := id C0
  intro x1 σ H locs ls h hP hD hS hl
  unfold w_X12_netOf at h
  refine lv_lconst (v := (0 : Int64)) hx hb dX12_netOf_0 (by decide) ?_
  refine lv_lstore_n (lv' := [(2, .long (0 : Int64)), (0, .ref (ad 0)), (1, .int x1)]) hx hb dX12_netOf_1 rfl hl (by decide) rfl (fun ls hl => ?_)
  refine lv_iconst (v := (0 : Int32)) hx hb dX12_netOf_2 (by decide) ?_
  refine lv_istore (lv' := [(4, .int (0 : Int32)), (2, .long (0 : Int64)), (0, .ref (ad 0)), (1, .int x1)]) hx hb dX12_netOf_3 hl (by decide) rfl (fun ls hl => ?_)
  refine lv_iconst (v := (0 : Int32)) hx hb dX12_netOf_5 (by decide) ?_
  refine lv_istore (lv' := [(5, .int (0 : Int32)), (4, .int (0 : Int32)), (2, .long (0 : Int64)), (0, .ref (ad 0)), (1, .int x1)]) hx hb dX12_netOf_6 hl (by decide) rfl (fun ls hl => ?_)
  exact t_X12_netOf_8 C0 hK N  N x1 (0 : Int64) (0 : Int32) (0 : Int32) σ _ _ _ h hP hD hS (lv_sub hl [3, 4, 2, 1, 0] rfl)
set_option maxHeartbeats 4000000 in
set_option maxRecDepth 100000 in
theorem c_X12_netOf (N : Nat) (l : Launch) (dC : Nat → ClassId) (dI : Nat → Nat → Nat) (ad : Nat → Nat) (cI cJ cC : ClassId) (sz : Nat) (σ : zSt) (x1 : Int32) (Q : Int64 → zSt → Prop) (h : w_X12_netOf N x1 σ Q) : Met l yX12_netOf vs_X12_netOf rm_X12_netOf (va_Pc [.ref (ad 0), .int x1] (zPc (dC, dI) (m_ty cI cJ cC) (m_W ad cI cJ cC) sz σ)) (zQl (dC, dI) (m_ty cI cJ cC) (m_W ad cI cJ cC) (zAW m_n ad sz) Q) 0 0 (zAW m_n ad sz) := by
  refine Met.ofW (cc := cX12_netOf) (maxL := 8) (ret := (some .long)) (by decide) rfl ?_
  intro p e s m args below meth c s₁ B hml hv
  obtain ⟨rfl, hsz, hP, hK, hD0⟩ := hv
  subst hsz
  have C0 : zCx p s m meth c _ RX12 cX12_netOf 8 (some .long) vs_X12_netOf := ⟨B.exec, B.bytes, hml, B.returns, findClass_of_methodNamed B.named, atoms_spec (ws := vs_X12_netOf) B.pre, B.notSynchronized⟩
  have hD := m_D0 (n0 := s.heap.size) hD0
  have hl := lv_entry ([.ref (ad 0), .int x1]) (n := 8) (Nat.le_of_ble_eq_true rfl)
  rw [lg_entry_eq]
  generalize (lg_sl ([.ref (ad 0), .int x1]) ++ List.replicate (8 - (lg_sl ([.ref (ad 0), .int x1])).length) Slot.unset).toArray = ls at hl ⊢
  exact t_X12_netOf_0 C0 hK N x1 σ _ _ ls h hP hD va_S.rf hl
theorem k_X12_netOf (N : Nat) {R : Room} {H : Heap} {locs : List Loc} {cells slots : Nat} {Q2 : State → Prop} {cc : ByteArray} {nL pc index : Nat} {ls : Array Slot} {rest : List Value} {own : String} {c0 : Cond} {σ : zSt} {x1 : Int32} {Q : Int64 → zSt → Prop} (S0 : CallFix p m c cc nL s args (c0 :: zT) own) (hml : Cond.methodLink own index yX12_netOf ∈ zT) (hR : rm_X12_netOf.frames + 1 ≤ R.frames ∧ 8 + (8 + 11) + rm_X12_netOf.locals ≤ R.locals) (h : w_X12_netOf N x1 σ Q) (hK : va_K (dC, dI) vwCl (m_ty cI cJ cC) s) (hP : va_P (dC, dI) vwCl (m_W ad cI cJ cC σ) H) (hD : va_D (zAW m_n ad s.heap.size) (m_W ad cI cJ cC σ)) (hS : va_S (zAW m_n ad s.heap.size) s.heap H locs) (hsz : ls.size = nL) (hW : (rest.map fun v => v.category).sum ≤ 8) (hcs : cells ≤ R.cells ∧ slots ≤ R.slots) (hdg : decode cc pc = .ok (.invokevirtual index, 3)) (kk : ∀ (r : Int64) (τ : zSt) (H1 : Heap) (locs1 : List Loc), Q r τ → va_P (dC, dI) vwCl (m_W ad cI cJ cC τ) H1 → va_D (zAW m_n ad s.heap.size) (m_W ad cI cJ cC τ) → va_S (zAW m_n ad s.heap.size) s.heap H1 locs1 → W p l e R s m args below meth c H1 locs1 cells slots Q2 (F0 m (pc + 3) ls (.long r :: rest))) : W p l e R s m args below meth c H locs cells slots Q2 (F0 m pc ls (.int x1 :: .ref (ad 0) :: rest)) :=
  zcv_l (T := TX12) (N' := 83) (k := 0) (ci := 12) (fs := m_f0 ad σ) [.int x1] S0 (c_X12_netOf N l dC dI ad cI cJ cC H.size σ x1 Q h) (cw_X12_netOf S0.2.2.2.2 hml rfl rfl hR) rfl rfl hK hP hD hS rfl hsz hW rfl hcs hdg kk
end q25
section q25
def b_X12_comesNet_63 (N : Nat) (k_63 : Int64 → Int32 → Int32 → zSt → Prop) (Q : zSt → Prop) (x1 : Int64) (x3 : Int32) (x4 : Int32) (σ : zSt) : Prop :=
  (x4 ≤ x3 → (vp_in x3 120) ∧ (∀ τ1 : zSt, τ1 = zB σ 7 (vp_updL (σ.2.2.2 7) (x3.toNatClampNeg) x1) → (vp_in x3 120) ∧ (∀ τ2 : zSt, τ2 = zA τ1 16 (upd (τ1.2.2.1 16) (x3.toNatClampNeg) (1 : Int32)) → ∀ τ3 : zSt, τ3 = zI τ2 28 ((τ2.1 28) + (1 : Int32)) → Q τ3))) ∧ (¬ x4 ≤ x3 → (vp_in (x4 - (1 : Int32)) 120) ∧ ((vp_in x4 120) ∧ (∀ τ4 : zSt, τ4 = zB σ 7 (vp_updL (σ.2.2.2 7) (x4.toNatClampNeg) (σ.2.2.2 7 (x4 - (1 : Int32)).toNatClampNeg)) → (vp_in (x4 - (1 : Int32)) 120) ∧ ((vp_in x4 120) ∧ (∀ τ5 : zSt, τ5 = zA τ4 16 (upd (τ4.2.2.1 16) (x4.toNatClampNeg) (τ4.2.2.1 16 (x4 - (1 : Int32)).toNatClampNeg)) → ∀ v6 : Int32, v6 = x4 + (-1 : Int32) → k_63 x1 x3 v6 τ5)))))
def w_X12_comesNet_63 (N : Nat) (Q : zSt → Prop) : Nat → Int64 → Int32 → Int32 → zSt → Prop
  | 0 => fun _ _ _ _ => False
  | f + 1 => b_X12_comesNet_63 N (w_X12_comesNet_63 N  Q f) Q
def b_X12_comesNet_27 (N : Nat) (Q : zSt → Prop) (x1 : Int64) (x3 : Int32) (σ : zSt) : Prop :=
  ((σ.1 28) ≤ x3 → ∀ v1 : Int32, v1 = σ.1 28 → w_X12_comesNet_63 N Q N x1 x3 v1 σ) ∧ (¬ (σ.1 28) ≤ x3 → (vp_in x3 120) ∧ (((lg_cmp (σ.2.2.2 7 x3.toNatClampNeg) x1) = 0 → (vp_in x3 120) ∧ ((vp_in x3 120) ∧ (∀ τ3 : zSt, τ3 = zA σ 16 (upd (σ.2.2.1 16) (x3.toNatClampNeg) ((σ.2.2.1 16 x3.toNatClampNeg) + (1 : Int32))) → Q τ3))) ∧ (¬ (lg_cmp (σ.2.2.2 7 x3.toNatClampNeg) x1) = 0 → ∀ v2 : Int32, v2 = σ.1 28 → w_X12_comesNet_63 N Q N x1 x3 v2 σ)))
def b_X12_comesNet_2 (N : Nat) (k_2 : Int64 → Int32 → zSt → Prop) (Q : zSt → Prop) (x1 : Int64) (x3 : Int32) (σ : zSt) : Prop :=
  ((σ.1 28) ≤ x3 → b_X12_comesNet_27 N Q x1 x3 σ) ∧ (¬ (σ.1 28) ≤ x3 → (vp_in x3 120) ∧ ((0 ≤ (lg_cmp (σ.2.2.2 7 x3.toNatClampNeg) x1) → b_X12_comesNet_27 N Q x1 x3 σ) ∧ (¬ 0 ≤ (lg_cmp (σ.2.2.2 7 x3.toNatClampNeg) x1) → ∀ v1 : Int32, v1 = x3 + (1 : Int32) → k_2 x1 v1 σ)))
def w_X12_comesNet_2 (N : Nat) (Q : zSt → Prop) : Nat → Int64 → Int32 → zSt → Prop
  | 0 => fun _ _ _ => False
  | f + 1 => b_X12_comesNet_2 N (w_X12_comesNet_2 N  Q f) Q
def w_X12_comesNet (N : Nat) (x1 : Int64) (σ : zSt) (Q : zSt → Prop) : Prop :=
  w_X12_comesNet_2 N Q N x1 (0 : Int32) σ
variable {p : Program} {l : Launch} {e : Env} {s : State} {m : MethodId} {args : Array Value} {below : List Frame} {meth : Method} {c : Code} {dC : Nat → ClassId} {dI : Nat → Nat → Nat} {ad : Nat → Nat} {cI cJ cC : ClassId}
set_option maxHeartbeats 4000000 in
set_option maxRecDepth 100000 in
theorem tb_X12_comesNet_63 (C0 : zCx p s m meth c args RX12 cX12_comesNet 5 none vs_X12_comesNet) (hK : va_K (dC, dI) vwCl (m_ty cI cJ cC) s) (N : Nat) {Q : zSt → Prop} {k_63 : Int64 → Int32 → Int32 → zSt → Prop} (hk_63 : ∀ (x1 : Int64) (x3 : Int32) (x4 : Int32) (σ : zSt) (H : Heap) (locs : List Loc) (ls : Array Slot), k_63 x1 x3 x4 σ → va_P (dC, dI) vwCl (m_W ad cI cJ cC σ) H → va_D (zAW m_n ad s.heap.size) (m_W ad cI cJ cC σ) → va_S (zAW m_n ad s.heap.size) s.heap H locs → lv_has ls 5 [(0, .ref (ad 0)), (1, .long x1), (3, .int x3), (4, .int x4)] → W p l e rm_X12_comesNet s m args below meth c H locs 0 0 (MQ below (zQv (dC, dI) (m_ty cI cJ cC) (m_W ad cI cJ cC) (zAW m_n ad s.heap.size) Q) args s 0 0 (zAW m_n ad s.heap.size)) (F0 m 63 ls [])) : ∀ (x1 : Int64) (x3 : Int32) (x4 : Int32) (σ : zSt) (H : Heap) (locs : List Loc) (ls : Array Slot), b_X12_comesNet_63 N k_63 Q x1 x3 x4 σ → va_P (dC, dI) vwCl (m_W ad cI cJ cC σ) H → va_D (zAW m_n ad s.heap.size) (m_W ad cI cJ cC σ) → va_S (zAW m_n ad s.heap.size) s.heap H locs → lv_has ls 5 [(0, .ref (ad 0)), (1, .long x1), (3, .int x3), (4, .int x4)] → W p l e rm_X12_comesNet s m args below meth c H locs 0 0 (MQ below (zQv (dC, dI) (m_ty cI cJ cC) (m_W ad cI cJ cC) (zAW m_n ad s.heap.size) Q) args s 0 0 (zAW m_n ad s.heap.size)) (F0 m 63 ls []) := by
  obtain ⟨hx, hb, hml, hr, hown, hts, hlocks⟩ := id C0
  intro x1 x3 x4 σ H locs ls h hP hD hS hl
  unfold b_X12_comesNet_63 at h
  refine lv_iload hx hb dX12_comesNet_63 (lv_at hl 3 rfl) ?_
  refine lv_iload_n hx hb dX12_comesNet_65 rfl (lv_at hl 2 rfl) ?_
  refine lv_icmp_le (tgt := 107) hx hb dX12_comesNet_66 (by decide) (fun hc => ?_) (fun hc => ?_)
  · have h := h.1 hc
    refine lv_aload_n hx hb dX12_comesNet_107 rfl (lv_at hl 0 rfl) ?_
    refine mg_0_77 hx hb hts hown hK hP mw_910 dX12_comesNet_108 ?_
    refine lv_iload_n hx hb dX12_comesNet_111 rfl (lv_at hl 2 rfl) ?_
    refine lv_lload_n hx hb dX12_comesNet_112 rfl (lv_at hl 1 rfl) ?_
    refine ms_24 hx hb hK hP hD hS h.1 rfl dX12_comesNet_113 (fun τ1 H locs eτ1 hP hD hS => ?_)
    have h := h.2
    have h := h τ1 eτ1
    refine lv_aload_n hx hb dX12_comesNet_114 rfl (lv_at hl 0 rfl) ?_
    refine mg_0_78 hx hb hts hown hK hP mw_911 dX12_comesNet_115 ?_
    refine lv_iload_n hx hb dX12_comesNet_118 rfl (lv_at hl 2 rfl) ?_
    refine lv_iconst (v := (1 : Int32)) hx hb dX12_comesNet_119 (by decide) ?_
    refine ms_25 hx hb hK hP hD hS h.1 rfl dX12_comesNet_120 (fun τ2 H locs eτ2 hP hD hS => ?_)
    have h := h.2
    have h := h τ2 eτ2
    refine lv_aload_n hx hb dX12_comesNet_121 rfl (lv_at hl 0 rfl) ?_
    refine lv_dup hx hb dX12_comesNet_122 rfl ?_
    refine mg_0_76 hx hb hts hown hK hP mw_909 dX12_comesNet_123 ?_
    refine lv_iconst (v := (1 : Int32)) hx hb dX12_comesNet_126 (by decide) ?_
    refine lv_iadd hx hb dX12_comesNet_127 ?_
    refine mp_0_76 hx hb hts hown hK hP hD hS mw_909 dX12_comesNet_128 (fun τ3 H locs eτ3 hP hD hS => ?_)
    have h := h τ3 eτ3
    exact zret_v hx hb hr hlocks hK hP hD hS h dX12_comesNet_131
  · have h := h.2 hc
    refine lv_aload_n hx hb dX12_comesNet_69 rfl (lv_at hl 0 rfl) ?_
    refine mg_0_77 hx hb hts hown hK hP mw_910 dX12_comesNet_70 ?_
    refine lv_iload hx hb dX12_comesNet_73 (lv_at hl 3 rfl) ?_
    refine lv_aload_n hx hb dX12_comesNet_75 rfl (lv_at hl 0 rfl) ?_
    refine mg_0_77 hx hb hts hown hK hP mw_910 dX12_comesNet_76 ?_
    refine lv_iload hx hb dX12_comesNet_79 (lv_at hl 3 rfl) ?_
    refine lv_iconst (v := (1 : Int32)) hx hb dX12_comesNet_81 (by decide) ?_
    refine lv_isub hx hb dX12_comesNet_82 ?_
    refine ma_24 hx hb hK hP h.1 rfl dX12_comesNet_83 ?_
    have h := h.2
    refine ms_24 hx hb hK hP hD hS h.1 rfl dX12_comesNet_84 (fun τ4 H locs eτ4 hP hD hS => ?_)
    have h := h.2
    have h := h τ4 eτ4
    refine lv_aload_n hx hb dX12_comesNet_85 rfl (lv_at hl 0 rfl) ?_
    refine mg_0_78 hx hb hts hown hK hP mw_911 dX12_comesNet_86 ?_
    refine lv_iload hx hb dX12_comesNet_89 (lv_at hl 3 rfl) ?_
    refine lv_aload_n hx hb dX12_comesNet_91 rfl (lv_at hl 0 rfl) ?_
    refine mg_0_78 hx hb hts hown hK hP mw_911 dX12_comesNet_92 ?_
    refine lv_iload hx hb dX12_comesNet_95 (lv_at hl 3 rfl) ?_
    refine lv_iconst (v := (1 : Int32)) hx hb dX12_comesNet_97 (by decide) ?_
    refine lv_isub hx hb dX12_comesNet_98 ?_
    refine ma_25 hx hb hK hP h.1 rfl dX12_comesNet_99 ?_
    have h := h.2
    refine ms_25 hx hb hK hP hD hS h.1 rfl dX12_comesNet_100 (fun τ5 H locs eτ5 hP hD hS => ?_)
    have h := h.2
    have h := h τ5 eτ5
    obtain ⟨v6, ev6⟩ : ∃ z : Int32, z = x4 + (-1 : Int32) := ⟨_, rfl⟩
    have h := h v6 ev6
    refine lv_iinc (v := v6) (lv' := [(4, .int v6), (0, .ref (ad 0)), (1, .long x1), (3, .int x3)]) hx hb dX12_comesNet_101 hl (k := 3) rfl (by rw [ev6]; rfl) (by decide) rfl (fun ls hl => ?_)
    refine lv_goto (tgt := 63) hx hb dX12_comesNet_104 (by decide) ?_
    exact hk_63 x1 x3 v6 τ5 _ _ _ h hP hD hS (lv_sub hl [1, 2, 3, 0] rfl)
set_option maxHeartbeats 4000000 in
set_option maxRecDepth 100000 in
theorem t_X12_comesNet_63 (C0 : zCx p s m meth c args RX12 cX12_comesNet 5 none vs_X12_comesNet) (hK : va_K (dC, dI) vwCl (m_ty cI cJ cC) s) (N : Nat) {Q : zSt → Prop} : ∀ (f : Nat) (x1 : Int64) (x3 : Int32) (x4 : Int32) (σ : zSt) (H : Heap) (locs : List Loc) (ls : Array Slot), w_X12_comesNet_63 N  Q f x1 x3 x4 σ → va_P (dC, dI) vwCl (m_W ad cI cJ cC σ) H → va_D (zAW m_n ad s.heap.size) (m_W ad cI cJ cC σ) → va_S (zAW m_n ad s.heap.size) s.heap H locs → lv_has ls 5 [(0, .ref (ad 0)), (1, .long x1), (3, .int x3), (4, .int x4)] → W p l e rm_X12_comesNet s m args below meth c H locs 0 0 (MQ below (zQv (dC, dI) (m_ty cI cJ cC) (m_W ad cI cJ cC) (zAW m_n ad s.heap.size) Q) args s 0 0 (zAW m_n ad s.heap.size)) (F0 m 63 ls []) := by
  intro f
  induction f with
  | zero => intro x1 x3 x4 σ H locs ls h; exact h.elim
  | succ f ih =>
    intro x1 x3 x4 σ H locs ls h hP hD hS hl
    exact tb_X12_comesNet_63 C0 hK N  (k_63 := w_X12_comesNet_63 N  Q f) ih x1 x3 x4 σ H locs ls h hP hD hS hl
set_option maxHeartbeats 4000000 in
set_option maxRecDepth 100000 in
theorem t_X12_comesNet_27 (C0 : zCx p s m meth c args RX12 cX12_comesNet 5 none vs_X12_comesNet) (hK : va_K (dC, dI) vwCl (m_ty cI cJ cC) s) (N : Nat) {Q : zSt → Prop} : ∀ (x1 : Int64) (x3 : Int32) (σ : zSt) (H : Heap) (locs : List Loc) (ls : Array Slot), b_X12_comesNet_27 N  Q x1 x3 σ → va_P (dC, dI) vwCl (m_W ad cI cJ cC σ) H → va_D (zAW m_n ad s.heap.size) (m_W ad cI cJ cC σ) → va_S (zAW m_n ad s.heap.size) s.heap H locs → lv_has ls 5 [(0, .ref (ad 0)), (1, .long x1), (3, .int x3)] → W p l e rm_X12_comesNet s m args below meth c H locs 0 0 (MQ below (zQv (dC, dI) (m_ty cI cJ cC) (m_W ad cI cJ cC) (zAW m_n ad s.heap.size) Q) args s 0 0 (zAW m_n ad s.heap.size)) (F0 m 27 ls []) := by
  obtain ⟨hx, hb, hml, hr, hown, hts, hlocks⟩ := id C0
  intro x1 x3 σ H locs ls h hP hD hS hl
  unfold b_X12_comesNet_27 at h
  refine lv_iload_n hx hb dX12_comesNet_27 rfl (lv_at hl 2 rfl) ?_
  refine lv_aload_n hx hb dX12_comesNet_28 rfl (lv_at hl 0 rfl) ?_
  refine mg_0_76 hx hb hts hown hK hP mw_909 dX12_comesNet_29 ?_
  refine lv_icmp_ge (tgt := 57) hx hb dX12_comesNet_32 (by decide) (fun hc => ?_) (fun hc => ?_)
  · have h := h.1 hc
    refine lv_aload_n hx hb dX12_comesNet_57 rfl (lv_at hl 0 rfl) ?_
    refine mg_0_76 hx hb hts hown hK hP mw_909 dX12_comesNet_58 ?_
    refine lv_topi (fun v1 ev1 => ?_)
    have h := h v1 ev1
    refine lv_istore (lv' := [(4, .int v1), (0, .ref (ad 0)), (1, .long x1), (3, .int x3)]) hx hb dX12_comesNet_61 hl (by decide) rfl (fun ls hl => ?_)
    exact t_X12_comesNet_63 C0 hK N  N x1 x3 v1 σ _ _ _ h hP hD hS (lv_sub hl [1, 2, 3, 0] rfl)
  · have h := h.2 hc
    refine lv_aload_n hx hb dX12_comesNet_35 rfl (lv_at hl 0 rfl) ?_
    refine mg_0_77 hx hb hts hown hK hP mw_910 dX12_comesNet_36 ?_
    refine lv_iload_n hx hb dX12_comesNet_39 rfl (lv_at hl 2 rfl) ?_
    refine ma_24 hx hb hK hP h.1 rfl dX12_comesNet_40 ?_
    have h := h.2
    refine lv_lload_n hx hb dX12_comesNet_41 rfl (lv_at hl 1 rfl) ?_
    refine W.lcmp hx hb dX12_comesNet_42 ?_
    refine lv_if_ne (tgt := 57) hx hb dX12_comesNet_43 (by decide) (fun hc => ?_) (fun hc => ?_)
    · have h := h.2 hc
      refine lv_aload_n hx hb dX12_comesNet_57 rfl (lv_at hl 0 rfl) ?_
      refine mg_0_76 hx hb hts hown hK hP mw_909 dX12_comesNet_58 ?_
      refine lv_topi (fun v2 ev2 => ?_)
      have h := h v2 ev2
      refine lv_istore (lv' := [(4, .int v2), (0, .ref (ad 0)), (1, .long x1), (3, .int x3)]) hx hb dX12_comesNet_61 hl (by decide) rfl (fun ls hl => ?_)
      exact t_X12_comesNet_63 C0 hK N  N x1 x3 v2 σ _ _ _ h hP hD hS (lv_sub hl [1, 2, 3, 0] rfl)
    · have h := h.1 hc
      refine lv_aload_n hx hb dX12_comesNet_46 rfl (lv_at hl 0 rfl) ?_
      refine mg_0_78 hx hb hts hown hK hP mw_911 dX12_comesNet_47 ?_
      refine lv_iload_n hx hb dX12_comesNet_50 rfl (lv_at hl 2 rfl) ?_
      refine lv_dup2_11 hx hb dX12_comesNet_51 rfl rfl ?_
      refine ma_25 hx hb hK hP h.1 rfl dX12_comesNet_52 ?_
      have h := h.2
      refine lv_iconst (v := (1 : Int32)) hx hb dX12_comesNet_53 (by decide) ?_
      refine lv_iadd hx hb dX12_comesNet_54 ?_
      refine ms_25 hx hb hK hP hD hS h.1 rfl dX12_comesNet_55 (fun τ3 H locs eτ3 hP hD hS => ?_)
      have h := h.2
      have h := h τ3 eτ3
      exact zret_v hx hb hr hlocks hK hP hD hS h dX12_comesNet_56
set_option maxHeartbeats 4000000 in
set_option maxRecDepth 100000 in
theorem tb_X12_comesNet_2 (C0 : zCx p s m meth c args RX12 cX12_comesNet 5 none vs_X12_comesNet) (hK : va_K (dC, dI) vwCl (m_ty cI cJ cC) s) (N : Nat) {Q : zSt → Prop} {k_2 : Int64 → Int32 → zSt → Prop} (hk_2 : ∀ (x1 : Int64) (x3 : Int32) (σ : zSt) (H : Heap) (locs : List Loc) (ls : Array Slot), k_2 x1 x3 σ → va_P (dC, dI) vwCl (m_W ad cI cJ cC σ) H → va_D (zAW m_n ad s.heap.size) (m_W ad cI cJ cC σ) → va_S (zAW m_n ad s.heap.size) s.heap H locs → lv_has ls 5 [(0, .ref (ad 0)), (1, .long x1), (3, .int x3)] → W p l e rm_X12_comesNet s m args below meth c H locs 0 0 (MQ below (zQv (dC, dI) (m_ty cI cJ cC) (m_W ad cI cJ cC) (zAW m_n ad s.heap.size) Q) args s 0 0 (zAW m_n ad s.heap.size)) (F0 m 2 ls [])) : ∀ (x1 : Int64) (x3 : Int32) (σ : zSt) (H : Heap) (locs : List Loc) (ls : Array Slot), b_X12_comesNet_2 N k_2 Q x1 x3 σ → va_P (dC, dI) vwCl (m_W ad cI cJ cC σ) H → va_D (zAW m_n ad s.heap.size) (m_W ad cI cJ cC σ) → va_S (zAW m_n ad s.heap.size) s.heap H locs → lv_has ls 5 [(0, .ref (ad 0)), (1, .long x1), (3, .int x3)] → W p l e rm_X12_comesNet s m args below meth c H locs 0 0 (MQ below (zQv (dC, dI) (m_ty cI cJ cC) (m_W ad cI cJ cC) (zAW m_n ad s.heap.size) Q) args s 0 0 (zAW m_n ad s.heap.size)) (F0 m 2 ls []) := by
  obtain ⟨hx, hb, hml, hr, hown, hts, hlocks⟩ := id C0
  intro x1 x3 σ H locs ls h hP hD hS hl
  unfold b_X12_comesNet_2 at h
  refine lv_iload_n hx hb dX12_comesNet_2 rfl (lv_at hl 2 rfl) ?_
  refine lv_aload_n hx hb dX12_comesNet_3 rfl (lv_at hl 0 rfl) ?_
  refine mg_0_76 hx hb hts hown hK hP mw_909 dX12_comesNet_4 ?_
  refine lv_icmp_ge (tgt := 27) hx hb dX12_comesNet_7 (by decide) (fun hc => ?_) (fun hc => ?_)
  · have h := h.1 hc
    exact t_X12_comesNet_27 C0 hK N  x1 x3 σ _ _ _ h hP hD hS (lv_sub hl [0, 1, 2] rfl)
  · have h := h.2 hc
    refine lv_aload_n hx hb dX12_comesNet_10 rfl (lv_at hl 0 rfl) ?_
    refine mg_0_77 hx hb hts hown hK hP mw_910 dX12_comesNet_11 ?_
    refine lv_iload_n hx hb dX12_comesNet_14 rfl (lv_at hl 2 rfl) ?_
    refine ma_24 hx hb hK hP h.1 rfl dX12_comesNet_15 ?_
    have h := h.2
    refine lv_lload_n hx hb dX12_comesNet_16 rfl (lv_at hl 1 rfl) ?_
    refine W.lcmp hx hb dX12_comesNet_17 ?_
    refine lv_if_ge (tgt := 27) hx hb dX12_comesNet_18 (by decide) (fun hc => ?_) (fun hc => ?_)
    · have h := h.1 hc
      exact t_X12_comesNet_27 C0 hK N  x1 x3 σ _ _ _ h hP hD hS (lv_sub hl [0, 1, 2] rfl)
    · have h := h.2 hc
      obtain ⟨v1, ev1⟩ : ∃ z : Int32, z = x3 + (1 : Int32) := ⟨_, rfl⟩
      have h := h v1 ev1
      refine lv_iinc (v := v1) (lv' := [(3, .int v1), (0, .ref (ad 0)), (1, .long x1)]) hx hb dX12_comesNet_21 hl (k := 2) rfl (by rw [ev1]; rfl) (by decide) rfl (fun ls hl => ?_)
      refine lv_goto (tgt := 2) hx hb dX12_comesNet_24 (by decide) ?_
      exact hk_2 x1 v1 σ _ _ _ h hP hD hS (lv_sub hl [1, 2, 0] rfl)
set_option maxHeartbeats 4000000 in
set_option maxRecDepth 100000 in
theorem t_X12_comesNet_2 (C0 : zCx p s m meth c args RX12 cX12_comesNet 5 none vs_X12_comesNet) (hK : va_K (dC, dI) vwCl (m_ty cI cJ cC) s) (N : Nat) {Q : zSt → Prop} : ∀ (f : Nat) (x1 : Int64) (x3 : Int32) (σ : zSt) (H : Heap) (locs : List Loc) (ls : Array Slot), w_X12_comesNet_2 N  Q f x1 x3 σ → va_P (dC, dI) vwCl (m_W ad cI cJ cC σ) H → va_D (zAW m_n ad s.heap.size) (m_W ad cI cJ cC σ) → va_S (zAW m_n ad s.heap.size) s.heap H locs → lv_has ls 5 [(0, .ref (ad 0)), (1, .long x1), (3, .int x3)] → W p l e rm_X12_comesNet s m args below meth c H locs 0 0 (MQ below (zQv (dC, dI) (m_ty cI cJ cC) (m_W ad cI cJ cC) (zAW m_n ad s.heap.size) Q) args s 0 0 (zAW m_n ad s.heap.size)) (F0 m 2 ls []) := by
  intro f
  induction f with
  | zero => intro x1 x3 σ H locs ls h; exact h.elim
  | succ f ih =>
    intro x1 x3 σ H locs ls h hP hD hS hl
    exact tb_X12_comesNet_2 C0 hK N  (k_2 := w_X12_comesNet_2 N  Q f) ih x1 x3 σ H locs ls h hP hD hS hl
set_option maxHeartbeats 4000000 in
set_option maxRecDepth 100000 in
theorem t_X12_comesNet_0 (C0 : zCx p s m meth c args RX12 cX12_comesNet 5 none vs_X12_comesNet) (hK : va_K (dC, dI) vwCl (m_ty cI cJ cC) s) (N : Nat) {Q : zSt → Prop} : ∀ (x1 : Int64) (σ : zSt) (H : Heap) (locs : List Loc) (ls : Array Slot), w_X12_comesNet N x1 σ Q → va_P (dC, dI) vwCl (m_W ad cI cJ cC σ) H → va_D (zAW m_n ad s.heap.size) (m_W ad cI cJ cC σ) → va_S (zAW m_n ad s.heap.size) s.heap H locs → lv_has ls 5 [(0, .ref (ad 0)), (1, .long x1)] → W p l e rm_X12_comesNet s m args below meth c H locs 0 0 (MQ below (zQv (dC, dI) (m_ty cI cJ cC) (m_W ad cI cJ cC) (zAW m_n ad s.heap.size) Q) args s 0 0 (zAW m_n ad s.heap.size)) (F0 m 0 ls []) := by
  obtain ⟨hx, hb, hml, hr, hown, hts, hlocks⟩ := id C0
  intro x1 σ H locs ls h hP hD hS hl
  unfold w_X12_comesNet at h
  refine lv_iconst (v := (0 : Int32)) hx hb dX12_comesNet_0 (by decide) ?_
  refine lv_istore_n (lv' := [(3, .int (0 : Int32)), (0, .ref (ad 0)), (1, .long x1)]) hx hb dX12_comesNet_1 rfl hl (by decide) rfl (fun ls hl => ?_)
  exact t_X12_comesNet_2 C0 hK N  N x1 (0 : Int32) σ _ _ _ h hP hD hS (lv_sub hl [1, 2, 0] rfl)
set_option maxHeartbeats 4000000 in
set_option maxRecDepth 100000 in
theorem c_X12_comesNet (N : Nat) (l : Launch) (dC : Nat → ClassId) (dI : Nat → Nat → Nat) (ad : Nat → Nat) (cI cJ cC : ClassId) (sz : Nat) (σ : zSt) (x1 : Int64) (Q : zSt → Prop) (h : w_X12_comesNet N x1 σ Q) : Met l yX12_comesNet vs_X12_comesNet rm_X12_comesNet (va_Pc [.ref (ad 0), .long x1] (zPc (dC, dI) (m_ty cI cJ cC) (m_W ad cI cJ cC) sz σ)) (zQv (dC, dI) (m_ty cI cJ cC) (m_W ad cI cJ cC) (zAW m_n ad sz) Q) 0 0 (zAW m_n ad sz) := by
  refine Met.ofW (cc := cX12_comesNet) (maxL := 5) (ret := none) (by decide) rfl ?_
  intro p e s m args below meth c s₁ B hml hv
  obtain ⟨rfl, hsz, hP, hK, hD0⟩ := hv
  subst hsz
  have C0 : zCx p s m meth c _ RX12 cX12_comesNet 5 none vs_X12_comesNet := ⟨B.exec, B.bytes, hml, B.returns, findClass_of_methodNamed B.named, atoms_spec (ws := vs_X12_comesNet) B.pre, B.notSynchronized⟩
  have hD := m_D0 (n0 := s.heap.size) hD0
  have hl := lv_entry ([.ref (ad 0), .long x1]) (n := 5) (Nat.le_of_ble_eq_true rfl)
  rw [lg_entry_eq]
  generalize (lg_sl ([.ref (ad 0), .long x1]) ++ List.replicate (5 - (lg_sl ([.ref (ad 0), .long x1])).length) Slot.unset).toArray = ls at hl ⊢
  exact t_X12_comesNet_0 C0 hK N x1 σ _ _ ls h hP hD va_S.rf hl
theorem k_X12_comesNet (N : Nat) {R : Room} {H : Heap} {locs : List Loc} {cells slots : Nat} {Q2 : State → Prop} {cc : ByteArray} {nL pc index : Nat} {ls : Array Slot} {rest : List Value} {own : String} {c0 : Cond} {σ : zSt} {x1 : Int64} {Q : zSt → Prop} (S0 : CallFix p m c cc nL s args (c0 :: zT) own) (hml : Cond.methodLink own index yX12_comesNet ∈ zT) (hR : rm_X12_comesNet.frames + 1 ≤ R.frames ∧ 8 + (5 + 11) + rm_X12_comesNet.locals ≤ R.locals) (h : w_X12_comesNet N x1 σ Q) (hK : va_K (dC, dI) vwCl (m_ty cI cJ cC) s) (hP : va_P (dC, dI) vwCl (m_W ad cI cJ cC σ) H) (hD : va_D (zAW m_n ad s.heap.size) (m_W ad cI cJ cC σ)) (hS : va_S (zAW m_n ad s.heap.size) s.heap H locs) (hsz : ls.size = nL) (hW : (rest.map fun v => v.category).sum ≤ 8) (hcs : cells ≤ R.cells ∧ slots ≤ R.slots) (hdg : decode cc pc = .ok (.invokevirtual index, 3)) (kk : ∀ (τ : zSt) (H1 : Heap) (locs1 : List Loc), Q τ → va_P (dC, dI) vwCl (m_W ad cI cJ cC τ) H1 → va_D (zAW m_n ad s.heap.size) (m_W ad cI cJ cC τ) → va_S (zAW m_n ad s.heap.size) s.heap H1 locs1 → W p l e R s m args below meth c H1 locs1 cells slots Q2 (F0 m (pc + 3) ls (rest))) : W p l e R s m args below meth c H locs cells slots Q2 (F0 m pc ls (.long x1 :: .ref (ad 0) :: rest)) :=
  zcv_v (T := TX12) (N' := 83) (k := 0) (ci := 12) (fs := m_f0 ad σ) [.long x1] S0 (c_X12_comesNet N l dC dI ad cI cJ cC H.size σ x1 Q h) (cw_X12_comesNet S0.2.2.2.2 hml rfl rfl hR) rfl rfl hK hP hD hS rfl hsz hW rfl hcs hdg kk
end q25
section q25
def b_X12_coming_24 (N : Nat) (k_24 : Int32 → zSt → Prop) (Q : Int32 → zSt → Prop) (x1 : Int32) (σ : zSt) : Prop :=
  (x1 = 0 → Q (σ.1 28) σ) ∧ (¬ x1 = 0 → w_X12_many N σ (fun r1 τ2 => w_X12_netOf N r1 τ2 (fun r3 τ4 => w_X12_comesNet N r3 τ4 (fun τ6 => w_X12_many N τ6 (fun r7 τ8 => w_X12_goesOn_ N r7 τ8 (fun r9 τ10 => k_24 r9 τ10))))))
def w_X12_coming_24 (N : Nat) (Q : Int32 → zSt → Prop) : Nat → Int32 → zSt → Prop
  | 0 => fun _ _ => False
  | f + 1 => b_X12_coming_24 N (w_X12_coming_24 N  Q f) Q
def w_X12_coming (N : Nat)  (σ : zSt) (Q : Int32 → zSt → Prop) : Prop :=
  w_X12_areFew N σ (fun r1 τ2 => (r1 = 0 → Q (-1 : Int32) τ2) ∧ (¬ r1 = 0 → ∀ τ3 : zSt, τ3 = zI τ2 28 (0 : Int32) → w_X12_many N τ3 (fun r4 τ5 => w_X12_beginsOrder N r4 τ5 (fun τ7 => w_X12_coming_24 N Q N (1 : Int32) τ7))))
variable {p : Program} {l : Launch} {e : Env} {s : State} {m : MethodId} {args : Array Value} {below : List Frame} {meth : Method} {c : Code} {dC : Nat → ClassId} {dI : Nat → Nat → Nat} {ad : Nat → Nat} {cI cJ cC : ClassId}
set_option maxHeartbeats 4000000 in
set_option maxRecDepth 100000 in
theorem tb_X12_coming_24 (C0 : zCx p s m meth c args RX12 cX12_coming 2 (some .int) vs_X12_coming) (hK : va_K (dC, dI) vwCl (m_ty cI cJ cC) s) (N : Nat) {Q : Int32 → zSt → Prop} {k_24 : Int32 → zSt → Prop} (hk_24 : ∀ (x1 : Int32) (σ : zSt) (H : Heap) (locs : List Loc) (ls : Array Slot), k_24 x1 σ → va_P (dC, dI) vwCl (m_W ad cI cJ cC σ) H → va_D (zAW m_n ad s.heap.size) (m_W ad cI cJ cC σ) → va_S (zAW m_n ad s.heap.size) s.heap H locs → lv_has ls 2 [(0, .ref (ad 0)), (1, .int x1)] → W p l e rm_X12_coming s m args below meth c H locs 0 0 (MQ below (zQi (dC, dI) (m_ty cI cJ cC) (m_W ad cI cJ cC) (zAW m_n ad s.heap.size) Q) args s 0 0 (zAW m_n ad s.heap.size)) (F0 m 24 ls [])) : ∀ (x1 : Int32) (σ : zSt) (H : Heap) (locs : List Loc) (ls : Array Slot), b_X12_coming_24 N k_24 Q x1 σ → va_P (dC, dI) vwCl (m_W ad cI cJ cC σ) H → va_D (zAW m_n ad s.heap.size) (m_W ad cI cJ cC σ) → va_S (zAW m_n ad s.heap.size) s.heap H locs → lv_has ls 2 [(0, .ref (ad 0)), (1, .int x1)] → W p l e rm_X12_coming s m args below meth c H locs 0 0 (MQ below (zQi (dC, dI) (m_ty cI cJ cC) (m_W ad cI cJ cC) (zAW m_n ad s.heap.size) Q) args s 0 0 (zAW m_n ad s.heap.size)) (F0 m 24 ls []) := by
  obtain ⟨hx, hb, hml, hr, hown, hts, hlocks⟩ := id C0
  intro x1 σ H locs ls h hP hD hS hl
  unfold b_X12_coming_24 at h
  refine lv_iload_n hx hb dX12_coming_24 rfl (lv_at hl 1 rfl) ?_
  refine lv_if_eq (tgt := 52) hx hb dX12_coming_25 (by decide) (fun hc => ?_) (fun hc => ?_)
  · have h := h.1 hc
    refine lv_aload_n hx hb dX12_coming_52 rfl (lv_at hl 0 rfl) ?_
    refine mg_0_76 hx hb hts hown hK hP mw_909 dX12_coming_53 ?_
    exact zret_i hx hb hr hlocks hK hP hD hS h dX12_coming_56
  · have h := h.2 hc
    refine lv_aload_n hx hb dX12_coming_28 rfl (lv_at hl 0 rfl) ?_
    refine lv_aload_n hx hb dX12_coming_29 rfl (lv_at hl 0 rfl) ?_
    refine lv_aload_n hx hb dX12_coming_30 rfl (lv_at hl 0 rfl) ?_
    refine k_X12_many N ⟨hx, hb, hml, hown, hts⟩ mw_1044 ⟨Nat.le_of_ble_eq_true rfl, Nat.le_of_ble_eq_true rfl⟩ h hK hP hD hS hl.1 (rest := [.ref (ad 0), .ref (ad 0)]) (Nat.le_of_ble_eq_true rfl) ⟨Nat.le_of_ble_eq_true rfl, Nat.le_of_ble_eq_true rfl⟩ dX12_coming_31 (fun r1 τ2 H locs h hP hD hS => ?_)
    refine k_X12_netOf N ⟨hx, hb, hml, hown, hts⟩ mw_1259 ⟨Nat.le_of_ble_eq_true rfl, Nat.le_of_ble_eq_true rfl⟩ h hK hP hD hS hl.1 (rest := [.ref (ad 0)]) (Nat.le_of_ble_eq_true rfl) ⟨Nat.le_of_ble_eq_true rfl, Nat.le_of_ble_eq_true rfl⟩ dX12_coming_34 (fun r3 τ4 H locs h hP hD hS => ?_)
    refine k_X12_comesNet N ⟨hx, hb, hml, hown, hts⟩ mw_1262 ⟨Nat.le_of_ble_eq_true rfl, Nat.le_of_ble_eq_true rfl⟩ h hK hP hD hS hl.1 (rest := []) (Nat.le_of_ble_eq_true rfl) ⟨Nat.le_of_ble_eq_true rfl, Nat.le_of_ble_eq_true rfl⟩ dX12_coming_37 (fun τ6 H locs h hP hD hS => ?_)
    refine lv_aload_n hx hb dX12_coming_40 rfl (lv_at hl 0 rfl) ?_
    refine lv_aload_n hx hb dX12_coming_41 rfl (lv_at hl 0 rfl) ?_
    refine k_X12_many N ⟨hx, hb, hml, hown, hts⟩ mw_1044 ⟨Nat.le_of_ble_eq_true rfl, Nat.le_of_ble_eq_true rfl⟩ h hK hP hD hS hl.1 (rest := [.ref (ad 0)]) (Nat.le_of_ble_eq_true rfl) ⟨Nat.le_of_ble_eq_true rfl, Nat.le_of_ble_eq_true rfl⟩ dX12_coming_42 (fun r7 τ8 H locs h hP hD hS => ?_)
    refine k_X12_goesOn_ N ⟨hx, hb, hml, hown, hts⟩ mw_1239 ⟨Nat.le_of_ble_eq_true rfl, Nat.le_of_ble_eq_true rfl⟩ h hK hP hD hS hl.1 (rest := []) (Nat.le_of_ble_eq_true rfl) ⟨Nat.le_of_ble_eq_true rfl, Nat.le_of_ble_eq_true rfl⟩ dX12_coming_45 (fun r9 τ10 H locs h hP hD hS => ?_)
    refine lv_istore_n (lv' := [(1, .int r9), (0, .ref (ad 0))]) hx hb dX12_coming_48 rfl hl (by decide) rfl (fun ls hl => ?_)
    refine lv_goto (tgt := 24) hx hb dX12_coming_49 (by decide) ?_
    exact hk_24 r9 τ10 _ _ _ h hP hD hS (lv_sub hl [1, 0] rfl)
set_option maxHeartbeats 4000000 in
set_option maxRecDepth 100000 in
theorem t_X12_coming_24 (C0 : zCx p s m meth c args RX12 cX12_coming 2 (some .int) vs_X12_coming) (hK : va_K (dC, dI) vwCl (m_ty cI cJ cC) s) (N : Nat) {Q : Int32 → zSt → Prop} : ∀ (f : Nat) (x1 : Int32) (σ : zSt) (H : Heap) (locs : List Loc) (ls : Array Slot), w_X12_coming_24 N  Q f x1 σ → va_P (dC, dI) vwCl (m_W ad cI cJ cC σ) H → va_D (zAW m_n ad s.heap.size) (m_W ad cI cJ cC σ) → va_S (zAW m_n ad s.heap.size) s.heap H locs → lv_has ls 2 [(0, .ref (ad 0)), (1, .int x1)] → W p l e rm_X12_coming s m args below meth c H locs 0 0 (MQ below (zQi (dC, dI) (m_ty cI cJ cC) (m_W ad cI cJ cC) (zAW m_n ad s.heap.size) Q) args s 0 0 (zAW m_n ad s.heap.size)) (F0 m 24 ls []) := by
  intro f
  induction f with
  | zero => intro x1 σ H locs ls h; exact h.elim
  | succ f ih =>
    intro x1 σ H locs ls h hP hD hS hl
    exact tb_X12_coming_24 C0 hK N  (k_24 := w_X12_coming_24 N  Q f) ih x1 σ H locs ls h hP hD hS hl
set_option maxHeartbeats 4000000 in
set_option maxRecDepth 100000 in
theorem t_X12_coming_0 (C0 : zCx p s m meth c args RX12 cX12_coming 2 (some .int) vs_X12_coming) (hK : va_K (dC, dI) vwCl (m_ty cI cJ cC) s) (N : Nat) {Q : Int32 → zSt → Prop} : ∀  (σ : zSt) (H : Heap) (locs : List Loc) (ls : Array Slot), w_X12_coming N  σ Q → va_P (dC, dI) vwCl (m_W ad cI cJ cC σ) H → va_D (zAW m_n ad s.heap.size) (m_W ad cI cJ cC σ) → va_S (zAW m_n ad s.heap.size) s.heap H locs → lv_has ls 2 [(0, .ref (ad 0))] → W p l e rm_X12_coming s m args below meth c H locs 0 0 (MQ below (zQi (dC, dI) (m_ty cI cJ cC) (m_W ad cI cJ cC) (zAW m_n ad s.heap.size) Q) args s 0 0 (zAW m_n ad s.heap.size)) (F0 m 0 ls []) := by
  obtain ⟨hx, hb, hml, hr, hown, hts, hlocks⟩ := id C0
  intro  σ H locs ls h hP hD hS hl
  unfold w_X12_coming at h
  refine lv_aload_n hx hb dX12_coming_0 rfl (lv_at hl 0 rfl) ?_
  refine k_X12_areFew N ⟨hx, hb, hml, hown, hts⟩ mw_1226 ⟨Nat.le_of_ble_eq_true rfl, Nat.le_of_ble_eq_true rfl⟩ h hK hP hD hS hl.1 (rest := []) (Nat.le_of_ble_eq_true rfl) ⟨Nat.le_of_ble_eq_true rfl, Nat.le_of_ble_eq_true rfl⟩ dX12_coming_1 (fun r1 τ2 H locs h hP hD hS => ?_)
  refine lv_if_ne (tgt := 9) hx hb dX12_coming_4 (by decide) (fun hc => ?_) (fun hc => ?_)
  · have h := h.2 hc
    refine lv_aload_n hx hb dX12_coming_9 rfl (lv_at hl 0 rfl) ?_
    refine lv_iconst (v := (0 : Int32)) hx hb dX12_coming_10 (by decide) ?_
    refine mp_0_76 hx hb hts hown hK hP hD hS mw_909 dX12_coming_11 (fun τ3 H locs eτ3 hP hD hS => ?_)
    have h := h τ3 eτ3
    refine lv_aload_n hx hb dX12_coming_14 rfl (lv_at hl 0 rfl) ?_
    refine lv_aload_n hx hb dX12_coming_15 rfl (lv_at hl 0 rfl) ?_
    refine k_X12_many N ⟨hx, hb, hml, hown, hts⟩ mw_1044 ⟨Nat.le_of_ble_eq_true rfl, Nat.le_of_ble_eq_true rfl⟩ h hK hP hD hS hl.1 (rest := [.ref (ad 0)]) (Nat.le_of_ble_eq_true rfl) ⟨Nat.le_of_ble_eq_true rfl, Nat.le_of_ble_eq_true rfl⟩ dX12_coming_16 (fun r4 τ5 H locs h hP hD hS => ?_)
    refine k_X12_beginsOrder N ⟨hx, hb, hml, hown, hts⟩ mw_1236 ⟨Nat.le_of_ble_eq_true rfl, Nat.le_of_ble_eq_true rfl⟩ h hK hP hD hS hl.1 (rest := []) (Nat.le_of_ble_eq_true rfl) ⟨Nat.le_of_ble_eq_true rfl, Nat.le_of_ble_eq_true rfl⟩ dX12_coming_19 (fun τ7 H locs h hP hD hS => ?_)
    refine lv_iconst (v := (1 : Int32)) hx hb dX12_coming_22 (by decide) ?_
    refine lv_istore_n (lv' := [(1, .int (1 : Int32)), (0, .ref (ad 0))]) hx hb dX12_coming_23 rfl hl (by decide) rfl (fun ls hl => ?_)
    exact t_X12_coming_24 C0 hK N  N (1 : Int32) τ7 _ _ _ h hP hD hS (lv_sub hl [1, 0] rfl)
  · have h := h.1 hc
    refine lv_iconst (v := (-1 : Int32)) hx hb dX12_coming_7 (by decide) ?_
    exact zret_i hx hb hr hlocks hK hP hD hS h dX12_coming_8
set_option maxHeartbeats 4000000 in
set_option maxRecDepth 100000 in
theorem c_X12_coming (N : Nat) (l : Launch) (dC : Nat → ClassId) (dI : Nat → Nat → Nat) (ad : Nat → Nat) (cI cJ cC : ClassId) (sz : Nat) (σ : zSt)  (Q : Int32 → zSt → Prop) (h : w_X12_coming N  σ Q) : Met l yX12_coming vs_X12_coming rm_X12_coming (va_Pc [.ref (ad 0)] (zPc (dC, dI) (m_ty cI cJ cC) (m_W ad cI cJ cC) sz σ)) (zQi (dC, dI) (m_ty cI cJ cC) (m_W ad cI cJ cC) (zAW m_n ad sz) Q) 0 0 (zAW m_n ad sz) := by
  refine Met.ofW (cc := cX12_coming) (maxL := 2) (ret := (some .int)) (by decide) rfl ?_
  intro p e s m args below meth c s₁ B hml hv
  obtain ⟨rfl, hsz, hP, hK, hD0⟩ := hv
  subst hsz
  have C0 : zCx p s m meth c _ RX12 cX12_coming 2 (some .int) vs_X12_coming := ⟨B.exec, B.bytes, hml, B.returns, findClass_of_methodNamed B.named, atoms_spec (ws := vs_X12_coming) B.pre, B.notSynchronized⟩
  have hD := m_D0 (n0 := s.heap.size) hD0
  have hl := lv_entry ([.ref (ad 0)]) (n := 2) (Nat.le_of_ble_eq_true rfl)
  rw [lg_entry_eq]
  generalize (lg_sl ([.ref (ad 0)]) ++ List.replicate (2 - (lg_sl ([.ref (ad 0)])).length) Slot.unset).toArray = ls at hl ⊢
  exact t_X12_coming_0 C0 hK N  σ _ _ ls h hP hD va_S.rf hl
theorem k_X12_coming (N : Nat) {R : Room} {H : Heap} {locs : List Loc} {cells slots : Nat} {Q2 : State → Prop} {cc : ByteArray} {nL pc index : Nat} {ls : Array Slot} {rest : List Value} {own : String} {c0 : Cond} {σ : zSt}  {Q : Int32 → zSt → Prop} (S0 : CallFix p m c cc nL s args (c0 :: zT) own) (hml : Cond.methodLink own index yX12_coming ∈ zT) (hR : rm_X12_coming.frames + 1 ≤ R.frames ∧ 8 + (2 + 11) + rm_X12_coming.locals ≤ R.locals) (h : w_X12_coming N  σ Q) (hK : va_K (dC, dI) vwCl (m_ty cI cJ cC) s) (hP : va_P (dC, dI) vwCl (m_W ad cI cJ cC σ) H) (hD : va_D (zAW m_n ad s.heap.size) (m_W ad cI cJ cC σ)) (hS : va_S (zAW m_n ad s.heap.size) s.heap H locs) (hsz : ls.size = nL) (hW : (rest.map fun v => v.category).sum ≤ 8) (hcs : cells ≤ R.cells ∧ slots ≤ R.slots) (hdg : decode cc pc = .ok (.invokevirtual index, 3)) (kk : ∀ (r : Int32) (τ : zSt) (H1 : Heap) (locs1 : List Loc), Q r τ → va_P (dC, dI) vwCl (m_W ad cI cJ cC τ) H1 → va_D (zAW m_n ad s.heap.size) (m_W ad cI cJ cC τ) → va_S (zAW m_n ad s.heap.size) s.heap H1 locs1 → W p l e R s m args below meth c H1 locs1 cells slots Q2 (F0 m (pc + 3) ls (.int r :: rest))) : W p l e R s m args below meth c H locs cells slots Q2 (F0 m pc ls (.ref (ad 0) :: rest)) :=
  zcv_i (T := TX12) (N' := 83) (k := 0) (ci := 12) (fs := m_f0 ad σ) [] S0 (c_X12_coming N l dC dI ad cI cJ cC H.size σ  Q h) (cw_X12_coming S0.2.2.2.2 hml rfl rfl hR) rfl rfl hK hP hD hS rfl hsz hW rfl hcs hdg kk
end q25
section q25
def w_X12_comes (N : Nat) (x1 : Int32) (x2 : Int32) (σ : zSt) (Q : Int64 → zSt → Prop) : Prop :=
  (x1 < 0 → Q (-1 : Int64) σ) ∧ (¬ x1 < 0 → (x1 < (σ.1 28) → (x2 = 0 → (vp_in x1 120) ∧ (Q (σ.2.2.2 7 x1.toNatClampNeg) σ)) ∧ (¬ x2 = 0 → (vp_in x1 120) ∧ (Q (σ.2.2.1 16 x1.toNatClampNeg).toInt64 σ))) ∧ (¬ x1 < (σ.1 28) → Q (-1 : Int64) σ))
variable {p : Program} {l : Launch} {e : Env} {s : State} {m : MethodId} {args : Array Value} {below : List Frame} {meth : Method} {c : Code} {dC : Nat → ClassId} {dI : Nat → Nat → Nat} {ad : Nat → Nat} {cI cJ cC : ClassId}
set_option maxHeartbeats 4000000 in
set_option maxRecDepth 100000 in
theorem t_X12_comes_0 (C0 : zCx p s m meth c args RX12 cX12_comes 3 (some .long) vs_X12_comes) (hK : va_K (dC, dI) vwCl (m_ty cI cJ cC) s) (N : Nat) {Q : Int64 → zSt → Prop} : ∀ (x1 : Int32) (x2 : Int32) (σ : zSt) (H : Heap) (locs : List Loc) (ls : Array Slot), w_X12_comes N x1 x2 σ Q → va_P (dC, dI) vwCl (m_W ad cI cJ cC σ) H → va_D (zAW m_n ad s.heap.size) (m_W ad cI cJ cC σ) → va_S (zAW m_n ad s.heap.size) s.heap H locs → lv_has ls 3 [(0, .ref (ad 0)), (1, .int x1), (2, .int x2)] → W p l e rm_X12_comes s m args below meth c H locs 0 0 (MQ below (zQl (dC, dI) (m_ty cI cJ cC) (m_W ad cI cJ cC) (zAW m_n ad s.heap.size) Q) args s 0 0 (zAW m_n ad s.heap.size)) (F0 m 0 ls []) := by
  obtain ⟨hx, hb, hml, hr, hown, hts, hlocks⟩ := id C0
  intro x1 x2 σ H locs ls h hP hD hS hl
  unfold w_X12_comes at h
  refine lv_iload_n hx hb dX12_comes_0 rfl (lv_at hl 1 rfl) ?_
  refine lv_if_lt (tgt := 12) hx hb dX12_comes_1 (by decide) (fun hc => ?_) (fun hc => ?_)
  · have h := h.1 hc
    refine lv_ldc2 (v := (-1 : Int64)) hx hb hown (hts _ (List.mem_cons_of_mem _ mw_832)) dX12_comes_12 ?_
    refine lv_goto (tgt := 38) hx hb dX12_comes_15 (by decide) ?_
    exact zret_l hx hb hr hlocks hK hP hD hS h dX12_comes_38
  · have h := h.2 hc
    refine lv_iload_n hx hb dX12_comes_4 rfl (lv_at hl 1 rfl) ?_
    refine lv_aload_n hx hb dX12_comes_5 rfl (lv_at hl 0 rfl) ?_
    refine mg_0_76 hx hb hts hown hK hP mw_909 dX12_comes_6 ?_
    refine lv_icmp_lt (tgt := 18) hx hb dX12_comes_9 (by decide) (fun hc => ?_) (fun hc => ?_)
    · have h := h.1 hc
      refine lv_iload_n hx hb dX12_comes_18 rfl (lv_at hl 2 rfl) ?_
      refine lv_if_eq (tgt := 32) hx hb dX12_comes_19 (by decide) (fun hc => ?_) (fun hc => ?_)
      · have h := h.1 hc
        refine lv_aload_n hx hb dX12_comes_32 rfl (lv_at hl 0 rfl) ?_
        refine mg_0_77 hx hb hts hown hK hP mw_910 dX12_comes_33 ?_
        refine lv_iload_n hx hb dX12_comes_36 rfl (lv_at hl 1 rfl) ?_
        refine ma_24 hx hb hK hP h.1 rfl dX12_comes_37 ?_
        have h := h.2
        exact zret_l hx hb hr hlocks hK hP hD hS h dX12_comes_38
      · have h := h.2 hc
        refine lv_aload_n hx hb dX12_comes_22 rfl (lv_at hl 0 rfl) ?_
        refine mg_0_78 hx hb hts hown hK hP mw_911 dX12_comes_23 ?_
        refine lv_iload_n hx hb dX12_comes_26 rfl (lv_at hl 1 rfl) ?_
        refine ma_25 hx hb hK hP h.1 rfl dX12_comes_27 ?_
        have h := h.2
        refine lv_i2l hx hb dX12_comes_28 rfl ?_
        refine lv_goto (tgt := 38) hx hb dX12_comes_29 (by decide) ?_
        exact zret_l hx hb hr hlocks hK hP hD hS h dX12_comes_38
    · have h := h.2 hc
      refine lv_ldc2 (v := (-1 : Int64)) hx hb hown (hts _ (List.mem_cons_of_mem _ mw_832)) dX12_comes_12 ?_
      refine lv_goto (tgt := 38) hx hb dX12_comes_15 (by decide) ?_
      exact zret_l hx hb hr hlocks hK hP hD hS h dX12_comes_38
set_option maxHeartbeats 4000000 in
set_option maxRecDepth 100000 in
theorem c_X12_comes (N : Nat) (l : Launch) (dC : Nat → ClassId) (dI : Nat → Nat → Nat) (ad : Nat → Nat) (cI cJ cC : ClassId) (sz : Nat) (σ : zSt) (x1 : Int32) (x2 : Int32) (Q : Int64 → zSt → Prop) (h : w_X12_comes N x1 x2 σ Q) : Met l yX12_comes vs_X12_comes rm_X12_comes (va_Pc [.ref (ad 0), .int x1, .int x2] (zPc (dC, dI) (m_ty cI cJ cC) (m_W ad cI cJ cC) sz σ)) (zQl (dC, dI) (m_ty cI cJ cC) (m_W ad cI cJ cC) (zAW m_n ad sz) Q) 0 0 (zAW m_n ad sz) := by
  refine Met.ofW (cc := cX12_comes) (maxL := 3) (ret := (some .long)) (by decide) rfl ?_
  intro p e s m args below meth c s₁ B hml hv
  obtain ⟨rfl, hsz, hP, hK, hD0⟩ := hv
  subst hsz
  have C0 : zCx p s m meth c _ RX12 cX12_comes 3 (some .long) vs_X12_comes := ⟨B.exec, B.bytes, hml, B.returns, findClass_of_methodNamed B.named, atoms_spec (ws := vs_X12_comes) B.pre, B.notSynchronized⟩
  have hD := m_D0 (n0 := s.heap.size) hD0
  have hl := lv_entry ([.ref (ad 0), .int x1, .int x2]) (n := 3) (Nat.le_of_ble_eq_true rfl)
  rw [lg_entry_eq]
  generalize (lg_sl ([.ref (ad 0), .int x1, .int x2]) ++ List.replicate (3 - (lg_sl ([.ref (ad 0), .int x1, .int x2])).length) Slot.unset).toArray = ls at hl ⊢
  exact t_X12_comes_0 C0 hK N x1 x2 σ _ _ ls h hP hD va_S.rf hl
theorem k_X12_comes (N : Nat) {R : Room} {H : Heap} {locs : List Loc} {cells slots : Nat} {Q2 : State → Prop} {cc : ByteArray} {nL pc index : Nat} {ls : Array Slot} {rest : List Value} {own : String} {c0 : Cond} {σ : zSt} {x1 : Int32} {x2 : Int32} {Q : Int64 → zSt → Prop} (S0 : CallFix p m c cc nL s args (c0 :: zT) own) (hml : Cond.methodLink own index yX12_comes ∈ zT) (hR : rm_X12_comes.frames + 1 ≤ R.frames ∧ 8 + (3 + 11) + rm_X12_comes.locals ≤ R.locals) (h : w_X12_comes N x1 x2 σ Q) (hK : va_K (dC, dI) vwCl (m_ty cI cJ cC) s) (hP : va_P (dC, dI) vwCl (m_W ad cI cJ cC σ) H) (hD : va_D (zAW m_n ad s.heap.size) (m_W ad cI cJ cC σ)) (hS : va_S (zAW m_n ad s.heap.size) s.heap H locs) (hsz : ls.size = nL) (hW : (rest.map fun v => v.category).sum ≤ 8) (hcs : cells ≤ R.cells ∧ slots ≤ R.slots) (hdg : decode cc pc = .ok (.invokevirtual index, 3)) (kk : ∀ (r : Int64) (τ : zSt) (H1 : Heap) (locs1 : List Loc), Q r τ → va_P (dC, dI) vwCl (m_W ad cI cJ cC τ) H1 → va_D (zAW m_n ad s.heap.size) (m_W ad cI cJ cC τ) → va_S (zAW m_n ad s.heap.size) s.heap H1 locs1 → W p l e R s m args below meth c H1 locs1 cells slots Q2 (F0 m (pc + 3) ls (.long r :: rest))) : W p l e R s m args below meth c H locs cells slots Q2 (F0 m pc ls (.int x2 :: .int x1 :: .ref (ad 0) :: rest)) :=
  zcv_l (T := TX12) (N' := 83) (k := 0) (ci := 12) (fs := m_f0 ad σ) [.int x1, .int x2] S0 (c_X12_comes N l dC dI ad cI cJ cC H.size σ x1 x2 Q h) (cw_X12_comes S0.2.2.2.2 hml rfl rfl hR) rfl rfl hK hP hD hS rfl hsz hW rfl hcs hdg kk
end q25
section q25
def w_X12_needOf (N : Nat) (x1 : Int32) (x2 : Int32) (σ : zSt) (Q : Int64 → zSt → Prop) : Prop :=
  w_X12_worthOf N ((σ.2.1 0) &&& (((1 : Int64) <<< (x2.toInt64 &&& 63)) ^^^ (-1 : Int64))) x1 σ (fun r1 τ2 => (vp_in x1 10) ∧ (∀ v3 : Int64, v3 = r1 - (τ2.2.2.2 4 x1.toNatClampNeg) → ((lg_cmp v3 (0 : Int64)) ≤ 0 → Q (0 : Int64) τ2) ∧ (¬ (lg_cmp v3 (0 : Int64)) ≤ 0 → Q v3 τ2)))
variable {p : Program} {l : Launch} {e : Env} {s : State} {m : MethodId} {args : Array Value} {below : List Frame} {meth : Method} {c : Code} {dC : Nat → ClassId} {dI : Nat → Nat → Nat} {ad : Nat → Nat} {cI cJ cC : ClassId}
set_option maxHeartbeats 4000000 in
set_option maxRecDepth 100000 in
theorem t_X12_needOf_0 (C0 : zCx p s m meth c args RX12 cX12_needOf 5 (some .long) vs_X12_needOf) (hK : va_K (dC, dI) vwCl (m_ty cI cJ cC) s) (N : Nat) {Q : Int64 → zSt → Prop} : ∀ (x1 : Int32) (x2 : Int32) (σ : zSt) (H : Heap) (locs : List Loc) (ls : Array Slot), w_X12_needOf N x1 x2 σ Q → va_P (dC, dI) vwCl (m_W ad cI cJ cC σ) H → va_D (zAW m_n ad s.heap.size) (m_W ad cI cJ cC σ) → va_S (zAW m_n ad s.heap.size) s.heap H locs → lv_has ls 5 [(0, .ref (ad 0)), (1, .int x1), (2, .int x2)] → W p l e rm_X12_needOf s m args below meth c H locs 0 0 (MQ below (zQl (dC, dI) (m_ty cI cJ cC) (m_W ad cI cJ cC) (zAW m_n ad s.heap.size) Q) args s 0 0 (zAW m_n ad s.heap.size)) (F0 m 0 ls []) := by
  obtain ⟨hx, hb, hml, hr, hown, hts, hlocks⟩ := id C0
  intro x1 x2 σ H locs ls h hP hD hS hl
  unfold w_X12_needOf at h
  refine lv_aload_n hx hb dX12_needOf_0 rfl (lv_at hl 0 rfl) ?_
  refine lv_aload_n hx hb dX12_needOf_1 rfl (lv_at hl 0 rfl) ?_
  refine mg_0_47 hx hb hts hown hK hP mw_880 dX12_needOf_2 ?_
  refine lv_lconst (v := (1 : Int64)) hx hb dX12_needOf_5 (by decide) ?_
  refine lv_iload_n hx hb dX12_needOf_6 rfl (lv_at hl 2 rfl) ?_
  refine lv_lshl hx hb dX12_needOf_7 rfl ?_
  refine lv_ldc2 (v := (-1 : Int64)) hx hb hown (hts _ (List.mem_cons_of_mem _ mw_832)) dX12_needOf_8 ?_
  refine lv_lxor hx hb dX12_needOf_11 ?_
  refine lv_land hx hb dX12_needOf_12 ?_
  refine lv_iload_n hx hb dX12_needOf_13 rfl (lv_at hl 1 rfl) ?_
  refine k_X12_worthOf N ⟨hx, hb, hml, hown, hts⟩ mw_1104 ⟨Nat.le_of_ble_eq_true rfl, Nat.le_of_ble_eq_true rfl⟩ h hK hP hD hS hl.1 (rest := []) (Nat.le_of_ble_eq_true rfl) ⟨Nat.le_of_ble_eq_true rfl, Nat.le_of_ble_eq_true rfl⟩ dX12_needOf_14 (fun r1 τ2 H locs h hP hD hS => ?_)
  refine lv_aload_n hx hb dX12_needOf_17 rfl (lv_at hl 0 rfl) ?_
  refine mg_0_59 hx hb hts hown hK hP mw_892 dX12_needOf_18 ?_
  refine lv_iload_n hx hb dX12_needOf_21 rfl (lv_at hl 1 rfl) ?_
  refine ma_19 hx hb hK hP h.1 rfl dX12_needOf_22 ?_
  have h := h.2
  refine lv_lsub hx hb dX12_needOf_23 ?_
  refine lv_topl (fun v3 ev3 => ?_)
  have h := h v3 ev3
  refine lv_lstore_n (lv' := [(3, .long v3), (0, .ref (ad 0)), (1, .int x1), (2, .int x2)]) hx hb dX12_needOf_24 rfl hl (by decide) rfl (fun ls hl => ?_)
  refine lv_lload_n hx hb dX12_needOf_25 rfl (lv_at hl 0 rfl) ?_
  refine lv_lconst (v := (0 : Int64)) hx hb dX12_needOf_26 (by decide) ?_
  refine W.lcmp hx hb dX12_needOf_27 ?_
  refine lv_if_le (tgt := 35) hx hb dX12_needOf_28 (by decide) (fun hc => ?_) (fun hc => ?_)
  · have h := h.1 hc
    refine lv_lconst (v := (0 : Int64)) hx hb dX12_needOf_35 (by decide) ?_
    exact zret_l hx hb hr hlocks hK hP hD hS h dX12_needOf_36
  · have h := h.2 hc
    refine lv_lload_n hx hb dX12_needOf_31 rfl (lv_at hl 0 rfl) ?_
    refine lv_goto (tgt := 36) hx hb dX12_needOf_32 (by decide) ?_
    exact zret_l hx hb hr hlocks hK hP hD hS h dX12_needOf_36
set_option maxHeartbeats 4000000 in
set_option maxRecDepth 100000 in
theorem c_X12_needOf (N : Nat) (l : Launch) (dC : Nat → ClassId) (dI : Nat → Nat → Nat) (ad : Nat → Nat) (cI cJ cC : ClassId) (sz : Nat) (σ : zSt) (x1 : Int32) (x2 : Int32) (Q : Int64 → zSt → Prop) (h : w_X12_needOf N x1 x2 σ Q) : Met l yX12_needOf vs_X12_needOf rm_X12_needOf (va_Pc [.ref (ad 0), .int x1, .int x2] (zPc (dC, dI) (m_ty cI cJ cC) (m_W ad cI cJ cC) sz σ)) (zQl (dC, dI) (m_ty cI cJ cC) (m_W ad cI cJ cC) (zAW m_n ad sz) Q) 0 0 (zAW m_n ad sz) := by
  refine Met.ofW (cc := cX12_needOf) (maxL := 5) (ret := (some .long)) (by decide) rfl ?_
  intro p e s m args below meth c s₁ B hml hv
  obtain ⟨rfl, hsz, hP, hK, hD0⟩ := hv
  subst hsz
  have C0 : zCx p s m meth c _ RX12 cX12_needOf 5 (some .long) vs_X12_needOf := ⟨B.exec, B.bytes, hml, B.returns, findClass_of_methodNamed B.named, atoms_spec (ws := vs_X12_needOf) B.pre, B.notSynchronized⟩
  have hD := m_D0 (n0 := s.heap.size) hD0
  have hl := lv_entry ([.ref (ad 0), .int x1, .int x2]) (n := 5) (Nat.le_of_ble_eq_true rfl)
  rw [lg_entry_eq]
  generalize (lg_sl ([.ref (ad 0), .int x1, .int x2]) ++ List.replicate (5 - (lg_sl ([.ref (ad 0), .int x1, .int x2])).length) Slot.unset).toArray = ls at hl ⊢
  exact t_X12_needOf_0 C0 hK N x1 x2 σ _ _ ls h hP hD va_S.rf hl
theorem k_X12_needOf (N : Nat) {R : Room} {H : Heap} {locs : List Loc} {cells slots : Nat} {Q2 : State → Prop} {cc : ByteArray} {nL pc index : Nat} {ls : Array Slot} {rest : List Value} {own : String} {c0 : Cond} {σ : zSt} {x1 : Int32} {x2 : Int32} {Q : Int64 → zSt → Prop} (S0 : CallFix p m c cc nL s args (c0 :: zT) own) (hml : Cond.methodLink own index yX12_needOf ∈ zT) (hR : rm_X12_needOf.frames + 1 ≤ R.frames ∧ 8 + (5 + 11) + rm_X12_needOf.locals ≤ R.locals) (h : w_X12_needOf N x1 x2 σ Q) (hK : va_K (dC, dI) vwCl (m_ty cI cJ cC) s) (hP : va_P (dC, dI) vwCl (m_W ad cI cJ cC σ) H) (hD : va_D (zAW m_n ad s.heap.size) (m_W ad cI cJ cC σ)) (hS : va_S (zAW m_n ad s.heap.size) s.heap H locs) (hsz : ls.size = nL) (hW : (rest.map fun v => v.category).sum ≤ 8) (hcs : cells ≤ R.cells ∧ slots ≤ R.slots) (hdg : decode cc pc = .ok (.invokevirtual index, 3)) (kk : ∀ (r : Int64) (τ : zSt) (H1 : Heap) (locs1 : List Loc), Q r τ → va_P (dC, dI) vwCl (m_W ad cI cJ cC τ) H1 → va_D (zAW m_n ad s.heap.size) (m_W ad cI cJ cC τ) → va_S (zAW m_n ad s.heap.size) s.heap H1 locs1 → W p l e R s m args below meth c H1 locs1 cells slots Q2 (F0 m (pc + 3) ls (.long r :: rest))) : W p l e R s m args below meth c H locs cells slots Q2 (F0 m pc ls (.int x2 :: .int x1 :: .ref (ad 0) :: rest)) :=
  zcv_l (T := TX12) (N' := 83) (k := 0) (ci := 12) (fs := m_f0 ad σ) [.int x1, .int x2] S0 (c_X12_needOf N l dC dI ad cI cJ cC H.size σ x1 x2 Q h) (cw_X12_needOf S0.2.2.2.2 hml rfl rfl hR) rfl rfl hK hP hD hS rfl hsz hW rfl hcs hdg kk
end q25
section q25
def w_X12_beside (N : Nat) (x1 : Int32) (x2 : Int32) (σ : zSt) (Q : Int32 → zSt → Prop) : Prop :=
  w_X12_lowOf N x2 σ (fun r1 τ2 => (r1 = x1 → w_X12_highOf N x2 τ2 (fun r5 τ6 => Q r5 τ6)) ∧ (¬ r1 = x1 → w_X12_lowOf N x2 τ2 (fun r3 τ4 => Q r3 τ4)))
variable {p : Program} {l : Launch} {e : Env} {s : State} {m : MethodId} {args : Array Value} {below : List Frame} {meth : Method} {c : Code} {dC : Nat → ClassId} {dI : Nat → Nat → Nat} {ad : Nat → Nat} {cI cJ cC : ClassId}
set_option maxHeartbeats 4000000 in
set_option maxRecDepth 100000 in
theorem t_X12_beside_0 (C0 : zCx p s m meth c args RX12 cX12_beside 3 (some .int) vs_X12_beside) (hK : va_K (dC, dI) vwCl (m_ty cI cJ cC) s) (N : Nat) {Q : Int32 → zSt → Prop} : ∀ (x1 : Int32) (x2 : Int32) (σ : zSt) (H : Heap) (locs : List Loc) (ls : Array Slot), w_X12_beside N x1 x2 σ Q → va_P (dC, dI) vwCl (m_W ad cI cJ cC σ) H → va_D (zAW m_n ad s.heap.size) (m_W ad cI cJ cC σ) → va_S (zAW m_n ad s.heap.size) s.heap H locs → lv_has ls 3 [(0, .ref (ad 0)), (1, .int x1), (2, .int x2)] → W p l e rm_X12_beside s m args below meth c H locs 0 0 (MQ below (zQi (dC, dI) (m_ty cI cJ cC) (m_W ad cI cJ cC) (zAW m_n ad s.heap.size) Q) args s 0 0 (zAW m_n ad s.heap.size)) (F0 m 0 ls []) := by
  obtain ⟨hx, hb, hml, hr, hown, hts, hlocks⟩ := id C0
  intro x1 x2 σ H locs ls h hP hD hS hl
  unfold w_X12_beside at h
  refine lv_iload_n hx hb dX12_beside_0 rfl (lv_at hl 2 rfl) ?_
  refine k_X12_lowOf N ⟨hx, hb, hml, hown, hts⟩ mw_1154 ⟨Nat.le_of_ble_eq_true rfl, Nat.le_of_ble_eq_true rfl⟩ h hK hP hD hS hl.1 (rest := []) (Nat.le_of_ble_eq_true rfl) ⟨Nat.le_of_ble_eq_true rfl, Nat.le_of_ble_eq_true rfl⟩ dX12_beside_1 (fun r1 τ2 H locs h hP hD hS => ?_)
  refine lv_iload_n hx hb dX12_beside_4 rfl (lv_at hl 1 rfl) ?_
  refine lv_icmp_ne (tgt := 15) hx hb dX12_beside_5 (by decide) (fun hc => ?_) (fun hc => ?_)
  · have h := h.2 hc
    refine lv_iload_n hx hb dX12_beside_15 rfl (lv_at hl 2 rfl) ?_
    refine k_X12_lowOf N ⟨hx, hb, hml, hown, hts⟩ mw_1154 ⟨Nat.le_of_ble_eq_true rfl, Nat.le_of_ble_eq_true rfl⟩ h hK hP hD hS hl.1 (rest := []) (Nat.le_of_ble_eq_true rfl) ⟨Nat.le_of_ble_eq_true rfl, Nat.le_of_ble_eq_true rfl⟩ dX12_beside_16 (fun r3 τ4 H locs h hP hD hS => ?_)
    exact zret_i hx hb hr hlocks hK hP hD hS h dX12_beside_19
  · have h := h.1 hc
    refine lv_iload_n hx hb dX12_beside_8 rfl (lv_at hl 2 rfl) ?_
    refine k_X12_highOf N ⟨hx, hb, hml, hown, hts⟩ mw_1157 ⟨Nat.le_of_ble_eq_true rfl, Nat.le_of_ble_eq_true rfl⟩ h hK hP hD hS hl.1 (rest := []) (Nat.le_of_ble_eq_true rfl) ⟨Nat.le_of_ble_eq_true rfl, Nat.le_of_ble_eq_true rfl⟩ dX12_beside_9 (fun r5 τ6 H locs h hP hD hS => ?_)
    refine lv_goto (tgt := 19) hx hb dX12_beside_12 (by decide) ?_
    exact zret_i hx hb hr hlocks hK hP hD hS h dX12_beside_19
set_option maxHeartbeats 4000000 in
set_option maxRecDepth 100000 in
theorem c_X12_beside (N : Nat) (l : Launch) (dC : Nat → ClassId) (dI : Nat → Nat → Nat) (ad : Nat → Nat) (cI cJ cC : ClassId) (sz : Nat) (σ : zSt) (x1 : Int32) (x2 : Int32) (Q : Int32 → zSt → Prop) (h : w_X12_beside N x1 x2 σ Q) : Met l yX12_beside vs_X12_beside rm_X12_beside (va_Pc [.ref (ad 0), .int x1, .int x2] (zPc (dC, dI) (m_ty cI cJ cC) (m_W ad cI cJ cC) sz σ)) (zQi (dC, dI) (m_ty cI cJ cC) (m_W ad cI cJ cC) (zAW m_n ad sz) Q) 0 0 (zAW m_n ad sz) := by
  refine Met.ofW (cc := cX12_beside) (maxL := 3) (ret := (some .int)) (by decide) rfl ?_
  intro p e s m args below meth c s₁ B hml hv
  obtain ⟨rfl, hsz, hP, hK, hD0⟩ := hv
  subst hsz
  have C0 : zCx p s m meth c _ RX12 cX12_beside 3 (some .int) vs_X12_beside := ⟨B.exec, B.bytes, hml, B.returns, findClass_of_methodNamed B.named, atoms_spec (ws := vs_X12_beside) B.pre, B.notSynchronized⟩
  have hD := m_D0 (n0 := s.heap.size) hD0
  have hl := lv_entry ([.ref (ad 0), .int x1, .int x2]) (n := 3) (Nat.le_of_ble_eq_true rfl)
  rw [lg_entry_eq]
  generalize (lg_sl ([.ref (ad 0), .int x1, .int x2]) ++ List.replicate (3 - (lg_sl ([.ref (ad 0), .int x1, .int x2])).length) Slot.unset).toArray = ls at hl ⊢
  exact t_X12_beside_0 C0 hK N x1 x2 σ _ _ ls h hP hD va_S.rf hl
theorem k_X12_beside (N : Nat) {R : Room} {H : Heap} {locs : List Loc} {cells slots : Nat} {Q2 : State → Prop} {cc : ByteArray} {nL pc index : Nat} {ls : Array Slot} {rest : List Value} {own : String} {c0 : Cond} {σ : zSt} {x1 : Int32} {x2 : Int32} {Q : Int32 → zSt → Prop} (S0 : CallFix p m c cc nL s args (c0 :: zT) own) (hml : Cond.methodLink own index yX12_beside ∈ zT) (hR : rm_X12_beside.frames + 1 ≤ R.frames ∧ 8 + (3 + 11) + rm_X12_beside.locals ≤ R.locals) (h : w_X12_beside N x1 x2 σ Q) (hK : va_K (dC, dI) vwCl (m_ty cI cJ cC) s) (hP : va_P (dC, dI) vwCl (m_W ad cI cJ cC σ) H) (hD : va_D (zAW m_n ad s.heap.size) (m_W ad cI cJ cC σ)) (hS : va_S (zAW m_n ad s.heap.size) s.heap H locs) (hsz : ls.size = nL) (hW : (rest.map fun v => v.category).sum ≤ 8) (hcs : cells ≤ R.cells ∧ slots ≤ R.slots) (hdg : decode cc pc = .ok (.invokevirtual index, 3)) (kk : ∀ (r : Int32) (τ : zSt) (H1 : Heap) (locs1 : List Loc), Q r τ → va_P (dC, dI) vwCl (m_W ad cI cJ cC τ) H1 → va_D (zAW m_n ad s.heap.size) (m_W ad cI cJ cC τ) → va_S (zAW m_n ad s.heap.size) s.heap H1 locs1 → W p l e R s m args below meth c H1 locs1 cells slots Q2 (F0 m (pc + 3) ls (.int r :: rest))) : W p l e R s m args below meth c H locs cells slots Q2 (F0 m pc ls (.int x2 :: .int x1 :: .ref (ad 0) :: rest)) :=
  zcv_i (T := TX12) (N' := 83) (k := 0) (ci := 12) (fs := m_f0 ad σ) [.int x1, .int x2] S0 (c_X12_beside N l dC dI ad cI cJ cC H.size σ x1 x2 Q h) (cw_X12_beside S0.2.2.2.2 hml rfl rfl hR) rfl rfl hK hP hD hS rfl hsz hW rfl hcs hdg kk
end q25
section q25
def w_X12_passes (N : Nat) (x1 : Int32) (x2 : Int32) (σ : zSt) (Q : Int64 → zSt → Prop) : Prop :=
  w_X12_needOf N x1 x2 σ (fun r1 τ2 => w_X12_beside N x1 x2 τ2 (fun r3 τ4 => (vp_in r3 10) ∧ (w_X12_worthOf N ((τ4.2.1 0) &&& (((1 : Int64) <<< (x2.toInt64 &&& 63)) ^^^ (-1 : Int64))) r3 τ4 (fun r5 τ6 => ∀ v7 : Int64, v7 = (τ4.2.2.2 4 r3.toNatClampNeg) - r5 → (0 < (lg_cmp v7 (0 : Int64)) → (0 ≤ (lg_cmp v7 r1) → Q r1 τ6) ∧ (¬ 0 ≤ (lg_cmp v7 r1) → Q v7 τ6)) ∧ (¬ 0 < (lg_cmp v7 (0 : Int64)) → Q (0 : Int64) τ6)))))
variable {p : Program} {l : Launch} {e : Env} {s : State} {m : MethodId} {args : Array Value} {below : List Frame} {meth : Method} {c : Code} {dC : Nat → ClassId} {dI : Nat → Nat → Nat} {ad : Nat → Nat} {cI cJ cC : ClassId}
set_option maxHeartbeats 4000000 in
set_option maxRecDepth 100000 in
theorem t_X12_passes_0 (C0 : zCx p s m meth c args RX12 cX12_passes 8 (some .long) vs_X12_passes) (hK : va_K (dC, dI) vwCl (m_ty cI cJ cC) s) (N : Nat) {Q : Int64 → zSt → Prop} : ∀ (x1 : Int32) (x2 : Int32) (σ : zSt) (H : Heap) (locs : List Loc) (ls : Array Slot), w_X12_passes N x1 x2 σ Q → va_P (dC, dI) vwCl (m_W ad cI cJ cC σ) H → va_D (zAW m_n ad s.heap.size) (m_W ad cI cJ cC σ) → va_S (zAW m_n ad s.heap.size) s.heap H locs → lv_has ls 8 [(0, .ref (ad 0)), (1, .int x1), (2, .int x2)] → W p l e rm_X12_passes s m args below meth c H locs 0 0 (MQ below (zQl (dC, dI) (m_ty cI cJ cC) (m_W ad cI cJ cC) (zAW m_n ad s.heap.size) Q) args s 0 0 (zAW m_n ad s.heap.size)) (F0 m 0 ls []) := by
  obtain ⟨hx, hb, hml, hr, hown, hts, hlocks⟩ := id C0
  intro x1 x2 σ H locs ls h hP hD hS hl
  unfold w_X12_passes at h
  refine lv_aload_n hx hb dX12_passes_0 rfl (lv_at hl 0 rfl) ?_
  refine lv_iload_n hx hb dX12_passes_1 rfl (lv_at hl 1 rfl) ?_
  refine lv_iload_n hx hb dX12_passes_2 rfl (lv_at hl 2 rfl) ?_
  refine k_X12_needOf N ⟨hx, hb, hml, hown, hts⟩ mw_1276 ⟨Nat.le_of_ble_eq_true rfl, Nat.le_of_ble_eq_true rfl⟩ h hK hP hD hS hl.1 (rest := []) (Nat.le_of_ble_eq_true rfl) ⟨Nat.le_of_ble_eq_true rfl, Nat.le_of_ble_eq_true rfl⟩ dX12_passes_3 (fun r1 τ2 H locs h hP hD hS => ?_)
  refine lv_lstore_n (lv' := [(3, .long r1), (0, .ref (ad 0)), (1, .int x1), (2, .int x2)]) hx hb dX12_passes_6 rfl hl (by decide) rfl (fun ls hl => ?_)
  refine lv_aload_n hx hb dX12_passes_7 rfl (lv_at hl 1 rfl) ?_
  refine lv_iload_n hx hb dX12_passes_8 rfl (lv_at hl 2 rfl) ?_
  refine lv_iload_n hx hb dX12_passes_9 rfl (lv_at hl 3 rfl) ?_
  refine k_X12_beside N ⟨hx, hb, hml, hown, hts⟩ mw_1279 ⟨Nat.le_of_ble_eq_true rfl, Nat.le_of_ble_eq_true rfl⟩ h hK hP hD hS hl.1 (rest := []) (Nat.le_of_ble_eq_true rfl) ⟨Nat.le_of_ble_eq_true rfl, Nat.le_of_ble_eq_true rfl⟩ dX12_passes_10 (fun r3 τ4 H locs h hP hD hS => ?_)
  refine lv_istore (lv' := [(5, .int r3), (3, .long r1), (0, .ref (ad 0)), (1, .int x1), (2, .int x2)]) hx hb dX12_passes_13 hl (by decide) rfl (fun ls hl => ?_)
  refine lv_aload_n hx hb dX12_passes_15 rfl (lv_at hl 2 rfl) ?_
  refine mg_0_59 hx hb hts hown hK hP mw_892 dX12_passes_16 ?_
  refine lv_iload hx hb dX12_passes_19 (lv_at hl 0 rfl) ?_
  refine ma_19 hx hb hK hP h.1 rfl dX12_passes_21 ?_
  have h := h.2
  refine lv_aload_n hx hb dX12_passes_22 rfl (lv_at hl 2 rfl) ?_
  refine lv_aload_n hx hb dX12_passes_23 rfl (lv_at hl 2 rfl) ?_
  refine mg_0_47 hx hb hts hown hK hP mw_880 dX12_passes_24 ?_
  refine lv_lconst (v := (1 : Int64)) hx hb dX12_passes_27 (by decide) ?_
  refine lv_iload_n hx hb dX12_passes_28 rfl (lv_at hl 4 rfl) ?_
  refine lv_lshl hx hb dX12_passes_29 rfl ?_
  refine lv_ldc2 (v := (-1 : Int64)) hx hb hown (hts _ (List.mem_cons_of_mem _ mw_832)) dX12_passes_30 ?_
  refine lv_lxor hx hb dX12_passes_33 ?_
  refine lv_land hx hb dX12_passes_34 ?_
  refine lv_iload hx hb dX12_passes_35 (lv_at hl 0 rfl) ?_
  refine k_X12_worthOf N ⟨hx, hb, hml, hown, hts⟩ mw_1104 ⟨Nat.le_of_ble_eq_true rfl, Nat.le_of_ble_eq_true rfl⟩ h hK hP hD hS hl.1 (rest := [.long (τ4.2.2.2 4 r3.toNatClampNeg)]) (Nat.le_of_ble_eq_true rfl) ⟨Nat.le_of_ble_eq_true rfl, Nat.le_of_ble_eq_true rfl⟩ dX12_passes_37 (fun r5 τ6 H locs h hP hD hS => ?_)
  refine lv_lsub hx hb dX12_passes_40 ?_
  refine lv_topl (fun v7 ev7 => ?_)
  have h := h v7 ev7
  refine lv_lstore (lv' := [(6, .long v7), (5, .int r3), (3, .long r1), (0, .ref (ad 0)), (1, .int x1), (2, .int x2)]) hx hb dX12_passes_41 hl (by decide) rfl (fun ls hl => ?_)
  refine lv_lload hx hb dX12_passes_43 (lv_at hl 0 rfl) ?_
  refine lv_lconst (v := (0 : Int64)) hx hb dX12_passes_45 (by decide) ?_
  refine W.lcmp hx hb dX12_passes_46 ?_
  refine lv_if_gt (tgt := 54) hx hb dX12_passes_47 (by decide) (fun hc => ?_) (fun hc => ?_)
  · have h := h.1 hc
    refine lv_lload hx hb dX12_passes_54 (lv_at hl 0 rfl) ?_
    refine lv_lload_n hx hb dX12_passes_56 rfl (lv_at hl 2 rfl) ?_
    refine W.lcmp hx hb dX12_passes_57 ?_
    refine lv_if_ge (tgt := 66) hx hb dX12_passes_58 (by decide) (fun hc => ?_) (fun hc => ?_)
    · have h := h.1 hc
      refine lv_lload_n hx hb dX12_passes_66 rfl (lv_at hl 2 rfl) ?_
      exact zret_l hx hb hr hlocks hK hP hD hS h dX12_passes_67
    · have h := h.2 hc
      refine lv_lload hx hb dX12_passes_61 (lv_at hl 0 rfl) ?_
      refine lv_goto (tgt := 67) hx hb dX12_passes_63 (by decide) ?_
      exact zret_l hx hb hr hlocks hK hP hD hS h dX12_passes_67
  · have h := h.2 hc
    refine lv_lconst (v := (0 : Int64)) hx hb dX12_passes_50 (by decide) ?_
    refine lv_goto (tgt := 67) hx hb dX12_passes_51 (by decide) ?_
    exact zret_l hx hb hr hlocks hK hP hD hS h dX12_passes_67
set_option maxHeartbeats 4000000 in
set_option maxRecDepth 100000 in
theorem c_X12_passes (N : Nat) (l : Launch) (dC : Nat → ClassId) (dI : Nat → Nat → Nat) (ad : Nat → Nat) (cI cJ cC : ClassId) (sz : Nat) (σ : zSt) (x1 : Int32) (x2 : Int32) (Q : Int64 → zSt → Prop) (h : w_X12_passes N x1 x2 σ Q) : Met l yX12_passes vs_X12_passes rm_X12_passes (va_Pc [.ref (ad 0), .int x1, .int x2] (zPc (dC, dI) (m_ty cI cJ cC) (m_W ad cI cJ cC) sz σ)) (zQl (dC, dI) (m_ty cI cJ cC) (m_W ad cI cJ cC) (zAW m_n ad sz) Q) 0 0 (zAW m_n ad sz) := by
  refine Met.ofW (cc := cX12_passes) (maxL := 8) (ret := (some .long)) (by decide) rfl ?_
  intro p e s m args below meth c s₁ B hml hv
  obtain ⟨rfl, hsz, hP, hK, hD0⟩ := hv
  subst hsz
  have C0 : zCx p s m meth c _ RX12 cX12_passes 8 (some .long) vs_X12_passes := ⟨B.exec, B.bytes, hml, B.returns, findClass_of_methodNamed B.named, atoms_spec (ws := vs_X12_passes) B.pre, B.notSynchronized⟩
  have hD := m_D0 (n0 := s.heap.size) hD0
  have hl := lv_entry ([.ref (ad 0), .int x1, .int x2]) (n := 8) (Nat.le_of_ble_eq_true rfl)
  rw [lg_entry_eq]
  generalize (lg_sl ([.ref (ad 0), .int x1, .int x2]) ++ List.replicate (8 - (lg_sl ([.ref (ad 0), .int x1, .int x2])).length) Slot.unset).toArray = ls at hl ⊢
  exact t_X12_passes_0 C0 hK N x1 x2 σ _ _ ls h hP hD va_S.rf hl
theorem k_X12_passes (N : Nat) {R : Room} {H : Heap} {locs : List Loc} {cells slots : Nat} {Q2 : State → Prop} {cc : ByteArray} {nL pc index : Nat} {ls : Array Slot} {rest : List Value} {own : String} {c0 : Cond} {σ : zSt} {x1 : Int32} {x2 : Int32} {Q : Int64 → zSt → Prop} (S0 : CallFix p m c cc nL s args (c0 :: zT) own) (hml : Cond.methodLink own index yX12_passes ∈ zT) (hR : rm_X12_passes.frames + 1 ≤ R.frames ∧ 8 + (8 + 11) + rm_X12_passes.locals ≤ R.locals) (h : w_X12_passes N x1 x2 σ Q) (hK : va_K (dC, dI) vwCl (m_ty cI cJ cC) s) (hP : va_P (dC, dI) vwCl (m_W ad cI cJ cC σ) H) (hD : va_D (zAW m_n ad s.heap.size) (m_W ad cI cJ cC σ)) (hS : va_S (zAW m_n ad s.heap.size) s.heap H locs) (hsz : ls.size = nL) (hW : (rest.map fun v => v.category).sum ≤ 8) (hcs : cells ≤ R.cells ∧ slots ≤ R.slots) (hdg : decode cc pc = .ok (.invokevirtual index, 3)) (kk : ∀ (r : Int64) (τ : zSt) (H1 : Heap) (locs1 : List Loc), Q r τ → va_P (dC, dI) vwCl (m_W ad cI cJ cC τ) H1 → va_D (zAW m_n ad s.heap.size) (m_W ad cI cJ cC τ) → va_S (zAW m_n ad s.heap.size) s.heap H1 locs1 → W p l e R s m args below meth c H1 locs1 cells slots Q2 (F0 m (pc + 3) ls (.long r :: rest))) : W p l e R s m args below meth c H locs cells slots Q2 (F0 m pc ls (.int x2 :: .int x1 :: .ref (ad 0) :: rest)) :=
  zcv_l (T := TX12) (N' := 83) (k := 0) (ci := 12) (fs := m_f0 ad σ) [.int x1, .int x2] S0 (c_X12_passes N l dC dI ad cI cJ cC H.size σ x1 x2 Q h) (cw_X12_passes S0.2.2.2.2 hml rfl rfl hR) rfl rfl hK hP hD hS rfl hsz hW rfl hcs hdg kk
end q25
section q25
def b_X12_gifts_102 (N : Nat) (k_51 : Int32 → Int64 → Int32 → zSt → Prop) (k_78 : Int32 → Int64 → Int32 → Int32 → zSt → Prop) (Q : Int64 → zSt → Prop) (x1 : Int32) (x2 : Int64) (x4 : Int32) (x5 : Int32) (s0 : Int32) (σ : zSt) : Prop :=
  w_X12_passes N s0 x4 σ (fun r1 τ2 => (x1 = 0 → ∀ v7 : Int64, v7 = x2 + r1 → ∀ v8 : Int32, v8 = x5 + (1 : Int32) → k_78 x1 v7 x4 v8 τ2) ∧ (¬ x1 = 0 → w_X12_needOf N s0 x4 τ2 (fun r3 τ4 => ∀ v5 : Int64, v5 = x2 + (r3 - r1) → ∀ v6 : Int32, v6 = x5 + (1 : Int32) → k_78 x1 v5 x4 v6 τ4)))
def b_X12_gifts_78 (N : Nat) (k_51 : Int32 → Int64 → Int32 → zSt → Prop) (k_78 : Int32 → Int64 → Int32 → Int32 → zSt → Prop) (Q : Int64 → zSt → Prop) (x1 : Int32) (x2 : Int64) (x4 : Int32) (x5 : Int32) (σ : zSt) : Prop :=
  ((2 : Int32) ≤ x5 → ∀ v1 : Int32, v1 = x4 + (1 : Int32) → k_51 x1 x2 v1 σ) ∧ (¬ (2 : Int32) ≤ x5 → (x5 = 0 → w_X12_lowOf N x4 σ (fun r4 τ5 => b_X12_gifts_102 N k_51 k_78 Q x1 x2 x4 x5 r4 τ5)) ∧ (¬ x5 = 0 → w_X12_highOf N x4 σ (fun r2 τ3 => b_X12_gifts_102 N k_51 k_78 Q x1 x2 x4 x5 r2 τ3)))
def w_X12_gifts_78 (N : Nat) (k_51 : Int32 → Int64 → Int32 → zSt → Prop) (Q : Int64 → zSt → Prop) : Nat → Int32 → Int64 → Int32 → Int32 → zSt → Prop
  | 0 => fun _ _ _ _ _ => False
  | f + 1 => b_X12_gifts_78 N k_51 (w_X12_gifts_78 N k_51 Q f) Q
def b_X12_gifts_51 (N : Nat) (k_51 : Int32 → Int64 → Int32 → zSt → Prop) (Q : Int64 → zSt → Prop) (x1 : Int32) (x2 : Int64) (x4 : Int32) (σ : zSt) : Prop :=
  w_X12_pairs N σ (fun r1 τ2 => (r1 ≤ x4 → Q x2 τ2) ∧ (¬ r1 ≤ x4 → w_X12_isTied N (τ2.2.1 0) x4 τ2 (fun r3 τ4 => (r3 = 0 → ∀ v5 : Int32, v5 = x4 + (1 : Int32) → k_51 x1 x2 v5 τ4) ∧ (¬ r3 = 0 → w_X12_gifts_78 N k_51 Q N x1 x2 x4 (0 : Int32) τ4))))
def w_X12_gifts_51 (N : Nat) (Q : Int64 → zSt → Prop) : Nat → Int32 → Int64 → Int32 → zSt → Prop
  | 0 => fun _ _ _ _ => False
  | f + 1 => b_X12_gifts_51 N (w_X12_gifts_51 N  Q f) Q
def w_X12_gifts (N : Nat) (x1 : Int32) (σ : zSt) (Q : Int64 → zSt → Prop) : Prop :=
  w_X12_isIn N x1.toInt64 (0 : Int64) (2 : Int64) σ (fun r1 τ2 => (r1 = 0 → Q (-1 : Int64) τ2) ∧ (¬ r1 = 0 → w_X12_begins N (τ2.2.1 0) τ2 (fun τ4 => (x1 = (2 : Int32) → w_X12_findsAdd N (τ4.2.1 0) τ4 (fun r5 τ6 => (r5 = 0 → Q (1 : Int64) τ6) ∧ (¬ r5 = 0 → Q (0 : Int64) τ6))) ∧ (¬ x1 = (2 : Int32) → w_X12_gifts_51 N Q N x1 (0 : Int64) (0 : Int32) τ4))))
variable {p : Program} {l : Launch} {e : Env} {s : State} {m : MethodId} {args : Array Value} {below : List Frame} {meth : Method} {c : Code} {dC : Nat → ClassId} {dI : Nat → Nat → Nat} {ad : Nat → Nat} {cI cJ cC : ClassId}
set_option maxHeartbeats 4000000 in
set_option maxRecDepth 100000 in
theorem t_X12_gifts_102 (C0 : zCx p s m meth c args RX12 cX12_gifts 9 (some .long) vs_X12_gifts) (hK : va_K (dC, dI) vwCl (m_ty cI cJ cC) s) (N : Nat) {Q : Int64 → zSt → Prop} {k_51 : Int32 → Int64 → Int32 → zSt → Prop} (hk_51 : ∀ (x1 : Int32) (x2 : Int64) (x4 : Int32) (σ : zSt) (H : Heap) (locs : List Loc) (ls : Array Slot), k_51 x1 x2 x4 σ → va_P (dC, dI) vwCl (m_W ad cI cJ cC σ) H → va_D (zAW m_n ad s.heap.size) (m_W ad cI cJ cC σ) → va_S (zAW m_n ad s.heap.size) s.heap H locs → lv_has ls 9 [(0, .ref (ad 0)), (1, .int x1), (2, .long x2), (4, .int x4)] → W p l e rm_X12_gifts s m args below meth c H locs 0 0 (MQ below (zQl (dC, dI) (m_ty cI cJ cC) (m_W ad cI cJ cC) (zAW m_n ad s.heap.size) Q) args s 0 0 (zAW m_n ad s.heap.size)) (F0 m 51 ls [])) {k_78 : Int32 → Int64 → Int32 → Int32 → zSt → Prop} (hk_78 : ∀ (x1 : Int32) (x2 : Int64) (x4 : Int32) (x5 : Int32) (σ : zSt) (H : Heap) (locs : List Loc) (ls : Array Slot), k_78 x1 x2 x4 x5 σ → va_P (dC, dI) vwCl (m_W ad cI cJ cC σ) H → va_D (zAW m_n ad s.heap.size) (m_W ad cI cJ cC σ) → va_S (zAW m_n ad s.heap.size) s.heap H locs → lv_has ls 9 [(0, .ref (ad 0)), (1, .int x1), (2, .long x2), (4, .int x4), (5, .int x5)] → W p l e rm_X12_gifts s m args below meth c H locs 0 0 (MQ below (zQl (dC, dI) (m_ty cI cJ cC) (m_W ad cI cJ cC) (zAW m_n ad s.heap.size) Q) args s 0 0 (zAW m_n ad s.heap.size)) (F0 m 78 ls [])) : ∀ (x1 : Int32) (x2 : Int64) (x4 : Int32) (x5 : Int32) (s0 : Int32) (σ : zSt) (H : Heap) (locs : List Loc) (ls : Array Slot), b_X12_gifts_102 N k_51 k_78 Q x1 x2 x4 x5 s0 σ → va_P (dC, dI) vwCl (m_W ad cI cJ cC σ) H → va_D (zAW m_n ad s.heap.size) (m_W ad cI cJ cC σ) → va_S (zAW m_n ad s.heap.size) s.heap H locs → lv_has ls 9 [(0, .ref (ad 0)), (1, .int x1), (2, .long x2), (4, .int x4), (5, .int x5)] → W p l e rm_X12_gifts s m args below meth c H locs 0 0 (MQ below (zQl (dC, dI) (m_ty cI cJ cC) (m_W ad cI cJ cC) (zAW m_n ad s.heap.size) Q) args s 0 0 (zAW m_n ad s.heap.size)) (F0 m 102 ls [.int s0]) := by
  obtain ⟨hx, hb, hml, hr, hown, hts, hlocks⟩ := id C0
  intro x1 x2 x4 x5 s0 σ H locs ls h hP hD hS hl
  unfold b_X12_gifts_102 at h
  refine lv_istore (lv' := [(6, .int s0), (0, .ref (ad 0)), (1, .int x1), (2, .long x2), (4, .int x4), (5, .int x5)]) hx hb dX12_gifts_102 hl (by decide) rfl (fun ls hl => ?_)
  refine lv_aload_n hx hb dX12_gifts_104 rfl (lv_at hl 1 rfl) ?_
  refine lv_iload hx hb dX12_gifts_105 (lv_at hl 0 rfl) ?_
  refine lv_iload hx hb dX12_gifts_107 (lv_at hl 4 rfl) ?_
  refine k_X12_passes N ⟨hx, hb, hml, hown, hts⟩ mw_1273 ⟨Nat.le_of_ble_eq_true rfl, Nat.le_of_ble_eq_true rfl⟩ h hK hP hD hS hl.1 (rest := []) (Nat.le_of_ble_eq_true rfl) ⟨Nat.le_of_ble_eq_true rfl, Nat.le_of_ble_eq_true rfl⟩ dX12_gifts_109 (fun r1 τ2 H locs h hP hD hS => ?_)
  refine lv_lstore (lv' := [(7, .long r1), (6, .int s0), (0, .ref (ad 0)), (1, .int x1), (2, .long x2), (4, .int x4), (5, .int x5)]) hx hb dX12_gifts_112 hl (by decide) rfl (fun ls hl => ?_)
  refine lv_lload_n hx hb dX12_gifts_114 rfl (lv_at hl 4 rfl) ?_
  refine lv_iload_n hx hb dX12_gifts_115 rfl (lv_at hl 3 rfl) ?_
  refine lv_if_ne (tgt := 124) hx hb dX12_gifts_116 (by decide) (fun hc => ?_) (fun hc => ?_)
  · have h := h.2 hc
    refine lv_aload_n hx hb dX12_gifts_124 rfl (lv_at hl 2 rfl) ?_
    refine lv_iload hx hb dX12_gifts_125 (lv_at hl 1 rfl) ?_
    refine lv_iload hx hb dX12_gifts_127 (lv_at hl 5 rfl) ?_
    refine k_X12_needOf N ⟨hx, hb, hml, hown, hts⟩ mw_1276 ⟨Nat.le_of_ble_eq_true rfl, Nat.le_of_ble_eq_true rfl⟩ h hK hP hD hS hl.1 (rest := [.long x2]) (Nat.le_of_ble_eq_true rfl) ⟨Nat.le_of_ble_eq_true rfl, Nat.le_of_ble_eq_true rfl⟩ dX12_gifts_129 (fun r3 τ4 H locs h hP hD hS => ?_)
    refine lv_lload hx hb dX12_gifts_132 (lv_at hl 0 rfl) ?_
    refine lv_lsub hx hb dX12_gifts_134 ?_
    refine lv_ladd hx hb dX12_gifts_135 ?_
    refine lv_topl (fun v5 ev5 => ?_)
    have h := h v5 ev5
    refine lv_lstore_n (lv' := [(2, .long v5), (7, .long r1), (6, .int s0), (0, .ref (ad 0)), (1, .int x1), (4, .int x4), (5, .int x5)]) hx hb dX12_gifts_136 rfl hl (by decide) rfl (fun ls hl => ?_)
    obtain ⟨v6, ev6⟩ : ∃ z : Int32, z = x5 + (1 : Int32) := ⟨_, rfl⟩
    have h := h v6 ev6
    refine lv_iinc (v := v6) (lv' := [(5, .int v6), (2, .long v5), (7, .long r1), (6, .int s0), (0, .ref (ad 0)), (1, .int x1), (4, .int x4)]) hx hb dX12_gifts_137 hl (k := 6) rfl (by rw [ev6]; rfl) (by decide) rfl (fun ls hl => ?_)
    refine lv_goto (tgt := 78) hx hb dX12_gifts_140 (by decide) ?_
    exact hk_78 x1 v5 x4 v6 τ4 _ _ _ h hP hD hS (lv_sub hl [4, 5, 1, 6, 0] rfl)
  · have h := h.1 hc
    refine lv_lload hx hb dX12_gifts_119 (lv_at hl 0 rfl) ?_
    refine lv_goto (tgt := 135) hx hb dX12_gifts_121 (by decide) ?_
    refine lv_ladd hx hb dX12_gifts_135 ?_
    refine lv_topl (fun v7 ev7 => ?_)
    have h := h v7 ev7
    refine lv_lstore_n (lv' := [(2, .long v7), (7, .long r1), (6, .int s0), (0, .ref (ad 0)), (1, .int x1), (4, .int x4), (5, .int x5)]) hx hb dX12_gifts_136 rfl hl (by decide) rfl (fun ls hl => ?_)
    obtain ⟨v8, ev8⟩ : ∃ z : Int32, z = x5 + (1 : Int32) := ⟨_, rfl⟩
    have h := h v8 ev8
    refine lv_iinc (v := v8) (lv' := [(5, .int v8), (2, .long v7), (7, .long r1), (6, .int s0), (0, .ref (ad 0)), (1, .int x1), (4, .int x4)]) hx hb dX12_gifts_137 hl (k := 6) rfl (by rw [ev8]; rfl) (by decide) rfl (fun ls hl => ?_)
    refine lv_goto (tgt := 78) hx hb dX12_gifts_140 (by decide) ?_
    exact hk_78 x1 v7 x4 v8 τ2 _ _ _ h hP hD hS (lv_sub hl [4, 5, 1, 6, 0] rfl)
set_option maxHeartbeats 4000000 in
set_option maxRecDepth 100000 in
theorem tb_X12_gifts_78 (C0 : zCx p s m meth c args RX12 cX12_gifts 9 (some .long) vs_X12_gifts) (hK : va_K (dC, dI) vwCl (m_ty cI cJ cC) s) (N : Nat) {Q : Int64 → zSt → Prop} {k_51 : Int32 → Int64 → Int32 → zSt → Prop} (hk_51 : ∀ (x1 : Int32) (x2 : Int64) (x4 : Int32) (σ : zSt) (H : Heap) (locs : List Loc) (ls : Array Slot), k_51 x1 x2 x4 σ → va_P (dC, dI) vwCl (m_W ad cI cJ cC σ) H → va_D (zAW m_n ad s.heap.size) (m_W ad cI cJ cC σ) → va_S (zAW m_n ad s.heap.size) s.heap H locs → lv_has ls 9 [(0, .ref (ad 0)), (1, .int x1), (2, .long x2), (4, .int x4)] → W p l e rm_X12_gifts s m args below meth c H locs 0 0 (MQ below (zQl (dC, dI) (m_ty cI cJ cC) (m_W ad cI cJ cC) (zAW m_n ad s.heap.size) Q) args s 0 0 (zAW m_n ad s.heap.size)) (F0 m 51 ls [])) {k_78 : Int32 → Int64 → Int32 → Int32 → zSt → Prop} (hk_78 : ∀ (x1 : Int32) (x2 : Int64) (x4 : Int32) (x5 : Int32) (σ : zSt) (H : Heap) (locs : List Loc) (ls : Array Slot), k_78 x1 x2 x4 x5 σ → va_P (dC, dI) vwCl (m_W ad cI cJ cC σ) H → va_D (zAW m_n ad s.heap.size) (m_W ad cI cJ cC σ) → va_S (zAW m_n ad s.heap.size) s.heap H locs → lv_has ls 9 [(0, .ref (ad 0)), (1, .int x1), (2, .long x2), (4, .int x4), (5, .int x5)] → W p l e rm_X12_gifts s m args below meth c H locs 0 0 (MQ below (zQl (dC, dI) (m_ty cI cJ cC) (m_W ad cI cJ cC) (zAW m_n ad s.heap.size) Q) args s 0 0 (zAW m_n ad s.heap.size)) (F0 m 78 ls [])) : ∀ (x1 : Int32) (x2 : Int64) (x4 : Int32) (x5 : Int32) (σ : zSt) (H : Heap) (locs : List Loc) (ls : Array Slot), b_X12_gifts_78 N k_51 k_78 Q x1 x2 x4 x5 σ → va_P (dC, dI) vwCl (m_W ad cI cJ cC σ) H → va_D (zAW m_n ad s.heap.size) (m_W ad cI cJ cC σ) → va_S (zAW m_n ad s.heap.size) s.heap H locs → lv_has ls 9 [(0, .ref (ad 0)), (1, .int x1), (2, .long x2), (4, .int x4), (5, .int x5)] → W p l e rm_X12_gifts s m args below meth c H locs 0 0 (MQ below (zQl (dC, dI) (m_ty cI cJ cC) (m_W ad cI cJ cC) (zAW m_n ad s.heap.size) Q) args s 0 0 (zAW m_n ad s.heap.size)) (F0 m 78 ls []) := by
  obtain ⟨hx, hb, hml, hr, hown, hts, hlocks⟩ := id C0
  intro x1 x2 x4 x5 σ H locs ls h hP hD hS hl
  unfold b_X12_gifts_78 at h
  refine lv_iload hx hb dX12_gifts_78 (lv_at hl 4 rfl) ?_
  refine lv_iconst (v := (2 : Int32)) hx hb dX12_gifts_80 (by decide) ?_
  refine lv_icmp_ge (tgt := 143) hx hb dX12_gifts_81 (by decide) (fun hc => ?_) (fun hc => ?_)
  · have h := h.1 hc
    obtain ⟨v1, ev1⟩ : ∃ z : Int32, z = x4 + (1 : Int32) := ⟨_, rfl⟩
    have h := h v1 ev1
    refine lv_iinc (v := v1) (lv' := [(4, .int v1), (0, .ref (ad 0)), (1, .int x1), (2, .long x2), (5, .int x5)]) hx hb dX12_gifts_143 hl (k := 3) rfl (by rw [ev1]; rfl) (by decide) rfl (fun ls hl => ?_)
    refine lv_goto (tgt := 51) hx hb dX12_gifts_146 (by decide) ?_
    exact hk_51 x1 x2 v1 σ _ _ _ h hP hD hS (lv_sub hl [1, 2, 3, 0] rfl)
  · have h := h.2 hc
    refine lv_iload hx hb dX12_gifts_84 (lv_at hl 4 rfl) ?_
    refine lv_if_ne (tgt := 97) hx hb dX12_gifts_86 (by decide) (fun hc => ?_) (fun hc => ?_)
    · have h := h.2 hc
      refine lv_iload hx hb dX12_gifts_97 (lv_at hl 3 rfl) ?_
      refine k_X12_highOf N ⟨hx, hb, hml, hown, hts⟩ mw_1157 ⟨Nat.le_of_ble_eq_true rfl, Nat.le_of_ble_eq_true rfl⟩ h hK hP hD hS hl.1 (rest := []) (Nat.le_of_ble_eq_true rfl) ⟨Nat.le_of_ble_eq_true rfl, Nat.le_of_ble_eq_true rfl⟩ dX12_gifts_99 (fun r2 τ3 H locs h hP hD hS => ?_)
      exact t_X12_gifts_102 C0 hK N hk_51 hk_78 x1 x2 x4 x5 r2 τ3 _ _ _ h hP hD hS (lv_sub hl [0, 1, 2, 3, 4] rfl)
    · have h := h.1 hc
      refine lv_iload hx hb dX12_gifts_89 (lv_at hl 3 rfl) ?_
      refine k_X12_lowOf N ⟨hx, hb, hml, hown, hts⟩ mw_1154 ⟨Nat.le_of_ble_eq_true rfl, Nat.le_of_ble_eq_true rfl⟩ h hK hP hD hS hl.1 (rest := []) (Nat.le_of_ble_eq_true rfl) ⟨Nat.le_of_ble_eq_true rfl, Nat.le_of_ble_eq_true rfl⟩ dX12_gifts_91 (fun r4 τ5 H locs h hP hD hS => ?_)
      refine lv_goto (tgt := 102) hx hb dX12_gifts_94 (by decide) ?_
      exact t_X12_gifts_102 C0 hK N hk_51 hk_78 x1 x2 x4 x5 r4 τ5 _ _ _ h hP hD hS (lv_sub hl [0, 1, 2, 3, 4] rfl)
set_option maxHeartbeats 4000000 in
set_option maxRecDepth 100000 in
theorem t_X12_gifts_78 (C0 : zCx p s m meth c args RX12 cX12_gifts 9 (some .long) vs_X12_gifts) (hK : va_K (dC, dI) vwCl (m_ty cI cJ cC) s) (N : Nat) {Q : Int64 → zSt → Prop} {k_51 : Int32 → Int64 → Int32 → zSt → Prop} (hk_51 : ∀ (x1 : Int32) (x2 : Int64) (x4 : Int32) (σ : zSt) (H : Heap) (locs : List Loc) (ls : Array Slot), k_51 x1 x2 x4 σ → va_P (dC, dI) vwCl (m_W ad cI cJ cC σ) H → va_D (zAW m_n ad s.heap.size) (m_W ad cI cJ cC σ) → va_S (zAW m_n ad s.heap.size) s.heap H locs → lv_has ls 9 [(0, .ref (ad 0)), (1, .int x1), (2, .long x2), (4, .int x4)] → W p l e rm_X12_gifts s m args below meth c H locs 0 0 (MQ below (zQl (dC, dI) (m_ty cI cJ cC) (m_W ad cI cJ cC) (zAW m_n ad s.heap.size) Q) args s 0 0 (zAW m_n ad s.heap.size)) (F0 m 51 ls [])) : ∀ (f : Nat) (x1 : Int32) (x2 : Int64) (x4 : Int32) (x5 : Int32) (σ : zSt) (H : Heap) (locs : List Loc) (ls : Array Slot), w_X12_gifts_78 N k_51 Q f x1 x2 x4 x5 σ → va_P (dC, dI) vwCl (m_W ad cI cJ cC σ) H → va_D (zAW m_n ad s.heap.size) (m_W ad cI cJ cC σ) → va_S (zAW m_n ad s.heap.size) s.heap H locs → lv_has ls 9 [(0, .ref (ad 0)), (1, .int x1), (2, .long x2), (4, .int x4), (5, .int x5)] → W p l e rm_X12_gifts s m args below meth c H locs 0 0 (MQ below (zQl (dC, dI) (m_ty cI cJ cC) (m_W ad cI cJ cC) (zAW m_n ad s.heap.size) Q) args s 0 0 (zAW m_n ad s.heap.size)) (F0 m 78 ls []) := by
  intro f
  induction f with
  | zero => intro x1 x2 x4 x5 σ H locs ls h; exact h.elim
  | succ f ih =>
    intro x1 x2 x4 x5 σ H locs ls h hP hD hS hl
    exact tb_X12_gifts_78 C0 hK N hk_51 (k_78 := w_X12_gifts_78 N k_51 Q f) ih x1 x2 x4 x5 σ H locs ls h hP hD hS hl
set_option maxHeartbeats 4000000 in
set_option maxRecDepth 100000 in
theorem tb_X12_gifts_51 (C0 : zCx p s m meth c args RX12 cX12_gifts 9 (some .long) vs_X12_gifts) (hK : va_K (dC, dI) vwCl (m_ty cI cJ cC) s) (N : Nat) {Q : Int64 → zSt → Prop} {k_51 : Int32 → Int64 → Int32 → zSt → Prop} (hk_51 : ∀ (x1 : Int32) (x2 : Int64) (x4 : Int32) (σ : zSt) (H : Heap) (locs : List Loc) (ls : Array Slot), k_51 x1 x2 x4 σ → va_P (dC, dI) vwCl (m_W ad cI cJ cC σ) H → va_D (zAW m_n ad s.heap.size) (m_W ad cI cJ cC σ) → va_S (zAW m_n ad s.heap.size) s.heap H locs → lv_has ls 9 [(0, .ref (ad 0)), (1, .int x1), (2, .long x2), (4, .int x4)] → W p l e rm_X12_gifts s m args below meth c H locs 0 0 (MQ below (zQl (dC, dI) (m_ty cI cJ cC) (m_W ad cI cJ cC) (zAW m_n ad s.heap.size) Q) args s 0 0 (zAW m_n ad s.heap.size)) (F0 m 51 ls [])) : ∀ (x1 : Int32) (x2 : Int64) (x4 : Int32) (σ : zSt) (H : Heap) (locs : List Loc) (ls : Array Slot), b_X12_gifts_51 N k_51 Q x1 x2 x4 σ → va_P (dC, dI) vwCl (m_W ad cI cJ cC σ) H → va_D (zAW m_n ad s.heap.size) (m_W ad cI cJ cC σ) → va_S (zAW m_n ad s.heap.size) s.heap H locs → lv_has ls 9 [(0, .ref (ad 0)), (1, .int x1), (2, .long x2), (4, .int x4)] → W p l e rm_X12_gifts s m args below meth c H locs 0 0 (MQ below (zQl (dC, dI) (m_ty cI cJ cC) (m_W ad cI cJ cC) (zAW m_n ad s.heap.size) Q) args s 0 0 (zAW m_n ad s.heap.size)) (F0 m 51 ls []) := by
  obtain ⟨hx, hb, hml, hr, hown, hts, hlocks⟩ := id C0
  intro x1 x2 x4 σ H locs ls h hP hD hS hl
  unfold b_X12_gifts_51 at h
  refine lv_iload hx hb dX12_gifts_51 (lv_at hl 3 rfl) ?_
  refine lv_aload_n hx hb dX12_gifts_53 rfl (lv_at hl 0 rfl) ?_
  refine k_X12_pairs N ⟨hx, hb, hml, hown, hts⟩ mw_1047 ⟨Nat.le_of_ble_eq_true rfl, Nat.le_of_ble_eq_true rfl⟩ h hK hP hD hS hl.1 (rest := [.int x4]) (Nat.le_of_ble_eq_true rfl) ⟨Nat.le_of_ble_eq_true rfl, Nat.le_of_ble_eq_true rfl⟩ dX12_gifts_54 (fun r1 τ2 H locs h hP hD hS => ?_)
  refine lv_icmp_ge (tgt := 149) hx hb dX12_gifts_57 (by decide) (fun hc => ?_) (fun hc => ?_)
  · have h := h.1 hc
    refine lv_lload_n hx hb dX12_gifts_149 rfl (lv_at hl 2 rfl) ?_
    exact zret_l hx hb hr hlocks hK hP hD hS h dX12_gifts_150
  · have h := h.2 hc
    refine lv_aload_n hx hb dX12_gifts_60 rfl (lv_at hl 0 rfl) ?_
    refine mg_0_47 hx hb hts hown hK hP mw_880 dX12_gifts_61 ?_
    refine lv_iload hx hb dX12_gifts_64 (lv_at hl 3 rfl) ?_
    refine k_X12_isTied N ⟨hx, hb, hml, hown, hts⟩ mw_1071 ⟨Nat.le_of_ble_eq_true rfl, Nat.le_of_ble_eq_true rfl⟩ h hK hP hD hS hl.1 (rest := []) (Nat.le_of_ble_eq_true rfl) ⟨Nat.le_of_ble_eq_true rfl, Nat.le_of_ble_eq_true rfl⟩ dX12_gifts_66 (fun r3 τ4 H locs h hP hD hS => ?_)
    refine lv_if_ne (tgt := 75) hx hb dX12_gifts_69 (by decide) (fun hc => ?_) (fun hc => ?_)
    · have h := h.2 hc
      refine lv_iconst (v := (0 : Int32)) hx hb dX12_gifts_75 (by decide) ?_
      refine lv_istore (lv' := [(5, .int (0 : Int32)), (0, .ref (ad 0)), (1, .int x1), (2, .long x2), (4, .int x4)]) hx hb dX12_gifts_76 hl (by decide) rfl (fun ls hl => ?_)
      exact t_X12_gifts_78 C0 hK N hk_51 N x1 x2 x4 (0 : Int32) τ4 _ _ _ h hP hD hS (lv_sub hl [1, 2, 3, 4, 0] rfl)
    · have h := h.1 hc
      refine lv_goto (tgt := 143) hx hb dX12_gifts_72 (by decide) ?_
      obtain ⟨v5, ev5⟩ : ∃ z : Int32, z = x4 + (1 : Int32) := ⟨_, rfl⟩
      have h := h v5 ev5
      refine lv_iinc (v := v5) (lv' := [(4, .int v5), (0, .ref (ad 0)), (1, .int x1), (2, .long x2)]) hx hb dX12_gifts_143 hl (k := 3) rfl (by rw [ev5]; rfl) (by decide) rfl (fun ls hl => ?_)
      refine lv_goto (tgt := 51) hx hb dX12_gifts_146 (by decide) ?_
      exact hk_51 x1 x2 v5 τ4 _ _ _ h hP hD hS (lv_sub hl [1, 2, 3, 0] rfl)
set_option maxHeartbeats 4000000 in
set_option maxRecDepth 100000 in
theorem t_X12_gifts_51 (C0 : zCx p s m meth c args RX12 cX12_gifts 9 (some .long) vs_X12_gifts) (hK : va_K (dC, dI) vwCl (m_ty cI cJ cC) s) (N : Nat) {Q : Int64 → zSt → Prop} : ∀ (f : Nat) (x1 : Int32) (x2 : Int64) (x4 : Int32) (σ : zSt) (H : Heap) (locs : List Loc) (ls : Array Slot), w_X12_gifts_51 N  Q f x1 x2 x4 σ → va_P (dC, dI) vwCl (m_W ad cI cJ cC σ) H → va_D (zAW m_n ad s.heap.size) (m_W ad cI cJ cC σ) → va_S (zAW m_n ad s.heap.size) s.heap H locs → lv_has ls 9 [(0, .ref (ad 0)), (1, .int x1), (2, .long x2), (4, .int x4)] → W p l e rm_X12_gifts s m args below meth c H locs 0 0 (MQ below (zQl (dC, dI) (m_ty cI cJ cC) (m_W ad cI cJ cC) (zAW m_n ad s.heap.size) Q) args s 0 0 (zAW m_n ad s.heap.size)) (F0 m 51 ls []) := by
  intro f
  induction f with
  | zero => intro x1 x2 x4 σ H locs ls h; exact h.elim
  | succ f ih =>
    intro x1 x2 x4 σ H locs ls h hP hD hS hl
    exact tb_X12_gifts_51 C0 hK N  (k_51 := w_X12_gifts_51 N  Q f) ih x1 x2 x4 σ H locs ls h hP hD hS hl
set_option maxHeartbeats 4000000 in
set_option maxRecDepth 100000 in
theorem t_X12_gifts_0 (C0 : zCx p s m meth c args RX12 cX12_gifts 9 (some .long) vs_X12_gifts) (hK : va_K (dC, dI) vwCl (m_ty cI cJ cC) s) (N : Nat) {Q : Int64 → zSt → Prop} : ∀ (x1 : Int32) (σ : zSt) (H : Heap) (locs : List Loc) (ls : Array Slot), w_X12_gifts N x1 σ Q → va_P (dC, dI) vwCl (m_W ad cI cJ cC σ) H → va_D (zAW m_n ad s.heap.size) (m_W ad cI cJ cC σ) → va_S (zAW m_n ad s.heap.size) s.heap H locs → lv_has ls 9 [(0, .ref (ad 0)), (1, .int x1)] → W p l e rm_X12_gifts s m args below meth c H locs 0 0 (MQ below (zQl (dC, dI) (m_ty cI cJ cC) (m_W ad cI cJ cC) (zAW m_n ad s.heap.size) Q) args s 0 0 (zAW m_n ad s.heap.size)) (F0 m 0 ls []) := by
  obtain ⟨hx, hb, hml, hr, hown, hts, hlocks⟩ := id C0
  intro x1 σ H locs ls h hP hD hS hl
  unfold w_X12_gifts at h
  refine lv_iload_n hx hb dX12_gifts_0 rfl (lv_at hl 1 rfl) ?_
  refine lv_i2l hx hb dX12_gifts_1 rfl ?_
  refine lv_lconst (v := (0 : Int64)) hx hb dX12_gifts_2 (by decide) ?_
  refine lv_ldc2 (v := (2 : Int64)) hx hb hown (hts _ (List.mem_cons_of_mem _ mw_1229)) dX12_gifts_3 ?_
  refine k_X12_isIn N ⟨hx, hb, hml, hown, hts⟩ mw_970 ⟨Nat.le_of_ble_eq_true rfl, Nat.le_of_ble_eq_true rfl⟩ h hK hP hD hS hl.1 (rest := []) (Nat.le_of_ble_eq_true rfl) ⟨Nat.le_of_ble_eq_true rfl, Nat.le_of_ble_eq_true rfl⟩ dX12_gifts_6 (fun r1 τ2 H locs h hP hD hS => ?_)
  refine lv_if_ne (tgt := 16) hx hb dX12_gifts_9 (by decide) (fun hc => ?_) (fun hc => ?_)
  · have h := h.2 hc
    refine lv_aload_n hx hb dX12_gifts_16 rfl (lv_at hl 0 rfl) ?_
    refine lv_aload_n hx hb dX12_gifts_17 rfl (lv_at hl 0 rfl) ?_
    refine mg_0_47 hx hb hts hown hK hP mw_880 dX12_gifts_18 ?_
    refine k_X12_begins N ⟨hx, hb, hml, hown, hts⟩ mw_1148 ⟨Nat.le_of_ble_eq_true rfl, Nat.le_of_ble_eq_true rfl⟩ h hK hP hD hS hl.1 (rest := []) (Nat.le_of_ble_eq_true rfl) ⟨Nat.le_of_ble_eq_true rfl, Nat.le_of_ble_eq_true rfl⟩ dX12_gifts_21 (fun τ4 H locs h hP hD hS => ?_)
    refine lv_iload_n hx hb dX12_gifts_24 rfl (lv_at hl 1 rfl) ?_
    refine lv_iconst (v := (2 : Int32)) hx hb dX12_gifts_25 (by decide) ?_
    refine lv_icmp_ne (tgt := 46) hx hb dX12_gifts_26 (by decide) (fun hc => ?_) (fun hc => ?_)
    · have h := h.2 hc
      refine lv_lconst (v := (0 : Int64)) hx hb dX12_gifts_46 (by decide) ?_
      refine lv_lstore_n (lv' := [(2, .long (0 : Int64)), (0, .ref (ad 0)), (1, .int x1)]) hx hb dX12_gifts_47 rfl hl (by decide) rfl (fun ls hl => ?_)
      refine lv_iconst (v := (0 : Int32)) hx hb dX12_gifts_48 (by decide) ?_
      refine lv_istore (lv' := [(4, .int (0 : Int32)), (2, .long (0 : Int64)), (0, .ref (ad 0)), (1, .int x1)]) hx hb dX12_gifts_49 hl (by decide) rfl (fun ls hl => ?_)
      exact t_X12_gifts_51 C0 hK N  N x1 (0 : Int64) (0 : Int32) τ4 _ _ _ h hP hD hS (lv_sub hl [2, 3, 1, 0] rfl)
    · have h := h.1 hc
      refine lv_aload_n hx hb dX12_gifts_29 rfl (lv_at hl 0 rfl) ?_
      refine lv_aload_n hx hb dX12_gifts_30 rfl (lv_at hl 0 rfl) ?_
      refine mg_0_47 hx hb hts hown hK hP mw_880 dX12_gifts_31 ?_
      refine k_X12_findsAdd N ⟨hx, hb, hml, hown, hts⟩ mw_1178 ⟨Nat.le_of_ble_eq_true rfl, Nat.le_of_ble_eq_true rfl⟩ h hK hP hD hS hl.1 (rest := []) (Nat.le_of_ble_eq_true rfl) ⟨Nat.le_of_ble_eq_true rfl, Nat.le_of_ble_eq_true rfl⟩ dX12_gifts_34 (fun r5 τ6 H locs h hP hD hS => ?_)
      refine lv_if_eq (tgt := 44) hx hb dX12_gifts_37 (by decide) (fun hc => ?_) (fun hc => ?_)
      · have h := h.1 hc
        refine lv_lconst (v := (1 : Int64)) hx hb dX12_gifts_44 (by decide) ?_
        exact zret_l hx hb hr hlocks hK hP hD hS h dX12_gifts_45
      · have h := h.2 hc
        refine lv_lconst (v := (0 : Int64)) hx hb dX12_gifts_40 (by decide) ?_
        refine lv_goto (tgt := 45) hx hb dX12_gifts_41 (by decide) ?_
        exact zret_l hx hb hr hlocks hK hP hD hS h dX12_gifts_45
  · have h := h.1 hc
    refine lv_ldc2 (v := (-1 : Int64)) hx hb hown (hts _ (List.mem_cons_of_mem _ mw_832)) dX12_gifts_12 ?_
    exact zret_l hx hb hr hlocks hK hP hD hS h dX12_gifts_15
set_option maxHeartbeats 4000000 in
set_option maxRecDepth 100000 in
theorem c_X12_gifts (N : Nat) (l : Launch) (dC : Nat → ClassId) (dI : Nat → Nat → Nat) (ad : Nat → Nat) (cI cJ cC : ClassId) (sz : Nat) (σ : zSt) (x1 : Int32) (Q : Int64 → zSt → Prop) (h : w_X12_gifts N x1 σ Q) : Met l yX12_gifts vs_X12_gifts rm_X12_gifts (va_Pc [.ref (ad 0), .int x1] (zPc (dC, dI) (m_ty cI cJ cC) (m_W ad cI cJ cC) sz σ)) (zQl (dC, dI) (m_ty cI cJ cC) (m_W ad cI cJ cC) (zAW m_n ad sz) Q) 0 0 (zAW m_n ad sz) := by
  refine Met.ofW (cc := cX12_gifts) (maxL := 9) (ret := (some .long)) (by decide) rfl ?_
  intro p e s m args below meth c s₁ B hml hv
  obtain ⟨rfl, hsz, hP, hK, hD0⟩ := hv
  subst hsz
  have C0 : zCx p s m meth c _ RX12 cX12_gifts 9 (some .long) vs_X12_gifts := ⟨B.exec, B.bytes, hml, B.returns, findClass_of_methodNamed B.named, atoms_spec (ws := vs_X12_gifts) B.pre, B.notSynchronized⟩
  have hD := m_D0 (n0 := s.heap.size) hD0
  have hl := lv_entry ([.ref (ad 0), .int x1]) (n := 9) (Nat.le_of_ble_eq_true rfl)
  rw [lg_entry_eq]
  generalize (lg_sl ([.ref (ad 0), .int x1]) ++ List.replicate (9 - (lg_sl ([.ref (ad 0), .int x1])).length) Slot.unset).toArray = ls at hl ⊢
  exact t_X12_gifts_0 C0 hK N x1 σ _ _ ls h hP hD va_S.rf hl
theorem k_X12_gifts (N : Nat) {R : Room} {H : Heap} {locs : List Loc} {cells slots : Nat} {Q2 : State → Prop} {cc : ByteArray} {nL pc index : Nat} {ls : Array Slot} {rest : List Value} {own : String} {c0 : Cond} {σ : zSt} {x1 : Int32} {Q : Int64 → zSt → Prop} (S0 : CallFix p m c cc nL s args (c0 :: zT) own) (hml : Cond.methodLink own index yX12_gifts ∈ zT) (hR : rm_X12_gifts.frames + 1 ≤ R.frames ∧ 8 + (9 + 11) + rm_X12_gifts.locals ≤ R.locals) (h : w_X12_gifts N x1 σ Q) (hK : va_K (dC, dI) vwCl (m_ty cI cJ cC) s) (hP : va_P (dC, dI) vwCl (m_W ad cI cJ cC σ) H) (hD : va_D (zAW m_n ad s.heap.size) (m_W ad cI cJ cC σ)) (hS : va_S (zAW m_n ad s.heap.size) s.heap H locs) (hsz : ls.size = nL) (hW : (rest.map fun v => v.category).sum ≤ 8) (hcs : cells ≤ R.cells ∧ slots ≤ R.slots) (hdg : decode cc pc = .ok (.invokevirtual index, 3)) (kk : ∀ (r : Int64) (τ : zSt) (H1 : Heap) (locs1 : List Loc), Q r τ → va_P (dC, dI) vwCl (m_W ad cI cJ cC τ) H1 → va_D (zAW m_n ad s.heap.size) (m_W ad cI cJ cC τ) → va_S (zAW m_n ad s.heap.size) s.heap H1 locs1 → W p l e R s m args below meth c H1 locs1 cells slots Q2 (F0 m (pc + 3) ls (.long r :: rest))) : W p l e R s m args below meth c H locs cells slots Q2 (F0 m pc ls (.int x1 :: .ref (ad 0) :: rest)) :=
  zcv_l (T := TX12) (N' := 83) (k := 0) (ci := 12) (fs := m_f0 ad σ) [.int x1] S0 (c_X12_gifts N l dC dI ad cI cJ cC H.size σ x1 Q h) (cw_X12_gifts S0.2.2.2.2 hml rfl rfl hR) rfl rfl hK hP hD hS rfl hsz hW rfl hcs hdg kk
end q25
section q25
def b_X12_gift_55 (N : Nat) (Q : Int64 → zSt → Prop) (x1 : Int32) (x2 : Int32) (x3 : Int32) (σ : zSt) : Prop :=
  w_X12_begins N (σ.2.1 0) σ (fun τ2 => w_X12_passes N x1 x2 τ2 (fun r3 τ4 => (x3 = 0 → Q r3 τ4) ∧ (¬ x3 = 0 → w_X12_needOf N x1 x2 τ4 (fun r5 τ6 => Q (r5 - r3) τ6))))
def w_X12_gift (N : Nat) (x1 : Int32) (x2 : Int32) (x3 : Int32) (σ : zSt) (Q : Int64 → zSt → Prop) : Prop :=
  w_X12_isPerson N x1 σ (fun r1 τ2 => (r1 = 0 → Q (-1 : Int64) τ2) ∧ (¬ r1 = 0 → w_X12_pairs N τ2 (fun r3 τ4 => w_X12_isIn N x2.toInt64 (0 : Int64) (r3 - (1 : Int32)).toInt64 τ4 (fun r5 τ6 => (r5 = 0 → Q (-1 : Int64) τ6) ∧ (¬ r5 = 0 → w_X12_isTied N (τ6.2.1 0) x2 τ6 (fun r7 τ8 => (r7 = 0 → Q (-1 : Int64) τ8) ∧ (¬ r7 = 0 → w_X12_lowOf N x2 τ8 (fun r9 τ10 => (r9 = x1 → b_X12_gift_55 N Q x1 x2 x3 τ10) ∧ (¬ r9 = x1 → w_X12_highOf N x2 τ10 (fun r11 τ12 => (r11 = x1 → b_X12_gift_55 N Q x1 x2 x3 τ12) ∧ (¬ r11 = x1 → Q (-1 : Int64) τ12)))))))))))
variable {p : Program} {l : Launch} {e : Env} {s : State} {m : MethodId} {args : Array Value} {below : List Frame} {meth : Method} {c : Code} {dC : Nat → ClassId} {dI : Nat → Nat → Nat} {ad : Nat → Nat} {cI cJ cC : ClassId}
set_option maxHeartbeats 4000000 in
set_option maxRecDepth 100000 in
theorem t_X12_gift_55 (C0 : zCx p s m meth c args RX12 cX12_gift 6 (some .long) vs_X12_gift) (hK : va_K (dC, dI) vwCl (m_ty cI cJ cC) s) (N : Nat) {Q : Int64 → zSt → Prop} : ∀ (x1 : Int32) (x2 : Int32) (x3 : Int32) (σ : zSt) (H : Heap) (locs : List Loc) (ls : Array Slot), b_X12_gift_55 N  Q x1 x2 x3 σ → va_P (dC, dI) vwCl (m_W ad cI cJ cC σ) H → va_D (zAW m_n ad s.heap.size) (m_W ad cI cJ cC σ) → va_S (zAW m_n ad s.heap.size) s.heap H locs → lv_has ls 6 [(0, .ref (ad 0)), (1, .int x1), (2, .int x2), (3, .int x3)] → W p l e rm_X12_gift s m args below meth c H locs 0 0 (MQ below (zQl (dC, dI) (m_ty cI cJ cC) (m_W ad cI cJ cC) (zAW m_n ad s.heap.size) Q) args s 0 0 (zAW m_n ad s.heap.size)) (F0 m 55 ls []) := by
  obtain ⟨hx, hb, hml, hr, hown, hts, hlocks⟩ := id C0
  intro x1 x2 x3 σ H locs ls h hP hD hS hl
  unfold b_X12_gift_55 at h
  refine lv_aload_n hx hb dX12_gift_55 rfl (lv_at hl 0 rfl) ?_
  refine lv_aload_n hx hb dX12_gift_56 rfl (lv_at hl 0 rfl) ?_
  refine mg_0_47 hx hb hts hown hK hP mw_880 dX12_gift_57 ?_
  refine k_X12_begins N ⟨hx, hb, hml, hown, hts⟩ mw_1148 ⟨Nat.le_of_ble_eq_true rfl, Nat.le_of_ble_eq_true rfl⟩ h hK hP hD hS hl.1 (rest := []) (Nat.le_of_ble_eq_true rfl) ⟨Nat.le_of_ble_eq_true rfl, Nat.le_of_ble_eq_true rfl⟩ dX12_gift_60 (fun τ2 H locs h hP hD hS => ?_)
  refine lv_aload_n hx hb dX12_gift_63 rfl (lv_at hl 0 rfl) ?_
  refine lv_iload_n hx hb dX12_gift_64 rfl (lv_at hl 1 rfl) ?_
  refine lv_iload_n hx hb dX12_gift_65 rfl (lv_at hl 2 rfl) ?_
  refine k_X12_passes N ⟨hx, hb, hml, hown, hts⟩ mw_1273 ⟨Nat.le_of_ble_eq_true rfl, Nat.le_of_ble_eq_true rfl⟩ h hK hP hD hS hl.1 (rest := []) (Nat.le_of_ble_eq_true rfl) ⟨Nat.le_of_ble_eq_true rfl, Nat.le_of_ble_eq_true rfl⟩ dX12_gift_66 (fun r3 τ4 H locs h hP hD hS => ?_)
  refine lv_lstore (lv' := [(4, .long r3), (0, .ref (ad 0)), (1, .int x1), (2, .int x2), (3, .int x3)]) hx hb dX12_gift_69 hl (by decide) rfl (fun ls hl => ?_)
  refine lv_iload_n hx hb dX12_gift_71 rfl (lv_at hl 4 rfl) ?_
  refine lv_if_eq (tgt := 87) hx hb dX12_gift_72 (by decide) (fun hc => ?_) (fun hc => ?_)
  · have h := h.1 hc
    refine lv_lload hx hb dX12_gift_87 (lv_at hl 0 rfl) ?_
    exact zret_l hx hb hr hlocks hK hP hD hS h dX12_gift_89
  · have h := h.2 hc
    refine lv_aload_n hx hb dX12_gift_75 rfl (lv_at hl 1 rfl) ?_
    refine lv_iload_n hx hb dX12_gift_76 rfl (lv_at hl 2 rfl) ?_
    refine lv_iload_n hx hb dX12_gift_77 rfl (lv_at hl 3 rfl) ?_
    refine k_X12_needOf N ⟨hx, hb, hml, hown, hts⟩ mw_1276 ⟨Nat.le_of_ble_eq_true rfl, Nat.le_of_ble_eq_true rfl⟩ h hK hP hD hS hl.1 (rest := []) (Nat.le_of_ble_eq_true rfl) ⟨Nat.le_of_ble_eq_true rfl, Nat.le_of_ble_eq_true rfl⟩ dX12_gift_78 (fun r5 τ6 H locs h hP hD hS => ?_)
    refine lv_lload hx hb dX12_gift_81 (lv_at hl 0 rfl) ?_
    refine lv_lsub hx hb dX12_gift_83 ?_
    refine lv_goto (tgt := 89) hx hb dX12_gift_84 (by decide) ?_
    exact zret_l hx hb hr hlocks hK hP hD hS h dX12_gift_89
set_option maxHeartbeats 4000000 in
set_option maxRecDepth 100000 in
theorem t_X12_gift_0 (C0 : zCx p s m meth c args RX12 cX12_gift 6 (some .long) vs_X12_gift) (hK : va_K (dC, dI) vwCl (m_ty cI cJ cC) s) (N : Nat) {Q : Int64 → zSt → Prop} : ∀ (x1 : Int32) (x2 : Int32) (x3 : Int32) (σ : zSt) (H : Heap) (locs : List Loc) (ls : Array Slot), w_X12_gift N x1 x2 x3 σ Q → va_P (dC, dI) vwCl (m_W ad cI cJ cC σ) H → va_D (zAW m_n ad s.heap.size) (m_W ad cI cJ cC σ) → va_S (zAW m_n ad s.heap.size) s.heap H locs → lv_has ls 6 [(0, .ref (ad 0)), (1, .int x1), (2, .int x2), (3, .int x3)] → W p l e rm_X12_gift s m args below meth c H locs 0 0 (MQ below (zQl (dC, dI) (m_ty cI cJ cC) (m_W ad cI cJ cC) (zAW m_n ad s.heap.size) Q) args s 0 0 (zAW m_n ad s.heap.size)) (F0 m 0 ls []) := by
  obtain ⟨hx, hb, hml, hr, hown, hts, hlocks⟩ := id C0
  intro x1 x2 x3 σ H locs ls h hP hD hS hl
  unfold w_X12_gift at h
  refine lv_aload_n hx hb dX12_gift_0 rfl (lv_at hl 0 rfl) ?_
  refine lv_iload_n hx hb dX12_gift_1 rfl (lv_at hl 1 rfl) ?_
  refine k_X12_isPerson N ⟨hx, hb, hml, hown, hts⟩ mw_1057 ⟨Nat.le_of_ble_eq_true rfl, Nat.le_of_ble_eq_true rfl⟩ h hK hP hD hS hl.1 (rest := []) (Nat.le_of_ble_eq_true rfl) ⟨Nat.le_of_ble_eq_true rfl, Nat.le_of_ble_eq_true rfl⟩ dX12_gift_2 (fun r1 τ2 H locs h hP hD hS => ?_)
  refine lv_if_eq (tgt := 51) hx hb dX12_gift_5 (by decide) (fun hc => ?_) (fun hc => ?_)
  · have h := h.1 hc
    refine lv_ldc2 (v := (-1 : Int64)) hx hb hown (hts _ (List.mem_cons_of_mem _ mw_832)) dX12_gift_51 ?_
    exact zret_l hx hb hr hlocks hK hP hD hS h dX12_gift_54
  · have h := h.2 hc
    refine lv_iload_n hx hb dX12_gift_8 rfl (lv_at hl 2 rfl) ?_
    refine lv_i2l hx hb dX12_gift_9 rfl ?_
    refine lv_lconst (v := (0 : Int64)) hx hb dX12_gift_10 (by decide) ?_
    refine lv_aload_n hx hb dX12_gift_11 rfl (lv_at hl 0 rfl) ?_
    refine k_X12_pairs N ⟨hx, hb, hml, hown, hts⟩ mw_1047 ⟨Nat.le_of_ble_eq_true rfl, Nat.le_of_ble_eq_true rfl⟩ h hK hP hD hS hl.1 (rest := [.long (0 : Int64), .long x2.toInt64]) (Nat.le_of_ble_eq_true rfl) ⟨Nat.le_of_ble_eq_true rfl, Nat.le_of_ble_eq_true rfl⟩ dX12_gift_12 (fun r3 τ4 H locs h hP hD hS => ?_)
    refine lv_iconst (v := (1 : Int32)) hx hb dX12_gift_15 (by decide) ?_
    refine lv_isub hx hb dX12_gift_16 ?_
    refine lv_i2l hx hb dX12_gift_17 rfl ?_
    refine k_X12_isIn N ⟨hx, hb, hml, hown, hts⟩ mw_970 ⟨Nat.le_of_ble_eq_true rfl, Nat.le_of_ble_eq_true rfl⟩ h hK hP hD hS hl.1 (rest := []) (Nat.le_of_ble_eq_true rfl) ⟨Nat.le_of_ble_eq_true rfl, Nat.le_of_ble_eq_true rfl⟩ dX12_gift_18 (fun r5 τ6 H locs h hP hD hS => ?_)
    refine lv_if_eq (tgt := 51) hx hb dX12_gift_21 (by decide) (fun hc => ?_) (fun hc => ?_)
    · have h := h.1 hc
      refine lv_ldc2 (v := (-1 : Int64)) hx hb hown (hts _ (List.mem_cons_of_mem _ mw_832)) dX12_gift_51 ?_
      exact zret_l hx hb hr hlocks hK hP hD hS h dX12_gift_54
    · have h := h.2 hc
      refine lv_aload_n hx hb dX12_gift_24 rfl (lv_at hl 0 rfl) ?_
      refine mg_0_47 hx hb hts hown hK hP mw_880 dX12_gift_25 ?_
      refine lv_iload_n hx hb dX12_gift_28 rfl (lv_at hl 2 rfl) ?_
      refine k_X12_isTied N ⟨hx, hb, hml, hown, hts⟩ mw_1071 ⟨Nat.le_of_ble_eq_true rfl, Nat.le_of_ble_eq_true rfl⟩ h hK hP hD hS hl.1 (rest := []) (Nat.le_of_ble_eq_true rfl) ⟨Nat.le_of_ble_eq_true rfl, Nat.le_of_ble_eq_true rfl⟩ dX12_gift_29 (fun r7 τ8 H locs h hP hD hS => ?_)
      refine lv_if_eq (tgt := 51) hx hb dX12_gift_32 (by decide) (fun hc => ?_) (fun hc => ?_)
      · have h := h.1 hc
        refine lv_ldc2 (v := (-1 : Int64)) hx hb hown (hts _ (List.mem_cons_of_mem _ mw_832)) dX12_gift_51 ?_
        exact zret_l hx hb hr hlocks hK hP hD hS h dX12_gift_54
      · have h := h.2 hc
        refine lv_iload_n hx hb dX12_gift_35 rfl (lv_at hl 2 rfl) ?_
        refine k_X12_lowOf N ⟨hx, hb, hml, hown, hts⟩ mw_1154 ⟨Nat.le_of_ble_eq_true rfl, Nat.le_of_ble_eq_true rfl⟩ h hK hP hD hS hl.1 (rest := []) (Nat.le_of_ble_eq_true rfl) ⟨Nat.le_of_ble_eq_true rfl, Nat.le_of_ble_eq_true rfl⟩ dX12_gift_36 (fun r9 τ10 H locs h hP hD hS => ?_)
        refine lv_iload_n hx hb dX12_gift_39 rfl (lv_at hl 1 rfl) ?_
        refine lv_icmp_eq (tgt := 55) hx hb dX12_gift_40 (by decide) (fun hc => ?_) (fun hc => ?_)
        · have h := h.1 hc
          exact t_X12_gift_55 C0 hK N  x1 x2 x3 τ10 _ _ _ h hP hD hS (lv_sub hl [0, 1, 2, 3] rfl)
        · have h := h.2 hc
          refine lv_iload_n hx hb dX12_gift_43 rfl (lv_at hl 2 rfl) ?_
          refine k_X12_highOf N ⟨hx, hb, hml, hown, hts⟩ mw_1157 ⟨Nat.le_of_ble_eq_true rfl, Nat.le_of_ble_eq_true rfl⟩ h hK hP hD hS hl.1 (rest := []) (Nat.le_of_ble_eq_true rfl) ⟨Nat.le_of_ble_eq_true rfl, Nat.le_of_ble_eq_true rfl⟩ dX12_gift_44 (fun r11 τ12 H locs h hP hD hS => ?_)
          refine lv_iload_n hx hb dX12_gift_47 rfl (lv_at hl 1 rfl) ?_
          refine lv_icmp_eq (tgt := 55) hx hb dX12_gift_48 (by decide) (fun hc => ?_) (fun hc => ?_)
          · have h := h.1 hc
            exact t_X12_gift_55 C0 hK N  x1 x2 x3 τ12 _ _ _ h hP hD hS (lv_sub hl [0, 1, 2, 3] rfl)
          · have h := h.2 hc
            refine lv_ldc2 (v := (-1 : Int64)) hx hb hown (hts _ (List.mem_cons_of_mem _ mw_832)) dX12_gift_51 ?_
            exact zret_l hx hb hr hlocks hK hP hD hS h dX12_gift_54
set_option maxHeartbeats 4000000 in
set_option maxRecDepth 100000 in
theorem c_X12_gift (N : Nat) (l : Launch) (dC : Nat → ClassId) (dI : Nat → Nat → Nat) (ad : Nat → Nat) (cI cJ cC : ClassId) (sz : Nat) (σ : zSt) (x1 : Int32) (x2 : Int32) (x3 : Int32) (Q : Int64 → zSt → Prop) (h : w_X12_gift N x1 x2 x3 σ Q) : Met l yX12_gift vs_X12_gift rm_X12_gift (va_Pc [.ref (ad 0), .int x1, .int x2, .int x3] (zPc (dC, dI) (m_ty cI cJ cC) (m_W ad cI cJ cC) sz σ)) (zQl (dC, dI) (m_ty cI cJ cC) (m_W ad cI cJ cC) (zAW m_n ad sz) Q) 0 0 (zAW m_n ad sz) := by
  refine Met.ofW (cc := cX12_gift) (maxL := 6) (ret := (some .long)) (by decide) rfl ?_
  intro p e s m args below meth c s₁ B hml hv
  obtain ⟨rfl, hsz, hP, hK, hD0⟩ := hv
  subst hsz
  have C0 : zCx p s m meth c _ RX12 cX12_gift 6 (some .long) vs_X12_gift := ⟨B.exec, B.bytes, hml, B.returns, findClass_of_methodNamed B.named, atoms_spec (ws := vs_X12_gift) B.pre, B.notSynchronized⟩
  have hD := m_D0 (n0 := s.heap.size) hD0
  have hl := lv_entry ([.ref (ad 0), .int x1, .int x2, .int x3]) (n := 6) (Nat.le_of_ble_eq_true rfl)
  rw [lg_entry_eq]
  generalize (lg_sl ([.ref (ad 0), .int x1, .int x2, .int x3]) ++ List.replicate (6 - (lg_sl ([.ref (ad 0), .int x1, .int x2, .int x3])).length) Slot.unset).toArray = ls at hl ⊢
  exact t_X12_gift_0 C0 hK N x1 x2 x3 σ _ _ ls h hP hD va_S.rf hl
theorem k_X12_gift (N : Nat) {R : Room} {H : Heap} {locs : List Loc} {cells slots : Nat} {Q2 : State → Prop} {cc : ByteArray} {nL pc index : Nat} {ls : Array Slot} {rest : List Value} {own : String} {c0 : Cond} {σ : zSt} {x1 : Int32} {x2 : Int32} {x3 : Int32} {Q : Int64 → zSt → Prop} (S0 : CallFix p m c cc nL s args (c0 :: zT) own) (hml : Cond.methodLink own index yX12_gift ∈ zT) (hR : rm_X12_gift.frames + 1 ≤ R.frames ∧ 8 + (6 + 11) + rm_X12_gift.locals ≤ R.locals) (h : w_X12_gift N x1 x2 x3 σ Q) (hK : va_K (dC, dI) vwCl (m_ty cI cJ cC) s) (hP : va_P (dC, dI) vwCl (m_W ad cI cJ cC σ) H) (hD : va_D (zAW m_n ad s.heap.size) (m_W ad cI cJ cC σ)) (hS : va_S (zAW m_n ad s.heap.size) s.heap H locs) (hsz : ls.size = nL) (hW : (rest.map fun v => v.category).sum ≤ 8) (hcs : cells ≤ R.cells ∧ slots ≤ R.slots) (hdg : decode cc pc = .ok (.invokevirtual index, 3)) (kk : ∀ (r : Int64) (τ : zSt) (H1 : Heap) (locs1 : List Loc), Q r τ → va_P (dC, dI) vwCl (m_W ad cI cJ cC τ) H1 → va_D (zAW m_n ad s.heap.size) (m_W ad cI cJ cC τ) → va_S (zAW m_n ad s.heap.size) s.heap H1 locs1 → W p l e R s m args below meth c H1 locs1 cells slots Q2 (F0 m (pc + 3) ls (.long r :: rest))) : W p l e R s m args below meth c H locs cells slots Q2 (F0 m pc ls (.int x3 :: .int x2 :: .int x1 :: .ref (ad 0) :: rest)) :=
  zcv_l (T := TX12) (N' := 83) (k := 0) (ci := 12) (fs := m_f0 ad σ) [.int x1, .int x2, .int x3] S0 (c_X12_gift N l dC dI ad cI cJ cC H.size σ x1 x2 x3 Q h) (cw_X12_gift S0.2.2.2.2 hml rfl rfl hR) rfl rfl hK hP hD hS rfl hsz hW rfl hcs hdg kk
end q25
section q25
def b_X12_good_23 (N : Nat) (k_23 : Int32 → Int64 → Int64 → Int32 → zSt → Prop) (Q : Int64 → zSt → Prop) (x1 : Int32) (x2 : Int64) (x4 : Int64) (x6 : Int32) (σ : zSt) : Prop :=
  w_X12_pairs N σ (fun r1 τ2 => (r1 ≤ x6 → Q x4 τ2) ∧ (¬ r1 ≤ x6 → ∀ v3 : Int64, v3 = (τ2.2.1 0) ^^^ ((1 : Int64) <<< (x6.toInt64 &&& 63)) → w_X12_isTied N (τ2.2.1 0) x6 τ2 (fun r4 τ5 => (r4 = x1 → w_X12_may N v3 τ5 (fun r7 τ8 => (r7 = 0 → ∀ v9 : Int32, v9 = x6 + (1 : Int32) → k_23 x1 x2 x4 v9 τ8) ∧ (¬ r7 = 0 → w_X12_isStep N (τ8.2.1 0) x6 τ8 (fun r10 τ11 => (r10 = 0 → w_X12_worthOfAll N v3 τ11 (fun r12 τ13 => ((lg_cmp r12 x2) ≤ 0 → ∀ v14 : Int32, v14 = x6 + (1 : Int32) → k_23 x1 x2 x4 v14 τ13) ∧ (¬ (lg_cmp r12 x2) ≤ 0 → ∀ v15 : Int64, v15 = x4 ||| ((1 : Int64) <<< (x6.toInt64 &&& 63)) → ∀ v16 : Int32, v16 = x6 + (1 : Int32) → k_23 x1 x2 v15 v16 τ13))) ∧ (¬ r10 = 0 → ∀ v17 : Int32, v17 = x6 + (1 : Int32) → k_23 x1 x2 x4 v17 τ11))))) ∧ (¬ r4 = x1 → ∀ v6 : Int32, v6 = x6 + (1 : Int32) → k_23 x1 x2 x4 v6 τ5))))
def w_X12_good_23 (N : Nat) (Q : Int64 → zSt → Prop) : Nat → Int32 → Int64 → Int64 → Int32 → zSt → Prop
  | 0 => fun _ _ _ _ _ => False
  | f + 1 => b_X12_good_23 N (w_X12_good_23 N  Q f) Q
def w_X12_good (N : Nat) (x1 : Int32) (σ : zSt) (Q : Int64 → zSt → Prop) : Prop :=
  w_X12_worthOfAll N (σ.2.1 0) σ (fun r1 τ2 => w_X12_begins N (τ2.2.1 0) τ2 (fun τ4 => w_X12_good_23 N Q N x1 r1 (0 : Int64) (0 : Int32) τ4))
variable {p : Program} {l : Launch} {e : Env} {s : State} {m : MethodId} {args : Array Value} {below : List Frame} {meth : Method} {c : Code} {dC : Nat → ClassId} {dI : Nat → Nat → Nat} {ad : Nat → Nat} {cI cJ cC : ClassId}
set_option maxHeartbeats 4000000 in
set_option maxRecDepth 100000 in
theorem tb_X12_good_23 (C0 : zCx p s m meth c args RX12 cX12_good 9 (some .long) vs_X12_good) (hK : va_K (dC, dI) vwCl (m_ty cI cJ cC) s) (N : Nat) {Q : Int64 → zSt → Prop} {k_23 : Int32 → Int64 → Int64 → Int32 → zSt → Prop} (hk_23 : ∀ (x1 : Int32) (x2 : Int64) (x4 : Int64) (x6 : Int32) (σ : zSt) (H : Heap) (locs : List Loc) (ls : Array Slot), k_23 x1 x2 x4 x6 σ → va_P (dC, dI) vwCl (m_W ad cI cJ cC σ) H → va_D (zAW m_n ad s.heap.size) (m_W ad cI cJ cC σ) → va_S (zAW m_n ad s.heap.size) s.heap H locs → lv_has ls 9 [(0, .ref (ad 0)), (1, .int x1), (2, .long x2), (4, .long x4), (6, .int x6)] → W p l e rm_X12_good s m args below meth c H locs 0 0 (MQ below (zQl (dC, dI) (m_ty cI cJ cC) (m_W ad cI cJ cC) (zAW m_n ad s.heap.size) Q) args s 0 0 (zAW m_n ad s.heap.size)) (F0 m 23 ls [])) : ∀ (x1 : Int32) (x2 : Int64) (x4 : Int64) (x6 : Int32) (σ : zSt) (H : Heap) (locs : List Loc) (ls : Array Slot), b_X12_good_23 N k_23 Q x1 x2 x4 x6 σ → va_P (dC, dI) vwCl (m_W ad cI cJ cC σ) H → va_D (zAW m_n ad s.heap.size) (m_W ad cI cJ cC σ) → va_S (zAW m_n ad s.heap.size) s.heap H locs → lv_has ls 9 [(0, .ref (ad 0)), (1, .int x1), (2, .long x2), (4, .long x4), (6, .int x6)] → W p l e rm_X12_good s m args below meth c H locs 0 0 (MQ below (zQl (dC, dI) (m_ty cI cJ cC) (m_W ad cI cJ cC) (zAW m_n ad s.heap.size) Q) args s 0 0 (zAW m_n ad s.heap.size)) (F0 m 23 ls []) := by
  obtain ⟨hx, hb, hml, hr, hown, hts, hlocks⟩ := id C0
  intro x1 x2 x4 x6 σ H locs ls h hP hD hS hl
  unfold b_X12_good_23 at h
  refine lv_iload hx hb dX12_good_23 (lv_at hl 4 rfl) ?_
  refine lv_aload_n hx hb dX12_good_25 rfl (lv_at hl 0 rfl) ?_
  refine k_X12_pairs N ⟨hx, hb, hml, hown, hts⟩ mw_1047 ⟨Nat.le_of_ble_eq_true rfl, Nat.le_of_ble_eq_true rfl⟩ h hK hP hD hS hl.1 (rest := [.int x6]) (Nat.le_of_ble_eq_true rfl) ⟨Nat.le_of_ble_eq_true rfl, Nat.le_of_ble_eq_true rfl⟩ dX12_good_26 (fun r1 τ2 H locs h hP hD hS => ?_)
  refine lv_icmp_ge (tgt := 107) hx hb dX12_good_29 (by decide) (fun hc => ?_) (fun hc => ?_)
  · have h := h.1 hc
    refine lv_lload hx hb dX12_good_107 (lv_at hl 3 rfl) ?_
    exact zret_l hx hb hr hlocks hK hP hD hS h dX12_good_109
  · have h := h.2 hc
    refine lv_aload_n hx hb dX12_good_32 rfl (lv_at hl 0 rfl) ?_
    refine mg_0_47 hx hb hts hown hK hP mw_880 dX12_good_33 ?_
    refine lv_lconst (v := (1 : Int64)) hx hb dX12_good_36 (by decide) ?_
    refine lv_iload hx hb dX12_good_37 (lv_at hl 4 rfl) ?_
    refine lv_lshl hx hb dX12_good_39 rfl ?_
    refine lv_lxor hx hb dX12_good_40 ?_
    refine lv_topl (fun v3 ev3 => ?_)
    have h := h v3 ev3
    refine lv_lstore (lv' := [(7, .long v3), (0, .ref (ad 0)), (1, .int x1), (2, .long x2), (4, .long x4), (6, .int x6)]) hx hb dX12_good_41 hl (by decide) rfl (fun ls hl => ?_)
    refine lv_aload_n hx hb dX12_good_43 rfl (lv_at hl 1 rfl) ?_
    refine mg_0_47 hx hb hts hown hK hP mw_880 dX12_good_44 ?_
    refine lv_iload hx hb dX12_good_47 (lv_at hl 5 rfl) ?_
    refine k_X12_isTied N ⟨hx, hb, hml, hown, hts⟩ mw_1071 ⟨Nat.le_of_ble_eq_true rfl, Nat.le_of_ble_eq_true rfl⟩ h hK hP hD hS hl.1 (rest := []) (Nat.le_of_ble_eq_true rfl) ⟨Nat.le_of_ble_eq_true rfl, Nat.le_of_ble_eq_true rfl⟩ dX12_good_49 (fun r4 τ5 H locs h hP hD hS => ?_)
    refine lv_iload_n hx hb dX12_good_52 rfl (lv_at hl 2 rfl) ?_
    refine lv_icmp_ne (tgt := 101) hx hb dX12_good_53 (by decide) (fun hc => ?_) (fun hc => ?_)
    · have h := h.2 hc
      obtain ⟨v6, ev6⟩ : ∃ z : Int32, z = x6 + (1 : Int32) := ⟨_, rfl⟩
      have h := h v6 ev6
      refine lv_iinc (v := v6) (lv' := [(6, .int v6), (7, .long v3), (0, .ref (ad 0)), (1, .int x1), (2, .long x2), (4, .long x4)]) hx hb dX12_good_101 hl (k := 5) rfl (by rw [ev6]; rfl) (by decide) rfl (fun ls hl => ?_)
      refine lv_goto (tgt := 23) hx hb dX12_good_104 (by decide) ?_
      exact hk_23 x1 x2 x4 v6 τ5 _ _ _ h hP hD hS (lv_sub hl [2, 3, 4, 5, 0] rfl)
    · have h := h.1 hc
      refine lv_aload_n hx hb dX12_good_56 rfl (lv_at hl 1 rfl) ?_
      refine lv_lload hx hb dX12_good_57 (lv_at hl 0 rfl) ?_
      refine k_X12_may N ⟨hx, hb, hml, hown, hts⟩ mw_1065 ⟨Nat.le_of_ble_eq_true rfl, Nat.le_of_ble_eq_true rfl⟩ h hK hP hD hS hl.1 (rest := []) (Nat.le_of_ble_eq_true rfl) ⟨Nat.le_of_ble_eq_true rfl, Nat.le_of_ble_eq_true rfl⟩ dX12_good_59 (fun r7 τ8 H locs h hP hD hS => ?_)
      refine lv_if_eq (tgt := 101) hx hb dX12_good_62 (by decide) (fun hc => ?_) (fun hc => ?_)
      · have h := h.1 hc
        obtain ⟨v9, ev9⟩ : ∃ z : Int32, z = x6 + (1 : Int32) := ⟨_, rfl⟩
        have h := h v9 ev9
        refine lv_iinc (v := v9) (lv' := [(6, .int v9), (7, .long v3), (0, .ref (ad 0)), (1, .int x1), (2, .long x2), (4, .long x4)]) hx hb dX12_good_101 hl (k := 5) rfl (by rw [ev9]; rfl) (by decide) rfl (fun ls hl => ?_)
        refine lv_goto (tgt := 23) hx hb dX12_good_104 (by decide) ?_
        exact hk_23 x1 x2 x4 v9 τ8 _ _ _ h hP hD hS (lv_sub hl [2, 3, 4, 5, 0] rfl)
      · have h := h.2 hc
        refine lv_aload_n hx hb dX12_good_65 rfl (lv_at hl 1 rfl) ?_
        refine lv_aload_n hx hb dX12_good_66 rfl (lv_at hl 1 rfl) ?_
        refine mg_0_47 hx hb hts hown hK hP mw_880 dX12_good_67 ?_
        refine lv_iload hx hb dX12_good_70 (lv_at hl 5 rfl) ?_
        refine k_X12_isStep N ⟨hx, hb, hml, hown, hts⟩ mw_1201 ⟨Nat.le_of_ble_eq_true rfl, Nat.le_of_ble_eq_true rfl⟩ h hK hP hD hS hl.1 (rest := []) (Nat.le_of_ble_eq_true rfl) ⟨Nat.le_of_ble_eq_true rfl, Nat.le_of_ble_eq_true rfl⟩ dX12_good_72 (fun r10 τ11 H locs h hP hD hS => ?_)
        refine lv_if_eq (tgt := 81) hx hb dX12_good_75 (by decide) (fun hc => ?_) (fun hc => ?_)
        · have h := h.1 hc
          refine lv_aload_n hx hb dX12_good_81 rfl (lv_at hl 1 rfl) ?_
          refine lv_lload hx hb dX12_good_82 (lv_at hl 0 rfl) ?_
          refine k_X12_worthOfAll N ⟨hx, hb, hml, hown, hts⟩ mw_1101 ⟨Nat.le_of_ble_eq_true rfl, Nat.le_of_ble_eq_true rfl⟩ h hK hP hD hS hl.1 (rest := []) (Nat.le_of_ble_eq_true rfl) ⟨Nat.le_of_ble_eq_true rfl, Nat.le_of_ble_eq_true rfl⟩ dX12_good_84 (fun r12 τ13 H locs h hP hD hS => ?_)
          refine lv_lload_n hx hb dX12_good_87 rfl (lv_at hl 3 rfl) ?_
          refine W.lcmp hx hb dX12_good_88 ?_
          refine lv_if_le (tgt := 101) hx hb dX12_good_89 (by decide) (fun hc => ?_) (fun hc => ?_)
          · have h := h.1 hc
            obtain ⟨v14, ev14⟩ : ∃ z : Int32, z = x6 + (1 : Int32) := ⟨_, rfl⟩
            have h := h v14 ev14
            refine lv_iinc (v := v14) (lv' := [(6, .int v14), (7, .long v3), (0, .ref (ad 0)), (1, .int x1), (2, .long x2), (4, .long x4)]) hx hb dX12_good_101 hl (k := 5) rfl (by rw [ev14]; rfl) (by decide) rfl (fun ls hl => ?_)
            refine lv_goto (tgt := 23) hx hb dX12_good_104 (by decide) ?_
            exact hk_23 x1 x2 x4 v14 τ13 _ _ _ h hP hD hS (lv_sub hl [2, 3, 4, 5, 0] rfl)
          · have h := h.2 hc
            refine lv_lload hx hb dX12_good_92 (lv_at hl 4 rfl) ?_
            refine lv_lconst (v := (1 : Int64)) hx hb dX12_good_94 (by decide) ?_
            refine lv_iload hx hb dX12_good_95 (lv_at hl 5 rfl) ?_
            refine lv_lshl hx hb dX12_good_97 rfl ?_
            refine lv_lor hx hb dX12_good_98 ?_
            refine lv_topl (fun v15 ev15 => ?_)
            have h := h v15 ev15
            refine lv_lstore (lv' := [(4, .long v15), (7, .long v3), (0, .ref (ad 0)), (1, .int x1), (2, .long x2), (6, .int x6)]) hx hb dX12_good_99 hl (by decide) rfl (fun ls hl => ?_)
            obtain ⟨v16, ev16⟩ : ∃ z : Int32, z = x6 + (1 : Int32) := ⟨_, rfl⟩
            have h := h v16 ev16
            refine lv_iinc (v := v16) (lv' := [(6, .int v16), (4, .long v15), (7, .long v3), (0, .ref (ad 0)), (1, .int x1), (2, .long x2)]) hx hb dX12_good_101 hl (k := 5) rfl (by rw [ev16]; rfl) (by decide) rfl (fun ls hl => ?_)
            refine lv_goto (tgt := 23) hx hb dX12_good_104 (by decide) ?_
            exact hk_23 x1 x2 v15 v16 τ13 _ _ _ h hP hD hS (lv_sub hl [3, 4, 5, 1, 0] rfl)
        · have h := h.2 hc
          refine lv_goto (tgt := 101) hx hb dX12_good_78 (by decide) ?_
          obtain ⟨v17, ev17⟩ : ∃ z : Int32, z = x6 + (1 : Int32) := ⟨_, rfl⟩
          have h := h v17 ev17
          refine lv_iinc (v := v17) (lv' := [(6, .int v17), (7, .long v3), (0, .ref (ad 0)), (1, .int x1), (2, .long x2), (4, .long x4)]) hx hb dX12_good_101 hl (k := 5) rfl (by rw [ev17]; rfl) (by decide) rfl (fun ls hl => ?_)
          refine lv_goto (tgt := 23) hx hb dX12_good_104 (by decide) ?_
          exact hk_23 x1 x2 x4 v17 τ11 _ _ _ h hP hD hS (lv_sub hl [2, 3, 4, 5, 0] rfl)
set_option maxHeartbeats 4000000 in
set_option maxRecDepth 100000 in
theorem t_X12_good_23 (C0 : zCx p s m meth c args RX12 cX12_good 9 (some .long) vs_X12_good) (hK : va_K (dC, dI) vwCl (m_ty cI cJ cC) s) (N : Nat) {Q : Int64 → zSt → Prop} : ∀ (f : Nat) (x1 : Int32) (x2 : Int64) (x4 : Int64) (x6 : Int32) (σ : zSt) (H : Heap) (locs : List Loc) (ls : Array Slot), w_X12_good_23 N  Q f x1 x2 x4 x6 σ → va_P (dC, dI) vwCl (m_W ad cI cJ cC σ) H → va_D (zAW m_n ad s.heap.size) (m_W ad cI cJ cC σ) → va_S (zAW m_n ad s.heap.size) s.heap H locs → lv_has ls 9 [(0, .ref (ad 0)), (1, .int x1), (2, .long x2), (4, .long x4), (6, .int x6)] → W p l e rm_X12_good s m args below meth c H locs 0 0 (MQ below (zQl (dC, dI) (m_ty cI cJ cC) (m_W ad cI cJ cC) (zAW m_n ad s.heap.size) Q) args s 0 0 (zAW m_n ad s.heap.size)) (F0 m 23 ls []) := by
  intro f
  induction f with
  | zero => intro x1 x2 x4 x6 σ H locs ls h; exact h.elim
  | succ f ih =>
    intro x1 x2 x4 x6 σ H locs ls h hP hD hS hl
    exact tb_X12_good_23 C0 hK N  (k_23 := w_X12_good_23 N  Q f) ih x1 x2 x4 x6 σ H locs ls h hP hD hS hl
set_option maxHeartbeats 4000000 in
set_option maxRecDepth 100000 in
theorem t_X12_good_0 (C0 : zCx p s m meth c args RX12 cX12_good 9 (some .long) vs_X12_good) (hK : va_K (dC, dI) vwCl (m_ty cI cJ cC) s) (N : Nat) {Q : Int64 → zSt → Prop} : ∀ (x1 : Int32) (σ : zSt) (H : Heap) (locs : List Loc) (ls : Array Slot), w_X12_good N x1 σ Q → va_P (dC, dI) vwCl (m_W ad cI cJ cC σ) H → va_D (zAW m_n ad s.heap.size) (m_W ad cI cJ cC σ) → va_S (zAW m_n ad s.heap.size) s.heap H locs → lv_has ls 9 [(0, .ref (ad 0)), (1, .int x1)] → W p l e rm_X12_good s m args below meth c H locs 0 0 (MQ below (zQl (dC, dI) (m_ty cI cJ cC) (m_W ad cI cJ cC) (zAW m_n ad s.heap.size) Q) args s 0 0 (zAW m_n ad s.heap.size)) (F0 m 0 ls []) := by
  obtain ⟨hx, hb, hml, hr, hown, hts, hlocks⟩ := id C0
  intro x1 σ H locs ls h hP hD hS hl
  unfold w_X12_good at h
  refine lv_aload_n hx hb dX12_good_0 rfl (lv_at hl 0 rfl) ?_
  refine lv_aload_n hx hb dX12_good_1 rfl (lv_at hl 0 rfl) ?_
  refine mg_0_47 hx hb hts hown hK hP mw_880 dX12_good_2 ?_
  refine k_X12_worthOfAll N ⟨hx, hb, hml, hown, hts⟩ mw_1101 ⟨Nat.le_of_ble_eq_true rfl, Nat.le_of_ble_eq_true rfl⟩ h hK hP hD hS hl.1 (rest := []) (Nat.le_of_ble_eq_true rfl) ⟨Nat.le_of_ble_eq_true rfl, Nat.le_of_ble_eq_true rfl⟩ dX12_good_5 (fun r1 τ2 H locs h hP hD hS => ?_)
  refine lv_lstore_n (lv' := [(2, .long r1), (0, .ref (ad 0)), (1, .int x1)]) hx hb dX12_good_8 rfl hl (by decide) rfl (fun ls hl => ?_)
  refine lv_aload_n hx hb dX12_good_9 rfl (lv_at hl 1 rfl) ?_
  refine lv_aload_n hx hb dX12_good_10 rfl (lv_at hl 1 rfl) ?_
  refine mg_0_47 hx hb hts hown hK hP mw_880 dX12_good_11 ?_
  refine k_X12_begins N ⟨hx, hb, hml, hown, hts⟩ mw_1148 ⟨Nat.le_of_ble_eq_true rfl, Nat.le_of_ble_eq_true rfl⟩ h hK hP hD hS hl.1 (rest := []) (Nat.le_of_ble_eq_true rfl) ⟨Nat.le_of_ble_eq_true rfl, Nat.le_of_ble_eq_true rfl⟩ dX12_good_14 (fun τ4 H locs h hP hD hS => ?_)
  refine lv_lconst (v := (0 : Int64)) hx hb dX12_good_17 (by decide) ?_
  refine lv_lstore (lv' := [(4, .long (0 : Int64)), (2, .long r1), (0, .ref (ad 0)), (1, .int x1)]) hx hb dX12_good_18 hl (by decide) rfl (fun ls hl => ?_)
  refine lv_iconst (v := (0 : Int32)) hx hb dX12_good_20 (by decide) ?_
  refine lv_istore (lv' := [(6, .int (0 : Int32)), (4, .long (0 : Int64)), (2, .long r1), (0, .ref (ad 0)), (1, .int x1)]) hx hb dX12_good_21 hl (by decide) rfl (fun ls hl => ?_)
  exact t_X12_good_23 C0 hK N  N x1 r1 (0 : Int64) (0 : Int32) τ4 _ _ _ h hP hD hS (lv_sub hl [3, 4, 2, 1, 0] rfl)
set_option maxHeartbeats 4000000 in
set_option maxRecDepth 100000 in
theorem c_X12_good (N : Nat) (l : Launch) (dC : Nat → ClassId) (dI : Nat → Nat → Nat) (ad : Nat → Nat) (cI cJ cC : ClassId) (sz : Nat) (σ : zSt) (x1 : Int32) (Q : Int64 → zSt → Prop) (h : w_X12_good N x1 σ Q) : Met l yX12_good vs_X12_good rm_X12_good (va_Pc [.ref (ad 0), .int x1] (zPc (dC, dI) (m_ty cI cJ cC) (m_W ad cI cJ cC) sz σ)) (zQl (dC, dI) (m_ty cI cJ cC) (m_W ad cI cJ cC) (zAW m_n ad sz) Q) 0 0 (zAW m_n ad sz) := by
  refine Met.ofW (cc := cX12_good) (maxL := 9) (ret := (some .long)) (by decide) rfl ?_
  intro p e s m args below meth c s₁ B hml hv
  obtain ⟨rfl, hsz, hP, hK, hD0⟩ := hv
  subst hsz
  have C0 : zCx p s m meth c _ RX12 cX12_good 9 (some .long) vs_X12_good := ⟨B.exec, B.bytes, hml, B.returns, findClass_of_methodNamed B.named, atoms_spec (ws := vs_X12_good) B.pre, B.notSynchronized⟩
  have hD := m_D0 (n0 := s.heap.size) hD0
  have hl := lv_entry ([.ref (ad 0), .int x1]) (n := 9) (Nat.le_of_ble_eq_true rfl)
  rw [lg_entry_eq]
  generalize (lg_sl ([.ref (ad 0), .int x1]) ++ List.replicate (9 - (lg_sl ([.ref (ad 0), .int x1])).length) Slot.unset).toArray = ls at hl ⊢
  exact t_X12_good_0 C0 hK N x1 σ _ _ ls h hP hD va_S.rf hl
theorem k_X12_good (N : Nat) {R : Room} {H : Heap} {locs : List Loc} {cells slots : Nat} {Q2 : State → Prop} {cc : ByteArray} {nL pc index : Nat} {ls : Array Slot} {rest : List Value} {own : String} {c0 : Cond} {σ : zSt} {x1 : Int32} {Q : Int64 → zSt → Prop} (S0 : CallFix p m c cc nL s args (c0 :: zT) own) (hml : Cond.methodLink own index yX12_good ∈ zT) (hR : rm_X12_good.frames + 1 ≤ R.frames ∧ 8 + (9 + 11) + rm_X12_good.locals ≤ R.locals) (h : w_X12_good N x1 σ Q) (hK : va_K (dC, dI) vwCl (m_ty cI cJ cC) s) (hP : va_P (dC, dI) vwCl (m_W ad cI cJ cC σ) H) (hD : va_D (zAW m_n ad s.heap.size) (m_W ad cI cJ cC σ)) (hS : va_S (zAW m_n ad s.heap.size) s.heap H locs) (hsz : ls.size = nL) (hW : (rest.map fun v => v.category).sum ≤ 8) (hcs : cells ≤ R.cells ∧ slots ≤ R.slots) (hdg : decode cc pc = .ok (.invokevirtual index, 3)) (kk : ∀ (r : Int64) (τ : zSt) (H1 : Heap) (locs1 : List Loc), Q r τ → va_P (dC, dI) vwCl (m_W ad cI cJ cC τ) H1 → va_D (zAW m_n ad s.heap.size) (m_W ad cI cJ cC τ) → va_S (zAW m_n ad s.heap.size) s.heap H1 locs1 → W p l e R s m args below meth c H1 locs1 cells slots Q2 (F0 m (pc + 3) ls (.long r :: rest))) : W p l e R s m args below meth c H locs cells slots Q2 (F0 m pc ls (.int x1 :: .ref (ad 0) :: rest)) :=
  zcv_l (T := TX12) (N' := 83) (k := 0) (ci := 12) (fs := m_f0 ad σ) [.int x1] S0 (c_X12_good N l dC dI ad cI cJ cC H.size σ x1 Q h) (cw_X12_good S0.2.2.2.2 hml rfl rfl hR) rfl rfl hK hP hD hS rfl hsz hW rfl hcs hdg kk
end q25
