section q13
end q13
section q13
def b_X11_lie_121 (N : Nat) (k_29 : Int32 → Int32 → Int32 → zSt → Prop) (Q : Int32 → zSt → Prop) (x1 : Int32) (x3 : Int32) (x6 : Int64) (σ : zSt) : Prop :=
  ∀ τ1 : zSt, τ1 = zJ σ 1 x6 → ∀ v2 : Int32, v2 = x3 + (1 : Int32) → k_29 x1 x3 v2 τ1
def b_X11_lie_92 (N : Nat) (k_29 : Int32 → Int32 → Int32 → zSt → Prop) (Q : Int32 → zSt → Prop) (x1 : Int32) (x2 : Int32) (x3 : Int32) (s0 : Int64) (σ : zSt) : Prop :=
  w_X10_of N s0 x1 σ (fun r1 τ2 => (x2 = (-1 : Int32) → b_X11_lie_121 N k_29 Q x1 x3 r1 τ2) ∧ (¬ x2 = (-1 : Int32) → ((lg_cmp r1 (τ2.2.1 1)) ≤ 0 → ∀ v3 : Int32, v3 = x3 + (1 : Int32) → k_29 x1 x2 v3 τ2) ∧ (¬ (lg_cmp r1 (τ2.2.1 1)) ≤ 0 → b_X11_lie_121 N k_29 Q x1 x3 r1 τ2)))
def b_X11_lie_91 (N : Nat) (k_29 : Int32 → Int32 → Int32 → zSt → Prop) (Q : Int32 → zSt → Prop) (x1 : Int32) (x2 : Int32) (x3 : Int32) (σ : zSt) : Prop :=
  b_X11_lie_92 N k_29 Q x1 x2 x3 (0 : Int64) σ
def b_X11_lie_29 (N : Nat) (k_29 : Int32 → Int32 → Int32 → zSt → Prop) (Q : Int32 → zSt → Prop) (x1 : Int32) (x2 : Int32) (x3 : Int32) (σ : zSt) : Prop :=
  ((20 : Int32) < x3 → Q x2 σ) ∧ (¬ (20 : Int32) < x3 → w_X10_pretend N x1 x3 σ (fun τ2 => w_X9_from N (0 : Int64) τ2 (fun τ4 => w_X10_pretend N (-1 : Int32) (0 : Int32) τ4 (fun τ6 => ((τ6.1 32) = 0 → b_X11_lie_91 N k_29 Q x1 x2 x3 τ6) ∧ (¬ (τ6.1 32) = 0 → ((τ6.1 31) = 0 → w_X9_lastNet N τ6 (fun r7 τ8 => b_X11_lie_92 N k_29 Q x1 x2 x3 r7 τ8)) ∧ (¬ (τ6.1 31) = 0 → b_X11_lie_91 N k_29 Q x1 x2 x3 τ6))))))
def w_X11_lie_29 (N : Nat) (Q : Int32 → zSt → Prop) : Nat → Int32 → Int32 → Int32 → zSt → Prop
  | 0 => fun _ _ _ _ => False
  | f + 1 => b_X11_lie_29 N (w_X11_lie_29 N  Q f) Q
def w_X11_lie (N : Nat) (x1 : Int32) (σ : zSt) (Q : Int32 → zSt → Prop) : Prop :=
  w_X4_isPerson_2 N x1 σ (fun r1 τ2 => (r1 = 0 → Q (-1 : Int32) τ2) ∧ (¬ r1 = 0 → ((τ2.1 1) ≤ (6 : Int32) → w_X11_lie_29 N Q N x1 (-1 : Int32) (0 : Int32) τ2) ∧ (¬ (τ2.1 1) ≤ (6 : Int32) → Q (-1 : Int32) τ2)))
variable {p : Program} {l : Launch} {e : Env} {s : State} {m : MethodId} {args : Array Value} {below : List Frame} {meth : Method} {c : Code} {dC : Nat → ClassId} {dI : Nat → Nat → Nat} {ad : Nat → Nat} {cI cJ : ClassId}
set_option maxHeartbeats 4000000 in
set_option maxRecDepth 100000 in
theorem t_X11_lie_121 (C0 : zCx p s m meth c args RX11 cX11_lie 8 (some .int) vs_X11_lie) (hK : va_K (dC, dI) vwCl (x_ty cI cJ) s) (N : Nat) {Q : Int32 → zSt → Prop} {k_29 : Int32 → Int32 → Int32 → zSt → Prop} (hk_29 : ∀ (x1 : Int32) (x2 : Int32) (x3 : Int32) (σ : zSt) (H : Heap) (locs : List Loc) (ls : Array Slot), k_29 x1 x2 x3 σ → va_P (dC, dI) vwCl (x_W ad cI cJ σ) H → va_D (zAW x_n ad s.heap.size) (x_W ad cI cJ σ) → va_S (zAW x_n ad s.heap.size) s.heap H locs → lv_has ls 8 [(0, .ref (ad 0)), (1, .int x1), (2, .int x2), (3, .int x3)] → W p l e rm_X11_lie s m args below meth c H locs 0 0 (MQ below (zQi (dC, dI) (x_ty cI cJ) (x_W ad cI cJ) (zAW x_n ad s.heap.size) Q) args s 0 0 (zAW x_n ad s.heap.size)) (F0 m 29 ls [])) : ∀ (x1 : Int32) (x3 : Int32) (x6 : Int64) (σ : zSt) (H : Heap) (locs : List Loc) (ls : Array Slot), b_X11_lie_121 N k_29 Q x1 x3 x6 σ → va_P (dC, dI) vwCl (x_W ad cI cJ σ) H → va_D (zAW x_n ad s.heap.size) (x_W ad cI cJ σ) → va_S (zAW x_n ad s.heap.size) s.heap H locs → lv_has ls 8 [(0, .ref (ad 0)), (1, .int x1), (3, .int x3), (6, .long x6)] → W p l e rm_X11_lie s m args below meth c H locs 0 0 (MQ below (zQi (dC, dI) (x_ty cI cJ) (x_W ad cI cJ) (zAW x_n ad s.heap.size) Q) args s 0 0 (zAW x_n ad s.heap.size)) (F0 m 121 ls []) := by
  obtain ⟨hx, hb, hml, hr, hown, hts, hlocks⟩ := id C0
  intro x1 x3 x6 σ H locs ls h hP hD hS hl
  unfold b_X11_lie_121 at h
  refine lv_iload_n hx hb dX11_lie_121 rfl (lv_at hl 2 rfl) ?_
  refine lv_istore_n (lv' := [(2, .int x3), (0, .ref (ad 0)), (1, .int x1), (3, .int x3), (6, .long x6)]) hx hb dX11_lie_122 rfl hl (by decide) rfl (fun ls hl => ?_)
  refine lv_aload_n hx hb dX11_lie_123 rfl (lv_at hl 1 rfl) ?_
  refine lv_lload hx hb dX11_lie_124 (lv_at hl 4 rfl) ?_
  refine xp_0_16 hx hb hts hown hK hP hD hS mw_305 dX11_lie_126 (fun τ1 H locs eτ1 hP hD hS => ?_)
  have h := h τ1 eτ1
  obtain ⟨v2, ev2⟩ : ∃ z : Int32, z = x3 + (1 : Int32) := ⟨_, rfl⟩
  have h := h v2 ev2
  refine lv_iinc (v := v2) (lv' := [(3, .int v2), (2, .int x3), (0, .ref (ad 0)), (1, .int x1), (6, .long x6)]) hx hb dX11_lie_129 hl (k := 3) rfl (by rw [ev2]; rfl) (by decide) rfl (fun ls hl => ?_)
  refine lv_goto (tgt := 29) hx hb dX11_lie_132 (by decide) ?_
  exact hk_29 x1 x3 v2 τ1 _ _ _ h hP hD hS (lv_sub hl [2, 3, 1, 0] rfl)
set_option maxHeartbeats 4000000 in
set_option maxRecDepth 100000 in
theorem t_X11_lie_92 (C0 : zCx p s m meth c args RX11 cX11_lie 8 (some .int) vs_X11_lie) (hK : va_K (dC, dI) vwCl (x_ty cI cJ) s) (N : Nat) {Q : Int32 → zSt → Prop} {k_29 : Int32 → Int32 → Int32 → zSt → Prop} (hk_29 : ∀ (x1 : Int32) (x2 : Int32) (x3 : Int32) (σ : zSt) (H : Heap) (locs : List Loc) (ls : Array Slot), k_29 x1 x2 x3 σ → va_P (dC, dI) vwCl (x_W ad cI cJ σ) H → va_D (zAW x_n ad s.heap.size) (x_W ad cI cJ σ) → va_S (zAW x_n ad s.heap.size) s.heap H locs → lv_has ls 8 [(0, .ref (ad 0)), (1, .int x1), (2, .int x2), (3, .int x3)] → W p l e rm_X11_lie s m args below meth c H locs 0 0 (MQ below (zQi (dC, dI) (x_ty cI cJ) (x_W ad cI cJ) (zAW x_n ad s.heap.size) Q) args s 0 0 (zAW x_n ad s.heap.size)) (F0 m 29 ls [])) : ∀ (x1 : Int32) (x2 : Int32) (x3 : Int32) (s0 : Int64) (σ : zSt) (H : Heap) (locs : List Loc) (ls : Array Slot), b_X11_lie_92 N k_29 Q x1 x2 x3 s0 σ → va_P (dC, dI) vwCl (x_W ad cI cJ σ) H → va_D (zAW x_n ad s.heap.size) (x_W ad cI cJ σ) → va_S (zAW x_n ad s.heap.size) s.heap H locs → lv_has ls 8 [(0, .ref (ad 0)), (1, .int x1), (2, .int x2), (3, .int x3)] → W p l e rm_X11_lie s m args below meth c H locs 0 0 (MQ below (zQi (dC, dI) (x_ty cI cJ) (x_W ad cI cJ) (zAW x_n ad s.heap.size) Q) args s 0 0 (zAW x_n ad s.heap.size)) (F0 m 92 ls [.long s0]) := by
  obtain ⟨hx, hb, hml, hr, hown, hts, hlocks⟩ := id C0
  intro x1 x2 x3 s0 σ H locs ls h hP hD hS hl
  unfold b_X11_lie_92 at h
  refine lv_lstore (lv' := [(4, .long s0), (0, .ref (ad 0)), (1, .int x1), (2, .int x2), (3, .int x3)]) hx hb dX11_lie_92 hl (by decide) rfl (fun ls hl => ?_)
  refine lv_aload_n hx hb dX11_lie_94 rfl (lv_at hl 1 rfl) ?_
  refine xg_0_5 hx hb hts hown hK hP mw_294 dX11_lie_95 ?_
  refine lv_lload hx hb dX11_lie_98 (lv_at hl 0 rfl) ?_
  refine lv_iload_n hx hb dX11_lie_100 rfl (lv_at hl 2 rfl) ?_
  refine k_X10_of N ⟨hx, hb, hml, hown, hts⟩ mw_580 ⟨Nat.le_of_ble_eq_true rfl, Nat.le_of_ble_eq_true rfl⟩ h hK hP hD hS hl.1 (rest := []) (Nat.le_of_ble_eq_true rfl) ⟨Nat.le_of_ble_eq_true rfl, Nat.le_of_ble_eq_true rfl⟩ dX11_lie_101 (fun r1 τ2 H locs h hP hD hS => ?_)
  refine lv_lstore (lv' := [(6, .long r1), (4, .long s0), (0, .ref (ad 0)), (1, .int x1), (2, .int x2), (3, .int x3)]) hx hb dX11_lie_104 hl (by decide) rfl (fun ls hl => ?_)
  refine lv_iload_n hx hb dX11_lie_106 rfl (lv_at hl 4 rfl) ?_
  refine lv_iconst (v := (-1 : Int32)) hx hb dX11_lie_107 (by decide) ?_
  refine lv_icmp_eq (tgt := 121) hx hb dX11_lie_108 (by decide) (fun hc => ?_) (fun hc => ?_)
  · have h := h.1 hc
    exact t_X11_lie_121 C0 hK N hk_29 x1 x3 r1 τ2 _ _ _ h hP hD hS (lv_sub hl [2, 3, 5, 0] rfl)
  · have h := h.2 hc
    refine lv_lload hx hb dX11_lie_111 (lv_at hl 0 rfl) ?_
    refine lv_aload_n hx hb dX11_lie_113 rfl (lv_at hl 2 rfl) ?_
    refine xg_0_16 hx hb hts hown hK hP mw_305 dX11_lie_114 ?_
    refine W.lcmp hx hb dX11_lie_117 ?_
    refine lv_if_le (tgt := 129) hx hb dX11_lie_118 (by decide) (fun hc => ?_) (fun hc => ?_)
    · have h := h.1 hc
      obtain ⟨v3, ev3⟩ : ∃ z : Int32, z = x3 + (1 : Int32) := ⟨_, rfl⟩
      have h := h v3 ev3
      refine lv_iinc (v := v3) (lv' := [(3, .int v3), (6, .long r1), (4, .long s0), (0, .ref (ad 0)), (1, .int x1), (2, .int x2)]) hx hb dX11_lie_129 hl (k := 5) rfl (by rw [ev3]; rfl) (by decide) rfl (fun ls hl => ?_)
      refine lv_goto (tgt := 29) hx hb dX11_lie_132 (by decide) ?_
      exact hk_29 x1 x2 v3 τ2 _ _ _ h hP hD hS (lv_sub hl [3, 4, 5, 0] rfl)
    · have h := h.2 hc
      exact t_X11_lie_121 C0 hK N hk_29 x1 x3 r1 τ2 _ _ _ h hP hD hS (lv_sub hl [2, 3, 5, 0] rfl)
set_option maxHeartbeats 4000000 in
set_option maxRecDepth 100000 in
theorem t_X11_lie_91 (C0 : zCx p s m meth c args RX11 cX11_lie 8 (some .int) vs_X11_lie) (hK : va_K (dC, dI) vwCl (x_ty cI cJ) s) (N : Nat) {Q : Int32 → zSt → Prop} {k_29 : Int32 → Int32 → Int32 → zSt → Prop} (hk_29 : ∀ (x1 : Int32) (x2 : Int32) (x3 : Int32) (σ : zSt) (H : Heap) (locs : List Loc) (ls : Array Slot), k_29 x1 x2 x3 σ → va_P (dC, dI) vwCl (x_W ad cI cJ σ) H → va_D (zAW x_n ad s.heap.size) (x_W ad cI cJ σ) → va_S (zAW x_n ad s.heap.size) s.heap H locs → lv_has ls 8 [(0, .ref (ad 0)), (1, .int x1), (2, .int x2), (3, .int x3)] → W p l e rm_X11_lie s m args below meth c H locs 0 0 (MQ below (zQi (dC, dI) (x_ty cI cJ) (x_W ad cI cJ) (zAW x_n ad s.heap.size) Q) args s 0 0 (zAW x_n ad s.heap.size)) (F0 m 29 ls [])) : ∀ (x1 : Int32) (x2 : Int32) (x3 : Int32) (σ : zSt) (H : Heap) (locs : List Loc) (ls : Array Slot), b_X11_lie_91 N k_29 Q x1 x2 x3 σ → va_P (dC, dI) vwCl (x_W ad cI cJ σ) H → va_D (zAW x_n ad s.heap.size) (x_W ad cI cJ σ) → va_S (zAW x_n ad s.heap.size) s.heap H locs → lv_has ls 8 [(0, .ref (ad 0)), (1, .int x1), (2, .int x2), (3, .int x3)] → W p l e rm_X11_lie s m args below meth c H locs 0 0 (MQ below (zQi (dC, dI) (x_ty cI cJ) (x_W ad cI cJ) (zAW x_n ad s.heap.size) Q) args s 0 0 (zAW x_n ad s.heap.size)) (F0 m 91 ls []) := by
  obtain ⟨hx, hb, hml, hr, hown, hts, hlocks⟩ := id C0
  intro x1 x2 x3 σ H locs ls h hP hD hS hl
  unfold b_X11_lie_91 at h
  refine lv_lconst (v := (0 : Int64)) hx hb dX11_lie_91 (by decide) ?_
  exact t_X11_lie_92 C0 hK N hk_29 x1 x2 x3 (0 : Int64) σ _ _ _ h hP hD hS (lv_sub hl [0, 1, 2, 3] rfl)
set_option maxHeartbeats 4000000 in
set_option maxRecDepth 100000 in
theorem tb_X11_lie_29 (C0 : zCx p s m meth c args RX11 cX11_lie 8 (some .int) vs_X11_lie) (hK : va_K (dC, dI) vwCl (x_ty cI cJ) s) (N : Nat) {Q : Int32 → zSt → Prop} {k_29 : Int32 → Int32 → Int32 → zSt → Prop} (hk_29 : ∀ (x1 : Int32) (x2 : Int32) (x3 : Int32) (σ : zSt) (H : Heap) (locs : List Loc) (ls : Array Slot), k_29 x1 x2 x3 σ → va_P (dC, dI) vwCl (x_W ad cI cJ σ) H → va_D (zAW x_n ad s.heap.size) (x_W ad cI cJ σ) → va_S (zAW x_n ad s.heap.size) s.heap H locs → lv_has ls 8 [(0, .ref (ad 0)), (1, .int x1), (2, .int x2), (3, .int x3)] → W p l e rm_X11_lie s m args below meth c H locs 0 0 (MQ below (zQi (dC, dI) (x_ty cI cJ) (x_W ad cI cJ) (zAW x_n ad s.heap.size) Q) args s 0 0 (zAW x_n ad s.heap.size)) (F0 m 29 ls [])) : ∀ (x1 : Int32) (x2 : Int32) (x3 : Int32) (σ : zSt) (H : Heap) (locs : List Loc) (ls : Array Slot), b_X11_lie_29 N k_29 Q x1 x2 x3 σ → va_P (dC, dI) vwCl (x_W ad cI cJ σ) H → va_D (zAW x_n ad s.heap.size) (x_W ad cI cJ σ) → va_S (zAW x_n ad s.heap.size) s.heap H locs → lv_has ls 8 [(0, .ref (ad 0)), (1, .int x1), (2, .int x2), (3, .int x3)] → W p l e rm_X11_lie s m args below meth c H locs 0 0 (MQ below (zQi (dC, dI) (x_ty cI cJ) (x_W ad cI cJ) (zAW x_n ad s.heap.size) Q) args s 0 0 (zAW x_n ad s.heap.size)) (F0 m 29 ls []) := by
  obtain ⟨hx, hb, hml, hr, hown, hts, hlocks⟩ := id C0
  intro x1 x2 x3 σ H locs ls h hP hD hS hl
  unfold b_X11_lie_29 at h
  refine lv_iload_n hx hb dX11_lie_29 rfl (lv_at hl 3 rfl) ?_
  refine lv_bipush (v := (20 : Int32)) hx hb dX11_lie_30 (by decide) ?_
  refine lv_icmp_gt (tgt := 135) hx hb dX11_lie_32 (by decide) (fun hc => ?_) (fun hc => ?_)
  · have h := h.1 hc
    refine lv_iload_n hx hb dX11_lie_135 rfl (lv_at hl 2 rfl) ?_
    exact zret_i hx hb hr hlocks hK hP hD hS h dX11_lie_136
  · have h := h.2 hc
    refine lv_aload_n hx hb dX11_lie_35 rfl (lv_at hl 0 rfl) ?_
    refine xg_0_5 hx hb hts hown hK hP mw_294 dX11_lie_36 ?_
    refine lv_iload_n hx hb dX11_lie_39 rfl (lv_at hl 1 rfl) ?_
    refine lv_iload_n hx hb dX11_lie_40 rfl (lv_at hl 3 rfl) ?_
    refine k_X10_pretend N ⟨hx, hb, hml, hown, hts⟩ mw_796 ⟨Nat.le_of_ble_eq_true rfl, Nat.le_of_ble_eq_true rfl⟩ h hK hP hD hS hl.1 (rest := []) (Nat.le_of_ble_eq_true rfl) ⟨Nat.le_of_ble_eq_true rfl, Nat.le_of_ble_eq_true rfl⟩ dX11_lie_41 (fun τ2 H locs h hP hD hS => ?_)
    refine lv_aload_n hx hb dX11_lie_44 rfl (lv_at hl 0 rfl) ?_
    refine xg_0_7 hx hb hts hown hK hP mw_296 dX11_lie_45 ?_
    refine lv_lconst (v := (0 : Int64)) hx hb dX11_lie_48 (by decide) ?_
    refine k_X9_from N ⟨hx, hb, hml, hown, hts⟩ mw_675 ⟨Nat.le_of_ble_eq_true rfl, Nat.le_of_ble_eq_true rfl⟩ h hK hP hD hS hl.1 (rest := []) (Nat.le_of_ble_eq_true rfl) ⟨Nat.le_of_ble_eq_true rfl, Nat.le_of_ble_eq_true rfl⟩ dX11_lie_49 (fun τ4 H locs h hP hD hS => ?_)
    refine lv_aload_n hx hb dX11_lie_52 rfl (lv_at hl 0 rfl) ?_
    refine xg_0_5 hx hb hts hown hK hP mw_294 dX11_lie_53 ?_
    refine lv_iconst (v := (-1 : Int32)) hx hb dX11_lie_56 (by decide) ?_
    refine lv_iconst (v := (0 : Int32)) hx hb dX11_lie_57 (by decide) ?_
    refine k_X10_pretend N ⟨hx, hb, hml, hown, hts⟩ mw_796 ⟨Nat.le_of_ble_eq_true rfl, Nat.le_of_ble_eq_true rfl⟩ h hK hP hD hS hl.1 (rest := []) (Nat.le_of_ble_eq_true rfl) ⟨Nat.le_of_ble_eq_true rfl, Nat.le_of_ble_eq_true rfl⟩ dX11_lie_58 (fun τ6 H locs h hP hD hS => ?_)
    refine lv_aload_n hx hb dX11_lie_61 rfl (lv_at hl 0 rfl) ?_
    refine xg_0_7 hx hb hts hown hK hP mw_296 dX11_lie_62 ?_
    refine xg_11_6 hx hb hts hown hK hP mw_247 dX11_lie_65 ?_
    refine lv_if_eq (tgt := 91) hx hb dX11_lie_68 (by decide) (fun hc => ?_) (fun hc => ?_)
    · have h := h.1 hc
      exact t_X11_lie_91 C0 hK N hk_29 x1 x2 x3 τ6 _ _ _ h hP hD hS (lv_sub hl [0, 1, 2, 3] rfl)
    · have h := h.2 hc
      refine lv_aload_n hx hb dX11_lie_71 rfl (lv_at hl 0 rfl) ?_
      refine xg_0_7 hx hb hts hown hK hP mw_296 dX11_lie_72 ?_
      refine xg_11_5 hx hb hts hown hK hP mw_245 dX11_lie_75 ?_
      refine lv_if_ne (tgt := 91) hx hb dX11_lie_78 (by decide) (fun hc => ?_) (fun hc => ?_)
      · have h := h.2 hc
        exact t_X11_lie_91 C0 hK N hk_29 x1 x2 x3 τ6 _ _ _ h hP hD hS (lv_sub hl [0, 1, 2, 3] rfl)
      · have h := h.1 hc
        refine lv_aload_n hx hb dX11_lie_81 rfl (lv_at hl 0 rfl) ?_
        refine xg_0_7 hx hb hts hown hK hP mw_296 dX11_lie_82 ?_
        refine k_X9_lastNet N ⟨hx, hb, hml, hown, hts⟩ mw_683 ⟨Nat.le_of_ble_eq_true rfl, Nat.le_of_ble_eq_true rfl⟩ h hK hP hD hS hl.1 (rest := []) (Nat.le_of_ble_eq_true rfl) ⟨Nat.le_of_ble_eq_true rfl, Nat.le_of_ble_eq_true rfl⟩ dX11_lie_85 (fun r7 τ8 H locs h hP hD hS => ?_)
        refine lv_goto (tgt := 92) hx hb dX11_lie_88 (by decide) ?_
        exact t_X11_lie_92 C0 hK N hk_29 x1 x2 x3 r7 τ8 _ _ _ h hP hD hS (lv_sub hl [0, 1, 2, 3] rfl)
set_option maxHeartbeats 4000000 in
set_option maxRecDepth 100000 in
theorem t_X11_lie_29 (C0 : zCx p s m meth c args RX11 cX11_lie 8 (some .int) vs_X11_lie) (hK : va_K (dC, dI) vwCl (x_ty cI cJ) s) (N : Nat) {Q : Int32 → zSt → Prop} : ∀ (f : Nat) (x1 : Int32) (x2 : Int32) (x3 : Int32) (σ : zSt) (H : Heap) (locs : List Loc) (ls : Array Slot), w_X11_lie_29 N  Q f x1 x2 x3 σ → va_P (dC, dI) vwCl (x_W ad cI cJ σ) H → va_D (zAW x_n ad s.heap.size) (x_W ad cI cJ σ) → va_S (zAW x_n ad s.heap.size) s.heap H locs → lv_has ls 8 [(0, .ref (ad 0)), (1, .int x1), (2, .int x2), (3, .int x3)] → W p l e rm_X11_lie s m args below meth c H locs 0 0 (MQ below (zQi (dC, dI) (x_ty cI cJ) (x_W ad cI cJ) (zAW x_n ad s.heap.size) Q) args s 0 0 (zAW x_n ad s.heap.size)) (F0 m 29 ls []) := by
  intro f
  induction f with
  | zero => intro x1 x2 x3 σ H locs ls h; exact h.elim
  | succ f ih =>
    intro x1 x2 x3 σ H locs ls h hP hD hS hl
    exact tb_X11_lie_29 C0 hK N  (k_29 := w_X11_lie_29 N  Q f) ih x1 x2 x3 σ H locs ls h hP hD hS hl
set_option maxHeartbeats 4000000 in
set_option maxRecDepth 100000 in
theorem t_X11_lie_0 (C0 : zCx p s m meth c args RX11 cX11_lie 8 (some .int) vs_X11_lie) (hK : va_K (dC, dI) vwCl (x_ty cI cJ) s) (N : Nat) {Q : Int32 → zSt → Prop} : ∀ (x1 : Int32) (σ : zSt) (H : Heap) (locs : List Loc) (ls : Array Slot), w_X11_lie N x1 σ Q → va_P (dC, dI) vwCl (x_W ad cI cJ σ) H → va_D (zAW x_n ad s.heap.size) (x_W ad cI cJ σ) → va_S (zAW x_n ad s.heap.size) s.heap H locs → lv_has ls 8 [(0, .ref (ad 0)), (1, .int x1)] → W p l e rm_X11_lie s m args below meth c H locs 0 0 (MQ below (zQi (dC, dI) (x_ty cI cJ) (x_W ad cI cJ) (zAW x_n ad s.heap.size) Q) args s 0 0 (zAW x_n ad s.heap.size)) (F0 m 0 ls []) := by
  obtain ⟨hx, hb, hml, hr, hown, hts, hlocks⟩ := id C0
  intro x1 σ H locs ls h hP hD hS hl
  unfold w_X11_lie at h
  refine lv_aload_n hx hb dX11_lie_0 rfl (lv_at hl 0 rfl) ?_
  refine xg_0_2 hx hb hts hown hK hP mw_291 dX11_lie_1 ?_
  refine lv_iload_n hx hb dX11_lie_4 rfl (lv_at hl 1 rfl) ?_
  refine k_X4_isPerson_2 N ⟨hx, hb, hml, hown, hts⟩ mw_491 ⟨Nat.le_of_ble_eq_true rfl, Nat.le_of_ble_eq_true rfl⟩ h hK hP hD hS hl.1 (rest := []) (Nat.le_of_ble_eq_true rfl) ⟨Nat.le_of_ble_eq_true rfl, Nat.le_of_ble_eq_true rfl⟩ dX11_lie_5 (fun r1 τ2 H locs h hP hD hS => ?_)
  refine lv_if_eq (tgt := 23) hx hb dX11_lie_8 (by decide) (fun hc => ?_) (fun hc => ?_)
  · have h := h.1 hc
    refine lv_iconst (v := (-1 : Int32)) hx hb dX11_lie_23 (by decide) ?_
    exact zret_i hx hb hr hlocks hK hP hD hS h dX11_lie_24
  · have h := h.2 hc
    refine lv_aload_n hx hb dX11_lie_11 rfl (lv_at hl 0 rfl) ?_
    refine xg_0_2 hx hb hts hown hK hP mw_291 dX11_lie_12 ?_
    refine xg_3_4 hx hb hts hown hK hP mw_75 dX11_lie_15 ?_
    refine lv_bipush (v := (6 : Int32)) hx hb dX11_lie_18 (by decide) ?_
    refine lv_icmp_le (tgt := 25) hx hb dX11_lie_20 (by decide) (fun hc => ?_) (fun hc => ?_)
    · have h := h.1 hc
      refine lv_iconst (v := (-1 : Int32)) hx hb dX11_lie_25 (by decide) ?_
      refine lv_istore_n (lv' := [(2, .int (-1 : Int32)), (0, .ref (ad 0)), (1, .int x1)]) hx hb dX11_lie_26 rfl hl (by decide) rfl (fun ls hl => ?_)
      refine lv_iconst (v := (0 : Int32)) hx hb dX11_lie_27 (by decide) ?_
      refine lv_istore_n (lv' := [(3, .int (0 : Int32)), (2, .int (-1 : Int32)), (0, .ref (ad 0)), (1, .int x1)]) hx hb dX11_lie_28 rfl hl (by decide) rfl (fun ls hl => ?_)
      exact t_X11_lie_29 C0 hK N  N x1 (-1 : Int32) (0 : Int32) τ2 _ _ _ h hP hD hS (lv_sub hl [2, 3, 1, 0] rfl)
    · have h := h.2 hc
      refine lv_iconst (v := (-1 : Int32)) hx hb dX11_lie_23 (by decide) ?_
      exact zret_i hx hb hr hlocks hK hP hD hS h dX11_lie_24
set_option maxHeartbeats 4000000 in
set_option maxRecDepth 100000 in
theorem c_X11_lie (N : Nat) (l : Launch) (dC : Nat → ClassId) (dI : Nat → Nat → Nat) (ad : Nat → Nat) (cI cJ : ClassId) (sz : Nat) (σ : zSt) (x1 : Int32) (Q : Int32 → zSt → Prop) (h : w_X11_lie N x1 σ Q) : Met l yX11_lie vs_X11_lie rm_X11_lie (va_Pc [.ref (ad 0), .int x1] (zPc (dC, dI) (x_ty cI cJ) (x_W ad cI cJ) sz σ)) (zQi (dC, dI) (x_ty cI cJ) (x_W ad cI cJ) (zAW x_n ad sz) Q) 0 0 (zAW x_n ad sz) := by
  refine Met.ofW (cc := cX11_lie) (maxL := 8) (ret := (some .int)) (by decide) rfl ?_
  intro p e s m args below meth c s₁ B hml hv
  obtain ⟨rfl, hsz, hP, hK, hD0⟩ := hv
  subst hsz
  have C0 : zCx p s m meth c _ RX11 cX11_lie 8 (some .int) vs_X11_lie := ⟨B.exec, B.bytes, hml, B.returns, findClass_of_methodNamed B.named, atoms_spec (ws := vs_X11_lie) B.pre, B.notSynchronized⟩
  have hD := x_D0 (n0 := s.heap.size) hD0
  have hl := lv_entry ([.ref (ad 0), .int x1]) (n := 8) (Nat.le_of_ble_eq_true rfl)
  rw [lg_entry_eq]
  generalize (lg_sl ([.ref (ad 0), .int x1]) ++ List.replicate (8 - (lg_sl ([.ref (ad 0), .int x1])).length) Slot.unset).toArray = ls at hl ⊢
  exact t_X11_lie_0 C0 hK N x1 σ _ _ ls h hP hD va_S.rf hl
theorem k_X11_lie (N : Nat) {R : Room} {H : Heap} {locs : List Loc} {cells slots : Nat} {Q2 : State → Prop} {cc : ByteArray} {nL pc index : Nat} {ls : Array Slot} {rest : List Value} {own : String} {c0 : Cond} {σ : zSt} {x1 : Int32} {Q : Int32 → zSt → Prop} (S0 : CallFix p m c cc nL s args (c0 :: zT) own) (hml : Cond.methodLink own index yX11_lie ∈ zT) (hR : rm_X11_lie.frames + 1 ≤ R.frames ∧ 8 + (8 + 11) + rm_X11_lie.locals ≤ R.locals) (h : w_X11_lie N x1 σ Q) (hK : va_K (dC, dI) vwCl (x_ty cI cJ) s) (hP : va_P (dC, dI) vwCl (x_W ad cI cJ σ) H) (hD : va_D (zAW x_n ad s.heap.size) (x_W ad cI cJ σ)) (hS : va_S (zAW x_n ad s.heap.size) s.heap H locs) (hsz : ls.size = nL) (hW : (rest.map fun v => v.category).sum ≤ 8) (hcs : cells ≤ R.cells ∧ slots ≤ R.slots) (hdg : decode cc pc = .ok (.invokevirtual index, 3)) (kk : ∀ (r : Int32) (τ : zSt) (H1 : Heap) (locs1 : List Loc), Q r τ → va_P (dC, dI) vwCl (x_W ad cI cJ τ) H1 → va_D (zAW x_n ad s.heap.size) (x_W ad cI cJ τ) → va_S (zAW x_n ad s.heap.size) s.heap H1 locs1 → W p l e R s m args below meth c H1 locs1 cells slots Q2 (F0 m (pc + 3) ls (.int r :: rest))) : W p l e R s m args below meth c H locs cells slots Q2 (F0 m pc ls (.int x1 :: .ref (ad 0) :: rest)) :=
  zcv_i (T := TX11) (N' := 17) (k := 0) (ci := 11) (fs := x_f0 ad σ) [.int x1] S0 (c_X11_lie N l dC dI ad cI cJ H.size σ x1 Q h) (cw_X11_lie S0.2.2.2.2 hml rfl rfl hR) rfl rfl hK hP hD hS rfl hsz hW rfl hcs hdg kk
end q13
section q13
def w_X11_lied (N : Nat)  (σ : zSt) (Q : Int64 → zSt → Prop) : Prop :=
  Q (σ.2.1 1) σ
variable {p : Program} {l : Launch} {e : Env} {s : State} {m : MethodId} {args : Array Value} {below : List Frame} {meth : Method} {c : Code} {dC : Nat → ClassId} {dI : Nat → Nat → Nat} {ad : Nat → Nat} {cI cJ : ClassId}
set_option maxHeartbeats 4000000 in
set_option maxRecDepth 100000 in
theorem t_X11_lied_0 (C0 : zCx p s m meth c args RX11 cX11_lied 1 (some .long) vs_X11_lied) (hK : va_K (dC, dI) vwCl (x_ty cI cJ) s) (N : Nat) {Q : Int64 → zSt → Prop} : ∀  (σ : zSt) (H : Heap) (locs : List Loc) (ls : Array Slot), w_X11_lied N  σ Q → va_P (dC, dI) vwCl (x_W ad cI cJ σ) H → va_D (zAW x_n ad s.heap.size) (x_W ad cI cJ σ) → va_S (zAW x_n ad s.heap.size) s.heap H locs → lv_has ls 1 [(0, .ref (ad 0))] → W p l e rm_X11_lied s m args below meth c H locs 0 0 (MQ below (zQl (dC, dI) (x_ty cI cJ) (x_W ad cI cJ) (zAW x_n ad s.heap.size) Q) args s 0 0 (zAW x_n ad s.heap.size)) (F0 m 0 ls []) := by
  obtain ⟨hx, hb, hml, hr, hown, hts, hlocks⟩ := id C0
  intro  σ H locs ls h hP hD hS hl
  unfold w_X11_lied at h
  refine lv_aload_n hx hb dX11_lied_0 rfl (lv_at hl 0 rfl) ?_
  refine xg_0_16 hx hb hts hown hK hP mw_305 dX11_lied_1 ?_
  exact zret_l hx hb hr hlocks hK hP hD hS h dX11_lied_4
set_option maxHeartbeats 4000000 in
set_option maxRecDepth 100000 in
theorem c_X11_lied (N : Nat) (l : Launch) (dC : Nat → ClassId) (dI : Nat → Nat → Nat) (ad : Nat → Nat) (cI cJ : ClassId) (sz : Nat) (σ : zSt)  (Q : Int64 → zSt → Prop) (h : w_X11_lied N  σ Q) : Met l yX11_lied vs_X11_lied rm_X11_lied (va_Pc [.ref (ad 0)] (zPc (dC, dI) (x_ty cI cJ) (x_W ad cI cJ) sz σ)) (zQl (dC, dI) (x_ty cI cJ) (x_W ad cI cJ) (zAW x_n ad sz) Q) 0 0 (zAW x_n ad sz) := by
  refine Met.ofW (cc := cX11_lied) (maxL := 1) (ret := (some .long)) (by decide) rfl ?_
  intro p e s m args below meth c s₁ B hml hv
  obtain ⟨rfl, hsz, hP, hK, hD0⟩ := hv
  subst hsz
  have C0 : zCx p s m meth c _ RX11 cX11_lied 1 (some .long) vs_X11_lied := ⟨B.exec, B.bytes, hml, B.returns, findClass_of_methodNamed B.named, atoms_spec (ws := vs_X11_lied) B.pre, B.notSynchronized⟩
  have hD := x_D0 (n0 := s.heap.size) hD0
  have hl := lv_entry ([.ref (ad 0)]) (n := 1) (Nat.le_of_ble_eq_true rfl)
  rw [lg_entry_eq]
  generalize (lg_sl ([.ref (ad 0)]) ++ List.replicate (1 - (lg_sl ([.ref (ad 0)])).length) Slot.unset).toArray = ls at hl ⊢
  exact t_X11_lied_0 C0 hK N  σ _ _ ls h hP hD va_S.rf hl
theorem k_X11_lied (N : Nat) {R : Room} {H : Heap} {locs : List Loc} {cells slots : Nat} {Q2 : State → Prop} {cc : ByteArray} {nL pc index : Nat} {ls : Array Slot} {rest : List Value} {own : String} {c0 : Cond} {σ : zSt}  {Q : Int64 → zSt → Prop} (S0 : CallFix p m c cc nL s args (c0 :: zT) own) (hml : Cond.methodLink own index yX11_lied ∈ zT) (hR : rm_X11_lied.frames + 1 ≤ R.frames ∧ 8 + (1 + 11) + rm_X11_lied.locals ≤ R.locals) (h : w_X11_lied N  σ Q) (hK : va_K (dC, dI) vwCl (x_ty cI cJ) s) (hP : va_P (dC, dI) vwCl (x_W ad cI cJ σ) H) (hD : va_D (zAW x_n ad s.heap.size) (x_W ad cI cJ σ)) (hS : va_S (zAW x_n ad s.heap.size) s.heap H locs) (hsz : ls.size = nL) (hW : (rest.map fun v => v.category).sum ≤ 8) (hcs : cells ≤ R.cells ∧ slots ≤ R.slots) (hdg : decode cc pc = .ok (.invokevirtual index, 3)) (kk : ∀ (r : Int64) (τ : zSt) (H1 : Heap) (locs1 : List Loc), Q r τ → va_P (dC, dI) vwCl (x_W ad cI cJ τ) H1 → va_D (zAW x_n ad s.heap.size) (x_W ad cI cJ τ) → va_S (zAW x_n ad s.heap.size) s.heap H1 locs1 → W p l e R s m args below meth c H1 locs1 cells slots Q2 (F0 m (pc + 3) ls (.long r :: rest))) : W p l e R s m args below meth c H locs cells slots Q2 (F0 m pc ls (.ref (ad 0) :: rest)) :=
  zcv_l (T := TX11) (N' := 17) (k := 0) (ci := 11) (fs := x_f0 ad σ) [] S0 (c_X11_lied N l dC dI ad cI cJ H.size σ  Q h) (cw_X11_lied S0.2.2.2.2 hml rfl rfl hR) rfl rfl hK hP hD hS rfl hsz hW rfl hcs hdg kk
end q13
section q13
def b_X11_image_89 (N : Nat) (k_89 : Int32 → Int32 → zSt → Prop) (Q : Int32 → zSt → Prop) (x2 : Int32) (x3 : Int32) (σ : zSt) : Prop :=
  ((9 : Int32) ≤ x3 → ∀ τ1 : zSt, τ1 = zA σ 1 (upd (σ.2.2.1 1) 9 x2) → Q (10 : Int32) τ1) ∧ (¬ (9 : Int32) ≤ x3 → (vp_in x3 10) ∧ (∀ v2 : Int32, v2 = x2 ^^^ (σ.2.2.1 1 x3.toNatClampNeg) → ∀ v3 : Int32, v3 = x3 + (1 : Int32) → k_89 v2 v3 σ))
def w_X11_image_89 (N : Nat) (Q : Int32 → zSt → Prop) : Nat → Int32 → Int32 → zSt → Prop
  | 0 => fun _ _ _ => False
  | f + 1 => b_X11_image_89 N (w_X11_image_89 N  Q f) Q
def b_X11_image_15 (N : Nat) (k_15 : Int32 → zSt → Prop) (Q : Int32 → zSt → Prop) (x1 : Int32) (σ : zSt) : Prop :=
  ((6 : Int32) < x1 → ∀ v1 : Int32, v1 = (σ.1 25) + (1000 : Int32) → ∀ τ2 : zSt, τ2 = zA σ 1 (upd (σ.2.2.1 1) 7 (v1 >>> ((8 : Int32) &&& 31))) → ∀ τ3 : zSt, τ3 = zA τ2 1 (upd (τ2.2.2.1 1) 8 (v1 &&& (255 : Int32))) → w_X11_image_89 N Q N (0 : Int32) (0 : Int32) τ3) ∧ (¬ (6 : Int32) < x1 → (vp_in x1 10) ∧ (∀ τ4 : zSt, τ4 = zA σ 1 (upd (σ.2.2.1 1) (x1.toNatClampNeg) (((σ.2.1 0) >>> (((8 : Int32) * ((6 : Int32) - x1)).toInt64 &&& 63)).toInt32 &&& (255 : Int32))) → ∀ v5 : Int32, v5 = x1 + (1 : Int32) → k_15 v5 τ4))
def w_X11_image_15 (N : Nat) (Q : Int32 → zSt → Prop) : Nat → Int32 → zSt → Prop
  | 0 => fun _ _ => False
  | f + 1 => b_X11_image_15 N (w_X11_image_15 N  Q f) Q
def w_X11_image (N : Nat)  (σ : zSt) (Q : Int32 → zSt → Prop) : Prop :=
  ∀ τ1 : zSt, τ1 = zA σ 1 (upd (σ.2.2.1 1) 0 (σ.1 1)) → w_X11_image_15 N Q N (1 : Int32) τ1
variable {p : Program} {l : Launch} {e : Env} {s : State} {m : MethodId} {args : Array Value} {below : List Frame} {meth : Method} {c : Code} {dC : Nat → ClassId} {dI : Nat → Nat → Nat} {ad : Nat → Nat} {cI cJ : ClassId}
set_option maxHeartbeats 4000000 in
set_option maxRecDepth 100000 in
theorem tb_X11_image_89 (C0 : zCx p s m meth c args RX11 cX11_image 4 (some .int) vs_X11_image) (hK : va_K (dC, dI) vwCl (x_ty cI cJ) s) (N : Nat) {Q : Int32 → zSt → Prop} {k_89 : Int32 → Int32 → zSt → Prop} (hk_89 : ∀ (x2 : Int32) (x3 : Int32) (σ : zSt) (H : Heap) (locs : List Loc) (ls : Array Slot), k_89 x2 x3 σ → va_P (dC, dI) vwCl (x_W ad cI cJ σ) H → va_D (zAW x_n ad s.heap.size) (x_W ad cI cJ σ) → va_S (zAW x_n ad s.heap.size) s.heap H locs → lv_has ls 4 [(0, .ref (ad 0)), (2, .int x2), (3, .int x3)] → W p l e rm_X11_image s m args below meth c H locs 0 0 (MQ below (zQi (dC, dI) (x_ty cI cJ) (x_W ad cI cJ) (zAW x_n ad s.heap.size) Q) args s 0 0 (zAW x_n ad s.heap.size)) (F0 m 89 ls [])) : ∀ (x2 : Int32) (x3 : Int32) (σ : zSt) (H : Heap) (locs : List Loc) (ls : Array Slot), b_X11_image_89 N k_89 Q x2 x3 σ → va_P (dC, dI) vwCl (x_W ad cI cJ σ) H → va_D (zAW x_n ad s.heap.size) (x_W ad cI cJ σ) → va_S (zAW x_n ad s.heap.size) s.heap H locs → lv_has ls 4 [(0, .ref (ad 0)), (2, .int x2), (3, .int x3)] → W p l e rm_X11_image s m args below meth c H locs 0 0 (MQ below (zQi (dC, dI) (x_ty cI cJ) (x_W ad cI cJ) (zAW x_n ad s.heap.size) Q) args s 0 0 (zAW x_n ad s.heap.size)) (F0 m 89 ls []) := by
  obtain ⟨hx, hb, hml, hr, hown, hts, hlocks⟩ := id C0
  intro x2 x3 σ H locs ls h hP hD hS hl
  unfold b_X11_image_89 at h
  refine lv_iload_n hx hb dX11_image_89 rfl (lv_at hl 2 rfl) ?_
  refine lv_bipush (v := (9 : Int32)) hx hb dX11_image_90 (by decide) ?_
  refine lv_icmp_ge (tgt := 110) hx hb dX11_image_92 (by decide) (fun hc => ?_) (fun hc => ?_)
  · have h := h.1 hc
    refine lv_aload_n hx hb dX11_image_110 rfl (lv_at hl 0 rfl) ?_
    refine xg_0_12 hx hb hts hown hK hP mw_301 dX11_image_111 ?_
    refine lv_bipush (v := (9 : Int32)) hx hb dX11_image_114 (by decide) ?_
    refine lv_iload_n hx hb dX11_image_116 rfl (lv_at hl 1 rfl) ?_
    refine xs_16 (j := 9) hx hb hK hP hD hS (zin (by decide)) (by decide) dX11_image_117 (fun τ1 H locs eτ1 hP hD hS => ?_)
    have h := h τ1 eτ1
    refine lv_bipush (v := (10 : Int32)) hx hb dX11_image_118 (by decide) ?_
    exact zret_i hx hb hr hlocks hK hP hD hS h dX11_image_120
  · have h := h.2 hc
    refine lv_iload_n hx hb dX11_image_95 rfl (lv_at hl 1 rfl) ?_
    refine lv_aload_n hx hb dX11_image_96 rfl (lv_at hl 0 rfl) ?_
    refine xg_0_12 hx hb hts hown hK hP mw_301 dX11_image_97 ?_
    refine lv_iload_n hx hb dX11_image_100 rfl (lv_at hl 2 rfl) ?_
    refine xa_16 hx hb hK hP h.1 rfl dX11_image_101 ?_
    have h := h.2
    refine lv_ixor hx hb dX11_image_102 ?_
    refine lv_topi (fun v2 ev2 => ?_)
    have h := h v2 ev2
    refine lv_istore_n (lv' := [(2, .int v2), (0, .ref (ad 0)), (3, .int x3)]) hx hb dX11_image_103 rfl hl (by decide) rfl (fun ls hl => ?_)
    obtain ⟨v3, ev3⟩ : ∃ z : Int32, z = x3 + (1 : Int32) := ⟨_, rfl⟩
    have h := h v3 ev3
    refine lv_iinc (v := v3) (lv' := [(3, .int v3), (2, .int v2), (0, .ref (ad 0))]) hx hb dX11_image_104 hl (k := 2) rfl (by rw [ev3]; rfl) (by decide) rfl (fun ls hl => ?_)
    refine lv_goto (tgt := 89) hx hb dX11_image_107 (by decide) ?_
    exact hk_89 v2 v3 σ _ _ _ h hP hD hS (lv_sub hl [2, 1, 0] rfl)
set_option maxHeartbeats 4000000 in
set_option maxRecDepth 100000 in
theorem t_X11_image_89 (C0 : zCx p s m meth c args RX11 cX11_image 4 (some .int) vs_X11_image) (hK : va_K (dC, dI) vwCl (x_ty cI cJ) s) (N : Nat) {Q : Int32 → zSt → Prop} : ∀ (f : Nat) (x2 : Int32) (x3 : Int32) (σ : zSt) (H : Heap) (locs : List Loc) (ls : Array Slot), w_X11_image_89 N  Q f x2 x3 σ → va_P (dC, dI) vwCl (x_W ad cI cJ σ) H → va_D (zAW x_n ad s.heap.size) (x_W ad cI cJ σ) → va_S (zAW x_n ad s.heap.size) s.heap H locs → lv_has ls 4 [(0, .ref (ad 0)), (2, .int x2), (3, .int x3)] → W p l e rm_X11_image s m args below meth c H locs 0 0 (MQ below (zQi (dC, dI) (x_ty cI cJ) (x_W ad cI cJ) (zAW x_n ad s.heap.size) Q) args s 0 0 (zAW x_n ad s.heap.size)) (F0 m 89 ls []) := by
  intro f
  induction f with
  | zero => intro x2 x3 σ H locs ls h; exact h.elim
  | succ f ih =>
    intro x2 x3 σ H locs ls h hP hD hS hl
    exact tb_X11_image_89 C0 hK N  (k_89 := w_X11_image_89 N  Q f) ih x2 x3 σ H locs ls h hP hD hS hl
set_option maxHeartbeats 4000000 in
set_option maxRecDepth 100000 in
theorem tb_X11_image_15 (C0 : zCx p s m meth c args RX11 cX11_image 4 (some .int) vs_X11_image) (hK : va_K (dC, dI) vwCl (x_ty cI cJ) s) (N : Nat) {Q : Int32 → zSt → Prop} {k_15 : Int32 → zSt → Prop} (hk_15 : ∀ (x1 : Int32) (σ : zSt) (H : Heap) (locs : List Loc) (ls : Array Slot), k_15 x1 σ → va_P (dC, dI) vwCl (x_W ad cI cJ σ) H → va_D (zAW x_n ad s.heap.size) (x_W ad cI cJ σ) → va_S (zAW x_n ad s.heap.size) s.heap H locs → lv_has ls 4 [(0, .ref (ad 0)), (1, .int x1)] → W p l e rm_X11_image s m args below meth c H locs 0 0 (MQ below (zQi (dC, dI) (x_ty cI cJ) (x_W ad cI cJ) (zAW x_n ad s.heap.size) Q) args s 0 0 (zAW x_n ad s.heap.size)) (F0 m 15 ls [])) : ∀ (x1 : Int32) (σ : zSt) (H : Heap) (locs : List Loc) (ls : Array Slot), b_X11_image_15 N k_15 Q x1 σ → va_P (dC, dI) vwCl (x_W ad cI cJ σ) H → va_D (zAW x_n ad s.heap.size) (x_W ad cI cJ σ) → va_S (zAW x_n ad s.heap.size) s.heap H locs → lv_has ls 4 [(0, .ref (ad 0)), (1, .int x1)] → W p l e rm_X11_image s m args below meth c H locs 0 0 (MQ below (zQi (dC, dI) (x_ty cI cJ) (x_W ad cI cJ) (zAW x_n ad s.heap.size) Q) args s 0 0 (zAW x_n ad s.heap.size)) (F0 m 15 ls []) := by
  obtain ⟨hx, hb, hml, hr, hown, hts, hlocks⟩ := id C0
  intro x1 σ H locs ls h hP hD hS hl
  unfold b_X11_image_15 at h
  refine lv_iload_n hx hb dX11_image_15 rfl (lv_at hl 1 rfl) ?_
  refine lv_bipush (v := (6 : Int32)) hx hb dX11_image_16 (by decide) ?_
  refine lv_icmp_gt (tgt := 50) hx hb dX11_image_18 (by decide) (fun hc => ?_) (fun hc => ?_)
  · have h := h.1 hc
    refine lv_aload_n hx hb dX11_image_50 rfl (lv_at hl 0 rfl) ?_
    refine xg_0_5 hx hb hts hown hK hP mw_294 dX11_image_51 ?_
    refine xg_9_6 hx hb hts hown hK hP mw_207 dX11_image_54 ?_
    refine lv_sipush (v := (1000 : Int32)) hx hb dX11_image_57 (by decide) ?_
    refine lv_iadd hx hb dX11_image_60 ?_
    refine lv_topi (fun v1 ev1 => ?_)
    have h := h v1 ev1
    refine lv_istore_n (lv' := [(1, .int v1), (0, .ref (ad 0))]) hx hb dX11_image_61 rfl hl (by decide) rfl (fun ls hl => ?_)
    refine lv_aload_n hx hb dX11_image_62 rfl (lv_at hl 1 rfl) ?_
    refine xg_0_12 hx hb hts hown hK hP mw_301 dX11_image_63 ?_
    refine lv_bipush (v := (7 : Int32)) hx hb dX11_image_66 (by decide) ?_
    refine lv_iload_n hx hb dX11_image_68 rfl (lv_at hl 0 rfl) ?_
    refine lv_bipush (v := (8 : Int32)) hx hb dX11_image_69 (by decide) ?_
    refine lv_ishr hx hb dX11_image_71 ?_
    refine xs_16 (j := 7) hx hb hK hP hD hS (zin (by decide)) (by decide) dX11_image_72 (fun τ2 H locs eτ2 hP hD hS => ?_)
    have h := h τ2 eτ2
    refine lv_aload_n hx hb dX11_image_73 rfl (lv_at hl 1 rfl) ?_
    refine xg_0_12 hx hb hts hown hK hP mw_301 dX11_image_74 ?_
    refine lv_bipush (v := (8 : Int32)) hx hb dX11_image_77 (by decide) ?_
    refine lv_iload_n hx hb dX11_image_79 rfl (lv_at hl 0 rfl) ?_
    refine lv_sipush (v := (255 : Int32)) hx hb dX11_image_80 (by decide) ?_
    refine lv_iand hx hb dX11_image_83 ?_
    refine xs_16 (j := 8) hx hb hK hP hD hS (zin (by decide)) (by decide) dX11_image_84 (fun τ3 H locs eτ3 hP hD hS => ?_)
    have h := h τ3 eτ3
    refine lv_iconst (v := (0 : Int32)) hx hb dX11_image_85 (by decide) ?_
    refine lv_istore_n (lv' := [(2, .int (0 : Int32)), (1, .int v1), (0, .ref (ad 0))]) hx hb dX11_image_86 rfl hl (by decide) rfl (fun ls hl => ?_)
    refine lv_iconst (v := (0 : Int32)) hx hb dX11_image_87 (by decide) ?_
    refine lv_istore_n (lv' := [(3, .int (0 : Int32)), (2, .int (0 : Int32)), (1, .int v1), (0, .ref (ad 0))]) hx hb dX11_image_88 rfl hl (by decide) rfl (fun ls hl => ?_)
    exact t_X11_image_89 C0 hK N  N (0 : Int32) (0 : Int32) τ3 _ _ _ h hP hD hS (lv_sub hl [3, 1, 0] rfl)
  · have h := h.2 hc
    refine lv_aload_n hx hb dX11_image_21 rfl (lv_at hl 0 rfl) ?_
    refine xg_0_12 hx hb hts hown hK hP mw_301 dX11_image_22 ?_
    refine lv_iload_n hx hb dX11_image_25 rfl (lv_at hl 1 rfl) ?_
    refine lv_aload_n hx hb dX11_image_26 rfl (lv_at hl 0 rfl) ?_
    refine xg_0_15 hx hb hts hown hK hP mw_304 dX11_image_27 ?_
    refine lv_bipush (v := (8 : Int32)) hx hb dX11_image_30 (by decide) ?_
    refine lv_bipush (v := (6 : Int32)) hx hb dX11_image_32 (by decide) ?_
    refine lv_iload_n hx hb dX11_image_34 rfl (lv_at hl 1 rfl) ?_
    refine lv_isub hx hb dX11_image_35 ?_
    refine lv_imul hx hb dX11_image_36 ?_
    refine lv_lshr hx hb dX11_image_37 rfl ?_
    refine lv_l2i hx hb dX11_image_38 rfl ?_
    refine lv_sipush (v := (255 : Int32)) hx hb dX11_image_39 (by decide) ?_
    refine lv_iand hx hb dX11_image_42 ?_
    refine xs_16 hx hb hK hP hD hS h.1 rfl dX11_image_43 (fun τ4 H locs eτ4 hP hD hS => ?_)
    have h := h.2
    have h := h τ4 eτ4
    obtain ⟨v5, ev5⟩ : ∃ z : Int32, z = x1 + (1 : Int32) := ⟨_, rfl⟩
    have h := h v5 ev5
    refine lv_iinc (v := v5) (lv' := [(1, .int v5), (0, .ref (ad 0))]) hx hb dX11_image_44 hl (k := 1) rfl (by rw [ev5]; rfl) (by decide) rfl (fun ls hl => ?_)
    refine lv_goto (tgt := 15) hx hb dX11_image_47 (by decide) ?_
    exact hk_15 v5 τ4 _ _ _ h hP hD hS (lv_sub hl [1, 0] rfl)
set_option maxHeartbeats 4000000 in
set_option maxRecDepth 100000 in
theorem t_X11_image_15 (C0 : zCx p s m meth c args RX11 cX11_image 4 (some .int) vs_X11_image) (hK : va_K (dC, dI) vwCl (x_ty cI cJ) s) (N : Nat) {Q : Int32 → zSt → Prop} : ∀ (f : Nat) (x1 : Int32) (σ : zSt) (H : Heap) (locs : List Loc) (ls : Array Slot), w_X11_image_15 N  Q f x1 σ → va_P (dC, dI) vwCl (x_W ad cI cJ σ) H → va_D (zAW x_n ad s.heap.size) (x_W ad cI cJ σ) → va_S (zAW x_n ad s.heap.size) s.heap H locs → lv_has ls 4 [(0, .ref (ad 0)), (1, .int x1)] → W p l e rm_X11_image s m args below meth c H locs 0 0 (MQ below (zQi (dC, dI) (x_ty cI cJ) (x_W ad cI cJ) (zAW x_n ad s.heap.size) Q) args s 0 0 (zAW x_n ad s.heap.size)) (F0 m 15 ls []) := by
  intro f
  induction f with
  | zero => intro x1 σ H locs ls h; exact h.elim
  | succ f ih =>
    intro x1 σ H locs ls h hP hD hS hl
    exact tb_X11_image_15 C0 hK N  (k_15 := w_X11_image_15 N  Q f) ih x1 σ H locs ls h hP hD hS hl
set_option maxHeartbeats 4000000 in
set_option maxRecDepth 100000 in
theorem t_X11_image_0 (C0 : zCx p s m meth c args RX11 cX11_image 4 (some .int) vs_X11_image) (hK : va_K (dC, dI) vwCl (x_ty cI cJ) s) (N : Nat) {Q : Int32 → zSt → Prop} : ∀  (σ : zSt) (H : Heap) (locs : List Loc) (ls : Array Slot), w_X11_image N  σ Q → va_P (dC, dI) vwCl (x_W ad cI cJ σ) H → va_D (zAW x_n ad s.heap.size) (x_W ad cI cJ σ) → va_S (zAW x_n ad s.heap.size) s.heap H locs → lv_has ls 4 [(0, .ref (ad 0))] → W p l e rm_X11_image s m args below meth c H locs 0 0 (MQ below (zQi (dC, dI) (x_ty cI cJ) (x_W ad cI cJ) (zAW x_n ad s.heap.size) Q) args s 0 0 (zAW x_n ad s.heap.size)) (F0 m 0 ls []) := by
  obtain ⟨hx, hb, hml, hr, hown, hts, hlocks⟩ := id C0
  intro  σ H locs ls h hP hD hS hl
  unfold w_X11_image at h
  refine lv_aload_n hx hb dX11_image_0 rfl (lv_at hl 0 rfl) ?_
  refine xg_0_12 hx hb hts hown hK hP mw_301 dX11_image_1 ?_
  refine lv_iconst (v := (0 : Int32)) hx hb dX11_image_4 (by decide) ?_
  refine lv_aload_n hx hb dX11_image_5 rfl (lv_at hl 0 rfl) ?_
  refine xg_0_2 hx hb hts hown hK hP mw_291 dX11_image_6 ?_
  refine xg_3_4 hx hb hts hown hK hP mw_75 dX11_image_9 ?_
  refine xs_16 (j := 0) hx hb hK hP hD hS (zin (by decide)) (by decide) dX11_image_12 (fun τ1 H locs eτ1 hP hD hS => ?_)
  have h := h τ1 eτ1
  refine lv_iconst (v := (1 : Int32)) hx hb dX11_image_13 (by decide) ?_
  refine lv_istore_n (lv' := [(1, .int (1 : Int32)), (0, .ref (ad 0))]) hx hb dX11_image_14 rfl hl (by decide) rfl (fun ls hl => ?_)
  exact t_X11_image_15 C0 hK N  N (1 : Int32) τ1 _ _ _ h hP hD hS (lv_sub hl [1, 0] rfl)
set_option maxHeartbeats 4000000 in
set_option maxRecDepth 100000 in
theorem c_X11_image (N : Nat) (l : Launch) (dC : Nat → ClassId) (dI : Nat → Nat → Nat) (ad : Nat → Nat) (cI cJ : ClassId) (sz : Nat) (σ : zSt)  (Q : Int32 → zSt → Prop) (h : w_X11_image N  σ Q) : Met l yX11_image vs_X11_image rm_X11_image (va_Pc [.ref (ad 0)] (zPc (dC, dI) (x_ty cI cJ) (x_W ad cI cJ) sz σ)) (zQi (dC, dI) (x_ty cI cJ) (x_W ad cI cJ) (zAW x_n ad sz) Q) 0 0 (zAW x_n ad sz) := by
  refine Met.ofW (cc := cX11_image) (maxL := 4) (ret := (some .int)) (by decide) rfl ?_
  intro p e s m args below meth c s₁ B hml hv
  obtain ⟨rfl, hsz, hP, hK, hD0⟩ := hv
  subst hsz
  have C0 : zCx p s m meth c _ RX11 cX11_image 4 (some .int) vs_X11_image := ⟨B.exec, B.bytes, hml, B.returns, findClass_of_methodNamed B.named, atoms_spec (ws := vs_X11_image) B.pre, B.notSynchronized⟩
  have hD := x_D0 (n0 := s.heap.size) hD0
  have hl := lv_entry ([.ref (ad 0)]) (n := 4) (Nat.le_of_ble_eq_true rfl)
  rw [lg_entry_eq]
  generalize (lg_sl ([.ref (ad 0)]) ++ List.replicate (4 - (lg_sl ([.ref (ad 0)])).length) Slot.unset).toArray = ls at hl ⊢
  exact t_X11_image_0 C0 hK N  σ _ _ ls h hP hD va_S.rf hl
theorem k_X11_image (N : Nat) {R : Room} {H : Heap} {locs : List Loc} {cells slots : Nat} {Q2 : State → Prop} {cc : ByteArray} {nL pc index : Nat} {ls : Array Slot} {rest : List Value} {own : String} {c0 : Cond} {σ : zSt}  {Q : Int32 → zSt → Prop} (S0 : CallFix p m c cc nL s args (c0 :: zT) own) (hml : Cond.methodLink own index yX11_image ∈ zT) (hR : rm_X11_image.frames + 1 ≤ R.frames ∧ 8 + (4 + 11) + rm_X11_image.locals ≤ R.locals) (h : w_X11_image N  σ Q) (hK : va_K (dC, dI) vwCl (x_ty cI cJ) s) (hP : va_P (dC, dI) vwCl (x_W ad cI cJ σ) H) (hD : va_D (zAW x_n ad s.heap.size) (x_W ad cI cJ σ)) (hS : va_S (zAW x_n ad s.heap.size) s.heap H locs) (hsz : ls.size = nL) (hW : (rest.map fun v => v.category).sum ≤ 8) (hcs : cells ≤ R.cells ∧ slots ≤ R.slots) (hdg : decode cc pc = .ok (.invokevirtual index, 3)) (kk : ∀ (r : Int32) (τ : zSt) (H1 : Heap) (locs1 : List Loc), Q r τ → va_P (dC, dI) vwCl (x_W ad cI cJ τ) H1 → va_D (zAW x_n ad s.heap.size) (x_W ad cI cJ τ) → va_S (zAW x_n ad s.heap.size) s.heap H1 locs1 → W p l e R s m args below meth c H1 locs1 cells slots Q2 (F0 m (pc + 3) ls (.int r :: rest))) : W p l e R s m args below meth c H locs cells slots Q2 (F0 m pc ls (.ref (ad 0) :: rest)) :=
  zcv_i (T := TX11) (N' := 17) (k := 0) (ci := 11) (fs := x_f0 ad σ) [] S0 (c_X11_image N l dC dI ad cI cJ H.size σ  Q h) (cw_X11_image S0.2.2.2.2 hml rfl rfl hR) rfl rfl hK hP hD hS rfl hsz hW rfl hcs hdg kk
end q13
section q13
def w_X11_octet (N : Nat) (x1 : Int32) (σ : zSt) (Q : Int32 → zSt → Prop) : Prop :=
  (x1 < 0 → Q (-1 : Int32) σ) ∧ (¬ x1 < 0 → ((10 : Int32) ≤ x1 → Q (-1 : Int32) σ) ∧ (¬ (10 : Int32) ≤ x1 → (vp_in x1 10) ∧ (Q (σ.2.2.1 1 x1.toNatClampNeg) σ)))
variable {p : Program} {l : Launch} {e : Env} {s : State} {m : MethodId} {args : Array Value} {below : List Frame} {meth : Method} {c : Code} {dC : Nat → ClassId} {dI : Nat → Nat → Nat} {ad : Nat → Nat} {cI cJ : ClassId}
set_option maxHeartbeats 4000000 in
set_option maxRecDepth 100000 in
theorem t_X11_octet_0 (C0 : zCx p s m meth c args RX11 cX11_octet 2 (some .int) vs_X11_octet) (hK : va_K (dC, dI) vwCl (x_ty cI cJ) s) (N : Nat) {Q : Int32 → zSt → Prop} : ∀ (x1 : Int32) (σ : zSt) (H : Heap) (locs : List Loc) (ls : Array Slot), w_X11_octet N x1 σ Q → va_P (dC, dI) vwCl (x_W ad cI cJ σ) H → va_D (zAW x_n ad s.heap.size) (x_W ad cI cJ σ) → va_S (zAW x_n ad s.heap.size) s.heap H locs → lv_has ls 2 [(0, .ref (ad 0)), (1, .int x1)] → W p l e rm_X11_octet s m args below meth c H locs 0 0 (MQ below (zQi (dC, dI) (x_ty cI cJ) (x_W ad cI cJ) (zAW x_n ad s.heap.size) Q) args s 0 0 (zAW x_n ad s.heap.size)) (F0 m 0 ls []) := by
  obtain ⟨hx, hb, hml, hr, hown, hts, hlocks⟩ := id C0
  intro x1 σ H locs ls h hP hD hS hl
  unfold w_X11_octet at h
  refine lv_iload_n hx hb dX11_octet_0 rfl (lv_at hl 1 rfl) ?_
  refine lv_if_lt (tgt := 22) hx hb dX11_octet_1 (by decide) (fun hc => ?_) (fun hc => ?_)
  · have h := h.1 hc
    refine lv_iconst (v := (-1 : Int32)) hx hb dX11_octet_22 (by decide) ?_
    exact zret_i hx hb hr hlocks hK hP hD hS h dX11_octet_23
  · have h := h.2 hc
    refine lv_iload_n hx hb dX11_octet_4 rfl (lv_at hl 1 rfl) ?_
    refine lv_aload_n hx hb dX11_octet_5 rfl (lv_at hl 0 rfl) ?_
    refine xg_0_12 hx hb hts hown hK hP mw_301 dX11_octet_6 ?_
    refine xl_16 hx hb hK hP dX11_octet_9 ?_
    refine lv_icmp_ge (tgt := 22) hx hb dX11_octet_10 (by decide) (fun hc => ?_) (fun hc => ?_)
    · have h := h.1 hc
      refine lv_iconst (v := (-1 : Int32)) hx hb dX11_octet_22 (by decide) ?_
      exact zret_i hx hb hr hlocks hK hP hD hS h dX11_octet_23
    · have h := h.2 hc
      refine lv_aload_n hx hb dX11_octet_13 rfl (lv_at hl 0 rfl) ?_
      refine xg_0_12 hx hb hts hown hK hP mw_301 dX11_octet_14 ?_
      refine lv_iload_n hx hb dX11_octet_17 rfl (lv_at hl 1 rfl) ?_
      refine xa_16 hx hb hK hP h.1 rfl dX11_octet_18 ?_
      have h := h.2
      refine lv_goto (tgt := 23) hx hb dX11_octet_19 (by decide) ?_
      exact zret_i hx hb hr hlocks hK hP hD hS h dX11_octet_23
set_option maxHeartbeats 4000000 in
set_option maxRecDepth 100000 in
theorem c_X11_octet (N : Nat) (l : Launch) (dC : Nat → ClassId) (dI : Nat → Nat → Nat) (ad : Nat → Nat) (cI cJ : ClassId) (sz : Nat) (σ : zSt) (x1 : Int32) (Q : Int32 → zSt → Prop) (h : w_X11_octet N x1 σ Q) : Met l yX11_octet vs_X11_octet rm_X11_octet (va_Pc [.ref (ad 0), .int x1] (zPc (dC, dI) (x_ty cI cJ) (x_W ad cI cJ) sz σ)) (zQi (dC, dI) (x_ty cI cJ) (x_W ad cI cJ) (zAW x_n ad sz) Q) 0 0 (zAW x_n ad sz) := by
  refine Met.ofW (cc := cX11_octet) (maxL := 2) (ret := (some .int)) (by decide) rfl ?_
  intro p e s m args below meth c s₁ B hml hv
  obtain ⟨rfl, hsz, hP, hK, hD0⟩ := hv
  subst hsz
  have C0 : zCx p s m meth c _ RX11 cX11_octet 2 (some .int) vs_X11_octet := ⟨B.exec, B.bytes, hml, B.returns, findClass_of_methodNamed B.named, atoms_spec (ws := vs_X11_octet) B.pre, B.notSynchronized⟩
  have hD := x_D0 (n0 := s.heap.size) hD0
  have hl := lv_entry ([.ref (ad 0), .int x1]) (n := 2) (Nat.le_of_ble_eq_true rfl)
  rw [lg_entry_eq]
  generalize (lg_sl ([.ref (ad 0), .int x1]) ++ List.replicate (2 - (lg_sl ([.ref (ad 0), .int x1])).length) Slot.unset).toArray = ls at hl ⊢
  exact t_X11_octet_0 C0 hK N x1 σ _ _ ls h hP hD va_S.rf hl
theorem k_X11_octet (N : Nat) {R : Room} {H : Heap} {locs : List Loc} {cells slots : Nat} {Q2 : State → Prop} {cc : ByteArray} {nL pc index : Nat} {ls : Array Slot} {rest : List Value} {own : String} {c0 : Cond} {σ : zSt} {x1 : Int32} {Q : Int32 → zSt → Prop} (S0 : CallFix p m c cc nL s args (c0 :: zT) own) (hml : Cond.methodLink own index yX11_octet ∈ zT) (hR : rm_X11_octet.frames + 1 ≤ R.frames ∧ 8 + (2 + 11) + rm_X11_octet.locals ≤ R.locals) (h : w_X11_octet N x1 σ Q) (hK : va_K (dC, dI) vwCl (x_ty cI cJ) s) (hP : va_P (dC, dI) vwCl (x_W ad cI cJ σ) H) (hD : va_D (zAW x_n ad s.heap.size) (x_W ad cI cJ σ)) (hS : va_S (zAW x_n ad s.heap.size) s.heap H locs) (hsz : ls.size = nL) (hW : (rest.map fun v => v.category).sum ≤ 8) (hcs : cells ≤ R.cells ∧ slots ≤ R.slots) (hdg : decode cc pc = .ok (.invokevirtual index, 3)) (kk : ∀ (r : Int32) (τ : zSt) (H1 : Heap) (locs1 : List Loc), Q r τ → va_P (dC, dI) vwCl (x_W ad cI cJ τ) H1 → va_D (zAW x_n ad s.heap.size) (x_W ad cI cJ τ) → va_S (zAW x_n ad s.heap.size) s.heap H1 locs1 → W p l e R s m args below meth c H1 locs1 cells slots Q2 (F0 m (pc + 3) ls (.int r :: rest))) : W p l e R s m args below meth c H locs cells slots Q2 (F0 m pc ls (.int x1 :: .ref (ad 0) :: rest)) :=
  zcv_i (T := TX11) (N' := 17) (k := 0) (ci := 11) (fs := x_f0 ad σ) [.int x1] S0 (c_X11_octet N l dC dI ad cI cJ H.size σ x1 Q h) (cw_X11_octet S0.2.2.2.2 hml rfl rfl hR) rfl rfl hK hP hD hS rfl hsz hW rfl hcs hdg kk
end q13
section q13
def b_X7_xorOfAll_4 (N : Nat) (k_4 : Int32 → Int32 → zSt → Prop) (Q : Int32 → zSt → Prop) (x1 : Int32) (x2 : Int32) (σ : zSt) : Prop :=
  ((σ.1 0) ≤ x2 → Q x1 σ) ∧ (¬ (σ.1 0) ≤ x2 → ((800 : Int32) ≤ x2 → Q x1 σ) ∧ (¬ (800 : Int32) ≤ x2 → (vp_in x2 800) ∧ (∀ v1 : Int32, v1 = x1 ^^^ (σ.2.2.1 2 x2.toNatClampNeg) → ∀ v2 : Int32, v2 = x2 + (1 : Int32) → k_4 v1 v2 σ)))
def w_X7_xorOfAll_4 (N : Nat) (Q : Int32 → zSt → Prop) : Nat → Int32 → Int32 → zSt → Prop
  | 0 => fun _ _ _ => False
  | f + 1 => b_X7_xorOfAll_4 N (w_X7_xorOfAll_4 N  Q f) Q
def w_X7_xorOfAll (N : Nat)  (σ : zSt) (Q : Int32 → zSt → Prop) : Prop :=
  w_X7_xorOfAll_4 N Q N (0 : Int32) (0 : Int32) σ
variable {p : Program} {l : Launch} {e : Env} {s : State} {m : MethodId} {args : Array Value} {below : List Frame} {meth : Method} {c : Code} {dC : Nat → ClassId} {dI : Nat → Nat → Nat} {ad : Nat → Nat} {cI cJ : ClassId}
set_option maxHeartbeats 4000000 in
set_option maxRecDepth 100000 in
theorem tb_X7_xorOfAll_4 (C0 : zCx p s m meth c args RX7 cX7_xorOfAll 3 (some .int) vs_X7_xorOfAll) (hK : va_K (dC, dI) vwCl (x_ty cI cJ) s) (N : Nat) {Q : Int32 → zSt → Prop} {k_4 : Int32 → Int32 → zSt → Prop} (hk_4 : ∀ (x1 : Int32) (x2 : Int32) (σ : zSt) (H : Heap) (locs : List Loc) (ls : Array Slot), k_4 x1 x2 σ → va_P (dC, dI) vwCl (x_W ad cI cJ σ) H → va_D (zAW x_n ad s.heap.size) (x_W ad cI cJ σ) → va_S (zAW x_n ad s.heap.size) s.heap H locs → lv_has ls 3 [(0, .ref (ad 1)), (1, .int x1), (2, .int x2)] → W p l e rm_X7_xorOfAll s m args below meth c H locs 0 0 (MQ below (zQi (dC, dI) (x_ty cI cJ) (x_W ad cI cJ) (zAW x_n ad s.heap.size) Q) args s 0 0 (zAW x_n ad s.heap.size)) (F0 m 4 ls [])) : ∀ (x1 : Int32) (x2 : Int32) (σ : zSt) (H : Heap) (locs : List Loc) (ls : Array Slot), b_X7_xorOfAll_4 N k_4 Q x1 x2 σ → va_P (dC, dI) vwCl (x_W ad cI cJ σ) H → va_D (zAW x_n ad s.heap.size) (x_W ad cI cJ σ) → va_S (zAW x_n ad s.heap.size) s.heap H locs → lv_has ls 3 [(0, .ref (ad 1)), (1, .int x1), (2, .int x2)] → W p l e rm_X7_xorOfAll s m args below meth c H locs 0 0 (MQ below (zQi (dC, dI) (x_ty cI cJ) (x_W ad cI cJ) (zAW x_n ad s.heap.size) Q) args s 0 0 (zAW x_n ad s.heap.size)) (F0 m 4 ls []) := by
  obtain ⟨hx, hb, hml, hr, hown, hts, hlocks⟩ := id C0
  intro x1 x2 σ H locs ls h hP hD hS hl
  unfold b_X7_xorOfAll_4 at h
  refine lv_iload_n hx hb dX7_xorOfAll_4 rfl (lv_at hl 2 rfl) ?_
  refine lv_aload_n hx hb dX7_xorOfAll_5 rfl (lv_at hl 0 rfl) ?_
  refine xg_1_1 hx hb hts hown hK hP mw_37 dX7_xorOfAll_6 ?_
  refine lv_icmp_ge (tgt := 36) hx hb dX7_xorOfAll_9 (by decide) (fun hc => ?_) (fun hc => ?_)
  · have h := h.1 hc
    refine lv_iload_n hx hb dX7_xorOfAll_36 rfl (lv_at hl 1 rfl) ?_
    exact zret_i hx hb hr hlocks hK hP hD hS h dX7_xorOfAll_37
  · have h := h.2 hc
    refine lv_iload_n hx hb dX7_xorOfAll_12 rfl (lv_at hl 2 rfl) ?_
    refine lv_aload_n hx hb dX7_xorOfAll_13 rfl (lv_at hl 0 rfl) ?_
    refine xg_1_0 hx hb hts hown hK hP mw_35 dX7_xorOfAll_14 ?_
    refine xl_19 hx hb hK hP dX7_xorOfAll_17 ?_
    refine lv_icmp_ge (tgt := 36) hx hb dX7_xorOfAll_18 (by decide) (fun hc => ?_) (fun hc => ?_)
    · have h := h.1 hc
      refine lv_iload_n hx hb dX7_xorOfAll_36 rfl (lv_at hl 1 rfl) ?_
      exact zret_i hx hb hr hlocks hK hP hD hS h dX7_xorOfAll_37
    · have h := h.2 hc
      refine lv_iload_n hx hb dX7_xorOfAll_21 rfl (lv_at hl 1 rfl) ?_
      refine lv_aload_n hx hb dX7_xorOfAll_22 rfl (lv_at hl 0 rfl) ?_
      refine xg_1_0 hx hb hts hown hK hP mw_35 dX7_xorOfAll_23 ?_
      refine lv_iload_n hx hb dX7_xorOfAll_26 rfl (lv_at hl 2 rfl) ?_
      refine xa_19 hx hb hK hP h.1 rfl dX7_xorOfAll_27 ?_
      have h := h.2
      refine lv_ixor hx hb dX7_xorOfAll_28 ?_
      refine lv_topi (fun v1 ev1 => ?_)
      have h := h v1 ev1
      refine lv_istore_n (lv' := [(1, .int v1), (0, .ref (ad 1)), (2, .int x2)]) hx hb dX7_xorOfAll_29 rfl hl (by decide) rfl (fun ls hl => ?_)
      obtain ⟨v2, ev2⟩ : ∃ z : Int32, z = x2 + (1 : Int32) := ⟨_, rfl⟩
      have h := h v2 ev2
      refine lv_iinc (v := v2) (lv' := [(2, .int v2), (1, .int v1), (0, .ref (ad 1))]) hx hb dX7_xorOfAll_30 hl (k := 2) rfl (by rw [ev2]; rfl) (by decide) rfl (fun ls hl => ?_)
      refine lv_goto (tgt := 4) hx hb dX7_xorOfAll_33 (by decide) ?_
      exact hk_4 v1 v2 σ _ _ _ h hP hD hS (lv_sub hl [2, 1, 0] rfl)
set_option maxHeartbeats 4000000 in
set_option maxRecDepth 100000 in
theorem t_X7_xorOfAll_4 (C0 : zCx p s m meth c args RX7 cX7_xorOfAll 3 (some .int) vs_X7_xorOfAll) (hK : va_K (dC, dI) vwCl (x_ty cI cJ) s) (N : Nat) {Q : Int32 → zSt → Prop} : ∀ (f : Nat) (x1 : Int32) (x2 : Int32) (σ : zSt) (H : Heap) (locs : List Loc) (ls : Array Slot), w_X7_xorOfAll_4 N  Q f x1 x2 σ → va_P (dC, dI) vwCl (x_W ad cI cJ σ) H → va_D (zAW x_n ad s.heap.size) (x_W ad cI cJ σ) → va_S (zAW x_n ad s.heap.size) s.heap H locs → lv_has ls 3 [(0, .ref (ad 1)), (1, .int x1), (2, .int x2)] → W p l e rm_X7_xorOfAll s m args below meth c H locs 0 0 (MQ below (zQi (dC, dI) (x_ty cI cJ) (x_W ad cI cJ) (zAW x_n ad s.heap.size) Q) args s 0 0 (zAW x_n ad s.heap.size)) (F0 m 4 ls []) := by
  intro f
  induction f with
  | zero => intro x1 x2 σ H locs ls h; exact h.elim
  | succ f ih =>
    intro x1 x2 σ H locs ls h hP hD hS hl
    exact tb_X7_xorOfAll_4 C0 hK N  (k_4 := w_X7_xorOfAll_4 N  Q f) ih x1 x2 σ H locs ls h hP hD hS hl
set_option maxHeartbeats 4000000 in
set_option maxRecDepth 100000 in
theorem t_X7_xorOfAll_0 (C0 : zCx p s m meth c args RX7 cX7_xorOfAll 3 (some .int) vs_X7_xorOfAll) (hK : va_K (dC, dI) vwCl (x_ty cI cJ) s) (N : Nat) {Q : Int32 → zSt → Prop} : ∀  (σ : zSt) (H : Heap) (locs : List Loc) (ls : Array Slot), w_X7_xorOfAll N  σ Q → va_P (dC, dI) vwCl (x_W ad cI cJ σ) H → va_D (zAW x_n ad s.heap.size) (x_W ad cI cJ σ) → va_S (zAW x_n ad s.heap.size) s.heap H locs → lv_has ls 3 [(0, .ref (ad 1))] → W p l e rm_X7_xorOfAll s m args below meth c H locs 0 0 (MQ below (zQi (dC, dI) (x_ty cI cJ) (x_W ad cI cJ) (zAW x_n ad s.heap.size) Q) args s 0 0 (zAW x_n ad s.heap.size)) (F0 m 0 ls []) := by
  obtain ⟨hx, hb, hml, hr, hown, hts, hlocks⟩ := id C0
  intro  σ H locs ls h hP hD hS hl
  unfold w_X7_xorOfAll at h
  refine lv_iconst (v := (0 : Int32)) hx hb dX7_xorOfAll_0 (by decide) ?_
  refine lv_istore_n (lv' := [(1, .int (0 : Int32)), (0, .ref (ad 1))]) hx hb dX7_xorOfAll_1 rfl hl (by decide) rfl (fun ls hl => ?_)
  refine lv_iconst (v := (0 : Int32)) hx hb dX7_xorOfAll_2 (by decide) ?_
  refine lv_istore_n (lv' := [(2, .int (0 : Int32)), (1, .int (0 : Int32)), (0, .ref (ad 1))]) hx hb dX7_xorOfAll_3 rfl hl (by decide) rfl (fun ls hl => ?_)
  exact t_X7_xorOfAll_4 C0 hK N  N (0 : Int32) (0 : Int32) σ _ _ _ h hP hD hS (lv_sub hl [2, 1, 0] rfl)
set_option maxHeartbeats 4000000 in
set_option maxRecDepth 100000 in
theorem c_X7_xorOfAll (N : Nat) (l : Launch) (dC : Nat → ClassId) (dI : Nat → Nat → Nat) (ad : Nat → Nat) (cI cJ : ClassId) (sz : Nat) (σ : zSt)  (Q : Int32 → zSt → Prop) (h : w_X7_xorOfAll N  σ Q) : Met l yX7_xorOfAll vs_X7_xorOfAll rm_X7_xorOfAll (va_Pc [.ref (ad 1)] (zPc (dC, dI) (x_ty cI cJ) (x_W ad cI cJ) sz σ)) (zQi (dC, dI) (x_ty cI cJ) (x_W ad cI cJ) (zAW x_n ad sz) Q) 0 0 (zAW x_n ad sz) := by
  refine Met.ofW (cc := cX7_xorOfAll) (maxL := 3) (ret := (some .int)) (by decide) rfl ?_
  intro p e s m args below meth c s₁ B hml hv
  obtain ⟨rfl, hsz, hP, hK, hD0⟩ := hv
  subst hsz
  have C0 : zCx p s m meth c _ RX7 cX7_xorOfAll 3 (some .int) vs_X7_xorOfAll := ⟨B.exec, B.bytes, hml, B.returns, findClass_of_methodNamed B.named, atoms_spec (ws := vs_X7_xorOfAll) B.pre, B.notSynchronized⟩
  have hD := x_D0 (n0 := s.heap.size) hD0
  have hl := lv_entry ([.ref (ad 1)]) (n := 3) (Nat.le_of_ble_eq_true rfl)
  rw [lg_entry_eq]
  generalize (lg_sl ([.ref (ad 1)]) ++ List.replicate (3 - (lg_sl ([.ref (ad 1)])).length) Slot.unset).toArray = ls at hl ⊢
  exact t_X7_xorOfAll_0 C0 hK N  σ _ _ ls h hP hD va_S.rf hl
theorem k_X7_xorOfAll (N : Nat) {R : Room} {H : Heap} {locs : List Loc} {cells slots : Nat} {Q2 : State → Prop} {cc : ByteArray} {nL pc index : Nat} {ls : Array Slot} {rest : List Value} {own : String} {c0 : Cond} {σ : zSt}  {Q : Int32 → zSt → Prop} (S0 : CallFix p m c cc nL s args (c0 :: zT) own) (hml : Cond.methodLink own index yX7_xorOfAll ∈ zT) (hR : rm_X7_xorOfAll.frames + 1 ≤ R.frames ∧ 8 + (3 + 11) + rm_X7_xorOfAll.locals ≤ R.locals) (h : w_X7_xorOfAll N  σ Q) (hK : va_K (dC, dI) vwCl (x_ty cI cJ) s) (hP : va_P (dC, dI) vwCl (x_W ad cI cJ σ) H) (hD : va_D (zAW x_n ad s.heap.size) (x_W ad cI cJ σ)) (hS : va_S (zAW x_n ad s.heap.size) s.heap H locs) (hsz : ls.size = nL) (hW : (rest.map fun v => v.category).sum ≤ 8) (hcs : cells ≤ R.cells ∧ slots ≤ R.slots) (hdg : decode cc pc = .ok (.invokevirtual index, 3)) (kk : ∀ (r : Int32) (τ : zSt) (H1 : Heap) (locs1 : List Loc), Q r τ → va_P (dC, dI) vwCl (x_W ad cI cJ τ) H1 → va_D (zAW x_n ad s.heap.size) (x_W ad cI cJ τ) → va_S (zAW x_n ad s.heap.size) s.heap H1 locs1 → W p l e R s m args below meth c H1 locs1 cells slots Q2 (F0 m (pc + 3) ls (.int r :: rest))) : W p l e R s m args below meth c H locs cells slots Q2 (F0 m pc ls (.ref (ad 1) :: rest)) :=
  zcv_i (T := TX7) (N' := 2) (k := 1) (ci := 7) (fs := x_f1 ad σ) [] S0 (c_X7_xorOfAll N l dC dI ad cI cJ H.size σ  Q h) (cw_X7_xorOfAll S0.2.2.2.2 hml rfl rfl hR) rfl rfl hK hP hD hS rfl hsz hW rfl hcs hdg kk
end q13
section q13
def b_X7_number_5 (N : Nat) (k_5 : Int32 → Int64 → Int32 → zSt → Prop) (Q : Int64 → zSt → Prop) (x2 : Int32) (x3 : Int64) (x5 : Int32) (σ : zSt) : Prop :=
  (x2 ≤ x5 → Q x3 σ) ∧ (¬ x2 ≤ x5 → ((σ.1 0) ≤ x5 → Q x3 σ) ∧ (¬ (σ.1 0) ≤ x5 → ((800 : Int32) ≤ x5 → Q x3 σ) ∧ (¬ (800 : Int32) ≤ x5 → (vp_in x5 800) ∧ (∀ v1 : Int64, v1 = (x3 * (256 : Int64)) + (σ.2.2.1 2 x5.toNatClampNeg).toInt64 → ∀ v2 : Int32, v2 = x5 + (1 : Int32) → k_5 x2 v1 v2 σ))))
def w_X7_number_5 (N : Nat) (Q : Int64 → zSt → Prop) : Nat → Int32 → Int64 → Int32 → zSt → Prop
  | 0 => fun _ _ _ _ => False
  | f + 1 => b_X7_number_5 N (w_X7_number_5 N  Q f) Q
def w_X7_number (N : Nat) (x1 : Int32) (x2 : Int32) (σ : zSt) (Q : Int64 → zSt → Prop) : Prop :=
  w_X7_number_5 N Q N x2 (0 : Int64) x1 σ
variable {p : Program} {l : Launch} {e : Env} {s : State} {m : MethodId} {args : Array Value} {below : List Frame} {meth : Method} {c : Code} {dC : Nat → ClassId} {dI : Nat → Nat → Nat} {ad : Nat → Nat} {cI cJ : ClassId}
set_option maxHeartbeats 4000000 in
set_option maxRecDepth 100000 in
theorem tb_X7_number_5 (C0 : zCx p s m meth c args RX7 cX7_number 6 (some .long) vs_X7_number) (hK : va_K (dC, dI) vwCl (x_ty cI cJ) s) (N : Nat) {Q : Int64 → zSt → Prop} {k_5 : Int32 → Int64 → Int32 → zSt → Prop} (hk_5 : ∀ (x2 : Int32) (x3 : Int64) (x5 : Int32) (σ : zSt) (H : Heap) (locs : List Loc) (ls : Array Slot), k_5 x2 x3 x5 σ → va_P (dC, dI) vwCl (x_W ad cI cJ σ) H → va_D (zAW x_n ad s.heap.size) (x_W ad cI cJ σ) → va_S (zAW x_n ad s.heap.size) s.heap H locs → lv_has ls 6 [(0, .ref (ad 1)), (2, .int x2), (3, .long x3), (5, .int x5)] → W p l e rm_X7_number s m args below meth c H locs 0 0 (MQ below (zQl (dC, dI) (x_ty cI cJ) (x_W ad cI cJ) (zAW x_n ad s.heap.size) Q) args s 0 0 (zAW x_n ad s.heap.size)) (F0 m 5 ls [])) : ∀ (x2 : Int32) (x3 : Int64) (x5 : Int32) (σ : zSt) (H : Heap) (locs : List Loc) (ls : Array Slot), b_X7_number_5 N k_5 Q x2 x3 x5 σ → va_P (dC, dI) vwCl (x_W ad cI cJ σ) H → va_D (zAW x_n ad s.heap.size) (x_W ad cI cJ σ) → va_S (zAW x_n ad s.heap.size) s.heap H locs → lv_has ls 6 [(0, .ref (ad 1)), (2, .int x2), (3, .long x3), (5, .int x5)] → W p l e rm_X7_number s m args below meth c H locs 0 0 (MQ below (zQl (dC, dI) (x_ty cI cJ) (x_W ad cI cJ) (zAW x_n ad s.heap.size) Q) args s 0 0 (zAW x_n ad s.heap.size)) (F0 m 5 ls []) := by
  obtain ⟨hx, hb, hml, hr, hown, hts, hlocks⟩ := id C0
  intro x2 x3 x5 σ H locs ls h hP hD hS hl
  unfold b_X7_number_5 at h
  refine lv_iload hx hb dX7_number_5 (lv_at hl 3 rfl) ?_
  refine lv_iload_n hx hb dX7_number_7 rfl (lv_at hl 1 rfl) ?_
  refine lv_icmp_ge (tgt := 51) hx hb dX7_number_8 (by decide) (fun hc => ?_) (fun hc => ?_)
  · have h := h.1 hc
    refine lv_lload_n hx hb dX7_number_51 rfl (lv_at hl 2 rfl) ?_
    exact zret_l hx hb hr hlocks hK hP hD hS h dX7_number_52
  · have h := h.2 hc
    refine lv_iload hx hb dX7_number_11 (lv_at hl 3 rfl) ?_
    refine lv_aload_n hx hb dX7_number_13 rfl (lv_at hl 0 rfl) ?_
    refine xg_1_1 hx hb hts hown hK hP mw_37 dX7_number_14 ?_
    refine lv_icmp_ge (tgt := 51) hx hb dX7_number_17 (by decide) (fun hc => ?_) (fun hc => ?_)
    · have h := h.1 hc
      refine lv_lload_n hx hb dX7_number_51 rfl (lv_at hl 2 rfl) ?_
      exact zret_l hx hb hr hlocks hK hP hD hS h dX7_number_52
    · have h := h.2 hc
      refine lv_iload hx hb dX7_number_20 (lv_at hl 3 rfl) ?_
      refine lv_aload_n hx hb dX7_number_22 rfl (lv_at hl 0 rfl) ?_
      refine xg_1_0 hx hb hts hown hK hP mw_35 dX7_number_23 ?_
      refine xl_19 hx hb hK hP dX7_number_26 ?_
      refine lv_icmp_ge (tgt := 51) hx hb dX7_number_27 (by decide) (fun hc => ?_) (fun hc => ?_)
      · have h := h.1 hc
        refine lv_lload_n hx hb dX7_number_51 rfl (lv_at hl 2 rfl) ?_
        exact zret_l hx hb hr hlocks hK hP hD hS h dX7_number_52
      · have h := h.2 hc
        refine lv_lload_n hx hb dX7_number_30 rfl (lv_at hl 2 rfl) ?_
        refine lv_ldc2 (v := (256 : Int64)) hx hb hown (hts _ (List.mem_cons_of_mem _ mw_821)) dX7_number_31 ?_
        refine lv_lmul hx hb dX7_number_34 ?_
        refine lv_aload_n hx hb dX7_number_35 rfl (lv_at hl 0 rfl) ?_
        refine xg_1_0 hx hb hts hown hK hP mw_35 dX7_number_36 ?_
        refine lv_iload hx hb dX7_number_39 (lv_at hl 3 rfl) ?_
        refine xa_19 hx hb hK hP h.1 rfl dX7_number_41 ?_
        have h := h.2
        refine lv_i2l hx hb dX7_number_42 rfl ?_
        refine lv_ladd hx hb dX7_number_43 ?_
        refine lv_topl (fun v1 ev1 => ?_)
        have h := h v1 ev1
        refine lv_lstore_n (lv' := [(3, .long v1), (0, .ref (ad 1)), (2, .int x2), (5, .int x5)]) hx hb dX7_number_44 rfl hl (by decide) rfl (fun ls hl => ?_)
        obtain ⟨v2, ev2⟩ : ∃ z : Int32, z = x5 + (1 : Int32) := ⟨_, rfl⟩
        have h := h v2 ev2
        refine lv_iinc (v := v2) (lv' := [(5, .int v2), (3, .long v1), (0, .ref (ad 1)), (2, .int x2)]) hx hb dX7_number_45 hl (k := 3) rfl (by rw [ev2]; rfl) (by decide) rfl (fun ls hl => ?_)
        refine lv_goto (tgt := 5) hx hb dX7_number_48 (by decide) ?_
        exact hk_5 x2 v1 v2 σ _ _ _ h hP hD hS (lv_sub hl [2, 3, 1, 0] rfl)
set_option maxHeartbeats 4000000 in
set_option maxRecDepth 100000 in
theorem t_X7_number_5 (C0 : zCx p s m meth c args RX7 cX7_number 6 (some .long) vs_X7_number) (hK : va_K (dC, dI) vwCl (x_ty cI cJ) s) (N : Nat) {Q : Int64 → zSt → Prop} : ∀ (f : Nat) (x2 : Int32) (x3 : Int64) (x5 : Int32) (σ : zSt) (H : Heap) (locs : List Loc) (ls : Array Slot), w_X7_number_5 N  Q f x2 x3 x5 σ → va_P (dC, dI) vwCl (x_W ad cI cJ σ) H → va_D (zAW x_n ad s.heap.size) (x_W ad cI cJ σ) → va_S (zAW x_n ad s.heap.size) s.heap H locs → lv_has ls 6 [(0, .ref (ad 1)), (2, .int x2), (3, .long x3), (5, .int x5)] → W p l e rm_X7_number s m args below meth c H locs 0 0 (MQ below (zQl (dC, dI) (x_ty cI cJ) (x_W ad cI cJ) (zAW x_n ad s.heap.size) Q) args s 0 0 (zAW x_n ad s.heap.size)) (F0 m 5 ls []) := by
  intro f
  induction f with
  | zero => intro x2 x3 x5 σ H locs ls h; exact h.elim
  | succ f ih =>
    intro x2 x3 x5 σ H locs ls h hP hD hS hl
    exact tb_X7_number_5 C0 hK N  (k_5 := w_X7_number_5 N  Q f) ih x2 x3 x5 σ H locs ls h hP hD hS hl
set_option maxHeartbeats 4000000 in
set_option maxRecDepth 100000 in
theorem t_X7_number_0 (C0 : zCx p s m meth c args RX7 cX7_number 6 (some .long) vs_X7_number) (hK : va_K (dC, dI) vwCl (x_ty cI cJ) s) (N : Nat) {Q : Int64 → zSt → Prop} : ∀ (x1 : Int32) (x2 : Int32) (σ : zSt) (H : Heap) (locs : List Loc) (ls : Array Slot), w_X7_number N x1 x2 σ Q → va_P (dC, dI) vwCl (x_W ad cI cJ σ) H → va_D (zAW x_n ad s.heap.size) (x_W ad cI cJ σ) → va_S (zAW x_n ad s.heap.size) s.heap H locs → lv_has ls 6 [(0, .ref (ad 1)), (1, .int x1), (2, .int x2)] → W p l e rm_X7_number s m args below meth c H locs 0 0 (MQ below (zQl (dC, dI) (x_ty cI cJ) (x_W ad cI cJ) (zAW x_n ad s.heap.size) Q) args s 0 0 (zAW x_n ad s.heap.size)) (F0 m 0 ls []) := by
  obtain ⟨hx, hb, hml, hr, hown, hts, hlocks⟩ := id C0
  intro x1 x2 σ H locs ls h hP hD hS hl
  unfold w_X7_number at h
  refine lv_lconst (v := (0 : Int64)) hx hb dX7_number_0 (by decide) ?_
  refine lv_lstore_n (lv' := [(3, .long (0 : Int64)), (0, .ref (ad 1)), (1, .int x1), (2, .int x2)]) hx hb dX7_number_1 rfl hl (by decide) rfl (fun ls hl => ?_)
  refine lv_iload_n hx hb dX7_number_2 rfl (lv_at hl 2 rfl) ?_
  refine lv_istore (lv' := [(5, .int x1), (3, .long (0 : Int64)), (0, .ref (ad 1)), (1, .int x1), (2, .int x2)]) hx hb dX7_number_3 hl (by decide) rfl (fun ls hl => ?_)
  exact t_X7_number_5 C0 hK N  N x2 (0 : Int64) x1 σ _ _ _ h hP hD hS (lv_sub hl [2, 4, 1, 0] rfl)
set_option maxHeartbeats 4000000 in
set_option maxRecDepth 100000 in
theorem c_X7_number (N : Nat) (l : Launch) (dC : Nat → ClassId) (dI : Nat → Nat → Nat) (ad : Nat → Nat) (cI cJ : ClassId) (sz : Nat) (σ : zSt) (x1 : Int32) (x2 : Int32) (Q : Int64 → zSt → Prop) (h : w_X7_number N x1 x2 σ Q) : Met l yX7_number vs_X7_number rm_X7_number (va_Pc [.ref (ad 1), .int x1, .int x2] (zPc (dC, dI) (x_ty cI cJ) (x_W ad cI cJ) sz σ)) (zQl (dC, dI) (x_ty cI cJ) (x_W ad cI cJ) (zAW x_n ad sz) Q) 0 0 (zAW x_n ad sz) := by
  refine Met.ofW (cc := cX7_number) (maxL := 6) (ret := (some .long)) (by decide) rfl ?_
  intro p e s m args below meth c s₁ B hml hv
  obtain ⟨rfl, hsz, hP, hK, hD0⟩ := hv
  subst hsz
  have C0 : zCx p s m meth c _ RX7 cX7_number 6 (some .long) vs_X7_number := ⟨B.exec, B.bytes, hml, B.returns, findClass_of_methodNamed B.named, atoms_spec (ws := vs_X7_number) B.pre, B.notSynchronized⟩
  have hD := x_D0 (n0 := s.heap.size) hD0
  have hl := lv_entry ([.ref (ad 1), .int x1, .int x2]) (n := 6) (Nat.le_of_ble_eq_true rfl)
  rw [lg_entry_eq]
  generalize (lg_sl ([.ref (ad 1), .int x1, .int x2]) ++ List.replicate (6 - (lg_sl ([.ref (ad 1), .int x1, .int x2])).length) Slot.unset).toArray = ls at hl ⊢
  exact t_X7_number_0 C0 hK N x1 x2 σ _ _ ls h hP hD va_S.rf hl
theorem k_X7_number (N : Nat) {R : Room} {H : Heap} {locs : List Loc} {cells slots : Nat} {Q2 : State → Prop} {cc : ByteArray} {nL pc index : Nat} {ls : Array Slot} {rest : List Value} {own : String} {c0 : Cond} {σ : zSt} {x1 : Int32} {x2 : Int32} {Q : Int64 → zSt → Prop} (S0 : CallFix p m c cc nL s args (c0 :: zT) own) (hml : Cond.methodLink own index yX7_number ∈ zT) (hR : rm_X7_number.frames + 1 ≤ R.frames ∧ 8 + (6 + 11) + rm_X7_number.locals ≤ R.locals) (h : w_X7_number N x1 x2 σ Q) (hK : va_K (dC, dI) vwCl (x_ty cI cJ) s) (hP : va_P (dC, dI) vwCl (x_W ad cI cJ σ) H) (hD : va_D (zAW x_n ad s.heap.size) (x_W ad cI cJ σ)) (hS : va_S (zAW x_n ad s.heap.size) s.heap H locs) (hsz : ls.size = nL) (hW : (rest.map fun v => v.category).sum ≤ 8) (hcs : cells ≤ R.cells ∧ slots ≤ R.slots) (hdg : decode cc pc = .ok (.invokevirtual index, 3)) (kk : ∀ (r : Int64) (τ : zSt) (H1 : Heap) (locs1 : List Loc), Q r τ → va_P (dC, dI) vwCl (x_W ad cI cJ τ) H1 → va_D (zAW x_n ad s.heap.size) (x_W ad cI cJ τ) → va_S (zAW x_n ad s.heap.size) s.heap H1 locs1 → W p l e R s m args below meth c H1 locs1 cells slots Q2 (F0 m (pc + 3) ls (.long r :: rest))) : W p l e R s m args below meth c H locs cells slots Q2 (F0 m pc ls (.int x2 :: .int x1 :: .ref (ad 1) :: rest)) :=
  zcv_l (T := TX7) (N' := 2) (k := 1) (ci := 7) (fs := x_f1 ad σ) [.int x1, .int x2] S0 (c_X7_number N l dC dI ad cI cJ H.size σ x1 x2 Q h) (cw_X7_number S0.2.2.2.2 hml rfl rfl hR) rfl rfl hK hP hD hS rfl hsz hW rfl hcs hdg kk
end q13
section q13
def w_X11_takeImage (N : Nat) (x1 : Int64) (x3 : Int64) (σ : zSt) (Q : Int32 → zSt → Prop) : Prop :=
  (0 < (lg_cmp x3 (1000 : Int64)) → Q (0 : Int32) σ) ∧ (¬ 0 < (lg_cmp x3 (1000 : Int64)) → w_X4_isNet N x1 σ (fun r1 τ2 => (r1 = 0 → Q (0 : Int32) τ2) ∧ (¬ r1 = 0 → w_X4_may N x1 τ2 (fun r3 τ4 => (r3 = 0 → Q (0 : Int32) τ4) ∧ (¬ r3 = 0 → ∀ τ5 : zSt, τ5 = zJ τ4 0 x1 → ∀ τ6 : zSt, τ6 = zI τ5 25 x3.toInt32 → Q (1 : Int32) τ6)))))
variable {p : Program} {l : Launch} {e : Env} {s : State} {m : MethodId} {args : Array Value} {below : List Frame} {meth : Method} {c : Code} {dC : Nat → ClassId} {dI : Nat → Nat → Nat} {ad : Nat → Nat} {cI cJ : ClassId}
set_option maxHeartbeats 4000000 in
set_option maxRecDepth 100000 in
theorem t_X11_takeImage_0 (C0 : zCx p s m meth c args RX11 cX11_takeImage 5 (some .boolean) vs_X11_takeImage) (hK : va_K (dC, dI) vwCl (x_ty cI cJ) s) (N : Nat) {Q : Int32 → zSt → Prop} : ∀ (x1 : Int64) (x3 : Int64) (σ : zSt) (H : Heap) (locs : List Loc) (ls : Array Slot), w_X11_takeImage N x1 x3 σ Q → va_P (dC, dI) vwCl (x_W ad cI cJ σ) H → va_D (zAW x_n ad s.heap.size) (x_W ad cI cJ σ) → va_S (zAW x_n ad s.heap.size) s.heap H locs → lv_has ls 5 [(0, .ref (ad 0)), (1, .long x1), (3, .long x3)] → W p l e rm_X11_takeImage s m args below meth c H locs 0 0 (MQ below (zQi (dC, dI) (x_ty cI cJ) (x_W ad cI cJ) (zAW x_n ad s.heap.size) Q) args s 0 0 (zAW x_n ad s.heap.size)) (F0 m 0 ls []) := by
  obtain ⟨hx, hb, hml, hr, hown, hts, hlocks⟩ := id C0
  intro x1 x3 σ H locs ls h hP hD hS hl
  unfold w_X11_takeImage at h
  refine lv_lload_n hx hb dX11_takeImage_0 rfl (lv_at hl 2 rfl) ?_
  refine lv_ldc2 (v := (1000 : Int64)) hx hb hown (hts _ (List.mem_cons_of_mem _ mw_822)) dX11_takeImage_1 ?_
  refine W.lcmp hx hb dX11_takeImage_4 ?_
  refine lv_if_gt (tgt := 30) hx hb dX11_takeImage_5 (by decide) (fun hc => ?_) (fun hc => ?_)
  · have h := h.1 hc
    refine lv_iconst (v := (0 : Int32)) hx hb dX11_takeImage_30 (by decide) ?_
    exact zret_z hx hb hr hlocks hK hP hD hS zb_0 h dX11_takeImage_31
  · have h := h.2 hc
    refine lv_aload_n hx hb dX11_takeImage_8 rfl (lv_at hl 0 rfl) ?_
    refine xg_0_2 hx hb hts hown hK hP mw_291 dX11_takeImage_9 ?_
    refine lv_lload_n hx hb dX11_takeImage_12 rfl (lv_at hl 1 rfl) ?_
    refine k_X4_isNet N ⟨hx, hb, hml, hown, hts⟩ mw_496 ⟨Nat.le_of_ble_eq_true rfl, Nat.le_of_ble_eq_true rfl⟩ h hK hP hD hS hl.1 (rest := []) (Nat.le_of_ble_eq_true rfl) ⟨Nat.le_of_ble_eq_true rfl, Nat.le_of_ble_eq_true rfl⟩ dX11_takeImage_13 (fun r1 τ2 H locs h hP hD hS => ?_)
    refine lv_if_eq (tgt := 30) hx hb dX11_takeImage_16 (by decide) (fun hc => ?_) (fun hc => ?_)
    · have h := h.1 hc
      refine lv_iconst (v := (0 : Int32)) hx hb dX11_takeImage_30 (by decide) ?_
      exact zret_z hx hb hr hlocks hK hP hD hS zb_0 h dX11_takeImage_31
    · have h := h.2 hc
      refine lv_aload_n hx hb dX11_takeImage_19 rfl (lv_at hl 0 rfl) ?_
      refine xg_0_2 hx hb hts hown hK hP mw_291 dX11_takeImage_20 ?_
      refine lv_lload_n hx hb dX11_takeImage_23 rfl (lv_at hl 1 rfl) ?_
      refine k_X4_may N ⟨hx, hb, hml, hown, hts⟩ mw_500 ⟨Nat.le_of_ble_eq_true rfl, Nat.le_of_ble_eq_true rfl⟩ h hK hP hD hS hl.1 (rest := []) (Nat.le_of_ble_eq_true rfl) ⟨Nat.le_of_ble_eq_true rfl, Nat.le_of_ble_eq_true rfl⟩ dX11_takeImage_24 (fun r3 τ4 H locs h hP hD hS => ?_)
      refine lv_if_ne (tgt := 32) hx hb dX11_takeImage_27 (by decide) (fun hc => ?_) (fun hc => ?_)
      · have h := h.2 hc
        refine lv_aload_n hx hb dX11_takeImage_32 rfl (lv_at hl 0 rfl) ?_
        refine lv_lload_n hx hb dX11_takeImage_33 rfl (lv_at hl 1 rfl) ?_
        refine xp_0_15 hx hb hts hown hK hP hD hS mw_304 dX11_takeImage_34 (fun τ5 H locs eτ5 hP hD hS => ?_)
        have h := h τ5 eτ5
        refine lv_aload_n hx hb dX11_takeImage_37 rfl (lv_at hl 0 rfl) ?_
        refine xg_0_5 hx hb hts hown hK hP mw_294 dX11_takeImage_38 ?_
        refine lv_lload_n hx hb dX11_takeImage_41 rfl (lv_at hl 2 rfl) ?_
        refine lv_l2i hx hb dX11_takeImage_42 rfl ?_
        refine xp_9_6 hx hb hts hown hK hP hD hS mw_207 dX11_takeImage_43 (fun τ6 H locs eτ6 hP hD hS => ?_)
        have h := h τ6 eτ6
        refine lv_iconst (v := (1 : Int32)) hx hb dX11_takeImage_46 (by decide) ?_
        exact zret_z hx hb hr hlocks hK hP hD hS zb_1 h dX11_takeImage_47
      · have h := h.1 hc
        refine lv_iconst (v := (0 : Int32)) hx hb dX11_takeImage_30 (by decide) ?_
        exact zret_z hx hb hr hlocks hK hP hD hS zb_0 h dX11_takeImage_31
set_option maxHeartbeats 4000000 in
set_option maxRecDepth 100000 in
theorem c_X11_takeImage (N : Nat) (l : Launch) (dC : Nat → ClassId) (dI : Nat → Nat → Nat) (ad : Nat → Nat) (cI cJ : ClassId) (sz : Nat) (σ : zSt) (x1 : Int64) (x3 : Int64) (Q : Int32 → zSt → Prop) (h : w_X11_takeImage N x1 x3 σ Q) : Met l yX11_takeImage vs_X11_takeImage rm_X11_takeImage (va_Pc [.ref (ad 0), .long x1, .long x3] (zPc (dC, dI) (x_ty cI cJ) (x_W ad cI cJ) sz σ)) (zQi (dC, dI) (x_ty cI cJ) (x_W ad cI cJ) (zAW x_n ad sz) Q) 0 0 (zAW x_n ad sz) := by
  refine Met.ofW (cc := cX11_takeImage) (maxL := 5) (ret := (some .boolean)) (by decide) rfl ?_
  intro p e s m args below meth c s₁ B hml hv
  obtain ⟨rfl, hsz, hP, hK, hD0⟩ := hv
  subst hsz
  have C0 : zCx p s m meth c _ RX11 cX11_takeImage 5 (some .boolean) vs_X11_takeImage := ⟨B.exec, B.bytes, hml, B.returns, findClass_of_methodNamed B.named, atoms_spec (ws := vs_X11_takeImage) B.pre, B.notSynchronized⟩
  have hD := x_D0 (n0 := s.heap.size) hD0
  have hl := lv_entry ([.ref (ad 0), .long x1, .long x3]) (n := 5) (Nat.le_of_ble_eq_true rfl)
  rw [lg_entry_eq]
  generalize (lg_sl ([.ref (ad 0), .long x1, .long x3]) ++ List.replicate (5 - (lg_sl ([.ref (ad 0), .long x1, .long x3])).length) Slot.unset).toArray = ls at hl ⊢
  exact t_X11_takeImage_0 C0 hK N x1 x3 σ _ _ ls h hP hD va_S.rf hl
theorem k_X11_takeImage (N : Nat) {R : Room} {H : Heap} {locs : List Loc} {cells slots : Nat} {Q2 : State → Prop} {cc : ByteArray} {nL pc index : Nat} {ls : Array Slot} {rest : List Value} {own : String} {c0 : Cond} {σ : zSt} {x1 : Int64} {x3 : Int64} {Q : Int32 → zSt → Prop} (S0 : CallFix p m c cc nL s args (c0 :: zT) own) (hml : Cond.methodLink own index yX11_takeImage ∈ zT) (hR : rm_X11_takeImage.frames + 1 ≤ R.frames ∧ 8 + (5 + 11) + rm_X11_takeImage.locals ≤ R.locals) (h : w_X11_takeImage N x1 x3 σ Q) (hK : va_K (dC, dI) vwCl (x_ty cI cJ) s) (hP : va_P (dC, dI) vwCl (x_W ad cI cJ σ) H) (hD : va_D (zAW x_n ad s.heap.size) (x_W ad cI cJ σ)) (hS : va_S (zAW x_n ad s.heap.size) s.heap H locs) (hsz : ls.size = nL) (hW : (rest.map fun v => v.category).sum ≤ 8) (hcs : cells ≤ R.cells ∧ slots ≤ R.slots) (hdg : decode cc pc = .ok (.invokevirtual index, 3)) (kk : ∀ (r : Int32) (τ : zSt) (H1 : Heap) (locs1 : List Loc), Q r τ → va_P (dC, dI) vwCl (x_W ad cI cJ τ) H1 → va_D (zAW x_n ad s.heap.size) (x_W ad cI cJ τ) → va_S (zAW x_n ad s.heap.size) s.heap H1 locs1 → W p l e R s m args below meth c H1 locs1 cells slots Q2 (F0 m (pc + 3) ls (.int r :: rest))) : W p l e R s m args below meth c H locs cells slots Q2 (F0 m pc ls (.long x3 :: .long x1 :: .ref (ad 0) :: rest)) :=
  zcv_i (T := TX11) (N' := 17) (k := 0) (ci := 11) (fs := x_f0 ad σ) [.long x1, .long x3] S0 (c_X11_takeImage N l dC dI ad cI cJ H.size σ x1 x3 Q h) (cw_X11_takeImage S0.2.2.2.2 hml rfl rfl hR) rfl rfl hK hP hD hS rfl hsz hW rfl hcs hdg kk
end q13
section q13
def b_X11_on_79 (N : Nat) (Q : Int32 → zSt → Prop)  (σ : zSt) : Prop :=
  ∀ τ1 : zSt, τ1 = zI σ 0 (0 : Int32) → Q (0 : Int32) τ1
def w_X11_on (N : Nat)  (σ : zSt) (Q : Int32 → zSt → Prop) : Prop :=
  ((σ.1 0) = (10 : Int32) → w_X7_xorOfAll N σ (fun r1 τ2 => (r1 = 0 → w_X7_number N (0 : Int32) (1 : Int32) τ2 (fun r3 τ4 => ((lg_cmp r3 (τ4.1 1).toInt64) = 0 → w_X7_number N (1 : Int32) (7 : Int32) τ4 (fun r5 τ6 => w_X7_number N (7 : Int32) (9 : Int32) τ6 (fun r7 τ8 => w_X11_takeImage N r5 (r7 - (1000 : Int64)) τ8 (fun r9 τ10 => (r9 = 0 → b_X11_on_79 N Q τ10) ∧ (¬ r9 = 0 → ∀ τ11 : zSt, τ11 = zI τ10 0 (0 : Int32) → Q (1 : Int32) τ11))))) ∧ (¬ (lg_cmp r3 (τ4.1 1).toInt64) = 0 → b_X11_on_79 N Q τ4))) ∧ (¬ r1 = 0 → b_X11_on_79 N Q τ2))) ∧ (¬ (σ.1 0) = (10 : Int32) → b_X11_on_79 N Q σ)
variable {p : Program} {l : Launch} {e : Env} {s : State} {m : MethodId} {args : Array Value} {below : List Frame} {meth : Method} {c : Code} {dC : Nat → ClassId} {dI : Nat → Nat → Nat} {ad : Nat → Nat} {cI cJ : ClassId}
set_option maxHeartbeats 4000000 in
set_option maxRecDepth 100000 in
theorem t_X11_on_79 (C0 : zCx p s m meth c args RX11 cX11_on 2 (some .boolean) vs_X11_on) (hK : va_K (dC, dI) vwCl (x_ty cI cJ) s) (N : Nat) {Q : Int32 → zSt → Prop} : ∀  (σ : zSt) (H : Heap) (locs : List Loc) (ls : Array Slot), b_X11_on_79 N  Q  σ → va_P (dC, dI) vwCl (x_W ad cI cJ σ) H → va_D (zAW x_n ad s.heap.size) (x_W ad cI cJ σ) → va_S (zAW x_n ad s.heap.size) s.heap H locs → lv_has ls 2 [(0, .ref (ad 0))] → W p l e rm_X11_on s m args below meth c H locs 0 0 (MQ below (zQi (dC, dI) (x_ty cI cJ) (x_W ad cI cJ) (zAW x_n ad s.heap.size) Q) args s 0 0 (zAW x_n ad s.heap.size)) (F0 m 79 ls []) := by
  obtain ⟨hx, hb, hml, hr, hown, hts, hlocks⟩ := id C0
  intro  σ H locs ls h hP hD hS hl
  unfold b_X11_on_79 at h
  refine lv_iconst (v := (0 : Int32)) hx hb dX11_on_79 (by decide) ?_
  refine lv_istore_n (lv' := [(1, .int (0 : Int32)), (0, .ref (ad 0))]) hx hb dX11_on_80 rfl hl (by decide) rfl (fun ls hl => ?_)
  refine lv_aload_n hx hb dX11_on_81 rfl (lv_at hl 1 rfl) ?_
  refine xg_0_0 hx hb hts hown hK hP mw_289 dX11_on_82 ?_
  refine lv_iconst (v := (0 : Int32)) hx hb dX11_on_85 (by decide) ?_
  refine xp_1_1 hx hb hts hown hK hP hD hS mw_36 dX11_on_86 (fun τ1 H locs eτ1 hP hD hS => ?_)
  have h := h τ1 eτ1
  refine lv_iload_n hx hb dX11_on_89 rfl (lv_at hl 0 rfl) ?_
  exact zret_z hx hb hr hlocks hK hP hD hS zb_0 h dX11_on_90
set_option maxHeartbeats 4000000 in
set_option maxRecDepth 100000 in
theorem t_X11_on_0 (C0 : zCx p s m meth c args RX11 cX11_on 2 (some .boolean) vs_X11_on) (hK : va_K (dC, dI) vwCl (x_ty cI cJ) s) (N : Nat) {Q : Int32 → zSt → Prop} : ∀  (σ : zSt) (H : Heap) (locs : List Loc) (ls : Array Slot), w_X11_on N  σ Q → va_P (dC, dI) vwCl (x_W ad cI cJ σ) H → va_D (zAW x_n ad s.heap.size) (x_W ad cI cJ σ) → va_S (zAW x_n ad s.heap.size) s.heap H locs → lv_has ls 2 [(0, .ref (ad 0))] → W p l e rm_X11_on s m args below meth c H locs 0 0 (MQ below (zQi (dC, dI) (x_ty cI cJ) (x_W ad cI cJ) (zAW x_n ad s.heap.size) Q) args s 0 0 (zAW x_n ad s.heap.size)) (F0 m 0 ls []) := by
  obtain ⟨hx, hb, hml, hr, hown, hts, hlocks⟩ := id C0
  intro  σ H locs ls h hP hD hS hl
  unfold w_X11_on at h
  refine lv_aload_n hx hb dX11_on_0 rfl (lv_at hl 0 rfl) ?_
  refine xg_0_0 hx hb hts hown hK hP mw_289 dX11_on_1 ?_
  refine xg_1_1 hx hb hts hown hK hP mw_36 dX11_on_4 ?_
  refine lv_bipush (v := (10 : Int32)) hx hb dX11_on_7 (by decide) ?_
  refine lv_icmp_ne (tgt := 79) hx hb dX11_on_9 (by decide) (fun hc => ?_) (fun hc => ?_)
  · have h := h.2 hc
    exact t_X11_on_79 C0 hK N  σ _ _ _ h hP hD hS (lv_sub hl [0] rfl)
  · have h := h.1 hc
    refine lv_aload_n hx hb dX11_on_12 rfl (lv_at hl 0 rfl) ?_
    refine xg_0_0 hx hb hts hown hK hP mw_289 dX11_on_13 ?_
    refine k_X7_xorOfAll N ⟨hx, hb, hml, hown, hts⟩ mw_813 ⟨Nat.le_of_ble_eq_true rfl, Nat.le_of_ble_eq_true rfl⟩ h hK hP hD hS hl.1 (rest := []) (Nat.le_of_ble_eq_true rfl) ⟨Nat.le_of_ble_eq_true rfl, Nat.le_of_ble_eq_true rfl⟩ dX11_on_16 (fun r1 τ2 H locs h hP hD hS => ?_)
    refine lv_if_ne (tgt := 79) hx hb dX11_on_19 (by decide) (fun hc => ?_) (fun hc => ?_)
    · have h := h.2 hc
      exact t_X11_on_79 C0 hK N  τ2 _ _ _ h hP hD hS (lv_sub hl [0] rfl)
    · have h := h.1 hc
      refine lv_aload_n hx hb dX11_on_22 rfl (lv_at hl 0 rfl) ?_
      refine xg_0_0 hx hb hts hown hK hP mw_289 dX11_on_23 ?_
      refine lv_iconst (v := (0 : Int32)) hx hb dX11_on_26 (by decide) ?_
      refine lv_iconst (v := (1 : Int32)) hx hb dX11_on_27 (by decide) ?_
      refine k_X7_number N ⟨hx, hb, hml, hown, hts⟩ mw_817 ⟨Nat.le_of_ble_eq_true rfl, Nat.le_of_ble_eq_true rfl⟩ h hK hP hD hS hl.1 (rest := []) (Nat.le_of_ble_eq_true rfl) ⟨Nat.le_of_ble_eq_true rfl, Nat.le_of_ble_eq_true rfl⟩ dX11_on_28 (fun r3 τ4 H locs h hP hD hS => ?_)
      refine lv_aload_n hx hb dX11_on_31 rfl (lv_at hl 0 rfl) ?_
      refine xg_0_2 hx hb hts hown hK hP mw_291 dX11_on_32 ?_
      refine xg_3_4 hx hb hts hown hK hP mw_75 dX11_on_35 ?_
      refine lv_i2l hx hb dX11_on_38 rfl ?_
      refine W.lcmp hx hb dX11_on_39 ?_
      refine lv_if_ne (tgt := 79) hx hb dX11_on_40 (by decide) (fun hc => ?_) (fun hc => ?_)
      · have h := h.2 hc
        exact t_X11_on_79 C0 hK N  τ4 _ _ _ h hP hD hS (lv_sub hl [0] rfl)
      · have h := h.1 hc
        refine lv_aload_n hx hb dX11_on_43 rfl (lv_at hl 0 rfl) ?_
        refine lv_aload_n hx hb dX11_on_44 rfl (lv_at hl 0 rfl) ?_
        refine xg_0_0 hx hb hts hown hK hP mw_289 dX11_on_45 ?_
        refine lv_iconst (v := (1 : Int32)) hx hb dX11_on_48 (by decide) ?_
        refine lv_bipush (v := (7 : Int32)) hx hb dX11_on_49 (by decide) ?_
        refine k_X7_number N ⟨hx, hb, hml, hown, hts⟩ mw_817 ⟨Nat.le_of_ble_eq_true rfl, Nat.le_of_ble_eq_true rfl⟩ h hK hP hD hS hl.1 (rest := [.ref (ad 0)]) (Nat.le_of_ble_eq_true rfl) ⟨Nat.le_of_ble_eq_true rfl, Nat.le_of_ble_eq_true rfl⟩ dX11_on_51 (fun r5 τ6 H locs h hP hD hS => ?_)
        refine lv_aload_n hx hb dX11_on_54 rfl (lv_at hl 0 rfl) ?_
        refine xg_0_0 hx hb hts hown hK hP mw_289 dX11_on_55 ?_
        refine lv_bipush (v := (7 : Int32)) hx hb dX11_on_58 (by decide) ?_
        refine lv_bipush (v := (9 : Int32)) hx hb dX11_on_60 (by decide) ?_
        refine k_X7_number N ⟨hx, hb, hml, hown, hts⟩ mw_817 ⟨Nat.le_of_ble_eq_true rfl, Nat.le_of_ble_eq_true rfl⟩ h hK hP hD hS hl.1 (rest := [.long r5, .ref (ad 0)]) (Nat.le_of_ble_eq_true rfl) ⟨Nat.le_of_ble_eq_true rfl, Nat.le_of_ble_eq_true rfl⟩ dX11_on_62 (fun r7 τ8 H locs h hP hD hS => ?_)
        refine lv_ldc2 (v := (1000 : Int64)) hx hb hown (hts _ (List.mem_cons_of_mem _ mw_822)) dX11_on_65 ?_
        refine lv_lsub hx hb dX11_on_68 ?_
        refine k_X11_takeImage N ⟨hx, hb, hml, hown, hts⟩ mw_823 ⟨Nat.le_of_ble_eq_true rfl, Nat.le_of_ble_eq_true rfl⟩ h hK hP hD hS hl.1 (rest := []) (Nat.le_of_ble_eq_true rfl) ⟨Nat.le_of_ble_eq_true rfl, Nat.le_of_ble_eq_true rfl⟩ dX11_on_69 (fun r9 τ10 H locs h hP hD hS => ?_)
        refine lv_if_eq (tgt := 79) hx hb dX11_on_72 (by decide) (fun hc => ?_) (fun hc => ?_)
        · have h := h.1 hc
          exact t_X11_on_79 C0 hK N  τ10 _ _ _ h hP hD hS (lv_sub hl [0] rfl)
        · have h := h.2 hc
          refine lv_iconst (v := (1 : Int32)) hx hb dX11_on_75 (by decide) ?_
          refine lv_goto (tgt := 80) hx hb dX11_on_76 (by decide) ?_
          refine lv_istore_n (lv' := [(1, .int (1 : Int32)), (0, .ref (ad 0))]) hx hb dX11_on_80 rfl hl (by decide) rfl (fun ls hl => ?_)
          refine lv_aload_n hx hb dX11_on_81 rfl (lv_at hl 1 rfl) ?_
          refine xg_0_0 hx hb hts hown hK hP mw_289 dX11_on_82 ?_
          refine lv_iconst (v := (0 : Int32)) hx hb dX11_on_85 (by decide) ?_
          refine xp_1_1 hx hb hts hown hK hP hD hS mw_36 dX11_on_86 (fun τ11 H locs eτ11 hP hD hS => ?_)
          have h := h τ11 eτ11
          refine lv_iload_n hx hb dX11_on_89 rfl (lv_at hl 0 rfl) ?_
          exact zret_z hx hb hr hlocks hK hP hD hS zb_1 h dX11_on_90
set_option maxHeartbeats 4000000 in
set_option maxRecDepth 100000 in
theorem c_X11_on (N : Nat) (l : Launch) (dC : Nat → ClassId) (dI : Nat → Nat → Nat) (ad : Nat → Nat) (cI cJ : ClassId) (sz : Nat) (σ : zSt)  (Q : Int32 → zSt → Prop) (h : w_X11_on N  σ Q) : Met l yX11_on vs_X11_on rm_X11_on (va_Pc [.ref (ad 0)] (zPc (dC, dI) (x_ty cI cJ) (x_W ad cI cJ) sz σ)) (zQi (dC, dI) (x_ty cI cJ) (x_W ad cI cJ) (zAW x_n ad sz) Q) 0 0 (zAW x_n ad sz) := by
  refine Met.ofW (cc := cX11_on) (maxL := 2) (ret := (some .boolean)) (by decide) rfl ?_
  intro p e s m args below meth c s₁ B hml hv
  obtain ⟨rfl, hsz, hP, hK, hD0⟩ := hv
  subst hsz
  have C0 : zCx p s m meth c _ RX11 cX11_on 2 (some .boolean) vs_X11_on := ⟨B.exec, B.bytes, hml, B.returns, findClass_of_methodNamed B.named, atoms_spec (ws := vs_X11_on) B.pre, B.notSynchronized⟩
  have hD := x_D0 (n0 := s.heap.size) hD0
  have hl := lv_entry ([.ref (ad 0)]) (n := 2) (Nat.le_of_ble_eq_true rfl)
  rw [lg_entry_eq]
  generalize (lg_sl ([.ref (ad 0)]) ++ List.replicate (2 - (lg_sl ([.ref (ad 0)])).length) Slot.unset).toArray = ls at hl ⊢
  exact t_X11_on_0 C0 hK N  σ _ _ ls h hP hD va_S.rf hl
theorem k_X11_on (N : Nat) {R : Room} {H : Heap} {locs : List Loc} {cells slots : Nat} {Q2 : State → Prop} {cc : ByteArray} {nL pc index : Nat} {ls : Array Slot} {rest : List Value} {own : String} {c0 : Cond} {σ : zSt}  {Q : Int32 → zSt → Prop} (S0 : CallFix p m c cc nL s args (c0 :: zT) own) (hml : Cond.methodLink own index yX11_on ∈ zT) (hR : rm_X11_on.frames + 1 ≤ R.frames ∧ 8 + (2 + 11) + rm_X11_on.locals ≤ R.locals) (h : w_X11_on N  σ Q) (hK : va_K (dC, dI) vwCl (x_ty cI cJ) s) (hP : va_P (dC, dI) vwCl (x_W ad cI cJ σ) H) (hD : va_D (zAW x_n ad s.heap.size) (x_W ad cI cJ σ)) (hS : va_S (zAW x_n ad s.heap.size) s.heap H locs) (hsz : ls.size = nL) (hW : (rest.map fun v => v.category).sum ≤ 8) (hcs : cells ≤ R.cells ∧ slots ≤ R.slots) (hdg : decode cc pc = .ok (.invokevirtual index, 3)) (kk : ∀ (r : Int32) (τ : zSt) (H1 : Heap) (locs1 : List Loc), Q r τ → va_P (dC, dI) vwCl (x_W ad cI cJ τ) H1 → va_D (zAW x_n ad s.heap.size) (x_W ad cI cJ τ) → va_S (zAW x_n ad s.heap.size) s.heap H1 locs1 → W p l e R s m args below meth c H1 locs1 cells slots Q2 (F0 m (pc + 3) ls (.int r :: rest))) : W p l e R s m args below meth c H locs cells slots Q2 (F0 m pc ls (.ref (ad 0) :: rest)) :=
  zcv_i (T := TX11) (N' := 17) (k := 0) (ci := 11) (fs := x_f0 ad σ) [] S0 (c_X11_on N l dC dI ad cI cJ H.size σ  Q h) (cw_X11_on S0.2.2.2.2 hml rfl rfl hR) rfl rfl hK hP hD hS rfl hsz hW rfl hcs hdg kk
end q13
