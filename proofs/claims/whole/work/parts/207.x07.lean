section q07
end q07
section q07
def b_X10_of_102 (N : Nat) (Q : Int64 → zSt → Prop) (x1 : Int64) (x3 : Int32) (x6 : Int32) (s0 : Int64) (σ : zSt) : Prop :=
  ((lg_cmp s0 (0 : Int64)) = 0 → (vp_in x6 8192) ∧ (Q (σ.2.2.2 6 x6.toNatClampNeg) σ)) ∧ (¬ (lg_cmp s0 (0 : Int64)) = 0 → (vp_in x6 8192) ∧ ((vp_in x3 10) ∧ (w_J13_bitCount_95d88 N (x1 &&& (σ.2.2.2 2 x3.toNatClampNeg)) σ (fun r1 τ2 => Q ((σ.2.2.2 6 x6.toNatClampNeg) - (s0 * r1.toInt64)) τ2))))
def b_X10_of_76 (N : Nat) (Q : Int64 → zSt → Prop) (x1 : Int64) (x3 : Int32) (x6 : Int32) (σ : zSt) : Prop :=
  (x3 = (σ.1 26) → b_X10_of_102 N Q x1 x3 x6 ((σ.1 25) + (σ.1 27)).toInt64 σ) ∧ (¬ x3 = (σ.1 26) → b_X10_of_102 N Q x1 x3 x6 (σ.1 25).toInt64 σ)
def b_X10_of_34 (N : Nat) (Q : Int64 → zSt → Prop) (x1 : Int64) (x3 : Int32) (x4 : Int64) (s0 : Int64) (σ : zSt) : Prop :=
  ∀ v1 : Int32, v1 = s0.toInt32 &&& (8191 : Int32) → (vp_in v1 8192) ∧ (((lg_cmp (σ.2.2.2 5 v1.toNatClampNeg) x4) = 0 → b_X10_of_76 N Q x1 x3 v1 σ) ∧ (¬ (lg_cmp (σ.2.2.2 5 v1.toNatClampNeg) x4) = 0 → w_X10_reckon N x1 x3 σ (fun r2 τ3 => (vp_in v1 8192) ∧ (∀ τ4 : zSt, τ4 = zB τ3 6 (vp_updL (τ3.2.2.2 6) (v1.toNatClampNeg) r2) → (vp_in v1 8192) ∧ (∀ τ5 : zSt, τ5 = zB τ4 5 (vp_updL (τ4.2.2.2 5) (v1.toNatClampNeg) x4) → b_X10_of_76 N Q x1 x3 v1 τ5)))))
def w_X10_of (N : Nat) (x1 : Int64) (x3 : Int32) (σ : zSt) (Q : Int64 → zSt → Prop) : Prop :=
  ∀ v1 : Int64, v1 = (x1 * (σ.1 1).toInt64) + x3.toInt64 → (0 ≤ (lg_cmp v1 (8192 : Int64)) → w_X10_mix N v1 σ (fun r2 τ3 => b_X10_of_34 N Q x1 x3 v1 r2 τ3)) ∧ (¬ 0 ≤ (lg_cmp v1 (8192 : Int64)) → b_X10_of_34 N Q x1 x3 v1 v1 σ)
variable {p : Program} {l : Launch} {e : Env} {s : State} {m : MethodId} {args : Array Value} {below : List Frame} {meth : Method} {c : Code} {dC : Nat → ClassId} {dI : Nat → Nat → Nat} {ad : Nat → Nat} {cI cJ : ClassId}
set_option maxHeartbeats 4000000 in
set_option maxRecDepth 100000 in
theorem t_X10_of_102 (C0 : zCx p s m meth c args RX10 cX10_of 9 (some .long) vs_X10_of) (hK : va_K (dC, dI) vwCl (x_ty cI cJ) s) (N : Nat) {Q : Int64 → zSt → Prop} : ∀ (x1 : Int64) (x3 : Int32) (x6 : Int32) (s0 : Int64) (σ : zSt) (H : Heap) (locs : List Loc) (ls : Array Slot), b_X10_of_102 N  Q x1 x3 x6 s0 σ → va_P (dC, dI) vwCl (x_W ad cI cJ σ) H → va_D (zAW x_n ad s.heap.size) (x_W ad cI cJ σ) → va_S (zAW x_n ad s.heap.size) s.heap H locs → lv_has ls 9 [(0, .ref (ad 9)), (1, .long x1), (3, .int x3), (6, .int x6)] → W p l e rm_X10_of s m args below meth c H locs 0 0 (MQ below (zQl (dC, dI) (x_ty cI cJ) (x_W ad cI cJ) (zAW x_n ad s.heap.size) Q) args s 0 0 (zAW x_n ad s.heap.size)) (F0 m 102 ls [.long s0]) := by
  obtain ⟨hx, hb, hml, hr, hown, hts, hlocks⟩ := id C0
  intro x1 x3 x6 s0 σ H locs ls h hP hD hS hl
  unfold b_X10_of_102 at h
  refine lv_lstore (lv' := [(7, .long s0), (0, .ref (ad 9)), (1, .long x1), (3, .int x3), (6, .int x6)]) hx hb dX10_of_102 hl (by decide) rfl (fun ls hl => ?_)
  refine lv_lload hx hb dX10_of_104 (lv_at hl 0 rfl) ?_
  refine lv_lconst (v := (0 : Int64)) hx hb dX10_of_106 (by decide) ?_
  refine W.lcmp hx hb dX10_of_107 ?_
  refine lv_if_ne (tgt := 121) hx hb dX10_of_108 (by decide) (fun hc => ?_) (fun hc => ?_)
  · have h := h.2 hc
    refine lv_aload_n hx hb dX10_of_121 rfl (lv_at hl 1 rfl) ?_
    refine xg_9_3 hx hb hts hown hK hP mw_202 dX10_of_122 ?_
    refine lv_iload hx hb dX10_of_125 (lv_at hl 4 rfl) ?_
    refine xa_49 hx hb hK hP h.1 rfl dX10_of_127 ?_
    have h := h.2
    refine lv_lload hx hb dX10_of_128 (lv_at hl 0 rfl) ?_
    refine lv_lload_n hx hb dX10_of_130 rfl (lv_at hl 2 rfl) ?_
    refine lv_aload_n hx hb dX10_of_131 rfl (lv_at hl 1 rfl) ?_
    refine xg_9_0 hx hb hts hown hK hP mw_199 dX10_of_132 ?_
    refine xg_3_0 hx hb hts hown hK hP mw_66 dX10_of_135 ?_
    refine xg_2_2 hx hb hts hown hK hP mw_54 dX10_of_138 ?_
    refine lv_iload_n hx hb dX10_of_141 rfl (lv_at hl 3 rfl) ?_
    refine xa_22 hx hb hK hP h.1 rfl dX10_of_142 ?_
    have h := h.2
    refine lv_land hx hb dX10_of_143 ?_
    refine k_J13_bitCount_95d88 N ⟨hx, hb, hml, hown, hts⟩ mw_567 ⟨Nat.le_of_ble_eq_true rfl, Nat.le_of_ble_eq_true rfl⟩ h hK hP hD hS hl.1 (rest := [.long s0, .long (σ.2.2.2 6 x6.toNatClampNeg)]) (Nat.le_of_ble_eq_true rfl) ⟨Nat.le_of_ble_eq_true rfl, Nat.le_of_ble_eq_true rfl⟩ dX10_of_144 (fun r1 τ2 H locs h hP hD hS => ?_)
    refine lv_i2l hx hb dX10_of_147 rfl ?_
    refine lv_lmul hx hb dX10_of_148 ?_
    refine lv_lsub hx hb dX10_of_149 ?_
    exact zret_l hx hb hr hlocks hK hP hD hS h dX10_of_150
  · have h := h.1 hc
    refine lv_aload_n hx hb dX10_of_111 rfl (lv_at hl 1 rfl) ?_
    refine xg_9_3 hx hb hts hown hK hP mw_202 dX10_of_112 ?_
    refine lv_iload hx hb dX10_of_115 (lv_at hl 4 rfl) ?_
    refine xa_49 hx hb hK hP h.1 rfl dX10_of_117 ?_
    have h := h.2
    refine lv_goto (tgt := 150) hx hb dX10_of_118 (by decide) ?_
    exact zret_l hx hb hr hlocks hK hP hD hS h dX10_of_150
set_option maxHeartbeats 4000000 in
set_option maxRecDepth 100000 in
theorem t_X10_of_76 (C0 : zCx p s m meth c args RX10 cX10_of 9 (some .long) vs_X10_of) (hK : va_K (dC, dI) vwCl (x_ty cI cJ) s) (N : Nat) {Q : Int64 → zSt → Prop} : ∀ (x1 : Int64) (x3 : Int32) (x6 : Int32) (σ : zSt) (H : Heap) (locs : List Loc) (ls : Array Slot), b_X10_of_76 N  Q x1 x3 x6 σ → va_P (dC, dI) vwCl (x_W ad cI cJ σ) H → va_D (zAW x_n ad s.heap.size) (x_W ad cI cJ σ) → va_S (zAW x_n ad s.heap.size) s.heap H locs → lv_has ls 9 [(0, .ref (ad 9)), (1, .long x1), (3, .int x3), (6, .int x6)] → W p l e rm_X10_of s m args below meth c H locs 0 0 (MQ below (zQl (dC, dI) (x_ty cI cJ) (x_W ad cI cJ) (zAW x_n ad s.heap.size) Q) args s 0 0 (zAW x_n ad s.heap.size)) (F0 m 76 ls []) := by
  obtain ⟨hx, hb, hml, hr, hown, hts, hlocks⟩ := id C0
  intro x1 x3 x6 σ H locs ls h hP hD hS hl
  unfold b_X10_of_76 at h
  refine lv_iload_n hx hb dX10_of_76 rfl (lv_at hl 2 rfl) ?_
  refine lv_aload_n hx hb dX10_of_77 rfl (lv_at hl 0 rfl) ?_
  refine xg_9_7 hx hb hts hown hK hP mw_208 dX10_of_78 ?_
  refine lv_icmp_ne (tgt := 97) hx hb dX10_of_81 (by decide) (fun hc => ?_) (fun hc => ?_)
  · have h := h.2 hc
    refine lv_aload_n hx hb dX10_of_97 rfl (lv_at hl 0 rfl) ?_
    refine xg_9_6 hx hb hts hown hK hP mw_206 dX10_of_98 ?_
    refine lv_i2l hx hb dX10_of_101 rfl ?_
    exact t_X10_of_102 C0 hK N  x1 x3 x6 (σ.1 25).toInt64 σ _ _ _ h hP hD hS (lv_sub hl [0, 1, 2, 3] rfl)
  · have h := h.1 hc
    refine lv_aload_n hx hb dX10_of_84 rfl (lv_at hl 0 rfl) ?_
    refine xg_9_6 hx hb hts hown hK hP mw_206 dX10_of_85 ?_
    refine lv_aload_n hx hb dX10_of_88 rfl (lv_at hl 0 rfl) ?_
    refine xg_9_8 hx hb hts hown hK hP mw_209 dX10_of_89 ?_
    refine lv_iadd hx hb dX10_of_92 ?_
    refine lv_i2l hx hb dX10_of_93 rfl ?_
    refine lv_goto (tgt := 102) hx hb dX10_of_94 (by decide) ?_
    exact t_X10_of_102 C0 hK N  x1 x3 x6 ((σ.1 25) + (σ.1 27)).toInt64 σ _ _ _ h hP hD hS (lv_sub hl [0, 1, 2, 3] rfl)
set_option maxHeartbeats 4000000 in
set_option maxRecDepth 100000 in
theorem t_X10_of_34 (C0 : zCx p s m meth c args RX10 cX10_of 9 (some .long) vs_X10_of) (hK : va_K (dC, dI) vwCl (x_ty cI cJ) s) (N : Nat) {Q : Int64 → zSt → Prop} : ∀ (x1 : Int64) (x3 : Int32) (x4 : Int64) (s0 : Int64) (σ : zSt) (H : Heap) (locs : List Loc) (ls : Array Slot), b_X10_of_34 N  Q x1 x3 x4 s0 σ → va_P (dC, dI) vwCl (x_W ad cI cJ σ) H → va_D (zAW x_n ad s.heap.size) (x_W ad cI cJ σ) → va_S (zAW x_n ad s.heap.size) s.heap H locs → lv_has ls 9 [(0, .ref (ad 9)), (1, .long x1), (3, .int x3), (4, .long x4)] → W p l e rm_X10_of s m args below meth c H locs 0 0 (MQ below (zQl (dC, dI) (x_ty cI cJ) (x_W ad cI cJ) (zAW x_n ad s.heap.size) Q) args s 0 0 (zAW x_n ad s.heap.size)) (F0 m 34 ls [.long s0]) := by
  obtain ⟨hx, hb, hml, hr, hown, hts, hlocks⟩ := id C0
  intro x1 x3 x4 s0 σ H locs ls h hP hD hS hl
  unfold b_X10_of_34 at h
  refine lv_l2i hx hb dX10_of_34 rfl ?_
  refine lv_sipush (v := (8191 : Int32)) hx hb dX10_of_35 (by decide) ?_
  refine lv_iand hx hb dX10_of_38 ?_
  refine lv_topi (fun v1 ev1 => ?_)
  have h := h v1 ev1
  refine lv_istore (lv' := [(6, .int v1), (0, .ref (ad 9)), (1, .long x1), (3, .int x3), (4, .long x4)]) hx hb dX10_of_39 hl (by decide) rfl (fun ls hl => ?_)
  refine lv_aload_n hx hb dX10_of_41 rfl (lv_at hl 1 rfl) ?_
  refine xg_9_2 hx hb hts hown hK hP mw_201 dX10_of_42 ?_
  refine lv_iload hx hb dX10_of_45 (lv_at hl 0 rfl) ?_
  refine xa_48 hx hb hK hP h.1 rfl dX10_of_47 ?_
  have h := h.2
  refine lv_lload hx hb dX10_of_48 (lv_at hl 4 rfl) ?_
  refine W.lcmp hx hb dX10_of_50 ?_
  refine lv_if_eq (tgt := 76) hx hb dX10_of_51 (by decide) (fun hc => ?_) (fun hc => ?_)
  · have h := h.1 hc
    exact t_X10_of_76 C0 hK N  x1 x3 v1 σ _ _ _ h hP hD hS (lv_sub hl [1, 2, 3, 0] rfl)
  · have h := h.2 hc
    refine lv_aload_n hx hb dX10_of_54 rfl (lv_at hl 1 rfl) ?_
    refine xg_9_3 hx hb hts hown hK hP mw_202 dX10_of_55 ?_
    refine lv_iload hx hb dX10_of_58 (lv_at hl 0 rfl) ?_
    refine lv_aload_n hx hb dX10_of_60 rfl (lv_at hl 1 rfl) ?_
    refine lv_lload_n hx hb dX10_of_61 rfl (lv_at hl 2 rfl) ?_
    refine lv_iload_n hx hb dX10_of_62 rfl (lv_at hl 3 rfl) ?_
    refine k_X10_reckon N ⟨hx, hb, hml, hown, hts⟩ mw_550 ⟨Nat.le_of_ble_eq_true rfl, Nat.le_of_ble_eq_true rfl⟩ h hK hP hD hS hl.1 (rest := [.int v1, .ref (ad 49)]) (Nat.le_of_ble_eq_true rfl) ⟨Nat.le_of_ble_eq_true rfl, Nat.le_of_ble_eq_true rfl⟩ dX10_of_63 (fun r2 τ3 H locs h hP hD hS => ?_)
    refine xs_49 hx hb hK hP hD hS h.1 rfl dX10_of_66 (fun τ4 H locs eτ4 hP hD hS => ?_)
    have h := h.2
    have h := h τ4 eτ4
    refine lv_aload_n hx hb dX10_of_67 rfl (lv_at hl 1 rfl) ?_
    refine xg_9_2 hx hb hts hown hK hP mw_201 dX10_of_68 ?_
    refine lv_iload hx hb dX10_of_71 (lv_at hl 0 rfl) ?_
    refine lv_lload hx hb dX10_of_73 (lv_at hl 4 rfl) ?_
    refine xs_48 hx hb hK hP hD hS h.1 rfl dX10_of_75 (fun τ5 H locs eτ5 hP hD hS => ?_)
    have h := h.2
    have h := h τ5 eτ5
    exact t_X10_of_76 C0 hK N  x1 x3 v1 τ5 _ _ _ h hP hD hS (lv_sub hl [1, 2, 3, 0] rfl)
set_option maxHeartbeats 4000000 in
set_option maxRecDepth 100000 in
theorem t_X10_of_0 (C0 : zCx p s m meth c args RX10 cX10_of 9 (some .long) vs_X10_of) (hK : va_K (dC, dI) vwCl (x_ty cI cJ) s) (N : Nat) {Q : Int64 → zSt → Prop} : ∀ (x1 : Int64) (x3 : Int32) (σ : zSt) (H : Heap) (locs : List Loc) (ls : Array Slot), w_X10_of N x1 x3 σ Q → va_P (dC, dI) vwCl (x_W ad cI cJ σ) H → va_D (zAW x_n ad s.heap.size) (x_W ad cI cJ σ) → va_S (zAW x_n ad s.heap.size) s.heap H locs → lv_has ls 9 [(0, .ref (ad 9)), (1, .long x1), (3, .int x3)] → W p l e rm_X10_of s m args below meth c H locs 0 0 (MQ below (zQl (dC, dI) (x_ty cI cJ) (x_W ad cI cJ) (zAW x_n ad s.heap.size) Q) args s 0 0 (zAW x_n ad s.heap.size)) (F0 m 0 ls []) := by
  obtain ⟨hx, hb, hml, hr, hown, hts, hlocks⟩ := id C0
  intro x1 x3 σ H locs ls h hP hD hS hl
  unfold w_X10_of at h
  refine lv_lload_n hx hb dX10_of_0 rfl (lv_at hl 1 rfl) ?_
  refine lv_aload_n hx hb dX10_of_1 rfl (lv_at hl 0 rfl) ?_
  refine xg_9_0 hx hb hts hown hK hP mw_199 dX10_of_2 ?_
  refine xg_3_4 hx hb hts hown hK hP mw_74 dX10_of_5 ?_
  refine lv_i2l hx hb dX10_of_8 rfl ?_
  refine lv_lmul hx hb dX10_of_9 ?_
  refine lv_iload_n hx hb dX10_of_10 rfl (lv_at hl 2 rfl) ?_
  refine lv_i2l hx hb dX10_of_11 rfl ?_
  refine lv_ladd hx hb dX10_of_12 ?_
  refine lv_topl (fun v1 ev1 => ?_)
  have h := h v1 ev1
  refine lv_lstore (lv' := [(4, .long v1), (0, .ref (ad 9)), (1, .long x1), (3, .int x3)]) hx hb dX10_of_13 hl (by decide) rfl (fun ls hl => ?_)
  refine lv_lload hx hb dX10_of_15 (lv_at hl 0 rfl) ?_
  refine lv_ldc2 (v := (8192 : Int64)) hx hb hown (hts _ (List.mem_cons_of_mem _ mw_546)) dX10_of_17 ?_
  refine W.lcmp hx hb dX10_of_20 ?_
  refine lv_if_ge (tgt := 29) hx hb dX10_of_21 (by decide) (fun hc => ?_) (fun hc => ?_)
  · have h := h.1 hc
    refine lv_lload hx hb dX10_of_29 (lv_at hl 0 rfl) ?_
    refine k_X10_mix N ⟨hx, hb, hml, hown, hts⟩ mw_547 ⟨Nat.le_of_ble_eq_true rfl, Nat.le_of_ble_eq_true rfl⟩ h hK hP hD hS hl.1 (rest := []) (Nat.le_of_ble_eq_true rfl) ⟨Nat.le_of_ble_eq_true rfl, Nat.le_of_ble_eq_true rfl⟩ dX10_of_31 (fun r2 τ3 H locs h hP hD hS => ?_)
    exact t_X10_of_34 C0 hK N  x1 x3 v1 r2 τ3 _ _ _ h hP hD hS (lv_sub hl [1, 2, 3, 0] rfl)
  · have h := h.2 hc
    refine lv_lload hx hb dX10_of_24 (lv_at hl 0 rfl) ?_
    refine lv_goto (tgt := 34) hx hb dX10_of_26 (by decide) ?_
    exact t_X10_of_34 C0 hK N  x1 x3 v1 v1 σ _ _ _ h hP hD hS (lv_sub hl [1, 2, 3, 0] rfl)
set_option maxHeartbeats 4000000 in
set_option maxRecDepth 100000 in
theorem c_X10_of (N : Nat) (l : Launch) (dC : Nat → ClassId) (dI : Nat → Nat → Nat) (ad : Nat → Nat) (cI cJ : ClassId) (sz : Nat) (σ : zSt) (x1 : Int64) (x3 : Int32) (Q : Int64 → zSt → Prop) (h : w_X10_of N x1 x3 σ Q) : Met l yX10_of vs_X10_of rm_X10_of (va_Pc [.ref (ad 9), .long x1, .int x3] (zPc (dC, dI) (x_ty cI cJ) (x_W ad cI cJ) sz σ)) (zQl (dC, dI) (x_ty cI cJ) (x_W ad cI cJ) (zAW x_n ad sz) Q) 0 0 (zAW x_n ad sz) := by
  refine Met.ofW (cc := cX10_of) (maxL := 9) (ret := (some .long)) (by decide) rfl ?_
  intro p e s m args below meth c s₁ B hml hv
  obtain ⟨rfl, hsz, hP, hK, hD0⟩ := hv
  subst hsz
  have C0 : zCx p s m meth c _ RX10 cX10_of 9 (some .long) vs_X10_of := ⟨B.exec, B.bytes, hml, B.returns, findClass_of_methodNamed B.named, atoms_spec (ws := vs_X10_of) B.pre, B.notSynchronized⟩
  have hD := x_D0 (n0 := s.heap.size) hD0
  have hl := lv_entry ([.ref (ad 9), .long x1, .int x3]) (n := 9) (Nat.le_of_ble_eq_true rfl)
  rw [lg_entry_eq]
  generalize (lg_sl ([.ref (ad 9), .long x1, .int x3]) ++ List.replicate (9 - (lg_sl ([.ref (ad 9), .long x1, .int x3])).length) Slot.unset).toArray = ls at hl ⊢
  exact t_X10_of_0 C0 hK N x1 x3 σ _ _ ls h hP hD va_S.rf hl
theorem k_X10_of (N : Nat) {R : Room} {H : Heap} {locs : List Loc} {cells slots : Nat} {Q2 : State → Prop} {cc : ByteArray} {nL pc index : Nat} {ls : Array Slot} {rest : List Value} {own : String} {c0 : Cond} {σ : zSt} {x1 : Int64} {x3 : Int32} {Q : Int64 → zSt → Prop} (S0 : CallFix p m c cc nL s args (c0 :: zT) own) (hml : Cond.methodLink own index yX10_of ∈ zT) (hR : rm_X10_of.frames + 1 ≤ R.frames ∧ 8 + (9 + 11) + rm_X10_of.locals ≤ R.locals) (h : w_X10_of N x1 x3 σ Q) (hK : va_K (dC, dI) vwCl (x_ty cI cJ) s) (hP : va_P (dC, dI) vwCl (x_W ad cI cJ σ) H) (hD : va_D (zAW x_n ad s.heap.size) (x_W ad cI cJ σ)) (hS : va_S (zAW x_n ad s.heap.size) s.heap H locs) (hsz : ls.size = nL) (hW : (rest.map fun v => v.category).sum ≤ 8) (hcs : cells ≤ R.cells ∧ slots ≤ R.slots) (hdg : decode cc pc = .ok (.invokevirtual index, 3)) (kk : ∀ (r : Int64) (τ : zSt) (H1 : Heap) (locs1 : List Loc), Q r τ → va_P (dC, dI) vwCl (x_W ad cI cJ τ) H1 → va_D (zAW x_n ad s.heap.size) (x_W ad cI cJ τ) → va_S (zAW x_n ad s.heap.size) s.heap H1 locs1 → W p l e R s m args below meth c H1 locs1 cells slots Q2 (F0 m (pc + 3) ls (.long r :: rest))) : W p l e R s m args below meth c H locs cells slots Q2 (F0 m pc ls (.int x3 :: .long x1 :: .ref (ad 9) :: rest)) :=
  zcv_l (T := TX10) (N' := 10) (k := 9) (ci := 10) (fs := x_f9 ad σ) [.long x1, .int x3] S0 (c_X10_of N l dC dI ad cI cJ H.size σ x1 x3 Q h) (cw_X10_of S0.2.2.2.2 hml rfl rfl hR) rfl rfl hK hP hD hS rfl hsz hW rfl hcs hdg kk
end q07
section q07
def b_X10_inAll_5 (N : Nat) (k_5 : Int64 → Int64 → Int32 → zSt → Prop) (Q : Int64 → zSt → Prop) (x1 : Int64) (x3 : Int64) (x5 : Int32) (σ : zSt) : Prop :=
  ((σ.1 1) ≤ x5 → Q x3 σ) ∧ (¬ (σ.1 1) ≤ x5 → w_X10_of N x1 x5 σ (fun r1 τ2 => ∀ v3 : Int64, v3 = x3 + r1 → ∀ v4 : Int32, v4 = x5 + (1 : Int32) → k_5 x1 v3 v4 τ2))
def w_X10_inAll_5 (N : Nat) (Q : Int64 → zSt → Prop) : Nat → Int64 → Int64 → Int32 → zSt → Prop
  | 0 => fun _ _ _ _ => False
  | f + 1 => b_X10_inAll_5 N (w_X10_inAll_5 N  Q f) Q
def w_X10_inAll (N : Nat) (x1 : Int64) (σ : zSt) (Q : Int64 → zSt → Prop) : Prop :=
  w_X10_inAll_5 N Q N x1 (0 : Int64) (0 : Int32) σ
variable {p : Program} {l : Launch} {e : Env} {s : State} {m : MethodId} {args : Array Value} {below : List Frame} {meth : Method} {c : Code} {dC : Nat → ClassId} {dI : Nat → Nat → Nat} {ad : Nat → Nat} {cI cJ : ClassId}
set_option maxHeartbeats 4000000 in
set_option maxRecDepth 100000 in
theorem tb_X10_inAll_5 (C0 : zCx p s m meth c args RX10 cX10_inAll 6 (some .long) vs_X10_inAll) (hK : va_K (dC, dI) vwCl (x_ty cI cJ) s) (N : Nat) {Q : Int64 → zSt → Prop} {k_5 : Int64 → Int64 → Int32 → zSt → Prop} (hk_5 : ∀ (x1 : Int64) (x3 : Int64) (x5 : Int32) (σ : zSt) (H : Heap) (locs : List Loc) (ls : Array Slot), k_5 x1 x3 x5 σ → va_P (dC, dI) vwCl (x_W ad cI cJ σ) H → va_D (zAW x_n ad s.heap.size) (x_W ad cI cJ σ) → va_S (zAW x_n ad s.heap.size) s.heap H locs → lv_has ls 6 [(0, .ref (ad 9)), (1, .long x1), (3, .long x3), (5, .int x5)] → W p l e rm_X10_inAll s m args below meth c H locs 0 0 (MQ below (zQl (dC, dI) (x_ty cI cJ) (x_W ad cI cJ) (zAW x_n ad s.heap.size) Q) args s 0 0 (zAW x_n ad s.heap.size)) (F0 m 5 ls [])) : ∀ (x1 : Int64) (x3 : Int64) (x5 : Int32) (σ : zSt) (H : Heap) (locs : List Loc) (ls : Array Slot), b_X10_inAll_5 N k_5 Q x1 x3 x5 σ → va_P (dC, dI) vwCl (x_W ad cI cJ σ) H → va_D (zAW x_n ad s.heap.size) (x_W ad cI cJ σ) → va_S (zAW x_n ad s.heap.size) s.heap H locs → lv_has ls 6 [(0, .ref (ad 9)), (1, .long x1), (3, .long x3), (5, .int x5)] → W p l e rm_X10_inAll s m args below meth c H locs 0 0 (MQ below (zQl (dC, dI) (x_ty cI cJ) (x_W ad cI cJ) (zAW x_n ad s.heap.size) Q) args s 0 0 (zAW x_n ad s.heap.size)) (F0 m 5 ls []) := by
  obtain ⟨hx, hb, hml, hr, hown, hts, hlocks⟩ := id C0
  intro x1 x3 x5 σ H locs ls h hP hD hS hl
  unfold b_X10_inAll_5 at h
  refine lv_iload hx hb dX10_inAll_5 (lv_at hl 3 rfl) ?_
  refine lv_aload_n hx hb dX10_inAll_7 rfl (lv_at hl 0 rfl) ?_
  refine xg_9_0 hx hb hts hown hK hP mw_199 dX10_inAll_8 ?_
  refine xg_3_4 hx hb hts hown hK hP mw_74 dX10_inAll_11 ?_
  refine lv_icmp_ge (tgt := 33) hx hb dX10_inAll_14 (by decide) (fun hc => ?_) (fun hc => ?_)
  · have h := h.1 hc
    refine lv_lload_n hx hb dX10_inAll_33 rfl (lv_at hl 2 rfl) ?_
    exact zret_l hx hb hr hlocks hK hP hD hS h dX10_inAll_34
  · have h := h.2 hc
    refine lv_lload_n hx hb dX10_inAll_17 rfl (lv_at hl 2 rfl) ?_
    refine lv_aload_n hx hb dX10_inAll_18 rfl (lv_at hl 0 rfl) ?_
    refine lv_lload_n hx hb dX10_inAll_19 rfl (lv_at hl 1 rfl) ?_
    refine lv_iload hx hb dX10_inAll_20 (lv_at hl 3 rfl) ?_
    refine k_X10_of N ⟨hx, hb, hml, hown, hts⟩ mw_542 ⟨Nat.le_of_ble_eq_true rfl, Nat.le_of_ble_eq_true rfl⟩ h hK hP hD hS hl.1 (rest := [.long x3]) (Nat.le_of_ble_eq_true rfl) ⟨Nat.le_of_ble_eq_true rfl, Nat.le_of_ble_eq_true rfl⟩ dX10_inAll_22 (fun r1 τ2 H locs h hP hD hS => ?_)
    refine lv_ladd hx hb dX10_inAll_25 ?_
    refine lv_topl (fun v3 ev3 => ?_)
    have h := h v3 ev3
    refine lv_lstore_n (lv' := [(3, .long v3), (0, .ref (ad 9)), (1, .long x1), (5, .int x5)]) hx hb dX10_inAll_26 rfl hl (by decide) rfl (fun ls hl => ?_)
    obtain ⟨v4, ev4⟩ : ∃ z : Int32, z = x5 + (1 : Int32) := ⟨_, rfl⟩
    have h := h v4 ev4
    refine lv_iinc (v := v4) (lv' := [(5, .int v4), (3, .long v3), (0, .ref (ad 9)), (1, .long x1)]) hx hb dX10_inAll_27 hl (k := 3) rfl (by rw [ev4]; rfl) (by decide) rfl (fun ls hl => ?_)
    refine lv_goto (tgt := 5) hx hb dX10_inAll_30 (by decide) ?_
    exact hk_5 x1 v3 v4 τ2 _ _ _ h hP hD hS (lv_sub hl [2, 3, 1, 0] rfl)
set_option maxHeartbeats 4000000 in
set_option maxRecDepth 100000 in
theorem t_X10_inAll_5 (C0 : zCx p s m meth c args RX10 cX10_inAll 6 (some .long) vs_X10_inAll) (hK : va_K (dC, dI) vwCl (x_ty cI cJ) s) (N : Nat) {Q : Int64 → zSt → Prop} : ∀ (f : Nat) (x1 : Int64) (x3 : Int64) (x5 : Int32) (σ : zSt) (H : Heap) (locs : List Loc) (ls : Array Slot), w_X10_inAll_5 N  Q f x1 x3 x5 σ → va_P (dC, dI) vwCl (x_W ad cI cJ σ) H → va_D (zAW x_n ad s.heap.size) (x_W ad cI cJ σ) → va_S (zAW x_n ad s.heap.size) s.heap H locs → lv_has ls 6 [(0, .ref (ad 9)), (1, .long x1), (3, .long x3), (5, .int x5)] → W p l e rm_X10_inAll s m args below meth c H locs 0 0 (MQ below (zQl (dC, dI) (x_ty cI cJ) (x_W ad cI cJ) (zAW x_n ad s.heap.size) Q) args s 0 0 (zAW x_n ad s.heap.size)) (F0 m 5 ls []) := by
  intro f
  induction f with
  | zero => intro x1 x3 x5 σ H locs ls h; exact h.elim
  | succ f ih =>
    intro x1 x3 x5 σ H locs ls h hP hD hS hl
    exact tb_X10_inAll_5 C0 hK N  (k_5 := w_X10_inAll_5 N  Q f) ih x1 x3 x5 σ H locs ls h hP hD hS hl
set_option maxHeartbeats 4000000 in
set_option maxRecDepth 100000 in
theorem t_X10_inAll_0 (C0 : zCx p s m meth c args RX10 cX10_inAll 6 (some .long) vs_X10_inAll) (hK : va_K (dC, dI) vwCl (x_ty cI cJ) s) (N : Nat) {Q : Int64 → zSt → Prop} : ∀ (x1 : Int64) (σ : zSt) (H : Heap) (locs : List Loc) (ls : Array Slot), w_X10_inAll N x1 σ Q → va_P (dC, dI) vwCl (x_W ad cI cJ σ) H → va_D (zAW x_n ad s.heap.size) (x_W ad cI cJ σ) → va_S (zAW x_n ad s.heap.size) s.heap H locs → lv_has ls 6 [(0, .ref (ad 9)), (1, .long x1)] → W p l e rm_X10_inAll s m args below meth c H locs 0 0 (MQ below (zQl (dC, dI) (x_ty cI cJ) (x_W ad cI cJ) (zAW x_n ad s.heap.size) Q) args s 0 0 (zAW x_n ad s.heap.size)) (F0 m 0 ls []) := by
  obtain ⟨hx, hb, hml, hr, hown, hts, hlocks⟩ := id C0
  intro x1 σ H locs ls h hP hD hS hl
  unfold w_X10_inAll at h
  refine lv_lconst (v := (0 : Int64)) hx hb dX10_inAll_0 (by decide) ?_
  refine lv_lstore_n (lv' := [(3, .long (0 : Int64)), (0, .ref (ad 9)), (1, .long x1)]) hx hb dX10_inAll_1 rfl hl (by decide) rfl (fun ls hl => ?_)
  refine lv_iconst (v := (0 : Int32)) hx hb dX10_inAll_2 (by decide) ?_
  refine lv_istore (lv' := [(5, .int (0 : Int32)), (3, .long (0 : Int64)), (0, .ref (ad 9)), (1, .long x1)]) hx hb dX10_inAll_3 hl (by decide) rfl (fun ls hl => ?_)
  exact t_X10_inAll_5 C0 hK N  N x1 (0 : Int64) (0 : Int32) σ _ _ _ h hP hD hS (lv_sub hl [2, 3, 1, 0] rfl)
set_option maxHeartbeats 4000000 in
set_option maxRecDepth 100000 in
theorem c_X10_inAll (N : Nat) (l : Launch) (dC : Nat → ClassId) (dI : Nat → Nat → Nat) (ad : Nat → Nat) (cI cJ : ClassId) (sz : Nat) (σ : zSt) (x1 : Int64) (Q : Int64 → zSt → Prop) (h : w_X10_inAll N x1 σ Q) : Met l yX10_inAll vs_X10_inAll rm_X10_inAll (va_Pc [.ref (ad 9), .long x1] (zPc (dC, dI) (x_ty cI cJ) (x_W ad cI cJ) sz σ)) (zQl (dC, dI) (x_ty cI cJ) (x_W ad cI cJ) (zAW x_n ad sz) Q) 0 0 (zAW x_n ad sz) := by
  refine Met.ofW (cc := cX10_inAll) (maxL := 6) (ret := (some .long)) (by decide) rfl ?_
  intro p e s m args below meth c s₁ B hml hv
  obtain ⟨rfl, hsz, hP, hK, hD0⟩ := hv
  subst hsz
  have C0 : zCx p s m meth c _ RX10 cX10_inAll 6 (some .long) vs_X10_inAll := ⟨B.exec, B.bytes, hml, B.returns, findClass_of_methodNamed B.named, atoms_spec (ws := vs_X10_inAll) B.pre, B.notSynchronized⟩
  have hD := x_D0 (n0 := s.heap.size) hD0
  have hl := lv_entry ([.ref (ad 9), .long x1]) (n := 6) (Nat.le_of_ble_eq_true rfl)
  rw [lg_entry_eq]
  generalize (lg_sl ([.ref (ad 9), .long x1]) ++ List.replicate (6 - (lg_sl ([.ref (ad 9), .long x1])).length) Slot.unset).toArray = ls at hl ⊢
  exact t_X10_inAll_0 C0 hK N x1 σ _ _ ls h hP hD va_S.rf hl
theorem k_X10_inAll (N : Nat) {R : Room} {H : Heap} {locs : List Loc} {cells slots : Nat} {Q2 : State → Prop} {cc : ByteArray} {nL pc index : Nat} {ls : Array Slot} {rest : List Value} {own : String} {c0 : Cond} {σ : zSt} {x1 : Int64} {Q : Int64 → zSt → Prop} (S0 : CallFix p m c cc nL s args (c0 :: zT) own) (hml : Cond.methodLink own index yX10_inAll ∈ zT) (hR : rm_X10_inAll.frames + 1 ≤ R.frames ∧ 8 + (6 + 11) + rm_X10_inAll.locals ≤ R.locals) (h : w_X10_inAll N x1 σ Q) (hK : va_K (dC, dI) vwCl (x_ty cI cJ) s) (hP : va_P (dC, dI) vwCl (x_W ad cI cJ σ) H) (hD : va_D (zAW x_n ad s.heap.size) (x_W ad cI cJ σ)) (hS : va_S (zAW x_n ad s.heap.size) s.heap H locs) (hsz : ls.size = nL) (hW : (rest.map fun v => v.category).sum ≤ 8) (hcs : cells ≤ R.cells ∧ slots ≤ R.slots) (hdg : decode cc pc = .ok (.invokevirtual index, 3)) (kk : ∀ (r : Int64) (τ : zSt) (H1 : Heap) (locs1 : List Loc), Q r τ → va_P (dC, dI) vwCl (x_W ad cI cJ τ) H1 → va_D (zAW x_n ad s.heap.size) (x_W ad cI cJ τ) → va_S (zAW x_n ad s.heap.size) s.heap H1 locs1 → W p l e R s m args below meth c H1 locs1 cells slots Q2 (F0 m (pc + 3) ls (.long r :: rest))) : W p l e R s m args below meth c H locs cells slots Q2 (F0 m pc ls (.long x1 :: .ref (ad 9) :: rest)) :=
  zcv_l (T := TX10) (N' := 10) (k := 9) (ci := 10) (fs := x_f9 ad σ) [.long x1] S0 (c_X10_inAll N l dC dI ad cI cJ H.size σ x1 Q h) (cw_X10_inAll S0.2.2.2.2 hml rfl rfl hR) rfl rfl hK hP hD hS rfl hsz hW rfl hcs hdg kk
end q07
section q07
def w_X11_worth (N : Nat) (x1 : Int32) (σ : zSt) (Q : Int64 → zSt → Prop) : Prop :=
  (x1 = (-1 : Int32) → w_X10_inAll N (σ.2.1 0) σ (fun r5 τ6 => Q r5 τ6)) ∧ (¬ x1 = (-1 : Int32) → w_X4_isPerson_2 N x1 σ (fun r1 τ2 => (r1 = 0 → Q (-1000000000000 : Int64) τ2) ∧ (¬ r1 = 0 → w_X10_of N (τ2.2.1 0) x1 τ2 (fun r3 τ4 => Q r3 τ4))))
variable {p : Program} {l : Launch} {e : Env} {s : State} {m : MethodId} {args : Array Value} {below : List Frame} {meth : Method} {c : Code} {dC : Nat → ClassId} {dI : Nat → Nat → Nat} {ad : Nat → Nat} {cI cJ : ClassId}
set_option maxHeartbeats 4000000 in
set_option maxRecDepth 100000 in
theorem t_X11_worth_0 (C0 : zCx p s m meth c args RX11 cX11_worth 2 (some .long) vs_X11_worth) (hK : va_K (dC, dI) vwCl (x_ty cI cJ) s) (N : Nat) {Q : Int64 → zSt → Prop} : ∀ (x1 : Int32) (σ : zSt) (H : Heap) (locs : List Loc) (ls : Array Slot), w_X11_worth N x1 σ Q → va_P (dC, dI) vwCl (x_W ad cI cJ σ) H → va_D (zAW x_n ad s.heap.size) (x_W ad cI cJ σ) → va_S (zAW x_n ad s.heap.size) s.heap H locs → lv_has ls 2 [(0, .ref (ad 0)), (1, .int x1)] → W p l e rm_X11_worth s m args below meth c H locs 0 0 (MQ below (zQl (dC, dI) (x_ty cI cJ) (x_W ad cI cJ) (zAW x_n ad s.heap.size) Q) args s 0 0 (zAW x_n ad s.heap.size)) (F0 m 0 ls []) := by
  obtain ⟨hx, hb, hml, hr, hown, hts, hlocks⟩ := id C0
  intro x1 σ H locs ls h hP hD hS hl
  unfold w_X11_worth at h
  refine lv_iload_n hx hb dX11_worth_0 rfl (lv_at hl 1 rfl) ?_
  refine lv_iconst (v := (-1 : Int32)) hx hb dX11_worth_1 (by decide) ?_
  refine lv_icmp_ne (tgt := 17) hx hb dX11_worth_2 (by decide) (fun hc => ?_) (fun hc => ?_)
  · have h := h.2 hc
    refine lv_aload_n hx hb dX11_worth_17 rfl (lv_at hl 0 rfl) ?_
    refine xg_0_2 hx hb hts hown hK hP mw_291 dX11_worth_18 ?_
    refine lv_iload_n hx hb dX11_worth_21 rfl (lv_at hl 1 rfl) ?_
    refine k_X4_isPerson_2 N ⟨hx, hb, hml, hown, hts⟩ mw_491 ⟨Nat.le_of_ble_eq_true rfl, Nat.le_of_ble_eq_true rfl⟩ h hK hP hD hS hl.1 (rest := []) (Nat.le_of_ble_eq_true rfl) ⟨Nat.le_of_ble_eq_true rfl, Nat.le_of_ble_eq_true rfl⟩ dX11_worth_22 (fun r1 τ2 H locs h hP hD hS => ?_)
    refine lv_if_eq (tgt := 43) hx hb dX11_worth_25 (by decide) (fun hc => ?_) (fun hc => ?_)
    · have h := h.1 hc
      refine lv_ldc2 (v := (-1000000000000 : Int64)) hx hb hown (hts _ (List.mem_cons_of_mem _ mw_274)) dX11_worth_43 ?_
      exact zret_l hx hb hr hlocks hK hP hD hS h dX11_worth_46
    · have h := h.2 hc
      refine lv_aload_n hx hb dX11_worth_28 rfl (lv_at hl 0 rfl) ?_
      refine xg_0_5 hx hb hts hown hK hP mw_294 dX11_worth_29 ?_
      refine lv_aload_n hx hb dX11_worth_32 rfl (lv_at hl 0 rfl) ?_
      refine xg_0_15 hx hb hts hown hK hP mw_304 dX11_worth_33 ?_
      refine lv_iload_n hx hb dX11_worth_36 rfl (lv_at hl 1 rfl) ?_
      refine k_X10_of N ⟨hx, hb, hml, hown, hts⟩ mw_580 ⟨Nat.le_of_ble_eq_true rfl, Nat.le_of_ble_eq_true rfl⟩ h hK hP hD hS hl.1 (rest := []) (Nat.le_of_ble_eq_true rfl) ⟨Nat.le_of_ble_eq_true rfl, Nat.le_of_ble_eq_true rfl⟩ dX11_worth_37 (fun r3 τ4 H locs h hP hD hS => ?_)
      refine lv_goto (tgt := 46) hx hb dX11_worth_40 (by decide) ?_
      exact zret_l hx hb hr hlocks hK hP hD hS h dX11_worth_46
  · have h := h.1 hc
    refine lv_aload_n hx hb dX11_worth_5 rfl (lv_at hl 0 rfl) ?_
    refine xg_0_5 hx hb hts hown hK hP mw_294 dX11_worth_6 ?_
    refine lv_aload_n hx hb dX11_worth_9 rfl (lv_at hl 0 rfl) ?_
    refine xg_0_15 hx hb hts hown hK hP mw_304 dX11_worth_10 ?_
    refine k_X10_inAll N ⟨hx, hb, hml, hown, hts⟩ mw_538 ⟨Nat.le_of_ble_eq_true rfl, Nat.le_of_ble_eq_true rfl⟩ h hK hP hD hS hl.1 (rest := []) (Nat.le_of_ble_eq_true rfl) ⟨Nat.le_of_ble_eq_true rfl, Nat.le_of_ble_eq_true rfl⟩ dX11_worth_13 (fun r5 τ6 H locs h hP hD hS => ?_)
    exact zret_l hx hb hr hlocks hK hP hD hS h dX11_worth_16
set_option maxHeartbeats 4000000 in
set_option maxRecDepth 100000 in
theorem c_X11_worth (N : Nat) (l : Launch) (dC : Nat → ClassId) (dI : Nat → Nat → Nat) (ad : Nat → Nat) (cI cJ : ClassId) (sz : Nat) (σ : zSt) (x1 : Int32) (Q : Int64 → zSt → Prop) (h : w_X11_worth N x1 σ Q) : Met l yX11_worth vs_X11_worth rm_X11_worth (va_Pc [.ref (ad 0), .int x1] (zPc (dC, dI) (x_ty cI cJ) (x_W ad cI cJ) sz σ)) (zQl (dC, dI) (x_ty cI cJ) (x_W ad cI cJ) (zAW x_n ad sz) Q) 0 0 (zAW x_n ad sz) := by
  refine Met.ofW (cc := cX11_worth) (maxL := 2) (ret := (some .long)) (by decide) rfl ?_
  intro p e s m args below meth c s₁ B hml hv
  obtain ⟨rfl, hsz, hP, hK, hD0⟩ := hv
  subst hsz
  have C0 : zCx p s m meth c _ RX11 cX11_worth 2 (some .long) vs_X11_worth := ⟨B.exec, B.bytes, hml, B.returns, findClass_of_methodNamed B.named, atoms_spec (ws := vs_X11_worth) B.pre, B.notSynchronized⟩
  have hD := x_D0 (n0 := s.heap.size) hD0
  have hl := lv_entry ([.ref (ad 0), .int x1]) (n := 2) (Nat.le_of_ble_eq_true rfl)
  rw [lg_entry_eq]
  generalize (lg_sl ([.ref (ad 0), .int x1]) ++ List.replicate (2 - (lg_sl ([.ref (ad 0), .int x1])).length) Slot.unset).toArray = ls at hl ⊢
  exact t_X11_worth_0 C0 hK N x1 σ _ _ ls h hP hD va_S.rf hl
theorem k_X11_worth (N : Nat) {R : Room} {H : Heap} {locs : List Loc} {cells slots : Nat} {Q2 : State → Prop} {cc : ByteArray} {nL pc index : Nat} {ls : Array Slot} {rest : List Value} {own : String} {c0 : Cond} {σ : zSt} {x1 : Int32} {Q : Int64 → zSt → Prop} (S0 : CallFix p m c cc nL s args (c0 :: zT) own) (hml : Cond.methodLink own index yX11_worth ∈ zT) (hR : rm_X11_worth.frames + 1 ≤ R.frames ∧ 8 + (2 + 11) + rm_X11_worth.locals ≤ R.locals) (h : w_X11_worth N x1 σ Q) (hK : va_K (dC, dI) vwCl (x_ty cI cJ) s) (hP : va_P (dC, dI) vwCl (x_W ad cI cJ σ) H) (hD : va_D (zAW x_n ad s.heap.size) (x_W ad cI cJ σ)) (hS : va_S (zAW x_n ad s.heap.size) s.heap H locs) (hsz : ls.size = nL) (hW : (rest.map fun v => v.category).sum ≤ 8) (hcs : cells ≤ R.cells ∧ slots ≤ R.slots) (hdg : decode cc pc = .ok (.invokevirtual index, 3)) (kk : ∀ (r : Int64) (τ : zSt) (H1 : Heap) (locs1 : List Loc), Q r τ → va_P (dC, dI) vwCl (x_W ad cI cJ τ) H1 → va_D (zAW x_n ad s.heap.size) (x_W ad cI cJ τ) → va_S (zAW x_n ad s.heap.size) s.heap H1 locs1 → W p l e R s m args below meth c H1 locs1 cells slots Q2 (F0 m (pc + 3) ls (.long r :: rest))) : W p l e R s m args below meth c H locs cells slots Q2 (F0 m pc ls (.int x1 :: .ref (ad 0) :: rest)) :=
  zcv_l (T := TX11) (N' := 17) (k := 0) (ci := 11) (fs := x_f0 ad σ) [.int x1] S0 (c_X11_worth N l dC dI ad cI cJ H.size σ x1 Q h) (cw_X11_worth S0.2.2.2.2 hml rfl rfl hR) rfl rfl hK hP hD hS rfl hsz hW rfl hcs hdg kk
end q07
section q07
def w_X11_ways (N : Nat) (x1 : Int32) (x2 : Int32) (σ : zSt) (Q : Int32 → zSt → Prop) : Prop :=
  w_X4_isPerson_2 N x1 σ (fun r1 τ2 => (r1 = 0 → Q (-1 : Int32) τ2) ∧ (¬ r1 = 0 → w_X4_isPerson_2 N x2 τ2 (fun r3 τ4 => (r3 = 0 → Q (-1 : Int32) τ4) ∧ (¬ r3 = 0 → w_X10_lay N (τ4.2.1 0) τ4 (fun τ6 => w_X10_spread N x1 τ6 (fun τ8 => (vp_in x2 10) ∧ (Q (τ8.2.2.1 29 x2.toNatClampNeg) τ8)))))))
variable {p : Program} {l : Launch} {e : Env} {s : State} {m : MethodId} {args : Array Value} {below : List Frame} {meth : Method} {c : Code} {dC : Nat → ClassId} {dI : Nat → Nat → Nat} {ad : Nat → Nat} {cI cJ : ClassId}
set_option maxHeartbeats 4000000 in
set_option maxRecDepth 100000 in
theorem t_X11_ways_0 (C0 : zCx p s m meth c args RX11 cX11_ways 3 (some .int) vs_X11_ways) (hK : va_K (dC, dI) vwCl (x_ty cI cJ) s) (N : Nat) {Q : Int32 → zSt → Prop} : ∀ (x1 : Int32) (x2 : Int32) (σ : zSt) (H : Heap) (locs : List Loc) (ls : Array Slot), w_X11_ways N x1 x2 σ Q → va_P (dC, dI) vwCl (x_W ad cI cJ σ) H → va_D (zAW x_n ad s.heap.size) (x_W ad cI cJ σ) → va_S (zAW x_n ad s.heap.size) s.heap H locs → lv_has ls 3 [(0, .ref (ad 0)), (1, .int x1), (2, .int x2)] → W p l e rm_X11_ways s m args below meth c H locs 0 0 (MQ below (zQi (dC, dI) (x_ty cI cJ) (x_W ad cI cJ) (zAW x_n ad s.heap.size) Q) args s 0 0 (zAW x_n ad s.heap.size)) (F0 m 0 ls []) := by
  obtain ⟨hx, hb, hml, hr, hown, hts, hlocks⟩ := id C0
  intro x1 x2 σ H locs ls h hP hD hS hl
  unfold w_X11_ways at h
  refine lv_aload_n hx hb dX11_ways_0 rfl (lv_at hl 0 rfl) ?_
  refine xg_0_2 hx hb hts hown hK hP mw_291 dX11_ways_1 ?_
  refine lv_iload_n hx hb dX11_ways_4 rfl (lv_at hl 1 rfl) ?_
  refine k_X4_isPerson_2 N ⟨hx, hb, hml, hown, hts⟩ mw_491 ⟨Nat.le_of_ble_eq_true rfl, Nat.le_of_ble_eq_true rfl⟩ h hK hP hD hS hl.1 (rest := []) (Nat.le_of_ble_eq_true rfl) ⟨Nat.le_of_ble_eq_true rfl, Nat.le_of_ble_eq_true rfl⟩ dX11_ways_5 (fun r1 τ2 H locs h hP hD hS => ?_)
  refine lv_if_eq (tgt := 22) hx hb dX11_ways_8 (by decide) (fun hc => ?_) (fun hc => ?_)
  · have h := h.1 hc
    refine lv_iconst (v := (-1 : Int32)) hx hb dX11_ways_22 (by decide) ?_
    exact zret_i hx hb hr hlocks hK hP hD hS h dX11_ways_23
  · have h := h.2 hc
    refine lv_aload_n hx hb dX11_ways_11 rfl (lv_at hl 0 rfl) ?_
    refine xg_0_2 hx hb hts hown hK hP mw_291 dX11_ways_12 ?_
    refine lv_iload_n hx hb dX11_ways_15 rfl (lv_at hl 2 rfl) ?_
    refine k_X4_isPerson_2 N ⟨hx, hb, hml, hown, hts⟩ mw_491 ⟨Nat.le_of_ble_eq_true rfl, Nat.le_of_ble_eq_true rfl⟩ h hK hP hD hS hl.1 (rest := []) (Nat.le_of_ble_eq_true rfl) ⟨Nat.le_of_ble_eq_true rfl, Nat.le_of_ble_eq_true rfl⟩ dX11_ways_16 (fun r3 τ4 H locs h hP hD hS => ?_)
    refine lv_if_ne (tgt := 24) hx hb dX11_ways_19 (by decide) (fun hc => ?_) (fun hc => ?_)
    · have h := h.2 hc
      refine lv_aload_n hx hb dX11_ways_24 rfl (lv_at hl 0 rfl) ?_
      refine xg_0_5 hx hb hts hown hK hP mw_294 dX11_ways_25 ?_
      refine lv_aload_n hx hb dX11_ways_28 rfl (lv_at hl 0 rfl) ?_
      refine xg_0_15 hx hb hts hown hK hP mw_304 dX11_ways_29 ?_
      refine k_X10_lay N ⟨hx, hb, hml, hown, hts⟩ mw_585 ⟨Nat.le_of_ble_eq_true rfl, Nat.le_of_ble_eq_true rfl⟩ h hK hP hD hS hl.1 (rest := []) (Nat.le_of_ble_eq_true rfl) ⟨Nat.le_of_ble_eq_true rfl, Nat.le_of_ble_eq_true rfl⟩ dX11_ways_32 (fun τ6 H locs h hP hD hS => ?_)
      refine lv_aload_n hx hb dX11_ways_35 rfl (lv_at hl 0 rfl) ?_
      refine xg_0_5 hx hb hts hown hK hP mw_294 dX11_ways_36 ?_
      refine lv_iload_n hx hb dX11_ways_39 rfl (lv_at hl 1 rfl) ?_
      refine k_X10_spread N ⟨hx, hb, hml, hown, hts⟩ mw_586 ⟨Nat.le_of_ble_eq_true rfl, Nat.le_of_ble_eq_true rfl⟩ h hK hP hD hS hl.1 (rest := []) (Nat.le_of_ble_eq_true rfl) ⟨Nat.le_of_ble_eq_true rfl, Nat.le_of_ble_eq_true rfl⟩ dX11_ways_40 (fun τ8 H locs h hP hD hS => ?_)
      refine lv_aload_n hx hb dX11_ways_43 rfl (lv_at hl 0 rfl) ?_
      refine xg_0_5 hx hb hts hown hK hP mw_294 dX11_ways_44 ?_
      refine xg_9_5 hx hb hts hown hK hP mw_205 dX11_ways_47 ?_
      refine lv_iload_n hx hb dX11_ways_50 rfl (lv_at hl 2 rfl) ?_
      refine xa_51 hx hb hK hP h.1 rfl dX11_ways_51 ?_
      have h := h.2
      exact zret_i hx hb hr hlocks hK hP hD hS h dX11_ways_52
    · have h := h.1 hc
      refine lv_iconst (v := (-1 : Int32)) hx hb dX11_ways_22 (by decide) ?_
      exact zret_i hx hb hr hlocks hK hP hD hS h dX11_ways_23
set_option maxHeartbeats 4000000 in
set_option maxRecDepth 100000 in
theorem c_X11_ways (N : Nat) (l : Launch) (dC : Nat → ClassId) (dI : Nat → Nat → Nat) (ad : Nat → Nat) (cI cJ : ClassId) (sz : Nat) (σ : zSt) (x1 : Int32) (x2 : Int32) (Q : Int32 → zSt → Prop) (h : w_X11_ways N x1 x2 σ Q) : Met l yX11_ways vs_X11_ways rm_X11_ways (va_Pc [.ref (ad 0), .int x1, .int x2] (zPc (dC, dI) (x_ty cI cJ) (x_W ad cI cJ) sz σ)) (zQi (dC, dI) (x_ty cI cJ) (x_W ad cI cJ) (zAW x_n ad sz) Q) 0 0 (zAW x_n ad sz) := by
  refine Met.ofW (cc := cX11_ways) (maxL := 3) (ret := (some .int)) (by decide) rfl ?_
  intro p e s m args below meth c s₁ B hml hv
  obtain ⟨rfl, hsz, hP, hK, hD0⟩ := hv
  subst hsz
  have C0 : zCx p s m meth c _ RX11 cX11_ways 3 (some .int) vs_X11_ways := ⟨B.exec, B.bytes, hml, B.returns, findClass_of_methodNamed B.named, atoms_spec (ws := vs_X11_ways) B.pre, B.notSynchronized⟩
  have hD := x_D0 (n0 := s.heap.size) hD0
  have hl := lv_entry ([.ref (ad 0), .int x1, .int x2]) (n := 3) (Nat.le_of_ble_eq_true rfl)
  rw [lg_entry_eq]
  generalize (lg_sl ([.ref (ad 0), .int x1, .int x2]) ++ List.replicate (3 - (lg_sl ([.ref (ad 0), .int x1, .int x2])).length) Slot.unset).toArray = ls at hl ⊢
  exact t_X11_ways_0 C0 hK N x1 x2 σ _ _ ls h hP hD va_S.rf hl
theorem k_X11_ways (N : Nat) {R : Room} {H : Heap} {locs : List Loc} {cells slots : Nat} {Q2 : State → Prop} {cc : ByteArray} {nL pc index : Nat} {ls : Array Slot} {rest : List Value} {own : String} {c0 : Cond} {σ : zSt} {x1 : Int32} {x2 : Int32} {Q : Int32 → zSt → Prop} (S0 : CallFix p m c cc nL s args (c0 :: zT) own) (hml : Cond.methodLink own index yX11_ways ∈ zT) (hR : rm_X11_ways.frames + 1 ≤ R.frames ∧ 8 + (3 + 11) + rm_X11_ways.locals ≤ R.locals) (h : w_X11_ways N x1 x2 σ Q) (hK : va_K (dC, dI) vwCl (x_ty cI cJ) s) (hP : va_P (dC, dI) vwCl (x_W ad cI cJ σ) H) (hD : va_D (zAW x_n ad s.heap.size) (x_W ad cI cJ σ)) (hS : va_S (zAW x_n ad s.heap.size) s.heap H locs) (hsz : ls.size = nL) (hW : (rest.map fun v => v.category).sum ≤ 8) (hcs : cells ≤ R.cells ∧ slots ≤ R.slots) (hdg : decode cc pc = .ok (.invokevirtual index, 3)) (kk : ∀ (r : Int32) (τ : zSt) (H1 : Heap) (locs1 : List Loc), Q r τ → va_P (dC, dI) vwCl (x_W ad cI cJ τ) H1 → va_D (zAW x_n ad s.heap.size) (x_W ad cI cJ τ) → va_S (zAW x_n ad s.heap.size) s.heap H1 locs1 → W p l e R s m args below meth c H1 locs1 cells slots Q2 (F0 m (pc + 3) ls (.int r :: rest))) : W p l e R s m args below meth c H locs cells slots Q2 (F0 m pc ls (.int x2 :: .int x1 :: .ref (ad 0) :: rest)) :=
  zcv_i (T := TX11) (N' := 17) (k := 0) (ci := 11) (fs := x_f0 ad σ) [.int x1, .int x2] S0 (c_X11_ways N l dC dI ad cI cJ H.size σ x1 x2 Q h) (cw_X11_ways S0.2.2.2.2 hml rfl rfl hR) rfl rfl hK hP hD hS rfl hsz hW rfl hcs hdg kk
end q07
section q07
def w_X11_isKind (N : Nat) (x0 : Int32) (σ : zSt) (Q : Int32 → zSt → Prop) : Prop :=
  (x0 < 0 → Q (0 : Int32) σ) ∧ (¬ x0 < 0 → ((6 : Int32) ≤ x0 → Q (0 : Int32) σ) ∧ (¬ (6 : Int32) ≤ x0 → Q (1 : Int32) σ))
variable {p : Program} {l : Launch} {e : Env} {s : State} {m : MethodId} {args : Array Value} {below : List Frame} {meth : Method} {c : Code} {dC : Nat → ClassId} {dI : Nat → Nat → Nat} {ad : Nat → Nat} {cI cJ : ClassId}
set_option maxHeartbeats 4000000 in
set_option maxRecDepth 100000 in
theorem t_X11_isKind_0 (C0 : zCx p s m meth c args RX11 cX11_isKind 1 (some .boolean) vs_X11_isKind) (hK : va_K (dC, dI) vwCl (x_ty cI cJ) s) (N : Nat) {Q : Int32 → zSt → Prop} : ∀ (x0 : Int32) (σ : zSt) (H : Heap) (locs : List Loc) (ls : Array Slot), w_X11_isKind N x0 σ Q → va_P (dC, dI) vwCl (x_W ad cI cJ σ) H → va_D (zAW x_n ad s.heap.size) (x_W ad cI cJ σ) → va_S (zAW x_n ad s.heap.size) s.heap H locs → lv_has ls 1 [(0, .int x0)] → W p l e rm_X11_isKind s m args below meth c H locs 0 0 (MQ below (zQi (dC, dI) (x_ty cI cJ) (x_W ad cI cJ) (zAW x_n ad s.heap.size) Q) args s 0 0 (zAW x_n ad s.heap.size)) (F0 m 0 ls []) := by
  obtain ⟨hx, hb, hml, hr, hown, hts, hlocks⟩ := id C0
  intro x0 σ H locs ls h hP hD hS hl
  unfold w_X11_isKind at h
  refine lv_iload_n hx hb dX11_isKind_0 rfl (lv_at hl 0 rfl) ?_
  refine lv_if_lt (tgt := 14) hx hb dX11_isKind_1 (by decide) (fun hc => ?_) (fun hc => ?_)
  · have h := h.1 hc
    refine lv_iconst (v := (0 : Int32)) hx hb dX11_isKind_14 (by decide) ?_
    exact zret_z hx hb hr hlocks hK hP hD hS zb_0 h dX11_isKind_15
  · have h := h.2 hc
    refine lv_iload_n hx hb dX11_isKind_4 rfl (lv_at hl 0 rfl) ?_
    refine lv_bipush (v := (6 : Int32)) hx hb dX11_isKind_5 (by decide) ?_
    refine lv_icmp_ge (tgt := 14) hx hb dX11_isKind_7 (by decide) (fun hc => ?_) (fun hc => ?_)
    · have h := h.1 hc
      refine lv_iconst (v := (0 : Int32)) hx hb dX11_isKind_14 (by decide) ?_
      exact zret_z hx hb hr hlocks hK hP hD hS zb_0 h dX11_isKind_15
    · have h := h.2 hc
      refine lv_iconst (v := (1 : Int32)) hx hb dX11_isKind_10 (by decide) ?_
      refine lv_goto (tgt := 15) hx hb dX11_isKind_11 (by decide) ?_
      exact zret_z hx hb hr hlocks hK hP hD hS zb_1 h dX11_isKind_15
set_option maxHeartbeats 4000000 in
set_option maxRecDepth 100000 in
theorem c_X11_isKind (N : Nat) (l : Launch) (dC : Nat → ClassId) (dI : Nat → Nat → Nat) (ad : Nat → Nat) (cI cJ : ClassId) (sz : Nat) (σ : zSt) (x0 : Int32) (Q : Int32 → zSt → Prop) (h : w_X11_isKind N x0 σ Q) : Met l yX11_isKind vs_X11_isKind rm_X11_isKind (va_Pc [.int x0] (zPc (dC, dI) (x_ty cI cJ) (x_W ad cI cJ) sz σ)) (zQi (dC, dI) (x_ty cI cJ) (x_W ad cI cJ) (zAW x_n ad sz) Q) 0 0 (zAW x_n ad sz) := by
  refine Met.ofW (cc := cX11_isKind) (maxL := 1) (ret := (some .boolean)) (by decide) rfl ?_
  intro p e s m args below meth c s₁ B hml hv
  obtain ⟨rfl, hsz, hP, hK, hD0⟩ := hv
  subst hsz
  have C0 : zCx p s m meth c _ RX11 cX11_isKind 1 (some .boolean) vs_X11_isKind := ⟨B.exec, B.bytes, hml, B.returns, findClass_of_methodNamed B.named, atoms_spec (ws := vs_X11_isKind) B.pre, B.notSynchronized⟩
  have hD := x_D0 (n0 := s.heap.size) hD0
  have hl := lv_entry ([.int x0]) (n := 1) (Nat.le_of_ble_eq_true rfl)
  rw [lg_entry_eq]
  generalize (lg_sl ([.int x0]) ++ List.replicate (1 - (lg_sl ([.int x0])).length) Slot.unset).toArray = ls at hl ⊢
  exact t_X11_isKind_0 C0 hK N x0 σ _ _ ls h hP hD va_S.rf hl
theorem k_X11_isKind (N : Nat) {R : Room} {H : Heap} {locs : List Loc} {cells slots : Nat} {Q2 : State → Prop} {cc : ByteArray} {nL pc index : Nat} {ls : Array Slot} {rest : List Value} {own : String} {c0 : Cond} {σ : zSt} {x0 : Int32} {Q : Int32 → zSt → Prop} (S0 : CallFix p m c cc nL s args (c0 :: zT) own) (hml : Cond.methodLink own index yX11_isKind ∈ zT) (hR : rm_X11_isKind.frames + 1 ≤ R.frames ∧ 8 + (1 + 11) + rm_X11_isKind.locals ≤ R.locals) (h : w_X11_isKind N x0 σ Q) (hK : va_K (dC, dI) vwCl (x_ty cI cJ) s) (hP : va_P (dC, dI) vwCl (x_W ad cI cJ σ) H) (hD : va_D (zAW x_n ad s.heap.size) (x_W ad cI cJ σ)) (hS : va_S (zAW x_n ad s.heap.size) s.heap H locs) (hsz : ls.size = nL) (hW : (rest.map fun v => v.category).sum ≤ 8) (hcs : cells ≤ R.cells ∧ slots ≤ R.slots) (hdg : decode cc pc = .ok (.invokestatic index, 3)) (kk : ∀ (r : Int32) (τ : zSt) (H1 : Heap) (locs1 : List Loc), Q r τ → va_P (dC, dI) vwCl (x_W ad cI cJ τ) H1 → va_D (zAW x_n ad s.heap.size) (x_W ad cI cJ τ) → va_S (zAW x_n ad s.heap.size) s.heap H1 locs1 → W p l e R s m args below meth c H1 locs1 cells slots Q2 (F0 m (pc + 3) ls (.int r :: rest))) : W p l e R s m args below meth c H locs cells slots Q2 (F0 m pc ls (.int x0 :: rest)) :=
  zcs_i [.int x0] S0 (c_X11_isKind N l dC dI ad cI cJ H.size σ x0 Q h) (cw_X11_isKind S0.2.2.2.2 hml hR) hK hP hD hS rfl hsz hW rfl hcs hdg kk
end q07
section q07
def w_X0_gains (N : Nat) (x1 : Int64) (x3 : Int64) (x5 : Int32) (σ : zSt) (Q : Int32 → zSt → Prop) : Prop :=
  w_X10_of N x3 x5 σ (fun r1 τ2 => w_X10_of N x1 x5 τ2 (fun r3 τ4 => ((lg_cmp r1 r3) ≤ 0 → Q (0 : Int32) τ4) ∧ (¬ (lg_cmp r1 r3) ≤ 0 → Q (1 : Int32) τ4)))
variable {p : Program} {l : Launch} {e : Env} {s : State} {m : MethodId} {args : Array Value} {below : List Frame} {meth : Method} {c : Code} {dC : Nat → ClassId} {dI : Nat → Nat → Nat} {ad : Nat → Nat} {cI cJ : ClassId}
set_option maxHeartbeats 4000000 in
set_option maxRecDepth 100000 in
theorem t_X0_gains_0 (C0 : zCx p s m meth c args RX0 cX0_gains 6 (some .boolean) vs_X0_gains) (hK : va_K (dC, dI) vwCl (x_ty cI cJ) s) (N : Nat) {Q : Int32 → zSt → Prop} : ∀ (x1 : Int64) (x3 : Int64) (x5 : Int32) (σ : zSt) (H : Heap) (locs : List Loc) (ls : Array Slot), w_X0_gains N x1 x3 x5 σ Q → va_P (dC, dI) vwCl (x_W ad cI cJ σ) H → va_D (zAW x_n ad s.heap.size) (x_W ad cI cJ σ) → va_S (zAW x_n ad s.heap.size) s.heap H locs → lv_has ls 6 [(0, .ref (ad 10)), (1, .long x1), (3, .long x3), (5, .int x5)] → W p l e rm_X0_gains s m args below meth c H locs 0 0 (MQ below (zQi (dC, dI) (x_ty cI cJ) (x_W ad cI cJ) (zAW x_n ad s.heap.size) Q) args s 0 0 (zAW x_n ad s.heap.size)) (F0 m 0 ls []) := by
  obtain ⟨hx, hb, hml, hr, hown, hts, hlocks⟩ := id C0
  intro x1 x3 x5 σ H locs ls h hP hD hS hl
  unfold w_X0_gains at h
  refine lv_aload_n hx hb dX0_gains_0 rfl (lv_at hl 0 rfl) ?_
  refine xg_10_2 hx hb hts hown hK hP mw_222 dX0_gains_1 ?_
  refine lv_lload_n hx hb dX0_gains_4 rfl (lv_at hl 2 rfl) ?_
  refine lv_iload hx hb dX0_gains_5 (lv_at hl 3 rfl) ?_
  refine k_X10_of N ⟨hx, hb, hml, hown, hts⟩ mw_605 ⟨Nat.le_of_ble_eq_true rfl, Nat.le_of_ble_eq_true rfl⟩ h hK hP hD hS hl.1 (rest := []) (Nat.le_of_ble_eq_true rfl) ⟨Nat.le_of_ble_eq_true rfl, Nat.le_of_ble_eq_true rfl⟩ dX0_gains_7 (fun r1 τ2 H locs h hP hD hS => ?_)
  refine lv_aload_n hx hb dX0_gains_10 rfl (lv_at hl 0 rfl) ?_
  refine xg_10_2 hx hb hts hown hK hP mw_222 dX0_gains_11 ?_
  refine lv_lload_n hx hb dX0_gains_14 rfl (lv_at hl 1 rfl) ?_
  refine lv_iload hx hb dX0_gains_15 (lv_at hl 3 rfl) ?_
  refine k_X10_of N ⟨hx, hb, hml, hown, hts⟩ mw_605 ⟨Nat.le_of_ble_eq_true rfl, Nat.le_of_ble_eq_true rfl⟩ h hK hP hD hS hl.1 (rest := [.long r1]) (Nat.le_of_ble_eq_true rfl) ⟨Nat.le_of_ble_eq_true rfl, Nat.le_of_ble_eq_true rfl⟩ dX0_gains_17 (fun r3 τ4 H locs h hP hD hS => ?_)
  refine W.lcmp hx hb dX0_gains_20 ?_
  refine lv_if_le (tgt := 28) hx hb dX0_gains_21 (by decide) (fun hc => ?_) (fun hc => ?_)
  · have h := h.1 hc
    refine lv_iconst (v := (0 : Int32)) hx hb dX0_gains_28 (by decide) ?_
    exact zret_z hx hb hr hlocks hK hP hD hS zb_0 h dX0_gains_29
  · have h := h.2 hc
    refine lv_iconst (v := (1 : Int32)) hx hb dX0_gains_24 (by decide) ?_
    refine lv_goto (tgt := 29) hx hb dX0_gains_25 (by decide) ?_
    exact zret_z hx hb hr hlocks hK hP hD hS zb_1 h dX0_gains_29
set_option maxHeartbeats 4000000 in
set_option maxRecDepth 100000 in
theorem c_X0_gains (N : Nat) (l : Launch) (dC : Nat → ClassId) (dI : Nat → Nat → Nat) (ad : Nat → Nat) (cI cJ : ClassId) (sz : Nat) (σ : zSt) (x1 : Int64) (x3 : Int64) (x5 : Int32) (Q : Int32 → zSt → Prop) (h : w_X0_gains N x1 x3 x5 σ Q) : Met l yX0_gains vs_X0_gains rm_X0_gains (va_Pc [.ref (ad 10), .long x1, .long x3, .int x5] (zPc (dC, dI) (x_ty cI cJ) (x_W ad cI cJ) sz σ)) (zQi (dC, dI) (x_ty cI cJ) (x_W ad cI cJ) (zAW x_n ad sz) Q) 0 0 (zAW x_n ad sz) := by
  refine Met.ofW (cc := cX0_gains) (maxL := 6) (ret := (some .boolean)) (by decide) rfl ?_
  intro p e s m args below meth c s₁ B hml hv
  obtain ⟨rfl, hsz, hP, hK, hD0⟩ := hv
  subst hsz
  have C0 : zCx p s m meth c _ RX0 cX0_gains 6 (some .boolean) vs_X0_gains := ⟨B.exec, B.bytes, hml, B.returns, findClass_of_methodNamed B.named, atoms_spec (ws := vs_X0_gains) B.pre, B.notSynchronized⟩
  have hD := x_D0 (n0 := s.heap.size) hD0
  have hl := lv_entry ([.ref (ad 10), .long x1, .long x3, .int x5]) (n := 6) (Nat.le_of_ble_eq_true rfl)
  rw [lg_entry_eq]
  generalize (lg_sl ([.ref (ad 10), .long x1, .long x3, .int x5]) ++ List.replicate (6 - (lg_sl ([.ref (ad 10), .long x1, .long x3, .int x5])).length) Slot.unset).toArray = ls at hl ⊢
  exact t_X0_gains_0 C0 hK N x1 x3 x5 σ _ _ ls h hP hD va_S.rf hl
theorem k_X0_gains (N : Nat) {R : Room} {H : Heap} {locs : List Loc} {cells slots : Nat} {Q2 : State → Prop} {cc : ByteArray} {nL pc index : Nat} {ls : Array Slot} {rest : List Value} {own : String} {c0 : Cond} {σ : zSt} {x1 : Int64} {x3 : Int64} {x5 : Int32} {Q : Int32 → zSt → Prop} (S0 : CallFix p m c cc nL s args (c0 :: zT) own) (hml : Cond.methodLink own index yX0_gains ∈ zT) (hR : rm_X0_gains.frames + 1 ≤ R.frames ∧ 8 + (6 + 11) + rm_X0_gains.locals ≤ R.locals) (h : w_X0_gains N x1 x3 x5 σ Q) (hK : va_K (dC, dI) vwCl (x_ty cI cJ) s) (hP : va_P (dC, dI) vwCl (x_W ad cI cJ σ) H) (hD : va_D (zAW x_n ad s.heap.size) (x_W ad cI cJ σ)) (hS : va_S (zAW x_n ad s.heap.size) s.heap H locs) (hsz : ls.size = nL) (hW : (rest.map fun v => v.category).sum ≤ 8) (hcs : cells ≤ R.cells ∧ slots ≤ R.slots) (hdg : decode cc pc = .ok (.invokevirtual index, 3)) (kk : ∀ (r : Int32) (τ : zSt) (H1 : Heap) (locs1 : List Loc), Q r τ → va_P (dC, dI) vwCl (x_W ad cI cJ τ) H1 → va_D (zAW x_n ad s.heap.size) (x_W ad cI cJ τ) → va_S (zAW x_n ad s.heap.size) s.heap H1 locs1 → W p l e R s m args below meth c H1 locs1 cells slots Q2 (F0 m (pc + 3) ls (.int r :: rest))) : W p l e R s m args below meth c H locs cells slots Q2 (F0 m pc ls (.int x5 :: .long x3 :: .long x1 :: .ref (ad 10) :: rest)) :=
  zcv_i (T := TX0) (N' := 9) (k := 10) (ci := 0) (fs := x_f10 ad σ) [.long x1, .long x3, .int x5] S0 (c_X0_gains N l dC dI ad cI cJ H.size σ x1 x3 x5 Q h) (cw_X0_gains S0.2.2.2.2 hml rfl rfl hR) rfl rfl hK hP hD hS rfl hsz hW rfl hcs hdg kk
end q07
section q07
def w_X0_found (N : Nat) (x1 : Int32) (x2 : Int32) (x3 : Int64) (σ : zSt) (Q : Int32 → zSt → Prop) : Prop :=
  ∀ τ1 : zSt, τ1 = zI σ 28 x1 → ∀ τ2 : zSt, τ2 = zI τ1 29 x2 → ∀ τ3 : zSt, τ3 = zJ τ2 5 x3 → Q (1 : Int32) τ3
variable {p : Program} {l : Launch} {e : Env} {s : State} {m : MethodId} {args : Array Value} {below : List Frame} {meth : Method} {c : Code} {dC : Nat → ClassId} {dI : Nat → Nat → Nat} {ad : Nat → Nat} {cI cJ : ClassId}
set_option maxHeartbeats 4000000 in
set_option maxRecDepth 100000 in
theorem t_X0_found_0 (C0 : zCx p s m meth c args RX0 cX0_found 5 (some .boolean) vs_X0_found) (hK : va_K (dC, dI) vwCl (x_ty cI cJ) s) (N : Nat) {Q : Int32 → zSt → Prop} : ∀ (x1 : Int32) (x2 : Int32) (x3 : Int64) (σ : zSt) (H : Heap) (locs : List Loc) (ls : Array Slot), w_X0_found N x1 x2 x3 σ Q → va_P (dC, dI) vwCl (x_W ad cI cJ σ) H → va_D (zAW x_n ad s.heap.size) (x_W ad cI cJ σ) → va_S (zAW x_n ad s.heap.size) s.heap H locs → lv_has ls 5 [(0, .ref (ad 10)), (1, .int x1), (2, .int x2), (3, .long x3)] → W p l e rm_X0_found s m args below meth c H locs 0 0 (MQ below (zQi (dC, dI) (x_ty cI cJ) (x_W ad cI cJ) (zAW x_n ad s.heap.size) Q) args s 0 0 (zAW x_n ad s.heap.size)) (F0 m 0 ls []) := by
  obtain ⟨hx, hb, hml, hr, hown, hts, hlocks⟩ := id C0
  intro x1 x2 x3 σ H locs ls h hP hD hS hl
  unfold w_X0_found at h
  refine lv_aload_n hx hb dX0_found_0 rfl (lv_at hl 0 rfl) ?_
  refine lv_iload_n hx hb dX0_found_1 rfl (lv_at hl 1 rfl) ?_
  refine xp_10_6 hx hb hts hown hK hP hD hS mw_226 dX0_found_2 (fun τ1 H locs eτ1 hP hD hS => ?_)
  have h := h τ1 eτ1
  refine lv_aload_n hx hb dX0_found_5 rfl (lv_at hl 0 rfl) ?_
  refine lv_iload_n hx hb dX0_found_6 rfl (lv_at hl 2 rfl) ?_
  refine xp_10_7 hx hb hts hown hK hP hD hS mw_228 dX0_found_7 (fun τ2 H locs eτ2 hP hD hS => ?_)
  have h := h τ2 eτ2
  refine lv_aload_n hx hb dX0_found_10 rfl (lv_at hl 0 rfl) ?_
  refine lv_lload_n hx hb dX0_found_11 rfl (lv_at hl 3 rfl) ?_
  refine xp_10_8 hx hb hts hown hK hP hD hS mw_230 dX0_found_12 (fun τ3 H locs eτ3 hP hD hS => ?_)
  have h := h τ3 eτ3
  refine lv_iconst (v := (1 : Int32)) hx hb dX0_found_15 (by decide) ?_
  exact zret_z hx hb hr hlocks hK hP hD hS zb_1 h dX0_found_16
set_option maxHeartbeats 4000000 in
set_option maxRecDepth 100000 in
theorem c_X0_found (N : Nat) (l : Launch) (dC : Nat → ClassId) (dI : Nat → Nat → Nat) (ad : Nat → Nat) (cI cJ : ClassId) (sz : Nat) (σ : zSt) (x1 : Int32) (x2 : Int32) (x3 : Int64) (Q : Int32 → zSt → Prop) (h : w_X0_found N x1 x2 x3 σ Q) : Met l yX0_found vs_X0_found rm_X0_found (va_Pc [.ref (ad 10), .int x1, .int x2, .long x3] (zPc (dC, dI) (x_ty cI cJ) (x_W ad cI cJ) sz σ)) (zQi (dC, dI) (x_ty cI cJ) (x_W ad cI cJ) (zAW x_n ad sz) Q) 0 0 (zAW x_n ad sz) := by
  refine Met.ofW (cc := cX0_found) (maxL := 5) (ret := (some .boolean)) (by decide) rfl ?_
  intro p e s m args below meth c s₁ B hml hv
  obtain ⟨rfl, hsz, hP, hK, hD0⟩ := hv
  subst hsz
  have C0 : zCx p s m meth c _ RX0 cX0_found 5 (some .boolean) vs_X0_found := ⟨B.exec, B.bytes, hml, B.returns, findClass_of_methodNamed B.named, atoms_spec (ws := vs_X0_found) B.pre, B.notSynchronized⟩
  have hD := x_D0 (n0 := s.heap.size) hD0
  have hl := lv_entry ([.ref (ad 10), .int x1, .int x2, .long x3]) (n := 5) (Nat.le_of_ble_eq_true rfl)
  rw [lg_entry_eq]
  generalize (lg_sl ([.ref (ad 10), .int x1, .int x2, .long x3]) ++ List.replicate (5 - (lg_sl ([.ref (ad 10), .int x1, .int x2, .long x3])).length) Slot.unset).toArray = ls at hl ⊢
  exact t_X0_found_0 C0 hK N x1 x2 x3 σ _ _ ls h hP hD va_S.rf hl
theorem k_X0_found (N : Nat) {R : Room} {H : Heap} {locs : List Loc} {cells slots : Nat} {Q2 : State → Prop} {cc : ByteArray} {nL pc index : Nat} {ls : Array Slot} {rest : List Value} {own : String} {c0 : Cond} {σ : zSt} {x1 : Int32} {x2 : Int32} {x3 : Int64} {Q : Int32 → zSt → Prop} (S0 : CallFix p m c cc nL s args (c0 :: zT) own) (hml : Cond.methodLink own index yX0_found ∈ zT) (hR : rm_X0_found.frames + 1 ≤ R.frames ∧ 8 + (5 + 11) + rm_X0_found.locals ≤ R.locals) (h : w_X0_found N x1 x2 x3 σ Q) (hK : va_K (dC, dI) vwCl (x_ty cI cJ) s) (hP : va_P (dC, dI) vwCl (x_W ad cI cJ σ) H) (hD : va_D (zAW x_n ad s.heap.size) (x_W ad cI cJ σ)) (hS : va_S (zAW x_n ad s.heap.size) s.heap H locs) (hsz : ls.size = nL) (hW : (rest.map fun v => v.category).sum ≤ 8) (hcs : cells ≤ R.cells ∧ slots ≤ R.slots) (hdg : decode cc pc = .ok (.invokevirtual index, 3)) (kk : ∀ (r : Int32) (τ : zSt) (H1 : Heap) (locs1 : List Loc), Q r τ → va_P (dC, dI) vwCl (x_W ad cI cJ τ) H1 → va_D (zAW x_n ad s.heap.size) (x_W ad cI cJ τ) → va_S (zAW x_n ad s.heap.size) s.heap H1 locs1 → W p l e R s m args below meth c H1 locs1 cells slots Q2 (F0 m (pc + 3) ls (.int r :: rest))) : W p l e R s m args below meth c H locs cells slots Q2 (F0 m pc ls (.long x3 :: .int x2 :: .int x1 :: .ref (ad 10) :: rest)) :=
  zcv_i (T := TX0) (N' := 9) (k := 10) (ci := 0) (fs := x_f10 ad σ) [.int x1, .int x2, .long x3] S0 (c_X0_found N l dC dI ad cI cJ H.size σ x1 x2 x3 Q h) (cw_X0_found S0.2.2.2.2 hml rfl rfl hR) rfl rfl hK hP hD hS rfl hsz hW rfl hcs hdg kk
end q07
section q07
def b_X0_firstCut_2 (N : Nat) (k_2 : Int64 → Int32 → zSt → Prop) (Q : Int32 → zSt → Prop) (x1 : Int64) (x3 : Int32) (σ : zSt) : Prop :=
  ((σ.1 2) ≤ x3 → Q (0 : Int32) σ) ∧ (¬ (σ.1 2) ≤ x3 → ((lg_cmp ((x1 >>> (x3.toInt64 &&& 63)) &&& (1 : Int64)) (0 : Int64)) = 0 → ∀ v1 : Int32, v1 = x3 + (1 : Int32) → k_2 x1 v1 σ) ∧ (¬ (lg_cmp ((x1 >>> (x3.toInt64 &&& 63)) &&& (1 : Int64)) (0 : Int64)) = 0 → ∀ v2 : Int64, v2 = x1 &&& (((1 : Int64) <<< (x3.toInt64 &&& 63)) ^^^ (-1 : Int64)) → (vp_in x3 45) ∧ (w_X0_gains N x1 v2 (σ.2.2.1 3 x3.toNatClampNeg) σ (fun r3 τ4 => (r3 = 0 → (vp_in x3 45) ∧ (w_X0_gains N x1 v2 (τ4.2.2.1 4 x3.toNatClampNeg) τ4 (fun r5 τ6 => (r5 = 0 → ∀ v7 : Int32, v7 = x3 + (1 : Int32) → k_2 x1 v7 τ6) ∧ (¬ r5 = 0 → (vp_in x3 45) ∧ (w_X0_found N (0 : Int32) ((1 : Int32) <<< ((τ6.2.2.1 4 x3.toNatClampNeg) &&& 31)) v2 τ6 (fun r8 τ9 => (zb r8) ∧ Q r8 τ9)))))) ∧ (¬ r3 = 0 → (vp_in x3 45) ∧ (w_X0_found N (0 : Int32) ((1 : Int32) <<< ((τ4.2.2.1 3 x3.toNatClampNeg) &&& 31)) v2 τ4 (fun r10 τ11 => (zb r10) ∧ Q r10 τ11)))))))
def w_X0_firstCut_2 (N : Nat) (Q : Int32 → zSt → Prop) : Nat → Int64 → Int32 → zSt → Prop
  | 0 => fun _ _ _ => False
  | f + 1 => b_X0_firstCut_2 N (w_X0_firstCut_2 N  Q f) Q
def w_X0_firstCut (N : Nat) (x1 : Int64) (σ : zSt) (Q : Int32 → zSt → Prop) : Prop :=
  w_X0_firstCut_2 N Q N x1 (0 : Int32) σ
variable {p : Program} {l : Launch} {e : Env} {s : State} {m : MethodId} {args : Array Value} {below : List Frame} {meth : Method} {c : Code} {dC : Nat → ClassId} {dI : Nat → Nat → Nat} {ad : Nat → Nat} {cI cJ : ClassId}
set_option maxHeartbeats 4000000 in
set_option maxRecDepth 100000 in
theorem tb_X0_firstCut_2 (C0 : zCx p s m meth c args RX0 cX0_firstCut 6 (some .boolean) vs_X0_firstCut) (hK : va_K (dC, dI) vwCl (x_ty cI cJ) s) (N : Nat) {Q : Int32 → zSt → Prop} {k_2 : Int64 → Int32 → zSt → Prop} (hk_2 : ∀ (x1 : Int64) (x3 : Int32) (σ : zSt) (H : Heap) (locs : List Loc) (ls : Array Slot), k_2 x1 x3 σ → va_P (dC, dI) vwCl (x_W ad cI cJ σ) H → va_D (zAW x_n ad s.heap.size) (x_W ad cI cJ σ) → va_S (zAW x_n ad s.heap.size) s.heap H locs → lv_has ls 6 [(0, .ref (ad 10)), (1, .long x1), (3, .int x3)] → W p l e rm_X0_firstCut s m args below meth c H locs 0 0 (MQ below (zQi (dC, dI) (x_ty cI cJ) (x_W ad cI cJ) (zAW x_n ad s.heap.size) Q) args s 0 0 (zAW x_n ad s.heap.size)) (F0 m 2 ls [])) : ∀ (x1 : Int64) (x3 : Int32) (σ : zSt) (H : Heap) (locs : List Loc) (ls : Array Slot), b_X0_firstCut_2 N k_2 Q x1 x3 σ → va_P (dC, dI) vwCl (x_W ad cI cJ σ) H → va_D (zAW x_n ad s.heap.size) (x_W ad cI cJ σ) → va_S (zAW x_n ad s.heap.size) s.heap H locs → lv_has ls 6 [(0, .ref (ad 10)), (1, .long x1), (3, .int x3)] → W p l e rm_X0_firstCut s m args below meth c H locs 0 0 (MQ below (zQi (dC, dI) (x_ty cI cJ) (x_W ad cI cJ) (zAW x_n ad s.heap.size) Q) args s 0 0 (zAW x_n ad s.heap.size)) (F0 m 2 ls []) := by
  obtain ⟨hx, hb, hml, hr, hown, hts, hlocks⟩ := id C0
  intro x1 x3 σ H locs ls h hP hD hS hl
  unfold b_X0_firstCut_2 at h
  refine lv_iload_n hx hb dX0_firstCut_2 rfl (lv_at hl 2 rfl) ?_
  refine lv_aload_n hx hb dX0_firstCut_3 rfl (lv_at hl 0 rfl) ?_
  refine xg_10_0 hx hb hts hown hK hP mw_220 dX0_firstCut_4 ?_
  refine xg_3_5 hx hb hts hown hK hP mw_80 dX0_firstCut_7 ?_
  refine lv_icmp_ge (tgt := 116) hx hb dX0_firstCut_10 (by decide) (fun hc => ?_) (fun hc => ?_)
  · have h := h.1 hc
    refine lv_iconst (v := (0 : Int32)) hx hb dX0_firstCut_116 (by decide) ?_
    exact zret_z hx hb hr hlocks hK hP hD hS zb_0 h dX0_firstCut_117
  · have h := h.2 hc
    refine lv_lload_n hx hb dX0_firstCut_13 rfl (lv_at hl 1 rfl) ?_
    refine lv_iload_n hx hb dX0_firstCut_14 rfl (lv_at hl 2 rfl) ?_
    refine lv_lshr hx hb dX0_firstCut_15 rfl ?_
    refine lv_lconst (v := (1 : Int64)) hx hb dX0_firstCut_16 (by decide) ?_
    refine lv_land hx hb dX0_firstCut_17 ?_
    refine lv_lconst (v := (0 : Int64)) hx hb dX0_firstCut_18 (by decide) ?_
    refine W.lcmp hx hb dX0_firstCut_19 ?_
    refine lv_if_eq (tgt := 110) hx hb dX0_firstCut_20 (by decide) (fun hc => ?_) (fun hc => ?_)
    · have h := h.1 hc
      obtain ⟨v1, ev1⟩ : ∃ z : Int32, z = x3 + (1 : Int32) := ⟨_, rfl⟩
      have h := h v1 ev1
      refine lv_iinc (v := v1) (lv' := [(3, .int v1), (0, .ref (ad 10)), (1, .long x1)]) hx hb dX0_firstCut_110 hl (k := 2) rfl (by rw [ev1]; rfl) (by decide) rfl (fun ls hl => ?_)
      refine lv_goto (tgt := 2) hx hb dX0_firstCut_113 (by decide) ?_
      exact hk_2 x1 v1 σ _ _ _ h hP hD hS (lv_sub hl [1, 2, 0] rfl)
    · have h := h.2 hc
      refine lv_lload_n hx hb dX0_firstCut_23 rfl (lv_at hl 1 rfl) ?_
      refine lv_lconst (v := (1 : Int64)) hx hb dX0_firstCut_24 (by decide) ?_
      refine lv_iload_n hx hb dX0_firstCut_25 rfl (lv_at hl 2 rfl) ?_
      refine lv_lshl hx hb dX0_firstCut_26 rfl ?_
      refine lv_ldc2 (v := (-1 : Int64)) hx hb hown (hts _ (List.mem_cons_of_mem _ mw_601)) dX0_firstCut_27 ?_
      refine lv_lxor hx hb dX0_firstCut_30 ?_
      refine lv_land hx hb dX0_firstCut_31 ?_
      refine lv_topl (fun v2 ev2 => ?_)
      have h := h v2 ev2
      refine lv_lstore (lv' := [(4, .long v2), (0, .ref (ad 10)), (1, .long x1), (3, .int x3)]) hx hb dX0_firstCut_32 hl (by decide) rfl (fun ls hl => ?_)
      refine lv_aload_n hx hb dX0_firstCut_34 rfl (lv_at hl 1 rfl) ?_
      refine lv_lload_n hx hb dX0_firstCut_35 rfl (lv_at hl 2 rfl) ?_
      refine lv_lload hx hb dX0_firstCut_36 (lv_at hl 0 rfl) ?_
      refine lv_aload_n hx hb dX0_firstCut_38 rfl (lv_at hl 1 rfl) ?_
      refine xg_10_1 hx hb hts hown hK hP mw_221 dX0_firstCut_39 ?_
      refine xg_2_0 hx hb hts hown hK hP mw_46 dX0_firstCut_42 ?_
      refine lv_iload_n hx hb dX0_firstCut_45 rfl (lv_at hl 3 rfl) ?_
      refine xa_20 hx hb hK hP h.1 rfl dX0_firstCut_46 ?_
      have h := h.2
      refine k_X0_gains N ⟨hx, hb, hml, hown, hts⟩ mw_602 ⟨Nat.le_of_ble_eq_true rfl, Nat.le_of_ble_eq_true rfl⟩ h hK hP hD hS hl.1 (rest := []) (Nat.le_of_ble_eq_true rfl) ⟨Nat.le_of_ble_eq_true rfl, Nat.le_of_ble_eq_true rfl⟩ dX0_firstCut_47 (fun r3 τ4 H locs h hP hD hS => ?_)
      refine lv_if_eq (tgt := 72) hx hb dX0_firstCut_50 (by decide) (fun hc => ?_) (fun hc => ?_)
      · have h := h.1 hc
        refine lv_aload_n hx hb dX0_firstCut_72 rfl (lv_at hl 1 rfl) ?_
        refine lv_lload_n hx hb dX0_firstCut_73 rfl (lv_at hl 2 rfl) ?_
        refine lv_lload hx hb dX0_firstCut_74 (lv_at hl 0 rfl) ?_
        refine lv_aload_n hx hb dX0_firstCut_76 rfl (lv_at hl 1 rfl) ?_
        refine xg_10_1 hx hb hts hown hK hP mw_221 dX0_firstCut_77 ?_
        refine xg_2_1 hx hb hts hown hK hP mw_50 dX0_firstCut_80 ?_
        refine lv_iload_n hx hb dX0_firstCut_83 rfl (lv_at hl 3 rfl) ?_
        refine xa_21 hx hb hK hP h.1 rfl dX0_firstCut_84 ?_
        have h := h.2
        refine k_X0_gains N ⟨hx, hb, hml, hown, hts⟩ mw_602 ⟨Nat.le_of_ble_eq_true rfl, Nat.le_of_ble_eq_true rfl⟩ h hK hP hD hS hl.1 (rest := []) (Nat.le_of_ble_eq_true rfl) ⟨Nat.le_of_ble_eq_true rfl, Nat.le_of_ble_eq_true rfl⟩ dX0_firstCut_85 (fun r5 τ6 H locs h hP hD hS => ?_)
        refine lv_if_eq (tgt := 110) hx hb dX0_firstCut_88 (by decide) (fun hc => ?_) (fun hc => ?_)
        · have h := h.1 hc
          obtain ⟨v7, ev7⟩ : ∃ z : Int32, z = x3 + (1 : Int32) := ⟨_, rfl⟩
          have h := h v7 ev7
          refine lv_iinc (v := v7) (lv' := [(3, .int v7), (4, .long v2), (0, .ref (ad 10)), (1, .long x1)]) hx hb dX0_firstCut_110 hl (k := 3) rfl (by rw [ev7]; rfl) (by decide) rfl (fun ls hl => ?_)
          refine lv_goto (tgt := 2) hx hb dX0_firstCut_113 (by decide) ?_
          exact hk_2 x1 v7 τ6 _ _ _ h hP hD hS (lv_sub hl [2, 3, 0] rfl)
        · have h := h.2 hc
          refine lv_aload_n hx hb dX0_firstCut_91 rfl (lv_at hl 1 rfl) ?_
          refine lv_iconst (v := (0 : Int32)) hx hb dX0_firstCut_92 (by decide) ?_
          refine lv_iconst (v := (1 : Int32)) hx hb dX0_firstCut_93 (by decide) ?_
          refine lv_aload_n hx hb dX0_firstCut_94 rfl (lv_at hl 1 rfl) ?_
          refine xg_10_1 hx hb hts hown hK hP mw_221 dX0_firstCut_95 ?_
          refine xg_2_1 hx hb hts hown hK hP mw_50 dX0_firstCut_98 ?_
          refine lv_iload_n hx hb dX0_firstCut_101 rfl (lv_at hl 3 rfl) ?_
          refine xa_21 hx hb hK hP h.1 rfl dX0_firstCut_102 ?_
          have h := h.2
          refine lv_ishl hx hb dX0_firstCut_103 ?_
          refine lv_lload hx hb dX0_firstCut_104 (lv_at hl 0 rfl) ?_
          refine k_X0_found N ⟨hx, hb, hml, hown, hts⟩ mw_606 ⟨Nat.le_of_ble_eq_true rfl, Nat.le_of_ble_eq_true rfl⟩ h hK hP hD hS hl.1 (rest := []) (Nat.le_of_ble_eq_true rfl) ⟨Nat.le_of_ble_eq_true rfl, Nat.le_of_ble_eq_true rfl⟩ dX0_firstCut_106 (fun r8 τ9 H locs h hP hD hS => ?_)
          exact zret_z hx hb hr hlocks hK hP hD hS h.1 h.2 dX0_firstCut_109
      · have h := h.2 hc
        refine lv_aload_n hx hb dX0_firstCut_53 rfl (lv_at hl 1 rfl) ?_
        refine lv_iconst (v := (0 : Int32)) hx hb dX0_firstCut_54 (by decide) ?_
        refine lv_iconst (v := (1 : Int32)) hx hb dX0_firstCut_55 (by decide) ?_
        refine lv_aload_n hx hb dX0_firstCut_56 rfl (lv_at hl 1 rfl) ?_
        refine xg_10_1 hx hb hts hown hK hP mw_221 dX0_firstCut_57 ?_
        refine xg_2_0 hx hb hts hown hK hP mw_46 dX0_firstCut_60 ?_
        refine lv_iload_n hx hb dX0_firstCut_63 rfl (lv_at hl 3 rfl) ?_
        refine xa_20 hx hb hK hP h.1 rfl dX0_firstCut_64 ?_
        have h := h.2
        refine lv_ishl hx hb dX0_firstCut_65 ?_
        refine lv_lload hx hb dX0_firstCut_66 (lv_at hl 0 rfl) ?_
        refine k_X0_found N ⟨hx, hb, hml, hown, hts⟩ mw_606 ⟨Nat.le_of_ble_eq_true rfl, Nat.le_of_ble_eq_true rfl⟩ h hK hP hD hS hl.1 (rest := []) (Nat.le_of_ble_eq_true rfl) ⟨Nat.le_of_ble_eq_true rfl, Nat.le_of_ble_eq_true rfl⟩ dX0_firstCut_68 (fun r10 τ11 H locs h hP hD hS => ?_)
        exact zret_z hx hb hr hlocks hK hP hD hS h.1 h.2 dX0_firstCut_71
set_option maxHeartbeats 4000000 in
set_option maxRecDepth 100000 in
theorem t_X0_firstCut_2 (C0 : zCx p s m meth c args RX0 cX0_firstCut 6 (some .boolean) vs_X0_firstCut) (hK : va_K (dC, dI) vwCl (x_ty cI cJ) s) (N : Nat) {Q : Int32 → zSt → Prop} : ∀ (f : Nat) (x1 : Int64) (x3 : Int32) (σ : zSt) (H : Heap) (locs : List Loc) (ls : Array Slot), w_X0_firstCut_2 N  Q f x1 x3 σ → va_P (dC, dI) vwCl (x_W ad cI cJ σ) H → va_D (zAW x_n ad s.heap.size) (x_W ad cI cJ σ) → va_S (zAW x_n ad s.heap.size) s.heap H locs → lv_has ls 6 [(0, .ref (ad 10)), (1, .long x1), (3, .int x3)] → W p l e rm_X0_firstCut s m args below meth c H locs 0 0 (MQ below (zQi (dC, dI) (x_ty cI cJ) (x_W ad cI cJ) (zAW x_n ad s.heap.size) Q) args s 0 0 (zAW x_n ad s.heap.size)) (F0 m 2 ls []) := by
  intro f
  induction f with
  | zero => intro x1 x3 σ H locs ls h; exact h.elim
  | succ f ih =>
    intro x1 x3 σ H locs ls h hP hD hS hl
    exact tb_X0_firstCut_2 C0 hK N  (k_2 := w_X0_firstCut_2 N  Q f) ih x1 x3 σ H locs ls h hP hD hS hl
set_option maxHeartbeats 4000000 in
set_option maxRecDepth 100000 in
theorem t_X0_firstCut_0 (C0 : zCx p s m meth c args RX0 cX0_firstCut 6 (some .boolean) vs_X0_firstCut) (hK : va_K (dC, dI) vwCl (x_ty cI cJ) s) (N : Nat) {Q : Int32 → zSt → Prop} : ∀ (x1 : Int64) (σ : zSt) (H : Heap) (locs : List Loc) (ls : Array Slot), w_X0_firstCut N x1 σ Q → va_P (dC, dI) vwCl (x_W ad cI cJ σ) H → va_D (zAW x_n ad s.heap.size) (x_W ad cI cJ σ) → va_S (zAW x_n ad s.heap.size) s.heap H locs → lv_has ls 6 [(0, .ref (ad 10)), (1, .long x1)] → W p l e rm_X0_firstCut s m args below meth c H locs 0 0 (MQ below (zQi (dC, dI) (x_ty cI cJ) (x_W ad cI cJ) (zAW x_n ad s.heap.size) Q) args s 0 0 (zAW x_n ad s.heap.size)) (F0 m 0 ls []) := by
  obtain ⟨hx, hb, hml, hr, hown, hts, hlocks⟩ := id C0
  intro x1 σ H locs ls h hP hD hS hl
  unfold w_X0_firstCut at h
  refine lv_iconst (v := (0 : Int32)) hx hb dX0_firstCut_0 (by decide) ?_
  refine lv_istore_n (lv' := [(3, .int (0 : Int32)), (0, .ref (ad 10)), (1, .long x1)]) hx hb dX0_firstCut_1 rfl hl (by decide) rfl (fun ls hl => ?_)
  exact t_X0_firstCut_2 C0 hK N  N x1 (0 : Int32) σ _ _ _ h hP hD hS (lv_sub hl [1, 2, 0] rfl)
set_option maxHeartbeats 4000000 in
set_option maxRecDepth 100000 in
theorem c_X0_firstCut (N : Nat) (l : Launch) (dC : Nat → ClassId) (dI : Nat → Nat → Nat) (ad : Nat → Nat) (cI cJ : ClassId) (sz : Nat) (σ : zSt) (x1 : Int64) (Q : Int32 → zSt → Prop) (h : w_X0_firstCut N x1 σ Q) : Met l yX0_firstCut vs_X0_firstCut rm_X0_firstCut (va_Pc [.ref (ad 10), .long x1] (zPc (dC, dI) (x_ty cI cJ) (x_W ad cI cJ) sz σ)) (zQi (dC, dI) (x_ty cI cJ) (x_W ad cI cJ) (zAW x_n ad sz) Q) 0 0 (zAW x_n ad sz) := by
  refine Met.ofW (cc := cX0_firstCut) (maxL := 6) (ret := (some .boolean)) (by decide) rfl ?_
  intro p e s m args below meth c s₁ B hml hv
  obtain ⟨rfl, hsz, hP, hK, hD0⟩ := hv
  subst hsz
  have C0 : zCx p s m meth c _ RX0 cX0_firstCut 6 (some .boolean) vs_X0_firstCut := ⟨B.exec, B.bytes, hml, B.returns, findClass_of_methodNamed B.named, atoms_spec (ws := vs_X0_firstCut) B.pre, B.notSynchronized⟩
  have hD := x_D0 (n0 := s.heap.size) hD0
  have hl := lv_entry ([.ref (ad 10), .long x1]) (n := 6) (Nat.le_of_ble_eq_true rfl)
  rw [lg_entry_eq]
  generalize (lg_sl ([.ref (ad 10), .long x1]) ++ List.replicate (6 - (lg_sl ([.ref (ad 10), .long x1])).length) Slot.unset).toArray = ls at hl ⊢
  exact t_X0_firstCut_0 C0 hK N x1 σ _ _ ls h hP hD va_S.rf hl
theorem k_X0_firstCut (N : Nat) {R : Room} {H : Heap} {locs : List Loc} {cells slots : Nat} {Q2 : State → Prop} {cc : ByteArray} {nL pc index : Nat} {ls : Array Slot} {rest : List Value} {own : String} {c0 : Cond} {σ : zSt} {x1 : Int64} {Q : Int32 → zSt → Prop} (S0 : CallFix p m c cc nL s args (c0 :: zT) own) (hml : Cond.methodLink own index yX0_firstCut ∈ zT) (hR : rm_X0_firstCut.frames + 1 ≤ R.frames ∧ 8 + (6 + 11) + rm_X0_firstCut.locals ≤ R.locals) (h : w_X0_firstCut N x1 σ Q) (hK : va_K (dC, dI) vwCl (x_ty cI cJ) s) (hP : va_P (dC, dI) vwCl (x_W ad cI cJ σ) H) (hD : va_D (zAW x_n ad s.heap.size) (x_W ad cI cJ σ)) (hS : va_S (zAW x_n ad s.heap.size) s.heap H locs) (hsz : ls.size = nL) (hW : (rest.map fun v => v.category).sum ≤ 8) (hcs : cells ≤ R.cells ∧ slots ≤ R.slots) (hdg : decode cc pc = .ok (.invokevirtual index, 3)) (kk : ∀ (r : Int32) (τ : zSt) (H1 : Heap) (locs1 : List Loc), Q r τ → va_P (dC, dI) vwCl (x_W ad cI cJ τ) H1 → va_D (zAW x_n ad s.heap.size) (x_W ad cI cJ τ) → va_S (zAW x_n ad s.heap.size) s.heap H1 locs1 → W p l e R s m args below meth c H1 locs1 cells slots Q2 (F0 m (pc + 3) ls (.int r :: rest))) : W p l e R s m args below meth c H locs cells slots Q2 (F0 m pc ls (.long x1 :: .ref (ad 10) :: rest)) :=
  zcv_i (T := TX0) (N' := 9) (k := 10) (ci := 0) (fs := x_f10 ad σ) [.long x1] S0 (c_X0_firstCut N l dC dI ad cI cJ H.size σ x1 Q h) (cw_X0_firstCut S0.2.2.2.2 hml rfl rfl hR) rfl rfl hK hP hD hS rfl hsz hW rfl hcs hdg kk
end q07
section q07
def b_X0_moves_103 (N : Nat) (Q : Int32 → zSt → Prop) (x1 : Int64) (x3 : Int32) (x4 : Int64) (x6 : Int32) (x7 : Int64) (σ : zSt) : Prop :=
  (vp_in x3 45) ∧ (w_X10_of N x4 (σ.2.2.1 4 x3.toNatClampNeg) σ (fun r1 τ2 => (vp_in x3 45) ∧ (w_X10_of N x1 (τ2.2.2.1 4 x3.toNatClampNeg) τ2 (fun r3 τ4 => ∀ v5 : Int64, v5 = r1 - r3 → (x6 = 0 → ((lg_cmp v5 (0 : Int64)) < 0 → Q (0 : Int32) τ4) ∧ (¬ (lg_cmp v5 (0 : Int64)) < 0 → (0 < (lg_cmp x7 (0 : Int64)) → Q (1 : Int32) τ4) ∧ (¬ 0 < (lg_cmp x7 (0 : Int64)) → ((lg_cmp v5 (0 : Int64)) ≤ 0 → Q (0 : Int32) τ4) ∧ (¬ (lg_cmp v5 (0 : Int64)) ≤ 0 → Q (1 : Int32) τ4)))) ∧ (¬ x6 = 0 → ((lg_cmp v5 (0 : Int64)) ≤ 0 → Q (0 : Int32) τ4) ∧ (¬ (lg_cmp v5 (0 : Int64)) ≤ 0 → Q (1 : Int32) τ4))))))
def b_X0_moves_40 (N : Nat) (Q : Int32 → zSt → Prop) (x1 : Int64) (x3 : Int32) (x4 : Int64) (x6 : Int32) (σ : zSt) : Prop :=
  (vp_in x3 45) ∧ (w_X10_of N x4 (σ.2.2.1 3 x3.toNatClampNeg) σ (fun r1 τ2 => (vp_in x3 45) ∧ (w_X10_of N x1 (τ2.2.2.1 3 x3.toNatClampNeg) τ2 (fun r3 τ4 => ∀ v5 : Int64, v5 = r1 - r3 → (x6 = 0 → (0 ≤ (lg_cmp v5 (0 : Int64)) → b_X0_moves_103 N Q x1 x3 x4 x6 v5 τ4) ∧ (¬ 0 ≤ (lg_cmp v5 (0 : Int64)) → (zb x6) ∧ Q x6 τ4)) ∧ (¬ x6 = 0 → ((lg_cmp v5 (0 : Int64)) ≤ 0 → b_X0_moves_103 N Q x1 x3 x4 x6 v5 τ4) ∧ (¬ (lg_cmp v5 (0 : Int64)) ≤ 0 → (zb x6) ∧ Q x6 τ4))))))
def b_X0_moves_19 (N : Nat) (Q : Int32 → zSt → Prop) (x1 : Int64) (x3 : Int32) (x4 : Int64) (s0 : Int32) (σ : zSt) : Prop :=
  (s0 = 0 → w_X4_may N x4 σ (fun r1 τ2 => (r1 = 0 → Q (0 : Int32) τ2) ∧ (¬ r1 = 0 → b_X0_moves_40 N Q x1 x3 x4 s0 τ2))) ∧ (¬ s0 = 0 → b_X0_moves_40 N Q x1 x3 x4 s0 σ)
def w_X0_moves (N : Nat) (x1 : Int64) (x3 : Int32) (σ : zSt) (Q : Int32 → zSt → Prop) : Prop :=
  ∀ v1 : Int64, v1 = x1 ^^^ ((1 : Int64) <<< (x3.toInt64 &&& 63)) → (0 ≤ (lg_cmp v1 x1) → b_X0_moves_19 N Q x1 x3 v1 (0 : Int32) σ) ∧ (¬ 0 ≤ (lg_cmp v1 x1) → b_X0_moves_19 N Q x1 x3 v1 (1 : Int32) σ)
variable {p : Program} {l : Launch} {e : Env} {s : State} {m : MethodId} {args : Array Value} {below : List Frame} {meth : Method} {c : Code} {dC : Nat → ClassId} {dI : Nat → Nat → Nat} {ad : Nat → Nat} {cI cJ : ClassId}
set_option maxHeartbeats 4000000 in
set_option maxRecDepth 100000 in
theorem t_X0_moves_103 (C0 : zCx p s m meth c args RX0 cX0_moves 11 (some .boolean) vs_X0_moves) (hK : va_K (dC, dI) vwCl (x_ty cI cJ) s) (N : Nat) {Q : Int32 → zSt → Prop} : ∀ (x1 : Int64) (x3 : Int32) (x4 : Int64) (x6 : Int32) (x7 : Int64) (σ : zSt) (H : Heap) (locs : List Loc) (ls : Array Slot), b_X0_moves_103 N  Q x1 x3 x4 x6 x7 σ → va_P (dC, dI) vwCl (x_W ad cI cJ σ) H → va_D (zAW x_n ad s.heap.size) (x_W ad cI cJ σ) → va_S (zAW x_n ad s.heap.size) s.heap H locs → lv_has ls 11 [(0, .ref (ad 10)), (1, .long x1), (3, .int x3), (4, .long x4), (6, .int x6), (7, .long x7)] → W p l e rm_X0_moves s m args below meth c H locs 0 0 (MQ below (zQi (dC, dI) (x_ty cI cJ) (x_W ad cI cJ) (zAW x_n ad s.heap.size) Q) args s 0 0 (zAW x_n ad s.heap.size)) (F0 m 103 ls []) := by
  obtain ⟨hx, hb, hml, hr, hown, hts, hlocks⟩ := id C0
  intro x1 x3 x4 x6 x7 σ H locs ls h hP hD hS hl
  unfold b_X0_moves_103 at h
  refine lv_aload_n hx hb dX0_moves_103 rfl (lv_at hl 0 rfl) ?_
  refine xg_10_2 hx hb hts hown hK hP mw_222 dX0_moves_104 ?_
  refine lv_lload hx hb dX0_moves_107 (lv_at hl 3 rfl) ?_
  refine lv_aload_n hx hb dX0_moves_109 rfl (lv_at hl 0 rfl) ?_
  refine xg_10_1 hx hb hts hown hK hP mw_221 dX0_moves_110 ?_
  refine xg_2_1 hx hb hts hown hK hP mw_50 dX0_moves_113 ?_
  refine lv_iload_n hx hb dX0_moves_116 rfl (lv_at hl 2 rfl) ?_
  refine xa_21 hx hb hK hP h.1 rfl dX0_moves_117 ?_
  have h := h.2
  refine k_X10_of N ⟨hx, hb, hml, hown, hts⟩ mw_605 ⟨Nat.le_of_ble_eq_true rfl, Nat.le_of_ble_eq_true rfl⟩ h hK hP hD hS hl.1 (rest := []) (Nat.le_of_ble_eq_true rfl) ⟨Nat.le_of_ble_eq_true rfl, Nat.le_of_ble_eq_true rfl⟩ dX0_moves_118 (fun r1 τ2 H locs h hP hD hS => ?_)
  refine lv_aload_n hx hb dX0_moves_121 rfl (lv_at hl 0 rfl) ?_
  refine xg_10_2 hx hb hts hown hK hP mw_222 dX0_moves_122 ?_
  refine lv_lload_n hx hb dX0_moves_125 rfl (lv_at hl 1 rfl) ?_
  refine lv_aload_n hx hb dX0_moves_126 rfl (lv_at hl 0 rfl) ?_
  refine xg_10_1 hx hb hts hown hK hP mw_221 dX0_moves_127 ?_
  refine xg_2_1 hx hb hts hown hK hP mw_50 dX0_moves_130 ?_
  refine lv_iload_n hx hb dX0_moves_133 rfl (lv_at hl 2 rfl) ?_
  refine xa_21 hx hb hK hP h.1 rfl dX0_moves_134 ?_
  have h := h.2
  refine k_X10_of N ⟨hx, hb, hml, hown, hts⟩ mw_605 ⟨Nat.le_of_ble_eq_true rfl, Nat.le_of_ble_eq_true rfl⟩ h hK hP hD hS hl.1 (rest := [.long r1]) (Nat.le_of_ble_eq_true rfl) ⟨Nat.le_of_ble_eq_true rfl, Nat.le_of_ble_eq_true rfl⟩ dX0_moves_135 (fun r3 τ4 H locs h hP hD hS => ?_)
  refine lv_lsub hx hb dX0_moves_138 ?_
  refine lv_topl (fun v5 ev5 => ?_)
  have h := h v5 ev5
  refine lv_lstore (lv' := [(9, .long v5), (0, .ref (ad 10)), (1, .long x1), (3, .int x3), (4, .long x4), (6, .int x6), (7, .long x7)]) hx hb dX0_moves_139 hl (by decide) rfl (fun ls hl => ?_)
  refine lv_iload hx hb dX0_moves_141 (lv_at hl 5 rfl) ?_
  refine lv_if_eq (tgt := 161) hx hb dX0_moves_143 (by decide) (fun hc => ?_) (fun hc => ?_)
  · have h := h.1 hc
    refine lv_lload hx hb dX0_moves_161 (lv_at hl 0 rfl) ?_
    refine lv_lconst (v := (0 : Int64)) hx hb dX0_moves_163 (by decide) ?_
    refine W.lcmp hx hb dX0_moves_164 ?_
    refine lv_if_lt (tgt := 186) hx hb dX0_moves_165 (by decide) (fun hc => ?_) (fun hc => ?_)
    · have h := h.1 hc
      refine lv_iconst (v := (0 : Int32)) hx hb dX0_moves_186 (by decide) ?_
      exact zret_z hx hb hr hlocks hK hP hD hS zb_0 h dX0_moves_187
    · have h := h.2 hc
      refine lv_lload hx hb dX0_moves_168 (lv_at hl 6 rfl) ?_
      refine lv_lconst (v := (0 : Int64)) hx hb dX0_moves_170 (by decide) ?_
      refine W.lcmp hx hb dX0_moves_171 ?_
      refine lv_if_gt (tgt := 182) hx hb dX0_moves_172 (by decide) (fun hc => ?_) (fun hc => ?_)
      · have h := h.1 hc
        refine lv_iconst (v := (1 : Int32)) hx hb dX0_moves_182 (by decide) ?_
        refine lv_goto (tgt := 187) hx hb dX0_moves_183 (by decide) ?_
        exact zret_z hx hb hr hlocks hK hP hD hS zb_1 h dX0_moves_187
      · have h := h.2 hc
        refine lv_lload hx hb dX0_moves_175 (lv_at hl 0 rfl) ?_
        refine lv_lconst (v := (0 : Int64)) hx hb dX0_moves_177 (by decide) ?_
        refine W.lcmp hx hb dX0_moves_178 ?_
        refine lv_if_le (tgt := 186) hx hb dX0_moves_179 (by decide) (fun hc => ?_) (fun hc => ?_)
        · have h := h.1 hc
          refine lv_iconst (v := (0 : Int32)) hx hb dX0_moves_186 (by decide) ?_
          exact zret_z hx hb hr hlocks hK hP hD hS zb_0 h dX0_moves_187
        · have h := h.2 hc
          refine lv_iconst (v := (1 : Int32)) hx hb dX0_moves_182 (by decide) ?_
          refine lv_goto (tgt := 187) hx hb dX0_moves_183 (by decide) ?_
          exact zret_z hx hb hr hlocks hK hP hD hS zb_1 h dX0_moves_187
  · have h := h.2 hc
    refine lv_lload hx hb dX0_moves_146 (lv_at hl 0 rfl) ?_
    refine lv_lconst (v := (0 : Int64)) hx hb dX0_moves_148 (by decide) ?_
    refine W.lcmp hx hb dX0_moves_149 ?_
    refine lv_if_le (tgt := 157) hx hb dX0_moves_150 (by decide) (fun hc => ?_) (fun hc => ?_)
    · have h := h.1 hc
      refine lv_iconst (v := (0 : Int32)) hx hb dX0_moves_157 (by decide) ?_
      refine lv_goto (tgt := 187) hx hb dX0_moves_158 (by decide) ?_
      exact zret_z hx hb hr hlocks hK hP hD hS zb_0 h dX0_moves_187
    · have h := h.2 hc
      refine lv_iconst (v := (1 : Int32)) hx hb dX0_moves_153 (by decide) ?_
      refine lv_goto (tgt := 187) hx hb dX0_moves_154 (by decide) ?_
      exact zret_z hx hb hr hlocks hK hP hD hS zb_1 h dX0_moves_187
set_option maxHeartbeats 4000000 in
set_option maxRecDepth 100000 in
theorem t_X0_moves_40 (C0 : zCx p s m meth c args RX0 cX0_moves 11 (some .boolean) vs_X0_moves) (hK : va_K (dC, dI) vwCl (x_ty cI cJ) s) (N : Nat) {Q : Int32 → zSt → Prop} : ∀ (x1 : Int64) (x3 : Int32) (x4 : Int64) (x6 : Int32) (σ : zSt) (H : Heap) (locs : List Loc) (ls : Array Slot), b_X0_moves_40 N  Q x1 x3 x4 x6 σ → va_P (dC, dI) vwCl (x_W ad cI cJ σ) H → va_D (zAW x_n ad s.heap.size) (x_W ad cI cJ σ) → va_S (zAW x_n ad s.heap.size) s.heap H locs → lv_has ls 11 [(0, .ref (ad 10)), (1, .long x1), (3, .int x3), (4, .long x4), (6, .int x6)] → W p l e rm_X0_moves s m args below meth c H locs 0 0 (MQ below (zQi (dC, dI) (x_ty cI cJ) (x_W ad cI cJ) (zAW x_n ad s.heap.size) Q) args s 0 0 (zAW x_n ad s.heap.size)) (F0 m 40 ls []) := by
  obtain ⟨hx, hb, hml, hr, hown, hts, hlocks⟩ := id C0
  intro x1 x3 x4 x6 σ H locs ls h hP hD hS hl
  unfold b_X0_moves_40 at h
  refine lv_aload_n hx hb dX0_moves_40 rfl (lv_at hl 0 rfl) ?_
  refine xg_10_2 hx hb hts hown hK hP mw_222 dX0_moves_41 ?_
  refine lv_lload hx hb dX0_moves_44 (lv_at hl 3 rfl) ?_
  refine lv_aload_n hx hb dX0_moves_46 rfl (lv_at hl 0 rfl) ?_
  refine xg_10_1 hx hb hts hown hK hP mw_221 dX0_moves_47 ?_
  refine xg_2_0 hx hb hts hown hK hP mw_46 dX0_moves_50 ?_
  refine lv_iload_n hx hb dX0_moves_53 rfl (lv_at hl 2 rfl) ?_
  refine xa_20 hx hb hK hP h.1 rfl dX0_moves_54 ?_
  have h := h.2
  refine k_X10_of N ⟨hx, hb, hml, hown, hts⟩ mw_605 ⟨Nat.le_of_ble_eq_true rfl, Nat.le_of_ble_eq_true rfl⟩ h hK hP hD hS hl.1 (rest := []) (Nat.le_of_ble_eq_true rfl) ⟨Nat.le_of_ble_eq_true rfl, Nat.le_of_ble_eq_true rfl⟩ dX0_moves_55 (fun r1 τ2 H locs h hP hD hS => ?_)
  refine lv_aload_n hx hb dX0_moves_58 rfl (lv_at hl 0 rfl) ?_
  refine xg_10_2 hx hb hts hown hK hP mw_222 dX0_moves_59 ?_
  refine lv_lload_n hx hb dX0_moves_62 rfl (lv_at hl 1 rfl) ?_
  refine lv_aload_n hx hb dX0_moves_63 rfl (lv_at hl 0 rfl) ?_
  refine xg_10_1 hx hb hts hown hK hP mw_221 dX0_moves_64 ?_
  refine xg_2_0 hx hb hts hown hK hP mw_46 dX0_moves_67 ?_
  refine lv_iload_n hx hb dX0_moves_70 rfl (lv_at hl 2 rfl) ?_
  refine xa_20 hx hb hK hP h.1 rfl dX0_moves_71 ?_
  have h := h.2
  refine k_X10_of N ⟨hx, hb, hml, hown, hts⟩ mw_605 ⟨Nat.le_of_ble_eq_true rfl, Nat.le_of_ble_eq_true rfl⟩ h hK hP hD hS hl.1 (rest := [.long r1]) (Nat.le_of_ble_eq_true rfl) ⟨Nat.le_of_ble_eq_true rfl, Nat.le_of_ble_eq_true rfl⟩ dX0_moves_72 (fun r3 τ4 H locs h hP hD hS => ?_)
  refine lv_lsub hx hb dX0_moves_75 ?_
  refine lv_topl (fun v5 ev5 => ?_)
  have h := h v5 ev5
  refine lv_lstore (lv' := [(7, .long v5), (0, .ref (ad 10)), (1, .long x1), (3, .int x3), (4, .long x4), (6, .int x6)]) hx hb dX0_moves_76 hl (by decide) rfl (fun ls hl => ?_)
  refine lv_iload hx hb dX0_moves_78 (lv_at hl 5 rfl) ?_
  refine lv_if_eq (tgt := 93) hx hb dX0_moves_80 (by decide) (fun hc => ?_) (fun hc => ?_)
  · have h := h.1 hc
    refine lv_lload hx hb dX0_moves_93 (lv_at hl 0 rfl) ?_
    refine lv_lconst (v := (0 : Int64)) hx hb dX0_moves_95 (by decide) ?_
    refine W.lcmp hx hb dX0_moves_96 ?_
    refine lv_if_ge (tgt := 103) hx hb dX0_moves_97 (by decide) (fun hc => ?_) (fun hc => ?_)
    · have h := h.1 hc
      exact t_X0_moves_103 C0 hK N  x1 x3 x4 x6 v5 τ4 _ _ _ h hP hD hS (lv_sub hl [1, 2, 3, 4, 5, 0] rfl)
    · have h := h.2 hc
      refine lv_iload hx hb dX0_moves_100 (lv_at hl 5 rfl) ?_
      exact zret_z hx hb hr hlocks hK hP hD hS h.1 h.2 dX0_moves_102
  · have h := h.2 hc
    refine lv_lload hx hb dX0_moves_83 (lv_at hl 0 rfl) ?_
    refine lv_lconst (v := (0 : Int64)) hx hb dX0_moves_85 (by decide) ?_
    refine W.lcmp hx hb dX0_moves_86 ?_
    refine lv_if_le (tgt := 103) hx hb dX0_moves_87 (by decide) (fun hc => ?_) (fun hc => ?_)
    · have h := h.1 hc
      exact t_X0_moves_103 C0 hK N  x1 x3 x4 x6 v5 τ4 _ _ _ h hP hD hS (lv_sub hl [1, 2, 3, 4, 5, 0] rfl)
    · have h := h.2 hc
      refine lv_goto (tgt := 100) hx hb dX0_moves_90 (by decide) ?_
      refine lv_iload hx hb dX0_moves_100 (lv_at hl 5 rfl) ?_
      exact zret_z hx hb hr hlocks hK hP hD hS h.1 h.2 dX0_moves_102
set_option maxHeartbeats 4000000 in
set_option maxRecDepth 100000 in
theorem t_X0_moves_19 (C0 : zCx p s m meth c args RX0 cX0_moves 11 (some .boolean) vs_X0_moves) (hK : va_K (dC, dI) vwCl (x_ty cI cJ) s) (N : Nat) {Q : Int32 → zSt → Prop} : ∀ (x1 : Int64) (x3 : Int32) (x4 : Int64) (s0 : Int32) (σ : zSt) (H : Heap) (locs : List Loc) (ls : Array Slot), b_X0_moves_19 N  Q x1 x3 x4 s0 σ → va_P (dC, dI) vwCl (x_W ad cI cJ σ) H → va_D (zAW x_n ad s.heap.size) (x_W ad cI cJ σ) → va_S (zAW x_n ad s.heap.size) s.heap H locs → lv_has ls 11 [(0, .ref (ad 10)), (1, .long x1), (3, .int x3), (4, .long x4)] → W p l e rm_X0_moves s m args below meth c H locs 0 0 (MQ below (zQi (dC, dI) (x_ty cI cJ) (x_W ad cI cJ) (zAW x_n ad s.heap.size) Q) args s 0 0 (zAW x_n ad s.heap.size)) (F0 m 19 ls [.int s0]) := by
  obtain ⟨hx, hb, hml, hr, hown, hts, hlocks⟩ := id C0
  intro x1 x3 x4 s0 σ H locs ls h hP hD hS hl
  unfold b_X0_moves_19 at h
  refine lv_istore (lv' := [(6, .int s0), (0, .ref (ad 10)), (1, .long x1), (3, .int x3), (4, .long x4)]) hx hb dX0_moves_19 hl (by decide) rfl (fun ls hl => ?_)
  refine lv_iload hx hb dX0_moves_21 (lv_at hl 0 rfl) ?_
  refine lv_if_ne (tgt := 40) hx hb dX0_moves_23 (by decide) (fun hc => ?_) (fun hc => ?_)
  · have h := h.2 hc
    exact t_X0_moves_40 C0 hK N  x1 x3 x4 s0 σ _ _ _ h hP hD hS (lv_sub hl [1, 2, 3, 4, 0] rfl)
  · have h := h.1 hc
    refine lv_aload_n hx hb dX0_moves_26 rfl (lv_at hl 1 rfl) ?_
    refine xg_10_0 hx hb hts hown hK hP mw_220 dX0_moves_27 ?_
    refine lv_lload hx hb dX0_moves_30 (lv_at hl 4 rfl) ?_
    refine k_X4_may N ⟨hx, hb, hml, hown, hts⟩ mw_617 ⟨Nat.le_of_ble_eq_true rfl, Nat.le_of_ble_eq_true rfl⟩ h hK hP hD hS hl.1 (rest := []) (Nat.le_of_ble_eq_true rfl) ⟨Nat.le_of_ble_eq_true rfl, Nat.le_of_ble_eq_true rfl⟩ dX0_moves_32 (fun r1 τ2 H locs h hP hD hS => ?_)
    refine lv_if_ne (tgt := 40) hx hb dX0_moves_35 (by decide) (fun hc => ?_) (fun hc => ?_)
    · have h := h.2 hc
      exact t_X0_moves_40 C0 hK N  x1 x3 x4 s0 τ2 _ _ _ h hP hD hS (lv_sub hl [1, 2, 3, 4, 0] rfl)
    · have h := h.1 hc
      refine lv_iconst (v := (0 : Int32)) hx hb dX0_moves_38 (by decide) ?_
      exact zret_z hx hb hr hlocks hK hP hD hS zb_0 h dX0_moves_39
set_option maxHeartbeats 4000000 in
set_option maxRecDepth 100000 in
theorem t_X0_moves_0 (C0 : zCx p s m meth c args RX0 cX0_moves 11 (some .boolean) vs_X0_moves) (hK : va_K (dC, dI) vwCl (x_ty cI cJ) s) (N : Nat) {Q : Int32 → zSt → Prop} : ∀ (x1 : Int64) (x3 : Int32) (σ : zSt) (H : Heap) (locs : List Loc) (ls : Array Slot), w_X0_moves N x1 x3 σ Q → va_P (dC, dI) vwCl (x_W ad cI cJ σ) H → va_D (zAW x_n ad s.heap.size) (x_W ad cI cJ σ) → va_S (zAW x_n ad s.heap.size) s.heap H locs → lv_has ls 11 [(0, .ref (ad 10)), (1, .long x1), (3, .int x3)] → W p l e rm_X0_moves s m args below meth c H locs 0 0 (MQ below (zQi (dC, dI) (x_ty cI cJ) (x_W ad cI cJ) (zAW x_n ad s.heap.size) Q) args s 0 0 (zAW x_n ad s.heap.size)) (F0 m 0 ls []) := by
  obtain ⟨hx, hb, hml, hr, hown, hts, hlocks⟩ := id C0
  intro x1 x3 σ H locs ls h hP hD hS hl
  unfold w_X0_moves at h
  refine lv_lload_n hx hb dX0_moves_0 rfl (lv_at hl 1 rfl) ?_
  refine lv_lconst (v := (1 : Int64)) hx hb dX0_moves_1 (by decide) ?_
  refine lv_iload_n hx hb dX0_moves_2 rfl (lv_at hl 2 rfl) ?_
  refine lv_lshl hx hb dX0_moves_3 rfl ?_
  refine lv_lxor hx hb dX0_moves_4 ?_
  refine lv_topl (fun v1 ev1 => ?_)
  have h := h v1 ev1
  refine lv_lstore (lv' := [(4, .long v1), (0, .ref (ad 10)), (1, .long x1), (3, .int x3)]) hx hb dX0_moves_5 hl (by decide) rfl (fun ls hl => ?_)
  refine lv_lload hx hb dX0_moves_7 (lv_at hl 0 rfl) ?_
  refine lv_lload_n hx hb dX0_moves_9 rfl (lv_at hl 2 rfl) ?_
  refine W.lcmp hx hb dX0_moves_10 ?_
  refine lv_if_ge (tgt := 18) hx hb dX0_moves_11 (by decide) (fun hc => ?_) (fun hc => ?_)
  · have h := h.1 hc
    refine lv_iconst (v := (0 : Int32)) hx hb dX0_moves_18 (by decide) ?_
    exact t_X0_moves_19 C0 hK N  x1 x3 v1 (0 : Int32) σ _ _ _ h hP hD hS (lv_sub hl [1, 2, 3, 0] rfl)
  · have h := h.2 hc
    refine lv_iconst (v := (1 : Int32)) hx hb dX0_moves_14 (by decide) ?_
    refine lv_goto (tgt := 19) hx hb dX0_moves_15 (by decide) ?_
    exact t_X0_moves_19 C0 hK N  x1 x3 v1 (1 : Int32) σ _ _ _ h hP hD hS (lv_sub hl [1, 2, 3, 0] rfl)
set_option maxHeartbeats 4000000 in
set_option maxRecDepth 100000 in
theorem c_X0_moves (N : Nat) (l : Launch) (dC : Nat → ClassId) (dI : Nat → Nat → Nat) (ad : Nat → Nat) (cI cJ : ClassId) (sz : Nat) (σ : zSt) (x1 : Int64) (x3 : Int32) (Q : Int32 → zSt → Prop) (h : w_X0_moves N x1 x3 σ Q) : Met l yX0_moves vs_X0_moves rm_X0_moves (va_Pc [.ref (ad 10), .long x1, .int x3] (zPc (dC, dI) (x_ty cI cJ) (x_W ad cI cJ) sz σ)) (zQi (dC, dI) (x_ty cI cJ) (x_W ad cI cJ) (zAW x_n ad sz) Q) 0 0 (zAW x_n ad sz) := by
  refine Met.ofW (cc := cX0_moves) (maxL := 11) (ret := (some .boolean)) (by decide) rfl ?_
  intro p e s m args below meth c s₁ B hml hv
  obtain ⟨rfl, hsz, hP, hK, hD0⟩ := hv
  subst hsz
  have C0 : zCx p s m meth c _ RX0 cX0_moves 11 (some .boolean) vs_X0_moves := ⟨B.exec, B.bytes, hml, B.returns, findClass_of_methodNamed B.named, atoms_spec (ws := vs_X0_moves) B.pre, B.notSynchronized⟩
  have hD := x_D0 (n0 := s.heap.size) hD0
  have hl := lv_entry ([.ref (ad 10), .long x1, .int x3]) (n := 11) (Nat.le_of_ble_eq_true rfl)
  rw [lg_entry_eq]
  generalize (lg_sl ([.ref (ad 10), .long x1, .int x3]) ++ List.replicate (11 - (lg_sl ([.ref (ad 10), .long x1, .int x3])).length) Slot.unset).toArray = ls at hl ⊢
  exact t_X0_moves_0 C0 hK N x1 x3 σ _ _ ls h hP hD va_S.rf hl
theorem k_X0_moves (N : Nat) {R : Room} {H : Heap} {locs : List Loc} {cells slots : Nat} {Q2 : State → Prop} {cc : ByteArray} {nL pc index : Nat} {ls : Array Slot} {rest : List Value} {own : String} {c0 : Cond} {σ : zSt} {x1 : Int64} {x3 : Int32} {Q : Int32 → zSt → Prop} (S0 : CallFix p m c cc nL s args (c0 :: zT) own) (hml : Cond.methodLink own index yX0_moves ∈ zT) (hR : rm_X0_moves.frames + 1 ≤ R.frames ∧ 8 + (11 + 11) + rm_X0_moves.locals ≤ R.locals) (h : w_X0_moves N x1 x3 σ Q) (hK : va_K (dC, dI) vwCl (x_ty cI cJ) s) (hP : va_P (dC, dI) vwCl (x_W ad cI cJ σ) H) (hD : va_D (zAW x_n ad s.heap.size) (x_W ad cI cJ σ)) (hS : va_S (zAW x_n ad s.heap.size) s.heap H locs) (hsz : ls.size = nL) (hW : (rest.map fun v => v.category).sum ≤ 8) (hcs : cells ≤ R.cells ∧ slots ≤ R.slots) (hdg : decode cc pc = .ok (.invokevirtual index, 3)) (kk : ∀ (r : Int32) (τ : zSt) (H1 : Heap) (locs1 : List Loc), Q r τ → va_P (dC, dI) vwCl (x_W ad cI cJ τ) H1 → va_D (zAW x_n ad s.heap.size) (x_W ad cI cJ τ) → va_S (zAW x_n ad s.heap.size) s.heap H1 locs1 → W p l e R s m args below meth c H1 locs1 cells slots Q2 (F0 m (pc + 3) ls (.int r :: rest))) : W p l e R s m args below meth c H locs cells slots Q2 (F0 m pc ls (.int x3 :: .long x1 :: .ref (ad 10) :: rest)) :=
  zcv_i (T := TX0) (N' := 9) (k := 10) (ci := 0) (fs := x_f10 ad σ) [.long x1, .int x3] S0 (c_X0_moves N l dC dI ad cI cJ H.size σ x1 x3 Q h) (cw_X0_moves S0.2.2.2.2 hml rfl rfl hR) rfl rfl hK hP hD hS rfl hsz hW rfl hcs hdg kk
end q07
section q07
def w_X0_bothOf (N : Nat) (x1 : Int32) (σ : zSt) (Q : Int32 → zSt → Prop) : Prop :=
  (vp_in x1 45) ∧ ((vp_in x1 45) ∧ (Q (((1 : Int32) <<< ((σ.2.2.1 3 x1.toNatClampNeg) &&& 31)) ||| ((1 : Int32) <<< ((σ.2.2.1 4 x1.toNatClampNeg) &&& 31))) σ))
variable {p : Program} {l : Launch} {e : Env} {s : State} {m : MethodId} {args : Array Value} {below : List Frame} {meth : Method} {c : Code} {dC : Nat → ClassId} {dI : Nat → Nat → Nat} {ad : Nat → Nat} {cI cJ : ClassId}
set_option maxHeartbeats 4000000 in
set_option maxRecDepth 100000 in
theorem t_X0_bothOf_0 (C0 : zCx p s m meth c args RX0 cX0_bothOf 2 (some .int) vs_X0_bothOf) (hK : va_K (dC, dI) vwCl (x_ty cI cJ) s) (N : Nat) {Q : Int32 → zSt → Prop} : ∀ (x1 : Int32) (σ : zSt) (H : Heap) (locs : List Loc) (ls : Array Slot), w_X0_bothOf N x1 σ Q → va_P (dC, dI) vwCl (x_W ad cI cJ σ) H → va_D (zAW x_n ad s.heap.size) (x_W ad cI cJ σ) → va_S (zAW x_n ad s.heap.size) s.heap H locs → lv_has ls 2 [(0, .ref (ad 10)), (1, .int x1)] → W p l e rm_X0_bothOf s m args below meth c H locs 0 0 (MQ below (zQi (dC, dI) (x_ty cI cJ) (x_W ad cI cJ) (zAW x_n ad s.heap.size) Q) args s 0 0 (zAW x_n ad s.heap.size)) (F0 m 0 ls []) := by
  obtain ⟨hx, hb, hml, hr, hown, hts, hlocks⟩ := id C0
  intro x1 σ H locs ls h hP hD hS hl
  unfold w_X0_bothOf at h
  refine lv_iconst (v := (1 : Int32)) hx hb dX0_bothOf_0 (by decide) ?_
  refine lv_aload_n hx hb dX0_bothOf_1 rfl (lv_at hl 0 rfl) ?_
  refine xg_10_1 hx hb hts hown hK hP mw_221 dX0_bothOf_2 ?_
  refine xg_2_0 hx hb hts hown hK hP mw_46 dX0_bothOf_5 ?_
  refine lv_iload_n hx hb dX0_bothOf_8 rfl (lv_at hl 1 rfl) ?_
  refine xa_20 hx hb hK hP h.1 rfl dX0_bothOf_9 ?_
  have h := h.2
  refine lv_ishl hx hb dX0_bothOf_10 ?_
  refine lv_iconst (v := (1 : Int32)) hx hb dX0_bothOf_11 (by decide) ?_
  refine lv_aload_n hx hb dX0_bothOf_12 rfl (lv_at hl 0 rfl) ?_
  refine xg_10_1 hx hb hts hown hK hP mw_221 dX0_bothOf_13 ?_
  refine xg_2_1 hx hb hts hown hK hP mw_50 dX0_bothOf_16 ?_
  refine lv_iload_n hx hb dX0_bothOf_19 rfl (lv_at hl 1 rfl) ?_
  refine xa_21 hx hb hK hP h.1 rfl dX0_bothOf_20 ?_
  have h := h.2
  refine lv_ishl hx hb dX0_bothOf_21 ?_
  refine lv_ior hx hb dX0_bothOf_22 ?_
  exact zret_i hx hb hr hlocks hK hP hD hS h dX0_bothOf_23
set_option maxHeartbeats 4000000 in
set_option maxRecDepth 100000 in
theorem c_X0_bothOf (N : Nat) (l : Launch) (dC : Nat → ClassId) (dI : Nat → Nat → Nat) (ad : Nat → Nat) (cI cJ : ClassId) (sz : Nat) (σ : zSt) (x1 : Int32) (Q : Int32 → zSt → Prop) (h : w_X0_bothOf N x1 σ Q) : Met l yX0_bothOf vs_X0_bothOf rm_X0_bothOf (va_Pc [.ref (ad 10), .int x1] (zPc (dC, dI) (x_ty cI cJ) (x_W ad cI cJ) sz σ)) (zQi (dC, dI) (x_ty cI cJ) (x_W ad cI cJ) (zAW x_n ad sz) Q) 0 0 (zAW x_n ad sz) := by
  refine Met.ofW (cc := cX0_bothOf) (maxL := 2) (ret := (some .int)) (by decide) rfl ?_
  intro p e s m args below meth c s₁ B hml hv
  obtain ⟨rfl, hsz, hP, hK, hD0⟩ := hv
  subst hsz
  have C0 : zCx p s m meth c _ RX0 cX0_bothOf 2 (some .int) vs_X0_bothOf := ⟨B.exec, B.bytes, hml, B.returns, findClass_of_methodNamed B.named, atoms_spec (ws := vs_X0_bothOf) B.pre, B.notSynchronized⟩
  have hD := x_D0 (n0 := s.heap.size) hD0
  have hl := lv_entry ([.ref (ad 10), .int x1]) (n := 2) (Nat.le_of_ble_eq_true rfl)
  rw [lg_entry_eq]
  generalize (lg_sl ([.ref (ad 10), .int x1]) ++ List.replicate (2 - (lg_sl ([.ref (ad 10), .int x1])).length) Slot.unset).toArray = ls at hl ⊢
  exact t_X0_bothOf_0 C0 hK N x1 σ _ _ ls h hP hD va_S.rf hl
theorem k_X0_bothOf (N : Nat) {R : Room} {H : Heap} {locs : List Loc} {cells slots : Nat} {Q2 : State → Prop} {cc : ByteArray} {nL pc index : Nat} {ls : Array Slot} {rest : List Value} {own : String} {c0 : Cond} {σ : zSt} {x1 : Int32} {Q : Int32 → zSt → Prop} (S0 : CallFix p m c cc nL s args (c0 :: zT) own) (hml : Cond.methodLink own index yX0_bothOf ∈ zT) (hR : rm_X0_bothOf.frames + 1 ≤ R.frames ∧ 8 + (2 + 11) + rm_X0_bothOf.locals ≤ R.locals) (h : w_X0_bothOf N x1 σ Q) (hK : va_K (dC, dI) vwCl (x_ty cI cJ) s) (hP : va_P (dC, dI) vwCl (x_W ad cI cJ σ) H) (hD : va_D (zAW x_n ad s.heap.size) (x_W ad cI cJ σ)) (hS : va_S (zAW x_n ad s.heap.size) s.heap H locs) (hsz : ls.size = nL) (hW : (rest.map fun v => v.category).sum ≤ 8) (hcs : cells ≤ R.cells ∧ slots ≤ R.slots) (hdg : decode cc pc = .ok (.invokevirtual index, 3)) (kk : ∀ (r : Int32) (τ : zSt) (H1 : Heap) (locs1 : List Loc), Q r τ → va_P (dC, dI) vwCl (x_W ad cI cJ τ) H1 → va_D (zAW x_n ad s.heap.size) (x_W ad cI cJ τ) → va_S (zAW x_n ad s.heap.size) s.heap H1 locs1 → W p l e R s m args below meth c H1 locs1 cells slots Q2 (F0 m (pc + 3) ls (.int r :: rest))) : W p l e R s m args below meth c H locs cells slots Q2 (F0 m pc ls (.int x1 :: .ref (ad 10) :: rest)) :=
  zcv_i (T := TX0) (N' := 9) (k := 10) (ci := 0) (fs := x_f10 ad σ) [.int x1] S0 (c_X0_bothOf N l dC dI ad cI cJ H.size σ x1 Q h) (cw_X0_bothOf S0.2.2.2.2 hml rfl rfl hR) rfl rfl hK hP hD hS rfl hsz hW rfl hcs hdg kk
end q07
section q07
def b_X0_firstAdd_2 (N : Nat) (k_2 : Int64 → Int32 → zSt → Prop) (Q : Int32 → zSt → Prop) (x1 : Int64) (x3 : Int32) (σ : zSt) : Prop :=
  ((σ.1 2) ≤ x3 → Q (0 : Int32) σ) ∧ (¬ (σ.1 2) ≤ x3 → ((lg_cmp ((x1 >>> (x3.toInt64 &&& 63)) &&& (1 : Int64)) (0 : Int64)) = 0 → w_X0_moves N x1 x3 σ (fun r2 τ3 => (r2 = 0 → ∀ v4 : Int32, v4 = x3 + (1 : Int32) → k_2 x1 v4 τ3) ∧ (¬ r2 = 0 → w_X0_bothOf N x3 τ3 (fun r5 τ6 => w_X0_found N (1 : Int32) r5 (x1 ||| ((1 : Int64) <<< (x3.toInt64 &&& 63))) τ6 (fun r7 τ8 => (zb r7) ∧ Q r7 τ8))))) ∧ (¬ (lg_cmp ((x1 >>> (x3.toInt64 &&& 63)) &&& (1 : Int64)) (0 : Int64)) = 0 → ∀ v1 : Int32, v1 = x3 + (1 : Int32) → k_2 x1 v1 σ))
def w_X0_firstAdd_2 (N : Nat) (Q : Int32 → zSt → Prop) : Nat → Int64 → Int32 → zSt → Prop
  | 0 => fun _ _ _ => False
  | f + 1 => b_X0_firstAdd_2 N (w_X0_firstAdd_2 N  Q f) Q
def w_X0_firstAdd (N : Nat) (x1 : Int64) (σ : zSt) (Q : Int32 → zSt → Prop) : Prop :=
  w_X0_firstAdd_2 N Q N x1 (0 : Int32) σ
variable {p : Program} {l : Launch} {e : Env} {s : State} {m : MethodId} {args : Array Value} {below : List Frame} {meth : Method} {c : Code} {dC : Nat → ClassId} {dI : Nat → Nat → Nat} {ad : Nat → Nat} {cI cJ : ClassId}
set_option maxHeartbeats 4000000 in
set_option maxRecDepth 100000 in
theorem tb_X0_firstAdd_2 (C0 : zCx p s m meth c args RX0 cX0_firstAdd 4 (some .boolean) vs_X0_firstAdd) (hK : va_K (dC, dI) vwCl (x_ty cI cJ) s) (N : Nat) {Q : Int32 → zSt → Prop} {k_2 : Int64 → Int32 → zSt → Prop} (hk_2 : ∀ (x1 : Int64) (x3 : Int32) (σ : zSt) (H : Heap) (locs : List Loc) (ls : Array Slot), k_2 x1 x3 σ → va_P (dC, dI) vwCl (x_W ad cI cJ σ) H → va_D (zAW x_n ad s.heap.size) (x_W ad cI cJ σ) → va_S (zAW x_n ad s.heap.size) s.heap H locs → lv_has ls 4 [(0, .ref (ad 10)), (1, .long x1), (3, .int x3)] → W p l e rm_X0_firstAdd s m args below meth c H locs 0 0 (MQ below (zQi (dC, dI) (x_ty cI cJ) (x_W ad cI cJ) (zAW x_n ad s.heap.size) Q) args s 0 0 (zAW x_n ad s.heap.size)) (F0 m 2 ls [])) : ∀ (x1 : Int64) (x3 : Int32) (σ : zSt) (H : Heap) (locs : List Loc) (ls : Array Slot), b_X0_firstAdd_2 N k_2 Q x1 x3 σ → va_P (dC, dI) vwCl (x_W ad cI cJ σ) H → va_D (zAW x_n ad s.heap.size) (x_W ad cI cJ σ) → va_S (zAW x_n ad s.heap.size) s.heap H locs → lv_has ls 4 [(0, .ref (ad 10)), (1, .long x1), (3, .int x3)] → W p l e rm_X0_firstAdd s m args below meth c H locs 0 0 (MQ below (zQi (dC, dI) (x_ty cI cJ) (x_W ad cI cJ) (zAW x_n ad s.heap.size) Q) args s 0 0 (zAW x_n ad s.heap.size)) (F0 m 2 ls []) := by
  obtain ⟨hx, hb, hml, hr, hown, hts, hlocks⟩ := id C0
  intro x1 x3 σ H locs ls h hP hD hS hl
  unfold b_X0_firstAdd_2 at h
  refine lv_iload_n hx hb dX0_firstAdd_2 rfl (lv_at hl 2 rfl) ?_
  refine lv_aload_n hx hb dX0_firstAdd_3 rfl (lv_at hl 0 rfl) ?_
  refine xg_10_0 hx hb hts hown hK hP mw_220 dX0_firstAdd_4 ?_
  refine xg_3_5 hx hb hts hown hK hP mw_80 dX0_firstAdd_7 ?_
  refine lv_icmp_ge (tgt := 54) hx hb dX0_firstAdd_10 (by decide) (fun hc => ?_) (fun hc => ?_)
  · have h := h.1 hc
    refine lv_iconst (v := (0 : Int32)) hx hb dX0_firstAdd_54 (by decide) ?_
    exact zret_z hx hb hr hlocks hK hP hD hS zb_0 h dX0_firstAdd_55
  · have h := h.2 hc
    refine lv_lload_n hx hb dX0_firstAdd_13 rfl (lv_at hl 1 rfl) ?_
    refine lv_iload_n hx hb dX0_firstAdd_14 rfl (lv_at hl 2 rfl) ?_
    refine lv_lshr hx hb dX0_firstAdd_15 rfl ?_
    refine lv_lconst (v := (1 : Int64)) hx hb dX0_firstAdd_16 (by decide) ?_
    refine lv_land hx hb dX0_firstAdd_17 ?_
    refine lv_lconst (v := (0 : Int64)) hx hb dX0_firstAdd_18 (by decide) ?_
    refine W.lcmp hx hb dX0_firstAdd_19 ?_
    refine lv_if_ne (tgt := 48) hx hb dX0_firstAdd_20 (by decide) (fun hc => ?_) (fun hc => ?_)
    · have h := h.2 hc
      obtain ⟨v1, ev1⟩ : ∃ z : Int32, z = x3 + (1 : Int32) := ⟨_, rfl⟩
      have h := h v1 ev1
      refine lv_iinc (v := v1) (lv' := [(3, .int v1), (0, .ref (ad 10)), (1, .long x1)]) hx hb dX0_firstAdd_48 hl (k := 2) rfl (by rw [ev1]; rfl) (by decide) rfl (fun ls hl => ?_)
      refine lv_goto (tgt := 2) hx hb dX0_firstAdd_51 (by decide) ?_
      exact hk_2 x1 v1 σ _ _ _ h hP hD hS (lv_sub hl [1, 2, 0] rfl)
    · have h := h.1 hc
      refine lv_aload_n hx hb dX0_firstAdd_23 rfl (lv_at hl 0 rfl) ?_
      refine lv_lload_n hx hb dX0_firstAdd_24 rfl (lv_at hl 1 rfl) ?_
      refine lv_iload_n hx hb dX0_firstAdd_25 rfl (lv_at hl 2 rfl) ?_
      refine k_X0_moves N ⟨hx, hb, hml, hown, hts⟩ mw_613 ⟨Nat.le_of_ble_eq_true rfl, Nat.le_of_ble_eq_true rfl⟩ h hK hP hD hS hl.1 (rest := []) (Nat.le_of_ble_eq_true rfl) ⟨Nat.le_of_ble_eq_true rfl, Nat.le_of_ble_eq_true rfl⟩ dX0_firstAdd_26 (fun r2 τ3 H locs h hP hD hS => ?_)
      refine lv_if_eq (tgt := 48) hx hb dX0_firstAdd_29 (by decide) (fun hc => ?_) (fun hc => ?_)
      · have h := h.1 hc
        obtain ⟨v4, ev4⟩ : ∃ z : Int32, z = x3 + (1 : Int32) := ⟨_, rfl⟩
        have h := h v4 ev4
        refine lv_iinc (v := v4) (lv' := [(3, .int v4), (0, .ref (ad 10)), (1, .long x1)]) hx hb dX0_firstAdd_48 hl (k := 2) rfl (by rw [ev4]; rfl) (by decide) rfl (fun ls hl => ?_)
        refine lv_goto (tgt := 2) hx hb dX0_firstAdd_51 (by decide) ?_
        exact hk_2 x1 v4 τ3 _ _ _ h hP hD hS (lv_sub hl [1, 2, 0] rfl)
      · have h := h.2 hc
        refine lv_aload_n hx hb dX0_firstAdd_32 rfl (lv_at hl 0 rfl) ?_
        refine lv_iconst (v := (1 : Int32)) hx hb dX0_firstAdd_33 (by decide) ?_
        refine lv_aload_n hx hb dX0_firstAdd_34 rfl (lv_at hl 0 rfl) ?_
        refine lv_iload_n hx hb dX0_firstAdd_35 rfl (lv_at hl 2 rfl) ?_
        refine k_X0_bothOf N ⟨hx, hb, hml, hown, hts⟩ mw_618 ⟨Nat.le_of_ble_eq_true rfl, Nat.le_of_ble_eq_true rfl⟩ h hK hP hD hS hl.1 (rest := [.int (1 : Int32), .ref (ad 10)]) (Nat.le_of_ble_eq_true rfl) ⟨Nat.le_of_ble_eq_true rfl, Nat.le_of_ble_eq_true rfl⟩ dX0_firstAdd_36 (fun r5 τ6 H locs h hP hD hS => ?_)
        refine lv_lload_n hx hb dX0_firstAdd_39 rfl (lv_at hl 1 rfl) ?_
        refine lv_lconst (v := (1 : Int64)) hx hb dX0_firstAdd_40 (by decide) ?_
        refine lv_iload_n hx hb dX0_firstAdd_41 rfl (lv_at hl 2 rfl) ?_
        refine lv_lshl hx hb dX0_firstAdd_42 rfl ?_
        refine lv_lor hx hb dX0_firstAdd_43 ?_
        refine k_X0_found N ⟨hx, hb, hml, hown, hts⟩ mw_606 ⟨Nat.le_of_ble_eq_true rfl, Nat.le_of_ble_eq_true rfl⟩ h hK hP hD hS hl.1 (rest := []) (Nat.le_of_ble_eq_true rfl) ⟨Nat.le_of_ble_eq_true rfl, Nat.le_of_ble_eq_true rfl⟩ dX0_firstAdd_44 (fun r7 τ8 H locs h hP hD hS => ?_)
        exact zret_z hx hb hr hlocks hK hP hD hS h.1 h.2 dX0_firstAdd_47
set_option maxHeartbeats 4000000 in
set_option maxRecDepth 100000 in
theorem t_X0_firstAdd_2 (C0 : zCx p s m meth c args RX0 cX0_firstAdd 4 (some .boolean) vs_X0_firstAdd) (hK : va_K (dC, dI) vwCl (x_ty cI cJ) s) (N : Nat) {Q : Int32 → zSt → Prop} : ∀ (f : Nat) (x1 : Int64) (x3 : Int32) (σ : zSt) (H : Heap) (locs : List Loc) (ls : Array Slot), w_X0_firstAdd_2 N  Q f x1 x3 σ → va_P (dC, dI) vwCl (x_W ad cI cJ σ) H → va_D (zAW x_n ad s.heap.size) (x_W ad cI cJ σ) → va_S (zAW x_n ad s.heap.size) s.heap H locs → lv_has ls 4 [(0, .ref (ad 10)), (1, .long x1), (3, .int x3)] → W p l e rm_X0_firstAdd s m args below meth c H locs 0 0 (MQ below (zQi (dC, dI) (x_ty cI cJ) (x_W ad cI cJ) (zAW x_n ad s.heap.size) Q) args s 0 0 (zAW x_n ad s.heap.size)) (F0 m 2 ls []) := by
  intro f
  induction f with
  | zero => intro x1 x3 σ H locs ls h; exact h.elim
  | succ f ih =>
    intro x1 x3 σ H locs ls h hP hD hS hl
    exact tb_X0_firstAdd_2 C0 hK N  (k_2 := w_X0_firstAdd_2 N  Q f) ih x1 x3 σ H locs ls h hP hD hS hl
set_option maxHeartbeats 4000000 in
set_option maxRecDepth 100000 in
theorem t_X0_firstAdd_0 (C0 : zCx p s m meth c args RX0 cX0_firstAdd 4 (some .boolean) vs_X0_firstAdd) (hK : va_K (dC, dI) vwCl (x_ty cI cJ) s) (N : Nat) {Q : Int32 → zSt → Prop} : ∀ (x1 : Int64) (σ : zSt) (H : Heap) (locs : List Loc) (ls : Array Slot), w_X0_firstAdd N x1 σ Q → va_P (dC, dI) vwCl (x_W ad cI cJ σ) H → va_D (zAW x_n ad s.heap.size) (x_W ad cI cJ σ) → va_S (zAW x_n ad s.heap.size) s.heap H locs → lv_has ls 4 [(0, .ref (ad 10)), (1, .long x1)] → W p l e rm_X0_firstAdd s m args below meth c H locs 0 0 (MQ below (zQi (dC, dI) (x_ty cI cJ) (x_W ad cI cJ) (zAW x_n ad s.heap.size) Q) args s 0 0 (zAW x_n ad s.heap.size)) (F0 m 0 ls []) := by
  obtain ⟨hx, hb, hml, hr, hown, hts, hlocks⟩ := id C0
  intro x1 σ H locs ls h hP hD hS hl
  unfold w_X0_firstAdd at h
  refine lv_iconst (v := (0 : Int32)) hx hb dX0_firstAdd_0 (by decide) ?_
  refine lv_istore_n (lv' := [(3, .int (0 : Int32)), (0, .ref (ad 10)), (1, .long x1)]) hx hb dX0_firstAdd_1 rfl hl (by decide) rfl (fun ls hl => ?_)
  exact t_X0_firstAdd_2 C0 hK N  N x1 (0 : Int32) σ _ _ _ h hP hD hS (lv_sub hl [1, 2, 0] rfl)
set_option maxHeartbeats 4000000 in
set_option maxRecDepth 100000 in
theorem c_X0_firstAdd (N : Nat) (l : Launch) (dC : Nat → ClassId) (dI : Nat → Nat → Nat) (ad : Nat → Nat) (cI cJ : ClassId) (sz : Nat) (σ : zSt) (x1 : Int64) (Q : Int32 → zSt → Prop) (h : w_X0_firstAdd N x1 σ Q) : Met l yX0_firstAdd vs_X0_firstAdd rm_X0_firstAdd (va_Pc [.ref (ad 10), .long x1] (zPc (dC, dI) (x_ty cI cJ) (x_W ad cI cJ) sz σ)) (zQi (dC, dI) (x_ty cI cJ) (x_W ad cI cJ) (zAW x_n ad sz) Q) 0 0 (zAW x_n ad sz) := by
  refine Met.ofW (cc := cX0_firstAdd) (maxL := 4) (ret := (some .boolean)) (by decide) rfl ?_
  intro p e s m args below meth c s₁ B hml hv
  obtain ⟨rfl, hsz, hP, hK, hD0⟩ := hv
  subst hsz
  have C0 : zCx p s m meth c _ RX0 cX0_firstAdd 4 (some .boolean) vs_X0_firstAdd := ⟨B.exec, B.bytes, hml, B.returns, findClass_of_methodNamed B.named, atoms_spec (ws := vs_X0_firstAdd) B.pre, B.notSynchronized⟩
  have hD := x_D0 (n0 := s.heap.size) hD0
  have hl := lv_entry ([.ref (ad 10), .long x1]) (n := 4) (Nat.le_of_ble_eq_true rfl)
  rw [lg_entry_eq]
  generalize (lg_sl ([.ref (ad 10), .long x1]) ++ List.replicate (4 - (lg_sl ([.ref (ad 10), .long x1])).length) Slot.unset).toArray = ls at hl ⊢
  exact t_X0_firstAdd_0 C0 hK N x1 σ _ _ ls h hP hD va_S.rf hl
theorem k_X0_firstAdd (N : Nat) {R : Room} {H : Heap} {locs : List Loc} {cells slots : Nat} {Q2 : State → Prop} {cc : ByteArray} {nL pc index : Nat} {ls : Array Slot} {rest : List Value} {own : String} {c0 : Cond} {σ : zSt} {x1 : Int64} {Q : Int32 → zSt → Prop} (S0 : CallFix p m c cc nL s args (c0 :: zT) own) (hml : Cond.methodLink own index yX0_firstAdd ∈ zT) (hR : rm_X0_firstAdd.frames + 1 ≤ R.frames ∧ 8 + (4 + 11) + rm_X0_firstAdd.locals ≤ R.locals) (h : w_X0_firstAdd N x1 σ Q) (hK : va_K (dC, dI) vwCl (x_ty cI cJ) s) (hP : va_P (dC, dI) vwCl (x_W ad cI cJ σ) H) (hD : va_D (zAW x_n ad s.heap.size) (x_W ad cI cJ σ)) (hS : va_S (zAW x_n ad s.heap.size) s.heap H locs) (hsz : ls.size = nL) (hW : (rest.map fun v => v.category).sum ≤ 8) (hcs : cells ≤ R.cells ∧ slots ≤ R.slots) (hdg : decode cc pc = .ok (.invokevirtual index, 3)) (kk : ∀ (r : Int32) (τ : zSt) (H1 : Heap) (locs1 : List Loc), Q r τ → va_P (dC, dI) vwCl (x_W ad cI cJ τ) H1 → va_D (zAW x_n ad s.heap.size) (x_W ad cI cJ τ) → va_S (zAW x_n ad s.heap.size) s.heap H1 locs1 → W p l e R s m args below meth c H1 locs1 cells slots Q2 (F0 m (pc + 3) ls (.int r :: rest))) : W p l e R s m args below meth c H locs cells slots Q2 (F0 m pc ls (.long x1 :: .ref (ad 10) :: rest)) :=
  zcv_i (T := TX0) (N' := 9) (k := 10) (ci := 0) (fs := x_f10 ad σ) [.long x1] S0 (c_X0_firstAdd N l dC dI ad cI cJ H.size σ x1 Q h) (cw_X0_firstAdd S0.2.2.2.2 hml rfl rfl hR) rfl rfl hK hP hD hS rfl hsz hW rfl hcs hdg kk
end q07
