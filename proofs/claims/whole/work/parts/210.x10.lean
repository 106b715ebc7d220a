section q10
end q10
section q10
def b_X9_from_24 (N : Nat) (k_24 : Int32 → zSt → Prop) (Q : zSt → Prop) (x3 : Int32) (σ : zSt) : Prop :=
  ((200 : Int32) < x3 → Q σ) ∧ (¬ (200 : Int32) < x3 → ((σ.1 32) = 0 → (vp_in (σ.1 30) 201) ∧ (w_X9_firstPair N (σ.2.2.2 10 (σ.1 30).toNatClampNeg) σ (fun r1 τ2 => (r1 = (-1 : Int32) → ∀ τ13 : zSt, τ13 = zI τ2 32 (1 : Int32) → ∀ v14 : Int32, v14 = x3 + (1 : Int32) → k_24 v14 τ13) ∧ (¬ r1 = (-1 : Int32) → ((200 : Int32) ≤ (τ2.1 30) → ∀ v3 : Int32, v3 = x3 + (1 : Int32) → k_24 v3 τ2) ∧ (¬ (200 : Int32) ≤ (τ2.1 30) → (vp_in (τ2.1 30) 201) ∧ ((vp_in ((τ2.1 30) + (1 : Int32)) 201) ∧ (∀ τ4 : zSt, τ4 = zB τ2 10 (vp_updL (τ2.2.2.2 10) (((τ2.1 30) + (1 : Int32)).toNatClampNeg) ((τ2.2.2.2 10 (τ2.1 30).toNatClampNeg) ^^^ ((1 : Int64) <<< (r1.toInt64 &&& 63)))) → ∀ τ5 : zSt, τ5 = zI τ4 30 ((τ4.1 30) + (1 : Int32)) → w_X9_stepsSinceThere N τ5 (fun r6 τ7 => ∀ τ8 : zSt, τ8 = zI τ7 31 r6 → ((τ8.1 31) ≤ 0 → ∀ τ9 : zSt, τ9 = zI τ8 32 (0 : Int32) → ∀ v10 : Int32, v10 = x3 + (1 : Int32) → k_24 v10 τ9) ∧ (¬ (τ8.1 31) ≤ 0 → ∀ τ11 : zSt, τ11 = zI τ8 32 (1 : Int32) → ∀ v12 : Int32, v12 = x3 + (1 : Int32) → k_24 v12 τ11))))))))) ∧ (¬ (σ.1 32) = 0 → Q σ))
def w_X9_from_24 (N : Nat) (Q : zSt → Prop) : Nat → Int32 → zSt → Prop
  | 0 => fun _ _ => False
  | f + 1 => b_X9_from_24 N (w_X9_from_24 N  Q f) Q
def w_X9_from (N : Nat) (x1 : Int64) (σ : zSt) (Q : zSt → Prop) : Prop :=
  ∀ τ1 : zSt, τ1 = zB σ 10 (vp_updL (σ.2.2.2 10) 0 x1) → ∀ τ2 : zSt, τ2 = zI τ1 30 (0 : Int32) → ∀ τ3 : zSt, τ3 = zI τ2 31 (0 : Int32) → ∀ τ4 : zSt, τ4 = zI τ3 32 (0 : Int32) → w_X9_from_24 N Q N (0 : Int32) τ4
variable {p : Program} {l : Launch} {e : Env} {s : State} {m : MethodId} {args : Array Value} {below : List Frame} {meth : Method} {c : Code} {dC : Nat → ClassId} {dI : Nat → Nat → Nat} {ad : Nat → Nat} {cI cJ : ClassId}
set_option maxHeartbeats 4000000 in
set_option maxRecDepth 100000 in
theorem tb_X9_from_24 (C0 : zCx p s m meth c args RX9 cX9_from 5 none vs_X9_from) (hK : va_K (dC, dI) vwCl (x_ty cI cJ) s) (N : Nat) {Q : zSt → Prop} {k_24 : Int32 → zSt → Prop} (hk_24 : ∀ (x3 : Int32) (σ : zSt) (H : Heap) (locs : List Loc) (ls : Array Slot), k_24 x3 σ → va_P (dC, dI) vwCl (x_W ad cI cJ σ) H → va_D (zAW x_n ad s.heap.size) (x_W ad cI cJ σ) → va_S (zAW x_n ad s.heap.size) s.heap H locs → lv_has ls 5 [(0, .ref (ad 11)), (3, .int x3)] → W p l e rm_X9_from s m args below meth c H locs 0 0 (MQ below (zQv (dC, dI) (x_ty cI cJ) (x_W ad cI cJ) (zAW x_n ad s.heap.size) Q) args s 0 0 (zAW x_n ad s.heap.size)) (F0 m 24 ls [])) : ∀ (x3 : Int32) (σ : zSt) (H : Heap) (locs : List Loc) (ls : Array Slot), b_X9_from_24 N k_24 Q x3 σ → va_P (dC, dI) vwCl (x_W ad cI cJ σ) H → va_D (zAW x_n ad s.heap.size) (x_W ad cI cJ σ) → va_S (zAW x_n ad s.heap.size) s.heap H locs → lv_has ls 5 [(0, .ref (ad 11)), (3, .int x3)] → W p l e rm_X9_from s m args below meth c H locs 0 0 (MQ below (zQv (dC, dI) (x_ty cI cJ) (x_W ad cI cJ) (zAW x_n ad s.heap.size) Q) args s 0 0 (zAW x_n ad s.heap.size)) (F0 m 24 ls []) := by
  obtain ⟨hx, hb, hml, hr, hown, hts, hlocks⟩ := id C0
  intro x3 σ H locs ls h hP hD hS hl
  unfold b_X9_from_24 at h
  refine lv_iload_n hx hb dX9_from_24 rfl (lv_at hl 1 rfl) ?_
  refine lv_sipush (v := (200 : Int32)) hx hb dX9_from_25 (by decide) ?_
  refine lv_icmp_gt (tgt := 142) hx hb dX9_from_28 (by decide) (fun hc => ?_) (fun hc => ?_)
  · have h := h.1 hc
    exact zret_v hx hb hr hlocks hK hP hD hS h dX9_from_142
  · have h := h.2 hc
    refine lv_aload_n hx hb dX9_from_31 rfl (lv_at hl 0 rfl) ?_
    refine xg_11_6 hx hb hts hown hK hP mw_246 dX9_from_32 ?_
    refine lv_if_ne (tgt := 142) hx hb dX9_from_35 (by decide) (fun hc => ?_) (fun hc => ?_)
    · have h := h.2 hc
      exact zret_v hx hb hr hlocks hK hP hD hS h dX9_from_142
    · have h := h.1 hc
      refine lv_aload_n hx hb dX9_from_38 rfl (lv_at hl 0 rfl) ?_
      refine lv_aload_n hx hb dX9_from_39 rfl (lv_at hl 0 rfl) ?_
      refine xg_11_2 hx hb hts hown hK hP mw_240 dX9_from_40 ?_
      refine lv_aload_n hx hb dX9_from_43 rfl (lv_at hl 0 rfl) ?_
      refine xg_11_4 hx hb hts hown hK hP mw_242 dX9_from_44 ?_
      refine xa_55 hx hb hK hP h.1 rfl dX9_from_47 ?_
      have h := h.2
      refine k_X9_firstPair N ⟨hx, hb, hml, hown, hts⟩ mw_679 ⟨Nat.le_of_ble_eq_true rfl, Nat.le_of_ble_eq_true rfl⟩ h hK hP hD hS hl.1 (rest := []) (Nat.le_of_ble_eq_true rfl) ⟨Nat.le_of_ble_eq_true rfl, Nat.le_of_ble_eq_true rfl⟩ dX9_from_48 (fun r1 τ2 H locs h hP hD hS => ?_)
      refine lv_istore (lv' := [(4, .int r1), (0, .ref (ad 11)), (3, .int x3)]) hx hb dX9_from_51 hl (by decide) rfl (fun ls hl => ?_)
      refine lv_iload hx hb dX9_from_53 (lv_at hl 0 rfl) ?_
      refine lv_iconst (v := (-1 : Int32)) hx hb dX9_from_55 (by decide) ?_
      refine lv_icmp_ne (tgt := 67) hx hb dX9_from_56 (by decide) (fun hc => ?_) (fun hc => ?_)
      · have h := h.2 hc
        refine lv_aload_n hx hb dX9_from_67 rfl (lv_at hl 1 rfl) ?_
        refine xg_11_4 hx hb hts hown hK hP mw_242 dX9_from_68 ?_
        refine lv_sipush (v := (200 : Int32)) hx hb dX9_from_71 (by decide) ?_
        refine lv_icmp_ge (tgt := 136) hx hb dX9_from_74 (by decide) (fun hc => ?_) (fun hc => ?_)
        · have h := h.1 hc
          obtain ⟨v3, ev3⟩ : ∃ z : Int32, z = x3 + (1 : Int32) := ⟨_, rfl⟩
          have h := h v3 ev3
          refine lv_iinc (v := v3) (lv' := [(3, .int v3), (4, .int r1), (0, .ref (ad 11))]) hx hb dX9_from_136 hl (k := 2) rfl (by rw [ev3]; rfl) (by decide) rfl (fun ls hl => ?_)
          refine lv_goto (tgt := 24) hx hb dX9_from_139 (by decide) ?_
          exact hk_24 v3 τ2 _ _ _ h hP hD hS (lv_sub hl [2, 0] rfl)
        · have h := h.2 hc
          refine lv_aload_n hx hb dX9_from_77 rfl (lv_at hl 1 rfl) ?_
          refine xg_11_2 hx hb hts hown hK hP mw_240 dX9_from_78 ?_
          refine lv_aload_n hx hb dX9_from_81 rfl (lv_at hl 1 rfl) ?_
          refine xg_11_4 hx hb hts hown hK hP mw_242 dX9_from_82 ?_
          refine lv_iconst (v := (1 : Int32)) hx hb dX9_from_85 (by decide) ?_
          refine lv_iadd hx hb dX9_from_86 ?_
          refine lv_aload_n hx hb dX9_from_87 rfl (lv_at hl 1 rfl) ?_
          refine xg_11_2 hx hb hts hown hK hP mw_240 dX9_from_88 ?_
          refine lv_aload_n hx hb dX9_from_91 rfl (lv_at hl 1 rfl) ?_
          refine xg_11_4 hx hb hts hown hK hP mw_242 dX9_from_92 ?_
          refine xa_55 hx hb hK hP h.1 rfl dX9_from_95 ?_
          have h := h.2
          refine lv_lconst (v := (1 : Int64)) hx hb dX9_from_96 (by decide) ?_
          refine lv_iload hx hb dX9_from_97 (lv_at hl 0 rfl) ?_
          refine lv_lshl hx hb dX9_from_99 rfl ?_
          refine lv_lxor hx hb dX9_from_100 ?_
          refine xs_55 hx hb hK hP hD hS h.1 rfl dX9_from_101 (fun τ4 H locs eτ4 hP hD hS => ?_)
          have h := h.2
          have h := h τ4 eτ4
          refine lv_aload_n hx hb dX9_from_102 rfl (lv_at hl 1 rfl) ?_
          refine lv_dup hx hb dX9_from_103 rfl ?_
          refine xg_11_4 hx hb hts hown hK hP mw_242 dX9_from_104 ?_
          refine lv_iconst (v := (1 : Int32)) hx hb dX9_from_107 (by decide) ?_
          refine lv_iadd hx hb dX9_from_108 ?_
          refine xp_11_4 hx hb hts hown hK hP hD hS mw_242 dX9_from_109 (fun τ5 H locs eτ5 hP hD hS => ?_)
          have h := h τ5 eτ5
          refine lv_aload_n hx hb dX9_from_112 rfl (lv_at hl 1 rfl) ?_
          refine lv_aload_n hx hb dX9_from_113 rfl (lv_at hl 1 rfl) ?_
          refine k_X9_stepsSinceThere N ⟨hx, hb, hml, hown, hts⟩ mw_680 ⟨Nat.le_of_ble_eq_true rfl, Nat.le_of_ble_eq_true rfl⟩ h hK hP hD hS hl.1 (rest := [.ref (ad 11)]) (Nat.le_of_ble_eq_true rfl) ⟨Nat.le_of_ble_eq_true rfl, Nat.le_of_ble_eq_true rfl⟩ dX9_from_114 (fun r6 τ7 H locs h hP hD hS => ?_)
          refine xp_11_5 hx hb hts hown hK hP hD hS mw_244 dX9_from_117 (fun τ8 H locs eτ8 hP hD hS => ?_)
          have h := h τ8 eτ8
          refine lv_aload_n hx hb dX9_from_120 rfl (lv_at hl 1 rfl) ?_
          refine lv_aload_n hx hb dX9_from_121 rfl (lv_at hl 1 rfl) ?_
          refine xg_11_5 hx hb hts hown hK hP mw_244 dX9_from_122 ?_
          refine lv_if_le (tgt := 132) hx hb dX9_from_125 (by decide) (fun hc => ?_) (fun hc => ?_)
          · have h := h.1 hc
            refine lv_iconst (v := (0 : Int32)) hx hb dX9_from_132 (by decide) ?_
            refine xp_11_6 hx hb hts hown hK hP hD hS zb_0 mw_246 dX9_from_133 (fun τ9 H locs eτ9 hP hD hS => ?_)
            have h := h τ9 eτ9
            obtain ⟨v10, ev10⟩ : ∃ z : Int32, z = x3 + (1 : Int32) := ⟨_, rfl⟩
            have h := h v10 ev10
            refine lv_iinc (v := v10) (lv' := [(3, .int v10), (4, .int r1), (0, .ref (ad 11))]) hx hb dX9_from_136 hl (k := 2) rfl (by rw [ev10]; rfl) (by decide) rfl (fun ls hl => ?_)
            refine lv_goto (tgt := 24) hx hb dX9_from_139 (by decide) ?_
            exact hk_24 v10 τ9 _ _ _ h hP hD hS (lv_sub hl [2, 0] rfl)
          · have h := h.2 hc
            refine lv_iconst (v := (1 : Int32)) hx hb dX9_from_128 (by decide) ?_
            refine lv_goto (tgt := 133) hx hb dX9_from_129 (by decide) ?_
            refine xp_11_6 hx hb hts hown hK hP hD hS zb_1 mw_246 dX9_from_133 (fun τ11 H locs eτ11 hP hD hS => ?_)
            have h := h τ11 eτ11
            obtain ⟨v12, ev12⟩ : ∃ z : Int32, z = x3 + (1 : Int32) := ⟨_, rfl⟩
            have h := h v12 ev12
            refine lv_iinc (v := v12) (lv' := [(3, .int v12), (4, .int r1), (0, .ref (ad 11))]) hx hb dX9_from_136 hl (k := 2) rfl (by rw [ev12]; rfl) (by decide) rfl (fun ls hl => ?_)
            refine lv_goto (tgt := 24) hx hb dX9_from_139 (by decide) ?_
            exact hk_24 v12 τ11 _ _ _ h hP hD hS (lv_sub hl [2, 0] rfl)
      · have h := h.1 hc
        refine lv_aload_n hx hb dX9_from_59 rfl (lv_at hl 1 rfl) ?_
        refine lv_iconst (v := (1 : Int32)) hx hb dX9_from_60 (by decide) ?_
        refine xp_11_6 hx hb hts hown hK hP hD hS zb_1 mw_246 dX9_from_61 (fun τ13 H locs eτ13 hP hD hS => ?_)
        have h := h τ13 eτ13
        refine lv_goto (tgt := 136) hx hb dX9_from_64 (by decide) ?_
        obtain ⟨v14, ev14⟩ : ∃ z : Int32, z = x3 + (1 : Int32) := ⟨_, rfl⟩
        have h := h v14 ev14
        refine lv_iinc (v := v14) (lv' := [(3, .int v14), (4, .int r1), (0, .ref (ad 11))]) hx hb dX9_from_136 hl (k := 2) rfl (by rw [ev14]; rfl) (by decide) rfl (fun ls hl => ?_)
        refine lv_goto (tgt := 24) hx hb dX9_from_139 (by decide) ?_
        exact hk_24 v14 τ13 _ _ _ h hP hD hS (lv_sub hl [2, 0] rfl)
set_option maxHeartbeats 4000000 in
set_option maxRecDepth 100000 in
theorem t_X9_from_24 (C0 : zCx p s m meth c args RX9 cX9_from 5 none vs_X9_from) (hK : va_K (dC, dI) vwCl (x_ty cI cJ) s) (N : Nat) {Q : zSt → Prop} : ∀ (f : Nat) (x3 : Int32) (σ : zSt) (H : Heap) (locs : List Loc) (ls : Array Slot), w_X9_from_24 N  Q f x3 σ → va_P (dC, dI) vwCl (x_W ad cI cJ σ) H → va_D (zAW x_n ad s.heap.size) (x_W ad cI cJ σ) → va_S (zAW x_n ad s.heap.size) s.heap H locs → lv_has ls 5 [(0, .ref (ad 11)), (3, .int x3)] → W p l e rm_X9_from s m args below meth c H locs 0 0 (MQ below (zQv (dC, dI) (x_ty cI cJ) (x_W ad cI cJ) (zAW x_n ad s.heap.size) Q) args s 0 0 (zAW x_n ad s.heap.size)) (F0 m 24 ls []) := by
  intro f
  induction f with
  | zero => intro x3 σ H locs ls h; exact h.elim
  | succ f ih =>
    intro x3 σ H locs ls h hP hD hS hl
    exact tb_X9_from_24 C0 hK N  (k_24 := w_X9_from_24 N  Q f) ih x3 σ H locs ls h hP hD hS hl
set_option maxHeartbeats 4000000 in
set_option maxRecDepth 100000 in
theorem t_X9_from_0 (C0 : zCx p s m meth c args RX9 cX9_from 5 none vs_X9_from) (hK : va_K (dC, dI) vwCl (x_ty cI cJ) s) (N : Nat) {Q : zSt → Prop} : ∀ (x1 : Int64) (σ : zSt) (H : Heap) (locs : List Loc) (ls : Array Slot), w_X9_from N x1 σ Q → va_P (dC, dI) vwCl (x_W ad cI cJ σ) H → va_D (zAW x_n ad s.heap.size) (x_W ad cI cJ σ) → va_S (zAW x_n ad s.heap.size) s.heap H locs → lv_has ls 5 [(0, .ref (ad 11)), (1, .long x1)] → W p l e rm_X9_from s m args below meth c H locs 0 0 (MQ below (zQv (dC, dI) (x_ty cI cJ) (x_W ad cI cJ) (zAW x_n ad s.heap.size) Q) args s 0 0 (zAW x_n ad s.heap.size)) (F0 m 0 ls []) := by
  obtain ⟨hx, hb, hml, hr, hown, hts, hlocks⟩ := id C0
  intro x1 σ H locs ls h hP hD hS hl
  unfold w_X9_from at h
  refine lv_aload_n hx hb dX9_from_0 rfl (lv_at hl 0 rfl) ?_
  refine xg_11_2 hx hb hts hown hK hP mw_240 dX9_from_1 ?_
  refine lv_iconst (v := (0 : Int32)) hx hb dX9_from_4 (by decide) ?_
  refine lv_lload_n hx hb dX9_from_5 rfl (lv_at hl 1 rfl) ?_
  refine xs_55 (j := 0) hx hb hK hP hD hS (zin (by decide)) (by decide) dX9_from_6 (fun τ1 H locs eτ1 hP hD hS => ?_)
  have h := h τ1 eτ1
  refine lv_aload_n hx hb dX9_from_7 rfl (lv_at hl 0 rfl) ?_
  refine lv_iconst (v := (0 : Int32)) hx hb dX9_from_8 (by decide) ?_
  refine xp_11_4 hx hb hts hown hK hP hD hS mw_242 dX9_from_9 (fun τ2 H locs eτ2 hP hD hS => ?_)
  have h := h τ2 eτ2
  refine lv_aload_n hx hb dX9_from_12 rfl (lv_at hl 0 rfl) ?_
  refine lv_iconst (v := (0 : Int32)) hx hb dX9_from_13 (by decide) ?_
  refine xp_11_5 hx hb hts hown hK hP hD hS mw_244 dX9_from_14 (fun τ3 H locs eτ3 hP hD hS => ?_)
  have h := h τ3 eτ3
  refine lv_aload_n hx hb dX9_from_17 rfl (lv_at hl 0 rfl) ?_
  refine lv_iconst (v := (0 : Int32)) hx hb dX9_from_18 (by decide) ?_
  refine xp_11_6 hx hb hts hown hK hP hD hS zb_0 mw_246 dX9_from_19 (fun τ4 H locs eτ4 hP hD hS => ?_)
  have h := h τ4 eτ4
  refine lv_iconst (v := (0 : Int32)) hx hb dX9_from_22 (by decide) ?_
  refine lv_istore_n (lv' := [(3, .int (0 : Int32)), (0, .ref (ad 11)), (1, .long x1)]) hx hb dX9_from_23 rfl hl (by decide) rfl (fun ls hl => ?_)
  exact t_X9_from_24 C0 hK N  N (0 : Int32) τ4 _ _ _ h hP hD hS (lv_sub hl [1, 0] rfl)
set_option maxHeartbeats 4000000 in
set_option maxRecDepth 100000 in
theorem c_X9_from (N : Nat) (l : Launch) (dC : Nat → ClassId) (dI : Nat → Nat → Nat) (ad : Nat → Nat) (cI cJ : ClassId) (sz : Nat) (σ : zSt) (x1 : Int64) (Q : zSt → Prop) (h : w_X9_from N x1 σ Q) : Met l yX9_from vs_X9_from rm_X9_from (va_Pc [.ref (ad 11), .long x1] (zPc (dC, dI) (x_ty cI cJ) (x_W ad cI cJ) sz σ)) (zQv (dC, dI) (x_ty cI cJ) (x_W ad cI cJ) (zAW x_n ad sz) Q) 0 0 (zAW x_n ad sz) := by
  refine Met.ofW (cc := cX9_from) (maxL := 5) (ret := none) (by decide) rfl ?_
  intro p e s m args below meth c s₁ B hml hv
  obtain ⟨rfl, hsz, hP, hK, hD0⟩ := hv
  subst hsz
  have C0 : zCx p s m meth c _ RX9 cX9_from 5 none vs_X9_from := ⟨B.exec, B.bytes, hml, B.returns, findClass_of_methodNamed B.named, atoms_spec (ws := vs_X9_from) B.pre, B.notSynchronized⟩
  have hD := x_D0 (n0 := s.heap.size) hD0
  have hl := lv_entry ([.ref (ad 11), .long x1]) (n := 5) (Nat.le_of_ble_eq_true rfl)
  rw [lg_entry_eq]
  generalize (lg_sl ([.ref (ad 11), .long x1]) ++ List.replicate (5 - (lg_sl ([.ref (ad 11), .long x1])).length) Slot.unset).toArray = ls at hl ⊢
  exact t_X9_from_0 C0 hK N x1 σ _ _ ls h hP hD va_S.rf hl
theorem k_X9_from (N : Nat) {R : Room} {H : Heap} {locs : List Loc} {cells slots : Nat} {Q2 : State → Prop} {cc : ByteArray} {nL pc index : Nat} {ls : Array Slot} {rest : List Value} {own : String} {c0 : Cond} {σ : zSt} {x1 : Int64} {Q : zSt → Prop} (S0 : CallFix p m c cc nL s args (c0 :: zT) own) (hml : Cond.methodLink own index yX9_from ∈ zT) (hR : rm_X9_from.frames + 1 ≤ R.frames ∧ 8 + (5 + 11) + rm_X9_from.locals ≤ R.locals) (h : w_X9_from N x1 σ Q) (hK : va_K (dC, dI) vwCl (x_ty cI cJ) s) (hP : va_P (dC, dI) vwCl (x_W ad cI cJ σ) H) (hD : va_D (zAW x_n ad s.heap.size) (x_W ad cI cJ σ)) (hS : va_S (zAW x_n ad s.heap.size) s.heap H locs) (hsz : ls.size = nL) (hW : (rest.map fun v => v.category).sum ≤ 8) (hcs : cells ≤ R.cells ∧ slots ≤ R.slots) (hdg : decode cc pc = .ok (.invokevirtual index, 3)) (kk : ∀ (τ : zSt) (H1 : Heap) (locs1 : List Loc), Q τ → va_P (dC, dI) vwCl (x_W ad cI cJ τ) H1 → va_D (zAW x_n ad s.heap.size) (x_W ad cI cJ τ) → va_S (zAW x_n ad s.heap.size) s.heap H1 locs1 → W p l e R s m args below meth c H1 locs1 cells slots Q2 (F0 m (pc + 3) ls (rest))) : W p l e R s m args below meth c H locs cells slots Q2 (F0 m pc ls (.long x1 :: .ref (ad 11) :: rest)) :=
  zcv_v (T := TX9) (N' := 7) (k := 11) (ci := 9) (fs := x_f11 ad σ) [.long x1] S0 (c_X9_from N l dC dI ad cI cJ H.size σ x1 Q h) (cw_X9_from S0.2.2.2.2 hml rfl rfl hR) rfl rfl hK hP hD hS rfl hsz hW rfl hcs hdg kk
end q10
section q10
def w_X9_lastNet (N : Nat)  (σ : zSt) (Q : Int64 → zSt → Prop) : Prop :=
  (vp_in (σ.1 30) 201) ∧ (Q (σ.2.2.2 10 (σ.1 30).toNatClampNeg) σ)
variable {p : Program} {l : Launch} {e : Env} {s : State} {m : MethodId} {args : Array Value} {below : List Frame} {meth : Method} {c : Code} {dC : Nat → ClassId} {dI : Nat → Nat → Nat} {ad : Nat → Nat} {cI cJ : ClassId}
set_option maxHeartbeats 4000000 in
set_option maxRecDepth 100000 in
theorem t_X9_lastNet_0 (C0 : zCx p s m meth c args RX9 cX9_lastNet 1 (some .long) vs_X9_lastNet) (hK : va_K (dC, dI) vwCl (x_ty cI cJ) s) (N : Nat) {Q : Int64 → zSt → Prop} : ∀  (σ : zSt) (H : Heap) (locs : List Loc) (ls : Array Slot), w_X9_lastNet N  σ Q → va_P (dC, dI) vwCl (x_W ad cI cJ σ) H → va_D (zAW x_n ad s.heap.size) (x_W ad cI cJ σ) → va_S (zAW x_n ad s.heap.size) s.heap H locs → lv_has ls 1 [(0, .ref (ad 11))] → W p l e rm_X9_lastNet s m args below meth c H locs 0 0 (MQ below (zQl (dC, dI) (x_ty cI cJ) (x_W ad cI cJ) (zAW x_n ad s.heap.size) Q) args s 0 0 (zAW x_n ad s.heap.size)) (F0 m 0 ls []) := by
  obtain ⟨hx, hb, hml, hr, hown, hts, hlocks⟩ := id C0
  intro  σ H locs ls h hP hD hS hl
  unfold w_X9_lastNet at h
  refine lv_aload_n hx hb dX9_lastNet_0 rfl (lv_at hl 0 rfl) ?_
  refine xg_11_2 hx hb hts hown hK hP mw_240 dX9_lastNet_1 ?_
  refine lv_aload_n hx hb dX9_lastNet_4 rfl (lv_at hl 0 rfl) ?_
  refine xg_11_4 hx hb hts hown hK hP mw_242 dX9_lastNet_5 ?_
  refine xa_55 hx hb hK hP h.1 rfl dX9_lastNet_8 ?_
  have h := h.2
  exact zret_l hx hb hr hlocks hK hP hD hS h dX9_lastNet_9
set_option maxHeartbeats 4000000 in
set_option maxRecDepth 100000 in
theorem c_X9_lastNet (N : Nat) (l : Launch) (dC : Nat → ClassId) (dI : Nat → Nat → Nat) (ad : Nat → Nat) (cI cJ : ClassId) (sz : Nat) (σ : zSt)  (Q : Int64 → zSt → Prop) (h : w_X9_lastNet N  σ Q) : Met l yX9_lastNet vs_X9_lastNet rm_X9_lastNet (va_Pc [.ref (ad 11)] (zPc (dC, dI) (x_ty cI cJ) (x_W ad cI cJ) sz σ)) (zQl (dC, dI) (x_ty cI cJ) (x_W ad cI cJ) (zAW x_n ad sz) Q) 0 0 (zAW x_n ad sz) := by
  refine Met.ofW (cc := cX9_lastNet) (maxL := 1) (ret := (some .long)) (by decide) rfl ?_
  intro p e s m args below meth c s₁ B hml hv
  obtain ⟨rfl, hsz, hP, hK, hD0⟩ := hv
  subst hsz
  have C0 : zCx p s m meth c _ RX9 cX9_lastNet 1 (some .long) vs_X9_lastNet := ⟨B.exec, B.bytes, hml, B.returns, findClass_of_methodNamed B.named, atoms_spec (ws := vs_X9_lastNet) B.pre, B.notSynchronized⟩
  have hD := x_D0 (n0 := s.heap.size) hD0
  have hl := lv_entry ([.ref (ad 11)]) (n := 1) (Nat.le_of_ble_eq_true rfl)
  rw [lg_entry_eq]
  generalize (lg_sl ([.ref (ad 11)]) ++ List.replicate (1 - (lg_sl ([.ref (ad 11)])).length) Slot.unset).toArray = ls at hl ⊢
  exact t_X9_lastNet_0 C0 hK N  σ _ _ ls h hP hD va_S.rf hl
theorem k_X9_lastNet (N : Nat) {R : Room} {H : Heap} {locs : List Loc} {cells slots : Nat} {Q2 : State → Prop} {cc : ByteArray} {nL pc index : Nat} {ls : Array Slot} {rest : List Value} {own : String} {c0 : Cond} {σ : zSt}  {Q : Int64 → zSt → Prop} (S0 : CallFix p m c cc nL s args (c0 :: zT) own) (hml : Cond.methodLink own index yX9_lastNet ∈ zT) (hR : rm_X9_lastNet.frames + 1 ≤ R.frames ∧ 8 + (1 + 11) + rm_X9_lastNet.locals ≤ R.locals) (h : w_X9_lastNet N  σ Q) (hK : va_K (dC, dI) vwCl (x_ty cI cJ) s) (hP : va_P (dC, dI) vwCl (x_W ad cI cJ σ) H) (hD : va_D (zAW x_n ad s.heap.size) (x_W ad cI cJ σ)) (hS : va_S (zAW x_n ad s.heap.size) s.heap H locs) (hsz : ls.size = nL) (hW : (rest.map fun v => v.category).sum ≤ 8) (hcs : cells ≤ R.cells ∧ slots ≤ R.slots) (hdg : decode cc pc = .ok (.invokevirtual index, 3)) (kk : ∀ (r : Int64) (τ : zSt) (H1 : Heap) (locs1 : List Loc), Q r τ → va_P (dC, dI) vwCl (x_W ad cI cJ τ) H1 → va_D (zAW x_n ad s.heap.size) (x_W ad cI cJ τ) → va_S (zAW x_n ad s.heap.size) s.heap H1 locs1 → W p l e R s m args below meth c H1 locs1 cells slots Q2 (F0 m (pc + 3) ls (.long r :: rest))) : W p l e R s m args below meth c H locs cells slots Q2 (F0 m pc ls (.ref (ad 11) :: rest)) :=
  zcv_l (T := TX9) (N' := 7) (k := 11) (ci := 9) (fs := x_f11 ad σ) [] S0 (c_X9_lastNet N l dC dI ad cI cJ H.size σ  Q h) (cw_X9_lastNet S0.2.2.2.2 hml rfl rfl hR) rfl rfl hK hP hD hS rfl hsz hW rfl hcs hdg kk
end q10
section q10
def b_X9_leastOfRing_31 (N : Nat) (k_31 : Int64 → Int32 → zSt → Prop) (Q : Int64 → zSt → Prop) (x1 : Int64) (x3 : Int32) (σ : zSt) : Prop :=
  ((σ.1 30) ≤ x3 → Q x1 σ) ∧ (¬ (σ.1 30) ≤ x3 → (x3 < 0 → ∀ v1 : Int32, v1 = x3 + (1 : Int32) → k_31 x1 v1 σ) ∧ (¬ x3 < 0 → (vp_in x3 201) ∧ ((0 ≤ (lg_cmp (σ.2.2.2 10 x3.toNatClampNeg) x1) → ∀ v2 : Int32, v2 = x3 + (1 : Int32) → k_31 x1 v2 σ) ∧ (¬ 0 ≤ (lg_cmp (σ.2.2.2 10 x3.toNatClampNeg) x1) → (vp_in x3 201) ∧ (∀ v3 : Int64, v3 = σ.2.2.2 10 x3.toNatClampNeg → ∀ v4 : Int32, v4 = x3 + (1 : Int32) → k_31 v3 v4 σ)))))
def w_X9_leastOfRing_31 (N : Nat) (Q : Int64 → zSt → Prop) : Nat → Int64 → Int32 → zSt → Prop
  | 0 => fun _ _ _ => False
  | f + 1 => b_X9_leastOfRing_31 N (w_X9_leastOfRing_31 N  Q f) Q
def w_X9_leastOfRing (N : Nat)  (σ : zSt) (Q : Int64 → zSt → Prop) : Prop :=
  ((σ.1 31) = 0 → Q (-1 : Int64) σ) ∧ (¬ (σ.1 31) = 0 → (vp_in (σ.1 30) 201) ∧ (∀ v1 : Int64, v1 = σ.2.2.2 10 (σ.1 30).toNatClampNeg → ∀ v2 : Int32, v2 = (σ.1 30) - (σ.1 31) → w_X9_leastOfRing_31 N Q N v1 v2 σ))
variable {p : Program} {l : Launch} {e : Env} {s : State} {m : MethodId} {args : Array Value} {below : List Frame} {meth : Method} {c : Code} {dC : Nat → ClassId} {dI : Nat → Nat → Nat} {ad : Nat → Nat} {cI cJ : ClassId}
set_option maxHeartbeats 4000000 in
set_option maxRecDepth 100000 in
theorem tb_X9_leastOfRing_31 (C0 : zCx p s m meth c args RX9 cX9_leastOfRing 4 (some .long) vs_X9_leastOfRing) (hK : va_K (dC, dI) vwCl (x_ty cI cJ) s) (N : Nat) {Q : Int64 → zSt → Prop} {k_31 : Int64 → Int32 → zSt → Prop} (hk_31 : ∀ (x1 : Int64) (x3 : Int32) (σ : zSt) (H : Heap) (locs : List Loc) (ls : Array Slot), k_31 x1 x3 σ → va_P (dC, dI) vwCl (x_W ad cI cJ σ) H → va_D (zAW x_n ad s.heap.size) (x_W ad cI cJ σ) → va_S (zAW x_n ad s.heap.size) s.heap H locs → lv_has ls 4 [(0, .ref (ad 11)), (1, .long x1), (3, .int x3)] → W p l e rm_X9_leastOfRing s m args below meth c H locs 0 0 (MQ below (zQl (dC, dI) (x_ty cI cJ) (x_W ad cI cJ) (zAW x_n ad s.heap.size) Q) args s 0 0 (zAW x_n ad s.heap.size)) (F0 m 31 ls [])) : ∀ (x1 : Int64) (x3 : Int32) (σ : zSt) (H : Heap) (locs : List Loc) (ls : Array Slot), b_X9_leastOfRing_31 N k_31 Q x1 x3 σ → va_P (dC, dI) vwCl (x_W ad cI cJ σ) H → va_D (zAW x_n ad s.heap.size) (x_W ad cI cJ σ) → va_S (zAW x_n ad s.heap.size) s.heap H locs → lv_has ls 4 [(0, .ref (ad 11)), (1, .long x1), (3, .int x3)] → W p l e rm_X9_leastOfRing s m args below meth c H locs 0 0 (MQ below (zQl (dC, dI) (x_ty cI cJ) (x_W ad cI cJ) (zAW x_n ad s.heap.size) Q) args s 0 0 (zAW x_n ad s.heap.size)) (F0 m 31 ls []) := by
  obtain ⟨hx, hb, hml, hr, hown, hts, hlocks⟩ := id C0
  intro x1 x3 σ H locs ls h hP hD hS hl
  unfold b_X9_leastOfRing_31 at h
  refine lv_iload_n hx hb dX9_leastOfRing_31 rfl (lv_at hl 2 rfl) ?_
  refine lv_aload_n hx hb dX9_leastOfRing_32 rfl (lv_at hl 0 rfl) ?_
  refine xg_11_4 hx hb hts hown hK hP mw_242 dX9_leastOfRing_33 ?_
  refine lv_icmp_ge (tgt := 67) hx hb dX9_leastOfRing_36 (by decide) (fun hc => ?_) (fun hc => ?_)
  · have h := h.1 hc
    refine lv_lload_n hx hb dX9_leastOfRing_67 rfl (lv_at hl 1 rfl) ?_
    exact zret_l hx hb hr hlocks hK hP hD hS h dX9_leastOfRing_68
  · have h := h.2 hc
    refine lv_iload_n hx hb dX9_leastOfRing_39 rfl (lv_at hl 2 rfl) ?_
    refine lv_if_lt (tgt := 61) hx hb dX9_leastOfRing_40 (by decide) (fun hc => ?_) (fun hc => ?_)
    · have h := h.1 hc
      obtain ⟨v1, ev1⟩ : ∃ z : Int32, z = x3 + (1 : Int32) := ⟨_, rfl⟩
      have h := h v1 ev1
      refine lv_iinc (v := v1) (lv' := [(3, .int v1), (0, .ref (ad 11)), (1, .long x1)]) hx hb dX9_leastOfRing_61 hl (k := 2) rfl (by rw [ev1]; rfl) (by decide) rfl (fun ls hl => ?_)
      refine lv_goto (tgt := 31) hx hb dX9_leastOfRing_64 (by decide) ?_
      exact hk_31 x1 v1 σ _ _ _ h hP hD hS (lv_sub hl [1, 2, 0] rfl)
    · have h := h.2 hc
      refine lv_aload_n hx hb dX9_leastOfRing_43 rfl (lv_at hl 0 rfl) ?_
      refine xg_11_2 hx hb hts hown hK hP mw_240 dX9_leastOfRing_44 ?_
      refine lv_iload_n hx hb dX9_leastOfRing_47 rfl (lv_at hl 2 rfl) ?_
      refine xa_55 hx hb hK hP h.1 rfl dX9_leastOfRing_48 ?_
      have h := h.2
      refine lv_lload_n hx hb dX9_leastOfRing_49 rfl (lv_at hl 1 rfl) ?_
      refine W.lcmp hx hb dX9_leastOfRing_50 ?_
      refine lv_if_ge (tgt := 61) hx hb dX9_leastOfRing_51 (by decide) (fun hc => ?_) (fun hc => ?_)
      · have h := h.1 hc
        obtain ⟨v2, ev2⟩ : ∃ z : Int32, z = x3 + (1 : Int32) := ⟨_, rfl⟩
        have h := h v2 ev2
        refine lv_iinc (v := v2) (lv' := [(3, .int v2), (0, .ref (ad 11)), (1, .long x1)]) hx hb dX9_leastOfRing_61 hl (k := 2) rfl (by rw [ev2]; rfl) (by decide) rfl (fun ls hl => ?_)
        refine lv_goto (tgt := 31) hx hb dX9_leastOfRing_64 (by decide) ?_
        exact hk_31 x1 v2 σ _ _ _ h hP hD hS (lv_sub hl [1, 2, 0] rfl)
      · have h := h.2 hc
        refine lv_aload_n hx hb dX9_leastOfRing_54 rfl (lv_at hl 0 rfl) ?_
        refine xg_11_2 hx hb hts hown hK hP mw_240 dX9_leastOfRing_55 ?_
        refine lv_iload_n hx hb dX9_leastOfRing_58 rfl (lv_at hl 2 rfl) ?_
        refine xa_55 hx hb hK hP h.1 rfl dX9_leastOfRing_59 ?_
        have h := h.2
        refine lv_topl (fun v3 ev3 => ?_)
        have h := h v3 ev3
        refine lv_lstore_n (lv' := [(1, .long v3), (0, .ref (ad 11)), (3, .int x3)]) hx hb dX9_leastOfRing_60 rfl hl (by decide) rfl (fun ls hl => ?_)
        obtain ⟨v4, ev4⟩ : ∃ z : Int32, z = x3 + (1 : Int32) := ⟨_, rfl⟩
        have h := h v4 ev4
        refine lv_iinc (v := v4) (lv' := [(3, .int v4), (1, .long v3), (0, .ref (ad 11))]) hx hb dX9_leastOfRing_61 hl (k := 2) rfl (by rw [ev4]; rfl) (by decide) rfl (fun ls hl => ?_)
        refine lv_goto (tgt := 31) hx hb dX9_leastOfRing_64 (by decide) ?_
        exact hk_31 v3 v4 σ _ _ _ h hP hD hS (lv_sub hl [2, 1, 0] rfl)
set_option maxHeartbeats 4000000 in
set_option maxRecDepth 100000 in
theorem t_X9_leastOfRing_31 (C0 : zCx p s m meth c args RX9 cX9_leastOfRing 4 (some .long) vs_X9_leastOfRing) (hK : va_K (dC, dI) vwCl (x_ty cI cJ) s) (N : Nat) {Q : Int64 → zSt → Prop} : ∀ (f : Nat) (x1 : Int64) (x3 : Int32) (σ : zSt) (H : Heap) (locs : List Loc) (ls : Array Slot), w_X9_leastOfRing_31 N  Q f x1 x3 σ → va_P (dC, dI) vwCl (x_W ad cI cJ σ) H → va_D (zAW x_n ad s.heap.size) (x_W ad cI cJ σ) → va_S (zAW x_n ad s.heap.size) s.heap H locs → lv_has ls 4 [(0, .ref (ad 11)), (1, .long x1), (3, .int x3)] → W p l e rm_X9_leastOfRing s m args below meth c H locs 0 0 (MQ below (zQl (dC, dI) (x_ty cI cJ) (x_W ad cI cJ) (zAW x_n ad s.heap.size) Q) args s 0 0 (zAW x_n ad s.heap.size)) (F0 m 31 ls []) := by
  intro f
  induction f with
  | zero => intro x1 x3 σ H locs ls h; exact h.elim
  | succ f ih =>
    intro x1 x3 σ H locs ls h hP hD hS hl
    exact tb_X9_leastOfRing_31 C0 hK N  (k_31 := w_X9_leastOfRing_31 N  Q f) ih x1 x3 σ H locs ls h hP hD hS hl
set_option maxHeartbeats 4000000 in
set_option maxRecDepth 100000 in
theorem t_X9_leastOfRing_0 (C0 : zCx p s m meth c args RX9 cX9_leastOfRing 4 (some .long) vs_X9_leastOfRing) (hK : va_K (dC, dI) vwCl (x_ty cI cJ) s) (N : Nat) {Q : Int64 → zSt → Prop} : ∀  (σ : zSt) (H : Heap) (locs : List Loc) (ls : Array Slot), w_X9_leastOfRing N  σ Q → va_P (dC, dI) vwCl (x_W ad cI cJ σ) H → va_D (zAW x_n ad s.heap.size) (x_W ad cI cJ σ) → va_S (zAW x_n ad s.heap.size) s.heap H locs → lv_has ls 4 [(0, .ref (ad 11))] → W p l e rm_X9_leastOfRing s m args below meth c H locs 0 0 (MQ below (zQl (dC, dI) (x_ty cI cJ) (x_W ad cI cJ) (zAW x_n ad s.heap.size) Q) args s 0 0 (zAW x_n ad s.heap.size)) (F0 m 0 ls []) := by
  obtain ⟨hx, hb, hml, hr, hown, hts, hlocks⟩ := id C0
  intro  σ H locs ls h hP hD hS hl
  unfold w_X9_leastOfRing at h
  refine lv_aload_n hx hb dX9_leastOfRing_0 rfl (lv_at hl 0 rfl) ?_
  refine xg_11_5 hx hb hts hown hK hP mw_244 dX9_leastOfRing_1 ?_
  refine lv_if_ne (tgt := 11) hx hb dX9_leastOfRing_4 (by decide) (fun hc => ?_) (fun hc => ?_)
  · have h := h.2 hc
    refine lv_aload_n hx hb dX9_leastOfRing_11 rfl (lv_at hl 0 rfl) ?_
    refine xg_11_2 hx hb hts hown hK hP mw_240 dX9_leastOfRing_12 ?_
    refine lv_aload_n hx hb dX9_leastOfRing_15 rfl (lv_at hl 0 rfl) ?_
    refine xg_11_4 hx hb hts hown hK hP mw_242 dX9_leastOfRing_16 ?_
    refine xa_55 hx hb hK hP h.1 rfl dX9_leastOfRing_19 ?_
    have h := h.2
    refine lv_topl (fun v1 ev1 => ?_)
    have h := h v1 ev1
    refine lv_lstore_n (lv' := [(1, .long v1), (0, .ref (ad 11))]) hx hb dX9_leastOfRing_20 rfl hl (by decide) rfl (fun ls hl => ?_)
    refine lv_aload_n hx hb dX9_leastOfRing_21 rfl (lv_at hl 1 rfl) ?_
    refine xg_11_4 hx hb hts hown hK hP mw_242 dX9_leastOfRing_22 ?_
    refine lv_aload_n hx hb dX9_leastOfRing_25 rfl (lv_at hl 1 rfl) ?_
    refine xg_11_5 hx hb hts hown hK hP mw_244 dX9_leastOfRing_26 ?_
    refine lv_isub hx hb dX9_leastOfRing_29 ?_
    refine lv_topi (fun v2 ev2 => ?_)
    have h := h v2 ev2
    refine lv_istore_n (lv' := [(3, .int v2), (1, .long v1), (0, .ref (ad 11))]) hx hb dX9_leastOfRing_30 rfl hl (by decide) rfl (fun ls hl => ?_)
    exact t_X9_leastOfRing_31 C0 hK N  N v1 v2 σ _ _ _ h hP hD hS (lv_sub hl [2, 1, 0] rfl)
  · have h := h.1 hc
    refine lv_ldc2 (v := (-1 : Int64)) hx hb hown (hts _ (List.mem_cons_of_mem _ mw_691)) dX9_leastOfRing_7 ?_
    exact zret_l hx hb hr hlocks hK hP hD hS h dX9_leastOfRing_10
set_option maxHeartbeats 4000000 in
set_option maxRecDepth 100000 in
theorem c_X9_leastOfRing (N : Nat) (l : Launch) (dC : Nat → ClassId) (dI : Nat → Nat → Nat) (ad : Nat → Nat) (cI cJ : ClassId) (sz : Nat) (σ : zSt)  (Q : Int64 → zSt → Prop) (h : w_X9_leastOfRing N  σ Q) : Met l yX9_leastOfRing vs_X9_leastOfRing rm_X9_leastOfRing (va_Pc [.ref (ad 11)] (zPc (dC, dI) (x_ty cI cJ) (x_W ad cI cJ) sz σ)) (zQl (dC, dI) (x_ty cI cJ) (x_W ad cI cJ) (zAW x_n ad sz) Q) 0 0 (zAW x_n ad sz) := by
  refine Met.ofW (cc := cX9_leastOfRing) (maxL := 4) (ret := (some .long)) (by decide) rfl ?_
  intro p e s m args below meth c s₁ B hml hv
  obtain ⟨rfl, hsz, hP, hK, hD0⟩ := hv
  subst hsz
  have C0 : zCx p s m meth c _ RX9 cX9_leastOfRing 4 (some .long) vs_X9_leastOfRing := ⟨B.exec, B.bytes, hml, B.returns, findClass_of_methodNamed B.named, atoms_spec (ws := vs_X9_leastOfRing) B.pre, B.notSynchronized⟩
  have hD := x_D0 (n0 := s.heap.size) hD0
  have hl := lv_entry ([.ref (ad 11)]) (n := 4) (Nat.le_of_ble_eq_true rfl)
  rw [lg_entry_eq]
  generalize (lg_sl ([.ref (ad 11)]) ++ List.replicate (4 - (lg_sl ([.ref (ad 11)])).length) Slot.unset).toArray = ls at hl ⊢
  exact t_X9_leastOfRing_0 C0 hK N  σ _ _ ls h hP hD va_S.rf hl
theorem k_X9_leastOfRing (N : Nat) {R : Room} {H : Heap} {locs : List Loc} {cells slots : Nat} {Q2 : State → Prop} {cc : ByteArray} {nL pc index : Nat} {ls : Array Slot} {rest : List Value} {own : String} {c0 : Cond} {σ : zSt}  {Q : Int64 → zSt → Prop} (S0 : CallFix p m c cc nL s args (c0 :: zT) own) (hml : Cond.methodLink own index yX9_leastOfRing ∈ zT) (hR : rm_X9_leastOfRing.frames + 1 ≤ R.frames ∧ 8 + (4 + 11) + rm_X9_leastOfRing.locals ≤ R.locals) (h : w_X9_leastOfRing N  σ Q) (hK : va_K (dC, dI) vwCl (x_ty cI cJ) s) (hP : va_P (dC, dI) vwCl (x_W ad cI cJ σ) H) (hD : va_D (zAW x_n ad s.heap.size) (x_W ad cI cJ σ)) (hS : va_S (zAW x_n ad s.heap.size) s.heap H locs) (hsz : ls.size = nL) (hW : (rest.map fun v => v.category).sum ≤ 8) (hcs : cells ≤ R.cells ∧ slots ≤ R.slots) (hdg : decode cc pc = .ok (.invokevirtual index, 3)) (kk : ∀ (r : Int64) (τ : zSt) (H1 : Heap) (locs1 : List Loc), Q r τ → va_P (dC, dI) vwCl (x_W ad cI cJ τ) H1 → va_D (zAW x_n ad s.heap.size) (x_W ad cI cJ τ) → va_S (zAW x_n ad s.heap.size) s.heap H1 locs1 → W p l e R s m args below meth c H1 locs1 cells slots Q2 (F0 m (pc + 3) ls (.long r :: rest))) : W p l e R s m args below meth c H locs cells slots Q2 (F0 m pc ls (.ref (ad 11) :: rest)) :=
  zcv_l (T := TX9) (N' := 7) (k := 11) (ci := 9) (fs := x_f11 ad σ) [] S0 (c_X9_leastOfRing N l dC dI ad cI cJ H.size σ  Q h) (cw_X9_leastOfRing S0.2.2.2.2 hml rfl rfl hR) rfl rfl hK hP hD hS rfl hsz hW rfl hcs hdg kk
end q10
section q10
def w_X11_go (N : Nat)  (σ : zSt) (Q : Int32 → zSt → Prop) : Prop :=
  w_X9_from N (σ.2.1 0) σ (fun τ2 => w_X9_lastNet N τ2 (fun r3 τ4 => ∀ τ5 : zSt, τ5 = zJ τ4 0 r3 → ∀ τ6 : zSt, τ6 = zB τ5 1 (vp_updL (τ5.2.2.2 1) 0 (τ5.1 31).toInt64) → w_X9_leastOfRing N τ6 (fun r7 τ8 => ∀ τ9 : zSt, τ9 = zB τ8 1 (vp_updL (τ8.2.2.2 1) 1 r7) → ((τ9.1 32) = 0 → Q (-1 : Int32) τ9) ∧ (¬ (τ9.1 32) = 0 → Q (τ9.1 30) τ9))))
variable {p : Program} {l : Launch} {e : Env} {s : State} {m : MethodId} {args : Array Value} {below : List Frame} {meth : Method} {c : Code} {dC : Nat → ClassId} {dI : Nat → Nat → Nat} {ad : Nat → Nat} {cI cJ : ClassId}
set_option maxHeartbeats 4000000 in
set_option maxRecDepth 100000 in
theorem t_X11_go_0 (C0 : zCx p s m meth c args RX11 cX11_go 1 (some .int) vs_X11_go) (hK : va_K (dC, dI) vwCl (x_ty cI cJ) s) (N : Nat) {Q : Int32 → zSt → Prop} : ∀  (σ : zSt) (H : Heap) (locs : List Loc) (ls : Array Slot), w_X11_go N  σ Q → va_P (dC, dI) vwCl (x_W ad cI cJ σ) H → va_D (zAW x_n ad s.heap.size) (x_W ad cI cJ σ) → va_S (zAW x_n ad s.heap.size) s.heap H locs → lv_has ls 1 [(0, .ref (ad 0))] → W p l e rm_X11_go s m args below meth c H locs 0 0 (MQ below (zQi (dC, dI) (x_ty cI cJ) (x_W ad cI cJ) (zAW x_n ad s.heap.size) Q) args s 0 0 (zAW x_n ad s.heap.size)) (F0 m 0 ls []) := by
  obtain ⟨hx, hb, hml, hr, hown, hts, hlocks⟩ := id C0
  intro  σ H locs ls h hP hD hS hl
  unfold w_X11_go at h
  refine lv_aload_n hx hb dX11_go_0 rfl (lv_at hl 0 rfl) ?_
  refine xg_0_7 hx hb hts hown hK hP mw_296 dX11_go_1 ?_
  refine lv_aload_n hx hb dX11_go_4 rfl (lv_at hl 0 rfl) ?_
  refine xg_0_15 hx hb hts hown hK hP mw_304 dX11_go_5 ?_
  refine k_X9_from N ⟨hx, hb, hml, hown, hts⟩ mw_675 ⟨Nat.le_of_ble_eq_true rfl, Nat.le_of_ble_eq_true rfl⟩ h hK hP hD hS hl.1 (rest := []) (Nat.le_of_ble_eq_true rfl) ⟨Nat.le_of_ble_eq_true rfl, Nat.le_of_ble_eq_true rfl⟩ dX11_go_8 (fun τ2 H locs h hP hD hS => ?_)
  refine lv_aload_n hx hb dX11_go_11 rfl (lv_at hl 0 rfl) ?_
  refine lv_aload_n hx hb dX11_go_12 rfl (lv_at hl 0 rfl) ?_
  refine xg_0_7 hx hb hts hown hK hP mw_296 dX11_go_13 ?_
  refine k_X9_lastNet N ⟨hx, hb, hml, hown, hts⟩ mw_683 ⟨Nat.le_of_ble_eq_true rfl, Nat.le_of_ble_eq_true rfl⟩ h hK hP hD hS hl.1 (rest := [.ref (ad 0)]) (Nat.le_of_ble_eq_true rfl) ⟨Nat.le_of_ble_eq_true rfl, Nat.le_of_ble_eq_true rfl⟩ dX11_go_16 (fun r3 τ4 H locs h hP hD hS => ?_)
  refine xp_0_15 hx hb hts hown hK hP hD hS mw_304 dX11_go_19 (fun τ5 H locs eτ5 hP hD hS => ?_)
  have h := h τ5 eτ5
  refine lv_aload_n hx hb dX11_go_22 rfl (lv_at hl 0 rfl) ?_
  refine xg_0_14 hx hb hts hown hK hP mw_303 dX11_go_23 ?_
  refine lv_iconst (v := (0 : Int32)) hx hb dX11_go_26 (by decide) ?_
  refine lv_aload_n hx hb dX11_go_27 rfl (lv_at hl 0 rfl) ?_
  refine xg_0_7 hx hb hts hown hK hP mw_296 dX11_go_28 ?_
  refine xg_11_5 hx hb hts hown hK hP mw_245 dX11_go_31 ?_
  refine lv_i2l hx hb dX11_go_34 rfl ?_
  refine xs_18 (j := 0) hx hb hK hP hD hS (zin (by decide)) (by decide) dX11_go_35 (fun τ6 H locs eτ6 hP hD hS => ?_)
  have h := h τ6 eτ6
  refine lv_aload_n hx hb dX11_go_36 rfl (lv_at hl 0 rfl) ?_
  refine xg_0_14 hx hb hts hown hK hP mw_303 dX11_go_37 ?_
  refine lv_iconst (v := (1 : Int32)) hx hb dX11_go_40 (by decide) ?_
  refine lv_aload_n hx hb dX11_go_41 rfl (lv_at hl 0 rfl) ?_
  refine xg_0_7 hx hb hts hown hK hP mw_296 dX11_go_42 ?_
  refine k_X9_leastOfRing N ⟨hx, hb, hml, hown, hts⟩ mw_687 ⟨Nat.le_of_ble_eq_true rfl, Nat.le_of_ble_eq_true rfl⟩ h hK hP hD hS hl.1 (rest := [.int (1 : Int32), .ref (ad 18)]) (Nat.le_of_ble_eq_true rfl) ⟨Nat.le_of_ble_eq_true rfl, Nat.le_of_ble_eq_true rfl⟩ dX11_go_45 (fun r7 τ8 H locs h hP hD hS => ?_)
  refine xs_18 (j := 1) hx hb hK hP hD hS (zin (by decide)) (by decide) dX11_go_48 (fun τ9 H locs eτ9 hP hD hS => ?_)
  have h := h τ9 eτ9
  refine lv_aload_n hx hb dX11_go_49 rfl (lv_at hl 0 rfl) ?_
  refine xg_0_7 hx hb hts hown hK hP mw_296 dX11_go_50 ?_
  refine xg_11_6 hx hb hts hown hK hP mw_247 dX11_go_53 ?_
  refine lv_if_eq (tgt := 69) hx hb dX11_go_56 (by decide) (fun hc => ?_) (fun hc => ?_)
  · have h := h.1 hc
    refine lv_iconst (v := (-1 : Int32)) hx hb dX11_go_69 (by decide) ?_
    exact zret_i hx hb hr hlocks hK hP hD hS h dX11_go_70
  · have h := h.2 hc
    refine lv_aload_n hx hb dX11_go_59 rfl (lv_at hl 0 rfl) ?_
    refine xg_0_7 hx hb hts hown hK hP mw_296 dX11_go_60 ?_
    refine xg_11_4 hx hb hts hown hK hP mw_243 dX11_go_63 ?_
    refine lv_goto (tgt := 70) hx hb dX11_go_66 (by decide) ?_
    exact zret_i hx hb hr hlocks hK hP hD hS h dX11_go_70
set_option maxHeartbeats 4000000 in
set_option maxRecDepth 100000 in
theorem c_X11_go (N : Nat) (l : Launch) (dC : Nat → ClassId) (dI : Nat → Nat → Nat) (ad : Nat → Nat) (cI cJ : ClassId) (sz : Nat) (σ : zSt)  (Q : Int32 → zSt → Prop) (h : w_X11_go N  σ Q) : Met l yX11_go vs_X11_go rm_X11_go (va_Pc [.ref (ad 0)] (zPc (dC, dI) (x_ty cI cJ) (x_W ad cI cJ) sz σ)) (zQi (dC, dI) (x_ty cI cJ) (x_W ad cI cJ) (zAW x_n ad sz) Q) 0 0 (zAW x_n ad sz) := by
  refine Met.ofW (cc := cX11_go) (maxL := 1) (ret := (some .int)) (by decide) rfl ?_
  intro p e s m args below meth c s₁ B hml hv
  obtain ⟨rfl, hsz, hP, hK, hD0⟩ := hv
  subst hsz
  have C0 : zCx p s m meth c _ RX11 cX11_go 1 (some .int) vs_X11_go := ⟨B.exec, B.bytes, hml, B.returns, findClass_of_methodNamed B.named, atoms_spec (ws := vs_X11_go) B.pre, B.notSynchronized⟩
  have hD := x_D0 (n0 := s.heap.size) hD0
  have hl := lv_entry ([.ref (ad 0)]) (n := 1) (Nat.le_of_ble_eq_true rfl)
  rw [lg_entry_eq]
  generalize (lg_sl ([.ref (ad 0)]) ++ List.replicate (1 - (lg_sl ([.ref (ad 0)])).length) Slot.unset).toArray = ls at hl ⊢
  exact t_X11_go_0 C0 hK N  σ _ _ ls h hP hD va_S.rf hl
theorem k_X11_go (N : Nat) {R : Room} {H : Heap} {locs : List Loc} {cells slots : Nat} {Q2 : State → Prop} {cc : ByteArray} {nL pc index : Nat} {ls : Array Slot} {rest : List Value} {own : String} {c0 : Cond} {σ : zSt}  {Q : Int32 → zSt → Prop} (S0 : CallFix p m c cc nL s args (c0 :: zT) own) (hml : Cond.methodLink own index yX11_go ∈ zT) (hR : rm_X11_go.frames + 1 ≤ R.frames ∧ 8 + (1 + 11) + rm_X11_go.locals ≤ R.locals) (h : w_X11_go N  σ Q) (hK : va_K (dC, dI) vwCl (x_ty cI cJ) s) (hP : va_P (dC, dI) vwCl (x_W ad cI cJ σ) H) (hD : va_D (zAW x_n ad s.heap.size) (x_W ad cI cJ σ)) (hS : va_S (zAW x_n ad s.heap.size) s.heap H locs) (hsz : ls.size = nL) (hW : (rest.map fun v => v.category).sum ≤ 8) (hcs : cells ≤ R.cells ∧ slots ≤ R.slots) (hdg : decode cc pc = .ok (.invokevirtual index, 3)) (kk : ∀ (r : Int32) (τ : zSt) (H1 : Heap) (locs1 : List Loc), Q r τ → va_P (dC, dI) vwCl (x_W ad cI cJ τ) H1 → va_D (zAW x_n ad s.heap.size) (x_W ad cI cJ τ) → va_S (zAW x_n ad s.heap.size) s.heap H1 locs1 → W p l e R s m args below meth c H1 locs1 cells slots Q2 (F0 m (pc + 3) ls (.int r :: rest))) : W p l e R s m args below meth c H locs cells slots Q2 (F0 m pc ls (.ref (ad 0) :: rest)) :=
  zcv_i (T := TX11) (N' := 17) (k := 0) (ci := 11) (fs := x_f0 ad σ) [] S0 (c_X11_go N l dC dI ad cI cJ H.size σ  Q h) (cw_X11_go S0.2.2.2.2 hml rfl rfl hR) rfl rfl hK hP hD hS rfl hsz hW rfl hcs hdg kk
end q10
section q10
def w_X11_ring (N : Nat) (x1 : Int32) (σ : zSt) (Q : Int64 → zSt → Prop) : Prop :=
  (x1 < 0 → Q (-1 : Int64) σ) ∧ (¬ x1 < 0 → ((2 : Int32) ≤ x1 → Q (-1 : Int64) σ) ∧ (¬ (2 : Int32) ≤ x1 → (vp_in x1 2) ∧ (Q (σ.2.2.2 1 x1.toNatClampNeg) σ)))
variable {p : Program} {l : Launch} {e : Env} {s : State} {m : MethodId} {args : Array Value} {below : List Frame} {meth : Method} {c : Code} {dC : Nat → ClassId} {dI : Nat → Nat → Nat} {ad : Nat → Nat} {cI cJ : ClassId}
set_option maxHeartbeats 4000000 in
set_option maxRecDepth 100000 in
theorem t_X11_ring_0 (C0 : zCx p s m meth c args RX11 cX11_ring 2 (some .long) vs_X11_ring) (hK : va_K (dC, dI) vwCl (x_ty cI cJ) s) (N : Nat) {Q : Int64 → zSt → Prop} : ∀ (x1 : Int32) (σ : zSt) (H : Heap) (locs : List Loc) (ls : Array Slot), w_X11_ring N x1 σ Q → va_P (dC, dI) vwCl (x_W ad cI cJ σ) H → va_D (zAW x_n ad s.heap.size) (x_W ad cI cJ σ) → va_S (zAW x_n ad s.heap.size) s.heap H locs → lv_has ls 2 [(0, .ref (ad 0)), (1, .int x1)] → W p l e rm_X11_ring s m args below meth c H locs 0 0 (MQ below (zQl (dC, dI) (x_ty cI cJ) (x_W ad cI cJ) (zAW x_n ad s.heap.size) Q) args s 0 0 (zAW x_n ad s.heap.size)) (F0 m 0 ls []) := by
  obtain ⟨hx, hb, hml, hr, hown, hts, hlocks⟩ := id C0
  intro x1 σ H locs ls h hP hD hS hl
  unfold w_X11_ring at h
  refine lv_iload_n hx hb dX11_ring_0 rfl (lv_at hl 1 rfl) ?_
  refine lv_if_lt (tgt := 22) hx hb dX11_ring_1 (by decide) (fun hc => ?_) (fun hc => ?_)
  · have h := h.1 hc
    refine lv_ldc2 (v := (-1 : Int64)) hx hb hown (hts _ (List.mem_cons_of_mem _ mw_275)) dX11_ring_22 ?_
    exact zret_l hx hb hr hlocks hK hP hD hS h dX11_ring_25
  · have h := h.2 hc
    refine lv_iload_n hx hb dX11_ring_4 rfl (lv_at hl 1 rfl) ?_
    refine lv_aload_n hx hb dX11_ring_5 rfl (lv_at hl 0 rfl) ?_
    refine xg_0_14 hx hb hts hown hK hP mw_303 dX11_ring_6 ?_
    refine xl_18 hx hb hK hP dX11_ring_9 ?_
    refine lv_icmp_ge (tgt := 22) hx hb dX11_ring_10 (by decide) (fun hc => ?_) (fun hc => ?_)
    · have h := h.1 hc
      refine lv_ldc2 (v := (-1 : Int64)) hx hb hown (hts _ (List.mem_cons_of_mem _ mw_275)) dX11_ring_22 ?_
      exact zret_l hx hb hr hlocks hK hP hD hS h dX11_ring_25
    · have h := h.2 hc
      refine lv_aload_n hx hb dX11_ring_13 rfl (lv_at hl 0 rfl) ?_
      refine xg_0_14 hx hb hts hown hK hP mw_303 dX11_ring_14 ?_
      refine lv_iload_n hx hb dX11_ring_17 rfl (lv_at hl 1 rfl) ?_
      refine xa_18 hx hb hK hP h.1 rfl dX11_ring_18 ?_
      have h := h.2
      refine lv_goto (tgt := 25) hx hb dX11_ring_19 (by decide) ?_
      exact zret_l hx hb hr hlocks hK hP hD hS h dX11_ring_25
set_option maxHeartbeats 4000000 in
set_option maxRecDepth 100000 in
theorem c_X11_ring (N : Nat) (l : Launch) (dC : Nat → ClassId) (dI : Nat → Nat → Nat) (ad : Nat → Nat) (cI cJ : ClassId) (sz : Nat) (σ : zSt) (x1 : Int32) (Q : Int64 → zSt → Prop) (h : w_X11_ring N x1 σ Q) : Met l yX11_ring vs_X11_ring rm_X11_ring (va_Pc [.ref (ad 0), .int x1] (zPc (dC, dI) (x_ty cI cJ) (x_W ad cI cJ) sz σ)) (zQl (dC, dI) (x_ty cI cJ) (x_W ad cI cJ) (zAW x_n ad sz) Q) 0 0 (zAW x_n ad sz) := by
  refine Met.ofW (cc := cX11_ring) (maxL := 2) (ret := (some .long)) (by decide) rfl ?_
  intro p e s m args below meth c s₁ B hml hv
  obtain ⟨rfl, hsz, hP, hK, hD0⟩ := hv
  subst hsz
  have C0 : zCx p s m meth c _ RX11 cX11_ring 2 (some .long) vs_X11_ring := ⟨B.exec, B.bytes, hml, B.returns, findClass_of_methodNamed B.named, atoms_spec (ws := vs_X11_ring) B.pre, B.notSynchronized⟩
  have hD := x_D0 (n0 := s.heap.size) hD0
  have hl := lv_entry ([.ref (ad 0), .int x1]) (n := 2) (Nat.le_of_ble_eq_true rfl)
  rw [lg_entry_eq]
  generalize (lg_sl ([.ref (ad 0), .int x1]) ++ List.replicate (2 - (lg_sl ([.ref (ad 0), .int x1])).length) Slot.unset).toArray = ls at hl ⊢
  exact t_X11_ring_0 C0 hK N x1 σ _ _ ls h hP hD va_S.rf hl
theorem k_X11_ring (N : Nat) {R : Room} {H : Heap} {locs : List Loc} {cells slots : Nat} {Q2 : State → Prop} {cc : ByteArray} {nL pc index : Nat} {ls : Array Slot} {rest : List Value} {own : String} {c0 : Cond} {σ : zSt} {x1 : Int32} {Q : Int64 → zSt → Prop} (S0 : CallFix p m c cc nL s args (c0 :: zT) own) (hml : Cond.methodLink own index yX11_ring ∈ zT) (hR : rm_X11_ring.frames + 1 ≤ R.frames ∧ 8 + (2 + 11) + rm_X11_ring.locals ≤ R.locals) (h : w_X11_ring N x1 σ Q) (hK : va_K (dC, dI) vwCl (x_ty cI cJ) s) (hP : va_P (dC, dI) vwCl (x_W ad cI cJ σ) H) (hD : va_D (zAW x_n ad s.heap.size) (x_W ad cI cJ σ)) (hS : va_S (zAW x_n ad s.heap.size) s.heap H locs) (hsz : ls.size = nL) (hW : (rest.map fun v => v.category).sum ≤ 8) (hcs : cells ≤ R.cells ∧ slots ≤ R.slots) (hdg : decode cc pc = .ok (.invokevirtual index, 3)) (kk : ∀ (r : Int64) (τ : zSt) (H1 : Heap) (locs1 : List Loc), Q r τ → va_P (dC, dI) vwCl (x_W ad cI cJ τ) H1 → va_D (zAW x_n ad s.heap.size) (x_W ad cI cJ τ) → va_S (zAW x_n ad s.heap.size) s.heap H1 locs1 → W p l e R s m args below meth c H1 locs1 cells slots Q2 (F0 m (pc + 3) ls (.long r :: rest))) : W p l e R s m args below meth c H locs cells slots Q2 (F0 m pc ls (.int x1 :: .ref (ad 0) :: rest)) :=
  zcv_l (T := TX11) (N' := 17) (k := 0) (ci := 11) (fs := x_f0 ad σ) [.int x1] S0 (c_X11_ring N l dC dI ad cI cJ H.size σ x1 Q h) (cw_X11_ring S0.2.2.2.2 hml rfl rfl hR) rfl rfl hK hP hD hS rfl hsz hW rfl hcs hdg kk
end q10
section q10
def w_X11_areFew (N : Nat)  (σ : zSt) (Q : Int32 → zSt → Prop) : Prop :=
  ((σ.1 1) < (2 : Int32) → Q (0 : Int32) σ) ∧ (¬ (σ.1 1) < (2 : Int32) → ((5 : Int32) < (σ.1 1) → Q (0 : Int32) σ) ∧ (¬ (5 : Int32) < (σ.1 1) → Q (1 : Int32) σ))
variable {p : Program} {l : Launch} {e : Env} {s : State} {m : MethodId} {args : Array Value} {below : List Frame} {meth : Method} {c : Code} {dC : Nat → ClassId} {dI : Nat → Nat → Nat} {ad : Nat → Nat} {cI cJ : ClassId}
set_option maxHeartbeats 4000000 in
set_option maxRecDepth 100000 in
theorem t_X11_areFew_0 (C0 : zCx p s m meth c args RX11 cX11_areFew 1 (some .boolean) vs_X11_areFew) (hK : va_K (dC, dI) vwCl (x_ty cI cJ) s) (N : Nat) {Q : Int32 → zSt → Prop} : ∀  (σ : zSt) (H : Heap) (locs : List Loc) (ls : Array Slot), w_X11_areFew N  σ Q → va_P (dC, dI) vwCl (x_W ad cI cJ σ) H → va_D (zAW x_n ad s.heap.size) (x_W ad cI cJ σ) → va_S (zAW x_n ad s.heap.size) s.heap H locs → lv_has ls 1 [(0, .ref (ad 0))] → W p l e rm_X11_areFew s m args below meth c H locs 0 0 (MQ below (zQi (dC, dI) (x_ty cI cJ) (x_W ad cI cJ) (zAW x_n ad s.heap.size) Q) args s 0 0 (zAW x_n ad s.heap.size)) (F0 m 0 ls []) := by
  obtain ⟨hx, hb, hml, hr, hown, hts, hlocks⟩ := id C0
  intro  σ H locs ls h hP hD hS hl
  unfold w_X11_areFew at h
  refine lv_aload_n hx hb dX11_areFew_0 rfl (lv_at hl 0 rfl) ?_
  refine xg_0_2 hx hb hts hown hK hP mw_291 dX11_areFew_1 ?_
  refine xg_3_4 hx hb hts hown hK hP mw_75 dX11_areFew_4 ?_
  refine lv_iconst (v := (2 : Int32)) hx hb dX11_areFew_7 (by decide) ?_
  refine lv_icmp_lt (tgt := 26) hx hb dX11_areFew_8 (by decide) (fun hc => ?_) (fun hc => ?_)
  · have h := h.1 hc
    refine lv_iconst (v := (0 : Int32)) hx hb dX11_areFew_26 (by decide) ?_
    exact zret_z hx hb hr hlocks hK hP hD hS zb_0 h dX11_areFew_27
  · have h := h.2 hc
    refine lv_aload_n hx hb dX11_areFew_11 rfl (lv_at hl 0 rfl) ?_
    refine xg_0_2 hx hb hts hown hK hP mw_291 dX11_areFew_12 ?_
    refine xg_3_4 hx hb hts hown hK hP mw_75 dX11_areFew_15 ?_
    refine lv_iconst (v := (5 : Int32)) hx hb dX11_areFew_18 (by decide) ?_
    refine lv_icmp_gt (tgt := 26) hx hb dX11_areFew_19 (by decide) (fun hc => ?_) (fun hc => ?_)
    · have h := h.1 hc
      refine lv_iconst (v := (0 : Int32)) hx hb dX11_areFew_26 (by decide) ?_
      exact zret_z hx hb hr hlocks hK hP hD hS zb_0 h dX11_areFew_27
    · have h := h.2 hc
      refine lv_iconst (v := (1 : Int32)) hx hb dX11_areFew_22 (by decide) ?_
      refine lv_goto (tgt := 27) hx hb dX11_areFew_23 (by decide) ?_
      exact zret_z hx hb hr hlocks hK hP hD hS zb_1 h dX11_areFew_27
set_option maxHeartbeats 4000000 in
set_option maxRecDepth 100000 in
theorem c_X11_areFew (N : Nat) (l : Launch) (dC : Nat → ClassId) (dI : Nat → Nat → Nat) (ad : Nat → Nat) (cI cJ : ClassId) (sz : Nat) (σ : zSt)  (Q : Int32 → zSt → Prop) (h : w_X11_areFew N  σ Q) : Met l yX11_areFew vs_X11_areFew rm_X11_areFew (va_Pc [.ref (ad 0)] (zPc (dC, dI) (x_ty cI cJ) (x_W ad cI cJ) sz σ)) (zQi (dC, dI) (x_ty cI cJ) (x_W ad cI cJ) (zAW x_n ad sz) Q) 0 0 (zAW x_n ad sz) := by
  refine Met.ofW (cc := cX11_areFew) (maxL := 1) (ret := (some .boolean)) (by decide) rfl ?_
  intro p e s m args below meth c s₁ B hml hv
  obtain ⟨rfl, hsz, hP, hK, hD0⟩ := hv
  subst hsz
  have C0 : zCx p s m meth c _ RX11 cX11_areFew 1 (some .boolean) vs_X11_areFew := ⟨B.exec, B.bytes, hml, B.returns, findClass_of_methodNamed B.named, atoms_spec (ws := vs_X11_areFew) B.pre, B.notSynchronized⟩
  have hD := x_D0 (n0 := s.heap.size) hD0
  have hl := lv_entry ([.ref (ad 0)]) (n := 1) (Nat.le_of_ble_eq_true rfl)
  rw [lg_entry_eq]
  generalize (lg_sl ([.ref (ad 0)]) ++ List.replicate (1 - (lg_sl ([.ref (ad 0)])).length) Slot.unset).toArray = ls at hl ⊢
  exact t_X11_areFew_0 C0 hK N  σ _ _ ls h hP hD va_S.rf hl
theorem k_X11_areFew (N : Nat) {R : Room} {H : Heap} {locs : List Loc} {cells slots : Nat} {Q2 : State → Prop} {cc : ByteArray} {nL pc index : Nat} {ls : Array Slot} {rest : List Value} {own : String} {c0 : Cond} {σ : zSt}  {Q : Int32 → zSt → Prop} (S0 : CallFix p m c cc nL s args (c0 :: zT) own) (hml : Cond.methodLink own index yX11_areFew ∈ zT) (hR : rm_X11_areFew.frames + 1 ≤ R.frames ∧ 8 + (1 + 11) + rm_X11_areFew.locals ≤ R.locals) (h : w_X11_areFew N  σ Q) (hK : va_K (dC, dI) vwCl (x_ty cI cJ) s) (hP : va_P (dC, dI) vwCl (x_W ad cI cJ σ) H) (hD : va_D (zAW x_n ad s.heap.size) (x_W ad cI cJ σ)) (hS : va_S (zAW x_n ad s.heap.size) s.heap H locs) (hsz : ls.size = nL) (hW : (rest.map fun v => v.category).sum ≤ 8) (hcs : cells ≤ R.cells ∧ slots ≤ R.slots) (hdg : decode cc pc = .ok (.invokevirtual index, 3)) (kk : ∀ (r : Int32) (τ : zSt) (H1 : Heap) (locs1 : List Loc), Q r τ → va_P (dC, dI) vwCl (x_W ad cI cJ τ) H1 → va_D (zAW x_n ad s.heap.size) (x_W ad cI cJ τ) → va_S (zAW x_n ad s.heap.size) s.heap H1 locs1 → W p l e R s m args below meth c H1 locs1 cells slots Q2 (F0 m (pc + 3) ls (.int r :: rest))) : W p l e R s m args below meth c H locs cells slots Q2 (F0 m pc ls (.ref (ad 0) :: rest)) :=
  zcv_i (T := TX11) (N' := 17) (k := 0) (ci := 11) (fs := x_f0 ad σ) [] S0 (c_X11_areFew N l dC dI ad cI cJ H.size σ  Q h) (cw_X11_areFew S0.2.2.2.2 hml rfl rfl hR) rfl rfl hK hP hD hS rfl hsz hW rfl hcs hdg kk
end q10
section q10
def b_J7_fill_53178_5 (N : Nat) (k_5 : Int32 → Int32 → Int32 → zSt → Prop) (Q : zSt → Prop) (x1 : Int32) (x2 : Int32) (x3 : Int32) (σ : zSt) : Prop :=
  (x3 ≤ x2 → Q σ) ∧ (¬ x3 ≤ x2 → (vp_in x2 1024) ∧ (∀ τ1 : zSt, τ1 = zA σ 0 (upd (σ.2.2.1 0) (x2.toNatClampNeg) x1) → ∀ v2 : Int32, v2 = x2 + (1 : Int32) → k_5 x1 v2 x3 τ1))
def w_J7_fill_53178_5 (N : Nat) (Q : zSt → Prop) : Nat → Int32 → Int32 → Int32 → zSt → Prop
  | 0 => fun _ _ _ _ => False
  | f + 1 => b_J7_fill_53178_5 N (w_J7_fill_53178_5 N  Q f) Q
def w_J7_fill_53178 (N : Nat) (x1 : Int32) (σ : zSt) (Q : zSt → Prop) : Prop :=
  w_J7_fill_53178_5 N Q N x1 (0 : Int32) (1024 : Int32) σ
variable {p : Program} {l : Launch} {e : Env} {s : State} {m : MethodId} {args : Array Value} {below : List Frame} {meth : Method} {c : Code} {dC : Nat → ClassId} {dI : Nat → Nat → Nat} {ad : Nat → Nat} {cI cJ : ClassId}
set_option maxHeartbeats 4000000 in
set_option maxRecDepth 100000 in
theorem tb_J7_fill_53178_5 (C0 : zCx p s m meth c args RJ7 cJ7_fill_53178 4 none vs_J7_fill_53178) (hK : va_K (dC, dI) vwCl (x_ty cI cJ) s) (N : Nat) {Q : zSt → Prop} {k_5 : Int32 → Int32 → Int32 → zSt → Prop} (hk_5 : ∀ (x1 : Int32) (x2 : Int32) (x3 : Int32) (σ : zSt) (H : Heap) (locs : List Loc) (ls : Array Slot), k_5 x1 x2 x3 σ → va_P (dC, dI) vwCl (x_W ad cI cJ σ) H → va_D (zAW x_n ad s.heap.size) (x_W ad cI cJ σ) → va_S (zAW x_n ad s.heap.size) s.heap H locs → lv_has ls 4 [(0, .ref (ad 15)), (1, .int x1), (2, .int x2), (3, .int x3)] → W p l e rm_J7_fill_53178 s m args below meth c H locs 0 0 (MQ below (zQv (dC, dI) (x_ty cI cJ) (x_W ad cI cJ) (zAW x_n ad s.heap.size) Q) args s 0 0 (zAW x_n ad s.heap.size)) (F0 m 5 ls [])) : ∀ (x1 : Int32) (x2 : Int32) (x3 : Int32) (σ : zSt) (H : Heap) (locs : List Loc) (ls : Array Slot), b_J7_fill_53178_5 N k_5 Q x1 x2 x3 σ → va_P (dC, dI) vwCl (x_W ad cI cJ σ) H → va_D (zAW x_n ad s.heap.size) (x_W ad cI cJ σ) → va_S (zAW x_n ad s.heap.size) s.heap H locs → lv_has ls 4 [(0, .ref (ad 15)), (1, .int x1), (2, .int x2), (3, .int x3)] → W p l e rm_J7_fill_53178 s m args below meth c H locs 0 0 (MQ below (zQv (dC, dI) (x_ty cI cJ) (x_W ad cI cJ) (zAW x_n ad s.heap.size) Q) args s 0 0 (zAW x_n ad s.heap.size)) (F0 m 5 ls []) := by
  obtain ⟨hx, hb, hml, hr, hown, hts, hlocks⟩ := id C0
  intro x1 x2 x3 σ H locs ls h hP hD hS hl
  unfold b_J7_fill_53178_5 at h
  refine lv_iload_n hx hb dJ7_fill_53178_5 rfl (lv_at hl 2 rfl) ?_
  refine lv_iload_n hx hb dJ7_fill_53178_6 rfl (lv_at hl 3 rfl) ?_
  refine lv_icmp_ge (tgt := 20) hx hb dJ7_fill_53178_7 (by decide) (fun hc => ?_) (fun hc => ?_)
  · have h := h.1 hc
    exact zret_v hx hb hr hlocks hK hP hD hS h dJ7_fill_53178_20
  · have h := h.2 hc
    refine lv_aload_n hx hb dJ7_fill_53178_10 rfl (lv_at hl 0 rfl) ?_
    refine lv_iload_n hx hb dJ7_fill_53178_11 rfl (lv_at hl 2 rfl) ?_
    refine lv_iload_n hx hb dJ7_fill_53178_12 rfl (lv_at hl 1 rfl) ?_
    refine xs_15 hx hb hK hP hD hS h.1 rfl dJ7_fill_53178_13 (fun τ1 H locs eτ1 hP hD hS => ?_)
    have h := h.2
    have h := h τ1 eτ1
    obtain ⟨v2, ev2⟩ : ∃ z : Int32, z = x2 + (1 : Int32) := ⟨_, rfl⟩
    have h := h v2 ev2
    refine lv_iinc (v := v2) (lv' := [(2, .int v2), (0, .ref (ad 15)), (1, .int x1), (3, .int x3)]) hx hb dJ7_fill_53178_14 hl (k := 2) rfl (by rw [ev2]; rfl) (by decide) rfl (fun ls hl => ?_)
    refine lv_goto (tgt := 5) hx hb dJ7_fill_53178_17 (by decide) ?_
    exact hk_5 x1 v2 x3 τ1 _ _ _ h hP hD hS (lv_sub hl [1, 2, 0, 3] rfl)
set_option maxHeartbeats 4000000 in
set_option maxRecDepth 100000 in
theorem t_J7_fill_53178_5 (C0 : zCx p s m meth c args RJ7 cJ7_fill_53178 4 none vs_J7_fill_53178) (hK : va_K (dC, dI) vwCl (x_ty cI cJ) s) (N : Nat) {Q : zSt → Prop} : ∀ (f : Nat) (x1 : Int32) (x2 : Int32) (x3 : Int32) (σ : zSt) (H : Heap) (locs : List Loc) (ls : Array Slot), w_J7_fill_53178_5 N  Q f x1 x2 x3 σ → va_P (dC, dI) vwCl (x_W ad cI cJ σ) H → va_D (zAW x_n ad s.heap.size) (x_W ad cI cJ σ) → va_S (zAW x_n ad s.heap.size) s.heap H locs → lv_has ls 4 [(0, .ref (ad 15)), (1, .int x1), (2, .int x2), (3, .int x3)] → W p l e rm_J7_fill_53178 s m args below meth c H locs 0 0 (MQ below (zQv (dC, dI) (x_ty cI cJ) (x_W ad cI cJ) (zAW x_n ad s.heap.size) Q) args s 0 0 (zAW x_n ad s.heap.size)) (F0 m 5 ls []) := by
  intro f
  induction f with
  | zero => intro x1 x2 x3 σ H locs ls h; exact h.elim
  | succ f ih =>
    intro x1 x2 x3 σ H locs ls h hP hD hS hl
    exact tb_J7_fill_53178_5 C0 hK N  (k_5 := w_J7_fill_53178_5 N  Q f) ih x1 x2 x3 σ H locs ls h hP hD hS hl
set_option maxHeartbeats 4000000 in
set_option maxRecDepth 100000 in
theorem t_J7_fill_53178_0 (C0 : zCx p s m meth c args RJ7 cJ7_fill_53178 4 none vs_J7_fill_53178) (hK : va_K (dC, dI) vwCl (x_ty cI cJ) s) (N : Nat) {Q : zSt → Prop} : ∀ (x1 : Int32) (σ : zSt) (H : Heap) (locs : List Loc) (ls : Array Slot), w_J7_fill_53178 N x1 σ Q → va_P (dC, dI) vwCl (x_W ad cI cJ σ) H → va_D (zAW x_n ad s.heap.size) (x_W ad cI cJ σ) → va_S (zAW x_n ad s.heap.size) s.heap H locs → lv_has ls 4 [(0, .ref (ad 15)), (1, .int x1)] → W p l e rm_J7_fill_53178 s m args below meth c H locs 0 0 (MQ below (zQv (dC, dI) (x_ty cI cJ) (x_W ad cI cJ) (zAW x_n ad s.heap.size) Q) args s 0 0 (zAW x_n ad s.heap.size)) (F0 m 0 ls []) := by
  obtain ⟨hx, hb, hml, hr, hown, hts, hlocks⟩ := id C0
  intro x1 σ H locs ls h hP hD hS hl
  unfold w_J7_fill_53178 at h
  refine lv_iconst (v := (0 : Int32)) hx hb dJ7_fill_53178_0 (by decide) ?_
  refine lv_istore_n (lv' := [(2, .int (0 : Int32)), (0, .ref (ad 15)), (1, .int x1)]) hx hb dJ7_fill_53178_1 rfl hl (by decide) rfl (fun ls hl => ?_)
  refine lv_aload_n hx hb dJ7_fill_53178_2 rfl (lv_at hl 1 rfl) ?_
  refine xl_15 hx hb hK hP dJ7_fill_53178_3 ?_
  refine lv_istore_n (lv' := [(3, .int (1024 : Int32)), (2, .int (0 : Int32)), (0, .ref (ad 15)), (1, .int x1)]) hx hb dJ7_fill_53178_4 rfl hl (by decide) rfl (fun ls hl => ?_)
  exact t_J7_fill_53178_5 C0 hK N  N x1 (0 : Int32) (1024 : Int32) σ _ _ _ h hP hD hS (lv_sub hl [2, 3, 1, 0] rfl)
set_option maxHeartbeats 4000000 in
set_option maxRecDepth 100000 in
theorem c_J7_fill_53178 (N : Nat) (l : Launch) (dC : Nat → ClassId) (dI : Nat → Nat → Nat) (ad : Nat → Nat) (cI cJ : ClassId) (sz : Nat) (σ : zSt) (x1 : Int32) (Q : zSt → Prop) (h : w_J7_fill_53178 N x1 σ Q) : Met l yJ7_fill_53178 vs_J7_fill_53178 rm_J7_fill_53178 (va_Pc [.ref (ad 15), .int x1] (zPc (dC, dI) (x_ty cI cJ) (x_W ad cI cJ) sz σ)) (zQv (dC, dI) (x_ty cI cJ) (x_W ad cI cJ) (zAW x_n ad sz) Q) 0 0 (zAW x_n ad sz) := by
  refine Met.ofW (cc := cJ7_fill_53178) (maxL := 4) (ret := none) (by decide) rfl ?_
  intro p e s m args below meth c s₁ B hml hv
  obtain ⟨rfl, hsz, hP, hK, hD0⟩ := hv
  subst hsz
  have C0 : zCx p s m meth c _ RJ7 cJ7_fill_53178 4 none vs_J7_fill_53178 := ⟨B.exec, B.bytes, hml, B.returns, findClass_of_methodNamed B.named, atoms_spec (ws := vs_J7_fill_53178) B.pre, B.notSynchronized⟩
  have hD := x_D0 (n0 := s.heap.size) hD0
  have hl := lv_entry ([.ref (ad 15), .int x1]) (n := 4) (Nat.le_of_ble_eq_true rfl)
  rw [lg_entry_eq]
  generalize (lg_sl ([.ref (ad 15), .int x1]) ++ List.replicate (4 - (lg_sl ([.ref (ad 15), .int x1])).length) Slot.unset).toArray = ls at hl ⊢
  exact t_J7_fill_53178_0 C0 hK N x1 σ _ _ ls h hP hD va_S.rf hl
theorem k_J7_fill_53178 (N : Nat) {R : Room} {H : Heap} {locs : List Loc} {cells slots : Nat} {Q2 : State → Prop} {cc : ByteArray} {nL pc index : Nat} {ls : Array Slot} {rest : List Value} {own : String} {c0 : Cond} {σ : zSt} {x1 : Int32} {Q : zSt → Prop} (S0 : CallFix p m c cc nL s args (c0 :: zT) own) (hml : Cond.methodLink own index yJ7_fill_53178 ∈ zT) (hR : rm_J7_fill_53178.frames + 1 ≤ R.frames ∧ 8 + (4 + 11) + rm_J7_fill_53178.locals ≤ R.locals) (h : w_J7_fill_53178 N x1 σ Q) (hK : va_K (dC, dI) vwCl (x_ty cI cJ) s) (hP : va_P (dC, dI) vwCl (x_W ad cI cJ σ) H) (hD : va_D (zAW x_n ad s.heap.size) (x_W ad cI cJ σ)) (hS : va_S (zAW x_n ad s.heap.size) s.heap H locs) (hsz : ls.size = nL) (hW : (rest.map fun v => v.category).sum ≤ 8) (hcs : cells ≤ R.cells ∧ slots ≤ R.slots) (hdg : decode cc pc = .ok (.invokestatic index, 3)) (kk : ∀ (τ : zSt) (H1 : Heap) (locs1 : List Loc), Q τ → va_P (dC, dI) vwCl (x_W ad cI cJ τ) H1 → va_D (zAW x_n ad s.heap.size) (x_W ad cI cJ τ) → va_S (zAW x_n ad s.heap.size) s.heap H1 locs1 → W p l e R s m args below meth c H1 locs1 cells slots Q2 (F0 m (pc + 3) ls (rest))) : W p l e R s m args below meth c H locs cells slots Q2 (F0 m pc ls (.int x1 :: .ref (ad 15) :: rest)) :=
  zcs_v [.ref (ad 15), .int x1] S0 (c_J7_fill_53178 N l dC dI ad cI cJ H.size σ x1 Q h) (cw_J7_fill_53178 S0.2.2.2.2 hml hR) hK hP hD hS rfl hsz hW rfl hcs hdg kk
end q10
section q10
def b_X2_start_15 (N : Nat) (k_15 : Int32 → zSt → Prop) (Q : zSt → Prop) (x2 : Int32) (σ : zSt) : Prop :=
  ((σ.1 33) ≤ x2 → Q σ) ∧ (¬ (σ.1 33) ≤ x2 → (vp_in x2 5) ∧ (∀ τ1 : zSt, τ1 = zA σ 31 (upd (σ.2.2.1 31) (x2.toNatClampNeg) x2) → ∀ v2 : Int32, v2 = x2 + (1 : Int32) → k_15 v2 τ1))
def w_X2_start_15 (N : Nat) (Q : zSt → Prop) : Nat → Int32 → zSt → Prop
  | 0 => fun _ _ => False
  | f + 1 => b_X2_start_15 N (w_X2_start_15 N  Q f) Q
def w_X2_start (N : Nat) (x1 : Int32) (σ : zSt) (Q : zSt → Prop) : Prop :=
  ∀ τ1 : zSt, τ1 = zI σ 33 (if (5 : Int32) < x1 then (5 : Int32) else x1) → w_X2_start_15 N Q N (0 : Int32) τ1
variable {p : Program} {l : Launch} {e : Env} {s : State} {m : MethodId} {args : Array Value} {below : List Frame} {meth : Method} {c : Code} {dC : Nat → ClassId} {dI : Nat → Nat → Nat} {ad : Nat → Nat} {cI cJ : ClassId}
set_option maxHeartbeats 4000000 in
set_option maxRecDepth 100000 in
theorem tb_X2_start_15 (C0 : zCx p s m meth c args RX2 cX2_start 3 none vs_X2_start) (hK : va_K (dC, dI) vwCl (x_ty cI cJ) s) (N : Nat) {Q : zSt → Prop} {k_15 : Int32 → zSt → Prop} (hk_15 : ∀ (x2 : Int32) (σ : zSt) (H : Heap) (locs : List Loc) (ls : Array Slot), k_15 x2 σ → va_P (dC, dI) vwCl (x_W ad cI cJ σ) H → va_D (zAW x_n ad s.heap.size) (x_W ad cI cJ σ) → va_S (zAW x_n ad s.heap.size) s.heap H locs → lv_has ls 3 [(0, .ref (ad 12)), (2, .int x2)] → W p l e rm_X2_start s m args below meth c H locs 0 0 (MQ below (zQv (dC, dI) (x_ty cI cJ) (x_W ad cI cJ) (zAW x_n ad s.heap.size) Q) args s 0 0 (zAW x_n ad s.heap.size)) (F0 m 15 ls [])) : ∀ (x2 : Int32) (σ : zSt) (H : Heap) (locs : List Loc) (ls : Array Slot), b_X2_start_15 N k_15 Q x2 σ → va_P (dC, dI) vwCl (x_W ad cI cJ σ) H → va_D (zAW x_n ad s.heap.size) (x_W ad cI cJ σ) → va_S (zAW x_n ad s.heap.size) s.heap H locs → lv_has ls 3 [(0, .ref (ad 12)), (2, .int x2)] → W p l e rm_X2_start s m args below meth c H locs 0 0 (MQ below (zQv (dC, dI) (x_ty cI cJ) (x_W ad cI cJ) (zAW x_n ad s.heap.size) Q) args s 0 0 (zAW x_n ad s.heap.size)) (F0 m 15 ls []) := by
  obtain ⟨hx, hb, hml, hr, hown, hts, hlocks⟩ := id C0
  intro x2 σ H locs ls h hP hD hS hl
  unfold b_X2_start_15 at h
  refine lv_iload_n hx hb dX2_start_15 rfl (lv_at hl 1 rfl) ?_
  refine lv_aload_n hx hb dX2_start_16 rfl (lv_at hl 0 rfl) ?_
  refine xg_12_1 hx hb hts hown hK hP mw_255 dX2_start_17 ?_
  refine lv_icmp_ge (tgt := 36) hx hb dX2_start_20 (by decide) (fun hc => ?_) (fun hc => ?_)
  · have h := h.1 hc
    exact zret_v hx hb hr hlocks hK hP hD hS h dX2_start_36
  · have h := h.2 hc
    refine lv_aload_n hx hb dX2_start_23 rfl (lv_at hl 0 rfl) ?_
    refine xg_12_0 hx hb hts hown hK hP mw_253 dX2_start_24 ?_
    refine lv_iload_n hx hb dX2_start_27 rfl (lv_at hl 1 rfl) ?_
    refine lv_iload_n hx hb dX2_start_28 rfl (lv_at hl 1 rfl) ?_
    refine xs_57 hx hb hK hP hD hS h.1 rfl dX2_start_29 (fun τ1 H locs eτ1 hP hD hS => ?_)
    have h := h.2
    have h := h τ1 eτ1
    obtain ⟨v2, ev2⟩ : ∃ z : Int32, z = x2 + (1 : Int32) := ⟨_, rfl⟩
    have h := h v2 ev2
    refine lv_iinc (v := v2) (lv' := [(2, .int v2), (0, .ref (ad 12))]) hx hb dX2_start_30 hl (k := 1) rfl (by rw [ev2]; rfl) (by decide) rfl (fun ls hl => ?_)
    refine lv_goto (tgt := 15) hx hb dX2_start_33 (by decide) ?_
    exact hk_15 v2 τ1 _ _ _ h hP hD hS (lv_sub hl [1, 0] rfl)
set_option maxHeartbeats 4000000 in
set_option maxRecDepth 100000 in
theorem t_X2_start_15 (C0 : zCx p s m meth c args RX2 cX2_start 3 none vs_X2_start) (hK : va_K (dC, dI) vwCl (x_ty cI cJ) s) (N : Nat) {Q : zSt → Prop} : ∀ (f : Nat) (x2 : Int32) (σ : zSt) (H : Heap) (locs : List Loc) (ls : Array Slot), w_X2_start_15 N  Q f x2 σ → va_P (dC, dI) vwCl (x_W ad cI cJ σ) H → va_D (zAW x_n ad s.heap.size) (x_W ad cI cJ σ) → va_S (zAW x_n ad s.heap.size) s.heap H locs → lv_has ls 3 [(0, .ref (ad 12)), (2, .int x2)] → W p l e rm_X2_start s m args below meth c H locs 0 0 (MQ below (zQv (dC, dI) (x_ty cI cJ) (x_W ad cI cJ) (zAW x_n ad s.heap.size) Q) args s 0 0 (zAW x_n ad s.heap.size)) (F0 m 15 ls []) := by
  intro f
  induction f with
  | zero => intro x2 σ H locs ls h; exact h.elim
  | succ f ih =>
    intro x2 σ H locs ls h hP hD hS hl
    exact tb_X2_start_15 C0 hK N  (k_15 := w_X2_start_15 N  Q f) ih x2 σ H locs ls h hP hD hS hl
set_option maxHeartbeats 4000000 in
set_option maxRecDepth 100000 in
theorem t_X2_start_0 (C0 : zCx p s m meth c args RX2 cX2_start 3 none vs_X2_start) (hK : va_K (dC, dI) vwCl (x_ty cI cJ) s) (N : Nat) {Q : zSt → Prop} : ∀ (x1 : Int32) (σ : zSt) (H : Heap) (locs : List Loc) (ls : Array Slot), w_X2_start N x1 σ Q → va_P (dC, dI) vwCl (x_W ad cI cJ σ) H → va_D (zAW x_n ad s.heap.size) (x_W ad cI cJ σ) → va_S (zAW x_n ad s.heap.size) s.heap H locs → lv_has ls 3 [(0, .ref (ad 12)), (1, .int x1)] → W p l e rm_X2_start s m args below meth c H locs 0 0 (MQ below (zQv (dC, dI) (x_ty cI cJ) (x_W ad cI cJ) (zAW x_n ad s.heap.size) Q) args s 0 0 (zAW x_n ad s.heap.size)) (F0 m 0 ls []) := by
  obtain ⟨hx, hb, hml, hr, hown, hts, hlocks⟩ := id C0
  intro x1 σ H locs ls h hP hD hS hl
  unfold w_X2_start at h
  refine lv_aload_n hx hb dX2_start_0 rfl (lv_at hl 0 rfl) ?_
  refine lv_iload_n hx hb dX2_start_1 rfl (lv_at hl 1 rfl) ?_
  refine lv_aload_n hx hb dX2_start_2 rfl (lv_at hl 0 rfl) ?_
  refine xg_12_0 hx hb hts hown hK hP mw_253 dX2_start_3 ?_
  refine xl_57 hx hb hK hP dX2_start_6 ?_
  refine va_mmin hx hb (hml.trans hl.1.symm) hown (hts _ (List.mem_cons_of_mem _ mw_718)) (hts _ (List.mem_cons_of_mem _ mw_445)) (hts _ (List.mem_cons_of_mem _ mw_19)) (hts _ (List.mem_cons_of_mem _ mw_446)) (Nat.le_of_ble_eq_true rfl) (Nat.le_of_ble_eq_true rfl) (Nat.zero_le _) (Nat.zero_le _) dX2_start_7 ?_
  refine xp_12_1 hx hb hts hown hK hP hD hS mw_255 dX2_start_10 (fun τ1 H locs eτ1 hP hD hS => ?_)
  have h := h τ1 eτ1
  refine lv_iconst (v := (0 : Int32)) hx hb dX2_start_13 (by decide) ?_
  refine lv_istore_n (lv' := [(2, .int (0 : Int32)), (0, .ref (ad 12)), (1, .int x1)]) hx hb dX2_start_14 rfl hl (by decide) rfl (fun ls hl => ?_)
  exact t_X2_start_15 C0 hK N  N (0 : Int32) τ1 _ _ _ h hP hD hS (lv_sub hl [1, 0] rfl)
set_option maxHeartbeats 4000000 in
set_option maxRecDepth 100000 in
theorem c_X2_start (N : Nat) (l : Launch) (dC : Nat → ClassId) (dI : Nat → Nat → Nat) (ad : Nat → Nat) (cI cJ : ClassId) (sz : Nat) (σ : zSt) (x1 : Int32) (Q : zSt → Prop) (h : w_X2_start N x1 σ Q) : Met l yX2_start vs_X2_start rm_X2_start (va_Pc [.ref (ad 12), .int x1] (zPc (dC, dI) (x_ty cI cJ) (x_W ad cI cJ) sz σ)) (zQv (dC, dI) (x_ty cI cJ) (x_W ad cI cJ) (zAW x_n ad sz) Q) 0 0 (zAW x_n ad sz) := by
  refine Met.ofW (cc := cX2_start) (maxL := 3) (ret := none) (by decide) rfl ?_
  intro p e s m args below meth c s₁ B hml hv
  obtain ⟨rfl, hsz, hP, hK, hD0⟩ := hv
  subst hsz
  have C0 : zCx p s m meth c _ RX2 cX2_start 3 none vs_X2_start := ⟨B.exec, B.bytes, hml, B.returns, findClass_of_methodNamed B.named, atoms_spec (ws := vs_X2_start) B.pre, B.notSynchronized⟩
  have hD := x_D0 (n0 := s.heap.size) hD0
  have hl := lv_entry ([.ref (ad 12), .int x1]) (n := 3) (Nat.le_of_ble_eq_true rfl)
  rw [lg_entry_eq]
  generalize (lg_sl ([.ref (ad 12), .int x1]) ++ List.replicate (3 - (lg_sl ([.ref (ad 12), .int x1])).length) Slot.unset).toArray = ls at hl ⊢
  exact t_X2_start_0 C0 hK N x1 σ _ _ ls h hP hD va_S.rf hl
theorem k_X2_start (N : Nat) {R : Room} {H : Heap} {locs : List Loc} {cells slots : Nat} {Q2 : State → Prop} {cc : ByteArray} {nL pc index : Nat} {ls : Array Slot} {rest : List Value} {own : String} {c0 : Cond} {σ : zSt} {x1 : Int32} {Q : zSt → Prop} (S0 : CallFix p m c cc nL s args (c0 :: zT) own) (hml : Cond.methodLink own index yX2_start ∈ zT) (hR : rm_X2_start.frames + 1 ≤ R.frames ∧ 8 + (3 + 11) + rm_X2_start.locals ≤ R.locals) (h : w_X2_start N x1 σ Q) (hK : va_K (dC, dI) vwCl (x_ty cI cJ) s) (hP : va_P (dC, dI) vwCl (x_W ad cI cJ σ) H) (hD : va_D (zAW x_n ad s.heap.size) (x_W ad cI cJ σ)) (hS : va_S (zAW x_n ad s.heap.size) s.heap H locs) (hsz : ls.size = nL) (hW : (rest.map fun v => v.category).sum ≤ 8) (hcs : cells ≤ R.cells ∧ slots ≤ R.slots) (hdg : decode cc pc = .ok (.invokevirtual index, 3)) (kk : ∀ (τ : zSt) (H1 : Heap) (locs1 : List Loc), Q τ → va_P (dC, dI) vwCl (x_W ad cI cJ τ) H1 → va_D (zAW x_n ad s.heap.size) (x_W ad cI cJ τ) → va_S (zAW x_n ad s.heap.size) s.heap H1 locs1 → W p l e R s m args below meth c H1 locs1 cells slots Q2 (F0 m (pc + 3) ls (rest))) : W p l e R s m args below meth c H locs cells slots Q2 (F0 m pc ls (.int x1 :: .ref (ad 12) :: rest)) :=
  zcv_v (T := TX2) (N' := 2) (k := 12) (ci := 2) (fs := x_f12 ad σ) [.int x1] S0 (c_X2_start N l dC dI ad cI cJ H.size σ x1 Q h) (cw_X2_start S0.2.2.2.2 hml rfl rfl hR) rfl rfl hK hP hD hS rfl hsz hW rfl hcs hdg kk
end q10
section q10
def b_X2_renamed_17 (N : Nat) (k_5 : Int64 → Int64 → Int32 → zSt → Prop) (k_17 : Int64 → Int64 → Int32 → Int32 → zSt → Prop) (Q : Int64 → zSt → Prop) (x1 : Int64) (x3 : Int64) (x5 : Int32) (x6 : Int32) (σ : zSt) : Prop :=
  (x5 ≤ x6 → ∀ v1 : Int32, v1 = x5 + (1 : Int32) → k_5 x1 x3 v1 σ) ∧ (¬ x5 ≤ x6 → w_X3_number N x6 x5 σ (fun r2 τ3 => ((lg_cmp ((x1 >>> (r2.toInt64 &&& 63)) &&& (1 : Int64)) (0 : Int64)) = 0 → ∀ v4 : Int32, v4 = x6 + (1 : Int32) → k_17 x1 x3 x5 v4 τ3) ∧ (¬ (lg_cmp ((x1 >>> (r2.toInt64 &&& 63)) &&& (1 : Int64)) (0 : Int64)) = 0 → (vp_in x6 5) ∧ ((vp_in x5 5) ∧ (w_X3_number N (τ3.2.2.1 31 x6.toNatClampNeg) (τ3.2.2.1 31 x5.toNatClampNeg) τ3 (fun r5 τ6 => ∀ v7 : Int64, v7 = x3 ||| ((1 : Int64) <<< (r5.toInt64 &&& 63)) → ∀ v8 : Int32, v8 = x6 + (1 : Int32) → k_17 x1 v7 x5 v8 τ6))))))
def w_X2_renamed_17 (N : Nat) (k_5 : Int64 → Int64 → Int32 → zSt → Prop) (Q : Int64 → zSt → Prop) : Nat → Int64 → Int64 → Int32 → Int32 → zSt → Prop
  | 0 => fun _ _ _ _ _ => False
  | f + 1 => b_X2_renamed_17 N k_5 (w_X2_renamed_17 N k_5 Q f) Q
def b_X2_renamed_5 (N : Nat) (k_5 : Int64 → Int64 → Int32 → zSt → Prop) (Q : Int64 → zSt → Prop) (x1 : Int64) (x3 : Int64) (x5 : Int32) (σ : zSt) : Prop :=
  ((σ.1 33) ≤ x5 → Q x3 σ) ∧ (¬ (σ.1 33) ≤ x5 → w_X2_renamed_17 N k_5 Q N x1 x3 x5 (0 : Int32) σ)
def w_X2_renamed_5 (N : Nat) (Q : Int64 → zSt → Prop) : Nat → Int64 → Int64 → Int32 → zSt → Prop
  | 0 => fun _ _ _ _ => False
  | f + 1 => b_X2_renamed_5 N (w_X2_renamed_5 N  Q f) Q
def w_X2_renamed (N : Nat) (x1 : Int64) (σ : zSt) (Q : Int64 → zSt → Prop) : Prop :=
  w_X2_renamed_5 N Q N x1 (0 : Int64) (1 : Int32) σ
variable {p : Program} {l : Launch} {e : Env} {s : State} {m : MethodId} {args : Array Value} {below : List Frame} {meth : Method} {c : Code} {dC : Nat → ClassId} {dI : Nat → Nat → Nat} {ad : Nat → Nat} {cI cJ : ClassId}
set_option maxHeartbeats 4000000 in
set_option maxRecDepth 100000 in
theorem tb_X2_renamed_17 (C0 : zCx p s m meth c args RX2 cX2_renamed 7 (some .long) vs_X2_renamed) (hK : va_K (dC, dI) vwCl (x_ty cI cJ) s) (N : Nat) {Q : Int64 → zSt → Prop} {k_5 : Int64 → Int64 → Int32 → zSt → Prop} (hk_5 : ∀ (x1 : Int64) (x3 : Int64) (x5 : Int32) (σ : zSt) (H : Heap) (locs : List Loc) (ls : Array Slot), k_5 x1 x3 x5 σ → va_P (dC, dI) vwCl (x_W ad cI cJ σ) H → va_D (zAW x_n ad s.heap.size) (x_W ad cI cJ σ) → va_S (zAW x_n ad s.heap.size) s.heap H locs → lv_has ls 7 [(0, .ref (ad 12)), (1, .long x1), (3, .long x3), (5, .int x5)] → W p l e rm_X2_renamed s m args below meth c H locs 0 0 (MQ below (zQl (dC, dI) (x_ty cI cJ) (x_W ad cI cJ) (zAW x_n ad s.heap.size) Q) args s 0 0 (zAW x_n ad s.heap.size)) (F0 m 5 ls [])) {k_17 : Int64 → Int64 → Int32 → Int32 → zSt → Prop} (hk_17 : ∀ (x1 : Int64) (x3 : Int64) (x5 : Int32) (x6 : Int32) (σ : zSt) (H : Heap) (locs : List Loc) (ls : Array Slot), k_17 x1 x3 x5 x6 σ → va_P (dC, dI) vwCl (x_W ad cI cJ σ) H → va_D (zAW x_n ad s.heap.size) (x_W ad cI cJ σ) → va_S (zAW x_n ad s.heap.size) s.heap H locs → lv_has ls 7 [(0, .ref (ad 12)), (1, .long x1), (3, .long x3), (5, .int x5), (6, .int x6)] → W p l e rm_X2_renamed s m args below meth c H locs 0 0 (MQ below (zQl (dC, dI) (x_ty cI cJ) (x_W ad cI cJ) (zAW x_n ad s.heap.size) Q) args s 0 0 (zAW x_n ad s.heap.size)) (F0 m 17 ls [])) : ∀ (x1 : Int64) (x3 : Int64) (x5 : Int32) (x6 : Int32) (σ : zSt) (H : Heap) (locs : List Loc) (ls : Array Slot), b_X2_renamed_17 N k_5 k_17 Q x1 x3 x5 x6 σ → va_P (dC, dI) vwCl (x_W ad cI cJ σ) H → va_D (zAW x_n ad s.heap.size) (x_W ad cI cJ σ) → va_S (zAW x_n ad s.heap.size) s.heap H locs → lv_has ls 7 [(0, .ref (ad 12)), (1, .long x1), (3, .long x3), (5, .int x5), (6, .int x6)] → W p l e rm_X2_renamed s m args below meth c H locs 0 0 (MQ below (zQl (dC, dI) (x_ty cI cJ) (x_W ad cI cJ) (zAW x_n ad s.heap.size) Q) args s 0 0 (zAW x_n ad s.heap.size)) (F0 m 17 ls []) := by
  obtain ⟨hx, hb, hml, hr, hown, hts, hlocks⟩ := id C0
  intro x1 x3 x5 x6 σ H locs ls h hP hD hS hl
  unfold b_X2_renamed_17 at h
  refine lv_iload hx hb dX2_renamed_17 (lv_at hl 4 rfl) ?_
  refine lv_iload hx hb dX2_renamed_19 (lv_at hl 3 rfl) ?_
  refine lv_icmp_ge (tgt := 68) hx hb dX2_renamed_21 (by decide) (fun hc => ?_) (fun hc => ?_)
  · have h := h.1 hc
    obtain ⟨v1, ev1⟩ : ∃ z : Int32, z = x5 + (1 : Int32) := ⟨_, rfl⟩
    have h := h v1 ev1
    refine lv_iinc (v := v1) (lv' := [(5, .int v1), (0, .ref (ad 12)), (1, .long x1), (3, .long x3), (6, .int x6)]) hx hb dX2_renamed_68 hl (k := 3) rfl (by rw [ev1]; rfl) (by decide) rfl (fun ls hl => ?_)
    refine lv_goto (tgt := 5) hx hb dX2_renamed_71 (by decide) ?_
    exact hk_5 x1 x3 v1 σ _ _ _ h hP hD hS (lv_sub hl [1, 2, 3, 0] rfl)
  · have h := h.2 hc
    refine lv_lload_n hx hb dX2_renamed_24 rfl (lv_at hl 1 rfl) ?_
    refine lv_iload hx hb dX2_renamed_25 (lv_at hl 4 rfl) ?_
    refine lv_iload hx hb dX2_renamed_27 (lv_at hl 3 rfl) ?_
    refine k_X3_number N ⟨hx, hb, hml, hown, hts⟩ mw_722 ⟨Nat.le_of_ble_eq_true rfl, Nat.le_of_ble_eq_true rfl⟩ h hK hP hD hS hl.1 (rest := [.long x1]) (Nat.le_of_ble_eq_true rfl) ⟨Nat.le_of_ble_eq_true rfl, Nat.le_of_ble_eq_true rfl⟩ dX2_renamed_29 (fun r2 τ3 H locs h hP hD hS => ?_)
    refine lv_lshr hx hb dX2_renamed_32 rfl ?_
    refine lv_lconst (v := (1 : Int64)) hx hb dX2_renamed_33 (by decide) ?_
    refine lv_land hx hb dX2_renamed_34 ?_
    refine lv_lconst (v := (0 : Int64)) hx hb dX2_renamed_35 (by decide) ?_
    refine W.lcmp hx hb dX2_renamed_36 ?_
    refine lv_if_eq (tgt := 62) hx hb dX2_renamed_37 (by decide) (fun hc => ?_) (fun hc => ?_)
    · have h := h.1 hc
      obtain ⟨v4, ev4⟩ : ∃ z : Int32, z = x6 + (1 : Int32) := ⟨_, rfl⟩
      have h := h v4 ev4
      refine lv_iinc (v := v4) (lv' := [(6, .int v4), (0, .ref (ad 12)), (1, .long x1), (3, .long x3), (5, .int x5)]) hx hb dX2_renamed_62 hl (k := 4) rfl (by rw [ev4]; rfl) (by decide) rfl (fun ls hl => ?_)
      refine lv_goto (tgt := 17) hx hb dX2_renamed_65 (by decide) ?_
      exact hk_17 x1 x3 x5 v4 τ3 _ _ _ h hP hD hS (lv_sub hl [1, 2, 3, 4, 0] rfl)
    · have h := h.2 hc
      refine lv_lload_n hx hb dX2_renamed_40 rfl (lv_at hl 2 rfl) ?_
      refine lv_lconst (v := (1 : Int64)) hx hb dX2_renamed_41 (by decide) ?_
      refine lv_aload_n hx hb dX2_renamed_42 rfl (lv_at hl 0 rfl) ?_
      refine xg_12_0 hx hb hts hown hK hP mw_253 dX2_renamed_43 ?_
      refine lv_iload hx hb dX2_renamed_46 (lv_at hl 4 rfl) ?_
      refine xa_57 hx hb hK hP h.1 rfl dX2_renamed_48 ?_
      have h := h.2
      refine lv_aload_n hx hb dX2_renamed_49 rfl (lv_at hl 0 rfl) ?_
      refine xg_12_0 hx hb hts hown hK hP mw_253 dX2_renamed_50 ?_
      refine lv_iload hx hb dX2_renamed_53 (lv_at hl 3 rfl) ?_
      refine xa_57 hx hb hK hP h.1 rfl dX2_renamed_55 ?_
      have h := h.2
      refine k_X3_number N ⟨hx, hb, hml, hown, hts⟩ mw_722 ⟨Nat.le_of_ble_eq_true rfl, Nat.le_of_ble_eq_true rfl⟩ h hK hP hD hS hl.1 (rest := [.long (1 : Int64), .long x3]) (Nat.le_of_ble_eq_true rfl) ⟨Nat.le_of_ble_eq_true rfl, Nat.le_of_ble_eq_true rfl⟩ dX2_renamed_56 (fun r5 τ6 H locs h hP hD hS => ?_)
      refine lv_lshl hx hb dX2_renamed_59 rfl ?_
      refine lv_lor hx hb dX2_renamed_60 ?_
      refine lv_topl (fun v7 ev7 => ?_)
      have h := h v7 ev7
      refine lv_lstore_n (lv' := [(3, .long v7), (0, .ref (ad 12)), (1, .long x1), (5, .int x5), (6, .int x6)]) hx hb dX2_renamed_61 rfl hl (by decide) rfl (fun ls hl => ?_)
      obtain ⟨v8, ev8⟩ : ∃ z : Int32, z = x6 + (1 : Int32) := ⟨_, rfl⟩
      have h := h v8 ev8
      refine lv_iinc (v := v8) (lv' := [(6, .int v8), (3, .long v7), (0, .ref (ad 12)), (1, .long x1), (5, .int x5)]) hx hb dX2_renamed_62 hl (k := 4) rfl (by rw [ev8]; rfl) (by decide) rfl (fun ls hl => ?_)
      refine lv_goto (tgt := 17) hx hb dX2_renamed_65 (by decide) ?_
      exact hk_17 x1 v7 x5 v8 τ6 _ _ _ h hP hD hS (lv_sub hl [2, 3, 1, 4, 0] rfl)
set_option maxHeartbeats 4000000 in
set_option maxRecDepth 100000 in
theorem t_X2_renamed_17 (C0 : zCx p s m meth c args RX2 cX2_renamed 7 (some .long) vs_X2_renamed) (hK : va_K (dC, dI) vwCl (x_ty cI cJ) s) (N : Nat) {Q : Int64 → zSt → Prop} {k_5 : Int64 → Int64 → Int32 → zSt → Prop} (hk_5 : ∀ (x1 : Int64) (x3 : Int64) (x5 : Int32) (σ : zSt) (H : Heap) (locs : List Loc) (ls : Array Slot), k_5 x1 x3 x5 σ → va_P (dC, dI) vwCl (x_W ad cI cJ σ) H → va_D (zAW x_n ad s.heap.size) (x_W ad cI cJ σ) → va_S (zAW x_n ad s.heap.size) s.heap H locs → lv_has ls 7 [(0, .ref (ad 12)), (1, .long x1), (3, .long x3), (5, .int x5)] → W p l e rm_X2_renamed s m args below meth c H locs 0 0 (MQ below (zQl (dC, dI) (x_ty cI cJ) (x_W ad cI cJ) (zAW x_n ad s.heap.size) Q) args s 0 0 (zAW x_n ad s.heap.size)) (F0 m 5 ls [])) : ∀ (f : Nat) (x1 : Int64) (x3 : Int64) (x5 : Int32) (x6 : Int32) (σ : zSt) (H : Heap) (locs : List Loc) (ls : Array Slot), w_X2_renamed_17 N k_5 Q f x1 x3 x5 x6 σ → va_P (dC, dI) vwCl (x_W ad cI cJ σ) H → va_D (zAW x_n ad s.heap.size) (x_W ad cI cJ σ) → va_S (zAW x_n ad s.heap.size) s.heap H locs → lv_has ls 7 [(0, .ref (ad 12)), (1, .long x1), (3, .long x3), (5, .int x5), (6, .int x6)] → W p l e rm_X2_renamed s m args below meth c H locs 0 0 (MQ below (zQl (dC, dI) (x_ty cI cJ) (x_W ad cI cJ) (zAW x_n ad s.heap.size) Q) args s 0 0 (zAW x_n ad s.heap.size)) (F0 m 17 ls []) := by
  intro f
  induction f with
  | zero => intro x1 x3 x5 x6 σ H locs ls h; exact h.elim
  | succ f ih =>
    intro x1 x3 x5 x6 σ H locs ls h hP hD hS hl
    exact tb_X2_renamed_17 C0 hK N hk_5 (k_17 := w_X2_renamed_17 N k_5 Q f) ih x1 x3 x5 x6 σ H locs ls h hP hD hS hl
set_option maxHeartbeats 4000000 in
set_option maxRecDepth 100000 in
theorem tb_X2_renamed_5 (C0 : zCx p s m meth c args RX2 cX2_renamed 7 (some .long) vs_X2_renamed) (hK : va_K (dC, dI) vwCl (x_ty cI cJ) s) (N : Nat) {Q : Int64 → zSt → Prop} {k_5 : Int64 → Int64 → Int32 → zSt → Prop} (hk_5 : ∀ (x1 : Int64) (x3 : Int64) (x5 : Int32) (σ : zSt) (H : Heap) (locs : List Loc) (ls : Array Slot), k_5 x1 x3 x5 σ → va_P (dC, dI) vwCl (x_W ad cI cJ σ) H → va_D (zAW x_n ad s.heap.size) (x_W ad cI cJ σ) → va_S (zAW x_n ad s.heap.size) s.heap H locs → lv_has ls 7 [(0, .ref (ad 12)), (1, .long x1), (3, .long x3), (5, .int x5)] → W p l e rm_X2_renamed s m args below meth c H locs 0 0 (MQ below (zQl (dC, dI) (x_ty cI cJ) (x_W ad cI cJ) (zAW x_n ad s.heap.size) Q) args s 0 0 (zAW x_n ad s.heap.size)) (F0 m 5 ls [])) : ∀ (x1 : Int64) (x3 : Int64) (x5 : Int32) (σ : zSt) (H : Heap) (locs : List Loc) (ls : Array Slot), b_X2_renamed_5 N k_5 Q x1 x3 x5 σ → va_P (dC, dI) vwCl (x_W ad cI cJ σ) H → va_D (zAW x_n ad s.heap.size) (x_W ad cI cJ σ) → va_S (zAW x_n ad s.heap.size) s.heap H locs → lv_has ls 7 [(0, .ref (ad 12)), (1, .long x1), (3, .long x3), (5, .int x5)] → W p l e rm_X2_renamed s m args below meth c H locs 0 0 (MQ below (zQl (dC, dI) (x_ty cI cJ) (x_W ad cI cJ) (zAW x_n ad s.heap.size) Q) args s 0 0 (zAW x_n ad s.heap.size)) (F0 m 5 ls []) := by
  obtain ⟨hx, hb, hml, hr, hown, hts, hlocks⟩ := id C0
  intro x1 x3 x5 σ H locs ls h hP hD hS hl
  unfold b_X2_renamed_5 at h
  refine lv_iload hx hb dX2_renamed_5 (lv_at hl 3 rfl) ?_
  refine lv_aload_n hx hb dX2_renamed_7 rfl (lv_at hl 0 rfl) ?_
  refine xg_12_1 hx hb hts hown hK hP mw_255 dX2_renamed_8 ?_
  refine lv_icmp_ge (tgt := 74) hx hb dX2_renamed_11 (by decide) (fun hc => ?_) (fun hc => ?_)
  · have h := h.1 hc
    refine lv_lload_n hx hb dX2_renamed_74 rfl (lv_at hl 2 rfl) ?_
    exact zret_l hx hb hr hlocks hK hP hD hS h dX2_renamed_75
  · have h := h.2 hc
    refine lv_iconst (v := (0 : Int32)) hx hb dX2_renamed_14 (by decide) ?_
    refine lv_istore (lv' := [(6, .int (0 : Int32)), (0, .ref (ad 12)), (1, .long x1), (3, .long x3), (5, .int x5)]) hx hb dX2_renamed_15 hl (by decide) rfl (fun ls hl => ?_)
    exact t_X2_renamed_17 C0 hK N hk_5 N x1 x3 x5 (0 : Int32) σ _ _ _ h hP hD hS (lv_sub hl [1, 2, 3, 4, 0] rfl)
set_option maxHeartbeats 4000000 in
set_option maxRecDepth 100000 in
theorem t_X2_renamed_5 (C0 : zCx p s m meth c args RX2 cX2_renamed 7 (some .long) vs_X2_renamed) (hK : va_K (dC, dI) vwCl (x_ty cI cJ) s) (N : Nat) {Q : Int64 → zSt → Prop} : ∀ (f : Nat) (x1 : Int64) (x3 : Int64) (x5 : Int32) (σ : zSt) (H : Heap) (locs : List Loc) (ls : Array Slot), w_X2_renamed_5 N  Q f x1 x3 x5 σ → va_P (dC, dI) vwCl (x_W ad cI cJ σ) H → va_D (zAW x_n ad s.heap.size) (x_W ad cI cJ σ) → va_S (zAW x_n ad s.heap.size) s.heap H locs → lv_has ls 7 [(0, .ref (ad 12)), (1, .long x1), (3, .long x3), (5, .int x5)] → W p l e rm_X2_renamed s m args below meth c H locs 0 0 (MQ below (zQl (dC, dI) (x_ty cI cJ) (x_W ad cI cJ) (zAW x_n ad s.heap.size) Q) args s 0 0 (zAW x_n ad s.heap.size)) (F0 m 5 ls []) := by
  intro f
  induction f with
  | zero => intro x1 x3 x5 σ H locs ls h; exact h.elim
  | succ f ih =>
    intro x1 x3 x5 σ H locs ls h hP hD hS hl
    exact tb_X2_renamed_5 C0 hK N  (k_5 := w_X2_renamed_5 N  Q f) ih x1 x3 x5 σ H locs ls h hP hD hS hl
set_option maxHeartbeats 4000000 in
set_option maxRecDepth 100000 in
theorem t_X2_renamed_0 (C0 : zCx p s m meth c args RX2 cX2_renamed 7 (some .long) vs_X2_renamed) (hK : va_K (dC, dI) vwCl (x_ty cI cJ) s) (N : Nat) {Q : Int64 → zSt → Prop} : ∀ (x1 : Int64) (σ : zSt) (H : Heap) (locs : List Loc) (ls : Array Slot), w_X2_renamed N x1 σ Q → va_P (dC, dI) vwCl (x_W ad cI cJ σ) H → va_D (zAW x_n ad s.heap.size) (x_W ad cI cJ σ) → va_S (zAW x_n ad s.heap.size) s.heap H locs → lv_has ls 7 [(0, .ref (ad 12)), (1, .long x1)] → W p l e rm_X2_renamed s m args below meth c H locs 0 0 (MQ below (zQl (dC, dI) (x_ty cI cJ) (x_W ad cI cJ) (zAW x_n ad s.heap.size) Q) args s 0 0 (zAW x_n ad s.heap.size)) (F0 m 0 ls []) := by
  obtain ⟨hx, hb, hml, hr, hown, hts, hlocks⟩ := id C0
  intro x1 σ H locs ls h hP hD hS hl
  unfold w_X2_renamed at h
  refine lv_lconst (v := (0 : Int64)) hx hb dX2_renamed_0 (by decide) ?_
  refine lv_lstore_n (lv' := [(3, .long (0 : Int64)), (0, .ref (ad 12)), (1, .long x1)]) hx hb dX2_renamed_1 rfl hl (by decide) rfl (fun ls hl => ?_)
  refine lv_iconst (v := (1 : Int32)) hx hb dX2_renamed_2 (by decide) ?_
  refine lv_istore (lv' := [(5, .int (1 : Int32)), (3, .long (0 : Int64)), (0, .ref (ad 12)), (1, .long x1)]) hx hb dX2_renamed_3 hl (by decide) rfl (fun ls hl => ?_)
  exact t_X2_renamed_5 C0 hK N  N x1 (0 : Int64) (1 : Int32) σ _ _ _ h hP hD hS (lv_sub hl [2, 3, 1, 0] rfl)
set_option maxHeartbeats 4000000 in
set_option maxRecDepth 100000 in
theorem c_X2_renamed (N : Nat) (l : Launch) (dC : Nat → ClassId) (dI : Nat → Nat → Nat) (ad : Nat → Nat) (cI cJ : ClassId) (sz : Nat) (σ : zSt) (x1 : Int64) (Q : Int64 → zSt → Prop) (h : w_X2_renamed N x1 σ Q) : Met l yX2_renamed vs_X2_renamed rm_X2_renamed (va_Pc [.ref (ad 12), .long x1] (zPc (dC, dI) (x_ty cI cJ) (x_W ad cI cJ) sz σ)) (zQl (dC, dI) (x_ty cI cJ) (x_W ad cI cJ) (zAW x_n ad sz) Q) 0 0 (zAW x_n ad sz) := by
  refine Met.ofW (cc := cX2_renamed) (maxL := 7) (ret := (some .long)) (by decide) rfl ?_
  intro p e s m args below meth c s₁ B hml hv
  obtain ⟨rfl, hsz, hP, hK, hD0⟩ := hv
  subst hsz
  have C0 : zCx p s m meth c _ RX2 cX2_renamed 7 (some .long) vs_X2_renamed := ⟨B.exec, B.bytes, hml, B.returns, findClass_of_methodNamed B.named, atoms_spec (ws := vs_X2_renamed) B.pre, B.notSynchronized⟩
  have hD := x_D0 (n0 := s.heap.size) hD0
  have hl := lv_entry ([.ref (ad 12), .long x1]) (n := 7) (Nat.le_of_ble_eq_true rfl)
  rw [lg_entry_eq]
  generalize (lg_sl ([.ref (ad 12), .long x1]) ++ List.replicate (7 - (lg_sl ([.ref (ad 12), .long x1])).length) Slot.unset).toArray = ls at hl ⊢
  exact t_X2_renamed_0 C0 hK N x1 σ _ _ ls h hP hD va_S.rf hl
theorem k_X2_renamed (N : Nat) {R : Room} {H : Heap} {locs : List Loc} {cells slots : Nat} {Q2 : State → Prop} {cc : ByteArray} {nL pc index : Nat} {ls : Array Slot} {rest : List Value} {own : String} {c0 : Cond} {σ : zSt} {x1 : Int64} {Q : Int64 → zSt → Prop} (S0 : CallFix p m c cc nL s args (c0 :: zT) own) (hml : Cond.methodLink own index yX2_renamed ∈ zT) (hR : rm_X2_renamed.frames + 1 ≤ R.frames ∧ 8 + (7 + 11) + rm_X2_renamed.locals ≤ R.locals) (h : w_X2_renamed N x1 σ Q) (hK : va_K (dC, dI) vwCl (x_ty cI cJ) s) (hP : va_P (dC, dI) vwCl (x_W ad cI cJ σ) H) (hD : va_D (zAW x_n ad s.heap.size) (x_W ad cI cJ σ)) (hS : va_S (zAW x_n ad s.heap.size) s.heap H locs) (hsz : ls.size = nL) (hW : (rest.map fun v => v.category).sum ≤ 8) (hcs : cells ≤ R.cells ∧ slots ≤ R.slots) (hdg : decode cc pc = .ok (.invokevirtual index, 3)) (kk : ∀ (r : Int64) (τ : zSt) (H1 : Heap) (locs1 : List Loc), Q r τ → va_P (dC, dI) vwCl (x_W ad cI cJ τ) H1 → va_D (zAW x_n ad s.heap.size) (x_W ad cI cJ τ) → va_S (zAW x_n ad s.heap.size) s.heap H1 locs1 → W p l e R s m args below meth c H1 locs1 cells slots Q2 (F0 m (pc + 3) ls (.long r :: rest))) : W p l e R s m args below meth c H locs cells slots Q2 (F0 m pc ls (.long x1 :: .ref (ad 12) :: rest)) :=
  zcv_l (T := TX2) (N' := 2) (k := 12) (ci := 2) (fs := x_f12 ad σ) [.long x1] S0 (c_X2_renamed N l dC dI ad cI cJ H.size σ x1 Q h) (cw_X2_renamed S0.2.2.2.2 hml rfl rfl hR) rfl rfl hK hP hD hS rfl hsz hW rfl hcs hdg kk
end q10
section q10
def w_X2_swap (N : Nat) (x1 : Int32) (x2 : Int32) (σ : zSt) (Q : zSt → Prop) : Prop :=
  (vp_in x1 5) ∧ (∀ v1 : Int32, v1 = σ.2.2.1 31 x1.toNatClampNeg → (vp_in x2 5) ∧ ((vp_in x1 5) ∧ (∀ τ2 : zSt, τ2 = zA σ 31 (upd (σ.2.2.1 31) (x1.toNatClampNeg) (σ.2.2.1 31 x2.toNatClampNeg)) → (vp_in x2 5) ∧ (∀ τ3 : zSt, τ3 = zA τ2 31 (upd (τ2.2.2.1 31) (x2.toNatClampNeg) v1) → Q τ3))))
variable {p : Program} {l : Launch} {e : Env} {s : State} {m : MethodId} {args : Array Value} {below : List Frame} {meth : Method} {c : Code} {dC : Nat → ClassId} {dI : Nat → Nat → Nat} {ad : Nat → Nat} {cI cJ : ClassId}
set_option maxHeartbeats 4000000 in
set_option maxRecDepth 100000 in
theorem t_X2_swap_0 (C0 : zCx p s m meth c args RX2 cX2_swap 4 none vs_X2_swap) (hK : va_K (dC, dI) vwCl (x_ty cI cJ) s) (N : Nat) {Q : zSt → Prop} : ∀ (x1 : Int32) (x2 : Int32) (σ : zSt) (H : Heap) (locs : List Loc) (ls : Array Slot), w_X2_swap N x1 x2 σ Q → va_P (dC, dI) vwCl (x_W ad cI cJ σ) H → va_D (zAW x_n ad s.heap.size) (x_W ad cI cJ σ) → va_S (zAW x_n ad s.heap.size) s.heap H locs → lv_has ls 4 [(0, .ref (ad 12)), (1, .int x1), (2, .int x2)] → W p l e rm_X2_swap s m args below meth c H locs 0 0 (MQ below (zQv (dC, dI) (x_ty cI cJ) (x_W ad cI cJ) (zAW x_n ad s.heap.size) Q) args s 0 0 (zAW x_n ad s.heap.size)) (F0 m 0 ls []) := by
  obtain ⟨hx, hb, hml, hr, hown, hts, hlocks⟩ := id C0
  intro x1 x2 σ H locs ls h hP hD hS hl
  unfold w_X2_swap at h
  refine lv_aload_n hx hb dX2_swap_0 rfl (lv_at hl 0 rfl) ?_
  refine xg_12_0 hx hb hts hown hK hP mw_253 dX2_swap_1 ?_
  refine lv_iload_n hx hb dX2_swap_4 rfl (lv_at hl 1 rfl) ?_
  refine xa_57 hx hb hK hP h.1 rfl dX2_swap_5 ?_
  have h := h.2
  refine lv_topi (fun v1 ev1 => ?_)
  have h := h v1 ev1
  refine lv_istore_n (lv' := [(3, .int v1), (0, .ref (ad 12)), (1, .int x1), (2, .int x2)]) hx hb dX2_swap_6 rfl hl (by decide) rfl (fun ls hl => ?_)
  refine lv_aload_n hx hb dX2_swap_7 rfl (lv_at hl 1 rfl) ?_
  refine xg_12_0 hx hb hts hown hK hP mw_253 dX2_swap_8 ?_
  refine lv_iload_n hx hb dX2_swap_11 rfl (lv_at hl 2 rfl) ?_
  refine lv_aload_n hx hb dX2_swap_12 rfl (lv_at hl 1 rfl) ?_
  refine xg_12_0 hx hb hts hown hK hP mw_253 dX2_swap_13 ?_
  refine lv_iload_n hx hb dX2_swap_16 rfl (lv_at hl 3 rfl) ?_
  refine xa_57 hx hb hK hP h.1 rfl dX2_swap_17 ?_
  have h := h.2
  refine xs_57 hx hb hK hP hD hS h.1 rfl dX2_swap_18 (fun τ2 H locs eτ2 hP hD hS => ?_)
  have h := h.2
  have h := h τ2 eτ2
  refine lv_aload_n hx hb dX2_swap_19 rfl (lv_at hl 1 rfl) ?_
  refine xg_12_0 hx hb hts hown hK hP mw_253 dX2_swap_20 ?_
  refine lv_iload_n hx hb dX2_swap_23 rfl (lv_at hl 3 rfl) ?_
  refine lv_iload_n hx hb dX2_swap_24 rfl (lv_at hl 0 rfl) ?_
  refine xs_57 hx hb hK hP hD hS h.1 rfl dX2_swap_25 (fun τ3 H locs eτ3 hP hD hS => ?_)
  have h := h.2
  have h := h τ3 eτ3
  exact zret_v hx hb hr hlocks hK hP hD hS h dX2_swap_26
set_option maxHeartbeats 4000000 in
set_option maxRecDepth 100000 in
theorem c_X2_swap (N : Nat) (l : Launch) (dC : Nat → ClassId) (dI : Nat → Nat → Nat) (ad : Nat → Nat) (cI cJ : ClassId) (sz : Nat) (σ : zSt) (x1 : Int32) (x2 : Int32) (Q : zSt → Prop) (h : w_X2_swap N x1 x2 σ Q) : Met l yX2_swap vs_X2_swap rm_X2_swap (va_Pc [.ref (ad 12), .int x1, .int x2] (zPc (dC, dI) (x_ty cI cJ) (x_W ad cI cJ) sz σ)) (zQv (dC, dI) (x_ty cI cJ) (x_W ad cI cJ) (zAW x_n ad sz) Q) 0 0 (zAW x_n ad sz) := by
  refine Met.ofW (cc := cX2_swap) (maxL := 4) (ret := none) (by decide) rfl ?_
  intro p e s m args below meth c s₁ B hml hv
  obtain ⟨rfl, hsz, hP, hK, hD0⟩ := hv
  subst hsz
  have C0 : zCx p s m meth c _ RX2 cX2_swap 4 none vs_X2_swap := ⟨B.exec, B.bytes, hml, B.returns, findClass_of_methodNamed B.named, atoms_spec (ws := vs_X2_swap) B.pre, B.notSynchronized⟩
  have hD := x_D0 (n0 := s.heap.size) hD0
  have hl := lv_entry ([.ref (ad 12), .int x1, .int x2]) (n := 4) (Nat.le_of_ble_eq_true rfl)
  rw [lg_entry_eq]
  generalize (lg_sl ([.ref (ad 12), .int x1, .int x2]) ++ List.replicate (4 - (lg_sl ([.ref (ad 12), .int x1, .int x2])).length) Slot.unset).toArray = ls at hl ⊢
  exact t_X2_swap_0 C0 hK N x1 x2 σ _ _ ls h hP hD va_S.rf hl
theorem k_X2_swap (N : Nat) {R : Room} {H : Heap} {locs : List Loc} {cells slots : Nat} {Q2 : State → Prop} {cc : ByteArray} {nL pc index : Nat} {ls : Array Slot} {rest : List Value} {own : String} {c0 : Cond} {σ : zSt} {x1 : Int32} {x2 : Int32} {Q : zSt → Prop} (S0 : CallFix p m c cc nL s args (c0 :: zT) own) (hml : Cond.methodLink own index yX2_swap ∈ zT) (hR : rm_X2_swap.frames + 1 ≤ R.frames ∧ 8 + (4 + 11) + rm_X2_swap.locals ≤ R.locals) (h : w_X2_swap N x1 x2 σ Q) (hK : va_K (dC, dI) vwCl (x_ty cI cJ) s) (hP : va_P (dC, dI) vwCl (x_W ad cI cJ σ) H) (hD : va_D (zAW x_n ad s.heap.size) (x_W ad cI cJ σ)) (hS : va_S (zAW x_n ad s.heap.size) s.heap H locs) (hsz : ls.size = nL) (hW : (rest.map fun v => v.category).sum ≤ 8) (hcs : cells ≤ R.cells ∧ slots ≤ R.slots) (hdg : decode cc pc = .ok (.invokevirtual index, 3)) (kk : ∀ (τ : zSt) (H1 : Heap) (locs1 : List Loc), Q τ → va_P (dC, dI) vwCl (x_W ad cI cJ τ) H1 → va_D (zAW x_n ad s.heap.size) (x_W ad cI cJ τ) → va_S (zAW x_n ad s.heap.size) s.heap H1 locs1 → W p l e R s m args below meth c H1 locs1 cells slots Q2 (F0 m (pc + 3) ls (rest))) : W p l e R s m args below meth c H locs cells slots Q2 (F0 m pc ls (.int x2 :: .int x1 :: .ref (ad 12) :: rest)) :=
  zcv_v (T := TX2) (N' := 2) (k := 12) (ci := 2) (fs := x_f12 ad σ) [.int x1, .int x2] S0 (c_X2_swap N l dC dI ad cI cJ H.size σ x1 x2 Q h) (cw_X2_swap S0.2.2.2.2 hml rfl rfl hR) rfl rfl hK hP hD hS rfl hsz hW rfl hcs hdg kk
end q10
section q10
def b_X2_advance_91 (N : Nat) (k_91 : Int32 → Int32 → zSt → Prop) (Q : Int32 → zSt → Prop) (x3 : Int32) (x4 : Int32) (σ : zSt) : Prop :=
  (x4 ≤ x3 → Q (1 : Int32) σ) ∧ (¬ x4 ≤ x3 → w_X2_swap N x3 x4 σ (fun τ2 => ∀ v3 : Int32, v3 = x3 + (1 : Int32) → ∀ v4 : Int32, v4 = x4 + (-1 : Int32) → k_91 v3 v4 τ2))
def w_X2_advance_91 (N : Nat) (Q : Int32 → zSt → Prop) : Nat → Int32 → Int32 → zSt → Prop
  | 0 => fun _ _ _ => False
  | f + 1 => b_X2_advance_91 N (w_X2_advance_91 N  Q f) Q
def b_X2_advance_73 (N : Nat) (Q : Int32 → zSt → Prop) (x1 : Int32) (x2 : Int32) (σ : zSt) : Prop :=
  w_X2_swap N x1 x2 σ (fun τ2 => ∀ v3 : Int32, v3 = x1 + (1 : Int32) → ∀ v4 : Int32, v4 = (τ2.1 33) - (1 : Int32) → w_X2_advance_91 N Q N v3 v4 τ2)
def b_X2_advance_47 (N : Nat) (k_47 : Int32 → Int32 → zSt → Prop) (Q : Int32 → zSt → Prop) (x1 : Int32) (x2 : Int32) (σ : zSt) : Prop :=
  (x2 ≤ x1 → b_X2_advance_73 N Q x1 x2 σ) ∧ (¬ x2 ≤ x1 → (vp_in x2 5) ∧ ((vp_in x1 5) ∧ (((σ.2.2.1 31 x1.toNatClampNeg) ≤ (σ.2.2.1 31 x2.toNatClampNeg) → b_X2_advance_73 N Q x1 x2 σ) ∧ (¬ (σ.2.2.1 31 x1.toNatClampNeg) ≤ (σ.2.2.1 31 x2.toNatClampNeg) → ∀ v1 : Int32, v1 = x2 + (-1 : Int32) → k_47 x1 v1 σ))))
def w_X2_advance_47 (N : Nat) (Q : Int32 → zSt → Prop) : Nat → Int32 → Int32 → zSt → Prop
  | 0 => fun _ _ _ => False
  | f + 1 => b_X2_advance_47 N (w_X2_advance_47 N  Q f) Q
def b_X2_advance_34 (N : Nat) (Q : Int32 → zSt → Prop) (x1 : Int32) (σ : zSt) : Prop :=
  (0 ≤ x1 → ∀ v1 : Int32, v1 = (σ.1 33) - (1 : Int32) → w_X2_advance_47 N Q N x1 v1 σ) ∧ (¬ 0 ≤ x1 → Q (0 : Int32) σ)
def b_X2_advance_7 (N : Nat) (k_7 : Int32 → zSt → Prop) (Q : Int32 → zSt → Prop) (x1 : Int32) (σ : zSt) : Prop :=
  (x1 < 0 → b_X2_advance_34 N Q x1 σ) ∧ (¬ x1 < 0 → (vp_in x1 5) ∧ ((vp_in (x1 + (1 : Int32)) 5) ∧ (((σ.2.2.1 31 x1.toNatClampNeg) ≤ (σ.2.2.1 31 (x1 + (1 : Int32)).toNatClampNeg) → b_X2_advance_34 N Q x1 σ) ∧ (¬ (σ.2.2.1 31 x1.toNatClampNeg) ≤ (σ.2.2.1 31 (x1 + (1 : Int32)).toNatClampNeg) → ∀ v1 : Int32, v1 = x1 + (-1 : Int32) → k_7 v1 σ))))
def w_X2_advance_7 (N : Nat) (Q : Int32 → zSt → Prop) : Nat → Int32 → zSt → Prop
  | 0 => fun _ _ => False
  | f + 1 => b_X2_advance_7 N (w_X2_advance_7 N  Q f) Q
def w_X2_advance (N : Nat)  (σ : zSt) (Q : Int32 → zSt → Prop) : Prop :=
  ∀ v1 : Int32, v1 = (σ.1 33) - (2 : Int32) → w_X2_advance_7 N Q N v1 σ
variable {p : Program} {l : Launch} {e : Env} {s : State} {m : MethodId} {args : Array Value} {below : List Frame} {meth : Method} {c : Code} {dC : Nat → ClassId} {dI : Nat → Nat → Nat} {ad : Nat → Nat} {cI cJ : ClassId}
set_option maxHeartbeats 4000000 in
set_option maxRecDepth 100000 in
theorem tb_X2_advance_91 (C0 : zCx p s m meth c args RX2 cX2_advance 5 (some .boolean) vs_X2_advance) (hK : va_K (dC, dI) vwCl (x_ty cI cJ) s) (N : Nat) {Q : Int32 → zSt → Prop} {k_91 : Int32 → Int32 → zSt → Prop} (hk_91 : ∀ (x3 : Int32) (x4 : Int32) (σ : zSt) (H : Heap) (locs : List Loc) (ls : Array Slot), k_91 x3 x4 σ → va_P (dC, dI) vwCl (x_W ad cI cJ σ) H → va_D (zAW x_n ad s.heap.size) (x_W ad cI cJ σ) → va_S (zAW x_n ad s.heap.size) s.heap H locs → lv_has ls 5 [(0, .ref (ad 12)), (3, .int x3), (4, .int x4)] → W p l e rm_X2_advance s m args below meth c H locs 0 0 (MQ below (zQi (dC, dI) (x_ty cI cJ) (x_W ad cI cJ) (zAW x_n ad s.heap.size) Q) args s 0 0 (zAW x_n ad s.heap.size)) (F0 m 91 ls [])) : ∀ (x3 : Int32) (x4 : Int32) (σ : zSt) (H : Heap) (locs : List Loc) (ls : Array Slot), b_X2_advance_91 N k_91 Q x3 x4 σ → va_P (dC, dI) vwCl (x_W ad cI cJ σ) H → va_D (zAW x_n ad s.heap.size) (x_W ad cI cJ σ) → va_S (zAW x_n ad s.heap.size) s.heap H locs → lv_has ls 5 [(0, .ref (ad 12)), (3, .int x3), (4, .int x4)] → W p l e rm_X2_advance s m args below meth c H locs 0 0 (MQ below (zQi (dC, dI) (x_ty cI cJ) (x_W ad cI cJ) (zAW x_n ad s.heap.size) Q) args s 0 0 (zAW x_n ad s.heap.size)) (F0 m 91 ls []) := by
  obtain ⟨hx, hb, hml, hr, hown, hts, hlocks⟩ := id C0
  intro x3 x4 σ H locs ls h hP hD hS hl
  unfold b_X2_advance_91 at h
  refine lv_iload hx hb dX2_advance_91 (lv_at hl 2 rfl) ?_
  refine lv_iload_n hx hb dX2_advance_93 rfl (lv_at hl 1 rfl) ?_
  refine lv_icmp_le (tgt := 113) hx hb dX2_advance_94 (by decide) (fun hc => ?_) (fun hc => ?_)
  · have h := h.1 hc
    refine lv_iconst (v := (1 : Int32)) hx hb dX2_advance_113 (by decide) ?_
    exact zret_z hx hb hr hlocks hK hP hD hS zb_1 h dX2_advance_114
  · have h := h.2 hc
    refine lv_aload_n hx hb dX2_advance_97 rfl (lv_at hl 0 rfl) ?_
    refine lv_iload_n hx hb dX2_advance_98 rfl (lv_at hl 1 rfl) ?_
    refine lv_iload hx hb dX2_advance_99 (lv_at hl 2 rfl) ?_
    refine k_X2_swap N ⟨hx, hb, hml, hown, hts⟩ mw_727 ⟨Nat.le_of_ble_eq_true rfl, Nat.le_of_ble_eq_true rfl⟩ h hK hP hD hS hl.1 (rest := []) (Nat.le_of_ble_eq_true rfl) ⟨Nat.le_of_ble_eq_true rfl, Nat.le_of_ble_eq_true rfl⟩ dX2_advance_101 (fun τ2 H locs h hP hD hS => ?_)
    obtain ⟨v3, ev3⟩ : ∃ z : Int32, z = x3 + (1 : Int32) := ⟨_, rfl⟩
    have h := h v3 ev3
    refine lv_iinc (v := v3) (lv' := [(3, .int v3), (0, .ref (ad 12)), (4, .int x4)]) hx hb dX2_advance_104 hl (k := 1) rfl (by rw [ev3]; rfl) (by decide) rfl (fun ls hl => ?_)
    obtain ⟨v4, ev4⟩ : ∃ z : Int32, z = x4 + (-1 : Int32) := ⟨_, rfl⟩
    have h := h v4 ev4
    refine lv_iinc (v := v4) (lv' := [(4, .int v4), (3, .int v3), (0, .ref (ad 12))]) hx hb dX2_advance_107 hl (k := 2) rfl (by rw [ev4]; rfl) (by decide) rfl (fun ls hl => ?_)
    refine lv_goto (tgt := 91) hx hb dX2_advance_110 (by decide) ?_
    exact hk_91 v3 v4 τ2 _ _ _ h hP hD hS (lv_sub hl [2, 1, 0] rfl)
set_option maxHeartbeats 4000000 in
set_option maxRecDepth 100000 in
theorem t_X2_advance_91 (C0 : zCx p s m meth c args RX2 cX2_advance 5 (some .boolean) vs_X2_advance) (hK : va_K (dC, dI) vwCl (x_ty cI cJ) s) (N : Nat) {Q : Int32 → zSt → Prop} : ∀ (f : Nat) (x3 : Int32) (x4 : Int32) (σ : zSt) (H : Heap) (locs : List Loc) (ls : Array Slot), w_X2_advance_91 N  Q f x3 x4 σ → va_P (dC, dI) vwCl (x_W ad cI cJ σ) H → va_D (zAW x_n ad s.heap.size) (x_W ad cI cJ σ) → va_S (zAW x_n ad s.heap.size) s.heap H locs → lv_has ls 5 [(0, .ref (ad 12)), (3, .int x3), (4, .int x4)] → W p l e rm_X2_advance s m args below meth c H locs 0 0 (MQ below (zQi (dC, dI) (x_ty cI cJ) (x_W ad cI cJ) (zAW x_n ad s.heap.size) Q) args s 0 0 (zAW x_n ad s.heap.size)) (F0 m 91 ls []) := by
  intro f
  induction f with
  | zero => intro x3 x4 σ H locs ls h; exact h.elim
  | succ f ih =>
    intro x3 x4 σ H locs ls h hP hD hS hl
    exact tb_X2_advance_91 C0 hK N  (k_91 := w_X2_advance_91 N  Q f) ih x3 x4 σ H locs ls h hP hD hS hl
set_option maxHeartbeats 4000000 in
set_option maxRecDepth 100000 in
theorem t_X2_advance_73 (C0 : zCx p s m meth c args RX2 cX2_advance 5 (some .boolean) vs_X2_advance) (hK : va_K (dC, dI) vwCl (x_ty cI cJ) s) (N : Nat) {Q : Int32 → zSt → Prop} : ∀ (x1 : Int32) (x2 : Int32) (σ : zSt) (H : Heap) (locs : List Loc) (ls : Array Slot), b_X2_advance_73 N  Q x1 x2 σ → va_P (dC, dI) vwCl (x_W ad cI cJ σ) H → va_D (zAW x_n ad s.heap.size) (x_W ad cI cJ σ) → va_S (zAW x_n ad s.heap.size) s.heap H locs → lv_has ls 5 [(0, .ref (ad 12)), (1, .int x1), (2, .int x2)] → W p l e rm_X2_advance s m args below meth c H locs 0 0 (MQ below (zQi (dC, dI) (x_ty cI cJ) (x_W ad cI cJ) (zAW x_n ad s.heap.size) Q) args s 0 0 (zAW x_n ad s.heap.size)) (F0 m 73 ls []) := by
  obtain ⟨hx, hb, hml, hr, hown, hts, hlocks⟩ := id C0
  intro x1 x2 σ H locs ls h hP hD hS hl
  unfold b_X2_advance_73 at h
  refine lv_aload_n hx hb dX2_advance_73 rfl (lv_at hl 0 rfl) ?_
  refine lv_iload_n hx hb dX2_advance_74 rfl (lv_at hl 1 rfl) ?_
  refine lv_iload_n hx hb dX2_advance_75 rfl (lv_at hl 2 rfl) ?_
  refine k_X2_swap N ⟨hx, hb, hml, hown, hts⟩ mw_727 ⟨Nat.le_of_ble_eq_true rfl, Nat.le_of_ble_eq_true rfl⟩ h hK hP hD hS hl.1 (rest := []) (Nat.le_of_ble_eq_true rfl) ⟨Nat.le_of_ble_eq_true rfl, Nat.le_of_ble_eq_true rfl⟩ dX2_advance_76 (fun τ2 H locs h hP hD hS => ?_)
  refine lv_iload_n hx hb dX2_advance_79 rfl (lv_at hl 1 rfl) ?_
  refine lv_iconst (v := (1 : Int32)) hx hb dX2_advance_80 (by decide) ?_
  refine lv_iadd hx hb dX2_advance_81 ?_
  refine lv_topi (fun v3 ev3 => ?_)
  have h := h v3 ev3
  refine lv_istore_n (lv' := [(3, .int v3), (0, .ref (ad 12)), (1, .int x1), (2, .int x2)]) hx hb dX2_advance_82 rfl hl (by decide) rfl (fun ls hl => ?_)
  refine lv_aload_n hx hb dX2_advance_83 rfl (lv_at hl 1 rfl) ?_
  refine xg_12_1 hx hb hts hown hK hP mw_255 dX2_advance_84 ?_
  refine lv_iconst (v := (1 : Int32)) hx hb dX2_advance_87 (by decide) ?_
  refine lv_isub hx hb dX2_advance_88 ?_
  refine lv_topi (fun v4 ev4 => ?_)
  have h := h v4 ev4
  refine lv_istore (lv' := [(4, .int v4), (3, .int v3), (0, .ref (ad 12)), (1, .int x1), (2, .int x2)]) hx hb dX2_advance_89 hl (by decide) rfl (fun ls hl => ?_)
  exact t_X2_advance_91 C0 hK N  N v3 v4 τ2 _ _ _ h hP hD hS (lv_sub hl [2, 1, 0] rfl)
set_option maxHeartbeats 4000000 in
set_option maxRecDepth 100000 in
theorem tb_X2_advance_47 (C0 : zCx p s m meth c args RX2 cX2_advance 5 (some .boolean) vs_X2_advance) (hK : va_K (dC, dI) vwCl (x_ty cI cJ) s) (N : Nat) {Q : Int32 → zSt → Prop} {k_47 : Int32 → Int32 → zSt → Prop} (hk_47 : ∀ (x1 : Int32) (x2 : Int32) (σ : zSt) (H : Heap) (locs : List Loc) (ls : Array Slot), k_47 x1 x2 σ → va_P (dC, dI) vwCl (x_W ad cI cJ σ) H → va_D (zAW x_n ad s.heap.size) (x_W ad cI cJ σ) → va_S (zAW x_n ad s.heap.size) s.heap H locs → lv_has ls 5 [(0, .ref (ad 12)), (1, .int x1), (2, .int x2)] → W p l e rm_X2_advance s m args below meth c H locs 0 0 (MQ below (zQi (dC, dI) (x_ty cI cJ) (x_W ad cI cJ) (zAW x_n ad s.heap.size) Q) args s 0 0 (zAW x_n ad s.heap.size)) (F0 m 47 ls [])) : ∀ (x1 : Int32) (x2 : Int32) (σ : zSt) (H : Heap) (locs : List Loc) (ls : Array Slot), b_X2_advance_47 N k_47 Q x1 x2 σ → va_P (dC, dI) vwCl (x_W ad cI cJ σ) H → va_D (zAW x_n ad s.heap.size) (x_W ad cI cJ σ) → va_S (zAW x_n ad s.heap.size) s.heap H locs → lv_has ls 5 [(0, .ref (ad 12)), (1, .int x1), (2, .int x2)] → W p l e rm_X2_advance s m args below meth c H locs 0 0 (MQ below (zQi (dC, dI) (x_ty cI cJ) (x_W ad cI cJ) (zAW x_n ad s.heap.size) Q) args s 0 0 (zAW x_n ad s.heap.size)) (F0 m 47 ls []) := by
  obtain ⟨hx, hb, hml, hr, hown, hts, hlocks⟩ := id C0
  intro x1 x2 σ H locs ls h hP hD hS hl
  unfold b_X2_advance_47 at h
  refine lv_iload_n hx hb dX2_advance_47 rfl (lv_at hl 2 rfl) ?_
  refine lv_iload_n hx hb dX2_advance_48 rfl (lv_at hl 1 rfl) ?_
  refine lv_icmp_le (tgt := 73) hx hb dX2_advance_49 (by decide) (fun hc => ?_) (fun hc => ?_)
  · have h := h.1 hc
    exact t_X2_advance_73 C0 hK N  x1 x2 σ _ _ _ h hP hD hS (lv_sub hl [0, 1, 2] rfl)
  · have h := h.2 hc
    refine lv_aload_n hx hb dX2_advance_52 rfl (lv_at hl 0 rfl) ?_
    refine xg_12_0 hx hb hts hown hK hP mw_253 dX2_advance_53 ?_
    refine lv_iload_n hx hb dX2_advance_56 rfl (lv_at hl 2 rfl) ?_
    refine xa_57 hx hb hK hP h.1 rfl dX2_advance_57 ?_
    have h := h.2
    refine lv_aload_n hx hb dX2_advance_58 rfl (lv_at hl 0 rfl) ?_
    refine xg_12_0 hx hb hts hown hK hP mw_253 dX2_advance_59 ?_
    refine lv_iload_n hx hb dX2_advance_62 rfl (lv_at hl 1 rfl) ?_
    refine xa_57 hx hb hK hP h.1 rfl dX2_advance_63 ?_
    have h := h.2
    refine lv_icmp_ge (tgt := 73) hx hb dX2_advance_64 (by decide) (fun hc => ?_) (fun hc => ?_)
    · have h := h.1 hc
      exact t_X2_advance_73 C0 hK N  x1 x2 σ _ _ _ h hP hD hS (lv_sub hl [0, 1, 2] rfl)
    · have h := h.2 hc
      obtain ⟨v1, ev1⟩ : ∃ z : Int32, z = x2 + (-1 : Int32) := ⟨_, rfl⟩
      have h := h v1 ev1
      refine lv_iinc (v := v1) (lv' := [(2, .int v1), (0, .ref (ad 12)), (1, .int x1)]) hx hb dX2_advance_67 hl (k := 2) rfl (by rw [ev1]; rfl) (by decide) rfl (fun ls hl => ?_)
      refine lv_goto (tgt := 47) hx hb dX2_advance_70 (by decide) ?_
      exact hk_47 x1 v1 σ _ _ _ h hP hD hS (lv_sub hl [1, 2, 0] rfl)
set_option maxHeartbeats 4000000 in
set_option maxRecDepth 100000 in
theorem t_X2_advance_47 (C0 : zCx p s m meth c args RX2 cX2_advance 5 (some .boolean) vs_X2_advance) (hK : va_K (dC, dI) vwCl (x_ty cI cJ) s) (N : Nat) {Q : Int32 → zSt → Prop} : ∀ (f : Nat) (x1 : Int32) (x2 : Int32) (σ : zSt) (H : Heap) (locs : List Loc) (ls : Array Slot), w_X2_advance_47 N  Q f x1 x2 σ → va_P (dC, dI) vwCl (x_W ad cI cJ σ) H → va_D (zAW x_n ad s.heap.size) (x_W ad cI cJ σ) → va_S (zAW x_n ad s.heap.size) s.heap H locs → lv_has ls 5 [(0, .ref (ad 12)), (1, .int x1), (2, .int x2)] → W p l e rm_X2_advance s m args below meth c H locs 0 0 (MQ below (zQi (dC, dI) (x_ty cI cJ) (x_W ad cI cJ) (zAW x_n ad s.heap.size) Q) args s 0 0 (zAW x_n ad s.heap.size)) (F0 m 47 ls []) := by
  intro f
  induction f with
  | zero => intro x1 x2 σ H locs ls h; exact h.elim
  | succ f ih =>
    intro x1 x2 σ H locs ls h hP hD hS hl
    exact tb_X2_advance_47 C0 hK N  (k_47 := w_X2_advance_47 N  Q f) ih x1 x2 σ H locs ls h hP hD hS hl
set_option maxHeartbeats 4000000 in
set_option maxRecDepth 100000 in
theorem t_X2_advance_34 (C0 : zCx p s m meth c args RX2 cX2_advance 5 (some .boolean) vs_X2_advance) (hK : va_K (dC, dI) vwCl (x_ty cI cJ) s) (N : Nat) {Q : Int32 → zSt → Prop} : ∀ (x1 : Int32) (σ : zSt) (H : Heap) (locs : List Loc) (ls : Array Slot), b_X2_advance_34 N  Q x1 σ → va_P (dC, dI) vwCl (x_W ad cI cJ σ) H → va_D (zAW x_n ad s.heap.size) (x_W ad cI cJ σ) → va_S (zAW x_n ad s.heap.size) s.heap H locs → lv_has ls 5 [(0, .ref (ad 12)), (1, .int x1)] → W p l e rm_X2_advance s m args below meth c H locs 0 0 (MQ below (zQi (dC, dI) (x_ty cI cJ) (x_W ad cI cJ) (zAW x_n ad s.heap.size) Q) args s 0 0 (zAW x_n ad s.heap.size)) (F0 m 34 ls []) := by
  obtain ⟨hx, hb, hml, hr, hown, hts, hlocks⟩ := id C0
  intro x1 σ H locs ls h hP hD hS hl
  unfold b_X2_advance_34 at h
  refine lv_iload_n hx hb dX2_advance_34 rfl (lv_at hl 1 rfl) ?_
  refine lv_if_ge (tgt := 40) hx hb dX2_advance_35 (by decide) (fun hc => ?_) (fun hc => ?_)
  · have h := h.1 hc
    refine lv_aload_n hx hb dX2_advance_40 rfl (lv_at hl 0 rfl) ?_
    refine xg_12_1 hx hb hts hown hK hP mw_255 dX2_advance_41 ?_
    refine lv_iconst (v := (1 : Int32)) hx hb dX2_advance_44 (by decide) ?_
    refine lv_isub hx hb dX2_advance_45 ?_
    refine lv_topi (fun v1 ev1 => ?_)
    have h := h v1 ev1
    refine lv_istore_n (lv' := [(2, .int v1), (0, .ref (ad 12)), (1, .int x1)]) hx hb dX2_advance_46 rfl hl (by decide) rfl (fun ls hl => ?_)
    exact t_X2_advance_47 C0 hK N  N x1 v1 σ _ _ _ h hP hD hS (lv_sub hl [1, 2, 0] rfl)
  · have h := h.2 hc
    refine lv_iconst (v := (0 : Int32)) hx hb dX2_advance_38 (by decide) ?_
    exact zret_z hx hb hr hlocks hK hP hD hS zb_0 h dX2_advance_39
set_option maxHeartbeats 4000000 in
set_option maxRecDepth 100000 in
theorem tb_X2_advance_7 (C0 : zCx p s m meth c args RX2 cX2_advance 5 (some .boolean) vs_X2_advance) (hK : va_K (dC, dI) vwCl (x_ty cI cJ) s) (N : Nat) {Q : Int32 → zSt → Prop} {k_7 : Int32 → zSt → Prop} (hk_7 : ∀ (x1 : Int32) (σ : zSt) (H : Heap) (locs : List Loc) (ls : Array Slot), k_7 x1 σ → va_P (dC, dI) vwCl (x_W ad cI cJ σ) H → va_D (zAW x_n ad s.heap.size) (x_W ad cI cJ σ) → va_S (zAW x_n ad s.heap.size) s.heap H locs → lv_has ls 5 [(0, .ref (ad 12)), (1, .int x1)] → W p l e rm_X2_advance s m args below meth c H locs 0 0 (MQ below (zQi (dC, dI) (x_ty cI cJ) (x_W ad cI cJ) (zAW x_n ad s.heap.size) Q) args s 0 0 (zAW x_n ad s.heap.size)) (F0 m 7 ls [])) : ∀ (x1 : Int32) (σ : zSt) (H : Heap) (locs : List Loc) (ls : Array Slot), b_X2_advance_7 N k_7 Q x1 σ → va_P (dC, dI) vwCl (x_W ad cI cJ σ) H → va_D (zAW x_n ad s.heap.size) (x_W ad cI cJ σ) → va_S (zAW x_n ad s.heap.size) s.heap H locs → lv_has ls 5 [(0, .ref (ad 12)), (1, .int x1)] → W p l e rm_X2_advance s m args below meth c H locs 0 0 (MQ below (zQi (dC, dI) (x_ty cI cJ) (x_W ad cI cJ) (zAW x_n ad s.heap.size) Q) args s 0 0 (zAW x_n ad s.heap.size)) (F0 m 7 ls []) := by
  obtain ⟨hx, hb, hml, hr, hown, hts, hlocks⟩ := id C0
  intro x1 σ H locs ls h hP hD hS hl
  unfold b_X2_advance_7 at h
  refine lv_iload_n hx hb dX2_advance_7 rfl (lv_at hl 1 rfl) ?_
  refine lv_if_lt (tgt := 34) hx hb dX2_advance_8 (by decide) (fun hc => ?_) (fun hc => ?_)
  · have h := h.1 hc
    exact t_X2_advance_34 C0 hK N  x1 σ _ _ _ h hP hD hS (lv_sub hl [0, 1] rfl)
  · have h := h.2 hc
    refine lv_aload_n hx hb dX2_advance_11 rfl (lv_at hl 0 rfl) ?_
    refine xg_12_0 hx hb hts hown hK hP mw_253 dX2_advance_12 ?_
    refine lv_iload_n hx hb dX2_advance_15 rfl (lv_at hl 1 rfl) ?_
    refine xa_57 hx hb hK hP h.1 rfl dX2_advance_16 ?_
    have h := h.2
    refine lv_aload_n hx hb dX2_advance_17 rfl (lv_at hl 0 rfl) ?_
    refine xg_12_0 hx hb hts hown hK hP mw_253 dX2_advance_18 ?_
    refine lv_iload_n hx hb dX2_advance_21 rfl (lv_at hl 1 rfl) ?_
    refine lv_iconst (v := (1 : Int32)) hx hb dX2_advance_22 (by decide) ?_
    refine lv_iadd hx hb dX2_advance_23 ?_
    refine xa_57 hx hb hK hP h.1 rfl dX2_advance_24 ?_
    have h := h.2
    refine lv_icmp_le (tgt := 34) hx hb dX2_advance_25 (by decide) (fun hc => ?_) (fun hc => ?_)
    · have h := h.1 hc
      exact t_X2_advance_34 C0 hK N  x1 σ _ _ _ h hP hD hS (lv_sub hl [0, 1] rfl)
    · have h := h.2 hc
      obtain ⟨v1, ev1⟩ : ∃ z : Int32, z = x1 + (-1 : Int32) := ⟨_, rfl⟩
      have h := h v1 ev1
      refine lv_iinc (v := v1) (lv' := [(1, .int v1), (0, .ref (ad 12))]) hx hb dX2_advance_28 hl (k := 1) rfl (by rw [ev1]; rfl) (by decide) rfl (fun ls hl => ?_)
      refine lv_goto (tgt := 7) hx hb dX2_advance_31 (by decide) ?_
      exact hk_7 v1 σ _ _ _ h hP hD hS (lv_sub hl [1, 0] rfl)
set_option maxHeartbeats 4000000 in
set_option maxRecDepth 100000 in
theorem t_X2_advance_7 (C0 : zCx p s m meth c args RX2 cX2_advance 5 (some .boolean) vs_X2_advance) (hK : va_K (dC, dI) vwCl (x_ty cI cJ) s) (N : Nat) {Q : Int32 → zSt → Prop} : ∀ (f : Nat) (x1 : Int32) (σ : zSt) (H : Heap) (locs : List Loc) (ls : Array Slot), w_X2_advance_7 N  Q f x1 σ → va_P (dC, dI) vwCl (x_W ad cI cJ σ) H → va_D (zAW x_n ad s.heap.size) (x_W ad cI cJ σ) → va_S (zAW x_n ad s.heap.size) s.heap H locs → lv_has ls 5 [(0, .ref (ad 12)), (1, .int x1)] → W p l e rm_X2_advance s m args below meth c H locs 0 0 (MQ below (zQi (dC, dI) (x_ty cI cJ) (x_W ad cI cJ) (zAW x_n ad s.heap.size) Q) args s 0 0 (zAW x_n ad s.heap.size)) (F0 m 7 ls []) := by
  intro f
  induction f with
  | zero => intro x1 σ H locs ls h; exact h.elim
  | succ f ih =>
    intro x1 σ H locs ls h hP hD hS hl
    exact tb_X2_advance_7 C0 hK N  (k_7 := w_X2_advance_7 N  Q f) ih x1 σ H locs ls h hP hD hS hl
set_option maxHeartbeats 4000000 in
set_option maxRecDepth 100000 in
theorem t_X2_advance_0 (C0 : zCx p s m meth c args RX2 cX2_advance 5 (some .boolean) vs_X2_advance) (hK : va_K (dC, dI) vwCl (x_ty cI cJ) s) (N : Nat) {Q : Int32 → zSt → Prop} : ∀  (σ : zSt) (H : Heap) (locs : List Loc) (ls : Array Slot), w_X2_advance N  σ Q → va_P (dC, dI) vwCl (x_W ad cI cJ σ) H → va_D (zAW x_n ad s.heap.size) (x_W ad cI cJ σ) → va_S (zAW x_n ad s.heap.size) s.heap H locs → lv_has ls 5 [(0, .ref (ad 12))] → W p l e rm_X2_advance s m args below meth c H locs 0 0 (MQ below (zQi (dC, dI) (x_ty cI cJ) (x_W ad cI cJ) (zAW x_n ad s.heap.size) Q) args s 0 0 (zAW x_n ad s.heap.size)) (F0 m 0 ls []) := by
  obtain ⟨hx, hb, hml, hr, hown, hts, hlocks⟩ := id C0
  intro  σ H locs ls h hP hD hS hl
  unfold w_X2_advance at h
  refine lv_aload_n hx hb dX2_advance_0 rfl (lv_at hl 0 rfl) ?_
  refine xg_12_1 hx hb hts hown hK hP mw_255 dX2_advance_1 ?_
  refine lv_iconst (v := (2 : Int32)) hx hb dX2_advance_4 (by decide) ?_
  refine lv_isub hx hb dX2_advance_5 ?_
  refine lv_topi (fun v1 ev1 => ?_)
  have h := h v1 ev1
  refine lv_istore_n (lv' := [(1, .int v1), (0, .ref (ad 12))]) hx hb dX2_advance_6 rfl hl (by decide) rfl (fun ls hl => ?_)
  exact t_X2_advance_7 C0 hK N  N v1 σ _ _ _ h hP hD hS (lv_sub hl [1, 0] rfl)
set_option maxHeartbeats 4000000 in
set_option maxRecDepth 100000 in
theorem c_X2_advance (N : Nat) (l : Launch) (dC : Nat → ClassId) (dI : Nat → Nat → Nat) (ad : Nat → Nat) (cI cJ : ClassId) (sz : Nat) (σ : zSt)  (Q : Int32 → zSt → Prop) (h : w_X2_advance N  σ Q) : Met l yX2_advance vs_X2_advance rm_X2_advance (va_Pc [.ref (ad 12)] (zPc (dC, dI) (x_ty cI cJ) (x_W ad cI cJ) sz σ)) (zQi (dC, dI) (x_ty cI cJ) (x_W ad cI cJ) (zAW x_n ad sz) Q) 0 0 (zAW x_n ad sz) := by
  refine Met.ofW (cc := cX2_advance) (maxL := 5) (ret := (some .boolean)) (by decide) rfl ?_
  intro p e s m args below meth c s₁ B hml hv
  obtain ⟨rfl, hsz, hP, hK, hD0⟩ := hv
  subst hsz
  have C0 : zCx p s m meth c _ RX2 cX2_advance 5 (some .boolean) vs_X2_advance := ⟨B.exec, B.bytes, hml, B.returns, findClass_of_methodNamed B.named, atoms_spec (ws := vs_X2_advance) B.pre, B.notSynchronized⟩
  have hD := x_D0 (n0 := s.heap.size) hD0
  have hl := lv_entry ([.ref (ad 12)]) (n := 5) (Nat.le_of_ble_eq_true rfl)
  rw [lg_entry_eq]
  generalize (lg_sl ([.ref (ad 12)]) ++ List.replicate (5 - (lg_sl ([.ref (ad 12)])).length) Slot.unset).toArray = ls at hl ⊢
  exact t_X2_advance_0 C0 hK N  σ _ _ ls h hP hD va_S.rf hl
theorem k_X2_advance (N : Nat) {R : Room} {H : Heap} {locs : List Loc} {cells slots : Nat} {Q2 : State → Prop} {cc : ByteArray} {nL pc index : Nat} {ls : Array Slot} {rest : List Value} {own : String} {c0 : Cond} {σ : zSt}  {Q : Int32 → zSt → Prop} (S0 : CallFix p m c cc nL s args (c0 :: zT) own) (hml : Cond.methodLink own index yX2_advance ∈ zT) (hR : rm_X2_advance.frames + 1 ≤ R.frames ∧ 8 + (5 + 11) + rm_X2_advance.locals ≤ R.locals) (h : w_X2_advance N  σ Q) (hK : va_K (dC, dI) vwCl (x_ty cI cJ) s) (hP : va_P (dC, dI) vwCl (x_W ad cI cJ σ) H) (hD : va_D (zAW x_n ad s.heap.size) (x_W ad cI cJ σ)) (hS : va_S (zAW x_n ad s.heap.size) s.heap H locs) (hsz : ls.size = nL) (hW : (rest.map fun v => v.category).sum ≤ 8) (hcs : cells ≤ R.cells ∧ slots ≤ R.slots) (hdg : decode cc pc = .ok (.invokevirtual index, 3)) (kk : ∀ (r : Int32) (τ : zSt) (H1 : Heap) (locs1 : List Loc), Q r τ → va_P (dC, dI) vwCl (x_W ad cI cJ τ) H1 → va_D (zAW x_n ad s.heap.size) (x_W ad cI cJ τ) → va_S (zAW x_n ad s.heap.size) s.heap H1 locs1 → W p l e R s m args below meth c H1 locs1 cells slots Q2 (F0 m (pc + 3) ls (.int r :: rest))) : W p l e R s m args below meth c H locs cells slots Q2 (F0 m pc ls (.ref (ad 12) :: rest)) :=
  zcv_i (T := TX2) (N' := 2) (k := 12) (ci := 2) (fs := x_f12 ad σ) [] S0 (c_X2_advance N l dC dI ad cI cJ H.size σ  Q h) (cw_X2_advance S0.2.2.2.2 hml rfl rfl hR) rfl rfl hK hP hD hS rfl hsz hW rfl hcs hdg kk
end q10
section q10
def b_X2_mark_47 (N : Nat) (k_11 : Int64 → Int32 → Int32 → zSt → Prop) (Q : zSt → Prop) (x1 : Int64) (x6 : Int32) (σ : zSt) : Prop :=
  w_X2_advance N σ (fun r1 τ2 => ∀ v3 : Int32, v3 = x6 + (1 : Int32) → k_11 x1 r1 v3 τ2)
def b_X2_mark_11 (N : Nat) (k_11 : Int64 → Int32 → Int32 → zSt → Prop) (Q : zSt → Prop) (x1 : Int64) (x5 : Int32) (x6 : Int32) (σ : zSt) : Prop :=
  ((120 : Int32) ≤ x6 → Q σ) ∧ (¬ (120 : Int32) ≤ x6 → (x5 = 0 → Q σ) ∧ (¬ x5 = 0 → w_X2_renamed N x1 σ (fun r1 τ2 => (0 ≤ (lg_cmp r1 (1024 : Int32).toInt64) → b_X2_mark_47 N k_11 Q x1 x6 τ2) ∧ (¬ 0 ≤ (lg_cmp r1 (1024 : Int32).toInt64) → (vp_in r1.toInt32 1024) ∧ (∀ τ3 : zSt, τ3 = zA τ2 0 (upd (τ2.2.2.1 0) (r1.toInt32.toNatClampNeg) (1 : Int32)) → b_X2_mark_47 N k_11 Q x1 x6 τ3)))))
def w_X2_mark_11 (N : Nat) (Q : zSt → Prop) : Nat → Int64 → Int32 → Int32 → zSt → Prop
  | 0 => fun _ _ _ _ => False
  | f + 1 => b_X2_mark_11 N (w_X2_mark_11 N  Q f) Q
def w_X2_mark (N : Nat) (x1 : Int64) (x3 : Int32) (σ : zSt) (Q : zSt → Prop) : Prop :=
  w_X2_start N x3 σ (fun τ2 => w_X2_mark_11 N Q N x1 (1 : Int32) (0 : Int32) τ2)
variable {p : Program} {l : Launch} {e : Env} {s : State} {m : MethodId} {args : Array Value} {below : List Frame} {meth : Method} {c : Code} {dC : Nat → ClassId} {dI : Nat → Nat → Nat} {ad : Nat → Nat} {cI cJ : ClassId}
set_option maxHeartbeats 4000000 in
set_option maxRecDepth 100000 in
theorem t_X2_mark_47 (C0 : zCx p s m meth c args RX2 cX2_mark 9 none vs_X2_mark) (hK : va_K (dC, dI) vwCl (x_ty cI cJ) s) (N : Nat) {Q : zSt → Prop} {k_11 : Int64 → Int32 → Int32 → zSt → Prop} (hk_11 : ∀ (x1 : Int64) (x5 : Int32) (x6 : Int32) (σ : zSt) (H : Heap) (locs : List Loc) (ls : Array Slot), k_11 x1 x5 x6 σ → va_P (dC, dI) vwCl (x_W ad cI cJ σ) H → va_D (zAW x_n ad s.heap.size) (x_W ad cI cJ σ) → va_S (zAW x_n ad s.heap.size) s.heap H locs → lv_has ls 9 [(0, .ref (ad 12)), (1, .long x1), (4, .ref (ad 15)), (5, .int x5), (6, .int x6)] → W p l e rm_X2_mark s m args below meth c H locs 0 0 (MQ below (zQv (dC, dI) (x_ty cI cJ) (x_W ad cI cJ) (zAW x_n ad s.heap.size) Q) args s 0 0 (zAW x_n ad s.heap.size)) (F0 m 11 ls [])) : ∀ (x1 : Int64) (x6 : Int32) (σ : zSt) (H : Heap) (locs : List Loc) (ls : Array Slot), b_X2_mark_47 N k_11 Q x1 x6 σ → va_P (dC, dI) vwCl (x_W ad cI cJ σ) H → va_D (zAW x_n ad s.heap.size) (x_W ad cI cJ σ) → va_S (zAW x_n ad s.heap.size) s.heap H locs → lv_has ls 9 [(0, .ref (ad 12)), (1, .long x1), (4, .ref (ad 15)), (6, .int x6)] → W p l e rm_X2_mark s m args below meth c H locs 0 0 (MQ below (zQv (dC, dI) (x_ty cI cJ) (x_W ad cI cJ) (zAW x_n ad s.heap.size) Q) args s 0 0 (zAW x_n ad s.heap.size)) (F0 m 47 ls []) := by
  obtain ⟨hx, hb, hml, hr, hown, hts, hlocks⟩ := id C0
  intro x1 x6 σ H locs ls h hP hD hS hl
  unfold b_X2_mark_47 at h
  refine lv_aload_n hx hb dX2_mark_47 rfl (lv_at hl 0 rfl) ?_
  refine k_X2_advance N ⟨hx, hb, hml, hown, hts⟩ mw_723 ⟨Nat.le_of_ble_eq_true rfl, Nat.le_of_ble_eq_true rfl⟩ h hK hP hD hS hl.1 (rest := []) (Nat.le_of_ble_eq_true rfl) ⟨Nat.le_of_ble_eq_true rfl, Nat.le_of_ble_eq_true rfl⟩ dX2_mark_48 (fun r1 τ2 H locs h hP hD hS => ?_)
  refine lv_istore (lv' := [(5, .int r1), (0, .ref (ad 12)), (1, .long x1), (4, .ref (ad 15)), (6, .int x6)]) hx hb dX2_mark_51 hl (by decide) rfl (fun ls hl => ?_)
  obtain ⟨v3, ev3⟩ : ∃ z : Int32, z = x6 + (1 : Int32) := ⟨_, rfl⟩
  have h := h v3 ev3
  refine lv_iinc (v := v3) (lv' := [(6, .int v3), (5, .int r1), (0, .ref (ad 12)), (1, .long x1), (4, .ref (ad 15))]) hx hb dX2_mark_53 hl (k := 4) rfl (by rw [ev3]; rfl) (by decide) rfl (fun ls hl => ?_)
  refine lv_goto (tgt := 11) hx hb dX2_mark_56 (by decide) ?_
  exact hk_11 x1 r1 v3 τ2 _ _ _ h hP hD hS (lv_sub hl [2, 3, 4, 1, 0] rfl)
set_option maxHeartbeats 4000000 in
set_option maxRecDepth 100000 in
theorem tb_X2_mark_11 (C0 : zCx p s m meth c args RX2 cX2_mark 9 none vs_X2_mark) (hK : va_K (dC, dI) vwCl (x_ty cI cJ) s) (N : Nat) {Q : zSt → Prop} {k_11 : Int64 → Int32 → Int32 → zSt → Prop} (hk_11 : ∀ (x1 : Int64) (x5 : Int32) (x6 : Int32) (σ : zSt) (H : Heap) (locs : List Loc) (ls : Array Slot), k_11 x1 x5 x6 σ → va_P (dC, dI) vwCl (x_W ad cI cJ σ) H → va_D (zAW x_n ad s.heap.size) (x_W ad cI cJ σ) → va_S (zAW x_n ad s.heap.size) s.heap H locs → lv_has ls 9 [(0, .ref (ad 12)), (1, .long x1), (4, .ref (ad 15)), (5, .int x5), (6, .int x6)] → W p l e rm_X2_mark s m args below meth c H locs 0 0 (MQ below (zQv (dC, dI) (x_ty cI cJ) (x_W ad cI cJ) (zAW x_n ad s.heap.size) Q) args s 0 0 (zAW x_n ad s.heap.size)) (F0 m 11 ls [])) : ∀ (x1 : Int64) (x5 : Int32) (x6 : Int32) (σ : zSt) (H : Heap) (locs : List Loc) (ls : Array Slot), b_X2_mark_11 N k_11 Q x1 x5 x6 σ → va_P (dC, dI) vwCl (x_W ad cI cJ σ) H → va_D (zAW x_n ad s.heap.size) (x_W ad cI cJ σ) → va_S (zAW x_n ad s.heap.size) s.heap H locs → lv_has ls 9 [(0, .ref (ad 12)), (1, .long x1), (4, .ref (ad 15)), (5, .int x5), (6, .int x6)] → W p l e rm_X2_mark s m args below meth c H locs 0 0 (MQ below (zQv (dC, dI) (x_ty cI cJ) (x_W ad cI cJ) (zAW x_n ad s.heap.size) Q) args s 0 0 (zAW x_n ad s.heap.size)) (F0 m 11 ls []) := by
  obtain ⟨hx, hb, hml, hr, hown, hts, hlocks⟩ := id C0
  intro x1 x5 x6 σ H locs ls h hP hD hS hl
  unfold b_X2_mark_11 at h
  refine lv_iload hx hb dX2_mark_11 (lv_at hl 4 rfl) ?_
  refine lv_bipush (v := (120 : Int32)) hx hb dX2_mark_13 (by decide) ?_
  refine lv_icmp_ge (tgt := 59) hx hb dX2_mark_15 (by decide) (fun hc => ?_) (fun hc => ?_)
  · have h := h.1 hc
    exact zret_v hx hb hr hlocks hK hP hD hS h dX2_mark_59
  · have h := h.2 hc
    refine lv_iload hx hb dX2_mark_18 (lv_at hl 3 rfl) ?_
    refine lv_if_eq (tgt := 59) hx hb dX2_mark_20 (by decide) (fun hc => ?_) (fun hc => ?_)
    · have h := h.1 hc
      exact zret_v hx hb hr hlocks hK hP hD hS h dX2_mark_59
    · have h := h.2 hc
      refine lv_aload_n hx hb dX2_mark_23 rfl (lv_at hl 0 rfl) ?_
      refine lv_lload_n hx hb dX2_mark_24 rfl (lv_at hl 1 rfl) ?_
      refine k_X2_renamed N ⟨hx, hb, hml, hown, hts⟩ mw_719 ⟨Nat.le_of_ble_eq_true rfl, Nat.le_of_ble_eq_true rfl⟩ h hK hP hD hS hl.1 (rest := []) (Nat.le_of_ble_eq_true rfl) ⟨Nat.le_of_ble_eq_true rfl, Nat.le_of_ble_eq_true rfl⟩ dX2_mark_25 (fun r1 τ2 H locs h hP hD hS => ?_)
      refine lv_lstore (lv' := [(7, .long r1), (0, .ref (ad 12)), (1, .long x1), (4, .ref (ad 15)), (5, .int x5), (6, .int x6)]) hx hb dX2_mark_28 hl (by decide) rfl (fun ls hl => ?_)
      refine lv_lload hx hb dX2_mark_30 (lv_at hl 0 rfl) ?_
      refine lv_aload hx hb dX2_mark_32 (lv_at hl 3 rfl) ?_
      refine xl_15 hx hb hK hP dX2_mark_34 ?_
      refine lv_i2l hx hb dX2_mark_35 rfl ?_
      refine W.lcmp hx hb dX2_mark_36 ?_
      refine lv_if_ge (tgt := 47) hx hb dX2_mark_37 (by decide) (fun hc => ?_) (fun hc => ?_)
      · have h := h.1 hc
        exact t_X2_mark_47 C0 hK N hk_11 x1 x6 τ2 _ _ _ h hP hD hS (lv_sub hl [1, 2, 3, 5] rfl)
      · have h := h.2 hc
        refine lv_aload hx hb dX2_mark_40 (lv_at hl 3 rfl) ?_
        refine lv_lload hx hb dX2_mark_42 (lv_at hl 0 rfl) ?_
        refine lv_l2i hx hb dX2_mark_44 rfl ?_
        refine lv_iconst (v := (1 : Int32)) hx hb dX2_mark_45 (by decide) ?_
        refine xs_15 hx hb hK hP hD hS h.1 rfl dX2_mark_46 (fun τ3 H locs eτ3 hP hD hS => ?_)
        have h := h.2
        have h := h τ3 eτ3
        exact t_X2_mark_47 C0 hK N hk_11 x1 x6 τ3 _ _ _ h hP hD hS (lv_sub hl [1, 2, 3, 5] rfl)
set_option maxHeartbeats 4000000 in
set_option maxRecDepth 100000 in
theorem t_X2_mark_11 (C0 : zCx p s m meth c args RX2 cX2_mark 9 none vs_X2_mark) (hK : va_K (dC, dI) vwCl (x_ty cI cJ) s) (N : Nat) {Q : zSt → Prop} : ∀ (f : Nat) (x1 : Int64) (x5 : Int32) (x6 : Int32) (σ : zSt) (H : Heap) (locs : List Loc) (ls : Array Slot), w_X2_mark_11 N  Q f x1 x5 x6 σ → va_P (dC, dI) vwCl (x_W ad cI cJ σ) H → va_D (zAW x_n ad s.heap.size) (x_W ad cI cJ σ) → va_S (zAW x_n ad s.heap.size) s.heap H locs → lv_has ls 9 [(0, .ref (ad 12)), (1, .long x1), (4, .ref (ad 15)), (5, .int x5), (6, .int x6)] → W p l e rm_X2_mark s m args below meth c H locs 0 0 (MQ below (zQv (dC, dI) (x_ty cI cJ) (x_W ad cI cJ) (zAW x_n ad s.heap.size) Q) args s 0 0 (zAW x_n ad s.heap.size)) (F0 m 11 ls []) := by
  intro f
  induction f with
  | zero => intro x1 x5 x6 σ H locs ls h; exact h.elim
  | succ f ih =>
    intro x1 x5 x6 σ H locs ls h hP hD hS hl
    exact tb_X2_mark_11 C0 hK N  (k_11 := w_X2_mark_11 N  Q f) ih x1 x5 x6 σ H locs ls h hP hD hS hl
set_option maxHeartbeats 4000000 in
set_option maxRecDepth 100000 in
theorem t_X2_mark_0 (C0 : zCx p s m meth c args RX2 cX2_mark 9 none vs_X2_mark) (hK : va_K (dC, dI) vwCl (x_ty cI cJ) s) (N : Nat) {Q : zSt → Prop} : ∀ (x1 : Int64) (x3 : Int32) (σ : zSt) (H : Heap) (locs : List Loc) (ls : Array Slot), w_X2_mark N x1 x3 σ Q → va_P (dC, dI) vwCl (x_W ad cI cJ σ) H → va_D (zAW x_n ad s.heap.size) (x_W ad cI cJ σ) → va_S (zAW x_n ad s.heap.size) s.heap H locs → lv_has ls 9 [(0, .ref (ad 12)), (1, .long x1), (3, .int x3), (4, .ref (ad 15))] → W p l e rm_X2_mark s m args below meth c H locs 0 0 (MQ below (zQv (dC, dI) (x_ty cI cJ) (x_W ad cI cJ) (zAW x_n ad s.heap.size) Q) args s 0 0 (zAW x_n ad s.heap.size)) (F0 m 0 ls []) := by
  obtain ⟨hx, hb, hml, hr, hown, hts, hlocks⟩ := id C0
  intro x1 x3 σ H locs ls h hP hD hS hl
  unfold w_X2_mark at h
  refine lv_aload_n hx hb dX2_mark_0 rfl (lv_at hl 0 rfl) ?_
  refine lv_iload_n hx hb dX2_mark_1 rfl (lv_at hl 2 rfl) ?_
  refine k_X2_start N ⟨hx, hb, hml, hown, hts⟩ mw_714 ⟨Nat.le_of_ble_eq_true rfl, Nat.le_of_ble_eq_true rfl⟩ h hK hP hD hS hl.1 (rest := []) (Nat.le_of_ble_eq_true rfl) ⟨Nat.le_of_ble_eq_true rfl, Nat.le_of_ble_eq_true rfl⟩ dX2_mark_2 (fun τ2 H locs h hP hD hS => ?_)
  refine lv_iconst (v := (1 : Int32)) hx hb dX2_mark_5 (by decide) ?_
  refine lv_istore (lv' := [(5, .int (1 : Int32)), (0, .ref (ad 12)), (1, .long x1), (3, .int x3), (4, .ref (ad 15))]) hx hb dX2_mark_6 hl (by decide) rfl (fun ls hl => ?_)
  refine lv_iconst (v := (0 : Int32)) hx hb dX2_mark_8 (by decide) ?_
  refine lv_istore (lv' := [(6, .int (0 : Int32)), (5, .int (1 : Int32)), (0, .ref (ad 12)), (1, .long x1), (3, .int x3), (4, .ref (ad 15))]) hx hb dX2_mark_9 hl (by decide) rfl (fun ls hl => ?_)
  exact t_X2_mark_11 C0 hK N  N x1 (1 : Int32) (0 : Int32) τ2 _ _ _ h hP hD hS (lv_sub hl [2, 3, 5, 1, 0] rfl)
set_option maxHeartbeats 4000000 in
set_option maxRecDepth 100000 in
theorem c_X2_mark (N : Nat) (l : Launch) (dC : Nat → ClassId) (dI : Nat → Nat → Nat) (ad : Nat → Nat) (cI cJ : ClassId) (sz : Nat) (σ : zSt) (x1 : Int64) (x3 : Int32) (Q : zSt → Prop) (h : w_X2_mark N x1 x3 σ Q) : Met l yX2_mark vs_X2_mark rm_X2_mark (va_Pc [.ref (ad 12), .long x1, .int x3, .ref (ad 15)] (zPc (dC, dI) (x_ty cI cJ) (x_W ad cI cJ) sz σ)) (zQv (dC, dI) (x_ty cI cJ) (x_W ad cI cJ) (zAW x_n ad sz) Q) 0 0 (zAW x_n ad sz) := by
  refine Met.ofW (cc := cX2_mark) (maxL := 9) (ret := none) (by decide) rfl ?_
  intro p e s m args below meth c s₁ B hml hv
  obtain ⟨rfl, hsz, hP, hK, hD0⟩ := hv
  subst hsz
  have C0 : zCx p s m meth c _ RX2 cX2_mark 9 none vs_X2_mark := ⟨B.exec, B.bytes, hml, B.returns, findClass_of_methodNamed B.named, atoms_spec (ws := vs_X2_mark) B.pre, B.notSynchronized⟩
  have hD := x_D0 (n0 := s.heap.size) hD0
  have hl := lv_entry ([.ref (ad 12), .long x1, .int x3, .ref (ad 15)]) (n := 9) (Nat.le_of_ble_eq_true rfl)
  rw [lg_entry_eq]
  generalize (lg_sl ([.ref (ad 12), .long x1, .int x3, .ref (ad 15)]) ++ List.replicate (9 - (lg_sl ([.ref (ad 12), .long x1, .int x3, .ref (ad 15)])).length) Slot.unset).toArray = ls at hl ⊢
  exact t_X2_mark_0 C0 hK N x1 x3 σ _ _ ls h hP hD va_S.rf hl
theorem k_X2_mark (N : Nat) {R : Room} {H : Heap} {locs : List Loc} {cells slots : Nat} {Q2 : State → Prop} {cc : ByteArray} {nL pc index : Nat} {ls : Array Slot} {rest : List Value} {own : String} {c0 : Cond} {σ : zSt} {x1 : Int64} {x3 : Int32} {Q : zSt → Prop} (S0 : CallFix p m c cc nL s args (c0 :: zT) own) (hml : Cond.methodLink own index yX2_mark ∈ zT) (hR : rm_X2_mark.frames + 1 ≤ R.frames ∧ 8 + (9 + 11) + rm_X2_mark.locals ≤ R.locals) (h : w_X2_mark N x1 x3 σ Q) (hK : va_K (dC, dI) vwCl (x_ty cI cJ) s) (hP : va_P (dC, dI) vwCl (x_W ad cI cJ σ) H) (hD : va_D (zAW x_n ad s.heap.size) (x_W ad cI cJ σ)) (hS : va_S (zAW x_n ad s.heap.size) s.heap H locs) (hsz : ls.size = nL) (hW : (rest.map fun v => v.category).sum ≤ 8) (hcs : cells ≤ R.cells ∧ slots ≤ R.slots) (hdg : decode cc pc = .ok (.invokevirtual index, 3)) (kk : ∀ (τ : zSt) (H1 : Heap) (locs1 : List Loc), Q τ → va_P (dC, dI) vwCl (x_W ad cI cJ τ) H1 → va_D (zAW x_n ad s.heap.size) (x_W ad cI cJ τ) → va_S (zAW x_n ad s.heap.size) s.heap H1 locs1 → W p l e R s m args below meth c H1 locs1 cells slots Q2 (F0 m (pc + 3) ls (rest))) : W p l e R s m args below meth c H locs cells slots Q2 (F0 m pc ls (.ref (ad 15) :: .int x3 :: .long x1 :: .ref (ad 12) :: rest)) :=
  zcv_v (T := TX2) (N' := 2) (k := 12) (ci := 2) (fs := x_f12 ad σ) [.long x1, .int x3, .ref (ad 15)] S0 (c_X2_mark N l dC dI ad cI cJ H.size σ x1 x3 Q h) (cw_X2_mark S0.2.2.2.2 hml rfl rfl hR) rfl rfl hK hP hD hS rfl hsz hW rfl hcs hdg kk
end q10
section q10
def b_X11_keepShapes_12 (N : Nat) (k_12 : Int32 → Int32 → zSt → Prop) (Q : zSt → Prop) (x1 : Int32) (x2 : Int32) (σ : zSt) : Prop :=
  ((σ.1 34) ≤ x2 → ∀ τ1 : zSt, τ1 = zI σ 34 x1 → Q τ1) ∧ (¬ (σ.1 34) ≤ x2 → (vp_in x2 1024) ∧ (∀ v2 : Int64, v2 = σ.2.2.2 11 x2.toNatClampNeg → (0 ≤ (lg_cmp v2 (1024 : Int32).toInt64) → ∀ v3 : Int32, v3 = x2 + (1 : Int32) → k_12 x1 v3 σ) ∧ (¬ 0 ≤ (lg_cmp v2 (1024 : Int32).toInt64) → (vp_in v2.toInt32 1024) ∧ (((σ.2.2.1 0 v2.toInt32.toNatClampNeg) = 0 → (vp_in x1 1024) ∧ (∀ τ5 : zSt, τ5 = zB σ 11 (vp_updL (σ.2.2.2 11) (x1.toNatClampNeg) v2) → ∀ v6 : Int32, v6 = x1 + (1 : Int32) → w_X2_mark N v2 (τ5.1 1) τ5 (fun τ8 => ∀ v9 : Int32, v9 = x2 + (1 : Int32) → k_12 v6 v9 τ8))) ∧ (¬ (σ.2.2.1 0 v2.toInt32.toNatClampNeg) = 0 → ∀ v4 : Int32, v4 = x2 + (1 : Int32) → k_12 x1 v4 σ)))))
def w_X11_keepShapes_12 (N : Nat) (Q : zSt → Prop) : Nat → Int32 → Int32 → zSt → Prop
  | 0 => fun _ _ _ => False
  | f + 1 => b_X11_keepShapes_12 N (w_X11_keepShapes_12 N  Q f) Q
def w_X11_keepShapes (N : Nat)  (σ : zSt) (Q : zSt → Prop) : Prop :=
  w_J7_fill_53178 N (0 : Int32) σ (fun τ2 => w_X11_keepShapes_12 N Q N (0 : Int32) (0 : Int32) τ2)
variable {p : Program} {l : Launch} {e : Env} {s : State} {m : MethodId} {args : Array Value} {below : List Frame} {meth : Method} {c : Code} {dC : Nat → ClassId} {dI : Nat → Nat → Nat} {ad : Nat → Nat} {cI cJ : ClassId}
set_option maxHeartbeats 4000000 in
set_option maxRecDepth 100000 in
theorem tb_X11_keepShapes_12 (C0 : zCx p s m meth c args RX11 cX11_keepShapes 5 none vs_X11_keepShapes) (hK : va_K (dC, dI) vwCl (x_ty cI cJ) s) (N : Nat) {Q : zSt → Prop} {k_12 : Int32 → Int32 → zSt → Prop} (hk_12 : ∀ (x1 : Int32) (x2 : Int32) (σ : zSt) (H : Heap) (locs : List Loc) (ls : Array Slot), k_12 x1 x2 σ → va_P (dC, dI) vwCl (x_W ad cI cJ σ) H → va_D (zAW x_n ad s.heap.size) (x_W ad cI cJ σ) → va_S (zAW x_n ad s.heap.size) s.heap H locs → lv_has ls 5 [(0, .ref (ad 0)), (1, .int x1), (2, .int x2)] → W p l e rm_X11_keepShapes s m args below meth c H locs 0 0 (MQ below (zQv (dC, dI) (x_ty cI cJ) (x_W ad cI cJ) (zAW x_n ad s.heap.size) Q) args s 0 0 (zAW x_n ad s.heap.size)) (F0 m 12 ls [])) : ∀ (x1 : Int32) (x2 : Int32) (σ : zSt) (H : Heap) (locs : List Loc) (ls : Array Slot), b_X11_keepShapes_12 N k_12 Q x1 x2 σ → va_P (dC, dI) vwCl (x_W ad cI cJ σ) H → va_D (zAW x_n ad s.heap.size) (x_W ad cI cJ σ) → va_S (zAW x_n ad s.heap.size) s.heap H locs → lv_has ls 5 [(0, .ref (ad 0)), (1, .int x1), (2, .int x2)] → W p l e rm_X11_keepShapes s m args below meth c H locs 0 0 (MQ below (zQv (dC, dI) (x_ty cI cJ) (x_W ad cI cJ) (zAW x_n ad s.heap.size) Q) args s 0 0 (zAW x_n ad s.heap.size)) (F0 m 12 ls []) := by
  obtain ⟨hx, hb, hml, hr, hown, hts, hlocks⟩ := id C0
  intro x1 x2 σ H locs ls h hP hD hS hl
  unfold b_X11_keepShapes_12 at h
  refine lv_iload_n hx hb dX11_keepShapes_12 rfl (lv_at hl 2 rfl) ?_
  refine lv_aload_n hx hb dX11_keepShapes_13 rfl (lv_at hl 0 rfl) ?_
  refine xg_0_9 hx hb hts hown hK hP mw_298 dX11_keepShapes_14 ?_
  refine xg_13_2 hx hb hts hown hK hP mw_267 dX11_keepShapes_17 ?_
  refine lv_icmp_ge (tgt := 92) hx hb dX11_keepShapes_20 (by decide) (fun hc => ?_) (fun hc => ?_)
  · have h := h.1 hc
    refine lv_aload_n hx hb dX11_keepShapes_92 rfl (lv_at hl 0 rfl) ?_
    refine xg_0_9 hx hb hts hown hK hP mw_298 dX11_keepShapes_93 ?_
    refine lv_iload_n hx hb dX11_keepShapes_96 rfl (lv_at hl 1 rfl) ?_
    refine xp_13_2 hx hb hts hown hK hP hD hS mw_267 dX11_keepShapes_97 (fun τ1 H locs eτ1 hP hD hS => ?_)
    have h := h τ1 eτ1
    exact zret_v hx hb hr hlocks hK hP hD hS h dX11_keepShapes_100
  · have h := h.2 hc
    refine lv_aload_n hx hb dX11_keepShapes_23 rfl (lv_at hl 0 rfl) ?_
    refine xg_0_9 hx hb hts hown hK hP mw_298 dX11_keepShapes_24 ?_
    refine xg_13_0 hx hb hts hown hK hP mw_263 dX11_keepShapes_27 ?_
    refine lv_iload_n hx hb dX11_keepShapes_30 rfl (lv_at hl 2 rfl) ?_
    refine xa_58 hx hb hK hP h.1 rfl dX11_keepShapes_31 ?_
    have h := h.2
    refine lv_topl (fun v2 ev2 => ?_)
    have h := h v2 ev2
    refine lv_lstore_n (lv' := [(3, .long v2), (0, .ref (ad 0)), (1, .int x1), (2, .int x2)]) hx hb dX11_keepShapes_32 rfl hl (by decide) rfl (fun ls hl => ?_)
    refine lv_lload_n hx hb dX11_keepShapes_33 rfl (lv_at hl 0 rfl) ?_
    refine lv_aload_n hx hb dX11_keepShapes_34 rfl (lv_at hl 1 rfl) ?_
    refine xg_0_11 hx hb hts hown hK hP mw_300 dX11_keepShapes_35 ?_
    refine xl_15 hx hb hK hP dX11_keepShapes_38 ?_
    refine lv_i2l hx hb dX11_keepShapes_39 rfl ?_
    refine W.lcmp hx hb dX11_keepShapes_40 ?_
    refine lv_if_ge (tgt := 86) hx hb dX11_keepShapes_41 (by decide) (fun hc => ?_) (fun hc => ?_)
    · have h := h.1 hc
      obtain ⟨v3, ev3⟩ : ∃ z : Int32, z = x2 + (1 : Int32) := ⟨_, rfl⟩
      have h := h v3 ev3
      refine lv_iinc (v := v3) (lv' := [(2, .int v3), (3, .long v2), (0, .ref (ad 0)), (1, .int x1)]) hx hb dX11_keepShapes_86 hl (k := 3) rfl (by rw [ev3]; rfl) (by decide) rfl (fun ls hl => ?_)
      refine lv_goto (tgt := 12) hx hb dX11_keepShapes_89 (by decide) ?_
      exact hk_12 x1 v3 σ _ _ _ h hP hD hS (lv_sub hl [2, 3, 0] rfl)
    · have h := h.2 hc
      refine lv_aload_n hx hb dX11_keepShapes_44 rfl (lv_at hl 1 rfl) ?_
      refine xg_0_11 hx hb hts hown hK hP mw_300 dX11_keepShapes_45 ?_
      refine lv_lload_n hx hb dX11_keepShapes_48 rfl (lv_at hl 0 rfl) ?_
      refine lv_l2i hx hb dX11_keepShapes_49 rfl ?_
      refine xa_15 hx hb hK hP h.1 rfl dX11_keepShapes_50 ?_
      have h := h.2
      refine lv_if_ne (tgt := 86) hx hb dX11_keepShapes_51 (by decide) (fun hc => ?_) (fun hc => ?_)
      · have h := h.2 hc
        obtain ⟨v4, ev4⟩ : ∃ z : Int32, z = x2 + (1 : Int32) := ⟨_, rfl⟩
        have h := h v4 ev4
        refine lv_iinc (v := v4) (lv' := [(2, .int v4), (3, .long v2), (0, .ref (ad 0)), (1, .int x1)]) hx hb dX11_keepShapes_86 hl (k := 3) rfl (by rw [ev4]; rfl) (by decide) rfl (fun ls hl => ?_)
        refine lv_goto (tgt := 12) hx hb dX11_keepShapes_89 (by decide) ?_
        exact hk_12 x1 v4 σ _ _ _ h hP hD hS (lv_sub hl [2, 3, 0] rfl)
      · have h := h.1 hc
        refine lv_aload_n hx hb dX11_keepShapes_54 rfl (lv_at hl 1 rfl) ?_
        refine xg_0_9 hx hb hts hown hK hP mw_298 dX11_keepShapes_55 ?_
        refine xg_13_0 hx hb hts hown hK hP mw_263 dX11_keepShapes_58 ?_
        refine lv_iload_n hx hb dX11_keepShapes_61 rfl (lv_at hl 2 rfl) ?_
        refine lv_lload_n hx hb dX11_keepShapes_62 rfl (lv_at hl 0 rfl) ?_
        refine xs_58 hx hb hK hP hD hS h.1 rfl dX11_keepShapes_63 (fun τ5 H locs eτ5 hP hD hS => ?_)
        have h := h.2
        have h := h τ5 eτ5
        obtain ⟨v6, ev6⟩ : ∃ z : Int32, z = x1 + (1 : Int32) := ⟨_, rfl⟩
        have h := h v6 ev6
        refine lv_iinc (v := v6) (lv' := [(1, .int v6), (3, .long v2), (0, .ref (ad 0)), (2, .int x2)]) hx hb dX11_keepShapes_64 hl (k := 2) rfl (by rw [ev6]; rfl) (by decide) rfl (fun ls hl => ?_)
        refine lv_aload_n hx hb dX11_keepShapes_67 rfl (lv_at hl 2 rfl) ?_
        refine xg_0_8 hx hb hts hown hK hP mw_297 dX11_keepShapes_68 ?_
        refine lv_lload_n hx hb dX11_keepShapes_71 rfl (lv_at hl 1 rfl) ?_
        refine lv_aload_n hx hb dX11_keepShapes_72 rfl (lv_at hl 2 rfl) ?_
        refine xg_0_2 hx hb hts hown hK hP mw_291 dX11_keepShapes_73 ?_
        refine xg_3_4 hx hb hts hown hK hP mw_75 dX11_keepShapes_76 ?_
        refine lv_aload_n hx hb dX11_keepShapes_79 rfl (lv_at hl 2 rfl) ?_
        refine xg_0_11 hx hb hts hown hK hP mw_300 dX11_keepShapes_80 ?_
        refine k_X2_mark N ⟨hx, hb, hml, hown, hts⟩ mw_710 ⟨Nat.le_of_ble_eq_true rfl, Nat.le_of_ble_eq_true rfl⟩ h hK hP hD hS hl.1 (rest := []) (Nat.le_of_ble_eq_true rfl) ⟨Nat.le_of_ble_eq_true rfl, Nat.le_of_ble_eq_true rfl⟩ dX11_keepShapes_83 (fun τ8 H locs h hP hD hS => ?_)
        obtain ⟨v9, ev9⟩ : ∃ z : Int32, z = x2 + (1 : Int32) := ⟨_, rfl⟩
        have h := h v9 ev9
        refine lv_iinc (v := v9) (lv' := [(2, .int v9), (1, .int v6), (3, .long v2), (0, .ref (ad 0))]) hx hb dX11_keepShapes_86 hl (k := 3) rfl (by rw [ev9]; rfl) (by decide) rfl (fun ls hl => ?_)
        refine lv_goto (tgt := 12) hx hb dX11_keepShapes_89 (by decide) ?_
        exact hk_12 v6 v9 τ8 _ _ _ h hP hD hS (lv_sub hl [3, 1, 0] rfl)
set_option maxHeartbeats 4000000 in
set_option maxRecDepth 100000 in
theorem t_X11_keepShapes_12 (C0 : zCx p s m meth c args RX11 cX11_keepShapes 5 none vs_X11_keepShapes) (hK : va_K (dC, dI) vwCl (x_ty cI cJ) s) (N : Nat) {Q : zSt → Prop} : ∀ (f : Nat) (x1 : Int32) (x2 : Int32) (σ : zSt) (H : Heap) (locs : List Loc) (ls : Array Slot), w_X11_keepShapes_12 N  Q f x1 x2 σ → va_P (dC, dI) vwCl (x_W ad cI cJ σ) H → va_D (zAW x_n ad s.heap.size) (x_W ad cI cJ σ) → va_S (zAW x_n ad s.heap.size) s.heap H locs → lv_has ls 5 [(0, .ref (ad 0)), (1, .int x1), (2, .int x2)] → W p l e rm_X11_keepShapes s m args below meth c H locs 0 0 (MQ below (zQv (dC, dI) (x_ty cI cJ) (x_W ad cI cJ) (zAW x_n ad s.heap.size) Q) args s 0 0 (zAW x_n ad s.heap.size)) (F0 m 12 ls []) := by
  intro f
  induction f with
  | zero => intro x1 x2 σ H locs ls h; exact h.elim
  | succ f ih =>
    intro x1 x2 σ H locs ls h hP hD hS hl
    exact tb_X11_keepShapes_12 C0 hK N  (k_12 := w_X11_keepShapes_12 N  Q f) ih x1 x2 σ H locs ls h hP hD hS hl
set_option maxHeartbeats 4000000 in
set_option maxRecDepth 100000 in
theorem t_X11_keepShapes_0 (C0 : zCx p s m meth c args RX11 cX11_keepShapes 5 none vs_X11_keepShapes) (hK : va_K (dC, dI) vwCl (x_ty cI cJ) s) (N : Nat) {Q : zSt → Prop} : ∀  (σ : zSt) (H : Heap) (locs : List Loc) (ls : Array Slot), w_X11_keepShapes N  σ Q → va_P (dC, dI) vwCl (x_W ad cI cJ σ) H → va_D (zAW x_n ad s.heap.size) (x_W ad cI cJ σ) → va_S (zAW x_n ad s.heap.size) s.heap H locs → lv_has ls 5 [(0, .ref (ad 0))] → W p l e rm_X11_keepShapes s m args below meth c H locs 0 0 (MQ below (zQv (dC, dI) (x_ty cI cJ) (x_W ad cI cJ) (zAW x_n ad s.heap.size) Q) args s 0 0 (zAW x_n ad s.heap.size)) (F0 m 0 ls []) := by
  obtain ⟨hx, hb, hml, hr, hown, hts, hlocks⟩ := id C0
  intro  σ H locs ls h hP hD hS hl
  unfold w_X11_keepShapes at h
  refine lv_aload_n hx hb dX11_keepShapes_0 rfl (lv_at hl 0 rfl) ?_
  refine xg_0_11 hx hb hts hown hK hP mw_300 dX11_keepShapes_1 ?_
  refine lv_iconst (v := (0 : Int32)) hx hb dX11_keepShapes_4 (by decide) ?_
  refine k_J7_fill_53178 N ⟨hx, hb, hml, hown, hts⟩ mw_268 ⟨Nat.le_of_ble_eq_true rfl, Nat.le_of_ble_eq_true rfl⟩ h hK hP hD hS hl.1 (rest := []) (Nat.le_of_ble_eq_true rfl) ⟨Nat.le_of_ble_eq_true rfl, Nat.le_of_ble_eq_true rfl⟩ dX11_keepShapes_5 (fun τ2 H locs h hP hD hS => ?_)
  refine lv_iconst (v := (0 : Int32)) hx hb dX11_keepShapes_8 (by decide) ?_
  refine lv_istore_n (lv' := [(1, .int (0 : Int32)), (0, .ref (ad 0))]) hx hb dX11_keepShapes_9 rfl hl (by decide) rfl (fun ls hl => ?_)
  refine lv_iconst (v := (0 : Int32)) hx hb dX11_keepShapes_10 (by decide) ?_
  refine lv_istore_n (lv' := [(2, .int (0 : Int32)), (1, .int (0 : Int32)), (0, .ref (ad 0))]) hx hb dX11_keepShapes_11 rfl hl (by decide) rfl (fun ls hl => ?_)
  exact t_X11_keepShapes_12 C0 hK N  N (0 : Int32) (0 : Int32) τ2 _ _ _ h hP hD hS (lv_sub hl [2, 1, 0] rfl)
set_option maxHeartbeats 4000000 in
set_option maxRecDepth 100000 in
theorem c_X11_keepShapes (N : Nat) (l : Launch) (dC : Nat → ClassId) (dI : Nat → Nat → Nat) (ad : Nat → Nat) (cI cJ : ClassId) (sz : Nat) (σ : zSt)  (Q : zSt → Prop) (h : w_X11_keepShapes N  σ Q) : Met l yX11_keepShapes vs_X11_keepShapes rm_X11_keepShapes (va_Pc [.ref (ad 0)] (zPc (dC, dI) (x_ty cI cJ) (x_W ad cI cJ) sz σ)) (zQv (dC, dI) (x_ty cI cJ) (x_W ad cI cJ) (zAW x_n ad sz) Q) 0 0 (zAW x_n ad sz) := by
  refine Met.ofW (cc := cX11_keepShapes) (maxL := 5) (ret := none) (by decide) rfl ?_
  intro p e s m args below meth c s₁ B hml hv
  obtain ⟨rfl, hsz, hP, hK, hD0⟩ := hv
  subst hsz
  have C0 : zCx p s m meth c _ RX11 cX11_keepShapes 5 none vs_X11_keepShapes := ⟨B.exec, B.bytes, hml, B.returns, findClass_of_methodNamed B.named, atoms_spec (ws := vs_X11_keepShapes) B.pre, B.notSynchronized⟩
  have hD := x_D0 (n0 := s.heap.size) hD0
  have hl := lv_entry ([.ref (ad 0)]) (n := 5) (Nat.le_of_ble_eq_true rfl)
  rw [lg_entry_eq]
  generalize (lg_sl ([.ref (ad 0)]) ++ List.replicate (5 - (lg_sl ([.ref (ad 0)])).length) Slot.unset).toArray = ls at hl ⊢
  exact t_X11_keepShapes_0 C0 hK N  σ _ _ ls h hP hD va_S.rf hl
theorem k_X11_keepShapes (N : Nat) {R : Room} {H : Heap} {locs : List Loc} {cells slots : Nat} {Q2 : State → Prop} {cc : ByteArray} {nL pc index : Nat} {ls : Array Slot} {rest : List Value} {own : String} {c0 : Cond} {σ : zSt}  {Q : zSt → Prop} (S0 : CallFix p m c cc nL s args (c0 :: zT) own) (hml : Cond.methodLink own index yX11_keepShapes ∈ zT) (hR : rm_X11_keepShapes.frames + 1 ≤ R.frames ∧ 8 + (5 + 11) + rm_X11_keepShapes.locals ≤ R.locals) (h : w_X11_keepShapes N  σ Q) (hK : va_K (dC, dI) vwCl (x_ty cI cJ) s) (hP : va_P (dC, dI) vwCl (x_W ad cI cJ σ) H) (hD : va_D (zAW x_n ad s.heap.size) (x_W ad cI cJ σ)) (hS : va_S (zAW x_n ad s.heap.size) s.heap H locs) (hsz : ls.size = nL) (hW : (rest.map fun v => v.category).sum ≤ 8) (hcs : cells ≤ R.cells ∧ slots ≤ R.slots) (hdg : decode cc pc = .ok (.invokevirtual index, 3)) (kk : ∀ (τ : zSt) (H1 : Heap) (locs1 : List Loc), Q τ → va_P (dC, dI) vwCl (x_W ad cI cJ τ) H1 → va_D (zAW x_n ad s.heap.size) (x_W ad cI cJ τ) → va_S (zAW x_n ad s.heap.size) s.heap H1 locs1 → W p l e R s m args below meth c H1 locs1 cells slots Q2 (F0 m (pc + 3) ls (rest))) : W p l e R s m args below meth c H locs cells slots Q2 (F0 m pc ls (.ref (ad 0) :: rest)) :=
  zcv_v (T := TX11) (N' := 17) (k := 0) (ci := 11) (fs := x_f0 ad σ) [] S0 (c_X11_keepShapes N l dC dI ad cI cJ H.size σ  Q h) (cw_X11_keepShapes S0.2.2.2.2 hml rfl rfl hR) rfl rfl hK hP hD hS rfl hsz hW rfl hcs hdg kk
end q10
