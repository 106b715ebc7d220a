section q11
end q11
section q11
def b_X1_note_78 (N : Nat) (k_78 : Int64 → Int32 → Int32 → zSt → Prop) (Q : zSt → Prop) (x1 : Int64) (x3 : Int32) (x4 : Int32) (σ : zSt) : Prop :=
  (x4 ≤ x3 → (vp_in x3 1024) ∧ (∀ τ1 : zSt, τ1 = zB σ 11 (vp_updL (σ.2.2.2 11) (x3.toNatClampNeg) x1) → (vp_in x3 1024) ∧ (∀ τ2 : zSt, τ2 = zA τ1 32 (upd (τ1.2.2.1 32) (x3.toNatClampNeg) (1 : Int32)) → ∀ τ3 : zSt, τ3 = zI τ2 34 ((τ2.1 34) + (1 : Int32)) → Q τ3))) ∧ (¬ x4 ≤ x3 → (vp_in (x4 - (1 : Int32)) 1024) ∧ ((vp_in x4 1024) ∧ (∀ τ4 : zSt, τ4 = zB σ 11 (vp_updL (σ.2.2.2 11) (x4.toNatClampNeg) (σ.2.2.2 11 (x4 - (1 : Int32)).toNatClampNeg)) → (vp_in (x4 - (1 : Int32)) 1024) ∧ ((vp_in x4 1024) ∧ (∀ τ5 : zSt, τ5 = zA τ4 32 (upd (τ4.2.2.1 32) (x4.toNatClampNeg) (τ4.2.2.1 32 (x4 - (1 : Int32)).toNatClampNeg)) → ∀ v6 : Int32, v6 = x4 + (-1 : Int32) → k_78 x1 x3 v6 τ5)))))
def w_X1_note_78 (N : Nat) (Q : zSt → Prop) : Nat → Int64 → Int32 → Int32 → zSt → Prop
  | 0 => fun _ _ _ _ => False
  | f + 1 => b_X1_note_78 N (w_X1_note_78 N  Q f) Q
def b_X1_note_60 (N : Nat) (Q : zSt → Prop) (x1 : Int64) (x3 : Int32) (σ : zSt) : Prop :=
  ((1024 : Int32) ≤ (σ.1 34) → Q σ) ∧ (¬ (1024 : Int32) ≤ (σ.1 34) → ∀ v1 : Int32, v1 = σ.1 34 → w_X1_note_78 N Q N x1 x3 v1 σ)
def b_X1_note_28 (N : Nat) (Q : zSt → Prop) (x1 : Int64) (x3 : Int32) (σ : zSt) : Prop :=
  (x3 ≤ 0 → b_X1_note_60 N Q x1 x3 σ) ∧ (¬ x3 ≤ 0 → (vp_in (x3 - (1 : Int32)) 1024) ∧ (((lg_cmp (σ.2.2.2 11 (x3 - (1 : Int32)).toNatClampNeg) x1) = 0 → (vp_in (x3 - (1 : Int32)) 1024) ∧ ((vp_in (x3 - (1 : Int32)) 1024) ∧ (∀ τ1 : zSt, τ1 = zA σ 32 (upd (σ.2.2.1 32) ((x3 - (1 : Int32)).toNatClampNeg) ((σ.2.2.1 32 (x3 - (1 : Int32)).toNatClampNeg) + (1 : Int32))) → Q τ1))) ∧ (¬ (lg_cmp (σ.2.2.2 11 (x3 - (1 : Int32)).toNatClampNeg) x1) = 0 → b_X1_note_60 N Q x1 x3 σ)))
def b_X1_note_5 (N : Nat) (k_5 : Int64 → Int32 → zSt → Prop) (Q : zSt → Prop) (x1 : Int64) (x3 : Int32) (σ : zSt) : Prop :=
  (x3 ≤ 0 → b_X1_note_28 N Q x1 x3 σ) ∧ (¬ x3 ≤ 0 → (vp_in (x3 - (1 : Int32)) 1024) ∧ (((lg_cmp (σ.2.2.2 11 (x3 - (1 : Int32)).toNatClampNeg) x1) ≤ 0 → b_X1_note_28 N Q x1 x3 σ) ∧ (¬ (lg_cmp (σ.2.2.2 11 (x3 - (1 : Int32)).toNatClampNeg) x1) ≤ 0 → ∀ v1 : Int32, v1 = x3 + (-1 : Int32) → k_5 x1 v1 σ)))
def w_X1_note_5 (N : Nat) (Q : zSt → Prop) : Nat → Int64 → Int32 → zSt → Prop
  | 0 => fun _ _ _ => False
  | f + 1 => b_X1_note_5 N (w_X1_note_5 N  Q f) Q
def w_X1_note (N : Nat) (x1 : Int64) (σ : zSt) (Q : zSt → Prop) : Prop :=
  ∀ v1 : Int32, v1 = σ.1 34 → w_X1_note_5 N Q N x1 v1 σ
variable {p : Program} {l : Launch} {e : Env} {s : State} {m : MethodId} {args : Array Value} {below : List Frame} {meth : Method} {c : Code} {dC : Nat → ClassId} {dI : Nat → Nat → Nat} {ad : Nat → Nat} {cI cJ : ClassId}
set_option maxHeartbeats 4000000 in
set_option maxRecDepth 100000 in
theorem tb_X1_note_78 (C0 : zCx p s m meth c args RX1 cX1_note 5 none vs_X1_note) (hK : va_K (dC, dI) vwCl (x_ty cI cJ) s) (N : Nat) {Q : zSt → Prop} {k_78 : Int64 → Int32 → Int32 → zSt → Prop} (hk_78 : ∀ (x1 : Int64) (x3 : Int32) (x4 : Int32) (σ : zSt) (H : Heap) (locs : List Loc) (ls : Array Slot), k_78 x1 x3 x4 σ → va_P (dC, dI) vwCl (x_W ad cI cJ σ) H → va_D (zAW x_n ad s.heap.size) (x_W ad cI cJ σ) → va_S (zAW x_n ad s.heap.size) s.heap H locs → lv_has ls 5 [(0, .ref (ad 13)), (1, .long x1), (3, .int x3), (4, .int x4)] → W p l e rm_X1_note s m args below meth c H locs 0 0 (MQ below (zQv (dC, dI) (x_ty cI cJ) (x_W ad cI cJ) (zAW x_n ad s.heap.size) Q) args s 0 0 (zAW x_n ad s.heap.size)) (F0 m 78 ls [])) : ∀ (x1 : Int64) (x3 : Int32) (x4 : Int32) (σ : zSt) (H : Heap) (locs : List Loc) (ls : Array Slot), b_X1_note_78 N k_78 Q x1 x3 x4 σ → va_P (dC, dI) vwCl (x_W ad cI cJ σ) H → va_D (zAW x_n ad s.heap.size) (x_W ad cI cJ σ) → va_S (zAW x_n ad s.heap.size) s.heap H locs → lv_has ls 5 [(0, .ref (ad 13)), (1, .long x1), (3, .int x3), (4, .int x4)] → W p l e rm_X1_note s m args below meth c H locs 0 0 (MQ below (zQv (dC, dI) (x_ty cI cJ) (x_W ad cI cJ) (zAW x_n ad s.heap.size) Q) args s 0 0 (zAW x_n ad s.heap.size)) (F0 m 78 ls []) := by
  obtain ⟨hx, hb, hml, hr, hown, hts, hlocks⟩ := id C0
  intro x1 x3 x4 σ H locs ls h hP hD hS hl
  unfold b_X1_note_78 at h
  refine lv_iload hx hb dX1_note_78 (lv_at hl 3 rfl) ?_
  refine lv_iload_n hx hb dX1_note_80 rfl (lv_at hl 2 rfl) ?_
  refine lv_icmp_le (tgt := 122) hx hb dX1_note_81 (by decide) (fun hc => ?_) (fun hc => ?_)
  · have h := h.1 hc
    refine lv_aload_n hx hb dX1_note_122 rfl (lv_at hl 0 rfl) ?_
    refine xg_13_0 hx hb hts hown hK hP mw_262 dX1_note_123 ?_
    refine lv_iload_n hx hb dX1_note_126 rfl (lv_at hl 2 rfl) ?_
    refine lv_lload_n hx hb dX1_note_127 rfl (lv_at hl 1 rfl) ?_
    refine xs_58 hx hb hK hP hD hS h.1 rfl dX1_note_128 (fun τ1 H locs eτ1 hP hD hS => ?_)
    have h := h.2
    have h := h τ1 eτ1
    refine lv_aload_n hx hb dX1_note_129 rfl (lv_at hl 0 rfl) ?_
    refine xg_13_1 hx hb hts hown hK hP mw_264 dX1_note_130 ?_
    refine lv_iload_n hx hb dX1_note_133 rfl (lv_at hl 2 rfl) ?_
    refine lv_iconst (v := (1 : Int32)) hx hb dX1_note_134 (by decide) ?_
    refine xs_59 hx hb hK hP hD hS h.1 rfl dX1_note_135 (fun τ2 H locs eτ2 hP hD hS => ?_)
    have h := h.2
    have h := h τ2 eτ2
    refine lv_aload_n hx hb dX1_note_136 rfl (lv_at hl 0 rfl) ?_
    refine lv_dup hx hb dX1_note_137 rfl ?_
    refine xg_13_2 hx hb hts hown hK hP mw_266 dX1_note_138 ?_
    refine lv_iconst (v := (1 : Int32)) hx hb dX1_note_141 (by decide) ?_
    refine lv_iadd hx hb dX1_note_142 ?_
    refine xp_13_2 hx hb hts hown hK hP hD hS mw_266 dX1_note_143 (fun τ3 H locs eτ3 hP hD hS => ?_)
    have h := h τ3 eτ3
    exact zret_v hx hb hr hlocks hK hP hD hS h dX1_note_146
  · have h := h.2 hc
    refine lv_aload_n hx hb dX1_note_84 rfl (lv_at hl 0 rfl) ?_
    refine xg_13_0 hx hb hts hown hK hP mw_262 dX1_note_85 ?_
    refine lv_iload hx hb dX1_note_88 (lv_at hl 3 rfl) ?_
    refine lv_aload_n hx hb dX1_note_90 rfl (lv_at hl 0 rfl) ?_
    refine xg_13_0 hx hb hts hown hK hP mw_262 dX1_note_91 ?_
    refine lv_iload hx hb dX1_note_94 (lv_at hl 3 rfl) ?_
    refine lv_iconst (v := (1 : Int32)) hx hb dX1_note_96 (by decide) ?_
    refine lv_isub hx hb dX1_note_97 ?_
    refine xa_58 hx hb hK hP h.1 rfl dX1_note_98 ?_
    have h := h.2
    refine xs_58 hx hb hK hP hD hS h.1 rfl dX1_note_99 (fun τ4 H locs eτ4 hP hD hS => ?_)
    have h := h.2
    have h := h τ4 eτ4
    refine lv_aload_n hx hb dX1_note_100 rfl (lv_at hl 0 rfl) ?_
    refine xg_13_1 hx hb hts hown hK hP mw_264 dX1_note_101 ?_
    refine lv_iload hx hb dX1_note_104 (lv_at hl 3 rfl) ?_
    refine lv_aload_n hx hb dX1_note_106 rfl (lv_at hl 0 rfl) ?_
    refine xg_13_1 hx hb hts hown hK hP mw_264 dX1_note_107 ?_
    refine lv_iload hx hb dX1_note_110 (lv_at hl 3 rfl) ?_
    refine lv_iconst (v := (1 : Int32)) hx hb dX1_note_112 (by decide) ?_
    refine lv_isub hx hb dX1_note_113 ?_
    refine xa_59 hx hb hK hP h.1 rfl dX1_note_114 ?_
    have h := h.2
    refine xs_59 hx hb hK hP hD hS h.1 rfl dX1_note_115 (fun τ5 H locs eτ5 hP hD hS => ?_)
    have h := h.2
    have h := h τ5 eτ5
    obtain ⟨v6, ev6⟩ : ∃ z : Int32, z = x4 + (-1 : Int32) := ⟨_, rfl⟩
    have h := h v6 ev6
    refine lv_iinc (v := v6) (lv' := [(4, .int v6), (0, .ref (ad 13)), (1, .long x1), (3, .int x3)]) hx hb dX1_note_116 hl (k := 3) rfl (by rw [ev6]; rfl) (by decide) rfl (fun ls hl => ?_)
    refine lv_goto (tgt := 78) hx hb dX1_note_119 (by decide) ?_
    exact hk_78 x1 x3 v6 τ5 _ _ _ h hP hD hS (lv_sub hl [1, 2, 3, 0] rfl)
set_option maxHeartbeats 4000000 in
set_option maxRecDepth 100000 in
theorem t_X1_note_78 (C0 : zCx p s m meth c args RX1 cX1_note 5 none vs_X1_note) (hK : va_K (dC, dI) vwCl (x_ty cI cJ) s) (N : Nat) {Q : zSt → Prop} : ∀ (f : Nat) (x1 : Int64) (x3 : Int32) (x4 : Int32) (σ : zSt) (H : Heap) (locs : List Loc) (ls : Array Slot), w_X1_note_78 N  Q f x1 x3 x4 σ → va_P (dC, dI) vwCl (x_W ad cI cJ σ) H → va_D (zAW x_n ad s.heap.size) (x_W ad cI cJ σ) → va_S (zAW x_n ad s.heap.size) s.heap H locs → lv_has ls 5 [(0, .ref (ad 13)), (1, .long x1), (3, .int x3), (4, .int x4)] → W p l e rm_X1_note s m args below meth c H locs 0 0 (MQ below (zQv (dC, dI) (x_ty cI cJ) (x_W ad cI cJ) (zAW x_n ad s.heap.size) Q) args s 0 0 (zAW x_n ad s.heap.size)) (F0 m 78 ls []) := by
  intro f
  induction f with
  | zero => intro x1 x3 x4 σ H locs ls h; exact h.elim
  | succ f ih =>
    intro x1 x3 x4 σ H locs ls h hP hD hS hl
    exact tb_X1_note_78 C0 hK N  (k_78 := w_X1_note_78 N  Q f) ih x1 x3 x4 σ H locs ls h hP hD hS hl
set_option maxHeartbeats 4000000 in
set_option maxRecDepth 100000 in
theorem t_X1_note_60 (C0 : zCx p s m meth c args RX1 cX1_note 5 none vs_X1_note) (hK : va_K (dC, dI) vwCl (x_ty cI cJ) s) (N : Nat) {Q : zSt → Prop} : ∀ (x1 : Int64) (x3 : Int32) (σ : zSt) (H : Heap) (locs : List Loc) (ls : Array Slot), b_X1_note_60 N  Q x1 x3 σ → va_P (dC, dI) vwCl (x_W ad cI cJ σ) H → va_D (zAW x_n ad s.heap.size) (x_W ad cI cJ σ) → va_S (zAW x_n ad s.heap.size) s.heap H locs → lv_has ls 5 [(0, .ref (ad 13)), (1, .long x1), (3, .int x3)] → W p l e rm_X1_note s m args below meth c H locs 0 0 (MQ below (zQv (dC, dI) (x_ty cI cJ) (x_W ad cI cJ) (zAW x_n ad s.heap.size) Q) args s 0 0 (zAW x_n ad s.heap.size)) (F0 m 60 ls []) := by
  obtain ⟨hx, hb, hml, hr, hown, hts, hlocks⟩ := id C0
  intro x1 x3 σ H locs ls h hP hD hS hl
  unfold b_X1_note_60 at h
  refine lv_aload_n hx hb dX1_note_60 rfl (lv_at hl 0 rfl) ?_
  refine xg_13_2 hx hb hts hown hK hP mw_266 dX1_note_61 ?_
  refine lv_aload_n hx hb dX1_note_64 rfl (lv_at hl 0 rfl) ?_
  refine xg_13_0 hx hb hts hown hK hP mw_262 dX1_note_65 ?_
  refine xl_58 hx hb hK hP dX1_note_68 ?_
  refine lv_icmp_ge (tgt := 146) hx hb dX1_note_69 (by decide) (fun hc => ?_) (fun hc => ?_)
  · have h := h.1 hc
    exact zret_v hx hb hr hlocks hK hP hD hS h dX1_note_146
  · have h := h.2 hc
    refine lv_aload_n hx hb dX1_note_72 rfl (lv_at hl 0 rfl) ?_
    refine xg_13_2 hx hb hts hown hK hP mw_266 dX1_note_73 ?_
    refine lv_topi (fun v1 ev1 => ?_)
    have h := h v1 ev1
    refine lv_istore (lv' := [(4, .int v1), (0, .ref (ad 13)), (1, .long x1), (3, .int x3)]) hx hb dX1_note_76 hl (by decide) rfl (fun ls hl => ?_)
    exact t_X1_note_78 C0 hK N  N x1 x3 v1 σ _ _ _ h hP hD hS (lv_sub hl [1, 2, 3, 0] rfl)
set_option maxHeartbeats 4000000 in
set_option maxRecDepth 100000 in
theorem t_X1_note_28 (C0 : zCx p s m meth c args RX1 cX1_note 5 none vs_X1_note) (hK : va_K (dC, dI) vwCl (x_ty cI cJ) s) (N : Nat) {Q : zSt → Prop} : ∀ (x1 : Int64) (x3 : Int32) (σ : zSt) (H : Heap) (locs : List Loc) (ls : Array Slot), b_X1_note_28 N  Q x1 x3 σ → va_P (dC, dI) vwCl (x_W ad cI cJ σ) H → va_D (zAW x_n ad s.heap.size) (x_W ad cI cJ σ) → va_S (zAW x_n ad s.heap.size) s.heap H locs → lv_has ls 5 [(0, .ref (ad 13)), (1, .long x1), (3, .int x3)] → W p l e rm_X1_note s m args below meth c H locs 0 0 (MQ below (zQv (dC, dI) (x_ty cI cJ) (x_W ad cI cJ) (zAW x_n ad s.heap.size) Q) args s 0 0 (zAW x_n ad s.heap.size)) (F0 m 28 ls []) := by
  obtain ⟨hx, hb, hml, hr, hown, hts, hlocks⟩ := id C0
  intro x1 x3 σ H locs ls h hP hD hS hl
  unfold b_X1_note_28 at h
  refine lv_iload_n hx hb dX1_note_28 rfl (lv_at hl 2 rfl) ?_
  refine lv_if_le (tgt := 60) hx hb dX1_note_29 (by decide) (fun hc => ?_) (fun hc => ?_)
  · have h := h.1 hc
    exact t_X1_note_60 C0 hK N  x1 x3 σ _ _ _ h hP hD hS (lv_sub hl [0, 1, 2] rfl)
  · have h := h.2 hc
    refine lv_aload_n hx hb dX1_note_32 rfl (lv_at hl 0 rfl) ?_
    refine xg_13_0 hx hb hts hown hK hP mw_262 dX1_note_33 ?_
    refine lv_iload_n hx hb dX1_note_36 rfl (lv_at hl 2 rfl) ?_
    refine lv_iconst (v := (1 : Int32)) hx hb dX1_note_37 (by decide) ?_
    refine lv_isub hx hb dX1_note_38 ?_
    refine xa_58 hx hb hK hP h.1 rfl dX1_note_39 ?_
    have h := h.2
    refine lv_lload_n hx hb dX1_note_40 rfl (lv_at hl 1 rfl) ?_
    refine W.lcmp hx hb dX1_note_41 ?_
    refine lv_if_ne (tgt := 60) hx hb dX1_note_42 (by decide) (fun hc => ?_) (fun hc => ?_)
    · have h := h.2 hc
      exact t_X1_note_60 C0 hK N  x1 x3 σ _ _ _ h hP hD hS (lv_sub hl [0, 1, 2] rfl)
    · have h := h.1 hc
      refine lv_aload_n hx hb dX1_note_45 rfl (lv_at hl 0 rfl) ?_
      refine xg_13_1 hx hb hts hown hK hP mw_264 dX1_note_46 ?_
      refine lv_iload_n hx hb dX1_note_49 rfl (lv_at hl 2 rfl) ?_
      refine lv_iconst (v := (1 : Int32)) hx hb dX1_note_50 (by decide) ?_
      refine lv_isub hx hb dX1_note_51 ?_
      refine lv_dup2_11 hx hb dX1_note_52 rfl rfl ?_
      refine xa_59 hx hb hK hP h.1 rfl dX1_note_53 ?_
      have h := h.2
      refine lv_iconst (v := (1 : Int32)) hx hb dX1_note_54 (by decide) ?_
      refine lv_iadd hx hb dX1_note_55 ?_
      refine xs_59 hx hb hK hP hD hS h.1 rfl dX1_note_56 (fun τ1 H locs eτ1 hP hD hS => ?_)
      have h := h.2
      have h := h τ1 eτ1
      refine lv_goto (tgt := 146) hx hb dX1_note_57 (by decide) ?_
      exact zret_v hx hb hr hlocks hK hP hD hS h dX1_note_146
set_option maxHeartbeats 4000000 in
set_option maxRecDepth 100000 in
theorem tb_X1_note_5 (C0 : zCx p s m meth c args RX1 cX1_note 5 none vs_X1_note) (hK : va_K (dC, dI) vwCl (x_ty cI cJ) s) (N : Nat) {Q : zSt → Prop} {k_5 : Int64 → Int32 → zSt → Prop} (hk_5 : ∀ (x1 : Int64) (x3 : Int32) (σ : zSt) (H : Heap) (locs : List Loc) (ls : Array Slot), k_5 x1 x3 σ → va_P (dC, dI) vwCl (x_W ad cI cJ σ) H → va_D (zAW x_n ad s.heap.size) (x_W ad cI cJ σ) → va_S (zAW x_n ad s.heap.size) s.heap H locs → lv_has ls 5 [(0, .ref (ad 13)), (1, .long x1), (3, .int x3)] → W p l e rm_X1_note s m args below meth c H locs 0 0 (MQ below (zQv (dC, dI) (x_ty cI cJ) (x_W ad cI cJ) (zAW x_n ad s.heap.size) Q) args s 0 0 (zAW x_n ad s.heap.size)) (F0 m 5 ls [])) : ∀ (x1 : Int64) (x3 : Int32) (σ : zSt) (H : Heap) (locs : List Loc) (ls : Array Slot), b_X1_note_5 N k_5 Q x1 x3 σ → va_P (dC, dI) vwCl (x_W ad cI cJ σ) H → va_D (zAW x_n ad s.heap.size) (x_W ad cI cJ σ) → va_S (zAW x_n ad s.heap.size) s.heap H locs → lv_has ls 5 [(0, .ref (ad 13)), (1, .long x1), (3, .int x3)] → W p l e rm_X1_note s m args below meth c H locs 0 0 (MQ below (zQv (dC, dI) (x_ty cI cJ) (x_W ad cI cJ) (zAW x_n ad s.heap.size) Q) args s 0 0 (zAW x_n ad s.heap.size)) (F0 m 5 ls []) := by
  obtain ⟨hx, hb, hml, hr, hown, hts, hlocks⟩ := id C0
  intro x1 x3 σ H locs ls h hP hD hS hl
  unfold b_X1_note_5 at h
  refine lv_iload_n hx hb dX1_note_5 rfl (lv_at hl 2 rfl) ?_
  refine lv_if_le (tgt := 28) hx hb dX1_note_6 (by decide) (fun hc => ?_) (fun hc => ?_)
  · have h := h.1 hc
    exact t_X1_note_28 C0 hK N  x1 x3 σ _ _ _ h hP hD hS (lv_sub hl [0, 1, 2] rfl)
  · have h := h.2 hc
    refine lv_aload_n hx hb dX1_note_9 rfl (lv_at hl 0 rfl) ?_
    refine xg_13_0 hx hb hts hown hK hP mw_262 dX1_note_10 ?_
    refine lv_iload_n hx hb dX1_note_13 rfl (lv_at hl 2 rfl) ?_
    refine lv_iconst (v := (1 : Int32)) hx hb dX1_note_14 (by decide) ?_
    refine lv_isub hx hb dX1_note_15 ?_
    refine xa_58 hx hb hK hP h.1 rfl dX1_note_16 ?_
    have h := h.2
    refine lv_lload_n hx hb dX1_note_17 rfl (lv_at hl 1 rfl) ?_
    refine W.lcmp hx hb dX1_note_18 ?_
    refine lv_if_le (tgt := 28) hx hb dX1_note_19 (by decide) (fun hc => ?_) (fun hc => ?_)
    · have h := h.1 hc
      exact t_X1_note_28 C0 hK N  x1 x3 σ _ _ _ h hP hD hS (lv_sub hl [0, 1, 2] rfl)
    · have h := h.2 hc
      obtain ⟨v1, ev1⟩ : ∃ z : Int32, z = x3 + (-1 : Int32) := ⟨_, rfl⟩
      have h := h v1 ev1
      refine lv_iinc (v := v1) (lv' := [(3, .int v1), (0, .ref (ad 13)), (1, .long x1)]) hx hb dX1_note_22 hl (k := 2) rfl (by rw [ev1]; rfl) (by decide) rfl (fun ls hl => ?_)
      refine lv_goto (tgt := 5) hx hb dX1_note_25 (by decide) ?_
      exact hk_5 x1 v1 σ _ _ _ h hP hD hS (lv_sub hl [1, 2, 0] rfl)
set_option maxHeartbeats 4000000 in
set_option maxRecDepth 100000 in
theorem t_X1_note_5 (C0 : zCx p s m meth c args RX1 cX1_note 5 none vs_X1_note) (hK : va_K (dC, dI) vwCl (x_ty cI cJ) s) (N : Nat) {Q : zSt → Prop} : ∀ (f : Nat) (x1 : Int64) (x3 : Int32) (σ : zSt) (H : Heap) (locs : List Loc) (ls : Array Slot), w_X1_note_5 N  Q f x1 x3 σ → va_P (dC, dI) vwCl (x_W ad cI cJ σ) H → va_D (zAW x_n ad s.heap.size) (x_W ad cI cJ σ) → va_S (zAW x_n ad s.heap.size) s.heap H locs → lv_has ls 5 [(0, .ref (ad 13)), (1, .long x1), (3, .int x3)] → W p l e rm_X1_note s m args below meth c H locs 0 0 (MQ below (zQv (dC, dI) (x_ty cI cJ) (x_W ad cI cJ) (zAW x_n ad s.heap.size) Q) args s 0 0 (zAW x_n ad s.heap.size)) (F0 m 5 ls []) := by
  intro f
  induction f with
  | zero => intro x1 x3 σ H locs ls h; exact h.elim
  | succ f ih =>
    intro x1 x3 σ H locs ls h hP hD hS hl
    exact tb_X1_note_5 C0 hK N  (k_5 := w_X1_note_5 N  Q f) ih x1 x3 σ H locs ls h hP hD hS hl
set_option maxHeartbeats 4000000 in
set_option maxRecDepth 100000 in
theorem t_X1_note_0 (C0 : zCx p s m meth c args RX1 cX1_note 5 none vs_X1_note) (hK : va_K (dC, dI) vwCl (x_ty cI cJ) s) (N : Nat) {Q : zSt → Prop} : ∀ (x1 : Int64) (σ : zSt) (H : Heap) (locs : List Loc) (ls : Array Slot), w_X1_note N x1 σ Q → va_P (dC, dI) vwCl (x_W ad cI cJ σ) H → va_D (zAW x_n ad s.heap.size) (x_W ad cI cJ σ) → va_S (zAW x_n ad s.heap.size) s.heap H locs → lv_has ls 5 [(0, .ref (ad 13)), (1, .long x1)] → W p l e rm_X1_note s m args below meth c H locs 0 0 (MQ below (zQv (dC, dI) (x_ty cI cJ) (x_W ad cI cJ) (zAW x_n ad s.heap.size) Q) args s 0 0 (zAW x_n ad s.heap.size)) (F0 m 0 ls []) := by
  obtain ⟨hx, hb, hml, hr, hown, hts, hlocks⟩ := id C0
  intro x1 σ H locs ls h hP hD hS hl
  unfold w_X1_note at h
  refine lv_aload_n hx hb dX1_note_0 rfl (lv_at hl 0 rfl) ?_
  refine xg_13_2 hx hb hts hown hK hP mw_266 dX1_note_1 ?_
  refine lv_topi (fun v1 ev1 => ?_)
  have h := h v1 ev1
  refine lv_istore_n (lv' := [(3, .int v1), (0, .ref (ad 13)), (1, .long x1)]) hx hb dX1_note_4 rfl hl (by decide) rfl (fun ls hl => ?_)
  exact t_X1_note_5 C0 hK N  N x1 v1 σ _ _ _ h hP hD hS (lv_sub hl [1, 2, 0] rfl)
set_option maxHeartbeats 4000000 in
set_option maxRecDepth 100000 in
theorem c_X1_note (N : Nat) (l : Launch) (dC : Nat → ClassId) (dI : Nat → Nat → Nat) (ad : Nat → Nat) (cI cJ : ClassId) (sz : Nat) (σ : zSt) (x1 : Int64) (Q : zSt → Prop) (h : w_X1_note N x1 σ Q) : Met l yX1_note vs_X1_note rm_X1_note (va_Pc [.ref (ad 13), .long x1] (zPc (dC, dI) (x_ty cI cJ) (x_W ad cI cJ) sz σ)) (zQv (dC, dI) (x_ty cI cJ) (x_W ad cI cJ) (zAW x_n ad sz) Q) 0 0 (zAW x_n ad sz) := by
  refine Met.ofW (cc := cX1_note) (maxL := 5) (ret := none) (by decide) rfl ?_
  intro p e s m args below meth c s₁ B hml hv
  obtain ⟨rfl, hsz, hP, hK, hD0⟩ := hv
  subst hsz
  have C0 : zCx p s m meth c _ RX1 cX1_note 5 none vs_X1_note := ⟨B.exec, B.bytes, hml, B.returns, findClass_of_methodNamed B.named, atoms_spec (ws := vs_X1_note) B.pre, B.notSynchronized⟩
  have hD := x_D0 (n0 := s.heap.size) hD0
  have hl := lv_entry ([.ref (ad 13), .long x1]) (n := 5) (Nat.le_of_ble_eq_true rfl)
  rw [lg_entry_eq]
  generalize (lg_sl ([.ref (ad 13), .long x1]) ++ List.replicate (5 - (lg_sl ([.ref (ad 13), .long x1])).length) Slot.unset).toArray = ls at hl ⊢
  exact t_X1_note_0 C0 hK N x1 σ _ _ ls h hP hD va_S.rf hl
theorem k_X1_note (N : Nat) {R : Room} {H : Heap} {locs : List Loc} {cells slots : Nat} {Q2 : State → Prop} {cc : ByteArray} {nL pc index : Nat} {ls : Array Slot} {rest : List Value} {own : String} {c0 : Cond} {σ : zSt} {x1 : Int64} {Q : zSt → Prop} (S0 : CallFix p m c cc nL s args (c0 :: zT) own) (hml : Cond.methodLink own index yX1_note ∈ zT) (hR : rm_X1_note.frames + 1 ≤ R.frames ∧ 8 + (5 + 11) + rm_X1_note.locals ≤ R.locals) (h : w_X1_note N x1 σ Q) (hK : va_K (dC, dI) vwCl (x_ty cI cJ) s) (hP : va_P (dC, dI) vwCl (x_W ad cI cJ σ) H) (hD : va_D (zAW x_n ad s.heap.size) (x_W ad cI cJ σ)) (hS : va_S (zAW x_n ad s.heap.size) s.heap H locs) (hsz : ls.size = nL) (hW : (rest.map fun v => v.category).sum ≤ 8) (hcs : cells ≤ R.cells ∧ slots ≤ R.slots) (hdg : decode cc pc = .ok (.invokevirtual index, 3)) (kk : ∀ (τ : zSt) (H1 : Heap) (locs1 : List Loc), Q τ → va_P (dC, dI) vwCl (x_W ad cI cJ τ) H1 → va_D (zAW x_n ad s.heap.size) (x_W ad cI cJ τ) → va_S (zAW x_n ad s.heap.size) s.heap H1 locs1 → W p l e R s m args below meth c H1 locs1 cells slots Q2 (F0 m (pc + 3) ls (rest))) : W p l e R s m args below meth c H locs cells slots Q2 (F0 m pc ls (.long x1 :: .ref (ad 13) :: rest)) :=
  zcv_v (T := TX1) (N' := 3) (k := 13) (ci := 1) (fs := x_f13 ad σ) [.long x1] S0 (c_X1_note N l dC dI ad cI cJ H.size σ x1 Q h) (cw_X1_note S0.2.2.2.2 hml rfl rfl hR) rfl rfl hK hP hD hS rfl hsz hW rfl hcs hdg kk
end q11
section q11
def b_X11_all_37 (N : Nat) (k_37 : Int32 → Int32 → Int64 → Int64 → zSt → Prop) (Q : Int32 → zSt → Prop) (x1 : Int32) (x2 : Int32) (x3 : Int64) (x5 : Int64) (σ : zSt) : Prop :=
  (0 ≤ (lg_cmp x5 x3) → (x2 = 0 → Q (σ.1 34) σ) ∧ (¬ x2 = 0 → w_X11_keepShapes N σ (fun τ2 => Q (τ2.1 34) τ2))) ∧ (¬ 0 ≤ (lg_cmp x5 x3) → w_X4_may N x5 σ (fun r3 τ4 => (r3 = 0 → ∀ v5 : Int64, v5 = x5 + (1 : Int64) → k_37 x1 x2 x3 v5 τ4) ∧ (¬ r3 = 0 → w_X0_endRest N x5 x1 (0 : Int32) τ4 (fun r6 τ7 => (r6 = 0 → w_X1_note N x5 τ7 (fun τ10 => ∀ v11 : Int64, v11 = x5 + (1 : Int64) → k_37 x1 x2 x3 v11 τ10)) ∧ (¬ r6 = 0 → ∀ v8 : Int64, v8 = x5 + (1 : Int64) → k_37 x1 x2 x3 v8 τ7)))))
def w_X11_all_37 (N : Nat) (Q : Int32 → zSt → Prop) : Nat → Int32 → Int32 → Int64 → Int64 → zSt → Prop
  | 0 => fun _ _ _ _ _ => False
  | f + 1 => b_X11_all_37 N (w_X11_all_37 N  Q f) Q
def w_X11_all (N : Nat) (x1 : Int32) (x2 : Int32) (σ : zSt) (Q : Int32 → zSt → Prop) : Prop :=
  w_X11_areFew N σ (fun r1 τ2 => (r1 = 0 → Q (-1 : Int32) τ2) ∧ (¬ r1 = 0 → w_X11_isKind N x1 τ2 (fun r3 τ4 => (r3 = 0 → Q (-1 : Int32) τ4) ∧ (¬ r3 = 0 → ∀ τ5 : zSt, τ5 = zI τ4 34 (0 : Int32) → ∀ v6 : Int64, v6 = (1 : Int64) <<< ((τ5.1 2).toInt64 &&& 63) → w_X11_all_37 N Q N x1 x2 v6 (0 : Int64) τ5))))
variable {p : Program} {l : Launch} {e : Env} {s : State} {m : MethodId} {args : Array Value} {below : List Frame} {meth : Method} {c : Code} {dC : Nat → ClassId} {dI : Nat → Nat → Nat} {ad : Nat → Nat} {cI cJ : ClassId}
set_option maxHeartbeats 4000000 in
set_option maxRecDepth 100000 in
theorem tb_X11_all_37 (C0 : zCx p s m meth c args RX11 cX11_all 7 (some .int) vs_X11_all) (hK : va_K (dC, dI) vwCl (x_ty cI cJ) s) (N : Nat) {Q : Int32 → zSt → Prop} {k_37 : Int32 → Int32 → Int64 → Int64 → zSt → Prop} (hk_37 : ∀ (x1 : Int32) (x2 : Int32) (x3 : Int64) (x5 : Int64) (σ : zSt) (H : Heap) (locs : List Loc) (ls : Array Slot), k_37 x1 x2 x3 x5 σ → va_P (dC, dI) vwCl (x_W ad cI cJ σ) H → va_D (zAW x_n ad s.heap.size) (x_W ad cI cJ σ) → va_S (zAW x_n ad s.heap.size) s.heap H locs → lv_has ls 7 [(0, .ref (ad 0)), (1, .int x1), (2, .int x2), (3, .long x3), (5, .long x5)] → W p l e rm_X11_all s m args below meth c H locs 0 0 (MQ below (zQi (dC, dI) (x_ty cI cJ) (x_W ad cI cJ) (zAW x_n ad s.heap.size) Q) args s 0 0 (zAW x_n ad s.heap.size)) (F0 m 37 ls [])) : ∀ (x1 : Int32) (x2 : Int32) (x3 : Int64) (x5 : Int64) (σ : zSt) (H : Heap) (locs : List Loc) (ls : Array Slot), b_X11_all_37 N k_37 Q x1 x2 x3 x5 σ → va_P (dC, dI) vwCl (x_W ad cI cJ σ) H → va_D (zAW x_n ad s.heap.size) (x_W ad cI cJ σ) → va_S (zAW x_n ad s.heap.size) s.heap H locs → lv_has ls 7 [(0, .ref (ad 0)), (1, .int x1), (2, .int x2), (3, .long x3), (5, .long x5)] → W p l e rm_X11_all s m args below meth c H locs 0 0 (MQ below (zQi (dC, dI) (x_ty cI cJ) (x_W ad cI cJ) (zAW x_n ad s.heap.size) Q) args s 0 0 (zAW x_n ad s.heap.size)) (F0 m 37 ls []) := by
  obtain ⟨hx, hb, hml, hr, hown, hts, hlocks⟩ := id C0
  intro x1 x2 x3 x5 σ H locs ls h hP hD hS hl
  unfold b_X11_all_37 at h
  refine lv_lload hx hb dX11_all_37 (lv_at hl 4 rfl) ?_
  refine lv_lload_n hx hb dX11_all_39 rfl (lv_at hl 3 rfl) ?_
  refine W.lcmp hx hb dX11_all_40 ?_
  refine lv_if_ge (tgt := 88) hx hb dX11_all_41 (by decide) (fun hc => ?_) (fun hc => ?_)
  · have h := h.1 hc
    refine lv_iload_n hx hb dX11_all_88 rfl (lv_at hl 2 rfl) ?_
    refine lv_if_eq (tgt := 96) hx hb dX11_all_89 (by decide) (fun hc => ?_) (fun hc => ?_)
    · have h := h.1 hc
      refine lv_aload_n hx hb dX11_all_96 rfl (lv_at hl 0 rfl) ?_
      refine xg_0_9 hx hb hts hown hK hP mw_298 dX11_all_97 ?_
      refine xg_13_2 hx hb hts hown hK hP mw_267 dX11_all_100 ?_
      exact zret_i hx hb hr hlocks hK hP hD hS h dX11_all_103
    · have h := h.2 hc
      refine lv_aload_n hx hb dX11_all_92 rfl (lv_at hl 0 rfl) ?_
      refine k_X11_keepShapes N ⟨hx, hb, hml, hown, hts⟩ mw_707 ⟨Nat.le_of_ble_eq_true rfl, Nat.le_of_ble_eq_true rfl⟩ h hK hP hD hS hl.1 (rest := []) (Nat.le_of_ble_eq_true rfl) ⟨Nat.le_of_ble_eq_true rfl, Nat.le_of_ble_eq_true rfl⟩ dX11_all_93 (fun τ2 H locs h hP hD hS => ?_)
      refine lv_aload_n hx hb dX11_all_96 rfl (lv_at hl 0 rfl) ?_
      refine xg_0_9 hx hb hts hown hK hP mw_298 dX11_all_97 ?_
      refine xg_13_2 hx hb hts hown hK hP mw_267 dX11_all_100 ?_
      exact zret_i hx hb hr hlocks hK hP hD hS h dX11_all_103
  · have h := h.2 hc
    refine lv_aload_n hx hb dX11_all_44 rfl (lv_at hl 0 rfl) ?_
    refine xg_0_2 hx hb hts hown hK hP mw_291 dX11_all_45 ?_
    refine lv_lload hx hb dX11_all_48 (lv_at hl 4 rfl) ?_
    refine k_X4_may N ⟨hx, hb, hml, hown, hts⟩ mw_500 ⟨Nat.le_of_ble_eq_true rfl, Nat.le_of_ble_eq_true rfl⟩ h hK hP hD hS hl.1 (rest := []) (Nat.le_of_ble_eq_true rfl) ⟨Nat.le_of_ble_eq_true rfl, Nat.le_of_ble_eq_true rfl⟩ dX11_all_50 (fun r3 τ4 H locs h hP hD hS => ?_)
    refine lv_if_eq (tgt := 79) hx hb dX11_all_53 (by decide) (fun hc => ?_) (fun hc => ?_)
    · have h := h.1 hc
      refine lv_lload hx hb dX11_all_79 (lv_at hl 4 rfl) ?_
      refine lv_lconst (v := (1 : Int64)) hx hb dX11_all_81 (by decide) ?_
      refine lv_ladd hx hb dX11_all_82 ?_
      refine lv_topl (fun v5 ev5 => ?_)
      have h := h v5 ev5
      refine lv_lstore (lv' := [(5, .long v5), (0, .ref (ad 0)), (1, .int x1), (2, .int x2), (3, .long x3)]) hx hb dX11_all_83 hl (by decide) rfl (fun ls hl => ?_)
      refine lv_goto (tgt := 37) hx hb dX11_all_85 (by decide) ?_
      exact hk_37 x1 x2 x3 v5 τ4 _ _ _ h hP hD hS (lv_sub hl [1, 2, 3, 4, 0] rfl)
    · have h := h.2 hc
      refine lv_aload_n hx hb dX11_all_56 rfl (lv_at hl 0 rfl) ?_
      refine xg_0_6 hx hb hts hown hK hP mw_295 dX11_all_57 ?_
      refine lv_lload hx hb dX11_all_60 (lv_at hl 4 rfl) ?_
      refine lv_iload_n hx hb dX11_all_62 rfl (lv_at hl 1 rfl) ?_
      refine lv_iconst (v := (0 : Int32)) hx hb dX11_all_63 (by decide) ?_
      refine k_X0_endRest N ⟨hx, hb, hml, hown, hts⟩ mw_594 ⟨Nat.le_of_ble_eq_true rfl, Nat.le_of_ble_eq_true rfl⟩ h hK hP hD hS hl.1 (rest := []) (Nat.le_of_ble_eq_true rfl) ⟨Nat.le_of_ble_eq_true rfl, Nat.le_of_ble_eq_true rfl⟩ dX11_all_64 (fun r6 τ7 H locs h hP hD hS => ?_)
      refine lv_if_ne (tgt := 79) hx hb dX11_all_67 (by decide) (fun hc => ?_) (fun hc => ?_)
      · have h := h.2 hc
        refine lv_lload hx hb dX11_all_79 (lv_at hl 4 rfl) ?_
        refine lv_lconst (v := (1 : Int64)) hx hb dX11_all_81 (by decide) ?_
        refine lv_ladd hx hb dX11_all_82 ?_
        refine lv_topl (fun v8 ev8 => ?_)
        have h := h v8 ev8
        refine lv_lstore (lv' := [(5, .long v8), (0, .ref (ad 0)), (1, .int x1), (2, .int x2), (3, .long x3)]) hx hb dX11_all_83 hl (by decide) rfl (fun ls hl => ?_)
        refine lv_goto (tgt := 37) hx hb dX11_all_85 (by decide) ?_
        exact hk_37 x1 x2 x3 v8 τ7 _ _ _ h hP hD hS (lv_sub hl [1, 2, 3, 4, 0] rfl)
      · have h := h.1 hc
        refine lv_aload_n hx hb dX11_all_70 rfl (lv_at hl 0 rfl) ?_
        refine xg_0_9 hx hb hts hown hK hP mw_298 dX11_all_71 ?_
        refine lv_lload hx hb dX11_all_74 (lv_at hl 4 rfl) ?_
        refine k_X1_note N ⟨hx, hb, hml, hown, hts⟩ mw_703 ⟨Nat.le_of_ble_eq_true rfl, Nat.le_of_ble_eq_true rfl⟩ h hK hP hD hS hl.1 (rest := []) (Nat.le_of_ble_eq_true rfl) ⟨Nat.le_of_ble_eq_true rfl, Nat.le_of_ble_eq_true rfl⟩ dX11_all_76 (fun τ10 H locs h hP hD hS => ?_)
        refine lv_lload hx hb dX11_all_79 (lv_at hl 4 rfl) ?_
        refine lv_lconst (v := (1 : Int64)) hx hb dX11_all_81 (by decide) ?_
        refine lv_ladd hx hb dX11_all_82 ?_
        refine lv_topl (fun v11 ev11 => ?_)
        have h := h v11 ev11
        refine lv_lstore (lv' := [(5, .long v11), (0, .ref (ad 0)), (1, .int x1), (2, .int x2), (3, .long x3)]) hx hb dX11_all_83 hl (by decide) rfl (fun ls hl => ?_)
        refine lv_goto (tgt := 37) hx hb dX11_all_85 (by decide) ?_
        exact hk_37 x1 x2 x3 v11 τ10 _ _ _ h hP hD hS (lv_sub hl [1, 2, 3, 4, 0] rfl)
set_option maxHeartbeats 4000000 in
set_option maxRecDepth 100000 in
theorem t_X11_all_37 (C0 : zCx p s m meth c args RX11 cX11_all 7 (some .int) vs_X11_all) (hK : va_K (dC, dI) vwCl (x_ty cI cJ) s) (N : Nat) {Q : Int32 → zSt → Prop} : ∀ (f : Nat) (x1 : Int32) (x2 : Int32) (x3 : Int64) (x5 : Int64) (σ : zSt) (H : Heap) (locs : List Loc) (ls : Array Slot), w_X11_all_37 N  Q f x1 x2 x3 x5 σ → va_P (dC, dI) vwCl (x_W ad cI cJ σ) H → va_D (zAW x_n ad s.heap.size) (x_W ad cI cJ σ) → va_S (zAW x_n ad s.heap.size) s.heap H locs → lv_has ls 7 [(0, .ref (ad 0)), (1, .int x1), (2, .int x2), (3, .long x3), (5, .long x5)] → W p l e rm_X11_all s m args below meth c H locs 0 0 (MQ below (zQi (dC, dI) (x_ty cI cJ) (x_W ad cI cJ) (zAW x_n ad s.heap.size) Q) args s 0 0 (zAW x_n ad s.heap.size)) (F0 m 37 ls []) := by
  intro f
  induction f with
  | zero => intro x1 x2 x3 x5 σ H locs ls h; exact h.elim
  | succ f ih =>
    intro x1 x2 x3 x5 σ H locs ls h hP hD hS hl
    exact tb_X11_all_37 C0 hK N  (k_37 := w_X11_all_37 N  Q f) ih x1 x2 x3 x5 σ H locs ls h hP hD hS hl
set_option maxHeartbeats 4000000 in
set_option maxRecDepth 100000 in
theorem t_X11_all_0 (C0 : zCx p s m meth c args RX11 cX11_all 7 (some .int) vs_X11_all) (hK : va_K (dC, dI) vwCl (x_ty cI cJ) s) (N : Nat) {Q : Int32 → zSt → Prop} : ∀ (x1 : Int32) (x2 : Int32) (σ : zSt) (H : Heap) (locs : List Loc) (ls : Array Slot), w_X11_all N x1 x2 σ Q → va_P (dC, dI) vwCl (x_W ad cI cJ σ) H → va_D (zAW x_n ad s.heap.size) (x_W ad cI cJ σ) → va_S (zAW x_n ad s.heap.size) s.heap H locs → lv_has ls 7 [(0, .ref (ad 0)), (1, .int x1), (2, .int x2)] → W p l e rm_X11_all s m args below meth c H locs 0 0 (MQ below (zQi (dC, dI) (x_ty cI cJ) (x_W ad cI cJ) (zAW x_n ad s.heap.size) Q) args s 0 0 (zAW x_n ad s.heap.size)) (F0 m 0 ls []) := by
  obtain ⟨hx, hb, hml, hr, hown, hts, hlocks⟩ := id C0
  intro x1 x2 σ H locs ls h hP hD hS hl
  unfold w_X11_all at h
  refine lv_aload_n hx hb dX11_all_0 rfl (lv_at hl 0 rfl) ?_
  refine k_X11_areFew N ⟨hx, hb, hml, hown, hts⟩ mw_700 ⟨Nat.le_of_ble_eq_true rfl, Nat.le_of_ble_eq_true rfl⟩ h hK hP hD hS hl.1 (rest := []) (Nat.le_of_ble_eq_true rfl) ⟨Nat.le_of_ble_eq_true rfl, Nat.le_of_ble_eq_true rfl⟩ dX11_all_1 (fun r1 τ2 H locs h hP hD hS => ?_)
  refine lv_if_eq (tgt := 14) hx hb dX11_all_4 (by decide) (fun hc => ?_) (fun hc => ?_)
  · have h := h.1 hc
    refine lv_iconst (v := (-1 : Int32)) hx hb dX11_all_14 (by decide) ?_
    exact zret_i hx hb hr hlocks hK hP hD hS h dX11_all_15
  · have h := h.2 hc
    refine lv_iload_n hx hb dX11_all_7 rfl (lv_at hl 1 rfl) ?_
    refine k_X11_isKind N ⟨hx, hb, hml, hown, hts⟩ mw_591 ⟨Nat.le_of_ble_eq_true rfl, Nat.le_of_ble_eq_true rfl⟩ h hK hP hD hS hl.1 (rest := []) (Nat.le_of_ble_eq_true rfl) ⟨Nat.le_of_ble_eq_true rfl, Nat.le_of_ble_eq_true rfl⟩ dX11_all_8 (fun r3 τ4 H locs h hP hD hS => ?_)
    refine lv_if_ne (tgt := 16) hx hb dX11_all_11 (by decide) (fun hc => ?_) (fun hc => ?_)
    · have h := h.2 hc
      refine lv_aload_n hx hb dX11_all_16 rfl (lv_at hl 0 rfl) ?_
      refine xg_0_9 hx hb hts hown hK hP mw_298 dX11_all_17 ?_
      refine lv_iconst (v := (0 : Int32)) hx hb dX11_all_20 (by decide) ?_
      refine xp_13_2 hx hb hts hown hK hP hD hS mw_267 dX11_all_21 (fun τ5 H locs eτ5 hP hD hS => ?_)
      have h := h τ5 eτ5
      refine lv_lconst (v := (1 : Int64)) hx hb dX11_all_24 (by decide) ?_
      refine lv_aload_n hx hb dX11_all_25 rfl (lv_at hl 0 rfl) ?_
      refine xg_0_2 hx hb hts hown hK hP mw_291 dX11_all_26 ?_
      refine xg_3_5 hx hb hts hown hK hP mw_81 dX11_all_29 ?_
      refine lv_lshl hx hb dX11_all_32 rfl ?_
      refine lv_topl (fun v6 ev6 => ?_)
      have h := h v6 ev6
      refine lv_lstore_n (lv' := [(3, .long v6), (0, .ref (ad 0)), (1, .int x1), (2, .int x2)]) hx hb dX11_all_33 rfl hl (by decide) rfl (fun ls hl => ?_)
      refine lv_lconst (v := (0 : Int64)) hx hb dX11_all_34 (by decide) ?_
      refine lv_lstore (lv' := [(5, .long (0 : Int64)), (3, .long v6), (0, .ref (ad 0)), (1, .int x1), (2, .int x2)]) hx hb dX11_all_35 hl (by decide) rfl (fun ls hl => ?_)
      exact t_X11_all_37 C0 hK N  N x1 x2 v6 (0 : Int64) τ5 _ _ _ h hP hD hS (lv_sub hl [2, 3, 4, 1, 0] rfl)
    · have h := h.1 hc
      refine lv_iconst (v := (-1 : Int32)) hx hb dX11_all_14 (by decide) ?_
      exact zret_i hx hb hr hlocks hK hP hD hS h dX11_all_15
set_option maxHeartbeats 4000000 in
set_option maxRecDepth 100000 in
theorem c_X11_all (N : Nat) (l : Launch) (dC : Nat → ClassId) (dI : Nat → Nat → Nat) (ad : Nat → Nat) (cI cJ : ClassId) (sz : Nat) (σ : zSt) (x1 : Int32) (x2 : Int32) (Q : Int32 → zSt → Prop) (h : w_X11_all N x1 x2 σ Q) : Met l yX11_all vs_X11_all rm_X11_all (va_Pc [.ref (ad 0), .int x1, .int x2] (zPc (dC, dI) (x_ty cI cJ) (x_W ad cI cJ) sz σ)) (zQi (dC, dI) (x_ty cI cJ) (x_W ad cI cJ) (zAW x_n ad sz) Q) 0 0 (zAW x_n ad sz) := by
  refine Met.ofW (cc := cX11_all) (maxL := 7) (ret := (some .int)) (by decide) rfl ?_
  intro p e s m args below meth c s₁ B hml hv
  obtain ⟨rfl, hsz, hP, hK, hD0⟩ := hv
  subst hsz
  have C0 : zCx p s m meth c _ RX11 cX11_all 7 (some .int) vs_X11_all := ⟨B.exec, B.bytes, hml, B.returns, findClass_of_methodNamed B.named, atoms_spec (ws := vs_X11_all) B.pre, B.notSynchronized⟩
  have hD := x_D0 (n0 := s.heap.size) hD0
  have hl := lv_entry ([.ref (ad 0), .int x1, .int x2]) (n := 7) (Nat.le_of_ble_eq_true rfl)
  rw [lg_entry_eq]
  generalize (lg_sl ([.ref (ad 0), .int x1, .int x2]) ++ List.replicate (7 - (lg_sl ([.ref (ad 0), .int x1, .int x2])).length) Slot.unset).toArray = ls at hl ⊢
  exact t_X11_all_0 C0 hK N x1 x2 σ _ _ ls h hP hD va_S.rf hl
theorem k_X11_all (N : Nat) {R : Room} {H : Heap} {locs : List Loc} {cells slots : Nat} {Q2 : State → Prop} {cc : ByteArray} {nL pc index : Nat} {ls : Array Slot} {rest : List Value} {own : String} {c0 : Cond} {σ : zSt} {x1 : Int32} {x2 : Int32} {Q : Int32 → zSt → Prop} (S0 : CallFix p m c cc nL s args (c0 :: zT) own) (hml : Cond.methodLink own index yX11_all ∈ zT) (hR : rm_X11_all.frames + 1 ≤ R.frames ∧ 8 + (7 + 11) + rm_X11_all.locals ≤ R.locals) (h : w_X11_all N x1 x2 σ Q) (hK : va_K (dC, dI) vwCl (x_ty cI cJ) s) (hP : va_P (dC, dI) vwCl (x_W ad cI cJ σ) H) (hD : va_D (zAW x_n ad s.heap.size) (x_W ad cI cJ σ)) (hS : va_S (zAW x_n ad s.heap.size) s.heap H locs) (hsz : ls.size = nL) (hW : (rest.map fun v => v.category).sum ≤ 8) (hcs : cells ≤ R.cells ∧ slots ≤ R.slots) (hdg : decode cc pc = .ok (.invokevirtual index, 3)) (kk : ∀ (r : Int32) (τ : zSt) (H1 : Heap) (locs1 : List Loc), Q r τ → va_P (dC, dI) vwCl (x_W ad cI cJ τ) H1 → va_D (zAW x_n ad s.heap.size) (x_W ad cI cJ τ) → va_S (zAW x_n ad s.heap.size) s.heap H1 locs1 → W p l e R s m args below meth c H1 locs1 cells slots Q2 (F0 m (pc + 3) ls (.int r :: rest))) : W p l e R s m args below meth c H locs cells slots Q2 (F0 m pc ls (.int x2 :: .int x1 :: .ref (ad 0) :: rest)) :=
  zcv_i (T := TX11) (N' := 17) (k := 0) (ci := 11) (fs := x_f0 ad σ) [.int x1, .int x2] S0 (c_X11_all N l dC dI ad cI cJ H.size σ x1 x2 Q h) (cw_X11_all S0.2.2.2.2 hml rfl rfl hR) rfl rfl hK hP hD hS rfl hsz hW rfl hcs hdg kk
end q11
section q11
def w_X1_isPlace (N : Nat) (x1 : Int32) (σ : zSt) (Q : Int32 → zSt → Prop) : Prop :=
  (x1 < 0 → Q (0 : Int32) σ) ∧ (¬ x1 < 0 → ((σ.1 34) ≤ x1 → Q (0 : Int32) σ) ∧ (¬ (σ.1 34) ≤ x1 → Q (1 : Int32) σ))
variable {p : Program} {l : Launch} {e : Env} {s : State} {m : MethodId} {args : Array Value} {below : List Frame} {meth : Method} {c : Code} {dC : Nat → ClassId} {dI : Nat → Nat → Nat} {ad : Nat → Nat} {cI cJ : ClassId}
set_option maxHeartbeats 4000000 in
set_option maxRecDepth 100000 in
theorem t_X1_isPlace_0 (C0 : zCx p s m meth c args RX1 cX1_isPlace 2 (some .boolean) vs_X1_isPlace) (hK : va_K (dC, dI) vwCl (x_ty cI cJ) s) (N : Nat) {Q : Int32 → zSt → Prop} : ∀ (x1 : Int32) (σ : zSt) (H : Heap) (locs : List Loc) (ls : Array Slot), w_X1_isPlace N x1 σ Q → va_P (dC, dI) vwCl (x_W ad cI cJ σ) H → va_D (zAW x_n ad s.heap.size) (x_W ad cI cJ σ) → va_S (zAW x_n ad s.heap.size) s.heap H locs → lv_has ls 2 [(0, .ref (ad 13)), (1, .int x1)] → W p l e rm_X1_isPlace s m args below meth c H locs 0 0 (MQ below (zQi (dC, dI) (x_ty cI cJ) (x_W ad cI cJ) (zAW x_n ad s.heap.size) Q) args s 0 0 (zAW x_n ad s.heap.size)) (F0 m 0 ls []) := by
  obtain ⟨hx, hb, hml, hr, hown, hts, hlocks⟩ := id C0
  intro x1 σ H locs ls h hP hD hS hl
  unfold w_X1_isPlace at h
  refine lv_iload_n hx hb dX1_isPlace_0 rfl (lv_at hl 1 rfl) ?_
  refine lv_if_lt (tgt := 16) hx hb dX1_isPlace_1 (by decide) (fun hc => ?_) (fun hc => ?_)
  · have h := h.1 hc
    refine lv_iconst (v := (0 : Int32)) hx hb dX1_isPlace_16 (by decide) ?_
    exact zret_z hx hb hr hlocks hK hP hD hS zb_0 h dX1_isPlace_17
  · have h := h.2 hc
    refine lv_iload_n hx hb dX1_isPlace_4 rfl (lv_at hl 1 rfl) ?_
    refine lv_aload_n hx hb dX1_isPlace_5 rfl (lv_at hl 0 rfl) ?_
    refine xg_13_2 hx hb hts hown hK hP mw_266 dX1_isPlace_6 ?_
    refine lv_icmp_ge (tgt := 16) hx hb dX1_isPlace_9 (by decide) (fun hc => ?_) (fun hc => ?_)
    · have h := h.1 hc
      refine lv_iconst (v := (0 : Int32)) hx hb dX1_isPlace_16 (by decide) ?_
      exact zret_z hx hb hr hlocks hK hP hD hS zb_0 h dX1_isPlace_17
    · have h := h.2 hc
      refine lv_iconst (v := (1 : Int32)) hx hb dX1_isPlace_12 (by decide) ?_
      refine lv_goto (tgt := 17) hx hb dX1_isPlace_13 (by decide) ?_
      exact zret_z hx hb hr hlocks hK hP hD hS zb_1 h dX1_isPlace_17
set_option maxHeartbeats 4000000 in
set_option maxRecDepth 100000 in
theorem c_X1_isPlace (N : Nat) (l : Launch) (dC : Nat → ClassId) (dI : Nat → Nat → Nat) (ad : Nat → Nat) (cI cJ : ClassId) (sz : Nat) (σ : zSt) (x1 : Int32) (Q : Int32 → zSt → Prop) (h : w_X1_isPlace N x1 σ Q) : Met l yX1_isPlace vs_X1_isPlace rm_X1_isPlace (va_Pc [.ref (ad 13), .int x1] (zPc (dC, dI) (x_ty cI cJ) (x_W ad cI cJ) sz σ)) (zQi (dC, dI) (x_ty cI cJ) (x_W ad cI cJ) (zAW x_n ad sz) Q) 0 0 (zAW x_n ad sz) := by
  refine Met.ofW (cc := cX1_isPlace) (maxL := 2) (ret := (some .boolean)) (by decide) rfl ?_
  intro p e s m args below meth c s₁ B hml hv
  obtain ⟨rfl, hsz, hP, hK, hD0⟩ := hv
  subst hsz
  have C0 : zCx p s m meth c _ RX1 cX1_isPlace 2 (some .boolean) vs_X1_isPlace := ⟨B.exec, B.bytes, hml, B.returns, findClass_of_methodNamed B.named, atoms_spec (ws := vs_X1_isPlace) B.pre, B.notSynchronized⟩
  have hD := x_D0 (n0 := s.heap.size) hD0
  have hl := lv_entry ([.ref (ad 13), .int x1]) (n := 2) (Nat.le_of_ble_eq_true rfl)
  rw [lg_entry_eq]
  generalize (lg_sl ([.ref (ad 13), .int x1]) ++ List.replicate (2 - (lg_sl ([.ref (ad 13), .int x1])).length) Slot.unset).toArray = ls at hl ⊢
  exact t_X1_isPlace_0 C0 hK N x1 σ _ _ ls h hP hD va_S.rf hl
theorem k_X1_isPlace (N : Nat) {R : Room} {H : Heap} {locs : List Loc} {cells slots : Nat} {Q2 : State → Prop} {cc : ByteArray} {nL pc index : Nat} {ls : Array Slot} {rest : List Value} {own : String} {c0 : Cond} {σ : zSt} {x1 : Int32} {Q : Int32 → zSt → Prop} (S0 : CallFix p m c cc nL s args (c0 :: zT) own) (hml : Cond.methodLink own index yX1_isPlace ∈ zT) (hR : rm_X1_isPlace.frames + 1 ≤ R.frames ∧ 8 + (2 + 11) + rm_X1_isPlace.locals ≤ R.locals) (h : w_X1_isPlace N x1 σ Q) (hK : va_K (dC, dI) vwCl (x_ty cI cJ) s) (hP : va_P (dC, dI) vwCl (x_W ad cI cJ σ) H) (hD : va_D (zAW x_n ad s.heap.size) (x_W ad cI cJ σ)) (hS : va_S (zAW x_n ad s.heap.size) s.heap H locs) (hsz : ls.size = nL) (hW : (rest.map fun v => v.category).sum ≤ 8) (hcs : cells ≤ R.cells ∧ slots ≤ R.slots) (hdg : decode cc pc = .ok (.invokevirtual index, 3)) (kk : ∀ (r : Int32) (τ : zSt) (H1 : Heap) (locs1 : List Loc), Q r τ → va_P (dC, dI) vwCl (x_W ad cI cJ τ) H1 → va_D (zAW x_n ad s.heap.size) (x_W ad cI cJ τ) → va_S (zAW x_n ad s.heap.size) s.heap H1 locs1 → W p l e R s m args below meth c H1 locs1 cells slots Q2 (F0 m (pc + 3) ls (.int r :: rest))) : W p l e R s m args below meth c H locs cells slots Q2 (F0 m pc ls (.int x1 :: .ref (ad 13) :: rest)) :=
  zcv_i (T := TX1) (N' := 3) (k := 13) (ci := 1) (fs := x_f13 ad σ) [.int x1] S0 (c_X1_isPlace N l dC dI ad cI cJ H.size σ x1 Q h) (cw_X1_isPlace S0.2.2.2.2 hml rfl rfl hR) rfl rfl hK hP hD hS rfl hsz hW rfl hcs hdg kk
end q11
section q11
def w_X11_one (N : Nat) (x1 : Int32) (σ : zSt) (Q : Int64 → zSt → Prop) : Prop :=
  w_X1_isPlace N x1 σ (fun r1 τ2 => (r1 = 0 → Q (-1 : Int64) τ2) ∧ (¬ r1 = 0 → (vp_in x1 1024) ∧ (Q (τ2.2.2.2 11 x1.toNatClampNeg) τ2)))
variable {p : Program} {l : Launch} {e : Env} {s : State} {m : MethodId} {args : Array Value} {below : List Frame} {meth : Method} {c : Code} {dC : Nat → ClassId} {dI : Nat → Nat → Nat} {ad : Nat → Nat} {cI cJ : ClassId}
set_option maxHeartbeats 4000000 in
set_option maxRecDepth 100000 in
theorem t_X11_one_0 (C0 : zCx p s m meth c args RX11 cX11_one 2 (some .long) vs_X11_one) (hK : va_K (dC, dI) vwCl (x_ty cI cJ) s) (N : Nat) {Q : Int64 → zSt → Prop} : ∀ (x1 : Int32) (σ : zSt) (H : Heap) (locs : List Loc) (ls : Array Slot), w_X11_one N x1 σ Q → va_P (dC, dI) vwCl (x_W ad cI cJ σ) H → va_D (zAW x_n ad s.heap.size) (x_W ad cI cJ σ) → va_S (zAW x_n ad s.heap.size) s.heap H locs → lv_has ls 2 [(0, .ref (ad 0)), (1, .int x1)] → W p l e rm_X11_one s m args below meth c H locs 0 0 (MQ below (zQl (dC, dI) (x_ty cI cJ) (x_W ad cI cJ) (zAW x_n ad s.heap.size) Q) args s 0 0 (zAW x_n ad s.heap.size)) (F0 m 0 ls []) := by
  obtain ⟨hx, hb, hml, hr, hown, hts, hlocks⟩ := id C0
  intro x1 σ H locs ls h hP hD hS hl
  unfold w_X11_one at h
  refine lv_aload_n hx hb dX11_one_0 rfl (lv_at hl 0 rfl) ?_
  refine xg_0_9 hx hb hts hown hK hP mw_298 dX11_one_1 ?_
  refine lv_iload_n hx hb dX11_one_4 rfl (lv_at hl 1 rfl) ?_
  refine k_X1_isPlace N ⟨hx, hb, hml, hown, hts⟩ mw_734 ⟨Nat.le_of_ble_eq_true rfl, Nat.le_of_ble_eq_true rfl⟩ h hK hP hD hS hl.1 (rest := []) (Nat.le_of_ble_eq_true rfl) ⟨Nat.le_of_ble_eq_true rfl, Nat.le_of_ble_eq_true rfl⟩ dX11_one_5 (fun r1 τ2 H locs h hP hD hS => ?_)
  refine lv_if_eq (tgt := 23) hx hb dX11_one_8 (by decide) (fun hc => ?_) (fun hc => ?_)
  · have h := h.1 hc
    refine lv_ldc2 (v := (-1 : Int64)) hx hb hown (hts _ (List.mem_cons_of_mem _ mw_275)) dX11_one_23 ?_
    exact zret_l hx hb hr hlocks hK hP hD hS h dX11_one_26
  · have h := h.2 hc
    refine lv_aload_n hx hb dX11_one_11 rfl (lv_at hl 0 rfl) ?_
    refine xg_0_9 hx hb hts hown hK hP mw_298 dX11_one_12 ?_
    refine xg_13_0 hx hb hts hown hK hP mw_263 dX11_one_15 ?_
    refine lv_iload_n hx hb dX11_one_18 rfl (lv_at hl 1 rfl) ?_
    refine xa_58 hx hb hK hP h.1 rfl dX11_one_19 ?_
    have h := h.2
    refine lv_goto (tgt := 26) hx hb dX11_one_20 (by decide) ?_
    exact zret_l hx hb hr hlocks hK hP hD hS h dX11_one_26
set_option maxHeartbeats 4000000 in
set_option maxRecDepth 100000 in
theorem c_X11_one (N : Nat) (l : Launch) (dC : Nat → ClassId) (dI : Nat → Nat → Nat) (ad : Nat → Nat) (cI cJ : ClassId) (sz : Nat) (σ : zSt) (x1 : Int32) (Q : Int64 → zSt → Prop) (h : w_X11_one N x1 σ Q) : Met l yX11_one vs_X11_one rm_X11_one (va_Pc [.ref (ad 0), .int x1] (zPc (dC, dI) (x_ty cI cJ) (x_W ad cI cJ) sz σ)) (zQl (dC, dI) (x_ty cI cJ) (x_W ad cI cJ) (zAW x_n ad sz) Q) 0 0 (zAW x_n ad sz) := by
  refine Met.ofW (cc := cX11_one) (maxL := 2) (ret := (some .long)) (by decide) rfl ?_
  intro p e s m args below meth c s₁ B hml hv
  obtain ⟨rfl, hsz, hP, hK, hD0⟩ := hv
  subst hsz
  have C0 : zCx p s m meth c _ RX11 cX11_one 2 (some .long) vs_X11_one := ⟨B.exec, B.bytes, hml, B.returns, findClass_of_methodNamed B.named, atoms_spec (ws := vs_X11_one) B.pre, B.notSynchronized⟩
  have hD := x_D0 (n0 := s.heap.size) hD0
  have hl := lv_entry ([.ref (ad 0), .int x1]) (n := 2) (Nat.le_of_ble_eq_true rfl)
  rw [lg_entry_eq]
  generalize (lg_sl ([.ref (ad 0), .int x1]) ++ List.replicate (2 - (lg_sl ([.ref (ad 0), .int x1])).length) Slot.unset).toArray = ls at hl ⊢
  exact t_X11_one_0 C0 hK N x1 σ _ _ ls h hP hD va_S.rf hl
theorem k_X11_one (N : Nat) {R : Room} {H : Heap} {locs : List Loc} {cells slots : Nat} {Q2 : State → Prop} {cc : ByteArray} {nL pc index : Nat} {ls : Array Slot} {rest : List Value} {own : String} {c0 : Cond} {σ : zSt} {x1 : Int32} {Q : Int64 → zSt → Prop} (S0 : CallFix p m c cc nL s args (c0 :: zT) own) (hml : Cond.methodLink own index yX11_one ∈ zT) (hR : rm_X11_one.frames + 1 ≤ R.frames ∧ 8 + (2 + 11) + rm_X11_one.locals ≤ R.locals) (h : w_X11_one N x1 σ Q) (hK : va_K (dC, dI) vwCl (x_ty cI cJ) s) (hP : va_P (dC, dI) vwCl (x_W ad cI cJ σ) H) (hD : va_D (zAW x_n ad s.heap.size) (x_W ad cI cJ σ)) (hS : va_S (zAW x_n ad s.heap.size) s.heap H locs) (hsz : ls.size = nL) (hW : (rest.map fun v => v.category).sum ≤ 8) (hcs : cells ≤ R.cells ∧ slots ≤ R.slots) (hdg : decode cc pc = .ok (.invokevirtual index, 3)) (kk : ∀ (r : Int64) (τ : zSt) (H1 : Heap) (locs1 : List Loc), Q r τ → va_P (dC, dI) vwCl (x_W ad cI cJ τ) H1 → va_D (zAW x_n ad s.heap.size) (x_W ad cI cJ τ) → va_S (zAW x_n ad s.heap.size) s.heap H1 locs1 → W p l e R s m args below meth c H1 locs1 cells slots Q2 (F0 m (pc + 3) ls (.long r :: rest))) : W p l e R s m args below meth c H locs cells slots Q2 (F0 m pc ls (.int x1 :: .ref (ad 0) :: rest)) :=
  zcv_l (T := TX11) (N' := 17) (k := 0) (ci := 11) (fs := x_f0 ad σ) [.int x1] S0 (c_X11_one N l dC dI ad cI cJ H.size σ x1 Q h) (cw_X11_one S0.2.2.2.2 hml rfl rfl hR) rfl rfl hK hP hD hS rfl hsz hW rfl hcs hdg kk
end q11
section q11
def b_X11_bestNet_25 (N : Nat) (k_25 : Int64 → Int64 → Int64 → Int64 → zSt → Prop) (Q : Int64 → zSt → Prop) (x1 : Int64) (x3 : Int64) (x5 : Int64) (x7 : Int64) (σ : zSt) : Prop :=
  (0 ≤ (lg_cmp x7 x5) → Q x1 σ) ∧ (¬ 0 ≤ (lg_cmp x7 x5) → w_X4_may N x7 σ (fun r1 τ2 => (r1 = 0 → ∀ v3 : Int64, v3 = x7 + (1 : Int64) → k_25 x1 x3 x5 v3 τ2) ∧ (¬ r1 = 0 → w_X10_inAll N x7 τ2 (fun r4 τ5 => ((lg_cmp r4 x3) ≤ 0 → ∀ v6 : Int64, v6 = x7 + (1 : Int64) → k_25 x1 x3 x5 v6 τ5) ∧ (¬ (lg_cmp r4 x3) ≤ 0 → w_X10_inAll N x7 τ5 (fun r7 τ8 => ∀ v9 : Int64, v9 = x7 + (1 : Int64) → k_25 x7 r7 x5 v9 τ8))))))
def w_X11_bestNet_25 (N : Nat) (Q : Int64 → zSt → Prop) : Nat → Int64 → Int64 → Int64 → Int64 → zSt → Prop
  | 0 => fun _ _ _ _ _ => False
  | f + 1 => b_X11_bestNet_25 N (w_X11_bestNet_25 N  Q f) Q
def w_X11_bestNet (N : Nat)  (σ : zSt) (Q : Int64 → zSt → Prop) : Prop :=
  w_X10_inAll N (0 : Int64) σ (fun r1 τ2 => ∀ v3 : Int64, v3 = (1 : Int64) <<< ((τ2.1 2).toInt64 &&& 63) → w_X11_bestNet_25 N Q N (0 : Int64) r1 v3 (1 : Int64) τ2)
variable {p : Program} {l : Launch} {e : Env} {s : State} {m : MethodId} {args : Array Value} {below : List Frame} {meth : Method} {c : Code} {dC : Nat → ClassId} {dI : Nat → Nat → Nat} {ad : Nat → Nat} {cI cJ : ClassId}
set_option maxHeartbeats 4000000 in
set_option maxRecDepth 100000 in
theorem tb_X11_bestNet_25 (C0 : zCx p s m meth c args RX11 cX11_bestNet 9 (some .long) vs_X11_bestNet) (hK : va_K (dC, dI) vwCl (x_ty cI cJ) s) (N : Nat) {Q : Int64 → zSt → Prop} {k_25 : Int64 → Int64 → Int64 → Int64 → zSt → Prop} (hk_25 : ∀ (x1 : Int64) (x3 : Int64) (x5 : Int64) (x7 : Int64) (σ : zSt) (H : Heap) (locs : List Loc) (ls : Array Slot), k_25 x1 x3 x5 x7 σ → va_P (dC, dI) vwCl (x_W ad cI cJ σ) H → va_D (zAW x_n ad s.heap.size) (x_W ad cI cJ σ) → va_S (zAW x_n ad s.heap.size) s.heap H locs → lv_has ls 9 [(0, .ref (ad 0)), (1, .long x1), (3, .long x3), (5, .long x5), (7, .long x7)] → W p l e rm_X11_bestNet s m args below meth c H locs 0 0 (MQ below (zQl (dC, dI) (x_ty cI cJ) (x_W ad cI cJ) (zAW x_n ad s.heap.size) Q) args s 0 0 (zAW x_n ad s.heap.size)) (F0 m 25 ls [])) : ∀ (x1 : Int64) (x3 : Int64) (x5 : Int64) (x7 : Int64) (σ : zSt) (H : Heap) (locs : List Loc) (ls : Array Slot), b_X11_bestNet_25 N k_25 Q x1 x3 x5 x7 σ → va_P (dC, dI) vwCl (x_W ad cI cJ σ) H → va_D (zAW x_n ad s.heap.size) (x_W ad cI cJ σ) → va_S (zAW x_n ad s.heap.size) s.heap H locs → lv_has ls 9 [(0, .ref (ad 0)), (1, .long x1), (3, .long x3), (5, .long x5), (7, .long x7)] → W p l e rm_X11_bestNet s m args below meth c H locs 0 0 (MQ below (zQl (dC, dI) (x_ty cI cJ) (x_W ad cI cJ) (zAW x_n ad s.heap.size) Q) args s 0 0 (zAW x_n ad s.heap.size)) (F0 m 25 ls []) := by
  obtain ⟨hx, hb, hml, hr, hown, hts, hlocks⟩ := id C0
  intro x1 x3 x5 x7 σ H locs ls h hP hD hS hl
  unfold b_X11_bestNet_25 at h
  refine lv_lload hx hb dX11_bestNet_25 (lv_at hl 4 rfl) ?_
  refine lv_lload hx hb dX11_bestNet_27 (lv_at hl 3 rfl) ?_
  refine W.lcmp hx hb dX11_bestNet_29 ?_
  refine lv_if_ge (tgt := 81) hx hb dX11_bestNet_30 (by decide) (fun hc => ?_) (fun hc => ?_)
  · have h := h.1 hc
    refine lv_lload_n hx hb dX11_bestNet_81 rfl (lv_at hl 1 rfl) ?_
    exact zret_l hx hb hr hlocks hK hP hD hS h dX11_bestNet_82
  · have h := h.2 hc
    refine lv_aload_n hx hb dX11_bestNet_33 rfl (lv_at hl 0 rfl) ?_
    refine xg_0_2 hx hb hts hown hK hP mw_291 dX11_bestNet_34 ?_
    refine lv_lload hx hb dX11_bestNet_37 (lv_at hl 4 rfl) ?_
    refine k_X4_may N ⟨hx, hb, hml, hown, hts⟩ mw_500 ⟨Nat.le_of_ble_eq_true rfl, Nat.le_of_ble_eq_true rfl⟩ h hK hP hD hS hl.1 (rest := []) (Nat.le_of_ble_eq_true rfl) ⟨Nat.le_of_ble_eq_true rfl, Nat.le_of_ble_eq_true rfl⟩ dX11_bestNet_39 (fun r1 τ2 H locs h hP hD hS => ?_)
    refine lv_if_eq (tgt := 72) hx hb dX11_bestNet_42 (by decide) (fun hc => ?_) (fun hc => ?_)
    · have h := h.1 hc
      refine lv_lload hx hb dX11_bestNet_72 (lv_at hl 4 rfl) ?_
      refine lv_lconst (v := (1 : Int64)) hx hb dX11_bestNet_74 (by decide) ?_
      refine lv_ladd hx hb dX11_bestNet_75 ?_
      refine lv_topl (fun v3 ev3 => ?_)
      have h := h v3 ev3
      refine lv_lstore (lv' := [(7, .long v3), (0, .ref (ad 0)), (1, .long x1), (3, .long x3), (5, .long x5)]) hx hb dX11_bestNet_76 hl (by decide) rfl (fun ls hl => ?_)
      refine lv_goto (tgt := 25) hx hb dX11_bestNet_78 (by decide) ?_
      exact hk_25 x1 x3 x5 v3 τ2 _ _ _ h hP hD hS (lv_sub hl [1, 2, 3, 4, 0] rfl)
    · have h := h.2 hc
      refine lv_aload_n hx hb dX11_bestNet_45 rfl (lv_at hl 0 rfl) ?_
      refine xg_0_5 hx hb hts hown hK hP mw_294 dX11_bestNet_46 ?_
      refine lv_lload hx hb dX11_bestNet_49 (lv_at hl 4 rfl) ?_
      refine k_X10_inAll N ⟨hx, hb, hml, hown, hts⟩ mw_538 ⟨Nat.le_of_ble_eq_true rfl, Nat.le_of_ble_eq_true rfl⟩ h hK hP hD hS hl.1 (rest := []) (Nat.le_of_ble_eq_true rfl) ⟨Nat.le_of_ble_eq_true rfl, Nat.le_of_ble_eq_true rfl⟩ dX11_bestNet_51 (fun r4 τ5 H locs h hP hD hS => ?_)
      refine lv_lload_n hx hb dX11_bestNet_54 rfl (lv_at hl 2 rfl) ?_
      refine W.lcmp hx hb dX11_bestNet_55 ?_
      refine lv_if_le (tgt := 72) hx hb dX11_bestNet_56 (by decide) (fun hc => ?_) (fun hc => ?_)
      · have h := h.1 hc
        refine lv_lload hx hb dX11_bestNet_72 (lv_at hl 4 rfl) ?_
        refine lv_lconst (v := (1 : Int64)) hx hb dX11_bestNet_74 (by decide) ?_
        refine lv_ladd hx hb dX11_bestNet_75 ?_
        refine lv_topl (fun v6 ev6 => ?_)
        have h := h v6 ev6
        refine lv_lstore (lv' := [(7, .long v6), (0, .ref (ad 0)), (1, .long x1), (3, .long x3), (5, .long x5)]) hx hb dX11_bestNet_76 hl (by decide) rfl (fun ls hl => ?_)
        refine lv_goto (tgt := 25) hx hb dX11_bestNet_78 (by decide) ?_
        exact hk_25 x1 x3 x5 v6 τ5 _ _ _ h hP hD hS (lv_sub hl [1, 2, 3, 4, 0] rfl)
      · have h := h.2 hc
        refine lv_lload hx hb dX11_bestNet_59 (lv_at hl 4 rfl) ?_
        refine lv_lstore_n (lv' := [(1, .long x7), (0, .ref (ad 0)), (3, .long x3), (5, .long x5), (7, .long x7)]) hx hb dX11_bestNet_61 rfl hl (by decide) rfl (fun ls hl => ?_)
        refine lv_aload_n hx hb dX11_bestNet_62 rfl (lv_at hl 1 rfl) ?_
        refine xg_0_5 hx hb hts hown hK hP mw_294 dX11_bestNet_63 ?_
        refine lv_lload hx hb dX11_bestNet_66 (lv_at hl 4 rfl) ?_
        refine k_X10_inAll N ⟨hx, hb, hml, hown, hts⟩ mw_538 ⟨Nat.le_of_ble_eq_true rfl, Nat.le_of_ble_eq_true rfl⟩ h hK hP hD hS hl.1 (rest := []) (Nat.le_of_ble_eq_true rfl) ⟨Nat.le_of_ble_eq_true rfl, Nat.le_of_ble_eq_true rfl⟩ dX11_bestNet_68 (fun r7 τ8 H locs h hP hD hS => ?_)
        refine lv_lstore_n (lv' := [(3, .long r7), (1, .long x7), (0, .ref (ad 0)), (5, .long x5), (7, .long x7)]) hx hb dX11_bestNet_71 rfl hl (by decide) rfl (fun ls hl => ?_)
        refine lv_lload hx hb dX11_bestNet_72 (lv_at hl 4 rfl) ?_
        refine lv_lconst (v := (1 : Int64)) hx hb dX11_bestNet_74 (by decide) ?_
        refine lv_ladd hx hb dX11_bestNet_75 ?_
        refine lv_topl (fun v9 ev9 => ?_)
        have h := h v9 ev9
        refine lv_lstore (lv' := [(7, .long v9), (3, .long r7), (1, .long x7), (0, .ref (ad 0)), (5, .long x5)]) hx hb dX11_bestNet_76 hl (by decide) rfl (fun ls hl => ?_)
        refine lv_goto (tgt := 25) hx hb dX11_bestNet_78 (by decide) ?_
        exact hk_25 x7 r7 x5 v9 τ8 _ _ _ h hP hD hS (lv_sub hl [3, 2, 1, 4, 0] rfl)
set_option maxHeartbeats 4000000 in
set_option maxRecDepth 100000 in
theorem t_X11_bestNet_25 (C0 : zCx p s m meth c args RX11 cX11_bestNet 9 (some .long) vs_X11_bestNet) (hK : va_K (dC, dI) vwCl (x_ty cI cJ) s) (N : Nat) {Q : Int64 → zSt → Prop} : ∀ (f : Nat) (x1 : Int64) (x3 : Int64) (x5 : Int64) (x7 : Int64) (σ : zSt) (H : Heap) (locs : List Loc) (ls : Array Slot), w_X11_bestNet_25 N  Q f x1 x3 x5 x7 σ → va_P (dC, dI) vwCl (x_W ad cI cJ σ) H → va_D (zAW x_n ad s.heap.size) (x_W ad cI cJ σ) → va_S (zAW x_n ad s.heap.size) s.heap H locs → lv_has ls 9 [(0, .ref (ad 0)), (1, .long x1), (3, .long x3), (5, .long x5), (7, .long x7)] → W p l e rm_X11_bestNet s m args below meth c H locs 0 0 (MQ below (zQl (dC, dI) (x_ty cI cJ) (x_W ad cI cJ) (zAW x_n ad s.heap.size) Q) args s 0 0 (zAW x_n ad s.heap.size)) (F0 m 25 ls []) := by
  intro f
  induction f with
  | zero => intro x1 x3 x5 x7 σ H locs ls h; exact h.elim
  | succ f ih =>
    intro x1 x3 x5 x7 σ H locs ls h hP hD hS hl
    exact tb_X11_bestNet_25 C0 hK N  (k_25 := w_X11_bestNet_25 N  Q f) ih x1 x3 x5 x7 σ H locs ls h hP hD hS hl
set_option maxHeartbeats 4000000 in
set_option maxRecDepth 100000 in
theorem t_X11_bestNet_0 (C0 : zCx p s m meth c args RX11 cX11_bestNet 9 (some .long) vs_X11_bestNet) (hK : va_K (dC, dI) vwCl (x_ty cI cJ) s) (N : Nat) {Q : Int64 → zSt → Prop} : ∀  (σ : zSt) (H : Heap) (locs : List Loc) (ls : Array Slot), w_X11_bestNet N  σ Q → va_P (dC, dI) vwCl (x_W ad cI cJ σ) H → va_D (zAW x_n ad s.heap.size) (x_W ad cI cJ σ) → va_S (zAW x_n ad s.heap.size) s.heap H locs → lv_has ls 9 [(0, .ref (ad 0))] → W p l e rm_X11_bestNet s m args below meth c H locs 0 0 (MQ below (zQl (dC, dI) (x_ty cI cJ) (x_W ad cI cJ) (zAW x_n ad s.heap.size) Q) args s 0 0 (zAW x_n ad s.heap.size)) (F0 m 0 ls []) := by
  obtain ⟨hx, hb, hml, hr, hown, hts, hlocks⟩ := id C0
  intro  σ H locs ls h hP hD hS hl
  unfold w_X11_bestNet at h
  refine lv_lconst (v := (0 : Int64)) hx hb dX11_bestNet_0 (by decide) ?_
  refine lv_lstore_n (lv' := [(1, .long (0 : Int64)), (0, .ref (ad 0))]) hx hb dX11_bestNet_1 rfl hl (by decide) rfl (fun ls hl => ?_)
  refine lv_aload_n hx hb dX11_bestNet_2 rfl (lv_at hl 1 rfl) ?_
  refine xg_0_5 hx hb hts hown hK hP mw_294 dX11_bestNet_3 ?_
  refine lv_lconst (v := (0 : Int64)) hx hb dX11_bestNet_6 (by decide) ?_
  refine k_X10_inAll N ⟨hx, hb, hml, hown, hts⟩ mw_538 ⟨Nat.le_of_ble_eq_true rfl, Nat.le_of_ble_eq_true rfl⟩ h hK hP hD hS hl.1 (rest := []) (Nat.le_of_ble_eq_true rfl) ⟨Nat.le_of_ble_eq_true rfl, Nat.le_of_ble_eq_true rfl⟩ dX11_bestNet_7 (fun r1 τ2 H locs h hP hD hS => ?_)
  refine lv_lstore_n (lv' := [(3, .long r1), (1, .long (0 : Int64)), (0, .ref (ad 0))]) hx hb dX11_bestNet_10 rfl hl (by decide) rfl (fun ls hl => ?_)
  refine lv_lconst (v := (1 : Int64)) hx hb dX11_bestNet_11 (by decide) ?_
  refine lv_aload_n hx hb dX11_bestNet_12 rfl (lv_at hl 2 rfl) ?_
  refine xg_0_2 hx hb hts hown hK hP mw_291 dX11_bestNet_13 ?_
  refine xg_3_5 hx hb hts hown hK hP mw_81 dX11_bestNet_16 ?_
  refine lv_lshl hx hb dX11_bestNet_19 rfl ?_
  refine lv_topl (fun v3 ev3 => ?_)
  have h := h v3 ev3
  refine lv_lstore (lv' := [(5, .long v3), (3, .long r1), (1, .long (0 : Int64)), (0, .ref (ad 0))]) hx hb dX11_bestNet_20 hl (by decide) rfl (fun ls hl => ?_)
  refine lv_lconst (v := (1 : Int64)) hx hb dX11_bestNet_22 (by decide) ?_
  refine lv_lstore (lv' := [(7, .long (1 : Int64)), (5, .long v3), (3, .long r1), (1, .long (0 : Int64)), (0, .ref (ad 0))]) hx hb dX11_bestNet_23 hl (by decide) rfl (fun ls hl => ?_)
  exact t_X11_bestNet_25 C0 hK N  N (0 : Int64) r1 v3 (1 : Int64) τ2 _ _ _ h hP hD hS (lv_sub hl [4, 3, 2, 1, 0] rfl)
set_option maxHeartbeats 4000000 in
set_option maxRecDepth 100000 in
theorem c_X11_bestNet (N : Nat) (l : Launch) (dC : Nat → ClassId) (dI : Nat → Nat → Nat) (ad : Nat → Nat) (cI cJ : ClassId) (sz : Nat) (σ : zSt)  (Q : Int64 → zSt → Prop) (h : w_X11_bestNet N  σ Q) : Met l yX11_bestNet vs_X11_bestNet rm_X11_bestNet (va_Pc [.ref (ad 0)] (zPc (dC, dI) (x_ty cI cJ) (x_W ad cI cJ) sz σ)) (zQl (dC, dI) (x_ty cI cJ) (x_W ad cI cJ) (zAW x_n ad sz) Q) 0 0 (zAW x_n ad sz) := by
  refine Met.ofW (cc := cX11_bestNet) (maxL := 9) (ret := (some .long)) (by decide) rfl ?_
  intro p e s m args below meth c s₁ B hml hv
  obtain ⟨rfl, hsz, hP, hK, hD0⟩ := hv
  subst hsz
  have C0 : zCx p s m meth c _ RX11 cX11_bestNet 9 (some .long) vs_X11_bestNet := ⟨B.exec, B.bytes, hml, B.returns, findClass_of_methodNamed B.named, atoms_spec (ws := vs_X11_bestNet) B.pre, B.notSynchronized⟩
  have hD := x_D0 (n0 := s.heap.size) hD0
  have hl := lv_entry ([.ref (ad 0)]) (n := 9) (Nat.le_of_ble_eq_true rfl)
  rw [lg_entry_eq]
  generalize (lg_sl ([.ref (ad 0)]) ++ List.replicate (9 - (lg_sl ([.ref (ad 0)])).length) Slot.unset).toArray = ls at hl ⊢
  exact t_X11_bestNet_0 C0 hK N  σ _ _ ls h hP hD va_S.rf hl
theorem k_X11_bestNet (N : Nat) {R : Room} {H : Heap} {locs : List Loc} {cells slots : Nat} {Q2 : State → Prop} {cc : ByteArray} {nL pc index : Nat} {ls : Array Slot} {rest : List Value} {own : String} {c0 : Cond} {σ : zSt}  {Q : Int64 → zSt → Prop} (S0 : CallFix p m c cc nL s args (c0 :: zT) own) (hml : Cond.methodLink own index yX11_bestNet ∈ zT) (hR : rm_X11_bestNet.frames + 1 ≤ R.frames ∧ 8 + (9 + 11) + rm_X11_bestNet.locals ≤ R.locals) (h : w_X11_bestNet N  σ Q) (hK : va_K (dC, dI) vwCl (x_ty cI cJ) s) (hP : va_P (dC, dI) vwCl (x_W ad cI cJ σ) H) (hD : va_D (zAW x_n ad s.heap.size) (x_W ad cI cJ σ)) (hS : va_S (zAW x_n ad s.heap.size) s.heap H locs) (hsz : ls.size = nL) (hW : (rest.map fun v => v.category).sum ≤ 8) (hcs : cells ≤ R.cells ∧ slots ≤ R.slots) (hdg : decode cc pc = .ok (.invokevirtual index, 3)) (kk : ∀ (r : Int64) (τ : zSt) (H1 : Heap) (locs1 : List Loc), Q r τ → va_P (dC, dI) vwCl (x_W ad cI cJ τ) H1 → va_D (zAW x_n ad s.heap.size) (x_W ad cI cJ τ) → va_S (zAW x_n ad s.heap.size) s.heap H1 locs1 → W p l e R s m args below meth c H1 locs1 cells slots Q2 (F0 m (pc + 3) ls (.long r :: rest))) : W p l e R s m args below meth c H locs cells slots Q2 (F0 m pc ls (.ref (ad 0) :: rest)) :=
  zcv_l (T := TX11) (N' := 17) (k := 0) (ci := 11) (fs := x_f0 ad σ) [] S0 (c_X11_bestNet N l dC dI ad cI cJ H.size σ  Q h) (cw_X11_bestNet S0.2.2.2.2 hml rfl rfl hR) rfl rfl hK hP hD hS rfl hsz hW rfl hcs hdg kk
end q11
section q11
def w_X11_best (N : Nat)  (σ : zSt) (Q : Int64 → zSt → Prop) : Prop :=
  w_X11_areFew N σ (fun r1 τ2 => (r1 = 0 → Q (-1 : Int64) τ2) ∧ (¬ r1 = 0 → w_X11_bestNet N τ2 (fun r3 τ4 => Q r3 τ4)))
variable {p : Program} {l : Launch} {e : Env} {s : State} {m : MethodId} {args : Array Value} {below : List Frame} {meth : Method} {c : Code} {dC : Nat → ClassId} {dI : Nat → Nat → Nat} {ad : Nat → Nat} {cI cJ : ClassId}
set_option maxHeartbeats 4000000 in
set_option maxRecDepth 100000 in
theorem t_X11_best_0 (C0 : zCx p s m meth c args RX11 cX11_best 1 (some .long) vs_X11_best) (hK : va_K (dC, dI) vwCl (x_ty cI cJ) s) (N : Nat) {Q : Int64 → zSt → Prop} : ∀  (σ : zSt) (H : Heap) (locs : List Loc) (ls : Array Slot), w_X11_best N  σ Q → va_P (dC, dI) vwCl (x_W ad cI cJ σ) H → va_D (zAW x_n ad s.heap.size) (x_W ad cI cJ σ) → va_S (zAW x_n ad s.heap.size) s.heap H locs → lv_has ls 1 [(0, .ref (ad 0))] → W p l e rm_X11_best s m args below meth c H locs 0 0 (MQ below (zQl (dC, dI) (x_ty cI cJ) (x_W ad cI cJ) (zAW x_n ad s.heap.size) Q) args s 0 0 (zAW x_n ad s.heap.size)) (F0 m 0 ls []) := by
  obtain ⟨hx, hb, hml, hr, hown, hts, hlocks⟩ := id C0
  intro  σ H locs ls h hP hD hS hl
  unfold w_X11_best at h
  refine lv_aload_n hx hb dX11_best_0 rfl (lv_at hl 0 rfl) ?_
  refine k_X11_areFew N ⟨hx, hb, hml, hown, hts⟩ mw_700 ⟨Nat.le_of_ble_eq_true rfl, Nat.le_of_ble_eq_true rfl⟩ h hK hP hD hS hl.1 (rest := []) (Nat.le_of_ble_eq_true rfl) ⟨Nat.le_of_ble_eq_true rfl, Nat.le_of_ble_eq_true rfl⟩ dX11_best_1 (fun r1 τ2 H locs h hP hD hS => ?_)
  refine lv_if_eq (tgt := 14) hx hb dX11_best_4 (by decide) (fun hc => ?_) (fun hc => ?_)
  · have h := h.1 hc
    refine lv_ldc2 (v := (-1 : Int64)) hx hb hown (hts _ (List.mem_cons_of_mem _ mw_275)) dX11_best_14 ?_
    exact zret_l hx hb hr hlocks hK hP hD hS h dX11_best_17
  · have h := h.2 hc
    refine lv_aload_n hx hb dX11_best_7 rfl (lv_at hl 0 rfl) ?_
    refine k_X11_bestNet N ⟨hx, hb, hml, hown, hts⟩ mw_742 ⟨Nat.le_of_ble_eq_true rfl, Nat.le_of_ble_eq_true rfl⟩ h hK hP hD hS hl.1 (rest := []) (Nat.le_of_ble_eq_true rfl) ⟨Nat.le_of_ble_eq_true rfl, Nat.le_of_ble_eq_true rfl⟩ dX11_best_8 (fun r3 τ4 H locs h hP hD hS => ?_)
    refine lv_goto (tgt := 17) hx hb dX11_best_11 (by decide) ?_
    exact zret_l hx hb hr hlocks hK hP hD hS h dX11_best_17
set_option maxHeartbeats 4000000 in
set_option maxRecDepth 100000 in
theorem c_X11_best (N : Nat) (l : Launch) (dC : Nat → ClassId) (dI : Nat → Nat → Nat) (ad : Nat → Nat) (cI cJ : ClassId) (sz : Nat) (σ : zSt)  (Q : Int64 → zSt → Prop) (h : w_X11_best N  σ Q) : Met l yX11_best vs_X11_best rm_X11_best (va_Pc [.ref (ad 0)] (zPc (dC, dI) (x_ty cI cJ) (x_W ad cI cJ) sz σ)) (zQl (dC, dI) (x_ty cI cJ) (x_W ad cI cJ) (zAW x_n ad sz) Q) 0 0 (zAW x_n ad sz) := by
  refine Met.ofW (cc := cX11_best) (maxL := 1) (ret := (some .long)) (by decide) rfl ?_
  intro p e s m args below meth c s₁ B hml hv
  obtain ⟨rfl, hsz, hP, hK, hD0⟩ := hv
  subst hsz
  have C0 : zCx p s m meth c _ RX11 cX11_best 1 (some .long) vs_X11_best := ⟨B.exec, B.bytes, hml, B.returns, findClass_of_methodNamed B.named, atoms_spec (ws := vs_X11_best) B.pre, B.notSynchronized⟩
  have hD := x_D0 (n0 := s.heap.size) hD0
  have hl := lv_entry ([.ref (ad 0)]) (n := 1) (Nat.le_of_ble_eq_true rfl)
  rw [lg_entry_eq]
  generalize (lg_sl ([.ref (ad 0)]) ++ List.replicate (1 - (lg_sl ([.ref (ad 0)])).length) Slot.unset).toArray = ls at hl ⊢
  exact t_X11_best_0 C0 hK N  σ _ _ ls h hP hD va_S.rf hl
theorem k_X11_best (N : Nat) {R : Room} {H : Heap} {locs : List Loc} {cells slots : Nat} {Q2 : State → Prop} {cc : ByteArray} {nL pc index : Nat} {ls : Array Slot} {rest : List Value} {own : String} {c0 : Cond} {σ : zSt}  {Q : Int64 → zSt → Prop} (S0 : CallFix p m c cc nL s args (c0 :: zT) own) (hml : Cond.methodLink own index yX11_best ∈ zT) (hR : rm_X11_best.frames + 1 ≤ R.frames ∧ 8 + (1 + 11) + rm_X11_best.locals ≤ R.locals) (h : w_X11_best N  σ Q) (hK : va_K (dC, dI) vwCl (x_ty cI cJ) s) (hP : va_P (dC, dI) vwCl (x_W ad cI cJ σ) H) (hD : va_D (zAW x_n ad s.heap.size) (x_W ad cI cJ σ)) (hS : va_S (zAW x_n ad s.heap.size) s.heap H locs) (hsz : ls.size = nL) (hW : (rest.map fun v => v.category).sum ≤ 8) (hcs : cells ≤ R.cells ∧ slots ≤ R.slots) (hdg : decode cc pc = .ok (.invokevirtual index, 3)) (kk : ∀ (r : Int64) (τ : zSt) (H1 : Heap) (locs1 : List Loc), Q r τ → va_P (dC, dI) vwCl (x_W ad cI cJ τ) H1 → va_D (zAW x_n ad s.heap.size) (x_W ad cI cJ τ) → va_S (zAW x_n ad s.heap.size) s.heap H1 locs1 → W p l e R s m args below meth c H1 locs1 cells slots Q2 (F0 m (pc + 3) ls (.long r :: rest))) : W p l e R s m args below meth c H locs cells slots Q2 (F0 m pc ls (.ref (ad 0) :: rest)) :=
  zcv_l (T := TX11) (N' := 17) (k := 0) (ci := 11) (fs := x_f0 ad σ) [] S0 (c_X11_best N l dC dI ad cI cJ H.size σ  Q h) (cw_X11_best S0.2.2.2.2 hml rfl rfl hR) rfl rfl hK hP hD hS rfl hsz hW rfl hcs hdg kk
end q11
section q11
def b_X11_loss_113 (N : Nat) (k_37 : Int32 → Int32 → Int32 → Int64 → Int64 → Int64 → zSt → Prop) (Q : Int64 → zSt → Prop) (x1 : Int32) (x2 : Int32) (x4 : Int64) (x6 : Int64) (x8 : Int64) (σ : zSt) : Prop :=
  ∀ v1 : Int64, v1 = x8 + (1 : Int64) → k_37 x1 x2 (1 : Int32) x4 x6 v1 σ
def b_X11_loss_109 (N : Nat) (k_37 : Int32 → Int32 → Int32 → Int64 → Int64 → Int64 → zSt → Prop) (Q : Int64 → zSt → Prop) (x1 : Int32) (x2 : Int32) (x6 : Int64) (x8 : Int64) (x10 : Int64) (σ : zSt) : Prop :=
  b_X11_loss_113 N k_37 Q x1 x2 x10 x6 x8 σ
def b_X11_loss_37 (N : Nat) (k_37 : Int32 → Int32 → Int32 → Int64 → Int64 → Int64 → zSt → Prop) (Q : Int64 → zSt → Prop) (x1 : Int32) (x2 : Int32) (x3 : Int32) (x4 : Int64) (x6 : Int64) (x8 : Int64) (σ : zSt) : Prop :=
  (0 ≤ (lg_cmp x8 x6) → (x3 = 0 → Q (-1 : Int64) σ) ∧ (¬ x3 = 0 → w_X11_bestNet N σ (fun r1 τ2 => w_X10_inAll N r1 τ2 (fun r3 τ4 => Q (r3 - x4) τ4)))) ∧ (¬ 0 ≤ (lg_cmp x8 x6) → w_X4_may N x8 σ (fun r5 τ6 => (r5 = 0 → ∀ v7 : Int64, v7 = x8 + (1 : Int64) → k_37 x1 x2 x3 x4 x6 v7 τ6) ∧ (¬ r5 = 0 → w_X0_endRest N x8 x1 (0 : Int32) τ6 (fun r8 τ9 => (r8 = 0 → w_X10_inAll N x8 τ9 (fun r11 τ12 => (x3 = 0 → b_X11_loss_109 N k_37 Q x1 x2 x6 x8 r11 τ12) ∧ (¬ x3 = 0 → (x2 = 0 → ((lg_cmp r11 x4) ≤ 0 → b_X11_loss_113 N k_37 Q x1 x2 x4 x6 x8 τ12) ∧ (¬ (lg_cmp r11 x4) ≤ 0 → b_X11_loss_109 N k_37 Q x1 x2 x6 x8 r11 τ12)) ∧ (¬ x2 = 0 → (0 ≤ (lg_cmp r11 x4) → b_X11_loss_113 N k_37 Q x1 x2 x4 x6 x8 τ12) ∧ (¬ 0 ≤ (lg_cmp r11 x4) → b_X11_loss_109 N k_37 Q x1 x2 x6 x8 r11 τ12))))) ∧ (¬ r8 = 0 → ∀ v10 : Int64, v10 = x8 + (1 : Int64) → k_37 x1 x2 x3 x4 x6 v10 τ9)))))
def w_X11_loss_37 (N : Nat) (Q : Int64 → zSt → Prop) : Nat → Int32 → Int32 → Int32 → Int64 → Int64 → Int64 → zSt → Prop
  | 0 => fun _ _ _ _ _ _ _ => False
  | f + 1 => b_X11_loss_37 N (w_X11_loss_37 N  Q f) Q
def w_X11_loss (N : Nat) (x1 : Int32) (x2 : Int32) (σ : zSt) (Q : Int64 → zSt → Prop) : Prop :=
  w_X11_areFew N σ (fun r1 τ2 => (r1 = 0 → Q (-1 : Int64) τ2) ∧ (¬ r1 = 0 → w_X11_isKind N x1 τ2 (fun r3 τ4 => (r3 = 0 → Q (-1 : Int64) τ4) ∧ (¬ r3 = 0 → ∀ v5 : Int64, v5 = (1 : Int64) <<< ((τ4.1 2).toInt64 &&& 63) → w_X11_loss_37 N Q N x1 x2 (0 : Int32) (0 : Int64) v5 (0 : Int64) τ4))))
variable {p : Program} {l : Launch} {e : Env} {s : State} {m : MethodId} {args : Array Value} {below : List Frame} {meth : Method} {c : Code} {dC : Nat → ClassId} {dI : Nat → Nat → Nat} {ad : Nat → Nat} {cI cJ : ClassId}
set_option maxHeartbeats 4000000 in
set_option maxRecDepth 100000 in
theorem t_X11_loss_113 (C0 : zCx p s m meth c args RX11 cX11_loss 12 (some .long) vs_X11_loss) (hK : va_K (dC, dI) vwCl (x_ty cI cJ) s) (N : Nat) {Q : Int64 → zSt → Prop} {k_37 : Int32 → Int32 → Int32 → Int64 → Int64 → Int64 → zSt → Prop} (hk_37 : ∀ (x1 : Int32) (x2 : Int32) (x3 : Int32) (x4 : Int64) (x6 : Int64) (x8 : Int64) (σ : zSt) (H : Heap) (locs : List Loc) (ls : Array Slot), k_37 x1 x2 x3 x4 x6 x8 σ → va_P (dC, dI) vwCl (x_W ad cI cJ σ) H → va_D (zAW x_n ad s.heap.size) (x_W ad cI cJ σ) → va_S (zAW x_n ad s.heap.size) s.heap H locs → lv_has ls 12 [(0, .ref (ad 0)), (1, .int x1), (2, .int x2), (3, .int x3), (4, .long x4), (6, .long x6), (8, .long x8)] → W p l e rm_X11_loss s m args below meth c H locs 0 0 (MQ below (zQl (dC, dI) (x_ty cI cJ) (x_W ad cI cJ) (zAW x_n ad s.heap.size) Q) args s 0 0 (zAW x_n ad s.heap.size)) (F0 m 37 ls [])) : ∀ (x1 : Int32) (x2 : Int32) (x4 : Int64) (x6 : Int64) (x8 : Int64) (σ : zSt) (H : Heap) (locs : List Loc) (ls : Array Slot), b_X11_loss_113 N k_37 Q x1 x2 x4 x6 x8 σ → va_P (dC, dI) vwCl (x_W ad cI cJ σ) H → va_D (zAW x_n ad s.heap.size) (x_W ad cI cJ σ) → va_S (zAW x_n ad s.heap.size) s.heap H locs → lv_has ls 12 [(0, .ref (ad 0)), (1, .int x1), (2, .int x2), (4, .long x4), (6, .long x6), (8, .long x8)] → W p l e rm_X11_loss s m args below meth c H locs 0 0 (MQ below (zQl (dC, dI) (x_ty cI cJ) (x_W ad cI cJ) (zAW x_n ad s.heap.size) Q) args s 0 0 (zAW x_n ad s.heap.size)) (F0 m 113 ls []) := by
  obtain ⟨hx, hb, hml, hr, hown, hts, hlocks⟩ := id C0
  intro x1 x2 x4 x6 x8 σ H locs ls h hP hD hS hl
  unfold b_X11_loss_113 at h
  refine lv_iconst (v := (1 : Int32)) hx hb dX11_loss_113 (by decide) ?_
  refine lv_istore_n (lv' := [(3, .int (1 : Int32)), (0, .ref (ad 0)), (1, .int x1), (2, .int x2), (4, .long x4), (6, .long x6), (8, .long x8)]) hx hb dX11_loss_114 rfl hl (by decide) rfl (fun ls hl => ?_)
  refine lv_lload hx hb dX11_loss_115 (lv_at hl 6 rfl) ?_
  refine lv_lconst (v := (1 : Int64)) hx hb dX11_loss_117 (by decide) ?_
  refine lv_ladd hx hb dX11_loss_118 ?_
  refine lv_topl (fun v1 ev1 => ?_)
  have h := h v1 ev1
  refine lv_lstore (lv' := [(8, .long v1), (3, .int (1 : Int32)), (0, .ref (ad 0)), (1, .int x1), (2, .int x2), (4, .long x4), (6, .long x6)]) hx hb dX11_loss_119 hl (by decide) rfl (fun ls hl => ?_)
  refine lv_goto (tgt := 37) hx hb dX11_loss_121 (by decide) ?_
  exact hk_37 x1 x2 (1 : Int32) x4 x6 v1 σ _ _ _ h hP hD hS (lv_sub hl [2, 3, 4, 1, 5, 6, 0] rfl)
set_option maxHeartbeats 4000000 in
set_option maxRecDepth 100000 in
theorem t_X11_loss_109 (C0 : zCx p s m meth c args RX11 cX11_loss 12 (some .long) vs_X11_loss) (hK : va_K (dC, dI) vwCl (x_ty cI cJ) s) (N : Nat) {Q : Int64 → zSt → Prop} {k_37 : Int32 → Int32 → Int32 → Int64 → Int64 → Int64 → zSt → Prop} (hk_37 : ∀ (x1 : Int32) (x2 : Int32) (x3 : Int32) (x4 : Int64) (x6 : Int64) (x8 : Int64) (σ : zSt) (H : Heap) (locs : List Loc) (ls : Array Slot), k_37 x1 x2 x3 x4 x6 x8 σ → va_P (dC, dI) vwCl (x_W ad cI cJ σ) H → va_D (zAW x_n ad s.heap.size) (x_W ad cI cJ σ) → va_S (zAW x_n ad s.heap.size) s.heap H locs → lv_has ls 12 [(0, .ref (ad 0)), (1, .int x1), (2, .int x2), (3, .int x3), (4, .long x4), (6, .long x6), (8, .long x8)] → W p l e rm_X11_loss s m args below meth c H locs 0 0 (MQ below (zQl (dC, dI) (x_ty cI cJ) (x_W ad cI cJ) (zAW x_n ad s.heap.size) Q) args s 0 0 (zAW x_n ad s.heap.size)) (F0 m 37 ls [])) : ∀ (x1 : Int32) (x2 : Int32) (x6 : Int64) (x8 : Int64) (x10 : Int64) (σ : zSt) (H : Heap) (locs : List Loc) (ls : Array Slot), b_X11_loss_109 N k_37 Q x1 x2 x6 x8 x10 σ → va_P (dC, dI) vwCl (x_W ad cI cJ σ) H → va_D (zAW x_n ad s.heap.size) (x_W ad cI cJ σ) → va_S (zAW x_n ad s.heap.size) s.heap H locs → lv_has ls 12 [(0, .ref (ad 0)), (1, .int x1), (2, .int x2), (6, .long x6), (8, .long x8), (10, .long x10)] → W p l e rm_X11_loss s m args below meth c H locs 0 0 (MQ below (zQl (dC, dI) (x_ty cI cJ) (x_W ad cI cJ) (zAW x_n ad s.heap.size) Q) args s 0 0 (zAW x_n ad s.heap.size)) (F0 m 109 ls []) := by
  obtain ⟨hx, hb, hml, hr, hown, hts, hlocks⟩ := id C0
  intro x1 x2 x6 x8 x10 σ H locs ls h hP hD hS hl
  unfold b_X11_loss_109 at h
  refine lv_lload hx hb dX11_loss_109 (lv_at hl 5 rfl) ?_
  refine lv_lstore (lv' := [(4, .long x10), (0, .ref (ad 0)), (1, .int x1), (2, .int x2), (6, .long x6), (8, .long x8), (10, .long x10)]) hx hb dX11_loss_111 hl (by decide) rfl (fun ls hl => ?_)
  exact t_X11_loss_113 C0 hK N hk_37 x1 x2 x10 x6 x8 σ _ _ _ h hP hD hS (lv_sub hl [1, 2, 3, 0, 4, 5] rfl)
set_option maxHeartbeats 4000000 in
set_option maxRecDepth 100000 in
theorem tb_X11_loss_37 (C0 : zCx p s m meth c args RX11 cX11_loss 12 (some .long) vs_X11_loss) (hK : va_K (dC, dI) vwCl (x_ty cI cJ) s) (N : Nat) {Q : Int64 → zSt → Prop} {k_37 : Int32 → Int32 → Int32 → Int64 → Int64 → Int64 → zSt → Prop} (hk_37 : ∀ (x1 : Int32) (x2 : Int32) (x3 : Int32) (x4 : Int64) (x6 : Int64) (x8 : Int64) (σ : zSt) (H : Heap) (locs : List Loc) (ls : Array Slot), k_37 x1 x2 x3 x4 x6 x8 σ → va_P (dC, dI) vwCl (x_W ad cI cJ σ) H → va_D (zAW x_n ad s.heap.size) (x_W ad cI cJ σ) → va_S (zAW x_n ad s.heap.size) s.heap H locs → lv_has ls 12 [(0, .ref (ad 0)), (1, .int x1), (2, .int x2), (3, .int x3), (4, .long x4), (6, .long x6), (8, .long x8)] → W p l e rm_X11_loss s m args below meth c H locs 0 0 (MQ below (zQl (dC, dI) (x_ty cI cJ) (x_W ad cI cJ) (zAW x_n ad s.heap.size) Q) args s 0 0 (zAW x_n ad s.heap.size)) (F0 m 37 ls [])) : ∀ (x1 : Int32) (x2 : Int32) (x3 : Int32) (x4 : Int64) (x6 : Int64) (x8 : Int64) (σ : zSt) (H : Heap) (locs : List Loc) (ls : Array Slot), b_X11_loss_37 N k_37 Q x1 x2 x3 x4 x6 x8 σ → va_P (dC, dI) vwCl (x_W ad cI cJ σ) H → va_D (zAW x_n ad s.heap.size) (x_W ad cI cJ σ) → va_S (zAW x_n ad s.heap.size) s.heap H locs → lv_has ls 12 [(0, .ref (ad 0)), (1, .int x1), (2, .int x2), (3, .int x3), (4, .long x4), (6, .long x6), (8, .long x8)] → W p l e rm_X11_loss s m args below meth c H locs 0 0 (MQ below (zQl (dC, dI) (x_ty cI cJ) (x_W ad cI cJ) (zAW x_n ad s.heap.size) Q) args s 0 0 (zAW x_n ad s.heap.size)) (F0 m 37 ls []) := by
  obtain ⟨hx, hb, hml, hr, hown, hts, hlocks⟩ := id C0
  intro x1 x2 x3 x4 x6 x8 σ H locs ls h hP hD hS hl
  unfold b_X11_loss_37 at h
  refine lv_lload hx hb dX11_loss_37 (lv_at hl 6 rfl) ?_
  refine lv_lload hx hb dX11_loss_39 (lv_at hl 5 rfl) ?_
  refine W.lcmp hx hb dX11_loss_41 ?_
  refine lv_if_ge (tgt := 124) hx hb dX11_loss_42 (by decide) (fun hc => ?_) (fun hc => ?_)
  · have h := h.1 hc
    refine lv_iload_n hx hb dX11_loss_124 rfl (lv_at hl 3 rfl) ?_
    refine lv_if_eq (tgt := 145) hx hb dX11_loss_125 (by decide) (fun hc => ?_) (fun hc => ?_)
    · have h := h.1 hc
      refine lv_ldc2 (v := (-1 : Int64)) hx hb hown (hts _ (List.mem_cons_of_mem _ mw_275)) dX11_loss_145 ?_
      exact zret_l hx hb hr hlocks hK hP hD hS h dX11_loss_148
    · have h := h.2 hc
      refine lv_aload_n hx hb dX11_loss_128 rfl (lv_at hl 0 rfl) ?_
      refine xg_0_5 hx hb hts hown hK hP mw_294 dX11_loss_129 ?_
      refine lv_aload_n hx hb dX11_loss_132 rfl (lv_at hl 0 rfl) ?_
      refine k_X11_bestNet N ⟨hx, hb, hml, hown, hts⟩ mw_742 ⟨Nat.le_of_ble_eq_true rfl, Nat.le_of_ble_eq_true rfl⟩ h hK hP hD hS hl.1 (rest := [.ref (ad 9)]) (Nat.le_of_ble_eq_true rfl) ⟨Nat.le_of_ble_eq_true rfl, Nat.le_of_ble_eq_true rfl⟩ dX11_loss_133 (fun r1 τ2 H locs h hP hD hS => ?_)
      refine k_X10_inAll N ⟨hx, hb, hml, hown, hts⟩ mw_538 ⟨Nat.le_of_ble_eq_true rfl, Nat.le_of_ble_eq_true rfl⟩ h hK hP hD hS hl.1 (rest := []) (Nat.le_of_ble_eq_true rfl) ⟨Nat.le_of_ble_eq_true rfl, Nat.le_of_ble_eq_true rfl⟩ dX11_loss_136 (fun r3 τ4 H locs h hP hD hS => ?_)
      refine lv_lload hx hb dX11_loss_139 (lv_at hl 4 rfl) ?_
      refine lv_lsub hx hb dX11_loss_141 ?_
      refine lv_goto (tgt := 148) hx hb dX11_loss_142 (by decide) ?_
      exact zret_l hx hb hr hlocks hK hP hD hS h dX11_loss_148
  · have h := h.2 hc
    refine lv_aload_n hx hb dX11_loss_45 rfl (lv_at hl 0 rfl) ?_
    refine xg_0_2 hx hb hts hown hK hP mw_291 dX11_loss_46 ?_
    refine lv_lload hx hb dX11_loss_49 (lv_at hl 6 rfl) ?_
    refine k_X4_may N ⟨hx, hb, hml, hown, hts⟩ mw_500 ⟨Nat.le_of_ble_eq_true rfl, Nat.le_of_ble_eq_true rfl⟩ h hK hP hD hS hl.1 (rest := []) (Nat.le_of_ble_eq_true rfl) ⟨Nat.le_of_ble_eq_true rfl, Nat.le_of_ble_eq_true rfl⟩ dX11_loss_51 (fun r5 τ6 H locs h hP hD hS => ?_)
    refine lv_if_eq (tgt := 115) hx hb dX11_loss_54 (by decide) (fun hc => ?_) (fun hc => ?_)
    · have h := h.1 hc
      refine lv_lload hx hb dX11_loss_115 (lv_at hl 6 rfl) ?_
      refine lv_lconst (v := (1 : Int64)) hx hb dX11_loss_117 (by decide) ?_
      refine lv_ladd hx hb dX11_loss_118 ?_
      refine lv_topl (fun v7 ev7 => ?_)
      have h := h v7 ev7
      refine lv_lstore (lv' := [(8, .long v7), (0, .ref (ad 0)), (1, .int x1), (2, .int x2), (3, .int x3), (4, .long x4), (6, .long x6)]) hx hb dX11_loss_119 hl (by decide) rfl (fun ls hl => ?_)
      refine lv_goto (tgt := 37) hx hb dX11_loss_121 (by decide) ?_
      exact hk_37 x1 x2 x3 x4 x6 v7 τ6 _ _ _ h hP hD hS (lv_sub hl [1, 2, 3, 4, 5, 6, 0] rfl)
    · have h := h.2 hc
      refine lv_aload_n hx hb dX11_loss_57 rfl (lv_at hl 0 rfl) ?_
      refine xg_0_6 hx hb hts hown hK hP mw_295 dX11_loss_58 ?_
      refine lv_lload hx hb dX11_loss_61 (lv_at hl 6 rfl) ?_
      refine lv_iload_n hx hb dX11_loss_63 rfl (lv_at hl 1 rfl) ?_
      refine lv_iconst (v := (0 : Int32)) hx hb dX11_loss_64 (by decide) ?_
      refine k_X0_endRest N ⟨hx, hb, hml, hown, hts⟩ mw_594 ⟨Nat.le_of_ble_eq_true rfl, Nat.le_of_ble_eq_true rfl⟩ h hK hP hD hS hl.1 (rest := []) (Nat.le_of_ble_eq_true rfl) ⟨Nat.le_of_ble_eq_true rfl, Nat.le_of_ble_eq_true rfl⟩ dX11_loss_65 (fun r8 τ9 H locs h hP hD hS => ?_)
      refine lv_if_ne (tgt := 115) hx hb dX11_loss_68 (by decide) (fun hc => ?_) (fun hc => ?_)
      · have h := h.2 hc
        refine lv_lload hx hb dX11_loss_115 (lv_at hl 6 rfl) ?_
        refine lv_lconst (v := (1 : Int64)) hx hb dX11_loss_117 (by decide) ?_
        refine lv_ladd hx hb dX11_loss_118 ?_
        refine lv_topl (fun v10 ev10 => ?_)
        have h := h v10 ev10
        refine lv_lstore (lv' := [(8, .long v10), (0, .ref (ad 0)), (1, .int x1), (2, .int x2), (3, .int x3), (4, .long x4), (6, .long x6)]) hx hb dX11_loss_119 hl (by decide) rfl (fun ls hl => ?_)
        refine lv_goto (tgt := 37) hx hb dX11_loss_121 (by decide) ?_
        exact hk_37 x1 x2 x3 x4 x6 v10 τ9 _ _ _ h hP hD hS (lv_sub hl [1, 2, 3, 4, 5, 6, 0] rfl)
      · have h := h.1 hc
        refine lv_aload_n hx hb dX11_loss_71 rfl (lv_at hl 0 rfl) ?_
        refine xg_0_5 hx hb hts hown hK hP mw_294 dX11_loss_72 ?_
        refine lv_lload hx hb dX11_loss_75 (lv_at hl 6 rfl) ?_
        refine k_X10_inAll N ⟨hx, hb, hml, hown, hts⟩ mw_538 ⟨Nat.le_of_ble_eq_true rfl, Nat.le_of_ble_eq_true rfl⟩ h hK hP hD hS hl.1 (rest := []) (Nat.le_of_ble_eq_true rfl) ⟨Nat.le_of_ble_eq_true rfl, Nat.le_of_ble_eq_true rfl⟩ dX11_loss_77 (fun r11 τ12 H locs h hP hD hS => ?_)
        refine lv_lstore (lv' := [(10, .long r11), (0, .ref (ad 0)), (1, .int x1), (2, .int x2), (3, .int x3), (4, .long x4), (6, .long x6), (8, .long x8)]) hx hb dX11_loss_80 hl (by decide) rfl (fun ls hl => ?_)
        refine lv_iload_n hx hb dX11_loss_82 rfl (lv_at hl 4 rfl) ?_
        refine lv_if_eq (tgt := 109) hx hb dX11_loss_83 (by decide) (fun hc => ?_) (fun hc => ?_)
        · have h := h.1 hc
          exact t_X11_loss_109 C0 hK N hk_37 x1 x2 x6 x8 r11 τ12 _ _ _ h hP hD hS (lv_sub hl [1, 2, 3, 6, 7, 0] rfl)
        · have h := h.2 hc
          refine lv_iload_n hx hb dX11_loss_86 rfl (lv_at hl 3 rfl) ?_
          refine lv_if_eq (tgt := 101) hx hb dX11_loss_87 (by decide) (fun hc => ?_) (fun hc => ?_)
          · have h := h.1 hc
            refine lv_lload hx hb dX11_loss_101 (lv_at hl 0 rfl) ?_
            refine lv_lload hx hb dX11_loss_103 (lv_at hl 5 rfl) ?_
            refine W.lcmp hx hb dX11_loss_105 ?_
            refine lv_if_le (tgt := 113) hx hb dX11_loss_106 (by decide) (fun hc => ?_) (fun hc => ?_)
            · have h := h.1 hc
              exact t_X11_loss_113 C0 hK N hk_37 x1 x2 x4 x6 x8 τ12 _ _ _ h hP hD hS (lv_sub hl [1, 2, 3, 5, 6, 7] rfl)
            · have h := h.2 hc
              exact t_X11_loss_109 C0 hK N hk_37 x1 x2 x6 x8 r11 τ12 _ _ _ h hP hD hS (lv_sub hl [1, 2, 3, 6, 7, 0] rfl)
          · have h := h.2 hc
            refine lv_lload hx hb dX11_loss_90 (lv_at hl 0 rfl) ?_
            refine lv_lload hx hb dX11_loss_92 (lv_at hl 5 rfl) ?_
            refine W.lcmp hx hb dX11_loss_94 ?_
            refine lv_if_ge (tgt := 113) hx hb dX11_loss_95 (by decide) (fun hc => ?_) (fun hc => ?_)
            · have h := h.1 hc
              exact t_X11_loss_113 C0 hK N hk_37 x1 x2 x4 x6 x8 τ12 _ _ _ h hP hD hS (lv_sub hl [1, 2, 3, 5, 6, 7] rfl)
            · have h := h.2 hc
              refine lv_goto (tgt := 109) hx hb dX11_loss_98 (by decide) ?_
              exact t_X11_loss_109 C0 hK N hk_37 x1 x2 x6 x8 r11 τ12 _ _ _ h hP hD hS (lv_sub hl [1, 2, 3, 6, 7, 0] rfl)
set_option maxHeartbeats 4000000 in
set_option maxRecDepth 100000 in
theorem t_X11_loss_37 (C0 : zCx p s m meth c args RX11 cX11_loss 12 (some .long) vs_X11_loss) (hK : va_K (dC, dI) vwCl (x_ty cI cJ) s) (N : Nat) {Q : Int64 → zSt → Prop} : ∀ (f : Nat) (x1 : Int32) (x2 : Int32) (x3 : Int32) (x4 : Int64) (x6 : Int64) (x8 : Int64) (σ : zSt) (H : Heap) (locs : List Loc) (ls : Array Slot), w_X11_loss_37 N  Q f x1 x2 x3 x4 x6 x8 σ → va_P (dC, dI) vwCl (x_W ad cI cJ σ) H → va_D (zAW x_n ad s.heap.size) (x_W ad cI cJ σ) → va_S (zAW x_n ad s.heap.size) s.heap H locs → lv_has ls 12 [(0, .ref (ad 0)), (1, .int x1), (2, .int x2), (3, .int x3), (4, .long x4), (6, .long x6), (8, .long x8)] → W p l e rm_X11_loss s m args below meth c H locs 0 0 (MQ below (zQl (dC, dI) (x_ty cI cJ) (x_W ad cI cJ) (zAW x_n ad s.heap.size) Q) args s 0 0 (zAW x_n ad s.heap.size)) (F0 m 37 ls []) := by
  intro f
  induction f with
  | zero => intro x1 x2 x3 x4 x6 x8 σ H locs ls h; exact h.elim
  | succ f ih =>
    intro x1 x2 x3 x4 x6 x8 σ H locs ls h hP hD hS hl
    exact tb_X11_loss_37 C0 hK N  (k_37 := w_X11_loss_37 N  Q f) ih x1 x2 x3 x4 x6 x8 σ H locs ls h hP hD hS hl
set_option maxHeartbeats 4000000 in
set_option maxRecDepth 100000 in
theorem t_X11_loss_0 (C0 : zCx p s m meth c args RX11 cX11_loss 12 (some .long) vs_X11_loss) (hK : va_K (dC, dI) vwCl (x_ty cI cJ) s) (N : Nat) {Q : Int64 → zSt → Prop} : ∀ (x1 : Int32) (x2 : Int32) (σ : zSt) (H : Heap) (locs : List Loc) (ls : Array Slot), w_X11_loss N x1 x2 σ Q → va_P (dC, dI) vwCl (x_W ad cI cJ σ) H → va_D (zAW x_n ad s.heap.size) (x_W ad cI cJ σ) → va_S (zAW x_n ad s.heap.size) s.heap H locs → lv_has ls 12 [(0, .ref (ad 0)), (1, .int x1), (2, .int x2)] → W p l e rm_X11_loss s m args below meth c H locs 0 0 (MQ below (zQl (dC, dI) (x_ty cI cJ) (x_W ad cI cJ) (zAW x_n ad s.heap.size) Q) args s 0 0 (zAW x_n ad s.heap.size)) (F0 m 0 ls []) := by
  obtain ⟨hx, hb, hml, hr, hown, hts, hlocks⟩ := id C0
  intro x1 x2 σ H locs ls h hP hD hS hl
  unfold w_X11_loss at h
  refine lv_aload_n hx hb dX11_loss_0 rfl (lv_at hl 0 rfl) ?_
  refine k_X11_areFew N ⟨hx, hb, hml, hown, hts⟩ mw_700 ⟨Nat.le_of_ble_eq_true rfl, Nat.le_of_ble_eq_true rfl⟩ h hK hP hD hS hl.1 (rest := []) (Nat.le_of_ble_eq_true rfl) ⟨Nat.le_of_ble_eq_true rfl, Nat.le_of_ble_eq_true rfl⟩ dX11_loss_1 (fun r1 τ2 H locs h hP hD hS => ?_)
  refine lv_if_eq (tgt := 14) hx hb dX11_loss_4 (by decide) (fun hc => ?_) (fun hc => ?_)
  · have h := h.1 hc
    refine lv_ldc2 (v := (-1 : Int64)) hx hb hown (hts _ (List.mem_cons_of_mem _ mw_275)) dX11_loss_14 ?_
    exact zret_l hx hb hr hlocks hK hP hD hS h dX11_loss_17
  · have h := h.2 hc
    refine lv_iload_n hx hb dX11_loss_7 rfl (lv_at hl 1 rfl) ?_
    refine k_X11_isKind N ⟨hx, hb, hml, hown, hts⟩ mw_591 ⟨Nat.le_of_ble_eq_true rfl, Nat.le_of_ble_eq_true rfl⟩ h hK hP hD hS hl.1 (rest := []) (Nat.le_of_ble_eq_true rfl) ⟨Nat.le_of_ble_eq_true rfl, Nat.le_of_ble_eq_true rfl⟩ dX11_loss_8 (fun r3 τ4 H locs h hP hD hS => ?_)
    refine lv_if_ne (tgt := 18) hx hb dX11_loss_11 (by decide) (fun hc => ?_) (fun hc => ?_)
    · have h := h.2 hc
      refine lv_iconst (v := (0 : Int32)) hx hb dX11_loss_18 (by decide) ?_
      refine lv_istore_n (lv' := [(3, .int (0 : Int32)), (0, .ref (ad 0)), (1, .int x1), (2, .int x2)]) hx hb dX11_loss_19 rfl hl (by decide) rfl (fun ls hl => ?_)
      refine lv_lconst (v := (0 : Int64)) hx hb dX11_loss_20 (by decide) ?_
      refine lv_lstore (lv' := [(4, .long (0 : Int64)), (3, .int (0 : Int32)), (0, .ref (ad 0)), (1, .int x1), (2, .int x2)]) hx hb dX11_loss_21 hl (by decide) rfl (fun ls hl => ?_)
      refine lv_lconst (v := (1 : Int64)) hx hb dX11_loss_23 (by decide) ?_
      refine lv_aload_n hx hb dX11_loss_24 rfl (lv_at hl 2 rfl) ?_
      refine xg_0_2 hx hb hts hown hK hP mw_291 dX11_loss_25 ?_
      refine xg_3_5 hx hb hts hown hK hP mw_81 dX11_loss_28 ?_
      refine lv_lshl hx hb dX11_loss_31 rfl ?_
      refine lv_topl (fun v5 ev5 => ?_)
      have h := h v5 ev5
      refine lv_lstore (lv' := [(6, .long v5), (4, .long (0 : Int64)), (3, .int (0 : Int32)), (0, .ref (ad 0)), (1, .int x1), (2, .int x2)]) hx hb dX11_loss_32 hl (by decide) rfl (fun ls hl => ?_)
      refine lv_lconst (v := (0 : Int64)) hx hb dX11_loss_34 (by decide) ?_
      refine lv_lstore (lv' := [(8, .long (0 : Int64)), (6, .long v5), (4, .long (0 : Int64)), (3, .int (0 : Int32)), (0, .ref (ad 0)), (1, .int x1), (2, .int x2)]) hx hb dX11_loss_35 hl (by decide) rfl (fun ls hl => ?_)
      exact t_X11_loss_37 C0 hK N  N x1 x2 (0 : Int32) (0 : Int64) v5 (0 : Int64) τ4 _ _ _ h hP hD hS (lv_sub hl [4, 5, 6, 3, 2, 1, 0] rfl)
    · have h := h.1 hc
      refine lv_ldc2 (v := (-1 : Int64)) hx hb hown (hts _ (List.mem_cons_of_mem _ mw_275)) dX11_loss_14 ?_
      exact zret_l hx hb hr hlocks hK hP hD hS h dX11_loss_17
set_option maxHeartbeats 4000000 in
set_option maxRecDepth 100000 in
theorem c_X11_loss (N : Nat) (l : Launch) (dC : Nat → ClassId) (dI : Nat → Nat → Nat) (ad : Nat → Nat) (cI cJ : ClassId) (sz : Nat) (σ : zSt) (x1 : Int32) (x2 : Int32) (Q : Int64 → zSt → Prop) (h : w_X11_loss N x1 x2 σ Q) : Met l yX11_loss vs_X11_loss rm_X11_loss (va_Pc [.ref (ad 0), .int x1, .int x2] (zPc (dC, dI) (x_ty cI cJ) (x_W ad cI cJ) sz σ)) (zQl (dC, dI) (x_ty cI cJ) (x_W ad cI cJ) (zAW x_n ad sz) Q) 0 0 (zAW x_n ad sz) := by
  refine Met.ofW (cc := cX11_loss) (maxL := 12) (ret := (some .long)) (by decide) rfl ?_
  intro p e s m args below meth c s₁ B hml hv
  obtain ⟨rfl, hsz, hP, hK, hD0⟩ := hv
  subst hsz
  have C0 : zCx p s m meth c _ RX11 cX11_loss 12 (some .long) vs_X11_loss := ⟨B.exec, B.bytes, hml, B.returns, findClass_of_methodNamed B.named, atoms_spec (ws := vs_X11_loss) B.pre, B.notSynchronized⟩
  have hD := x_D0 (n0 := s.heap.size) hD0
  have hl := lv_entry ([.ref (ad 0), .int x1, .int x2]) (n := 12) (Nat.le_of_ble_eq_true rfl)
  rw [lg_entry_eq]
  generalize (lg_sl ([.ref (ad 0), .int x1, .int x2]) ++ List.replicate (12 - (lg_sl ([.ref (ad 0), .int x1, .int x2])).length) Slot.unset).toArray = ls at hl ⊢
  exact t_X11_loss_0 C0 hK N x1 x2 σ _ _ ls h hP hD va_S.rf hl
theorem k_X11_loss (N : Nat) {R : Room} {H : Heap} {locs : List Loc} {cells slots : Nat} {Q2 : State → Prop} {cc : ByteArray} {nL pc index : Nat} {ls : Array Slot} {rest : List Value} {own : String} {c0 : Cond} {σ : zSt} {x1 : Int32} {x2 : Int32} {Q : Int64 → zSt → Prop} (S0 : CallFix p m c cc nL s args (c0 :: zT) own) (hml : Cond.methodLink own index yX11_loss ∈ zT) (hR : rm_X11_loss.frames + 1 ≤ R.frames ∧ 8 + (12 + 11) + rm_X11_loss.locals ≤ R.locals) (h : w_X11_loss N x1 x2 σ Q) (hK : va_K (dC, dI) vwCl (x_ty cI cJ) s) (hP : va_P (dC, dI) vwCl (x_W ad cI cJ σ) H) (hD : va_D (zAW x_n ad s.heap.size) (x_W ad cI cJ σ)) (hS : va_S (zAW x_n ad s.heap.size) s.heap H locs) (hsz : ls.size = nL) (hW : (rest.map fun v => v.category).sum ≤ 8) (hcs : cells ≤ R.cells ∧ slots ≤ R.slots) (hdg : decode cc pc = .ok (.invokevirtual index, 3)) (kk : ∀ (r : Int64) (τ : zSt) (H1 : Heap) (locs1 : List Loc), Q r τ → va_P (dC, dI) vwCl (x_W ad cI cJ τ) H1 → va_D (zAW x_n ad s.heap.size) (x_W ad cI cJ τ) → va_S (zAW x_n ad s.heap.size) s.heap H1 locs1 → W p l e R s m args below meth c H1 locs1 cells slots Q2 (F0 m (pc + 3) ls (.long r :: rest))) : W p l e R s m args below meth c H locs cells slots Q2 (F0 m pc ls (.int x2 :: .int x1 :: .ref (ad 0) :: rest)) :=
  zcv_l (T := TX11) (N' := 17) (k := 0) (ci := 11) (fs := x_f0 ad σ) [.int x1, .int x2] S0 (c_X11_loss N l dC dI ad cI cJ H.size σ x1 x2 Q h) (cw_X11_loss S0.2.2.2.2 hml rfl rfl hR) rfl rfl hK hP hD hS rfl hsz hW rfl hcs hdg kk
end q11
section q11
def b_X11_netOfOrder_47 (N : Nat) (k_7 : Int64 → Int32 → Int32 → zSt → Prop) (k_47 : Int64 → Int32 → Int32 → Int32 → Int32 → zSt → Prop) (Q : Int64 → zSt → Prop) (x1 : Int64) (x3 : Int32) (x4 : Int32) (x5 : Int32) (x6 : Int32) (σ : zSt) : Prop :=
  ((σ.1 1) ≤ x6 → ∀ v1 : Int32, v1 = x3 ||| ((1 : Int32) <<< (x5 &&& 31)) → ∀ v2 : Int32, v2 = x4 + (1 : Int32) → k_7 x1 v1 v2 σ) ∧ (¬ (σ.1 1) ≤ x6 → (((x3 >>> (x6 &&& 31)) &&& (1 : Int32)) = 0 → ∀ v3 : Int32, v3 = x6 + (1 : Int32) → k_47 x1 x3 x4 x5 v3 σ) ∧ (¬ ((x3 >>> (x6 &&& 31)) &&& (1 : Int32)) = 0 → w_X3_number N x5 x6 σ (fun r4 τ5 => w_X0_moves N x1 r4 τ5 (fun r6 τ7 => (r6 = 0 → ∀ v8 : Int64, v8 = x1 ||| (0 : Int64) → ∀ v9 : Int32, v9 = x6 + (1 : Int32) → k_47 v8 x3 x4 x5 v9 τ7) ∧ (¬ r6 = 0 → ∀ v10 : Int64, v10 = x1 ||| ((1 : Int64) <<< (r4.toInt64 &&& 63)) → ∀ v11 : Int32, v11 = x6 + (1 : Int32) → k_47 v10 x3 x4 x5 v11 τ7)))))
def w_X11_netOfOrder_47 (N : Nat) (k_7 : Int64 → Int32 → Int32 → zSt → Prop) (Q : Int64 → zSt → Prop) : Nat → Int64 → Int32 → Int32 → Int32 → Int32 → zSt → Prop
  | 0 => fun _ _ _ _ _ _ => False
  | f + 1 => b_X11_netOfOrder_47 N k_7 (w_X11_netOfOrder_47 N k_7 Q f) Q
def b_X11_netOfOrder_7 (N : Nat) (k_7 : Int64 → Int32 → Int32 → zSt → Prop) (Q : Int64 → zSt → Prop) (x1 : Int64) (x3 : Int32) (x4 : Int32) (σ : zSt) : Prop :=
  ((σ.1 1) ≤ x4 → Q x1 σ) ∧ (¬ (σ.1 1) ≤ x4 → ((5 : Int32) ≤ x4 → Q x1 σ) ∧ (¬ (5 : Int32) ≤ x4 → (vp_in x4 5) ∧ (∀ v1 : Int32, v1 = σ.2.2.1 31 x4.toNatClampNeg → w_X11_netOfOrder_47 N k_7 Q N x1 x3 x4 v1 (0 : Int32) σ)))
def w_X11_netOfOrder_7 (N : Nat) (Q : Int64 → zSt → Prop) : Nat → Int64 → Int32 → Int32 → zSt → Prop
  | 0 => fun _ _ _ _ => False
  | f + 1 => b_X11_netOfOrder_7 N (w_X11_netOfOrder_7 N  Q f) Q
def w_X11_netOfOrder (N : Nat)  (σ : zSt) (Q : Int64 → zSt → Prop) : Prop :=
  w_X11_netOfOrder_7 N Q N (0 : Int64) (0 : Int32) (0 : Int32) σ
variable {p : Program} {l : Launch} {e : Env} {s : State} {m : MethodId} {args : Array Value} {below : List Frame} {meth : Method} {c : Code} {dC : Nat → ClassId} {dI : Nat → Nat → Nat} {ad : Nat → Nat} {cI cJ : ClassId}
set_option maxHeartbeats 4000000 in
set_option maxRecDepth 100000 in
theorem tb_X11_netOfOrder_47 (C0 : zCx p s m meth c args RX11 cX11_netOfOrder 8 (some .long) vs_X11_netOfOrder) (hK : va_K (dC, dI) vwCl (x_ty cI cJ) s) (N : Nat) {Q : Int64 → zSt → Prop} {k_7 : Int64 → Int32 → Int32 → zSt → Prop} (hk_7 : ∀ (x1 : Int64) (x3 : Int32) (x4 : Int32) (σ : zSt) (H : Heap) (locs : List Loc) (ls : Array Slot), k_7 x1 x3 x4 σ → va_P (dC, dI) vwCl (x_W ad cI cJ σ) H → va_D (zAW x_n ad s.heap.size) (x_W ad cI cJ σ) → va_S (zAW x_n ad s.heap.size) s.heap H locs → lv_has ls 8 [(0, .ref (ad 0)), (1, .long x1), (3, .int x3), (4, .int x4)] → W p l e rm_X11_netOfOrder s m args below meth c H locs 0 0 (MQ below (zQl (dC, dI) (x_ty cI cJ) (x_W ad cI cJ) (zAW x_n ad s.heap.size) Q) args s 0 0 (zAW x_n ad s.heap.size)) (F0 m 7 ls [])) {k_47 : Int64 → Int32 → Int32 → Int32 → Int32 → zSt → Prop} (hk_47 : ∀ (x1 : Int64) (x3 : Int32) (x4 : Int32) (x5 : Int32) (x6 : Int32) (σ : zSt) (H : Heap) (locs : List Loc) (ls : Array Slot), k_47 x1 x3 x4 x5 x6 σ → va_P (dC, dI) vwCl (x_W ad cI cJ σ) H → va_D (zAW x_n ad s.heap.size) (x_W ad cI cJ σ) → va_S (zAW x_n ad s.heap.size) s.heap H locs → lv_has ls 8 [(0, .ref (ad 0)), (1, .long x1), (3, .int x3), (4, .int x4), (5, .int x5), (6, .int x6)] → W p l e rm_X11_netOfOrder s m args below meth c H locs 0 0 (MQ below (zQl (dC, dI) (x_ty cI cJ) (x_W ad cI cJ) (zAW x_n ad s.heap.size) Q) args s 0 0 (zAW x_n ad s.heap.size)) (F0 m 47 ls [])) : ∀ (x1 : Int64) (x3 : Int32) (x4 : Int32) (x5 : Int32) (x6 : Int32) (σ : zSt) (H : Heap) (locs : List Loc) (ls : Array Slot), b_X11_netOfOrder_47 N k_7 k_47 Q x1 x3 x4 x5 x6 σ → va_P (dC, dI) vwCl (x_W ad cI cJ σ) H → va_D (zAW x_n ad s.heap.size) (x_W ad cI cJ σ) → va_S (zAW x_n ad s.heap.size) s.heap H locs → lv_has ls 8 [(0, .ref (ad 0)), (1, .long x1), (3, .int x3), (4, .int x4), (5, .int x5), (6, .int x6)] → W p l e rm_X11_netOfOrder s m args below meth c H locs 0 0 (MQ below (zQl (dC, dI) (x_ty cI cJ) (x_W ad cI cJ) (zAW x_n ad s.heap.size) Q) args s 0 0 (zAW x_n ad s.heap.size)) (F0 m 47 ls []) := by
  obtain ⟨hx, hb, hml, hr, hown, hts, hlocks⟩ := id C0
  intro x1 x3 x4 x5 x6 σ H locs ls h hP hD hS hl
  unfold b_X11_netOfOrder_47 at h
  refine lv_iload hx hb dX11_netOfOrder_47 (lv_at hl 5 rfl) ?_
  refine lv_aload_n hx hb dX11_netOfOrder_49 rfl (lv_at hl 0 rfl) ?_
  refine xg_0_2 hx hb hts hown hK hP mw_291 dX11_netOfOrder_50 ?_
  refine xg_3_4 hx hb hts hown hK hP mw_75 dX11_netOfOrder_53 ?_
  refine lv_icmp_ge (tgt := 107) hx hb dX11_netOfOrder_56 (by decide) (fun hc => ?_) (fun hc => ?_)
  · have h := h.1 hc
    refine lv_iload_n hx hb dX11_netOfOrder_107 rfl (lv_at hl 2 rfl) ?_
    refine lv_iconst (v := (1 : Int32)) hx hb dX11_netOfOrder_108 (by decide) ?_
    refine lv_iload hx hb dX11_netOfOrder_109 (lv_at hl 4 rfl) ?_
    refine lv_ishl hx hb dX11_netOfOrder_111 ?_
    refine lv_ior hx hb dX11_netOfOrder_112 ?_
    refine lv_topi (fun v1 ev1 => ?_)
    have h := h v1 ev1
    refine lv_istore_n (lv' := [(3, .int v1), (0, .ref (ad 0)), (1, .long x1), (4, .int x4), (5, .int x5), (6, .int x6)]) hx hb dX11_netOfOrder_113 rfl hl (by decide) rfl (fun ls hl => ?_)
    obtain ⟨v2, ev2⟩ : ∃ z : Int32, z = x4 + (1 : Int32) := ⟨_, rfl⟩
    have h := h v2 ev2
    refine lv_iinc (v := v2) (lv' := [(4, .int v2), (3, .int v1), (0, .ref (ad 0)), (1, .long x1), (5, .int x5), (6, .int x6)]) hx hb dX11_netOfOrder_114 hl (k := 3) rfl (by rw [ev2]; rfl) (by decide) rfl (fun ls hl => ?_)
    refine lv_goto (tgt := 7) hx hb dX11_netOfOrder_117 (by decide) ?_
    exact hk_7 x1 v1 v2 σ _ _ _ h hP hD hS (lv_sub hl [2, 3, 1, 0] rfl)
  · have h := h.2 hc
    refine lv_iload_n hx hb dX11_netOfOrder_59 rfl (lv_at hl 2 rfl) ?_
    refine lv_iload hx hb dX11_netOfOrder_60 (lv_at hl 5 rfl) ?_
    refine lv_ishr hx hb dX11_netOfOrder_62 ?_
    refine lv_iconst (v := (1 : Int32)) hx hb dX11_netOfOrder_63 (by decide) ?_
    refine lv_iand hx hb dX11_netOfOrder_64 ?_
    refine lv_if_eq (tgt := 101) hx hb dX11_netOfOrder_65 (by decide) (fun hc => ?_) (fun hc => ?_)
    · have h := h.1 hc
      obtain ⟨v3, ev3⟩ : ∃ z : Int32, z = x6 + (1 : Int32) := ⟨_, rfl⟩
      have h := h v3 ev3
      refine lv_iinc (v := v3) (lv' := [(6, .int v3), (0, .ref (ad 0)), (1, .long x1), (3, .int x3), (4, .int x4), (5, .int x5)]) hx hb dX11_netOfOrder_101 hl (k := 5) rfl (by rw [ev3]; rfl) (by decide) rfl (fun ls hl => ?_)
      refine lv_goto (tgt := 47) hx hb dX11_netOfOrder_104 (by decide) ?_
      exact hk_47 x1 x3 x4 x5 v3 σ _ _ _ h hP hD hS (lv_sub hl [1, 2, 3, 4, 5, 0] rfl)
    · have h := h.2 hc
      refine lv_iload hx hb dX11_netOfOrder_68 (lv_at hl 4 rfl) ?_
      refine lv_iload hx hb dX11_netOfOrder_70 (lv_at hl 5 rfl) ?_
      refine k_X3_number N ⟨hx, hb, hml, hown, hts⟩ mw_757 ⟨Nat.le_of_ble_eq_true rfl, Nat.le_of_ble_eq_true rfl⟩ h hK hP hD hS hl.1 (rest := []) (Nat.le_of_ble_eq_true rfl) ⟨Nat.le_of_ble_eq_true rfl, Nat.le_of_ble_eq_true rfl⟩ dX11_netOfOrder_72 (fun r4 τ5 H locs h hP hD hS => ?_)
      refine lv_istore (lv' := [(7, .int r4), (0, .ref (ad 0)), (1, .long x1), (3, .int x3), (4, .int x4), (5, .int x5), (6, .int x6)]) hx hb dX11_netOfOrder_75 hl (by decide) rfl (fun ls hl => ?_)
      refine lv_lload_n hx hb dX11_netOfOrder_77 rfl (lv_at hl 2 rfl) ?_
      refine lv_aload_n hx hb dX11_netOfOrder_78 rfl (lv_at hl 1 rfl) ?_
      refine xg_0_6 hx hb hts hown hK hP mw_295 dX11_netOfOrder_79 ?_
      refine lv_lload_n hx hb dX11_netOfOrder_82 rfl (lv_at hl 2 rfl) ?_
      refine lv_iload hx hb dX11_netOfOrder_83 (lv_at hl 0 rfl) ?_
      refine k_X0_moves N ⟨hx, hb, hml, hown, hts⟩ mw_758 ⟨Nat.le_of_ble_eq_true rfl, Nat.le_of_ble_eq_true rfl⟩ h hK hP hD hS hl.1 (rest := [.long x1]) (Nat.le_of_ble_eq_true rfl) ⟨Nat.le_of_ble_eq_true rfl, Nat.le_of_ble_eq_true rfl⟩ dX11_netOfOrder_85 (fun r6 τ7 H locs h hP hD hS => ?_)
      refine lv_if_eq (tgt := 98) hx hb dX11_netOfOrder_88 (by decide) (fun hc => ?_) (fun hc => ?_)
      · have h := h.1 hc
        refine lv_lconst (v := (0 : Int64)) hx hb dX11_netOfOrder_98 (by decide) ?_
        refine lv_lor hx hb dX11_netOfOrder_99 ?_
        refine lv_topl (fun v8 ev8 => ?_)
        have h := h v8 ev8
        refine lv_lstore_n (lv' := [(1, .long v8), (7, .int r4), (0, .ref (ad 0)), (3, .int x3), (4, .int x4), (5, .int x5), (6, .int x6)]) hx hb dX11_netOfOrder_100 rfl hl (by decide) rfl (fun ls hl => ?_)
        obtain ⟨v9, ev9⟩ : ∃ z : Int32, z = x6 + (1 : Int32) := ⟨_, rfl⟩
        have h := h v9 ev9
        refine lv_iinc (v := v9) (lv' := [(6, .int v9), (1, .long v8), (7, .int r4), (0, .ref (ad 0)), (3, .int x3), (4, .int x4), (5, .int x5)]) hx hb dX11_netOfOrder_101 hl (k := 6) rfl (by rw [ev9]; rfl) (by decide) rfl (fun ls hl => ?_)
        refine lv_goto (tgt := 47) hx hb dX11_netOfOrder_104 (by decide) ?_
        exact hk_47 v8 x3 x4 x5 v9 τ7 _ _ _ h hP hD hS (lv_sub hl [3, 1, 4, 5, 6, 0] rfl)
      · have h := h.2 hc
        refine lv_lconst (v := (1 : Int64)) hx hb dX11_netOfOrder_91 (by decide) ?_
        refine lv_iload hx hb dX11_netOfOrder_92 (lv_at hl 0 rfl) ?_
        refine lv_lshl hx hb dX11_netOfOrder_94 rfl ?_
        refine lv_goto (tgt := 99) hx hb dX11_netOfOrder_95 (by decide) ?_
        refine lv_lor hx hb dX11_netOfOrder_99 ?_
        refine lv_topl (fun v10 ev10 => ?_)
        have h := h v10 ev10
        refine lv_lstore_n (lv' := [(1, .long v10), (7, .int r4), (0, .ref (ad 0)), (3, .int x3), (4, .int x4), (5, .int x5), (6, .int x6)]) hx hb dX11_netOfOrder_100 rfl hl (by decide) rfl (fun ls hl => ?_)
        obtain ⟨v11, ev11⟩ : ∃ z : Int32, z = x6 + (1 : Int32) := ⟨_, rfl⟩
        have h := h v11 ev11
        refine lv_iinc (v := v11) (lv' := [(6, .int v11), (1, .long v10), (7, .int r4), (0, .ref (ad 0)), (3, .int x3), (4, .int x4), (5, .int x5)]) hx hb dX11_netOfOrder_101 hl (k := 6) rfl (by rw [ev11]; rfl) (by decide) rfl (fun ls hl => ?_)
        refine lv_goto (tgt := 47) hx hb dX11_netOfOrder_104 (by decide) ?_
        exact hk_47 v10 x3 x4 x5 v11 τ7 _ _ _ h hP hD hS (lv_sub hl [3, 1, 4, 5, 6, 0] rfl)
set_option maxHeartbeats 4000000 in
set_option maxRecDepth 100000 in
theorem t_X11_netOfOrder_47 (C0 : zCx p s m meth c args RX11 cX11_netOfOrder 8 (some .long) vs_X11_netOfOrder) (hK : va_K (dC, dI) vwCl (x_ty cI cJ) s) (N : Nat) {Q : Int64 → zSt → Prop} {k_7 : Int64 → Int32 → Int32 → zSt → Prop} (hk_7 : ∀ (x1 : Int64) (x3 : Int32) (x4 : Int32) (σ : zSt) (H : Heap) (locs : List Loc) (ls : Array Slot), k_7 x1 x3 x4 σ → va_P (dC, dI) vwCl (x_W ad cI cJ σ) H → va_D (zAW x_n ad s.heap.size) (x_W ad cI cJ σ) → va_S (zAW x_n ad s.heap.size) s.heap H locs → lv_has ls 8 [(0, .ref (ad 0)), (1, .long x1), (3, .int x3), (4, .int x4)] → W p l e rm_X11_netOfOrder s m args below meth c H locs 0 0 (MQ below (zQl (dC, dI) (x_ty cI cJ) (x_W ad cI cJ) (zAW x_n ad s.heap.size) Q) args s 0 0 (zAW x_n ad s.heap.size)) (F0 m 7 ls [])) : ∀ (f : Nat) (x1 : Int64) (x3 : Int32) (x4 : Int32) (x5 : Int32) (x6 : Int32) (σ : zSt) (H : Heap) (locs : List Loc) (ls : Array Slot), w_X11_netOfOrder_47 N k_7 Q f x1 x3 x4 x5 x6 σ → va_P (dC, dI) vwCl (x_W ad cI cJ σ) H → va_D (zAW x_n ad s.heap.size) (x_W ad cI cJ σ) → va_S (zAW x_n ad s.heap.size) s.heap H locs → lv_has ls 8 [(0, .ref (ad 0)), (1, .long x1), (3, .int x3), (4, .int x4), (5, .int x5), (6, .int x6)] → W p l e rm_X11_netOfOrder s m args below meth c H locs 0 0 (MQ below (zQl (dC, dI) (x_ty cI cJ) (x_W ad cI cJ) (zAW x_n ad s.heap.size) Q) args s 0 0 (zAW x_n ad s.heap.size)) (F0 m 47 ls []) := by
  intro f
  induction f with
  | zero => intro x1 x3 x4 x5 x6 σ H locs ls h; exact h.elim
  | succ f ih =>
    intro x1 x3 x4 x5 x6 σ H locs ls h hP hD hS hl
    exact tb_X11_netOfOrder_47 C0 hK N hk_7 (k_47 := w_X11_netOfOrder_47 N k_7 Q f) ih x1 x3 x4 x5 x6 σ H locs ls h hP hD hS hl
set_option maxHeartbeats 4000000 in
set_option maxRecDepth 100000 in
theorem tb_X11_netOfOrder_7 (C0 : zCx p s m meth c args RX11 cX11_netOfOrder 8 (some .long) vs_X11_netOfOrder) (hK : va_K (dC, dI) vwCl (x_ty cI cJ) s) (N : Nat) {Q : Int64 → zSt → Prop} {k_7 : Int64 → Int32 → Int32 → zSt → Prop} (hk_7 : ∀ (x1 : Int64) (x3 : Int32) (x4 : Int32) (σ : zSt) (H : Heap) (locs : List Loc) (ls : Array Slot), k_7 x1 x3 x4 σ → va_P (dC, dI) vwCl (x_W ad cI cJ σ) H → va_D (zAW x_n ad s.heap.size) (x_W ad cI cJ σ) → va_S (zAW x_n ad s.heap.size) s.heap H locs → lv_has ls 8 [(0, .ref (ad 0)), (1, .long x1), (3, .int x3), (4, .int x4)] → W p l e rm_X11_netOfOrder s m args below meth c H locs 0 0 (MQ below (zQl (dC, dI) (x_ty cI cJ) (x_W ad cI cJ) (zAW x_n ad s.heap.size) Q) args s 0 0 (zAW x_n ad s.heap.size)) (F0 m 7 ls [])) : ∀ (x1 : Int64) (x3 : Int32) (x4 : Int32) (σ : zSt) (H : Heap) (locs : List Loc) (ls : Array Slot), b_X11_netOfOrder_7 N k_7 Q x1 x3 x4 σ → va_P (dC, dI) vwCl (x_W ad cI cJ σ) H → va_D (zAW x_n ad s.heap.size) (x_W ad cI cJ σ) → va_S (zAW x_n ad s.heap.size) s.heap H locs → lv_has ls 8 [(0, .ref (ad 0)), (1, .long x1), (3, .int x3), (4, .int x4)] → W p l e rm_X11_netOfOrder s m args below meth c H locs 0 0 (MQ below (zQl (dC, dI) (x_ty cI cJ) (x_W ad cI cJ) (zAW x_n ad s.heap.size) Q) args s 0 0 (zAW x_n ad s.heap.size)) (F0 m 7 ls []) := by
  obtain ⟨hx, hb, hml, hr, hown, hts, hlocks⟩ := id C0
  intro x1 x3 x4 σ H locs ls h hP hD hS hl
  unfold b_X11_netOfOrder_7 at h
  refine lv_iload hx hb dX11_netOfOrder_7 (lv_at hl 3 rfl) ?_
  refine lv_aload_n hx hb dX11_netOfOrder_9 rfl (lv_at hl 0 rfl) ?_
  refine xg_0_2 hx hb hts hown hK hP mw_291 dX11_netOfOrder_10 ?_
  refine xg_3_4 hx hb hts hown hK hP mw_75 dX11_netOfOrder_13 ?_
  refine lv_icmp_ge (tgt := 120) hx hb dX11_netOfOrder_16 (by decide) (fun hc => ?_) (fun hc => ?_)
  · have h := h.1 hc
    refine lv_lload_n hx hb dX11_netOfOrder_120 rfl (lv_at hl 1 rfl) ?_
    exact zret_l hx hb hr hlocks hK hP hD hS h dX11_netOfOrder_121
  · have h := h.2 hc
    refine lv_iload hx hb dX11_netOfOrder_19 (lv_at hl 3 rfl) ?_
    refine lv_aload_n hx hb dX11_netOfOrder_21 rfl (lv_at hl 0 rfl) ?_
    refine xg_0_8 hx hb hts hown hK hP mw_297 dX11_netOfOrder_22 ?_
    refine xg_12_0 hx hb hts hown hK hP mw_254 dX11_netOfOrder_25 ?_
    refine xl_57 hx hb hK hP dX11_netOfOrder_28 ?_
    refine lv_icmp_ge (tgt := 120) hx hb dX11_netOfOrder_29 (by decide) (fun hc => ?_) (fun hc => ?_)
    · have h := h.1 hc
      refine lv_lload_n hx hb dX11_netOfOrder_120 rfl (lv_at hl 1 rfl) ?_
      exact zret_l hx hb hr hlocks hK hP hD hS h dX11_netOfOrder_121
    · have h := h.2 hc
      refine lv_aload_n hx hb dX11_netOfOrder_32 rfl (lv_at hl 0 rfl) ?_
      refine xg_0_8 hx hb hts hown hK hP mw_297 dX11_netOfOrder_33 ?_
      refine xg_12_0 hx hb hts hown hK hP mw_254 dX11_netOfOrder_36 ?_
      refine lv_iload hx hb dX11_netOfOrder_39 (lv_at hl 3 rfl) ?_
      refine xa_57 hx hb hK hP h.1 rfl dX11_netOfOrder_41 ?_
      have h := h.2
      refine lv_topi (fun v1 ev1 => ?_)
      have h := h v1 ev1
      refine lv_istore (lv' := [(5, .int v1), (0, .ref (ad 0)), (1, .long x1), (3, .int x3), (4, .int x4)]) hx hb dX11_netOfOrder_42 hl (by decide) rfl (fun ls hl => ?_)
      refine lv_iconst (v := (0 : Int32)) hx hb dX11_netOfOrder_44 (by decide) ?_
      refine lv_istore (lv' := [(6, .int (0 : Int32)), (5, .int v1), (0, .ref (ad 0)), (1, .long x1), (3, .int x3), (4, .int x4)]) hx hb dX11_netOfOrder_45 hl (by decide) rfl (fun ls hl => ?_)
      exact t_X11_netOfOrder_47 C0 hK N hk_7 N x1 x3 x4 v1 (0 : Int32) σ _ _ _ h hP hD hS (lv_sub hl [2, 3, 4, 5, 1, 0] rfl)
set_option maxHeartbeats 4000000 in
set_option maxRecDepth 100000 in
theorem t_X11_netOfOrder_7 (C0 : zCx p s m meth c args RX11 cX11_netOfOrder 8 (some .long) vs_X11_netOfOrder) (hK : va_K (dC, dI) vwCl (x_ty cI cJ) s) (N : Nat) {Q : Int64 → zSt → Prop} : ∀ (f : Nat) (x1 : Int64) (x3 : Int32) (x4 : Int32) (σ : zSt) (H : Heap) (locs : List Loc) (ls : Array Slot), w_X11_netOfOrder_7 N  Q f x1 x3 x4 σ → va_P (dC, dI) vwCl (x_W ad cI cJ σ) H → va_D (zAW x_n ad s.heap.size) (x_W ad cI cJ σ) → va_S (zAW x_n ad s.heap.size) s.heap H locs → lv_has ls 8 [(0, .ref (ad 0)), (1, .long x1), (3, .int x3), (4, .int x4)] → W p l e rm_X11_netOfOrder s m args below meth c H locs 0 0 (MQ below (zQl (dC, dI) (x_ty cI cJ) (x_W ad cI cJ) (zAW x_n ad s.heap.size) Q) args s 0 0 (zAW x_n ad s.heap.size)) (F0 m 7 ls []) := by
  intro f
  induction f with
  | zero => intro x1 x3 x4 σ H locs ls h; exact h.elim
  | succ f ih =>
    intro x1 x3 x4 σ H locs ls h hP hD hS hl
    exact tb_X11_netOfOrder_7 C0 hK N  (k_7 := w_X11_netOfOrder_7 N  Q f) ih x1 x3 x4 σ H locs ls h hP hD hS hl
set_option maxHeartbeats 4000000 in
set_option maxRecDepth 100000 in
theorem t_X11_netOfOrder_0 (C0 : zCx p s m meth c args RX11 cX11_netOfOrder 8 (some .long) vs_X11_netOfOrder) (hK : va_K (dC, dI) vwCl (x_ty cI cJ) s) (N : Nat) {Q : Int64 → zSt → Prop} : ∀  (σ : zSt) (H : Heap) (locs : List Loc) (ls : Array Slot), w_X11_netOfOrder N  σ Q → va_P (dC, dI) vwCl (x_W ad cI cJ σ) H → va_D (zAW x_n ad s.heap.size) (x_W ad cI cJ σ) → va_S (zAW x_n ad s.heap.size) s.heap H locs → lv_has ls 8 [(0, .ref (ad 0))] → W p l e rm_X11_netOfOrder s m args below meth c H locs 0 0 (MQ below (zQl (dC, dI) (x_ty cI cJ) (x_W ad cI cJ) (zAW x_n ad s.heap.size) Q) args s 0 0 (zAW x_n ad s.heap.size)) (F0 m 0 ls []) := by
  obtain ⟨hx, hb, hml, hr, hown, hts, hlocks⟩ := id C0
  intro  σ H locs ls h hP hD hS hl
  unfold w_X11_netOfOrder at h
  refine lv_lconst (v := (0 : Int64)) hx hb dX11_netOfOrder_0 (by decide) ?_
  refine lv_lstore_n (lv' := [(1, .long (0 : Int64)), (0, .ref (ad 0))]) hx hb dX11_netOfOrder_1 rfl hl (by decide) rfl (fun ls hl => ?_)
  refine lv_iconst (v := (0 : Int32)) hx hb dX11_netOfOrder_2 (by decide) ?_
  refine lv_istore_n (lv' := [(3, .int (0 : Int32)), (1, .long (0 : Int64)), (0, .ref (ad 0))]) hx hb dX11_netOfOrder_3 rfl hl (by decide) rfl (fun ls hl => ?_)
  refine lv_iconst (v := (0 : Int32)) hx hb dX11_netOfOrder_4 (by decide) ?_
  refine lv_istore (lv' := [(4, .int (0 : Int32)), (3, .int (0 : Int32)), (1, .long (0 : Int64)), (0, .ref (ad 0))]) hx hb dX11_netOfOrder_5 hl (by decide) rfl (fun ls hl => ?_)
  exact t_X11_netOfOrder_7 C0 hK N  N (0 : Int64) (0 : Int32) (0 : Int32) σ _ _ _ h hP hD hS (lv_sub hl [3, 2, 1, 0] rfl)
set_option maxHeartbeats 4000000 in
set_option maxRecDepth 100000 in
theorem c_X11_netOfOrder (N : Nat) (l : Launch) (dC : Nat → ClassId) (dI : Nat → Nat → Nat) (ad : Nat → Nat) (cI cJ : ClassId) (sz : Nat) (σ : zSt)  (Q : Int64 → zSt → Prop) (h : w_X11_netOfOrder N  σ Q) : Met l yX11_netOfOrder vs_X11_netOfOrder rm_X11_netOfOrder (va_Pc [.ref (ad 0)] (zPc (dC, dI) (x_ty cI cJ) (x_W ad cI cJ) sz σ)) (zQl (dC, dI) (x_ty cI cJ) (x_W ad cI cJ) (zAW x_n ad sz) Q) 0 0 (zAW x_n ad sz) := by
  refine Met.ofW (cc := cX11_netOfOrder) (maxL := 8) (ret := (some .long)) (by decide) rfl ?_
  intro p e s m args below meth c s₁ B hml hv
  obtain ⟨rfl, hsz, hP, hK, hD0⟩ := hv
  subst hsz
  have C0 : zCx p s m meth c _ RX11 cX11_netOfOrder 8 (some .long) vs_X11_netOfOrder := ⟨B.exec, B.bytes, hml, B.returns, findClass_of_methodNamed B.named, atoms_spec (ws := vs_X11_netOfOrder) B.pre, B.notSynchronized⟩
  have hD := x_D0 (n0 := s.heap.size) hD0
  have hl := lv_entry ([.ref (ad 0)]) (n := 8) (Nat.le_of_ble_eq_true rfl)
  rw [lg_entry_eq]
  generalize (lg_sl ([.ref (ad 0)]) ++ List.replicate (8 - (lg_sl ([.ref (ad 0)])).length) Slot.unset).toArray = ls at hl ⊢
  exact t_X11_netOfOrder_0 C0 hK N  σ _ _ ls h hP hD va_S.rf hl
theorem k_X11_netOfOrder (N : Nat) {R : Room} {H : Heap} {locs : List Loc} {cells slots : Nat} {Q2 : State → Prop} {cc : ByteArray} {nL pc index : Nat} {ls : Array Slot} {rest : List Value} {own : String} {c0 : Cond} {σ : zSt}  {Q : Int64 → zSt → Prop} (S0 : CallFix p m c cc nL s args (c0 :: zT) own) (hml : Cond.methodLink own index yX11_netOfOrder ∈ zT) (hR : rm_X11_netOfOrder.frames + 1 ≤ R.frames ∧ 8 + (8 + 11) + rm_X11_netOfOrder.locals ≤ R.locals) (h : w_X11_netOfOrder N  σ Q) (hK : va_K (dC, dI) vwCl (x_ty cI cJ) s) (hP : va_P (dC, dI) vwCl (x_W ad cI cJ σ) H) (hD : va_D (zAW x_n ad s.heap.size) (x_W ad cI cJ σ)) (hS : va_S (zAW x_n ad s.heap.size) s.heap H locs) (hsz : ls.size = nL) (hW : (rest.map fun v => v.category).sum ≤ 8) (hcs : cells ≤ R.cells ∧ slots ≤ R.slots) (hdg : decode cc pc = .ok (.invokevirtual index, 3)) (kk : ∀ (r : Int64) (τ : zSt) (H1 : Heap) (locs1 : List Loc), Q r τ → va_P (dC, dI) vwCl (x_W ad cI cJ τ) H1 → va_D (zAW x_n ad s.heap.size) (x_W ad cI cJ τ) → va_S (zAW x_n ad s.heap.size) s.heap H1 locs1 → W p l e R s m args below meth c H1 locs1 cells slots Q2 (F0 m (pc + 3) ls (.long r :: rest))) : W p l e R s m args below meth c H locs cells slots Q2 (F0 m pc ls (.ref (ad 0) :: rest)) :=
  zcv_l (T := TX11) (N' := 17) (k := 0) (ci := 11) (fs := x_f0 ad σ) [] S0 (c_X11_netOfOrder N l dC dI ad cI cJ H.size σ  Q h) (cw_X11_netOfOrder S0.2.2.2.2 hml rfl rfl hR) rfl rfl hK hP hD hS rfl hsz hW rfl hcs hdg kk
end q11
section q11
def b_X1_note_2_78 (N : Nat) (k_78 : Int64 → Int32 → Int32 → zSt → Prop) (Q : zSt → Prop) (x1 : Int64) (x3 : Int32) (x4 : Int32) (σ : zSt) : Prop :=
  (x4 ≤ x3 → (vp_in x3 120) ∧ (∀ τ1 : zSt, τ1 = zB σ 12 (vp_updL (σ.2.2.2 12) (x3.toNatClampNeg) x1) → (vp_in x3 120) ∧ (∀ τ2 : zSt, τ2 = zA τ1 33 (upd (τ1.2.2.1 33) (x3.toNatClampNeg) (1 : Int32)) → ∀ τ3 : zSt, τ3 = zI τ2 35 ((τ2.1 35) + (1 : Int32)) → Q τ3))) ∧ (¬ x4 ≤ x3 → (vp_in (x4 - (1 : Int32)) 120) ∧ ((vp_in x4 120) ∧ (∀ τ4 : zSt, τ4 = zB σ 12 (vp_updL (σ.2.2.2 12) (x4.toNatClampNeg) (σ.2.2.2 12 (x4 - (1 : Int32)).toNatClampNeg)) → (vp_in (x4 - (1 : Int32)) 120) ∧ ((vp_in x4 120) ∧ (∀ τ5 : zSt, τ5 = zA τ4 33 (upd (τ4.2.2.1 33) (x4.toNatClampNeg) (τ4.2.2.1 33 (x4 - (1 : Int32)).toNatClampNeg)) → ∀ v6 : Int32, v6 = x4 + (-1 : Int32) → k_78 x1 x3 v6 τ5)))))
def w_X1_note_2_78 (N : Nat) (Q : zSt → Prop) : Nat → Int64 → Int32 → Int32 → zSt → Prop
  | 0 => fun _ _ _ _ => False
  | f + 1 => b_X1_note_2_78 N (w_X1_note_2_78 N  Q f) Q
def b_X1_note_2_60 (N : Nat) (Q : zSt → Prop) (x1 : Int64) (x3 : Int32) (σ : zSt) : Prop :=
  ((120 : Int32) ≤ (σ.1 35) → Q σ) ∧ (¬ (120 : Int32) ≤ (σ.1 35) → ∀ v1 : Int32, v1 = σ.1 35 → w_X1_note_2_78 N Q N x1 x3 v1 σ)
def b_X1_note_2_28 (N : Nat) (Q : zSt → Prop) (x1 : Int64) (x3 : Int32) (σ : zSt) : Prop :=
  (x3 ≤ 0 → b_X1_note_2_60 N Q x1 x3 σ) ∧ (¬ x3 ≤ 0 → (vp_in (x3 - (1 : Int32)) 120) ∧ (((lg_cmp (σ.2.2.2 12 (x3 - (1 : Int32)).toNatClampNeg) x1) = 0 → (vp_in (x3 - (1 : Int32)) 120) ∧ ((vp_in (x3 - (1 : Int32)) 120) ∧ (∀ τ1 : zSt, τ1 = zA σ 33 (upd (σ.2.2.1 33) ((x3 - (1 : Int32)).toNatClampNeg) ((σ.2.2.1 33 (x3 - (1 : Int32)).toNatClampNeg) + (1 : Int32))) → Q τ1))) ∧ (¬ (lg_cmp (σ.2.2.2 12 (x3 - (1 : Int32)).toNatClampNeg) x1) = 0 → b_X1_note_2_60 N Q x1 x3 σ)))
def b_X1_note_2_5 (N : Nat) (k_5 : Int64 → Int32 → zSt → Prop) (Q : zSt → Prop) (x1 : Int64) (x3 : Int32) (σ : zSt) : Prop :=
  (x3 ≤ 0 → b_X1_note_2_28 N Q x1 x3 σ) ∧ (¬ x3 ≤ 0 → (vp_in (x3 - (1 : Int32)) 120) ∧ (((lg_cmp (σ.2.2.2 12 (x3 - (1 : Int32)).toNatClampNeg) x1) ≤ 0 → b_X1_note_2_28 N Q x1 x3 σ) ∧ (¬ (lg_cmp (σ.2.2.2 12 (x3 - (1 : Int32)).toNatClampNeg) x1) ≤ 0 → ∀ v1 : Int32, v1 = x3 + (-1 : Int32) → k_5 x1 v1 σ)))
def w_X1_note_2_5 (N : Nat) (Q : zSt → Prop) : Nat → Int64 → Int32 → zSt → Prop
  | 0 => fun _ _ _ => False
  | f + 1 => b_X1_note_2_5 N (w_X1_note_2_5 N  Q f) Q
def w_X1_note_2 (N : Nat) (x1 : Int64) (σ : zSt) (Q : zSt → Prop) : Prop :=
  ∀ v1 : Int32, v1 = σ.1 35 → w_X1_note_2_5 N Q N x1 v1 σ
variable {p : Program} {l : Launch} {e : Env} {s : State} {m : MethodId} {args : Array Value} {below : List Frame} {meth : Method} {c : Code} {dC : Nat → ClassId} {dI : Nat → Nat → Nat} {ad : Nat → Nat} {cI cJ : ClassId}
set_option maxHeartbeats 4000000 in
set_option maxRecDepth 100000 in
theorem tb_X1_note_2_78 (C0 : zCx p s m meth c args RX1 cX1_note 5 none vs_X1_note) (hK : va_K (dC, dI) vwCl (x_ty cI cJ) s) (N : Nat) {Q : zSt → Prop} {k_78 : Int64 → Int32 → Int32 → zSt → Prop} (hk_78 : ∀ (x1 : Int64) (x3 : Int32) (x4 : Int32) (σ : zSt) (H : Heap) (locs : List Loc) (ls : Array Slot), k_78 x1 x3 x4 σ → va_P (dC, dI) vwCl (x_W ad cI cJ σ) H → va_D (zAW x_n ad s.heap.size) (x_W ad cI cJ σ) → va_S (zAW x_n ad s.heap.size) s.heap H locs → lv_has ls 5 [(0, .ref (ad 14)), (1, .long x1), (3, .int x3), (4, .int x4)] → W p l e rm_X1_note s m args below meth c H locs 0 0 (MQ below (zQv (dC, dI) (x_ty cI cJ) (x_W ad cI cJ) (zAW x_n ad s.heap.size) Q) args s 0 0 (zAW x_n ad s.heap.size)) (F0 m 78 ls [])) : ∀ (x1 : Int64) (x3 : Int32) (x4 : Int32) (σ : zSt) (H : Heap) (locs : List Loc) (ls : Array Slot), b_X1_note_2_78 N k_78 Q x1 x3 x4 σ → va_P (dC, dI) vwCl (x_W ad cI cJ σ) H → va_D (zAW x_n ad s.heap.size) (x_W ad cI cJ σ) → va_S (zAW x_n ad s.heap.size) s.heap H locs → lv_has ls 5 [(0, .ref (ad 14)), (1, .long x1), (3, .int x3), (4, .int x4)] → W p l e rm_X1_note s m args below meth c H locs 0 0 (MQ below (zQv (dC, dI) (x_ty cI cJ) (x_W ad cI cJ) (zAW x_n ad s.heap.size) Q) args s 0 0 (zAW x_n ad s.heap.size)) (F0 m 78 ls []) := by
  obtain ⟨hx, hb, hml, hr, hown, hts, hlocks⟩ := id C0
  intro x1 x3 x4 σ H locs ls h hP hD hS hl
  unfold b_X1_note_2_78 at h
  refine lv_iload hx hb dX1_note_78 (lv_at hl 3 rfl) ?_
  refine lv_iload_n hx hb dX1_note_80 rfl (lv_at hl 2 rfl) ?_
  refine lv_icmp_le (tgt := 122) hx hb dX1_note_81 (by decide) (fun hc => ?_) (fun hc => ?_)
  · have h := h.1 hc
    refine lv_aload_n hx hb dX1_note_122 rfl (lv_at hl 0 rfl) ?_
    refine xg_14_0 hx hb hts hown hK hP mw_262 dX1_note_123 ?_
    refine lv_iload_n hx hb dX1_note_126 rfl (lv_at hl 2 rfl) ?_
    refine lv_lload_n hx hb dX1_note_127 rfl (lv_at hl 1 rfl) ?_
    refine xs_60 hx hb hK hP hD hS h.1 rfl dX1_note_128 (fun τ1 H locs eτ1 hP hD hS => ?_)
    have h := h.2
    have h := h τ1 eτ1
    refine lv_aload_n hx hb dX1_note_129 rfl (lv_at hl 0 rfl) ?_
    refine xg_14_1 hx hb hts hown hK hP mw_264 dX1_note_130 ?_
    refine lv_iload_n hx hb dX1_note_133 rfl (lv_at hl 2 rfl) ?_
    refine lv_iconst (v := (1 : Int32)) hx hb dX1_note_134 (by decide) ?_
    refine xs_61 hx hb hK hP hD hS h.1 rfl dX1_note_135 (fun τ2 H locs eτ2 hP hD hS => ?_)
    have h := h.2
    have h := h τ2 eτ2
    refine lv_aload_n hx hb dX1_note_136 rfl (lv_at hl 0 rfl) ?_
    refine lv_dup hx hb dX1_note_137 rfl ?_
    refine xg_14_2 hx hb hts hown hK hP mw_266 dX1_note_138 ?_
    refine lv_iconst (v := (1 : Int32)) hx hb dX1_note_141 (by decide) ?_
    refine lv_iadd hx hb dX1_note_142 ?_
    refine xp_14_2 hx hb hts hown hK hP hD hS mw_266 dX1_note_143 (fun τ3 H locs eτ3 hP hD hS => ?_)
    have h := h τ3 eτ3
    exact zret_v hx hb hr hlocks hK hP hD hS h dX1_note_146
  · have h := h.2 hc
    refine lv_aload_n hx hb dX1_note_84 rfl (lv_at hl 0 rfl) ?_
    refine xg_14_0 hx hb hts hown hK hP mw_262 dX1_note_85 ?_
    refine lv_iload hx hb dX1_note_88 (lv_at hl 3 rfl) ?_
    refine lv_aload_n hx hb dX1_note_90 rfl (lv_at hl 0 rfl) ?_
    refine xg_14_0 hx hb hts hown hK hP mw_262 dX1_note_91 ?_
    refine lv_iload hx hb dX1_note_94 (lv_at hl 3 rfl) ?_
    refine lv_iconst (v := (1 : Int32)) hx hb dX1_note_96 (by decide) ?_
    refine lv_isub hx hb dX1_note_97 ?_
    refine xa_60 hx hb hK hP h.1 rfl dX1_note_98 ?_
    have h := h.2
    refine xs_60 hx hb hK hP hD hS h.1 rfl dX1_note_99 (fun τ4 H locs eτ4 hP hD hS => ?_)
    have h := h.2
    have h := h τ4 eτ4
    refine lv_aload_n hx hb dX1_note_100 rfl (lv_at hl 0 rfl) ?_
    refine xg_14_1 hx hb hts hown hK hP mw_264 dX1_note_101 ?_
    refine lv_iload hx hb dX1_note_104 (lv_at hl 3 rfl) ?_
    refine lv_aload_n hx hb dX1_note_106 rfl (lv_at hl 0 rfl) ?_
    refine xg_14_1 hx hb hts hown hK hP mw_264 dX1_note_107 ?_
    refine lv_iload hx hb dX1_note_110 (lv_at hl 3 rfl) ?_
    refine lv_iconst (v := (1 : Int32)) hx hb dX1_note_112 (by decide) ?_
    refine lv_isub hx hb dX1_note_113 ?_
    refine xa_61 hx hb hK hP h.1 rfl dX1_note_114 ?_
    have h := h.2
    refine xs_61 hx hb hK hP hD hS h.1 rfl dX1_note_115 (fun τ5 H locs eτ5 hP hD hS => ?_)
    have h := h.2
    have h := h τ5 eτ5
    obtain ⟨v6, ev6⟩ : ∃ z : Int32, z = x4 + (-1 : Int32) := ⟨_, rfl⟩
    have h := h v6 ev6
    refine lv_iinc (v := v6) (lv' := [(4, .int v6), (0, .ref (ad 14)), (1, .long x1), (3, .int x3)]) hx hb dX1_note_116 hl (k := 3) rfl (by rw [ev6]; rfl) (by decide) rfl (fun ls hl => ?_)
    refine lv_goto (tgt := 78) hx hb dX1_note_119 (by decide) ?_
    exact hk_78 x1 x3 v6 τ5 _ _ _ h hP hD hS (lv_sub hl [1, 2, 3, 0] rfl)
set_option maxHeartbeats 4000000 in
set_option maxRecDepth 100000 in
theorem t_X1_note_2_78 (C0 : zCx p s m meth c args RX1 cX1_note 5 none vs_X1_note) (hK : va_K (dC, dI) vwCl (x_ty cI cJ) s) (N : Nat) {Q : zSt → Prop} : ∀ (f : Nat) (x1 : Int64) (x3 : Int32) (x4 : Int32) (σ : zSt) (H : Heap) (locs : List Loc) (ls : Array Slot), w_X1_note_2_78 N  Q f x1 x3 x4 σ → va_P (dC, dI) vwCl (x_W ad cI cJ σ) H → va_D (zAW x_n ad s.heap.size) (x_W ad cI cJ σ) → va_S (zAW x_n ad s.heap.size) s.heap H locs → lv_has ls 5 [(0, .ref (ad 14)), (1, .long x1), (3, .int x3), (4, .int x4)] → W p l e rm_X1_note s m args below meth c H locs 0 0 (MQ below (zQv (dC, dI) (x_ty cI cJ) (x_W ad cI cJ) (zAW x_n ad s.heap.size) Q) args s 0 0 (zAW x_n ad s.heap.size)) (F0 m 78 ls []) := by
  intro f
  induction f with
  | zero => intro x1 x3 x4 σ H locs ls h; exact h.elim
  | succ f ih =>
    intro x1 x3 x4 σ H locs ls h hP hD hS hl
    exact tb_X1_note_2_78 C0 hK N  (k_78 := w_X1_note_2_78 N  Q f) ih x1 x3 x4 σ H locs ls h hP hD hS hl
set_option maxHeartbeats 4000000 in
set_option maxRecDepth 100000 in
theorem t_X1_note_2_60 (C0 : zCx p s m meth c args RX1 cX1_note 5 none vs_X1_note) (hK : va_K (dC, dI) vwCl (x_ty cI cJ) s) (N : Nat) {Q : zSt → Prop} : ∀ (x1 : Int64) (x3 : Int32) (σ : zSt) (H : Heap) (locs : List Loc) (ls : Array Slot), b_X1_note_2_60 N  Q x1 x3 σ → va_P (dC, dI) vwCl (x_W ad cI cJ σ) H → va_D (zAW x_n ad s.heap.size) (x_W ad cI cJ σ) → va_S (zAW x_n ad s.heap.size) s.heap H locs → lv_has ls 5 [(0, .ref (ad 14)), (1, .long x1), (3, .int x3)] → W p l e rm_X1_note s m args below meth c H locs 0 0 (MQ below (zQv (dC, dI) (x_ty cI cJ) (x_W ad cI cJ) (zAW x_n ad s.heap.size) Q) args s 0 0 (zAW x_n ad s.heap.size)) (F0 m 60 ls []) := by
  obtain ⟨hx, hb, hml, hr, hown, hts, hlocks⟩ := id C0
  intro x1 x3 σ H locs ls h hP hD hS hl
  unfold b_X1_note_2_60 at h
  refine lv_aload_n hx hb dX1_note_60 rfl (lv_at hl 0 rfl) ?_
  refine xg_14_2 hx hb hts hown hK hP mw_266 dX1_note_61 ?_
  refine lv_aload_n hx hb dX1_note_64 rfl (lv_at hl 0 rfl) ?_
  refine xg_14_0 hx hb hts hown hK hP mw_262 dX1_note_65 ?_
  refine xl_60 hx hb hK hP dX1_note_68 ?_
  refine lv_icmp_ge (tgt := 146) hx hb dX1_note_69 (by decide) (fun hc => ?_) (fun hc => ?_)
  · have h := h.1 hc
    exact zret_v hx hb hr hlocks hK hP hD hS h dX1_note_146
  · have h := h.2 hc
    refine lv_aload_n hx hb dX1_note_72 rfl (lv_at hl 0 rfl) ?_
    refine xg_14_2 hx hb hts hown hK hP mw_266 dX1_note_73 ?_
    refine lv_topi (fun v1 ev1 => ?_)
    have h := h v1 ev1
    refine lv_istore (lv' := [(4, .int v1), (0, .ref (ad 14)), (1, .long x1), (3, .int x3)]) hx hb dX1_note_76 hl (by decide) rfl (fun ls hl => ?_)
    exact t_X1_note_2_78 C0 hK N  N x1 x3 v1 σ _ _ _ h hP hD hS (lv_sub hl [1, 2, 3, 0] rfl)
set_option maxHeartbeats 4000000 in
set_option maxRecDepth 100000 in
theorem t_X1_note_2_28 (C0 : zCx p s m meth c args RX1 cX1_note 5 none vs_X1_note) (hK : va_K (dC, dI) vwCl (x_ty cI cJ) s) (N : Nat) {Q : zSt → Prop} : ∀ (x1 : Int64) (x3 : Int32) (σ : zSt) (H : Heap) (locs : List Loc) (ls : Array Slot), b_X1_note_2_28 N  Q x1 x3 σ → va_P (dC, dI) vwCl (x_W ad cI cJ σ) H → va_D (zAW x_n ad s.heap.size) (x_W ad cI cJ σ) → va_S (zAW x_n ad s.heap.size) s.heap H locs → lv_has ls 5 [(0, .ref (ad 14)), (1, .long x1), (3, .int x3)] → W p l e rm_X1_note s m args below meth c H locs 0 0 (MQ below (zQv (dC, dI) (x_ty cI cJ) (x_W ad cI cJ) (zAW x_n ad s.heap.size) Q) args s 0 0 (zAW x_n ad s.heap.size)) (F0 m 28 ls []) := by
  obtain ⟨hx, hb, hml, hr, hown, hts, hlocks⟩ := id C0
  intro x1 x3 σ H locs ls h hP hD hS hl
  unfold b_X1_note_2_28 at h
  refine lv_iload_n hx hb dX1_note_28 rfl (lv_at hl 2 rfl) ?_
  refine lv_if_le (tgt := 60) hx hb dX1_note_29 (by decide) (fun hc => ?_) (fun hc => ?_)
  · have h := h.1 hc
    exact t_X1_note_2_60 C0 hK N  x1 x3 σ _ _ _ h hP hD hS (lv_sub hl [0, 1, 2] rfl)
  · have h := h.2 hc
    refine lv_aload_n hx hb dX1_note_32 rfl (lv_at hl 0 rfl) ?_
    refine xg_14_0 hx hb hts hown hK hP mw_262 dX1_note_33 ?_
    refine lv_iload_n hx hb dX1_note_36 rfl (lv_at hl 2 rfl) ?_
    refine lv_iconst (v := (1 : Int32)) hx hb dX1_note_37 (by decide) ?_
    refine lv_isub hx hb dX1_note_38 ?_
    refine xa_60 hx hb hK hP h.1 rfl dX1_note_39 ?_
    have h := h.2
    refine lv_lload_n hx hb dX1_note_40 rfl (lv_at hl 1 rfl) ?_
    refine W.lcmp hx hb dX1_note_41 ?_
    refine lv_if_ne (tgt := 60) hx hb dX1_note_42 (by decide) (fun hc => ?_) (fun hc => ?_)
    · have h := h.2 hc
      exact t_X1_note_2_60 C0 hK N  x1 x3 σ _ _ _ h hP hD hS (lv_sub hl [0, 1, 2] rfl)
    · have h := h.1 hc
      refine lv_aload_n hx hb dX1_note_45 rfl (lv_at hl 0 rfl) ?_
      refine xg_14_1 hx hb hts hown hK hP mw_264 dX1_note_46 ?_
      refine lv_iload_n hx hb dX1_note_49 rfl (lv_at hl 2 rfl) ?_
      refine lv_iconst (v := (1 : Int32)) hx hb dX1_note_50 (by decide) ?_
      refine lv_isub hx hb dX1_note_51 ?_
      refine lv_dup2_11 hx hb dX1_note_52 rfl rfl ?_
      refine xa_61 hx hb hK hP h.1 rfl dX1_note_53 ?_
      have h := h.2
      refine lv_iconst (v := (1 : Int32)) hx hb dX1_note_54 (by decide) ?_
      refine lv_iadd hx hb dX1_note_55 ?_
      refine xs_61 hx hb hK hP hD hS h.1 rfl dX1_note_56 (fun τ1 H locs eτ1 hP hD hS => ?_)
      have h := h.2
      have h := h τ1 eτ1
      refine lv_goto (tgt := 146) hx hb dX1_note_57 (by decide) ?_
      exact zret_v hx hb hr hlocks hK hP hD hS h dX1_note_146
set_option maxHeartbeats 4000000 in
set_option maxRecDepth 100000 in
theorem tb_X1_note_2_5 (C0 : zCx p s m meth c args RX1 cX1_note 5 none vs_X1_note) (hK : va_K (dC, dI) vwCl (x_ty cI cJ) s) (N : Nat) {Q : zSt → Prop} {k_5 : Int64 → Int32 → zSt → Prop} (hk_5 : ∀ (x1 : Int64) (x3 : Int32) (σ : zSt) (H : Heap) (locs : List Loc) (ls : Array Slot), k_5 x1 x3 σ → va_P (dC, dI) vwCl (x_W ad cI cJ σ) H → va_D (zAW x_n ad s.heap.size) (x_W ad cI cJ σ) → va_S (zAW x_n ad s.heap.size) s.heap H locs → lv_has ls 5 [(0, .ref (ad 14)), (1, .long x1), (3, .int x3)] → W p l e rm_X1_note s m args below meth c H locs 0 0 (MQ below (zQv (dC, dI) (x_ty cI cJ) (x_W ad cI cJ) (zAW x_n ad s.heap.size) Q) args s 0 0 (zAW x_n ad s.heap.size)) (F0 m 5 ls [])) : ∀ (x1 : Int64) (x3 : Int32) (σ : zSt) (H : Heap) (locs : List Loc) (ls : Array Slot), b_X1_note_2_5 N k_5 Q x1 x3 σ → va_P (dC, dI) vwCl (x_W ad cI cJ σ) H → va_D (zAW x_n ad s.heap.size) (x_W ad cI cJ σ) → va_S (zAW x_n ad s.heap.size) s.heap H locs → lv_has ls 5 [(0, .ref (ad 14)), (1, .long x1), (3, .int x3)] → W p l e rm_X1_note s m args below meth c H locs 0 0 (MQ below (zQv (dC, dI) (x_ty cI cJ) (x_W ad cI cJ) (zAW x_n ad s.heap.size) Q) args s 0 0 (zAW x_n ad s.heap.size)) (F0 m 5 ls []) := by
  obtain ⟨hx, hb, hml, hr, hown, hts, hlocks⟩ := id C0
  intro x1 x3 σ H locs ls h hP hD hS hl
  unfold b_X1_note_2_5 at h
  refine lv_iload_n hx hb dX1_note_5 rfl (lv_at hl 2 rfl) ?_
  refine lv_if_le (tgt := 28) hx hb dX1_note_6 (by decide) (fun hc => ?_) (fun hc => ?_)
  · have h := h.1 hc
    exact t_X1_note_2_28 C0 hK N  x1 x3 σ _ _ _ h hP hD hS (lv_sub hl [0, 1, 2] rfl)
  · have h := h.2 hc
    refine lv_aload_n hx hb dX1_note_9 rfl (lv_at hl 0 rfl) ?_
    refine xg_14_0 hx hb hts hown hK hP mw_262 dX1_note_10 ?_
    refine lv_iload_n hx hb dX1_note_13 rfl (lv_at hl 2 rfl) ?_
    refine lv_iconst (v := (1 : Int32)) hx hb dX1_note_14 (by decide) ?_
    refine lv_isub hx hb dX1_note_15 ?_
    refine xa_60 hx hb hK hP h.1 rfl dX1_note_16 ?_
    have h := h.2
    refine lv_lload_n hx hb dX1_note_17 rfl (lv_at hl 1 rfl) ?_
    refine W.lcmp hx hb dX1_note_18 ?_
    refine lv_if_le (tgt := 28) hx hb dX1_note_19 (by decide) (fun hc => ?_) (fun hc => ?_)
    · have h := h.1 hc
      exact t_X1_note_2_28 C0 hK N  x1 x3 σ _ _ _ h hP hD hS (lv_sub hl [0, 1, 2] rfl)
    · have h := h.2 hc
      obtain ⟨v1, ev1⟩ : ∃ z : Int32, z = x3 + (-1 : Int32) := ⟨_, rfl⟩
      have h := h v1 ev1
      refine lv_iinc (v := v1) (lv' := [(3, .int v1), (0, .ref (ad 14)), (1, .long x1)]) hx hb dX1_note_22 hl (k := 2) rfl (by rw [ev1]; rfl) (by decide) rfl (fun ls hl => ?_)
      refine lv_goto (tgt := 5) hx hb dX1_note_25 (by decide) ?_
      exact hk_5 x1 v1 σ _ _ _ h hP hD hS (lv_sub hl [1, 2, 0] rfl)
set_option maxHeartbeats 4000000 in
set_option maxRecDepth 100000 in
theorem t_X1_note_2_5 (C0 : zCx p s m meth c args RX1 cX1_note 5 none vs_X1_note) (hK : va_K (dC, dI) vwCl (x_ty cI cJ) s) (N : Nat) {Q : zSt → Prop} : ∀ (f : Nat) (x1 : Int64) (x3 : Int32) (σ : zSt) (H : Heap) (locs : List Loc) (ls : Array Slot), w_X1_note_2_5 N  Q f x1 x3 σ → va_P (dC, dI) vwCl (x_W ad cI cJ σ) H → va_D (zAW x_n ad s.heap.size) (x_W ad cI cJ σ) → va_S (zAW x_n ad s.heap.size) s.heap H locs → lv_has ls 5 [(0, .ref (ad 14)), (1, .long x1), (3, .int x3)] → W p l e rm_X1_note s m args below meth c H locs 0 0 (MQ below (zQv (dC, dI) (x_ty cI cJ) (x_W ad cI cJ) (zAW x_n ad s.heap.size) Q) args s 0 0 (zAW x_n ad s.heap.size)) (F0 m 5 ls []) := by
  intro f
  induction f with
  | zero => intro x1 x3 σ H locs ls h; exact h.elim
  | succ f ih =>
    intro x1 x3 σ H locs ls h hP hD hS hl
    exact tb_X1_note_2_5 C0 hK N  (k_5 := w_X1_note_2_5 N  Q f) ih x1 x3 σ H locs ls h hP hD hS hl
set_option maxHeartbeats 4000000 in
set_option maxRecDepth 100000 in
theorem t_X1_note_2_0 (C0 : zCx p s m meth c args RX1 cX1_note 5 none vs_X1_note) (hK : va_K (dC, dI) vwCl (x_ty cI cJ) s) (N : Nat) {Q : zSt → Prop} : ∀ (x1 : Int64) (σ : zSt) (H : Heap) (locs : List Loc) (ls : Array Slot), w_X1_note_2 N x1 σ Q → va_P (dC, dI) vwCl (x_W ad cI cJ σ) H → va_D (zAW x_n ad s.heap.size) (x_W ad cI cJ σ) → va_S (zAW x_n ad s.heap.size) s.heap H locs → lv_has ls 5 [(0, .ref (ad 14)), (1, .long x1)] → W p l e rm_X1_note s m args below meth c H locs 0 0 (MQ below (zQv (dC, dI) (x_ty cI cJ) (x_W ad cI cJ) (zAW x_n ad s.heap.size) Q) args s 0 0 (zAW x_n ad s.heap.size)) (F0 m 0 ls []) := by
  obtain ⟨hx, hb, hml, hr, hown, hts, hlocks⟩ := id C0
  intro x1 σ H locs ls h hP hD hS hl
  unfold w_X1_note_2 at h
  refine lv_aload_n hx hb dX1_note_0 rfl (lv_at hl 0 rfl) ?_
  refine xg_14_2 hx hb hts hown hK hP mw_266 dX1_note_1 ?_
  refine lv_topi (fun v1 ev1 => ?_)
  have h := h v1 ev1
  refine lv_istore_n (lv' := [(3, .int v1), (0, .ref (ad 14)), (1, .long x1)]) hx hb dX1_note_4 rfl hl (by decide) rfl (fun ls hl => ?_)
  exact t_X1_note_2_5 C0 hK N  N x1 v1 σ _ _ _ h hP hD hS (lv_sub hl [1, 2, 0] rfl)
set_option maxHeartbeats 4000000 in
set_option maxRecDepth 100000 in
theorem c_X1_note_2 (N : Nat) (l : Launch) (dC : Nat → ClassId) (dI : Nat → Nat → Nat) (ad : Nat → Nat) (cI cJ : ClassId) (sz : Nat) (σ : zSt) (x1 : Int64) (Q : zSt → Prop) (h : w_X1_note_2 N x1 σ Q) : Met l yX1_note vs_X1_note rm_X1_note (va_Pc [.ref (ad 14), .long x1] (zPc (dC, dI) (x_ty cI cJ) (x_W ad cI cJ) sz σ)) (zQv (dC, dI) (x_ty cI cJ) (x_W ad cI cJ) (zAW x_n ad sz) Q) 0 0 (zAW x_n ad sz) := by
  refine Met.ofW (cc := cX1_note) (maxL := 5) (ret := none) (by decide) rfl ?_
  intro p e s m args below meth c s₁ B hml hv
  obtain ⟨rfl, hsz, hP, hK, hD0⟩ := hv
  subst hsz
  have C0 : zCx p s m meth c _ RX1 cX1_note 5 none vs_X1_note := ⟨B.exec, B.bytes, hml, B.returns, findClass_of_methodNamed B.named, atoms_spec (ws := vs_X1_note) B.pre, B.notSynchronized⟩
  have hD := x_D0 (n0 := s.heap.size) hD0
  have hl := lv_entry ([.ref (ad 14), .long x1]) (n := 5) (Nat.le_of_ble_eq_true rfl)
  rw [lg_entry_eq]
  generalize (lg_sl ([.ref (ad 14), .long x1]) ++ List.replicate (5 - (lg_sl ([.ref (ad 14), .long x1])).length) Slot.unset).toArray = ls at hl ⊢
  exact t_X1_note_2_0 C0 hK N x1 σ _ _ ls h hP hD va_S.rf hl
theorem k_X1_note_2 (N : Nat) {R : Room} {H : Heap} {locs : List Loc} {cells slots : Nat} {Q2 : State → Prop} {cc : ByteArray} {nL pc index : Nat} {ls : Array Slot} {rest : List Value} {own : String} {c0 : Cond} {σ : zSt} {x1 : Int64} {Q : zSt → Prop} (S0 : CallFix p m c cc nL s args (c0 :: zT) own) (hml : Cond.methodLink own index yX1_note ∈ zT) (hR : rm_X1_note.frames + 1 ≤ R.frames ∧ 8 + (5 + 11) + rm_X1_note.locals ≤ R.locals) (h : w_X1_note_2 N x1 σ Q) (hK : va_K (dC, dI) vwCl (x_ty cI cJ) s) (hP : va_P (dC, dI) vwCl (x_W ad cI cJ σ) H) (hD : va_D (zAW x_n ad s.heap.size) (x_W ad cI cJ σ)) (hS : va_S (zAW x_n ad s.heap.size) s.heap H locs) (hsz : ls.size = nL) (hW : (rest.map fun v => v.category).sum ≤ 8) (hcs : cells ≤ R.cells ∧ slots ≤ R.slots) (hdg : decode cc pc = .ok (.invokevirtual index, 3)) (kk : ∀ (τ : zSt) (H1 : Heap) (locs1 : List Loc), Q τ → va_P (dC, dI) vwCl (x_W ad cI cJ τ) H1 → va_D (zAW x_n ad s.heap.size) (x_W ad cI cJ τ) → va_S (zAW x_n ad s.heap.size) s.heap H1 locs1 → W p l e R s m args below meth c H1 locs1 cells slots Q2 (F0 m (pc + 3) ls (rest))) : W p l e R s m args below meth c H locs cells slots Q2 (F0 m pc ls (.long x1 :: .ref (ad 14) :: rest)) :=
  zcv_v (T := TX1) (N' := 3) (k := 14) (ci := 1) (fs := x_f14 ad σ) [.long x1] S0 (c_X1_note_2 N l dC dI ad cI cJ H.size σ x1 Q h) (cw_X1_note S0.2.2.2.2 hml rfl rfl hR) rfl rfl hK hP hD hS rfl hsz hW rfl hcs hdg kk
end q11
