section q05
end q05
section q05
def vs_X10_spread : List Cond := .code yX10_spread cX10_spread 8 none :: zT
def rm_X10_spread : Room := { frames := 0, cells := 0, slots := 0, locals := 0 }
theorem cw_X10_spread {rm R : Room} {s : State} {args : Array Value} {own : String} {index : Nat} {c0 : Cond} (hts : ∀ w ∈ c0 :: zT, w.before args s = true) (hml : Cond.methodLink own index yX10_spread ∈ zT) (hrc : rm.cells = 0) (hrs : rm.slots = 0) (hR : rm.frames + 1 ≤ R.frames ∧ 8 + (8 + 11) + rm.locals ≤ R.locals) : CallW R s args own RX10 index yX10_spread cX10_spread 8 none vs_X10_spread rm 0 0 1 :=
  zwV 1 hts hml mw_554 mw_555 mw_12 mw_556 hrc hrs (by decide +kernel) hR
def b_X10_spread_118 (N : Nat) (k_47 : Int32 → Int32 → Int32 → Int32 → zSt → Prop) (k_118 : Int32 → Int32 → Int32 → Int32 → Int32 → zSt → Prop) (Q : zSt → Prop) (x2 : Int32) (x3 : Int32) (x4 : Int32) (x5 : Int32) (x7 : Int32) (σ : zSt) : Prop :=
  (x2 ≤ x7 → ∀ v1 : Int32, v1 = x5 + (1 : Int32) → k_47 x2 x3 x4 v1 σ) ∧ (¬ x2 ≤ x7 → (((x4 >>> (x7 &&& 31)) &&& (1 : Int32)) = 0 → (vp_in x7 10) ∧ ((vp_in x7 10) ∧ (∀ τ2 : zSt, τ2 = zA σ 29 (upd (σ.2.2.1 29) (x7.toNatClampNeg) (σ.2.2.1 29 x7.toNatClampNeg)) → ∀ v3 : Int32, v3 = x7 + (1 : Int32) → k_118 x2 x3 x4 x5 v3 τ2))) ∧ (¬ ((x4 >>> (x7 &&& 31)) &&& (1 : Int32)) = 0 → (vp_in x7 10) ∧ (∀ τ4 : zSt, τ4 = zA σ 29 (upd (σ.2.2.1 29) (x7.toNatClampNeg) x5) → ∀ v5 : Int32, v5 = x7 + (1 : Int32) → k_118 x2 x3 x4 x5 v5 τ4)))
def w_X10_spread_118 (N : Nat) (k_47 : Int32 → Int32 → Int32 → Int32 → zSt → Prop) (Q : zSt → Prop) : Nat → Int32 → Int32 → Int32 → Int32 → Int32 → zSt → Prop
  | 0 => fun _ _ _ _ _ _ => False
  | f + 1 => b_X10_spread_118 N k_47 (w_X10_spread_118 N k_47 Q f) Q
def b_X10_spread_64 (N : Nat) (k_47 : Int32 → Int32 → Int32 → Int32 → zSt → Prop) (k_64 : Int32 → Int32 → Int32 → Int32 → Int32 → Int32 → zSt → Prop) (Q : zSt → Prop) (x2 : Int32) (x3 : Int32) (x4 : Int32) (x5 : Int32) (x6 : Int32) (x7 : Int32) (σ : zSt) : Prop :=
  (x2 ≤ x7 → ∀ v1 : Int32, v1 = x6 &&& (x3 ^^^ (-1 : Int32)) → ∀ v2 : Int32, v2 = x3 ||| v1 → w_X10_spread_118 N k_47 Q N x2 v2 v1 x5 (0 : Int32) σ) ∧ (¬ x2 ≤ x7 → (((x4 >>> (x7 &&& 31)) &&& (1 : Int32)) = 0 → ∀ v3 : Int32, v3 = x6 ||| (0 : Int32) → ∀ v4 : Int32, v4 = x7 + (1 : Int32) → k_64 x2 x3 x4 x5 v3 v4 σ) ∧ (¬ ((x4 >>> (x7 &&& 31)) &&& (1 : Int32)) = 0 → (vp_in x7 10) ∧ (∀ v5 : Int32, v5 = x6 ||| (σ.2.2.1 28 x7.toNatClampNeg) → ∀ v6 : Int32, v6 = x7 + (1 : Int32) → k_64 x2 x3 x4 x5 v5 v6 σ)))
def w_X10_spread_64 (N : Nat) (k_47 : Int32 → Int32 → Int32 → Int32 → zSt → Prop) (Q : zSt → Prop) : Nat → Int32 → Int32 → Int32 → Int32 → Int32 → Int32 → zSt → Prop
  | 0 => fun _ _ _ _ _ _ _ => False
  | f + 1 => b_X10_spread_64 N k_47 (w_X10_spread_64 N k_47 Q f) Q
def b_X10_spread_47 (N : Nat) (k_47 : Int32 → Int32 → Int32 → Int32 → zSt → Prop) (Q : zSt → Prop) (x2 : Int32) (x3 : Int32) (x4 : Int32) (x5 : Int32) (σ : zSt) : Prop :=
  (x2 ≤ x5 → Q σ) ∧ (¬ x2 ≤ x5 → (x4 = 0 → Q σ) ∧ (¬ x4 = 0 → w_X10_spread_64 N k_47 Q N x2 x3 x4 x5 (0 : Int32) (0 : Int32) σ))
def w_X10_spread_47 (N : Nat) (Q : zSt → Prop) : Nat → Int32 → Int32 → Int32 → Int32 → zSt → Prop
  | 0 => fun _ _ _ _ _ => False
  | f + 1 => b_X10_spread_47 N (w_X10_spread_47 N  Q f) Q
def b_X10_spread_10 (N : Nat) (k_10 : Int32 → Int32 → Int32 → zSt → Prop) (Q : zSt → Prop) (x1 : Int32) (x2 : Int32) (x3 : Int32) (σ : zSt) : Prop :=
  (x2 ≤ x3 → ∀ v1 : Int32, v1 = (1 : Int32) <<< (x1 &&& 31) → w_X10_spread_47 N Q N x2 v1 v1 (1 : Int32) σ) ∧ (¬ x2 ≤ x3 → (x3 = x1 → (vp_in x3 10) ∧ (∀ τ4 : zSt, τ4 = zA σ 29 (upd (σ.2.2.1 29) (x3.toNatClampNeg) (0 : Int32)) → ∀ v5 : Int32, v5 = x3 + (1 : Int32) → k_10 x1 x2 v5 τ4)) ∧ (¬ x3 = x1 → (vp_in x3 10) ∧ (∀ τ2 : zSt, τ2 = zA σ 29 (upd (σ.2.2.1 29) (x3.toNatClampNeg) (-1 : Int32)) → ∀ v3 : Int32, v3 = x3 + (1 : Int32) → k_10 x1 x2 v3 τ2)))
def w_X10_spread_10 (N : Nat) (Q : zSt → Prop) : Nat → Int32 → Int32 → Int32 → zSt → Prop
  | 0 => fun _ _ _ _ => False
  | f + 1 => b_X10_spread_10 N (w_X10_spread_10 N  Q f) Q
def w_X10_spread (N : Nat) (x1 : Int32) (σ : zSt) (Q : zSt → Prop) : Prop :=
  ∀ v1 : Int32, v1 = σ.1 1 → w_X10_spread_10 N Q N x1 v1 (0 : Int32) σ
variable {p : Program} {l : Launch} {e : Env} {s : State} {m : MethodId} {args : Array Value} {below : List Frame} {meth : Method} {c : Code} {dC : Nat → ClassId} {dI : Nat → Nat → Nat} {ad : Nat → Nat} {cI cJ : ClassId}
set_option maxHeartbeats 4000000 in
set_option maxRecDepth 100000 in
theorem tb_X10_spread_118 (C0 : zCx p s m meth c args RX10 cX10_spread 8 none vs_X10_spread) (hK : va_K (dC, dI) vwCl (x_ty cI cJ) s) (N : Nat) {Q : zSt → Prop} {k_47 : Int32 → Int32 → Int32 → Int32 → zSt → Prop} (hk_47 : ∀ (x2 : Int32) (x3 : Int32) (x4 : Int32) (x5 : Int32) (σ : zSt) (H : Heap) (locs : List Loc) (ls : Array Slot), k_47 x2 x3 x4 x5 σ → va_P (dC, dI) vwCl (x_W ad cI cJ σ) H → va_D (zAW x_n ad s.heap.size) (x_W ad cI cJ σ) → va_S (zAW x_n ad s.heap.size) s.heap H locs → lv_has ls 8 [(0, .ref (ad 9)), (2, .int x2), (3, .int x3), (4, .int x4), (5, .int x5)] → W p l e rm_X10_spread s m args below meth c H locs 0 0 (MQ below (zQv (dC, dI) (x_ty cI cJ) (x_W ad cI cJ) (zAW x_n ad s.heap.size) Q) args s 0 0 (zAW x_n ad s.heap.size)) (F0 m 47 ls [])) {k_118 : Int32 → Int32 → Int32 → Int32 → Int32 → zSt → Prop} (hk_118 : ∀ (x2 : Int32) (x3 : Int32) (x4 : Int32) (x5 : Int32) (x7 : Int32) (σ : zSt) (H : Heap) (locs : List Loc) (ls : Array Slot), k_118 x2 x3 x4 x5 x7 σ → va_P (dC, dI) vwCl (x_W ad cI cJ σ) H → va_D (zAW x_n ad s.heap.size) (x_W ad cI cJ σ) → va_S (zAW x_n ad s.heap.size) s.heap H locs → lv_has ls 8 [(0, .ref (ad 9)), (2, .int x2), (3, .int x3), (4, .int x4), (5, .int x5), (7, .int x7)] → W p l e rm_X10_spread s m args below meth c H locs 0 0 (MQ below (zQv (dC, dI) (x_ty cI cJ) (x_W ad cI cJ) (zAW x_n ad s.heap.size) Q) args s 0 0 (zAW x_n ad s.heap.size)) (F0 m 118 ls [])) : ∀ (x2 : Int32) (x3 : Int32) (x4 : Int32) (x5 : Int32) (x7 : Int32) (σ : zSt) (H : Heap) (locs : List Loc) (ls : Array Slot), b_X10_spread_118 N k_47 k_118 Q x2 x3 x4 x5 x7 σ → va_P (dC, dI) vwCl (x_W ad cI cJ σ) H → va_D (zAW x_n ad s.heap.size) (x_W ad cI cJ σ) → va_S (zAW x_n ad s.heap.size) s.heap H locs → lv_has ls 8 [(0, .ref (ad 9)), (2, .int x2), (3, .int x3), (4, .int x4), (5, .int x5), (7, .int x7)] → W p l e rm_X10_spread s m args below meth c H locs 0 0 (MQ below (zQv (dC, dI) (x_ty cI cJ) (x_W ad cI cJ) (zAW x_n ad s.heap.size) Q) args s 0 0 (zAW x_n ad s.heap.size)) (F0 m 118 ls []) := by
  obtain ⟨hx, hb, hml, hr, hown, hts, hlocks⟩ := id C0
  intro x2 x3 x4 x5 x7 σ H locs ls h hP hD hS hl
  unfold b_X10_spread_118 at h
  refine lv_iload hx hb dX10_spread_118 (lv_at hl 5 rfl) ?_
  refine lv_iload_n hx hb dX10_spread_120 rfl (lv_at hl 1 rfl) ?_
  refine lv_icmp_ge (tgt := 159) hx hb dX10_spread_121 (by decide) (fun hc => ?_) (fun hc => ?_)
  · have h := h.1 hc
    obtain ⟨v1, ev1⟩ : ∃ z : Int32, z = x5 + (1 : Int32) := ⟨_, rfl⟩
    have h := h v1 ev1
    refine lv_iinc (v := v1) (lv' := [(5, .int v1), (0, .ref (ad 9)), (2, .int x2), (3, .int x3), (4, .int x4), (7, .int x7)]) hx hb dX10_spread_159 hl (k := 4) rfl (by rw [ev1]; rfl) (by decide) rfl (fun ls hl => ?_)
    refine lv_goto (tgt := 47) hx hb dX10_spread_162 (by decide) ?_
    exact hk_47 x2 x3 x4 v1 σ _ _ _ h hP hD hS (lv_sub hl [1, 2, 3, 4, 0] rfl)
  · have h := h.2 hc
    refine lv_aload_n hx hb dX10_spread_124 rfl (lv_at hl 0 rfl) ?_
    refine xg_9_5 hx hb hts hown hK hP mw_204 dX10_spread_125 ?_
    refine lv_iload hx hb dX10_spread_128 (lv_at hl 5 rfl) ?_
    refine lv_iload hx hb dX10_spread_130 (lv_at hl 3 rfl) ?_
    refine lv_iload hx hb dX10_spread_132 (lv_at hl 5 rfl) ?_
    refine lv_ishr hx hb dX10_spread_134 ?_
    refine lv_iconst (v := (1 : Int32)) hx hb dX10_spread_135 (by decide) ?_
    refine lv_iand hx hb dX10_spread_136 ?_
    refine lv_if_eq (tgt := 145) hx hb dX10_spread_137 (by decide) (fun hc => ?_) (fun hc => ?_)
    · have h := h.1 hc
      refine lv_aload_n hx hb dX10_spread_145 rfl (lv_at hl 0 rfl) ?_
      refine xg_9_5 hx hb hts hown hK hP mw_204 dX10_spread_146 ?_
      refine lv_iload hx hb dX10_spread_149 (lv_at hl 5 rfl) ?_
      refine xa_51 hx hb hK hP h.1 rfl dX10_spread_151 ?_
      have h := h.2
      refine xs_51 hx hb hK hP hD hS h.1 rfl dX10_spread_152 (fun τ2 H locs eτ2 hP hD hS => ?_)
      have h := h.2
      have h := h τ2 eτ2
      obtain ⟨v3, ev3⟩ : ∃ z : Int32, z = x7 + (1 : Int32) := ⟨_, rfl⟩
      have h := h v3 ev3
      refine lv_iinc (v := v3) (lv' := [(7, .int v3), (0, .ref (ad 9)), (2, .int x2), (3, .int x3), (4, .int x4), (5, .int x5)]) hx hb dX10_spread_153 hl (k := 5) rfl (by rw [ev3]; rfl) (by decide) rfl (fun ls hl => ?_)
      refine lv_goto (tgt := 118) hx hb dX10_spread_156 (by decide) ?_
      exact hk_118 x2 x3 x4 x5 v3 τ2 _ _ _ h hP hD hS (lv_sub hl [1, 2, 3, 4, 5, 0] rfl)
    · have h := h.2 hc
      refine lv_iload hx hb dX10_spread_140 (lv_at hl 4 rfl) ?_
      refine lv_goto (tgt := 152) hx hb dX10_spread_142 (by decide) ?_
      refine xs_51 hx hb hK hP hD hS h.1 rfl dX10_spread_152 (fun τ4 H locs eτ4 hP hD hS => ?_)
      have h := h.2
      have h := h τ4 eτ4
      obtain ⟨v5, ev5⟩ : ∃ z : Int32, z = x7 + (1 : Int32) := ⟨_, rfl⟩
      have h := h v5 ev5
      refine lv_iinc (v := v5) (lv' := [(7, .int v5), (0, .ref (ad 9)), (2, .int x2), (3, .int x3), (4, .int x4), (5, .int x5)]) hx hb dX10_spread_153 hl (k := 5) rfl (by rw [ev5]; rfl) (by decide) rfl (fun ls hl => ?_)
      refine lv_goto (tgt := 118) hx hb dX10_spread_156 (by decide) ?_
      exact hk_118 x2 x3 x4 x5 v5 τ4 _ _ _ h hP hD hS (lv_sub hl [1, 2, 3, 4, 5, 0] rfl)
set_option maxHeartbeats 4000000 in
set_option maxRecDepth 100000 in
theorem t_X10_spread_118 (C0 : zCx p s m meth c args RX10 cX10_spread 8 none vs_X10_spread) (hK : va_K (dC, dI) vwCl (x_ty cI cJ) s) (N : Nat) {Q : zSt → Prop} {k_47 : Int32 → Int32 → Int32 → Int32 → zSt → Prop} (hk_47 : ∀ (x2 : Int32) (x3 : Int32) (x4 : Int32) (x5 : Int32) (σ : zSt) (H : Heap) (locs : List Loc) (ls : Array Slot), k_47 x2 x3 x4 x5 σ → va_P (dC, dI) vwCl (x_W ad cI cJ σ) H → va_D (zAW x_n ad s.heap.size) (x_W ad cI cJ σ) → va_S (zAW x_n ad s.heap.size) s.heap H locs → lv_has ls 8 [(0, .ref (ad 9)), (2, .int x2), (3, .int x3), (4, .int x4), (5, .int x5)] → W p l e rm_X10_spread s m args below meth c H locs 0 0 (MQ below (zQv (dC, dI) (x_ty cI cJ) (x_W ad cI cJ) (zAW x_n ad s.heap.size) Q) args s 0 0 (zAW x_n ad s.heap.size)) (F0 m 47 ls [])) : ∀ (f : Nat) (x2 : Int32) (x3 : Int32) (x4 : Int32) (x5 : Int32) (x7 : Int32) (σ : zSt) (H : Heap) (locs : List Loc) (ls : Array Slot), w_X10_spread_118 N k_47 Q f x2 x3 x4 x5 x7 σ → va_P (dC, dI) vwCl (x_W ad cI cJ σ) H → va_D (zAW x_n ad s.heap.size) (x_W ad cI cJ σ) → va_S (zAW x_n ad s.heap.size) s.heap H locs → lv_has ls 8 [(0, .ref (ad 9)), (2, .int x2), (3, .int x3), (4, .int x4), (5, .int x5), (7, .int x7)] → W p l e rm_X10_spread s m args below meth c H locs 0 0 (MQ below (zQv (dC, dI) (x_ty cI cJ) (x_W ad cI cJ) (zAW x_n ad s.heap.size) Q) args s 0 0 (zAW x_n ad s.heap.size)) (F0 m 118 ls []) := by
  intro f
  induction f with
  | zero => intro x2 x3 x4 x5 x7 σ H locs ls h; exact h.elim
  | succ f ih =>
    intro x2 x3 x4 x5 x7 σ H locs ls h hP hD hS hl
    exact tb_X10_spread_118 C0 hK N hk_47 (k_118 := w_X10_spread_118 N k_47 Q f) ih x2 x3 x4 x5 x7 σ H locs ls h hP hD hS hl
set_option maxHeartbeats 4000000 in
set_option maxRecDepth 100000 in
theorem tb_X10_spread_64 (C0 : zCx p s m meth c args RX10 cX10_spread 8 none vs_X10_spread) (hK : va_K (dC, dI) vwCl (x_ty cI cJ) s) (N : Nat) {Q : zSt → Prop} {k_47 : Int32 → Int32 → Int32 → Int32 → zSt → Prop} (hk_47 : ∀ (x2 : Int32) (x3 : Int32) (x4 : Int32) (x5 : Int32) (σ : zSt) (H : Heap) (locs : List Loc) (ls : Array Slot), k_47 x2 x3 x4 x5 σ → va_P (dC, dI) vwCl (x_W ad cI cJ σ) H → va_D (zAW x_n ad s.heap.size) (x_W ad cI cJ σ) → va_S (zAW x_n ad s.heap.size) s.heap H locs → lv_has ls 8 [(0, .ref (ad 9)), (2, .int x2), (3, .int x3), (4, .int x4), (5, .int x5)] → W p l e rm_X10_spread s m args below meth c H locs 0 0 (MQ below (zQv (dC, dI) (x_ty cI cJ) (x_W ad cI cJ) (zAW x_n ad s.heap.size) Q) args s 0 0 (zAW x_n ad s.heap.size)) (F0 m 47 ls [])) {k_64 : Int32 → Int32 → Int32 → Int32 → Int32 → Int32 → zSt → Prop} (hk_64 : ∀ (x2 : Int32) (x3 : Int32) (x4 : Int32) (x5 : Int32) (x6 : Int32) (x7 : Int32) (σ : zSt) (H : Heap) (locs : List Loc) (ls : Array Slot), k_64 x2 x3 x4 x5 x6 x7 σ → va_P (dC, dI) vwCl (x_W ad cI cJ σ) H → va_D (zAW x_n ad s.heap.size) (x_W ad cI cJ σ) → va_S (zAW x_n ad s.heap.size) s.heap H locs → lv_has ls 8 [(0, .ref (ad 9)), (2, .int x2), (3, .int x3), (4, .int x4), (5, .int x5), (6, .int x6), (7, .int x7)] → W p l e rm_X10_spread s m args below meth c H locs 0 0 (MQ below (zQv (dC, dI) (x_ty cI cJ) (x_W ad cI cJ) (zAW x_n ad s.heap.size) Q) args s 0 0 (zAW x_n ad s.heap.size)) (F0 m 64 ls [])) : ∀ (x2 : Int32) (x3 : Int32) (x4 : Int32) (x5 : Int32) (x6 : Int32) (x7 : Int32) (σ : zSt) (H : Heap) (locs : List Loc) (ls : Array Slot), b_X10_spread_64 N k_47 k_64 Q x2 x3 x4 x5 x6 x7 σ → va_P (dC, dI) vwCl (x_W ad cI cJ σ) H → va_D (zAW x_n ad s.heap.size) (x_W ad cI cJ σ) → va_S (zAW x_n ad s.heap.size) s.heap H locs → lv_has ls 8 [(0, .ref (ad 9)), (2, .int x2), (3, .int x3), (4, .int x4), (5, .int x5), (6, .int x6), (7, .int x7)] → W p l e rm_X10_spread s m args below meth c H locs 0 0 (MQ below (zQv (dC, dI) (x_ty cI cJ) (x_W ad cI cJ) (zAW x_n ad s.heap.size) Q) args s 0 0 (zAW x_n ad s.heap.size)) (F0 m 64 ls []) := by
  obtain ⟨hx, hb, hml, hr, hown, hts, hlocks⟩ := id C0
  intro x2 x3 x4 x5 x6 x7 σ H locs ls h hP hD hS hl
  unfold b_X10_spread_64 at h
  refine lv_iload hx hb dX10_spread_64 (lv_at hl 6 rfl) ?_
  refine lv_iload_n hx hb dX10_spread_66 rfl (lv_at hl 1 rfl) ?_
  refine lv_icmp_ge (tgt := 102) hx hb dX10_spread_67 (by decide) (fun hc => ?_) (fun hc => ?_)
  · have h := h.1 hc
    refine lv_iload hx hb dX10_spread_102 (lv_at hl 5 rfl) ?_
    refine lv_iload_n hx hb dX10_spread_104 rfl (lv_at hl 2 rfl) ?_
    refine lv_iconst (v := (-1 : Int32)) hx hb dX10_spread_105 (by decide) ?_
    refine lv_ixor hx hb dX10_spread_106 ?_
    refine lv_iand hx hb dX10_spread_107 ?_
    refine lv_topi (fun v1 ev1 => ?_)
    have h := h v1 ev1
    refine lv_istore (lv' := [(4, .int v1), (0, .ref (ad 9)), (2, .int x2), (3, .int x3), (5, .int x5), (6, .int x6), (7, .int x7)]) hx hb dX10_spread_108 hl (by decide) rfl (fun ls hl => ?_)
    refine lv_iload_n hx hb dX10_spread_110 rfl (lv_at hl 3 rfl) ?_
    refine lv_iload hx hb dX10_spread_111 (lv_at hl 0 rfl) ?_
    refine lv_ior hx hb dX10_spread_113 ?_
    refine lv_topi (fun v2 ev2 => ?_)
    have h := h v2 ev2
    refine lv_istore_n (lv' := [(3, .int v2), (4, .int v1), (0, .ref (ad 9)), (2, .int x2), (5, .int x5), (6, .int x6), (7, .int x7)]) hx hb dX10_spread_114 rfl hl (by decide) rfl (fun ls hl => ?_)
    refine lv_iconst (v := (0 : Int32)) hx hb dX10_spread_115 (by decide) ?_
    refine lv_istore (lv' := [(7, .int (0 : Int32)), (3, .int v2), (4, .int v1), (0, .ref (ad 9)), (2, .int x2), (5, .int x5), (6, .int x6)]) hx hb dX10_spread_116 hl (by decide) rfl (fun ls hl => ?_)
    exact t_X10_spread_118 C0 hK N hk_47 N x2 v2 v1 x5 (0 : Int32) σ _ _ _ h hP hD hS (lv_sub hl [3, 4, 1, 2, 5, 0] rfl)
  · have h := h.2 hc
    refine lv_iload hx hb dX10_spread_70 (lv_at hl 5 rfl) ?_
    refine lv_iload hx hb dX10_spread_72 (lv_at hl 3 rfl) ?_
    refine lv_iload hx hb dX10_spread_74 (lv_at hl 6 rfl) ?_
    refine lv_ishr hx hb dX10_spread_76 ?_
    refine lv_iconst (v := (1 : Int32)) hx hb dX10_spread_77 (by decide) ?_
    refine lv_iand hx hb dX10_spread_78 ?_
    refine lv_if_eq (tgt := 92) hx hb dX10_spread_79 (by decide) (fun hc => ?_) (fun hc => ?_)
    · have h := h.1 hc
      refine lv_iconst (v := (0 : Int32)) hx hb dX10_spread_92 (by decide) ?_
      refine lv_ior hx hb dX10_spread_93 ?_
      refine lv_topi (fun v3 ev3 => ?_)
      have h := h v3 ev3
      refine lv_istore (lv' := [(6, .int v3), (0, .ref (ad 9)), (2, .int x2), (3, .int x3), (4, .int x4), (5, .int x5), (7, .int x7)]) hx hb dX10_spread_94 hl (by decide) rfl (fun ls hl => ?_)
      obtain ⟨v4, ev4⟩ : ∃ z : Int32, z = x7 + (1 : Int32) := ⟨_, rfl⟩
      have h := h v4 ev4
      refine lv_iinc (v := v4) (lv' := [(7, .int v4), (6, .int v3), (0, .ref (ad 9)), (2, .int x2), (3, .int x3), (4, .int x4), (5, .int x5)]) hx hb dX10_spread_96 hl (k := 6) rfl (by rw [ev4]; rfl) (by decide) rfl (fun ls hl => ?_)
      refine lv_goto (tgt := 64) hx hb dX10_spread_99 (by decide) ?_
      exact hk_64 x2 x3 x4 x5 v3 v4 σ _ _ _ h hP hD hS (lv_sub hl [2, 3, 4, 5, 6, 1, 0] rfl)
    · have h := h.2 hc
      refine lv_aload_n hx hb dX10_spread_82 rfl (lv_at hl 0 rfl) ?_
      refine xg_9_4 hx hb hts hown hK hP mw_203 dX10_spread_83 ?_
      refine lv_iload hx hb dX10_spread_86 (lv_at hl 6 rfl) ?_
      refine xa_50 hx hb hK hP h.1 rfl dX10_spread_88 ?_
      have h := h.2
      refine lv_goto (tgt := 93) hx hb dX10_spread_89 (by decide) ?_
      refine lv_ior hx hb dX10_spread_93 ?_
      refine lv_topi (fun v5 ev5 => ?_)
      have h := h v5 ev5
      refine lv_istore (lv' := [(6, .int v5), (0, .ref (ad 9)), (2, .int x2), (3, .int x3), (4, .int x4), (5, .int x5), (7, .int x7)]) hx hb dX10_spread_94 hl (by decide) rfl (fun ls hl => ?_)
      obtain ⟨v6, ev6⟩ : ∃ z : Int32, z = x7 + (1 : Int32) := ⟨_, rfl⟩
      have h := h v6 ev6
      refine lv_iinc (v := v6) (lv' := [(7, .int v6), (6, .int v5), (0, .ref (ad 9)), (2, .int x2), (3, .int x3), (4, .int x4), (5, .int x5)]) hx hb dX10_spread_96 hl (k := 6) rfl (by rw [ev6]; rfl) (by decide) rfl (fun ls hl => ?_)
      refine lv_goto (tgt := 64) hx hb dX10_spread_99 (by decide) ?_
      exact hk_64 x2 x3 x4 x5 v5 v6 σ _ _ _ h hP hD hS (lv_sub hl [2, 3, 4, 5, 6, 1, 0] rfl)
set_option maxHeartbeats 4000000 in
set_option maxRecDepth 100000 in
theorem t_X10_spread_64 (C0 : zCx p s m meth c args RX10 cX10_spread 8 none vs_X10_spread) (hK : va_K (dC, dI) vwCl (x_ty cI cJ) s) (N : Nat) {Q : zSt → Prop} {k_47 : Int32 → Int32 → Int32 → Int32 → zSt → Prop} (hk_47 : ∀ (x2 : Int32) (x3 : Int32) (x4 : Int32) (x5 : Int32) (σ : zSt) (H : Heap) (locs : List Loc) (ls : Array Slot), k_47 x2 x3 x4 x5 σ → va_P (dC, dI) vwCl (x_W ad cI cJ σ) H → va_D (zAW x_n ad s.heap.size) (x_W ad cI cJ σ) → va_S (zAW x_n ad s.heap.size) s.heap H locs → lv_has ls 8 [(0, .ref (ad 9)), (2, .int x2), (3, .int x3), (4, .int x4), (5, .int x5)] → W p l e rm_X10_spread s m args below meth c H locs 0 0 (MQ below (zQv (dC, dI) (x_ty cI cJ) (x_W ad cI cJ) (zAW x_n ad s.heap.size) Q) args s 0 0 (zAW x_n ad s.heap.size)) (F0 m 47 ls [])) : ∀ (f : Nat) (x2 : Int32) (x3 : Int32) (x4 : Int32) (x5 : Int32) (x6 : Int32) (x7 : Int32) (σ : zSt) (H : Heap) (locs : List Loc) (ls : Array Slot), w_X10_spread_64 N k_47 Q f x2 x3 x4 x5 x6 x7 σ → va_P (dC, dI) vwCl (x_W ad cI cJ σ) H → va_D (zAW x_n ad s.heap.size) (x_W ad cI cJ σ) → va_S (zAW x_n ad s.heap.size) s.heap H locs → lv_has ls 8 [(0, .ref (ad 9)), (2, .int x2), (3, .int x3), (4, .int x4), (5, .int x5), (6, .int x6), (7, .int x7)] → W p l e rm_X10_spread s m args below meth c H locs 0 0 (MQ below (zQv (dC, dI) (x_ty cI cJ) (x_W ad cI cJ) (zAW x_n ad s.heap.size) Q) args s 0 0 (zAW x_n ad s.heap.size)) (F0 m 64 ls []) := by
  intro f
  induction f with
  | zero => intro x2 x3 x4 x5 x6 x7 σ H locs ls h; exact h.elim
  | succ f ih =>
    intro x2 x3 x4 x5 x6 x7 σ H locs ls h hP hD hS hl
    exact tb_X10_spread_64 C0 hK N hk_47 (k_64 := w_X10_spread_64 N k_47 Q f) ih x2 x3 x4 x5 x6 x7 σ H locs ls h hP hD hS hl
set_option maxHeartbeats 4000000 in
set_option maxRecDepth 100000 in
theorem tb_X10_spread_47 (C0 : zCx p s m meth c args RX10 cX10_spread 8 none vs_X10_spread) (hK : va_K (dC, dI) vwCl (x_ty cI cJ) s) (N : Nat) {Q : zSt → Prop} {k_47 : Int32 → Int32 → Int32 → Int32 → zSt → Prop} (hk_47 : ∀ (x2 : Int32) (x3 : Int32) (x4 : Int32) (x5 : Int32) (σ : zSt) (H : Heap) (locs : List Loc) (ls : Array Slot), k_47 x2 x3 x4 x5 σ → va_P (dC, dI) vwCl (x_W ad cI cJ σ) H → va_D (zAW x_n ad s.heap.size) (x_W ad cI cJ σ) → va_S (zAW x_n ad s.heap.size) s.heap H locs → lv_has ls 8 [(0, .ref (ad 9)), (2, .int x2), (3, .int x3), (4, .int x4), (5, .int x5)] → W p l e rm_X10_spread s m args below meth c H locs 0 0 (MQ below (zQv (dC, dI) (x_ty cI cJ) (x_W ad cI cJ) (zAW x_n ad s.heap.size) Q) args s 0 0 (zAW x_n ad s.heap.size)) (F0 m 47 ls [])) : ∀ (x2 : Int32) (x3 : Int32) (x4 : Int32) (x5 : Int32) (σ : zSt) (H : Heap) (locs : List Loc) (ls : Array Slot), b_X10_spread_47 N k_47 Q x2 x3 x4 x5 σ → va_P (dC, dI) vwCl (x_W ad cI cJ σ) H → va_D (zAW x_n ad s.heap.size) (x_W ad cI cJ σ) → va_S (zAW x_n ad s.heap.size) s.heap H locs → lv_has ls 8 [(0, .ref (ad 9)), (2, .int x2), (3, .int x3), (4, .int x4), (5, .int x5)] → W p l e rm_X10_spread s m args below meth c H locs 0 0 (MQ below (zQv (dC, dI) (x_ty cI cJ) (x_W ad cI cJ) (zAW x_n ad s.heap.size) Q) args s 0 0 (zAW x_n ad s.heap.size)) (F0 m 47 ls []) := by
  obtain ⟨hx, hb, hml, hr, hown, hts, hlocks⟩ := id C0
  intro x2 x3 x4 x5 σ H locs ls h hP hD hS hl
  unfold b_X10_spread_47 at h
  refine lv_iload hx hb dX10_spread_47 (lv_at hl 4 rfl) ?_
  refine lv_iload_n hx hb dX10_spread_49 rfl (lv_at hl 1 rfl) ?_
  refine lv_icmp_ge (tgt := 165) hx hb dX10_spread_50 (by decide) (fun hc => ?_) (fun hc => ?_)
  · have h := h.1 hc
    exact zret_v hx hb hr hlocks hK hP hD hS h dX10_spread_165
  · have h := h.2 hc
    refine lv_iload hx hb dX10_spread_53 (lv_at hl 3 rfl) ?_
    refine lv_if_eq (tgt := 165) hx hb dX10_spread_55 (by decide) (fun hc => ?_) (fun hc => ?_)
    · have h := h.1 hc
      exact zret_v hx hb hr hlocks hK hP hD hS h dX10_spread_165
    · have h := h.2 hc
      refine lv_iconst (v := (0 : Int32)) hx hb dX10_spread_58 (by decide) ?_
      refine lv_istore (lv' := [(6, .int (0 : Int32)), (0, .ref (ad 9)), (2, .int x2), (3, .int x3), (4, .int x4), (5, .int x5)]) hx hb dX10_spread_59 hl (by decide) rfl (fun ls hl => ?_)
      refine lv_iconst (v := (0 : Int32)) hx hb dX10_spread_61 (by decide) ?_
      refine lv_istore (lv' := [(7, .int (0 : Int32)), (6, .int (0 : Int32)), (0, .ref (ad 9)), (2, .int x2), (3, .int x3), (4, .int x4), (5, .int x5)]) hx hb dX10_spread_62 hl (by decide) rfl (fun ls hl => ?_)
      exact t_X10_spread_64 C0 hK N hk_47 N x2 x3 x4 x5 (0 : Int32) (0 : Int32) σ _ _ _ h hP hD hS (lv_sub hl [2, 3, 4, 5, 6, 1, 0] rfl)
set_option maxHeartbeats 4000000 in
set_option maxRecDepth 100000 in
theorem t_X10_spread_47 (C0 : zCx p s m meth c args RX10 cX10_spread 8 none vs_X10_spread) (hK : va_K (dC, dI) vwCl (x_ty cI cJ) s) (N : Nat) {Q : zSt → Prop} : ∀ (f : Nat) (x2 : Int32) (x3 : Int32) (x4 : Int32) (x5 : Int32) (σ : zSt) (H : Heap) (locs : List Loc) (ls : Array Slot), w_X10_spread_47 N  Q f x2 x3 x4 x5 σ → va_P (dC, dI) vwCl (x_W ad cI cJ σ) H → va_D (zAW x_n ad s.heap.size) (x_W ad cI cJ σ) → va_S (zAW x_n ad s.heap.size) s.heap H locs → lv_has ls 8 [(0, .ref (ad 9)), (2, .int x2), (3, .int x3), (4, .int x4), (5, .int x5)] → W p l e rm_X10_spread s m args below meth c H locs 0 0 (MQ below (zQv (dC, dI) (x_ty cI cJ) (x_W ad cI cJ) (zAW x_n ad s.heap.size) Q) args s 0 0 (zAW x_n ad s.heap.size)) (F0 m 47 ls []) := by
  intro f
  induction f with
  | zero => intro x2 x3 x4 x5 σ H locs ls h; exact h.elim
  | succ f ih =>
    intro x2 x3 x4 x5 σ H locs ls h hP hD hS hl
    exact tb_X10_spread_47 C0 hK N  (k_47 := w_X10_spread_47 N  Q f) ih x2 x3 x4 x5 σ H locs ls h hP hD hS hl
set_option maxHeartbeats 4000000 in
set_option maxRecDepth 100000 in
theorem tb_X10_spread_10 (C0 : zCx p s m meth c args RX10 cX10_spread 8 none vs_X10_spread) (hK : va_K (dC, dI) vwCl (x_ty cI cJ) s) (N : Nat) {Q : zSt → Prop} {k_10 : Int32 → Int32 → Int32 → zSt → Prop} (hk_10 : ∀ (x1 : Int32) (x2 : Int32) (x3 : Int32) (σ : zSt) (H : Heap) (locs : List Loc) (ls : Array Slot), k_10 x1 x2 x3 σ → va_P (dC, dI) vwCl (x_W ad cI cJ σ) H → va_D (zAW x_n ad s.heap.size) (x_W ad cI cJ σ) → va_S (zAW x_n ad s.heap.size) s.heap H locs → lv_has ls 8 [(0, .ref (ad 9)), (1, .int x1), (2, .int x2), (3, .int x3)] → W p l e rm_X10_spread s m args below meth c H locs 0 0 (MQ below (zQv (dC, dI) (x_ty cI cJ) (x_W ad cI cJ) (zAW x_n ad s.heap.size) Q) args s 0 0 (zAW x_n ad s.heap.size)) (F0 m 10 ls [])) : ∀ (x1 : Int32) (x2 : Int32) (x3 : Int32) (σ : zSt) (H : Heap) (locs : List Loc) (ls : Array Slot), b_X10_spread_10 N k_10 Q x1 x2 x3 σ → va_P (dC, dI) vwCl (x_W ad cI cJ σ) H → va_D (zAW x_n ad s.heap.size) (x_W ad cI cJ σ) → va_S (zAW x_n ad s.heap.size) s.heap H locs → lv_has ls 8 [(0, .ref (ad 9)), (1, .int x1), (2, .int x2), (3, .int x3)] → W p l e rm_X10_spread s m args below meth c H locs 0 0 (MQ below (zQv (dC, dI) (x_ty cI cJ) (x_W ad cI cJ) (zAW x_n ad s.heap.size) Q) args s 0 0 (zAW x_n ad s.heap.size)) (F0 m 10 ls []) := by
  obtain ⟨hx, hb, hml, hr, hown, hts, hlocks⟩ := id C0
  intro x1 x2 x3 σ H locs ls h hP hD hS hl
  unfold b_X10_spread_10 at h
  refine lv_iload_n hx hb dX10_spread_10 rfl (lv_at hl 3 rfl) ?_
  refine lv_iload_n hx hb dX10_spread_11 rfl (lv_at hl 2 rfl) ?_
  refine lv_icmp_ge (tgt := 37) hx hb dX10_spread_12 (by decide) (fun hc => ?_) (fun hc => ?_)
  · have h := h.1 hc
    refine lv_iconst (v := (1 : Int32)) hx hb dX10_spread_37 (by decide) ?_
    refine lv_iload_n hx hb dX10_spread_38 rfl (lv_at hl 1 rfl) ?_
    refine lv_ishl hx hb dX10_spread_39 ?_
    refine lv_topi (fun v1 ev1 => ?_)
    have h := h v1 ev1
    refine lv_istore_n (lv' := [(3, .int v1), (0, .ref (ad 9)), (1, .int x1), (2, .int x2)]) hx hb dX10_spread_40 rfl hl (by decide) rfl (fun ls hl => ?_)
    refine lv_iload_n hx hb dX10_spread_41 rfl (lv_at hl 0 rfl) ?_
    refine lv_istore (lv' := [(4, .int v1), (3, .int v1), (0, .ref (ad 9)), (1, .int x1), (2, .int x2)]) hx hb dX10_spread_42 hl (by decide) rfl (fun ls hl => ?_)
    refine lv_iconst (v := (1 : Int32)) hx hb dX10_spread_44 (by decide) ?_
    refine lv_istore (lv' := [(5, .int (1 : Int32)), (4, .int v1), (3, .int v1), (0, .ref (ad 9)), (1, .int x1), (2, .int x2)]) hx hb dX10_spread_45 hl (by decide) rfl (fun ls hl => ?_)
    exact t_X10_spread_47 C0 hK N  N x2 v1 v1 (1 : Int32) σ _ _ _ h hP hD hS (lv_sub hl [3, 5, 2, 1, 0] rfl)
  · have h := h.2 hc
    refine lv_aload_n hx hb dX10_spread_15 rfl (lv_at hl 0 rfl) ?_
    refine xg_9_5 hx hb hts hown hK hP mw_204 dX10_spread_16 ?_
    refine lv_iload_n hx hb dX10_spread_19 rfl (lv_at hl 3 rfl) ?_
    refine lv_iload_n hx hb dX10_spread_20 rfl (lv_at hl 3 rfl) ?_
    refine lv_iload_n hx hb dX10_spread_21 rfl (lv_at hl 1 rfl) ?_
    refine lv_icmp_ne (tgt := 29) hx hb dX10_spread_22 (by decide) (fun hc => ?_) (fun hc => ?_)
    · have h := h.2 hc
      refine lv_iconst (v := (-1 : Int32)) hx hb dX10_spread_29 (by decide) ?_
      refine xs_51 hx hb hK hP hD hS h.1 rfl dX10_spread_30 (fun τ2 H locs eτ2 hP hD hS => ?_)
      have h := h.2
      have h := h τ2 eτ2
      obtain ⟨v3, ev3⟩ : ∃ z : Int32, z = x3 + (1 : Int32) := ⟨_, rfl⟩
      have h := h v3 ev3
      refine lv_iinc (v := v3) (lv' := [(3, .int v3), (0, .ref (ad 9)), (1, .int x1), (2, .int x2)]) hx hb dX10_spread_31 hl (k := 3) rfl (by rw [ev3]; rfl) (by decide) rfl (fun ls hl => ?_)
      refine lv_goto (tgt := 10) hx hb dX10_spread_34 (by decide) ?_
      exact hk_10 x1 x2 v3 τ2 _ _ _ h hP hD hS (lv_sub hl [1, 2, 3, 0] rfl)
    · have h := h.1 hc
      refine lv_iconst (v := (0 : Int32)) hx hb dX10_spread_25 (by decide) ?_
      refine lv_goto (tgt := 30) hx hb dX10_spread_26 (by decide) ?_
      refine xs_51 hx hb hK hP hD hS h.1 rfl dX10_spread_30 (fun τ4 H locs eτ4 hP hD hS => ?_)
      have h := h.2
      have h := h τ4 eτ4
      obtain ⟨v5, ev5⟩ : ∃ z : Int32, z = x3 + (1 : Int32) := ⟨_, rfl⟩
      have h := h v5 ev5
      refine lv_iinc (v := v5) (lv' := [(3, .int v5), (0, .ref (ad 9)), (1, .int x1), (2, .int x2)]) hx hb dX10_spread_31 hl (k := 3) rfl (by rw [ev5]; rfl) (by decide) rfl (fun ls hl => ?_)
      refine lv_goto (tgt := 10) hx hb dX10_spread_34 (by decide) ?_
      exact hk_10 x1 x2 v5 τ4 _ _ _ h hP hD hS (lv_sub hl [1, 2, 3, 0] rfl)
set_option maxHeartbeats 4000000 in
set_option maxRecDepth 100000 in
theorem t_X10_spread_10 (C0 : zCx p s m meth c args RX10 cX10_spread 8 none vs_X10_spread) (hK : va_K (dC, dI) vwCl (x_ty cI cJ) s) (N : Nat) {Q : zSt → Prop} : ∀ (f : Nat) (x1 : Int32) (x2 : Int32) (x3 : Int32) (σ : zSt) (H : Heap) (locs : List Loc) (ls : Array Slot), w_X10_spread_10 N  Q f x1 x2 x3 σ → va_P (dC, dI) vwCl (x_W ad cI cJ σ) H → va_D (zAW x_n ad s.heap.size) (x_W ad cI cJ σ) → va_S (zAW x_n ad s.heap.size) s.heap H locs → lv_has ls 8 [(0, .ref (ad 9)), (1, .int x1), (2, .int x2), (3, .int x3)] → W p l e rm_X10_spread s m args below meth c H locs 0 0 (MQ below (zQv (dC, dI) (x_ty cI cJ) (x_W ad cI cJ) (zAW x_n ad s.heap.size) Q) args s 0 0 (zAW x_n ad s.heap.size)) (F0 m 10 ls []) := by
  intro f
  induction f with
  | zero => intro x1 x2 x3 σ H locs ls h; exact h.elim
  | succ f ih =>
    intro x1 x2 x3 σ H locs ls h hP hD hS hl
    exact tb_X10_spread_10 C0 hK N  (k_10 := w_X10_spread_10 N  Q f) ih x1 x2 x3 σ H locs ls h hP hD hS hl
set_option maxHeartbeats 4000000 in
set_option maxRecDepth 100000 in
theorem t_X10_spread_0 (C0 : zCx p s m meth c args RX10 cX10_spread 8 none vs_X10_spread) (hK : va_K (dC, dI) vwCl (x_ty cI cJ) s) (N : Nat) {Q : zSt → Prop} : ∀ (x1 : Int32) (σ : zSt) (H : Heap) (locs : List Loc) (ls : Array Slot), w_X10_spread N x1 σ Q → va_P (dC, dI) vwCl (x_W ad cI cJ σ) H → va_D (zAW x_n ad s.heap.size) (x_W ad cI cJ σ) → va_S (zAW x_n ad s.heap.size) s.heap H locs → lv_has ls 8 [(0, .ref (ad 9)), (1, .int x1)] → W p l e rm_X10_spread s m args below meth c H locs 0 0 (MQ below (zQv (dC, dI) (x_ty cI cJ) (x_W ad cI cJ) (zAW x_n ad s.heap.size) Q) args s 0 0 (zAW x_n ad s.heap.size)) (F0 m 0 ls []) := by
  obtain ⟨hx, hb, hml, hr, hown, hts, hlocks⟩ := id C0
  intro x1 σ H locs ls h hP hD hS hl
  unfold w_X10_spread at h
  refine lv_aload_n hx hb dX10_spread_0 rfl (lv_at hl 0 rfl) ?_
  refine xg_9_0 hx hb hts hown hK hP mw_199 dX10_spread_1 ?_
  refine xg_3_4 hx hb hts hown hK hP mw_74 dX10_spread_4 ?_
  refine lv_topi (fun v1 ev1 => ?_)
  have h := h v1 ev1
  refine lv_istore_n (lv' := [(2, .int v1), (0, .ref (ad 9)), (1, .int x1)]) hx hb dX10_spread_7 rfl hl (by decide) rfl (fun ls hl => ?_)
  refine lv_iconst (v := (0 : Int32)) hx hb dX10_spread_8 (by decide) ?_
  refine lv_istore_n (lv' := [(3, .int (0 : Int32)), (2, .int v1), (0, .ref (ad 9)), (1, .int x1)]) hx hb dX10_spread_9 rfl hl (by decide) rfl (fun ls hl => ?_)
  exact t_X10_spread_10 C0 hK N  N x1 v1 (0 : Int32) σ _ _ _ h hP hD hS (lv_sub hl [2, 3, 1, 0] rfl)
set_option maxHeartbeats 4000000 in
set_option maxRecDepth 100000 in
theorem c_X10_spread (N : Nat) (l : Launch) (dC : Nat → ClassId) (dI : Nat → Nat → Nat) (ad : Nat → Nat) (cI cJ : ClassId) (sz : Nat) (σ : zSt) (x1 : Int32) (Q : zSt → Prop) (h : w_X10_spread N x1 σ Q) : Met l yX10_spread vs_X10_spread rm_X10_spread (va_Pc [.ref (ad 9), .int x1] (zPc (dC, dI) (x_ty cI cJ) (x_W ad cI cJ) sz σ)) (zQv (dC, dI) (x_ty cI cJ) (x_W ad cI cJ) (zAW x_n ad sz) Q) 0 0 (zAW x_n ad sz) := by
  refine Met.ofW (cc := cX10_spread) (maxL := 8) (ret := none) (by decide) rfl ?_
  intro p e s m args below meth c s₁ B hml hv
  obtain ⟨rfl, hsz, hP, hK, hD0⟩ := hv
  subst hsz
  have C0 : zCx p s m meth c _ RX10 cX10_spread 8 none vs_X10_spread := ⟨B.exec, B.bytes, hml, B.returns, findClass_of_methodNamed B.named, atoms_spec (ws := vs_X10_spread) B.pre, B.notSynchronized⟩
  have hD := x_D0 (n0 := s.heap.size) hD0
  have hl := lv_entry ([.ref (ad 9), .int x1]) (n := 8) (Nat.le_of_ble_eq_true rfl)
  rw [lg_entry_eq]
  generalize (lg_sl ([.ref (ad 9), .int x1]) ++ List.replicate (8 - (lg_sl ([.ref (ad 9), .int x1])).length) Slot.unset).toArray = ls at hl ⊢
  exact t_X10_spread_0 C0 hK N x1 σ _ _ ls h hP hD va_S.rf hl
theorem k_X10_spread (N : Nat) {R : Room} {H : Heap} {locs : List Loc} {Q2 : State → Prop} {cc : ByteArray} {nL pc index : Nat} {ls : Array Slot} {rest : List Value} {own : String} {c0 : Cond} {σ : zSt} {x1 : Int32} {Q : zSt → Prop} (S0 : CallFix p m c cc nL s args (c0 :: zT) own) (hml : Cond.methodLink own index yX10_spread ∈ zT) (hR : rm_X10_spread.frames + 1 ≤ R.frames ∧ 8 + (8 + 11) + rm_X10_spread.locals ≤ R.locals) (h : w_X10_spread N x1 σ Q) (hK : va_K (dC, dI) vwCl (x_ty cI cJ) s) (hP : va_P (dC, dI) vwCl (x_W ad cI cJ σ) H) (hD : va_D (zAW x_n ad s.heap.size) (x_W ad cI cJ σ)) (hS : va_S (zAW x_n ad s.heap.size) s.heap H locs) (hsz : ls.size = nL) (hW : (rest.map fun v => v.category).sum ≤ 8) (hdg : decode cc pc = .ok (.invokevirtual index, 3)) (kk : ∀ (τ : zSt) (H1 : Heap) (locs1 : List Loc), Q τ → va_P (dC, dI) vwCl (x_W ad cI cJ τ) H1 → va_D (zAW x_n ad s.heap.size) (x_W ad cI cJ τ) → va_S (zAW x_n ad s.heap.size) s.heap H1 locs1 → W p l e R s m args below meth c H1 locs1 0 0 Q2 (F0 m (pc + 3) ls (rest))) : W p l e R s m args below meth c H locs 0 0 Q2 (F0 m pc ls (.int x1 :: .ref (ad 9) :: rest)) :=
  zcv_v (T := TX10) (N' := 10) (k := 9) (ci := 10) (fs := x_f9 ad σ) [.int x1] S0 (c_X10_spread N l dC dI ad cI cJ H.size σ x1 Q h) (cw_X10_spread S0.2.2.2.2 hml rfl rfl hR) rfl rfl hK hP hD hS rfl hsz hW rfl hdg kk
end q05
section q05
def vs_J6_bitCount_0f7a4 : List Cond := .code yJ6_bitCount_0f7a4 cJ6_bitCount_0f7a4 1 (some .int) :: zT
def rm_J6_bitCount_0f7a4 : Room := { frames := 0, cells := 0, slots := 0, locals := 0 }
theorem cw_J6_bitCount_0f7a4 {R : Room} {s : State} {args : Array Value} {own : String} {index : Nat} {c0 : Cond} (hts : ∀ w ∈ c0 :: zT, w.before args s = true) (hml : Cond.methodLink own index yJ6_bitCount_0f7a4 ∈ zT) (hR : rm_J6_bitCount_0f7a4.frames + 1 ≤ R.frames ∧ 8 + (1 + 11) + rm_J6_bitCount_0f7a4.locals ≤ R.locals) : CallB R s args own index yJ6_bitCount_0f7a4 cJ6_bitCount_0f7a4 1 (some .int) vs_J6_bitCount_0f7a4 rm_J6_bitCount_0f7a4 0 0 1 ∧ (Cond.static yJ6_bitCount_0f7a4).before args s = true :=
  zwS 1 hts hml mw_558 mw_22 mw_559 rfl rfl (by decide +kernel) hR
def w_J6_bitCount_0f7a4 (N : Nat) (x0 : Int32) (σ : zSt) (Q : Int32 → zSt → Prop) : Prop :=
  ∀ v1 : Int32, v1 = x0 - (((x0.toUInt32 >>> ((1 : Int32).toUInt32 &&& Int32.toUInt32 31)).toInt32) &&& (1431655765 : Int32)) → ∀ v2 : Int32, v2 = (v1 &&& (858993459 : Int32)) + (((v1.toUInt32 >>> ((2 : Int32).toUInt32 &&& Int32.toUInt32 31)).toInt32) &&& (858993459 : Int32)) → ∀ v3 : Int32, v3 = (v2 + ((v2.toUInt32 >>> ((4 : Int32).toUInt32 &&& Int32.toUInt32 31)).toInt32)) &&& (252645135 : Int32) → ∀ v4 : Int32, v4 = v3 + ((v3.toUInt32 >>> ((8 : Int32).toUInt32 &&& Int32.toUInt32 31)).toInt32) → ∀ v5 : Int32, v5 = v4 + ((v4.toUInt32 >>> ((16 : Int32).toUInt32 &&& Int32.toUInt32 31)).toInt32) → Q (v5 &&& (63 : Int32)) σ
variable {p : Program} {l : Launch} {e : Env} {s : State} {m : MethodId} {args : Array Value} {below : List Frame} {meth : Method} {c : Code} {dC : Nat → ClassId} {dI : Nat → Nat → Nat} {ad : Nat → Nat} {cI cJ : ClassId}
set_option maxHeartbeats 4000000 in
set_option maxRecDepth 100000 in
theorem t_J6_bitCount_0f7a4_0 (C0 : zCx p s m meth c args RJ6 cJ6_bitCount_0f7a4 1 (some .int) vs_J6_bitCount_0f7a4) (hK : va_K (dC, dI) vwCl (x_ty cI cJ) s) (N : Nat) {Q : Int32 → zSt → Prop} : ∀ (x0 : Int32) (σ : zSt) (H : Heap) (locs : List Loc) (ls : Array Slot), w_J6_bitCount_0f7a4 N x0 σ Q → va_P (dC, dI) vwCl (x_W ad cI cJ σ) H → va_D (zAW x_n ad s.heap.size) (x_W ad cI cJ σ) → va_S (zAW x_n ad s.heap.size) s.heap H locs → lv_has ls 1 [(0, .int x0)] → W p l e rm_J6_bitCount_0f7a4 s m args below meth c H locs 0 0 (MQ below (zQi (dC, dI) (x_ty cI cJ) (x_W ad cI cJ) (zAW x_n ad s.heap.size) Q) args s 0 0 (zAW x_n ad s.heap.size)) (F0 m 0 ls []) := by
  obtain ⟨hx, hb, hml, hr, hown, hts, hlocks⟩ := id C0
  intro x0 σ H locs ls h hP hD hS hl
  unfold w_J6_bitCount_0f7a4 at h
  refine lv_iload_n hx hb dJ6_bitCount_0f7a4_0 rfl (lv_at hl 0 rfl) ?_
  refine lv_iload_n hx hb dJ6_bitCount_0f7a4_1 rfl (lv_at hl 0 rfl) ?_
  refine lv_iconst (v := (1 : Int32)) hx hb dJ6_bitCount_0f7a4_2 (by decide) ?_
  refine lv_iushr hx hb dJ6_bitCount_0f7a4_3 rfl ?_
  refine lv_ldcw (v := (1431655765 : Int32)) hx hb hown (hts _ (List.mem_cons_of_mem _ mw_560)) dJ6_bitCount_0f7a4_4 ?_
  refine lv_iand hx hb dJ6_bitCount_0f7a4_7 ?_
  refine lv_isub hx hb dJ6_bitCount_0f7a4_8 ?_
  refine lv_topi (fun v1 ev1 => ?_)
  have h := h v1 ev1
  refine lv_istore_n (lv' := [(0, .int v1)]) hx hb dJ6_bitCount_0f7a4_9 rfl hl (by decide) rfl (fun ls hl => ?_)
  refine lv_iload_n hx hb dJ6_bitCount_0f7a4_10 rfl (lv_at hl 0 rfl) ?_
  refine lv_ldcw (v := (858993459 : Int32)) hx hb hown (hts _ (List.mem_cons_of_mem _ mw_561)) dJ6_bitCount_0f7a4_11 ?_
  refine lv_iand hx hb dJ6_bitCount_0f7a4_14 ?_
  refine lv_iload_n hx hb dJ6_bitCount_0f7a4_15 rfl (lv_at hl 0 rfl) ?_
  refine lv_iconst (v := (2 : Int32)) hx hb dJ6_bitCount_0f7a4_16 (by decide) ?_
  refine lv_iushr hx hb dJ6_bitCount_0f7a4_17 rfl ?_
  refine lv_ldcw (v := (858993459 : Int32)) hx hb hown (hts _ (List.mem_cons_of_mem _ mw_561)) dJ6_bitCount_0f7a4_18 ?_
  refine lv_iand hx hb dJ6_bitCount_0f7a4_21 ?_
  refine lv_iadd hx hb dJ6_bitCount_0f7a4_22 ?_
  refine lv_topi (fun v2 ev2 => ?_)
  have h := h v2 ev2
  refine lv_istore_n (lv' := [(0, .int v2)]) hx hb dJ6_bitCount_0f7a4_23 rfl hl (by decide) rfl (fun ls hl => ?_)
  refine lv_iload_n hx hb dJ6_bitCount_0f7a4_24 rfl (lv_at hl 0 rfl) ?_
  refine lv_iload_n hx hb dJ6_bitCount_0f7a4_25 rfl (lv_at hl 0 rfl) ?_
  refine lv_iconst (v := (4 : Int32)) hx hb dJ6_bitCount_0f7a4_26 (by decide) ?_
  refine lv_iushr hx hb dJ6_bitCount_0f7a4_27 rfl ?_
  refine lv_iadd hx hb dJ6_bitCount_0f7a4_28 ?_
  refine lv_ldcw (v := (252645135 : Int32)) hx hb hown (hts _ (List.mem_cons_of_mem _ mw_562)) dJ6_bitCount_0f7a4_29 ?_
  refine lv_iand hx hb dJ6_bitCount_0f7a4_32 ?_
  refine lv_topi (fun v3 ev3 => ?_)
  have h := h v3 ev3
  refine lv_istore_n (lv' := [(0, .int v3)]) hx hb dJ6_bitCount_0f7a4_33 rfl hl (by decide) rfl (fun ls hl => ?_)
  refine lv_iload_n hx hb dJ6_bitCount_0f7a4_34 rfl (lv_at hl 0 rfl) ?_
  refine lv_iload_n hx hb dJ6_bitCount_0f7a4_35 rfl (lv_at hl 0 rfl) ?_
  refine lv_bipush (v := (8 : Int32)) hx hb dJ6_bitCount_0f7a4_36 (by decide) ?_
  refine lv_iushr hx hb dJ6_bitCount_0f7a4_38 rfl ?_
  refine lv_iadd hx hb dJ6_bitCount_0f7a4_39 ?_
  refine lv_topi (fun v4 ev4 => ?_)
  have h := h v4 ev4
  refine lv_istore_n (lv' := [(0, .int v4)]) hx hb dJ6_bitCount_0f7a4_40 rfl hl (by decide) rfl (fun ls hl => ?_)
  refine lv_iload_n hx hb dJ6_bitCount_0f7a4_41 rfl (lv_at hl 0 rfl) ?_
  refine lv_iload_n hx hb dJ6_bitCount_0f7a4_42 rfl (lv_at hl 0 rfl) ?_
  refine lv_bipush (v := (16 : Int32)) hx hb dJ6_bitCount_0f7a4_43 (by decide) ?_
  refine lv_iushr hx hb dJ6_bitCount_0f7a4_45 rfl ?_
  refine lv_iadd hx hb dJ6_bitCount_0f7a4_46 ?_
  refine lv_topi (fun v5 ev5 => ?_)
  have h := h v5 ev5
  refine lv_istore_n (lv' := [(0, .int v5)]) hx hb dJ6_bitCount_0f7a4_47 rfl hl (by decide) rfl (fun ls hl => ?_)
  refine lv_iload_n hx hb dJ6_bitCount_0f7a4_48 rfl (lv_at hl 0 rfl) ?_
  refine lv_bipush (v := (63 : Int32)) hx hb dJ6_bitCount_0f7a4_49 (by decide) ?_
  refine lv_iand hx hb dJ6_bitCount_0f7a4_51 ?_
  exact zret_i hx hb hr hlocks hK hP hD hS h dJ6_bitCount_0f7a4_52
set_option maxHeartbeats 4000000 in
set_option maxRecDepth 100000 in
theorem c_J6_bitCount_0f7a4 (N : Nat) (l : Launch) (dC : Nat → ClassId) (dI : Nat → Nat → Nat) (ad : Nat → Nat) (cI cJ : ClassId) (sz : Nat) (σ : zSt) (x0 : Int32) (Q : Int32 → zSt → Prop) (h : w_J6_bitCount_0f7a4 N x0 σ Q) : Met l yJ6_bitCount_0f7a4 vs_J6_bitCount_0f7a4 rm_J6_bitCount_0f7a4 (va_Pc [.int x0] (zPc (dC, dI) (x_ty cI cJ) (x_W ad cI cJ) sz σ)) (zQi (dC, dI) (x_ty cI cJ) (x_W ad cI cJ) (zAW x_n ad sz) Q) 0 0 (zAW x_n ad sz) := by
  refine Met.ofW (cc := cJ6_bitCount_0f7a4) (maxL := 1) (ret := (some .int)) (by decide) rfl ?_
  intro p e s m args below meth c s₁ B hml hv
  obtain ⟨rfl, hsz, hP, hK, hD0⟩ := hv
  subst hsz
  have C0 : zCx p s m meth c _ RJ6 cJ6_bitCount_0f7a4 1 (some .int) vs_J6_bitCount_0f7a4 := ⟨B.exec, B.bytes, hml, B.returns, findClass_of_methodNamed B.named, atoms_spec (ws := vs_J6_bitCount_0f7a4) B.pre, B.notSynchronized⟩
  have hD := x_D0 (n0 := s.heap.size) hD0
  have hl := lv_entry ([.int x0]) (n := 1) (Nat.le_of_ble_eq_true rfl)
  rw [lg_entry_eq]
  generalize (lg_sl ([.int x0]) ++ List.replicate (1 - (lg_sl ([.int x0])).length) Slot.unset).toArray = ls at hl ⊢
  exact t_J6_bitCount_0f7a4_0 C0 hK N x0 σ _ _ ls h hP hD va_S.rf hl
theorem k_J6_bitCount_0f7a4 (N : Nat) {R : Room} {H : Heap} {locs : List Loc} {Q2 : State → Prop} {cc : ByteArray} {nL pc index : Nat} {ls : Array Slot} {rest : List Value} {own : String} {c0 : Cond} {σ : zSt} {x0 : Int32} {Q : Int32 → zSt → Prop} (S0 : CallFix p m c cc nL s args (c0 :: zT) own) (hml : Cond.methodLink own index yJ6_bitCount_0f7a4 ∈ zT) (hR : rm_J6_bitCount_0f7a4.frames + 1 ≤ R.frames ∧ 8 + (1 + 11) + rm_J6_bitCount_0f7a4.locals ≤ R.locals) (h : w_J6_bitCount_0f7a4 N x0 σ Q) (hK : va_K (dC, dI) vwCl (x_ty cI cJ) s) (hP : va_P (dC, dI) vwCl (x_W ad cI cJ σ) H) (hD : va_D (zAW x_n ad s.heap.size) (x_W ad cI cJ σ)) (hS : va_S (zAW x_n ad s.heap.size) s.heap H locs) (hsz : ls.size = nL) (hW : (rest.map fun v => v.category).sum ≤ 8) (hdg : decode cc pc = .ok (.invokestatic index, 3)) (kk : ∀ (r : Int32) (τ : zSt) (H1 : Heap) (locs1 : List Loc), Q r τ → va_P (dC, dI) vwCl (x_W ad cI cJ τ) H1 → va_D (zAW x_n ad s.heap.size) (x_W ad cI cJ τ) → va_S (zAW x_n ad s.heap.size) s.heap H1 locs1 → W p l e R s m args below meth c H1 locs1 0 0 Q2 (F0 m (pc + 3) ls (.int r :: rest))) : W p l e R s m args below meth c H locs 0 0 Q2 (F0 m pc ls (.int x0 :: rest)) :=
  zcs_i [.int x0] S0 (c_J6_bitCount_0f7a4 N l dC dI ad cI cJ H.size σ x0 Q h) (cw_J6_bitCount_0f7a4 S0.2.2.2.2 hml hR) hK hP hD hS rfl hsz hW rfl hdg kk
end q05
section q05
def vs_X6_apply : List Cond := .code yX6_apply cX6_apply 9 (some .int) :: zT
def rm_X6_apply : Room := { frames := 0, cells := 0, slots := 0, locals := 0 }
theorem cw_X6_apply {rm R : Room} {s : State} {args : Array Value} {own : String} {index : Nat} {c0 : Cond} (hts : ∀ w ∈ c0 :: zT, w.before args s = true) (hml : Cond.methodLink own index yX6_apply ∈ zT) (hrc : rm.cells = 0) (hrs : rm.slots = 0) (hR : rm.frames + 1 ≤ R.frames ∧ 8 + (9 + 11) + rm.locals ≤ R.locals) : CallW R s args own RX6 index yX6_apply cX6_apply 9 (some .int) vs_X6_apply rm 0 0 2 :=
  zwV 2 hts hml mw_572 mw_1341 mw_5 mw_573 hrc hrs (by decide +kernel) hR
def b_X6_apply_414 (N : Nat) (Q : Int32 → zSt → Prop) (x2 : Int32) (x7 : Int64) (σ : zSt) : Prop :=
  ((lg_cmp x7 (1000000 : Int64)) ≤ 0 → (0 ≤ (lg_cmp x7 (-1000000 : Int64)) → (vp_in (x2 - (2 : Int32)) 64) ∧ (∀ τ1 : zSt, τ1 = zB σ 3 (vp_updL (σ.2.2.2 3) ((x2 - (2 : Int32)).toNatClampNeg) x7) → Q (x2 - (1 : Int32)) τ1)) ∧ (¬ 0 ≤ (lg_cmp x7 (-1000000 : Int64)) → (vp_in (x2 - (2 : Int32)) 64) ∧ (∀ τ2 : zSt, τ2 = zB σ 3 (vp_updL (σ.2.2.2 3) ((x2 - (2 : Int32)).toNatClampNeg) (-1000000 : Int64)) → Q (x2 - (1 : Int32)) τ2))) ∧ (¬ (lg_cmp x7 (1000000 : Int64)) ≤ 0 → (vp_in (x2 - (2 : Int32)) 64) ∧ (∀ τ3 : zSt, τ3 = zB σ 3 (vp_updL (σ.2.2.2 3) ((x2 - (2 : Int32)).toNatClampNeg) (1000000 : Int64)) → Q (x2 - (1 : Int32)) τ3))
def b_X6_apply_304 (N : Nat) (Q : Int32 → zSt → Prop) (x2 : Int32) (s0 : Int64) (σ : zSt) : Prop :=
  b_X6_apply_414 N Q x2 s0 σ
def b_X6_apply_302 (N : Nat) (Q : Int32 → zSt → Prop) (x2 : Int32) (s0 : Int32) (s1 : Int64) (σ : zSt) : Prop :=
  b_X6_apply_304 N Q x2 (s1 - s0.toInt64) σ
def b_X6_apply_301 (N : Nat) (Q : Int32 → zSt → Prop) (x2 : Int32) (s0 : Int64) (σ : zSt) : Prop :=
  b_X6_apply_302 N Q x2 (0 : Int32) s0 σ
def b_X6_apply_294 (N : Nat) (Q : Int32 → zSt → Prop) (x2 : Int32) (s0 : Int32) (s1 : Int32) (s2 : Int64) (σ : zSt) : Prop :=
  (s1 = s0 → b_X6_apply_301 N Q x2 s2 σ) ∧ (¬ s1 = s0 → b_X6_apply_302 N Q x2 (1 : Int32) s2 σ)
def b_X6_apply_282 (N : Nat) (Q : Int32 → zSt → Prop) (x2 : Int32) (x5 : Int64) (s0 : Int32) (s1 : Int64) (σ : zSt) : Prop :=
  (0 ≤ (lg_cmp x5 (0 : Int64)) → b_X6_apply_294 N Q x2 (0 : Int32) s0 s1 σ) ∧ (¬ 0 ≤ (lg_cmp x5 (0 : Int64)) → b_X6_apply_294 N Q x2 (1 : Int32) s0 s1 σ)
def b_X6_apply_322 (N : Nat) (Q : Int32 → zSt → Prop) (x2 : Int32) (s0 : Int64) (σ : zSt) : Prop :=
  b_X6_apply_414 N Q x2 s0 σ
def b_X6_apply_340 (N : Nat) (Q : Int32 → zSt → Prop) (x2 : Int32) (s0 : Int64) (σ : zSt) : Prop :=
  b_X6_apply_414 N Q x2 s0 σ
def b_X6_apply_357 (N : Nat) (Q : Int32 → zSt → Prop) (x2 : Int32) (s0 : Int64) (σ : zSt) : Prop :=
  b_X6_apply_414 N Q x2 s0 σ
def b_X6_apply_374 (N : Nat) (Q : Int32 → zSt → Prop) (x2 : Int32) (s0 : Int64) (σ : zSt) : Prop :=
  b_X6_apply_414 N Q x2 s0 σ
def b_X6_apply_391 (N : Nat) (Q : Int32 → zSt → Prop) (x2 : Int32) (s0 : Int64) (σ : zSt) : Prop :=
  b_X6_apply_414 N Q x2 s0 σ
def b_X6_apply_100 (N : Nat) (Q : Int32 → zSt → Prop) (x1 : Int32) (x2 : Int32) (s0 : Int32) (s1 : Int32) (σ : zSt) : Prop :=
  (s1 < s0 → Q x2 σ) ∧ (¬ s1 < s0 → (x2 ≤ (64 : Int32) → (x1 = (11 : Int32) → (vp_in (x2 - (1 : Int32)) 64) ∧ ((vp_in (x2 - (1 : Int32)) 64) ∧ (∀ τ8 : zSt, τ8 = zB σ 3 (vp_updL (σ.2.2.2 3) ((x2 - (1 : Int32)).toNatClampNeg) ((1 : Int64) - (σ.2.2.2 3 (x2 - (1 : Int32)).toNatClampNeg))) → Q x2 τ8))) ∧ (¬ x1 = (11 : Int32) → (vp_in (x2 - (2 : Int32)) 64) ∧ (∀ v1 : Int64, v1 = σ.2.2.2 3 (x2 - (2 : Int32)).toNatClampNeg → (vp_in (x2 - (1 : Int32)) 64) ∧ (∀ v2 : Int64, v2 = σ.2.2.2 3 (x2 - (1 : Int32)).toNatClampNeg → (x1 = (0 : Int32) → ∀ v3 : Int64, v3 = v1 + v2 → b_X6_apply_414 N Q x2 v3 σ) ∧ (¬ x1 = (0 : Int32) → (x1 = (1 : Int32) → ∀ v4 : Int64, v4 = v1 - v2 → b_X6_apply_414 N Q x2 v4 σ) ∧ (¬ x1 = (1 : Int32) → (x1 = (2 : Int32) → ∀ v5 : Int64, v5 = v1 * v2 → b_X6_apply_414 N Q x2 v5 σ) ∧ (¬ x1 = (2 : Int32) → (x1 = (3 : Int32) → ((lg_cmp v2 (0 : Int64)) = 0 → b_X6_apply_304 N Q x2 (0 : Int64) σ) ∧ (¬ (lg_cmp v2 (0 : Int64)) = 0 → (¬ v2 = 0) ∧ ((¬ v2 = 0) ∧ (((lg_cmp (v1 - v1 / v2 * v2) (0 : Int64)) = 0 → b_X6_apply_301 N Q x2 (v1 / v2) σ) ∧ (¬ (lg_cmp (v1 - v1 / v2 * v2) (0 : Int64)) = 0 → (0 ≤ (lg_cmp v1 (0 : Int64)) → b_X6_apply_282 N Q x2 v2 (0 : Int32) (v1 / v2) σ) ∧ (¬ 0 ≤ (lg_cmp v1 (0 : Int64)) → b_X6_apply_282 N Q x2 v2 (1 : Int32) (v1 / v2) σ)))))) ∧ (¬ x1 = (3 : Int32) → (x1 = (4 : Int32) → (0 ≤ (lg_cmp v1 v2) → b_X6_apply_322 N Q x2 v2 σ) ∧ (¬ 0 ≤ (lg_cmp v1 v2) → b_X6_apply_322 N Q x2 v1 σ)) ∧ (¬ x1 = (4 : Int32) → (x1 = (5 : Int32) → ((lg_cmp v1 v2) ≤ 0 → b_X6_apply_340 N Q x2 v2 σ) ∧ (¬ (lg_cmp v1 v2) ≤ 0 → b_X6_apply_340 N Q x2 v1 σ)) ∧ (¬ x1 = (5 : Int32) → (x1 = (6 : Int32) → (0 ≤ (lg_cmp v1 v2) → b_X6_apply_357 N Q x2 (0 : Int64) σ) ∧ (¬ 0 ≤ (lg_cmp v1 v2) → b_X6_apply_357 N Q x2 (1 : Int64) σ)) ∧ (¬ x1 = (6 : Int32) → (x1 = (7 : Int32) → ((lg_cmp v1 v2) ≤ 0 → b_X6_apply_374 N Q x2 (0 : Int64) σ) ∧ (¬ (lg_cmp v1 v2) ≤ 0 → b_X6_apply_374 N Q x2 (1 : Int64) σ)) ∧ (¬ x1 = (7 : Int32) → (x1 = (8 : Int32) → ((lg_cmp v1 v2) = 0 → b_X6_apply_391 N Q x2 (1 : Int64) σ) ∧ (¬ (lg_cmp v1 v2) = 0 → b_X6_apply_391 N Q x2 (0 : Int64) σ)) ∧ (¬ x1 = (8 : Int32) → (x1 = (9 : Int32) → ∀ v6 : Int64, v6 = v1 &&& v2 → b_X6_apply_414 N Q x2 v6 σ) ∧ (¬ x1 = (9 : Int32) → (x1 = (10 : Int32) → ∀ v7 : Int64, v7 = v1 ||| v2 → b_X6_apply_414 N Q x2 v7 σ) ∧ (¬ x1 = (10 : Int32) → b_X6_apply_414 N Q x2 (0 : Int64) σ))))))))))))))) ∧ (¬ x2 ≤ (64 : Int32) → Q x2 σ))
def w_X6_apply (N : Nat) (x1 : Int32) (x2 : Int32) (σ : zSt) (Q : Int32 → zSt → Prop) : Prop :=
  (x1 < (12 : Int32) → (x1 = (11 : Int32) → b_X6_apply_100 N Q x1 x2 (1 : Int32) x2 σ) ∧ (¬ x1 = (11 : Int32) → b_X6_apply_100 N Q x1 x2 (2 : Int32) x2 σ)) ∧ (¬ x1 < (12 : Int32) → ((64 : Int32) ≤ x2 → Q (x2 + (1 : Int32)) σ) ∧ (¬ (64 : Int32) ≤ x2 → (x1 < (100 : Int32) → (x1 < (30 : Int32) → (x1 < (20 : Int32) → (vp_in x2 64) ∧ (∀ τ1 : zSt, τ1 = zB σ 3 (vp_updL (σ.2.2.2 3) (x2.toNatClampNeg) (1 : Int64)) → Q (x2 + (1 : Int32)) τ1)) ∧ (¬ x1 < (20 : Int32) → ((25 : Int32) ≤ x1 → (vp_in x2 64) ∧ (∀ τ2 : zSt, τ2 = zB σ 3 (vp_updL (σ.2.2.2 3) (x2.toNatClampNeg) (1 : Int64)) → Q (x2 + (1 : Int32)) τ2)) ∧ (¬ (25 : Int32) ≤ x1 → (vp_in (x1 - (20 : Int32)) 5) ∧ ((vp_in x2 64) ∧ (∀ τ3 : zSt, τ3 = zB σ 3 (vp_updL (σ.2.2.2 3) (x2.toNatClampNeg) (σ.2.2.1 13 (x1 - (20 : Int32)).toNatClampNeg).toInt64) → Q (x2 + (1 : Int32)) τ3))))) ∧ (¬ x1 < (30 : Int32) → ((x1 - (30 : Int32)) = (σ.1 6) → (vp_in x2 64) ∧ (∀ τ5 : zSt, τ5 = zB σ 3 (vp_updL (σ.2.2.2 3) (x2.toNatClampNeg) (1 : Int32).toInt64) → Q (x2 + (1 : Int32)) τ5)) ∧ (¬ (x1 - (30 : Int32)) = (σ.1 6) → (vp_in x2 64) ∧ (∀ τ4 : zSt, τ4 = zB σ 3 (vp_updL (σ.2.2.2 3) (x2.toNatClampNeg) (0 : Int32).toInt64) → Q (x2 + (1 : Int32)) τ4)))) ∧ (¬ x1 < (100 : Int32) → (vp_in x2 64) ∧ (∀ τ6 : zSt, τ6 = zB σ 3 (vp_updL (σ.2.2.2 3) (x2.toNatClampNeg) (x1 - (100 : Int32)).toInt64) → Q (x2 + (1 : Int32)) τ6))))
variable {p : Program} {l : Launch} {e : Env} {s : State} {m : MethodId} {args : Array Value} {below : List Frame} {meth : Method} {c : Code} {dC : Nat → ClassId} {dI : Nat → Nat → Nat} {ad : Nat → Nat} {cI cJ : ClassId}
set_option maxHeartbeats 4000000 in
set_option maxRecDepth 100000 in
theorem t_X6_apply_414 (C0 : zCx p s m meth c args RX6 cX6_apply 9 (some .int) vs_X6_apply) (hK : va_K (dC, dI) vwCl (x_ty cI cJ) s) (N : Nat) {Q : Int32 → zSt → Prop} : ∀ (x2 : Int32) (x7 : Int64) (σ : zSt) (H : Heap) (locs : List Loc) (ls : Array Slot), b_X6_apply_414 N  Q x2 x7 σ → va_P (dC, dI) vwCl (x_W ad cI cJ σ) H → va_D (zAW x_n ad s.heap.size) (x_W ad cI cJ σ) → va_S (zAW x_n ad s.heap.size) s.heap H locs → lv_has ls 9 [(0, .ref (ad 4)), (2, .int x2), (7, .long x7)] → W p l e rm_X6_apply s m args below meth c H locs 0 0 (MQ below (zQi (dC, dI) (x_ty cI cJ) (x_W ad cI cJ) (zAW x_n ad s.heap.size) Q) args s 0 0 (zAW x_n ad s.heap.size)) (F0 m 414 ls []) := by
  obtain ⟨hx, hb, hml, hr, hown, hts, hlocks⟩ := id C0
  intro x2 x7 σ H locs ls h hP hD hS hl
  unfold b_X6_apply_414 at h
  refine lv_aload_n hx hb dX6_apply_414 rfl (lv_at hl 0 rfl) ?_
  refine xg_4_5 hx hb hts hown hK hP mw_97 dX6_apply_415 ?_
  refine lv_iload_n hx hb dX6_apply_418 rfl (lv_at hl 1 rfl) ?_
  refine lv_iconst (v := (2 : Int32)) hx hb dX6_apply_419 (by decide) ?_
  refine lv_isub hx hb dX6_apply_420 ?_
  refine lv_lload hx hb dX6_apply_421 (lv_at hl 2 rfl) ?_
  refine lv_ldc2 (v := (1000000 : Int64)) hx hb hown (hts _ (List.mem_cons_of_mem _ mw_574)) dX6_apply_423 ?_
  refine W.lcmp hx hb dX6_apply_426 ?_
  refine lv_if_le (tgt := 436) hx hb dX6_apply_427 (by decide) (fun hc => ?_) (fun hc => ?_)
  · have h := h.1 hc
    refine lv_lload hx hb dX6_apply_436 (lv_at hl 2 rfl) ?_
    refine lv_ldc2 (v := (-1000000 : Int64)) hx hb hown (hts _ (List.mem_cons_of_mem _ mw_575)) dX6_apply_438 ?_
    refine W.lcmp hx hb dX6_apply_441 ?_
    refine lv_if_ge (tgt := 451) hx hb dX6_apply_442 (by decide) (fun hc => ?_) (fun hc => ?_)
    · have h := h.1 hc
      refine lv_lload hx hb dX6_apply_451 (lv_at hl 2 rfl) ?_
      refine xs_31 hx hb hK hP hD hS h.1 rfl dX6_apply_453 (fun τ1 H locs eτ1 hP hD hS => ?_)
      have h := h.2
      have h := h τ1 eτ1
      refine lv_iload_n hx hb dX6_apply_454 rfl (lv_at hl 1 rfl) ?_
      refine lv_iconst (v := (1 : Int32)) hx hb dX6_apply_455 (by decide) ?_
      refine lv_isub hx hb dX6_apply_456 ?_
      exact zret_i hx hb hr hlocks hK hP hD hS h dX6_apply_457
    · have h := h.2 hc
      refine lv_ldc2 (v := (-1000000 : Int64)) hx hb hown (hts _ (List.mem_cons_of_mem _ mw_575)) dX6_apply_445 ?_
      refine lv_goto (tgt := 453) hx hb dX6_apply_448 (by decide) ?_
      refine xs_31 hx hb hK hP hD hS h.1 rfl dX6_apply_453 (fun τ2 H locs eτ2 hP hD hS => ?_)
      have h := h.2
      have h := h τ2 eτ2
      refine lv_iload_n hx hb dX6_apply_454 rfl (lv_at hl 1 rfl) ?_
      refine lv_iconst (v := (1 : Int32)) hx hb dX6_apply_455 (by decide) ?_
      refine lv_isub hx hb dX6_apply_456 ?_
      exact zret_i hx hb hr hlocks hK hP hD hS h dX6_apply_457
  · have h := h.2 hc
    refine lv_ldc2 (v := (1000000 : Int64)) hx hb hown (hts _ (List.mem_cons_of_mem _ mw_574)) dX6_apply_430 ?_
    refine lv_goto (tgt := 453) hx hb dX6_apply_433 (by decide) ?_
    refine xs_31 hx hb hK hP hD hS h.1 rfl dX6_apply_453 (fun τ3 H locs eτ3 hP hD hS => ?_)
    have h := h.2
    have h := h τ3 eτ3
    refine lv_iload_n hx hb dX6_apply_454 rfl (lv_at hl 1 rfl) ?_
    refine lv_iconst (v := (1 : Int32)) hx hb dX6_apply_455 (by decide) ?_
    refine lv_isub hx hb dX6_apply_456 ?_
    exact zret_i hx hb hr hlocks hK hP hD hS h dX6_apply_457
set_option maxHeartbeats 4000000 in
set_option maxRecDepth 100000 in
theorem t_X6_apply_304 (C0 : zCx p s m meth c args RX6 cX6_apply 9 (some .int) vs_X6_apply) (hK : va_K (dC, dI) vwCl (x_ty cI cJ) s) (N : Nat) {Q : Int32 → zSt → Prop} : ∀ (x2 : Int32) (s0 : Int64) (σ : zSt) (H : Heap) (locs : List Loc) (ls : Array Slot), b_X6_apply_304 N  Q x2 s0 σ → va_P (dC, dI) vwCl (x_W ad cI cJ σ) H → va_D (zAW x_n ad s.heap.size) (x_W ad cI cJ σ) → va_S (zAW x_n ad s.heap.size) s.heap H locs → lv_has ls 9 [(0, .ref (ad 4)), (2, .int x2)] → W p l e rm_X6_apply s m args below meth c H locs 0 0 (MQ below (zQi (dC, dI) (x_ty cI cJ) (x_W ad cI cJ) (zAW x_n ad s.heap.size) Q) args s 0 0 (zAW x_n ad s.heap.size)) (F0 m 304 ls [.long s0]) := by
  obtain ⟨hx, hb, hml, hr, hown, hts, hlocks⟩ := id C0
  intro x2 s0 σ H locs ls h hP hD hS hl
  unfold b_X6_apply_304 at h
  refine lv_lstore (lv' := [(7, .long s0), (0, .ref (ad 4)), (2, .int x2)]) hx hb dX6_apply_304 hl (by decide) rfl (fun ls hl => ?_)
  refine lv_goto (tgt := 414) hx hb dX6_apply_306 (by decide) ?_
  exact t_X6_apply_414 C0 hK N  x2 s0 σ _ _ _ h hP hD hS (lv_sub hl [1, 2, 0] rfl)
set_option maxHeartbeats 4000000 in
set_option maxRecDepth 100000 in
theorem t_X6_apply_302 (C0 : zCx p s m meth c args RX6 cX6_apply 9 (some .int) vs_X6_apply) (hK : va_K (dC, dI) vwCl (x_ty cI cJ) s) (N : Nat) {Q : Int32 → zSt → Prop} : ∀ (x2 : Int32) (s0 : Int32) (s1 : Int64) (σ : zSt) (H : Heap) (locs : List Loc) (ls : Array Slot), b_X6_apply_302 N  Q x2 s0 s1 σ → va_P (dC, dI) vwCl (x_W ad cI cJ σ) H → va_D (zAW x_n ad s.heap.size) (x_W ad cI cJ σ) → va_S (zAW x_n ad s.heap.size) s.heap H locs → lv_has ls 9 [(0, .ref (ad 4)), (2, .int x2)] → W p l e rm_X6_apply s m args below meth c H locs 0 0 (MQ below (zQi (dC, dI) (x_ty cI cJ) (x_W ad cI cJ) (zAW x_n ad s.heap.size) Q) args s 0 0 (zAW x_n ad s.heap.size)) (F0 m 302 ls [.int s0, .long s1]) := by
  obtain ⟨hx, hb, hml, hr, hown, hts, hlocks⟩ := id C0
  intro x2 s0 s1 σ H locs ls h hP hD hS hl
  unfold b_X6_apply_302 at h
  refine lv_i2l hx hb dX6_apply_302 rfl ?_
  refine lv_lsub hx hb dX6_apply_303 ?_
  exact t_X6_apply_304 C0 hK N  x2 (s1 - s0.toInt64) σ _ _ _ h hP hD hS (lv_sub hl [0, 1] rfl)
set_option maxHeartbeats 4000000 in
set_option maxRecDepth 100000 in
theorem t_X6_apply_301 (C0 : zCx p s m meth c args RX6 cX6_apply 9 (some .int) vs_X6_apply) (hK : va_K (dC, dI) vwCl (x_ty cI cJ) s) (N : Nat) {Q : Int32 → zSt → Prop} : ∀ (x2 : Int32) (s0 : Int64) (σ : zSt) (H : Heap) (locs : List Loc) (ls : Array Slot), b_X6_apply_301 N  Q x2 s0 σ → va_P (dC, dI) vwCl (x_W ad cI cJ σ) H → va_D (zAW x_n ad s.heap.size) (x_W ad cI cJ σ) → va_S (zAW x_n ad s.heap.size) s.heap H locs → lv_has ls 9 [(0, .ref (ad 4)), (2, .int x2)] → W p l e rm_X6_apply s m args below meth c H locs 0 0 (MQ below (zQi (dC, dI) (x_ty cI cJ) (x_W ad cI cJ) (zAW x_n ad s.heap.size) Q) args s 0 0 (zAW x_n ad s.heap.size)) (F0 m 301 ls [.long s0]) := by
  obtain ⟨hx, hb, hml, hr, hown, hts, hlocks⟩ := id C0
  intro x2 s0 σ H locs ls h hP hD hS hl
  unfold b_X6_apply_301 at h
  refine lv_iconst (v := (0 : Int32)) hx hb dX6_apply_301 (by decide) ?_
  exact t_X6_apply_302 C0 hK N  x2 (0 : Int32) s0 σ _ _ _ h hP hD hS (lv_sub hl [0, 1] rfl)
set_option maxHeartbeats 4000000 in
set_option maxRecDepth 100000 in
theorem t_X6_apply_294 (C0 : zCx p s m meth c args RX6 cX6_apply 9 (some .int) vs_X6_apply) (hK : va_K (dC, dI) vwCl (x_ty cI cJ) s) (N : Nat) {Q : Int32 → zSt → Prop} : ∀ (x2 : Int32) (s0 : Int32) (s1 : Int32) (s2 : Int64) (σ : zSt) (H : Heap) (locs : List Loc) (ls : Array Slot), b_X6_apply_294 N  Q x2 s0 s1 s2 σ → va_P (dC, dI) vwCl (x_W ad cI cJ σ) H → va_D (zAW x_n ad s.heap.size) (x_W ad cI cJ σ) → va_S (zAW x_n ad s.heap.size) s.heap H locs → lv_has ls 9 [(0, .ref (ad 4)), (2, .int x2)] → W p l e rm_X6_apply s m args below meth c H locs 0 0 (MQ below (zQi (dC, dI) (x_ty cI cJ) (x_W ad cI cJ) (zAW x_n ad s.heap.size) Q) args s 0 0 (zAW x_n ad s.heap.size)) (F0 m 294 ls [.int s0, .int s1, .long s2]) := by
  obtain ⟨hx, hb, hml, hr, hown, hts, hlocks⟩ := id C0
  intro x2 s0 s1 s2 σ H locs ls h hP hD hS hl
  unfold b_X6_apply_294 at h
  refine lv_icmp_eq (tgt := 301) hx hb dX6_apply_294 (by decide) (fun hc => ?_) (fun hc => ?_)
  · have h := h.1 hc
    exact t_X6_apply_301 C0 hK N  x2 s2 σ _ _ _ h hP hD hS (lv_sub hl [0, 1] rfl)
  · have h := h.2 hc
    refine lv_iconst (v := (1 : Int32)) hx hb dX6_apply_297 (by decide) ?_
    refine lv_goto (tgt := 302) hx hb dX6_apply_298 (by decide) ?_
    exact t_X6_apply_302 C0 hK N  x2 (1 : Int32) s2 σ _ _ _ h hP hD hS (lv_sub hl [0, 1] rfl)
set_option maxHeartbeats 4000000 in
set_option maxRecDepth 100000 in
theorem t_X6_apply_282 (C0 : zCx p s m meth c args RX6 cX6_apply 9 (some .int) vs_X6_apply) (hK : va_K (dC, dI) vwCl (x_ty cI cJ) s) (N : Nat) {Q : Int32 → zSt → Prop} : ∀ (x2 : Int32) (x5 : Int64) (s0 : Int32) (s1 : Int64) (σ : zSt) (H : Heap) (locs : List Loc) (ls : Array Slot), b_X6_apply_282 N  Q x2 x5 s0 s1 σ → va_P (dC, dI) vwCl (x_W ad cI cJ σ) H → va_D (zAW x_n ad s.heap.size) (x_W ad cI cJ σ) → va_S (zAW x_n ad s.heap.size) s.heap H locs → lv_has ls 9 [(0, .ref (ad 4)), (2, .int x2), (5, .long x5)] → W p l e rm_X6_apply s m args below meth c H locs 0 0 (MQ below (zQi (dC, dI) (x_ty cI cJ) (x_W ad cI cJ) (zAW x_n ad s.heap.size) Q) args s 0 0 (zAW x_n ad s.heap.size)) (F0 m 282 ls [.int s0, .long s1]) := by
  obtain ⟨hx, hb, hml, hr, hown, hts, hlocks⟩ := id C0
  intro x2 x5 s0 s1 σ H locs ls h hP hD hS hl
  unfold b_X6_apply_282 at h
  refine lv_lload hx hb dX6_apply_282 (lv_at hl 2 rfl) ?_
  refine lv_lconst (v := (0 : Int64)) hx hb dX6_apply_284 (by decide) ?_
  refine W.lcmp hx hb dX6_apply_285 ?_
  refine lv_if_ge (tgt := 293) hx hb dX6_apply_286 (by decide) (fun hc => ?_) (fun hc => ?_)
  · have h := h.1 hc
    refine lv_iconst (v := (0 : Int32)) hx hb dX6_apply_293 (by decide) ?_
    exact t_X6_apply_294 C0 hK N  x2 (0 : Int32) s0 s1 σ _ _ _ h hP hD hS (lv_sub hl [0, 1] rfl)
  · have h := h.2 hc
    refine lv_iconst (v := (1 : Int32)) hx hb dX6_apply_289 (by decide) ?_
    refine lv_goto (tgt := 294) hx hb dX6_apply_290 (by decide) ?_
    exact t_X6_apply_294 C0 hK N  x2 (1 : Int32) s0 s1 σ _ _ _ h hP hD hS (lv_sub hl [0, 1] rfl)
set_option maxHeartbeats 4000000 in
set_option maxRecDepth 100000 in
theorem t_X6_apply_322 (C0 : zCx p s m meth c args RX6 cX6_apply 9 (some .int) vs_X6_apply) (hK : va_K (dC, dI) vwCl (x_ty cI cJ) s) (N : Nat) {Q : Int32 → zSt → Prop} : ∀ (x2 : Int32) (s0 : Int64) (σ : zSt) (H : Heap) (locs : List Loc) (ls : Array Slot), b_X6_apply_322 N  Q x2 s0 σ → va_P (dC, dI) vwCl (x_W ad cI cJ σ) H → va_D (zAW x_n ad s.heap.size) (x_W ad cI cJ σ) → va_S (zAW x_n ad s.heap.size) s.heap H locs → lv_has ls 9 [(0, .ref (ad 4)), (2, .int x2)] → W p l e rm_X6_apply s m args below meth c H locs 0 0 (MQ below (zQi (dC, dI) (x_ty cI cJ) (x_W ad cI cJ) (zAW x_n ad s.heap.size) Q) args s 0 0 (zAW x_n ad s.heap.size)) (F0 m 322 ls [.long s0]) := by
  obtain ⟨hx, hb, hml, hr, hown, hts, hlocks⟩ := id C0
  intro x2 s0 σ H locs ls h hP hD hS hl
  unfold b_X6_apply_322 at h
  refine lv_lstore (lv' := [(7, .long s0), (0, .ref (ad 4)), (2, .int x2)]) hx hb dX6_apply_322 hl (by decide) rfl (fun ls hl => ?_)
  refine lv_goto (tgt := 414) hx hb dX6_apply_324 (by decide) ?_
  exact t_X6_apply_414 C0 hK N  x2 s0 σ _ _ _ h hP hD hS (lv_sub hl [1, 2, 0] rfl)
set_option maxHeartbeats 4000000 in
set_option maxRecDepth 100000 in
theorem t_X6_apply_340 (C0 : zCx p s m meth c args RX6 cX6_apply 9 (some .int) vs_X6_apply) (hK : va_K (dC, dI) vwCl (x_ty cI cJ) s) (N : Nat) {Q : Int32 → zSt → Prop} : ∀ (x2 : Int32) (s0 : Int64) (σ : zSt) (H : Heap) (locs : List Loc) (ls : Array Slot), b_X6_apply_340 N  Q x2 s0 σ → va_P (dC, dI) vwCl (x_W ad cI cJ σ) H → va_D (zAW x_n ad s.heap.size) (x_W ad cI cJ σ) → va_S (zAW x_n ad s.heap.size) s.heap H locs → lv_has ls 9 [(0, .ref (ad 4)), (2, .int x2)] → W p l e rm_X6_apply s m args below meth c H locs 0 0 (MQ below (zQi (dC, dI) (x_ty cI cJ) (x_W ad cI cJ) (zAW x_n ad s.heap.size) Q) args s 0 0 (zAW x_n ad s.heap.size)) (F0 m 340 ls [.long s0]) := by
  obtain ⟨hx, hb, hml, hr, hown, hts, hlocks⟩ := id C0
  intro x2 s0 σ H locs ls h hP hD hS hl
  unfold b_X6_apply_340 at h
  refine lv_lstore (lv' := [(7, .long s0), (0, .ref (ad 4)), (2, .int x2)]) hx hb dX6_apply_340 hl (by decide) rfl (fun ls hl => ?_)
  refine lv_goto (tgt := 414) hx hb dX6_apply_342 (by decide) ?_
  exact t_X6_apply_414 C0 hK N  x2 s0 σ _ _ _ h hP hD hS (lv_sub hl [1, 2, 0] rfl)
set_option maxHeartbeats 4000000 in
set_option maxRecDepth 100000 in
theorem t_X6_apply_357 (C0 : zCx p s m meth c args RX6 cX6_apply 9 (some .int) vs_X6_apply) (hK : va_K (dC, dI) vwCl (x_ty cI cJ) s) (N : Nat) {Q : Int32 → zSt → Prop} : ∀ (x2 : Int32) (s0 : Int64) (σ : zSt) (H : Heap) (locs : List Loc) (ls : Array Slot), b_X6_apply_357 N  Q x2 s0 σ → va_P (dC, dI) vwCl (x_W ad cI cJ σ) H → va_D (zAW x_n ad s.heap.size) (x_W ad cI cJ σ) → va_S (zAW x_n ad s.heap.size) s.heap H locs → lv_has ls 9 [(0, .ref (ad 4)), (2, .int x2)] → W p l e rm_X6_apply s m args below meth c H locs 0 0 (MQ below (zQi (dC, dI) (x_ty cI cJ) (x_W ad cI cJ) (zAW x_n ad s.heap.size) Q) args s 0 0 (zAW x_n ad s.heap.size)) (F0 m 357 ls [.long s0]) := by
  obtain ⟨hx, hb, hml, hr, hown, hts, hlocks⟩ := id C0
  intro x2 s0 σ H locs ls h hP hD hS hl
  unfold b_X6_apply_357 at h
  refine lv_lstore (lv' := [(7, .long s0), (0, .ref (ad 4)), (2, .int x2)]) hx hb dX6_apply_357 hl (by decide) rfl (fun ls hl => ?_)
  refine lv_goto (tgt := 414) hx hb dX6_apply_359 (by decide) ?_
  exact t_X6_apply_414 C0 hK N  x2 s0 σ _ _ _ h hP hD hS (lv_sub hl [1, 2, 0] rfl)
set_option maxHeartbeats 4000000 in
set_option maxRecDepth 100000 in
theorem t_X6_apply_374 (C0 : zCx p s m meth c args RX6 cX6_apply 9 (some .int) vs_X6_apply) (hK : va_K (dC, dI) vwCl (x_ty cI cJ) s) (N : Nat) {Q : Int32 → zSt → Prop} : ∀ (x2 : Int32) (s0 : Int64) (σ : zSt) (H : Heap) (locs : List Loc) (ls : Array Slot), b_X6_apply_374 N  Q x2 s0 σ → va_P (dC, dI) vwCl (x_W ad cI cJ σ) H → va_D (zAW x_n ad s.heap.size) (x_W ad cI cJ σ) → va_S (zAW x_n ad s.heap.size) s.heap H locs → lv_has ls 9 [(0, .ref (ad 4)), (2, .int x2)] → W p l e rm_X6_apply s m args below meth c H locs 0 0 (MQ below (zQi (dC, dI) (x_ty cI cJ) (x_W ad cI cJ) (zAW x_n ad s.heap.size) Q) args s 0 0 (zAW x_n ad s.heap.size)) (F0 m 374 ls [.long s0]) := by
  obtain ⟨hx, hb, hml, hr, hown, hts, hlocks⟩ := id C0
  intro x2 s0 σ H locs ls h hP hD hS hl
  unfold b_X6_apply_374 at h
  refine lv_lstore (lv' := [(7, .long s0), (0, .ref (ad 4)), (2, .int x2)]) hx hb dX6_apply_374 hl (by decide) rfl (fun ls hl => ?_)
  refine lv_goto (tgt := 414) hx hb dX6_apply_376 (by decide) ?_
  exact t_X6_apply_414 C0 hK N  x2 s0 σ _ _ _ h hP hD hS (lv_sub hl [1, 2, 0] rfl)
set_option maxHeartbeats 4000000 in
set_option maxRecDepth 100000 in
theorem t_X6_apply_391 (C0 : zCx p s m meth c args RX6 cX6_apply 9 (some .int) vs_X6_apply) (hK : va_K (dC, dI) vwCl (x_ty cI cJ) s) (N : Nat) {Q : Int32 → zSt → Prop} : ∀ (x2 : Int32) (s0 : Int64) (σ : zSt) (H : Heap) (locs : List Loc) (ls : Array Slot), b_X6_apply_391 N  Q x2 s0 σ → va_P (dC, dI) vwCl (x_W ad cI cJ σ) H → va_D (zAW x_n ad s.heap.size) (x_W ad cI cJ σ) → va_S (zAW x_n ad s.heap.size) s.heap H locs → lv_has ls 9 [(0, .ref (ad 4)), (2, .int x2)] → W p l e rm_X6_apply s m args below meth c H locs 0 0 (MQ below (zQi (dC, dI) (x_ty cI cJ) (x_W ad cI cJ) (zAW x_n ad s.heap.size) Q) args s 0 0 (zAW x_n ad s.heap.size)) (F0 m 391 ls [.long s0]) := by
  obtain ⟨hx, hb, hml, hr, hown, hts, hlocks⟩ := id C0
  intro x2 s0 σ H locs ls h hP hD hS hl
  unfold b_X6_apply_391 at h
  refine lv_lstore (lv' := [(7, .long s0), (0, .ref (ad 4)), (2, .int x2)]) hx hb dX6_apply_391 hl (by decide) rfl (fun ls hl => ?_)
  refine lv_goto (tgt := 414) hx hb dX6_apply_393 (by decide) ?_
  exact t_X6_apply_414 C0 hK N  x2 s0 σ _ _ _ h hP hD hS (lv_sub hl [1, 2, 0] rfl)
set_option maxHeartbeats 4000000 in
set_option maxRecDepth 100000 in
theorem t_X6_apply_100 (C0 : zCx p s m meth c args RX6 cX6_apply 9 (some .int) vs_X6_apply) (hK : va_K (dC, dI) vwCl (x_ty cI cJ) s) (N : Nat) {Q : Int32 → zSt → Prop} : ∀ (x1 : Int32) (x2 : Int32) (s0 : Int32) (s1 : Int32) (σ : zSt) (H : Heap) (locs : List Loc) (ls : Array Slot), b_X6_apply_100 N  Q x1 x2 s0 s1 σ → va_P (dC, dI) vwCl (x_W ad cI cJ σ) H → va_D (zAW x_n ad s.heap.size) (x_W ad cI cJ σ) → va_S (zAW x_n ad s.heap.size) s.heap H locs → lv_has ls 9 [(0, .ref (ad 4)), (1, .int x1), (2, .int x2)] → W p l e rm_X6_apply s m args below meth c H locs 0 0 (MQ below (zQi (dC, dI) (x_ty cI cJ) (x_W ad cI cJ) (zAW x_n ad s.heap.size) Q) args s 0 0 (zAW x_n ad s.heap.size)) (F0 m 100 ls [.int s0, .int s1]) := by
  obtain ⟨hx, hb, hml, hr, hown, hts, hlocks⟩ := id C0
  intro x1 x2 s0 s1 σ H locs ls h hP hD hS hl
  unfold b_X6_apply_100 at h
  refine lv_icmp_lt (tgt := 109) hx hb dX6_apply_100 (by decide) (fun hc => ?_) (fun hc => ?_)
  · have h := h.1 hc
    refine lv_iload_n hx hb dX6_apply_109 rfl (lv_at hl 2 rfl) ?_
    exact zret_i hx hb hr hlocks hK hP hD hS h dX6_apply_110
  · have h := h.2 hc
    refine lv_iload_n hx hb dX6_apply_103 rfl (lv_at hl 2 rfl) ?_
    refine lv_bipush (v := (64 : Int32)) hx hb dX6_apply_104 (by decide) ?_
    refine lv_icmp_le (tgt := 111) hx hb dX6_apply_106 (by decide) (fun hc => ?_) (fun hc => ?_)
    · have h := h.1 hc
      refine lv_iload_n hx hb dX6_apply_111 rfl (lv_at hl 1 rfl) ?_
      refine lv_bipush (v := (11 : Int32)) hx hb dX6_apply_112 (by decide) ?_
      refine lv_icmp_ne (tgt := 137) hx hb dX6_apply_114 (by decide) (fun hc => ?_) (fun hc => ?_)
      · have h := h.2 hc
        refine lv_aload_n hx hb dX6_apply_137 rfl (lv_at hl 0 rfl) ?_
        refine xg_4_5 hx hb hts hown hK hP mw_97 dX6_apply_138 ?_
        refine lv_iload_n hx hb dX6_apply_141 rfl (lv_at hl 2 rfl) ?_
        refine lv_iconst (v := (2 : Int32)) hx hb dX6_apply_142 (by decide) ?_
        refine lv_isub hx hb dX6_apply_143 ?_
        refine xa_31 hx hb hK hP h.1 rfl dX6_apply_144 ?_
        have h := h.2
        refine lv_topl (fun v1 ev1 => ?_)
        have h := h v1 ev1
        refine lv_lstore_n (lv' := [(3, .long v1), (0, .ref (ad 4)), (1, .int x1), (2, .int x2)]) hx hb dX6_apply_145 rfl hl (by decide) rfl (fun ls hl => ?_)
        refine lv_aload_n hx hb dX6_apply_146 rfl (lv_at hl 1 rfl) ?_
        refine xg_4_5 hx hb hts hown hK hP mw_97 dX6_apply_147 ?_
        refine lv_iload_n hx hb dX6_apply_150 rfl (lv_at hl 3 rfl) ?_
        refine lv_iconst (v := (1 : Int32)) hx hb dX6_apply_151 (by decide) ?_
        refine lv_isub hx hb dX6_apply_152 ?_
        refine xa_31 hx hb hK hP h.1 rfl dX6_apply_153 ?_
        have h := h.2
        refine lv_topl (fun v2 ev2 => ?_)
        have h := h v2 ev2
        refine lv_lstore (lv' := [(5, .long v2), (3, .long v1), (0, .ref (ad 4)), (1, .int x1), (2, .int x2)]) hx hb dX6_apply_154 hl (by decide) rfl (fun ls hl => ?_)
        refine lv_lconst (v := (0 : Int64)) hx hb dX6_apply_156 (by decide) ?_
        refine lv_lstore (lv' := [(7, .long (0 : Int64)), (5, .long v2), (3, .long v1), (0, .ref (ad 4)), (1, .int x1), (2, .int x2)]) hx hb dX6_apply_157 hl (by decide) rfl (fun ls hl => ?_)
        refine lv_iload_n hx hb dX6_apply_159 rfl (lv_at hl 4 rfl) ?_
        by_cases hc0 : x1 = (0 : Int32)
        · have h := h.1 hc0
          refine lv_tableIn (off := 60) (tgt := 220) hx hb dX6_apply_160 (by rw [hc0]; decide) (by rw [hc0]; decide) (by rw [hc0]; rfl) (by decide) ?_
          refine lv_lload_n hx hb dX6_apply_220 rfl (lv_at hl 2 rfl) ?_
          refine lv_lload hx hb dX6_apply_221 (lv_at hl 1 rfl) ?_
          refine lv_ladd hx hb dX6_apply_223 ?_
          refine lv_topl (fun v3 ev3 => ?_)
          have h := h v3 ev3
          refine lv_lstore (lv' := [(7, .long v3), (5, .long v2), (3, .long v1), (0, .ref (ad 4)), (1, .int x1), (2, .int x2)]) hx hb dX6_apply_224 hl (by decide) rfl (fun ls hl => ?_)
          refine lv_goto (tgt := 414) hx hb dX6_apply_226 (by decide) ?_
          exact t_X6_apply_414 C0 hK N  x2 v3 σ _ _ _ h hP hD hS (lv_sub hl [3, 5, 0] rfl)
        · have hn0 := hc0
          have h := h.2 hc0
          by_cases hc1 : x1 = (1 : Int32)
          · have h := h.1 hc1
            refine lv_tableIn (off := 69) (tgt := 229) hx hb dX6_apply_160 (by rw [hc1]; decide) (by rw [hc1]; decide) (by rw [hc1]; rfl) (by decide) ?_
            refine lv_lload_n hx hb dX6_apply_229 rfl (lv_at hl 2 rfl) ?_
            refine lv_lload hx hb dX6_apply_230 (lv_at hl 1 rfl) ?_
            refine lv_lsub hx hb dX6_apply_232 ?_
            refine lv_topl (fun v4 ev4 => ?_)
            have h := h v4 ev4
            refine lv_lstore (lv' := [(7, .long v4), (5, .long v2), (3, .long v1), (0, .ref (ad 4)), (1, .int x1), (2, .int x2)]) hx hb dX6_apply_233 hl (by decide) rfl (fun ls hl => ?_)
            refine lv_goto (tgt := 414) hx hb dX6_apply_235 (by decide) ?_
            exact t_X6_apply_414 C0 hK N  x2 v4 σ _ _ _ h hP hD hS (lv_sub hl [3, 5, 0] rfl)
          · have hn1 := hc1
            have h := h.2 hc1
            by_cases hc2 : x1 = (2 : Int32)
            · have h := h.1 hc2
              refine lv_tableIn (off := 78) (tgt := 238) hx hb dX6_apply_160 (by rw [hc2]; decide) (by rw [hc2]; decide) (by rw [hc2]; rfl) (by decide) ?_
              refine lv_lload_n hx hb dX6_apply_238 rfl (lv_at hl 2 rfl) ?_
              refine lv_lload hx hb dX6_apply_239 (lv_at hl 1 rfl) ?_
              refine lv_lmul hx hb dX6_apply_241 ?_
              refine lv_topl (fun v5 ev5 => ?_)
              have h := h v5 ev5
              refine lv_lstore (lv' := [(7, .long v5), (5, .long v2), (3, .long v1), (0, .ref (ad 4)), (1, .int x1), (2, .int x2)]) hx hb dX6_apply_242 hl (by decide) rfl (fun ls hl => ?_)
              refine lv_goto (tgt := 414) hx hb dX6_apply_244 (by decide) ?_
              exact t_X6_apply_414 C0 hK N  x2 v5 σ _ _ _ h hP hD hS (lv_sub hl [3, 5, 0] rfl)
            · have hn2 := hc2
              have h := h.2 hc2
              by_cases hc3 : x1 = (3 : Int32)
              · have h := h.1 hc3
                refine lv_tableIn (off := 87) (tgt := 247) hx hb dX6_apply_160 (by rw [hc3]; decide) (by rw [hc3]; decide) (by rw [hc3]; rfl) (by decide) ?_
                refine lv_lload hx hb dX6_apply_247 (lv_at hl 1 rfl) ?_
                refine lv_lconst (v := (0 : Int64)) hx hb dX6_apply_249 (by decide) ?_
                refine W.lcmp hx hb dX6_apply_250 ?_
                refine lv_if_ne (tgt := 258) hx hb dX6_apply_251 (by decide) (fun hc => ?_) (fun hc => ?_)
                · have h := h.2 hc
                  refine lv_lload_n hx hb dX6_apply_258 rfl (lv_at hl 2 rfl) ?_
                  refine lv_lload hx hb dX6_apply_259 (lv_at hl 1 rfl) ?_
                  refine lv_ldiv hx hb dX6_apply_261 h.1 ?_
                  have h := h.2
                  refine lv_lload_n hx hb dX6_apply_262 rfl (lv_at hl 2 rfl) ?_
                  refine lv_lload hx hb dX6_apply_263 (lv_at hl 1 rfl) ?_
                  refine lv_lrem hx hb dX6_apply_265 h.1 ?_
                  have h := h.2
                  refine lv_lconst (v := (0 : Int64)) hx hb dX6_apply_266 (by decide) ?_
                  refine W.lcmp hx hb dX6_apply_267 ?_
                  refine lv_if_eq (tgt := 301) hx hb dX6_apply_268 (by decide) (fun hc => ?_) (fun hc => ?_)
                  · have h := h.1 hc
                    exact t_X6_apply_301 C0 hK N  x2 (v1 / v2) σ _ _ _ h hP hD hS (lv_sub hl [3, 5] rfl)
                  · have h := h.2 hc
                    refine lv_lload_n hx hb dX6_apply_271 rfl (lv_at hl 2 rfl) ?_
                    refine lv_lconst (v := (0 : Int64)) hx hb dX6_apply_272 (by decide) ?_
                    refine W.lcmp hx hb dX6_apply_273 ?_
                    refine lv_if_ge (tgt := 281) hx hb dX6_apply_274 (by decide) (fun hc => ?_) (fun hc => ?_)
                    · have h := h.1 hc
                      refine lv_iconst (v := (0 : Int32)) hx hb dX6_apply_281 (by decide) ?_
                      exact t_X6_apply_282 C0 hK N  x2 v2 (0 : Int32) (v1 / v2) σ _ _ _ h hP hD hS (lv_sub hl [3, 5, 1] rfl)
                    · have h := h.2 hc
                      refine lv_iconst (v := (1 : Int32)) hx hb dX6_apply_277 (by decide) ?_
                      refine lv_goto (tgt := 282) hx hb dX6_apply_278 (by decide) ?_
                      exact t_X6_apply_282 C0 hK N  x2 v2 (1 : Int32) (v1 / v2) σ _ _ _ h hP hD hS (lv_sub hl [3, 5, 1] rfl)
                · have h := h.1 hc
                  refine lv_lconst (v := (0 : Int64)) hx hb dX6_apply_254 (by decide) ?_
                  refine lv_goto (tgt := 304) hx hb dX6_apply_255 (by decide) ?_
                  exact t_X6_apply_304 C0 hK N  x2 (0 : Int64) σ _ _ _ h hP hD hS (lv_sub hl [3, 5] rfl)
              · have hn3 := hc3
                have h := h.2 hc3
                by_cases hc4 : x1 = (4 : Int32)
                · have h := h.1 hc4
                  refine lv_tableIn (off := 149) (tgt := 309) hx hb dX6_apply_160 (by rw [hc4]; decide) (by rw [hc4]; decide) (by rw [hc4]; rfl) (by decide) ?_
                  refine lv_lload_n hx hb dX6_apply_309 rfl (lv_at hl 2 rfl) ?_
                  refine lv_lload hx hb dX6_apply_310 (lv_at hl 1 rfl) ?_
                  refine W.lcmp hx hb dX6_apply_312 ?_
                  refine lv_if_ge (tgt := 320) hx hb dX6_apply_313 (by decide) (fun hc => ?_) (fun hc => ?_)
                  · have h := h.1 hc
                    refine lv_lload hx hb dX6_apply_320 (lv_at hl 1 rfl) ?_
                    exact t_X6_apply_322 C0 hK N  x2 v2 σ _ _ _ h hP hD hS (lv_sub hl [3, 5] rfl)
                  · have h := h.2 hc
                    refine lv_lload_n hx hb dX6_apply_316 rfl (lv_at hl 2 rfl) ?_
                    refine lv_goto (tgt := 322) hx hb dX6_apply_317 (by decide) ?_
                    exact t_X6_apply_322 C0 hK N  x2 v1 σ _ _ _ h hP hD hS (lv_sub hl [3, 5] rfl)
                · have hn4 := hc4
                  have h := h.2 hc4
                  by_cases hc5 : x1 = (5 : Int32)
                  · have h := h.1 hc5
                    refine lv_tableIn (off := 167) (tgt := 327) hx hb dX6_apply_160 (by rw [hc5]; decide) (by rw [hc5]; decide) (by rw [hc5]; rfl) (by decide) ?_
                    refine lv_lload_n hx hb dX6_apply_327 rfl (lv_at hl 2 rfl) ?_
                    refine lv_lload hx hb dX6_apply_328 (lv_at hl 1 rfl) ?_
                    refine W.lcmp hx hb dX6_apply_330 ?_
                    refine lv_if_le (tgt := 338) hx hb dX6_apply_331 (by decide) (fun hc => ?_) (fun hc => ?_)
                    · have h := h.1 hc
                      refine lv_lload hx hb dX6_apply_338 (lv_at hl 1 rfl) ?_
                      exact t_X6_apply_340 C0 hK N  x2 v2 σ _ _ _ h hP hD hS (lv_sub hl [3, 5] rfl)
                    · have h := h.2 hc
                      refine lv_lload_n hx hb dX6_apply_334 rfl (lv_at hl 2 rfl) ?_
                      refine lv_goto (tgt := 340) hx hb dX6_apply_335 (by decide) ?_
                      exact t_X6_apply_340 C0 hK N  x2 v1 σ _ _ _ h hP hD hS (lv_sub hl [3, 5] rfl)
                  · have hn5 := hc5
                    have h := h.2 hc5
                    by_cases hc6 : x1 = (6 : Int32)
                    · have h := h.1 hc6
                      refine lv_tableIn (off := 185) (tgt := 345) hx hb dX6_apply_160 (by rw [hc6]; decide) (by rw [hc6]; decide) (by rw [hc6]; rfl) (by decide) ?_
                      refine lv_lload_n hx hb dX6_apply_345 rfl (lv_at hl 2 rfl) ?_
                      refine lv_lload hx hb dX6_apply_346 (lv_at hl 1 rfl) ?_
                      refine W.lcmp hx hb dX6_apply_348 ?_
                      refine lv_if_ge (tgt := 356) hx hb dX6_apply_349 (by decide) (fun hc => ?_) (fun hc => ?_)
                      · have h := h.1 hc
                        refine lv_lconst (v := (0 : Int64)) hx hb dX6_apply_356 (by decide) ?_
                        exact t_X6_apply_357 C0 hK N  x2 (0 : Int64) σ _ _ _ h hP hD hS (lv_sub hl [3, 5] rfl)
                      · have h := h.2 hc
                        refine lv_lconst (v := (1 : Int64)) hx hb dX6_apply_352 (by decide) ?_
                        refine lv_goto (tgt := 357) hx hb dX6_apply_353 (by decide) ?_
                        exact t_X6_apply_357 C0 hK N  x2 (1 : Int64) σ _ _ _ h hP hD hS (lv_sub hl [3, 5] rfl)
                    · have hn6 := hc6
                      have h := h.2 hc6
                      by_cases hc7 : x1 = (7 : Int32)
                      · have h := h.1 hc7
                        refine lv_tableIn (off := 202) (tgt := 362) hx hb dX6_apply_160 (by rw [hc7]; decide) (by rw [hc7]; decide) (by rw [hc7]; rfl) (by decide) ?_
                        refine lv_lload_n hx hb dX6_apply_362 rfl (lv_at hl 2 rfl) ?_
                        refine lv_lload hx hb dX6_apply_363 (lv_at hl 1 rfl) ?_
                        refine W.lcmp hx hb dX6_apply_365 ?_
                        refine lv_if_le (tgt := 373) hx hb dX6_apply_366 (by decide) (fun hc => ?_) (fun hc => ?_)
                        · have h := h.1 hc
                          refine lv_lconst (v := (0 : Int64)) hx hb dX6_apply_373 (by decide) ?_
                          exact t_X6_apply_374 C0 hK N  x2 (0 : Int64) σ _ _ _ h hP hD hS (lv_sub hl [3, 5] rfl)
                        · have h := h.2 hc
                          refine lv_lconst (v := (1 : Int64)) hx hb dX6_apply_369 (by decide) ?_
                          refine lv_goto (tgt := 374) hx hb dX6_apply_370 (by decide) ?_
                          exact t_X6_apply_374 C0 hK N  x2 (1 : Int64) σ _ _ _ h hP hD hS (lv_sub hl [3, 5] rfl)
                      · have hn7 := hc7
                        have h := h.2 hc7
                        by_cases hc8 : x1 = (8 : Int32)
                        · have h := h.1 hc8
                          refine lv_tableIn (off := 219) (tgt := 379) hx hb dX6_apply_160 (by rw [hc8]; decide) (by rw [hc8]; decide) (by rw [hc8]; rfl) (by decide) ?_
                          refine lv_lload_n hx hb dX6_apply_379 rfl (lv_at hl 2 rfl) ?_
                          refine lv_lload hx hb dX6_apply_380 (lv_at hl 1 rfl) ?_
                          refine W.lcmp hx hb dX6_apply_382 ?_
                          refine lv_if_ne (tgt := 390) hx hb dX6_apply_383 (by decide) (fun hc => ?_) (fun hc => ?_)
                          · have h := h.2 hc
                            refine lv_lconst (v := (0 : Int64)) hx hb dX6_apply_390 (by decide) ?_
                            exact t_X6_apply_391 C0 hK N  x2 (0 : Int64) σ _ _ _ h hP hD hS (lv_sub hl [3, 5] rfl)
                          · have h := h.1 hc
                            refine lv_lconst (v := (1 : Int64)) hx hb dX6_apply_386 (by decide) ?_
                            refine lv_goto (tgt := 391) hx hb dX6_apply_387 (by decide) ?_
                            exact t_X6_apply_391 C0 hK N  x2 (1 : Int64) σ _ _ _ h hP hD hS (lv_sub hl [3, 5] rfl)
                        · have hn8 := hc8
                          have h := h.2 hc8
                          by_cases hc9 : x1 = (9 : Int32)
                          · have h := h.1 hc9
                            refine lv_tableIn (off := 236) (tgt := 396) hx hb dX6_apply_160 (by rw [hc9]; decide) (by rw [hc9]; decide) (by rw [hc9]; rfl) (by decide) ?_
                            refine lv_lload_n hx hb dX6_apply_396 rfl (lv_at hl 2 rfl) ?_
                            refine lv_lload hx hb dX6_apply_397 (lv_at hl 1 rfl) ?_
                            refine lv_land hx hb dX6_apply_399 ?_
                            refine lv_topl (fun v6 ev6 => ?_)
                            have h := h v6 ev6
                            refine lv_lstore (lv' := [(7, .long v6), (5, .long v2), (3, .long v1), (0, .ref (ad 4)), (1, .int x1), (2, .int x2)]) hx hb dX6_apply_400 hl (by decide) rfl (fun ls hl => ?_)
                            refine lv_goto (tgt := 414) hx hb dX6_apply_402 (by decide) ?_
                            exact t_X6_apply_414 C0 hK N  x2 v6 σ _ _ _ h hP hD hS (lv_sub hl [3, 5, 0] rfl)
                          · have hn9 := hc9
                            have h := h.2 hc9
                            by_cases hc10 : x1 = (10 : Int32)
                            · have h := h.1 hc10
                              refine lv_tableIn (off := 245) (tgt := 405) hx hb dX6_apply_160 (by rw [hc10]; decide) (by rw [hc10]; decide) (by rw [hc10]; rfl) (by decide) ?_
                              refine lv_lload_n hx hb dX6_apply_405 rfl (lv_at hl 2 rfl) ?_
                              refine lv_lload hx hb dX6_apply_406 (lv_at hl 1 rfl) ?_
                              refine lv_lor hx hb dX6_apply_408 ?_
                              refine lv_topl (fun v7 ev7 => ?_)
                              have h := h v7 ev7
                              refine lv_lstore (lv' := [(7, .long v7), (5, .long v2), (3, .long v1), (0, .ref (ad 4)), (1, .int x1), (2, .int x2)]) hx hb dX6_apply_409 hl (by decide) rfl (fun ls hl => ?_)
                              refine lv_goto (tgt := 414) hx hb dX6_apply_411 (by decide) ?_
                              exact t_X6_apply_414 C0 hK N  x2 v7 σ _ _ _ h hP hD hS (lv_sub hl [3, 5, 0] rfl)
                            · have hn10 := hc10
                              have h := h.2 hc10
                              refine lv_tableOut (tgt := 414) hx hb dX6_apply_160 (by have e0 := zne (k := 0) (by decide) hn0; have e1 := zne (k := 1) (by decide) hn1; have e2 := zne (k := 2) (by decide) hn2; have e3 := zne (k := 3) (by decide) hn3; have e4 := zne (k := 4) (by decide) hn4; have e5 := zne (k := 5) (by decide) hn5; have e6 := zne (k := 6) (by decide) hn6; have e7 := zne (k := 7) (by decide) hn7; have e8 := zne (k := 8) (by decide) hn8; have e9 := zne (k := 9) (by decide) hn9; have e10 := zne (k := 10) (by decide) hn10; omega) (by decide) ?_
                              exact t_X6_apply_414 C0 hK N  x2 (0 : Int64) σ _ _ _ h hP hD hS (lv_sub hl [3, 5, 0] rfl)
      · have h := h.1 hc
        refine lv_aload_n hx hb dX6_apply_117 rfl (lv_at hl 0 rfl) ?_
        refine xg_4_5 hx hb hts hown hK hP mw_97 dX6_apply_118 ?_
        refine lv_iload_n hx hb dX6_apply_121 rfl (lv_at hl 2 rfl) ?_
        refine lv_iconst (v := (1 : Int32)) hx hb dX6_apply_122 (by decide) ?_
        refine lv_isub hx hb dX6_apply_123 ?_
        refine lv_lconst (v := (1 : Int64)) hx hb dX6_apply_124 (by decide) ?_
        refine lv_aload_n hx hb dX6_apply_125 rfl (lv_at hl 0 rfl) ?_
        refine xg_4_5 hx hb hts hown hK hP mw_97 dX6_apply_126 ?_
        refine lv_iload_n hx hb dX6_apply_129 rfl (lv_at hl 2 rfl) ?_
        refine lv_iconst (v := (1 : Int32)) hx hb dX6_apply_130 (by decide) ?_
        refine lv_isub hx hb dX6_apply_131 ?_
        refine xa_31 hx hb hK hP h.1 rfl dX6_apply_132 ?_
        have h := h.2
        refine lv_lsub hx hb dX6_apply_133 ?_
        refine xs_31 hx hb hK hP hD hS h.1 rfl dX6_apply_134 (fun τ8 H locs eτ8 hP hD hS => ?_)
        have h := h.2
        have h := h τ8 eτ8
        refine lv_iload_n hx hb dX6_apply_135 rfl (lv_at hl 2 rfl) ?_
        exact zret_i hx hb hr hlocks hK hP hD hS h dX6_apply_136
    · have h := h.2 hc
      refine lv_iload_n hx hb dX6_apply_109 rfl (lv_at hl 2 rfl) ?_
      exact zret_i hx hb hr hlocks hK hP hD hS h dX6_apply_110
set_option maxHeartbeats 4000000 in
set_option maxRecDepth 100000 in
theorem t_X6_apply_0 (C0 : zCx p s m meth c args RX6 cX6_apply 9 (some .int) vs_X6_apply) (hK : va_K (dC, dI) vwCl (x_ty cI cJ) s) (N : Nat) {Q : Int32 → zSt → Prop} : ∀ (x1 : Int32) (x2 : Int32) (σ : zSt) (H : Heap) (locs : List Loc) (ls : Array Slot), w_X6_apply N x1 x2 σ Q → va_P (dC, dI) vwCl (x_W ad cI cJ σ) H → va_D (zAW x_n ad s.heap.size) (x_W ad cI cJ σ) → va_S (zAW x_n ad s.heap.size) s.heap H locs → lv_has ls 9 [(0, .ref (ad 4)), (1, .int x1), (2, .int x2)] → W p l e rm_X6_apply s m args below meth c H locs 0 0 (MQ below (zQi (dC, dI) (x_ty cI cJ) (x_W ad cI cJ) (zAW x_n ad s.heap.size) Q) args s 0 0 (zAW x_n ad s.heap.size)) (F0 m 0 ls []) := by
  obtain ⟨hx, hb, hml, hr, hown, hts, hlocks⟩ := id C0
  intro x1 x2 σ H locs ls h hP hD hS hl
  unfold w_X6_apply at h
  refine lv_iload_n hx hb dX6_apply_0 rfl (lv_at hl 1 rfl) ?_
  refine lv_bipush (v := (12 : Int32)) hx hb dX6_apply_1 (by decide) ?_
  refine lv_icmp_lt (tgt := 88) hx hb dX6_apply_3 (by decide) (fun hc => ?_) (fun hc => ?_)
  · have h := h.1 hc
    refine lv_iload_n hx hb dX6_apply_88 rfl (lv_at hl 2 rfl) ?_
    refine lv_iload_n hx hb dX6_apply_89 rfl (lv_at hl 1 rfl) ?_
    refine lv_bipush (v := (11 : Int32)) hx hb dX6_apply_90 (by decide) ?_
    refine lv_icmp_ne (tgt := 99) hx hb dX6_apply_92 (by decide) (fun hc => ?_) (fun hc => ?_)
    · have h := h.2 hc
      refine lv_iconst (v := (2 : Int32)) hx hb dX6_apply_99 (by decide) ?_
      exact t_X6_apply_100 C0 hK N  x1 x2 (2 : Int32) x2 σ _ _ _ h hP hD hS (lv_sub hl [0, 1, 2] rfl)
    · have h := h.1 hc
      refine lv_iconst (v := (1 : Int32)) hx hb dX6_apply_95 (by decide) ?_
      refine lv_goto (tgt := 100) hx hb dX6_apply_96 (by decide) ?_
      exact t_X6_apply_100 C0 hK N  x1 x2 (1 : Int32) x2 σ _ _ _ h hP hD hS (lv_sub hl [0, 1, 2] rfl)
  · have h := h.2 hc
    refine lv_iload_n hx hb dX6_apply_6 rfl (lv_at hl 2 rfl) ?_
    refine lv_bipush (v := (64 : Int32)) hx hb dX6_apply_7 (by decide) ?_
    refine lv_icmp_ge (tgt := 84) hx hb dX6_apply_9 (by decide) (fun hc => ?_) (fun hc => ?_)
    · have h := h.1 hc
      refine lv_iload_n hx hb dX6_apply_84 rfl (lv_at hl 2 rfl) ?_
      refine lv_iconst (v := (1 : Int32)) hx hb dX6_apply_85 (by decide) ?_
      refine lv_iadd hx hb dX6_apply_86 ?_
      exact zret_i hx hb hr hlocks hK hP hD hS h dX6_apply_87
    · have h := h.2 hc
      refine lv_aload_n hx hb dX6_apply_12 rfl (lv_at hl 0 rfl) ?_
      refine xg_4_5 hx hb hts hown hK hP mw_97 dX6_apply_13 ?_
      refine lv_iload_n hx hb dX6_apply_16 rfl (lv_at hl 2 rfl) ?_
      refine lv_iload_n hx hb dX6_apply_17 rfl (lv_at hl 1 rfl) ?_
      refine lv_bipush (v := (100 : Int32)) hx hb dX6_apply_18 (by decide) ?_
      refine lv_icmp_lt (tgt := 31) hx hb dX6_apply_20 (by decide) (fun hc => ?_) (fun hc => ?_)
      · have h := h.1 hc
        refine lv_iload_n hx hb dX6_apply_31 rfl (lv_at hl 1 rfl) ?_
        refine lv_bipush (v := (30 : Int32)) hx hb dX6_apply_32 (by decide) ?_
        refine lv_icmp_lt (tgt := 57) hx hb dX6_apply_34 (by decide) (fun hc => ?_) (fun hc => ?_)
        · have h := h.1 hc
          refine lv_iload_n hx hb dX6_apply_57 rfl (lv_at hl 1 rfl) ?_
          refine lv_bipush (v := (20 : Int32)) hx hb dX6_apply_58 (by decide) ?_
          refine lv_icmp_lt (tgt := 82) hx hb dX6_apply_60 (by decide) (fun hc => ?_) (fun hc => ?_)
          · have h := h.1 hc
            refine lv_lconst (v := (1 : Int64)) hx hb dX6_apply_82 (by decide) ?_
            refine xs_31 hx hb hK hP hD hS h.1 rfl dX6_apply_83 (fun τ1 H locs eτ1 hP hD hS => ?_)
            have h := h.2
            have h := h τ1 eτ1
            refine lv_iload_n hx hb dX6_apply_84 rfl (lv_at hl 2 rfl) ?_
            refine lv_iconst (v := (1 : Int32)) hx hb dX6_apply_85 (by decide) ?_
            refine lv_iadd hx hb dX6_apply_86 ?_
            exact zret_i hx hb hr hlocks hK hP hD hS h dX6_apply_87
          · have h := h.2 hc
            refine lv_iload_n hx hb dX6_apply_63 rfl (lv_at hl 1 rfl) ?_
            refine lv_bipush (v := (25 : Int32)) hx hb dX6_apply_64 (by decide) ?_
            refine lv_icmp_ge (tgt := 82) hx hb dX6_apply_66 (by decide) (fun hc => ?_) (fun hc => ?_)
            · have h := h.1 hc
              refine lv_lconst (v := (1 : Int64)) hx hb dX6_apply_82 (by decide) ?_
              refine xs_31 hx hb hK hP hD hS h.1 rfl dX6_apply_83 (fun τ2 H locs eτ2 hP hD hS => ?_)
              have h := h.2
              have h := h τ2 eτ2
              refine lv_iload_n hx hb dX6_apply_84 rfl (lv_at hl 2 rfl) ?_
              refine lv_iconst (v := (1 : Int32)) hx hb dX6_apply_85 (by decide) ?_
              refine lv_iadd hx hb dX6_apply_86 ?_
              exact zret_i hx hb hr hlocks hK hP hD hS h dX6_apply_87
            · have h := h.2 hc
              refine lv_aload_n hx hb dX6_apply_69 rfl (lv_at hl 0 rfl) ?_
              refine xg_4_6 hx hb hts hown hK hP mw_98 dX6_apply_70 ?_
              refine lv_iload_n hx hb dX6_apply_73 rfl (lv_at hl 1 rfl) ?_
              refine lv_bipush (v := (20 : Int32)) hx hb dX6_apply_74 (by decide) ?_
              refine lv_isub hx hb dX6_apply_76 ?_
              refine xa_32 hx hb hK hP h.1 rfl dX6_apply_77 ?_
              have h := h.2
              refine lv_i2l hx hb dX6_apply_78 rfl ?_
              refine lv_goto (tgt := 83) hx hb dX6_apply_79 (by decide) ?_
              refine xs_31 hx hb hK hP hD hS h.1 rfl dX6_apply_83 (fun τ3 H locs eτ3 hP hD hS => ?_)
              have h := h.2
              have h := h τ3 eτ3
              refine lv_iload_n hx hb dX6_apply_84 rfl (lv_at hl 2 rfl) ?_
              refine lv_iconst (v := (1 : Int32)) hx hb dX6_apply_85 (by decide) ?_
              refine lv_iadd hx hb dX6_apply_86 ?_
              exact zret_i hx hb hr hlocks hK hP hD hS h dX6_apply_87
        · have h := h.2 hc
          refine lv_iload_n hx hb dX6_apply_37 rfl (lv_at hl 1 rfl) ?_
          refine lv_bipush (v := (30 : Int32)) hx hb dX6_apply_38 (by decide) ?_
          refine lv_isub hx hb dX6_apply_40 ?_
          refine lv_aload_n hx hb dX6_apply_41 rfl (lv_at hl 0 rfl) ?_
          refine xg_4_9 hx hb hts hown hK hP mw_105 dX6_apply_42 ?_
          refine lv_icmp_ne (tgt := 52) hx hb dX6_apply_45 (by decide) (fun hc => ?_) (fun hc => ?_)
          · have h := h.2 hc
            refine lv_iconst (v := (0 : Int32)) hx hb dX6_apply_52 (by decide) ?_
            refine lv_i2l hx hb dX6_apply_53 rfl ?_
            refine lv_goto (tgt := 83) hx hb dX6_apply_54 (by decide) ?_
            refine xs_31 hx hb hK hP hD hS h.1 rfl dX6_apply_83 (fun τ4 H locs eτ4 hP hD hS => ?_)
            have h := h.2
            have h := h τ4 eτ4
            refine lv_iload_n hx hb dX6_apply_84 rfl (lv_at hl 2 rfl) ?_
            refine lv_iconst (v := (1 : Int32)) hx hb dX6_apply_85 (by decide) ?_
            refine lv_iadd hx hb dX6_apply_86 ?_
            exact zret_i hx hb hr hlocks hK hP hD hS h dX6_apply_87
          · have h := h.1 hc
            refine lv_iconst (v := (1 : Int32)) hx hb dX6_apply_48 (by decide) ?_
            refine lv_goto (tgt := 53) hx hb dX6_apply_49 (by decide) ?_
            refine lv_i2l hx hb dX6_apply_53 rfl ?_
            refine lv_goto (tgt := 83) hx hb dX6_apply_54 (by decide) ?_
            refine xs_31 hx hb hK hP hD hS h.1 rfl dX6_apply_83 (fun τ5 H locs eτ5 hP hD hS => ?_)
            have h := h.2
            have h := h τ5 eτ5
            refine lv_iload_n hx hb dX6_apply_84 rfl (lv_at hl 2 rfl) ?_
            refine lv_iconst (v := (1 : Int32)) hx hb dX6_apply_85 (by decide) ?_
            refine lv_iadd hx hb dX6_apply_86 ?_
            exact zret_i hx hb hr hlocks hK hP hD hS h dX6_apply_87
      · have h := h.2 hc
        refine lv_iload_n hx hb dX6_apply_23 rfl (lv_at hl 1 rfl) ?_
        refine lv_bipush (v := (100 : Int32)) hx hb dX6_apply_24 (by decide) ?_
        refine lv_isub hx hb dX6_apply_26 ?_
        refine lv_i2l hx hb dX6_apply_27 rfl ?_
        refine lv_goto (tgt := 83) hx hb dX6_apply_28 (by decide) ?_
        refine xs_31 hx hb hK hP hD hS h.1 rfl dX6_apply_83 (fun τ6 H locs eτ6 hP hD hS => ?_)
        have h := h.2
        have h := h τ6 eτ6
        refine lv_iload_n hx hb dX6_apply_84 rfl (lv_at hl 2 rfl) ?_
        refine lv_iconst (v := (1 : Int32)) hx hb dX6_apply_85 (by decide) ?_
        refine lv_iadd hx hb dX6_apply_86 ?_
        exact zret_i hx hb hr hlocks hK hP hD hS h dX6_apply_87
set_option maxHeartbeats 4000000 in
set_option maxRecDepth 100000 in
theorem c_X6_apply (N : Nat) (l : Launch) (dC : Nat → ClassId) (dI : Nat → Nat → Nat) (ad : Nat → Nat) (cI cJ : ClassId) (sz : Nat) (σ : zSt) (x1 : Int32) (x2 : Int32) (Q : Int32 → zSt → Prop) (h : w_X6_apply N x1 x2 σ Q) : Met l yX6_apply vs_X6_apply rm_X6_apply (va_Pc [.ref (ad 4), .int x1, .int x2] (zPc (dC, dI) (x_ty cI cJ) (x_W ad cI cJ) sz σ)) (zQi (dC, dI) (x_ty cI cJ) (x_W ad cI cJ) (zAW x_n ad sz) Q) 0 0 (zAW x_n ad sz) := by
  refine Met.ofW (cc := cX6_apply) (maxL := 9) (ret := (some .int)) (by decide) rfl ?_
  intro p e s m args below meth c s₁ B hml hv
  obtain ⟨rfl, hsz, hP, hK, hD0⟩ := hv
  subst hsz
  have C0 : zCx p s m meth c _ RX6 cX6_apply 9 (some .int) vs_X6_apply := ⟨B.exec, B.bytes, hml, B.returns, findClass_of_methodNamed B.named, atoms_spec (ws := vs_X6_apply) B.pre, B.notSynchronized⟩
  have hD := x_D0 (n0 := s.heap.size) hD0
  have hl := lv_entry ([.ref (ad 4), .int x1, .int x2]) (n := 9) (Nat.le_of_ble_eq_true rfl)
  rw [lg_entry_eq]
  generalize (lg_sl ([.ref (ad 4), .int x1, .int x2]) ++ List.replicate (9 - (lg_sl ([.ref (ad 4), .int x1, .int x2])).length) Slot.unset).toArray = ls at hl ⊢
  exact t_X6_apply_0 C0 hK N x1 x2 σ _ _ ls h hP hD va_S.rf hl
theorem k_X6_apply (N : Nat) {R : Room} {H : Heap} {locs : List Loc} {Q2 : State → Prop} {cc : ByteArray} {nL pc index : Nat} {ls : Array Slot} {rest : List Value} {own : String} {c0 : Cond} {σ : zSt} {x1 : Int32} {x2 : Int32} {Q : Int32 → zSt → Prop} (S0 : CallFix p m c cc nL s args (c0 :: zT) own) (hml : Cond.methodLink own index yX6_apply ∈ zT) (hR : rm_X6_apply.frames + 1 ≤ R.frames ∧ 8 + (9 + 11) + rm_X6_apply.locals ≤ R.locals) (h : w_X6_apply N x1 x2 σ Q) (hK : va_K (dC, dI) vwCl (x_ty cI cJ) s) (hP : va_P (dC, dI) vwCl (x_W ad cI cJ σ) H) (hD : va_D (zAW x_n ad s.heap.size) (x_W ad cI cJ σ)) (hS : va_S (zAW x_n ad s.heap.size) s.heap H locs) (hsz : ls.size = nL) (hW : (rest.map fun v => v.category).sum ≤ 8) (hdg : decode cc pc = .ok (.invokevirtual index, 3)) (kk : ∀ (r : Int32) (τ : zSt) (H1 : Heap) (locs1 : List Loc), Q r τ → va_P (dC, dI) vwCl (x_W ad cI cJ τ) H1 → va_D (zAW x_n ad s.heap.size) (x_W ad cI cJ τ) → va_S (zAW x_n ad s.heap.size) s.heap H1 locs1 → W p l e R s m args below meth c H1 locs1 0 0 Q2 (F0 m (pc + 3) ls (.int r :: rest))) : W p l e R s m args below meth c H locs 0 0 Q2 (F0 m pc ls (.int x2 :: .int x1 :: .ref (ad 4) :: rest)) :=
  zcv_i (T := TX6) (N' := 10) (k := 4) (ci := 6) (fs := x_f4 ad σ) [.int x1, .int x2] S0 (c_X6_apply N l dC dI ad cI cJ H.size σ x1 x2 Q h) (cw_X6_apply S0.2.2.2.2 hml rfl rfl hR) rfl rfl hK hP hD hS rfl hsz hW rfl hdg kk
end q05
