section q06
end q06
section q06
def vs_X6_firstSum : List Cond := .code yX6_firstSum cX6_firstSum 5 (some .long) :: zT
def rm_X6_firstSum : Room := { frames := 1, cells := 0, slots := 0, locals := 28 }
theorem cw_X6_firstSum {rm R : Room} {s : State} {args : Array Value} {own : String} {index : Nat} {c0 : Cond} (hts : ∀ w ∈ c0 :: zT, w.before args s = true) (hml : Cond.methodLink own index yX6_firstSum ∈ zT) (hrc : rm.cells = 0) (hrs : rm.slots = 0) (hR : rm.frames + 1 ≤ R.frames ∧ 8 + (5 + 11) + rm.locals ≤ R.locals) : CallW R s args own RX6 index yX6_firstSum cX6_firstSum 5 (some .long) vs_X6_firstSum rm 0 0 1 :=
  zwV 1 hts hml mw_568 mw_569 mw_5 mw_570 hrc hrs (by decide +kernel) hR
def b_X6_firstSum_91 (N : Nat) (k_91 : Int32 → Int32 → Int32 → zSt → Prop) (Q : Int64 → zSt → Prop) (x2 : Int32) (x3 : Int32) (x4 : Int32) (σ : zSt) : Prop :=
  (vp_in x2 20) ∧ (((σ.2.2.1 10 x2.toNatClampNeg) ≤ x4 → Q (σ.2.2.2 3 0) σ) ∧ (¬ (σ.2.2.1 10 x2.toNatClampNeg) ≤ x4 → ((800 : Int32) ≤ x4 → Q (σ.2.2.2 3 0) σ) ∧ (¬ (800 : Int32) ≤ x4 → (vp_in x4 800) ∧ (w_X6_apply N (σ.2.2.1 12 x4.toNatClampNeg) x3 σ (fun r1 τ2 => ∀ v3 : Int32, v3 = x4 + (1 : Int32) → k_91 x2 r1 v3 τ2)))))
def w_X6_firstSum_91 (N : Nat) (Q : Int64 → zSt → Prop) : Nat → Int32 → Int32 → Int32 → zSt → Prop
  | 0 => fun _ _ _ _ => False
  | f + 1 => b_X6_firstSum_91 N (w_X6_firstSum_91 N  Q f) Q
def b_X6_firstSum_70 (N : Nat) (k_2 : Int32 → Int32 → zSt → Prop) (Q : Int64 → zSt → Prop) (x1 : Int32) (x2 : Int32) (σ : zSt) : Prop :=
  ((lg_cmp (σ.2.2.2 3 0) (0 : Int64)) = 0 → ∀ v1 : Int32, v1 = x2 + (1 : Int32) → k_2 x1 v1 σ) ∧ (¬ (lg_cmp (σ.2.2.2 3 0) (0 : Int64)) = 0 → (vp_in x2 20) ∧ (∀ v2 : Int32, v2 = σ.2.2.1 9 x2.toNatClampNeg → w_X6_firstSum_91 N Q N x2 (0 : Int32) v2 σ))
def b_X6_firstSum_30 (N : Nat) (k_2 : Int32 → Int32 → zSt → Prop) (k_30 : Int32 → Int32 → Int32 → Int32 → zSt → Prop) (Q : Int64 → zSt → Prop) (x1 : Int32) (x2 : Int32) (x3 : Int32) (x4 : Int32) (σ : zSt) : Prop :=
  (vp_in x2 20) ∧ (((σ.2.2.1 11 x2.toNatClampNeg) ≤ x4 → b_X6_firstSum_70 N k_2 Q x1 x2 σ) ∧ (¬ (σ.2.2.1 11 x2.toNatClampNeg) ≤ x4 → ((800 : Int32) ≤ x4 → b_X6_firstSum_70 N k_2 Q x1 x2 σ) ∧ (¬ (800 : Int32) ≤ x4 → (vp_in x4 800) ∧ (w_X6_apply N (σ.2.2.1 12 x4.toNatClampNeg) x3 σ (fun r1 τ2 => ∀ v3 : Int32, v3 = x4 + (1 : Int32) → k_30 x1 x2 r1 v3 τ2)))))
def w_X6_firstSum_30 (N : Nat) (k_2 : Int32 → Int32 → zSt → Prop) (Q : Int64 → zSt → Prop) : Nat → Int32 → Int32 → Int32 → Int32 → zSt → Prop
  | 0 => fun _ _ _ _ _ => False
  | f + 1 => b_X6_firstSum_30 N k_2 (w_X6_firstSum_30 N k_2 Q f) Q
def b_X6_firstSum_2 (N : Nat) (k_2 : Int32 → Int32 → zSt → Prop) (Q : Int64 → zSt → Prop) (x1 : Int32) (x2 : Int32) (σ : zSt) : Prop :=
  ((σ.1 4) ≤ x2 → Q (0 : Int64) σ) ∧ (¬ (σ.1 4) ≤ x2 → (vp_in x2 20) ∧ (((σ.2.2.1 8 x2.toNatClampNeg) = x1 → (vp_in x2 20) ∧ (∀ v2 : Int32, v2 = σ.2.2.1 10 x2.toNatClampNeg → w_X6_firstSum_30 N k_2 Q N x1 x2 (0 : Int32) v2 σ)) ∧ (¬ (σ.2.2.1 8 x2.toNatClampNeg) = x1 → ∀ v1 : Int32, v1 = x2 + (1 : Int32) → k_2 x1 v1 σ)))
def w_X6_firstSum_2 (N : Nat) (Q : Int64 → zSt → Prop) : Nat → Int32 → Int32 → zSt → Prop
  | 0 => fun _ _ _ => False
  | f + 1 => b_X6_firstSum_2 N (w_X6_firstSum_2 N  Q f) Q
def w_X6_firstSum (N : Nat) (x1 : Int32) (σ : zSt) (Q : Int64 → zSt → Prop) : Prop :=
  w_X6_firstSum_2 N Q N x1 (0 : Int32) σ
variable {p : Program} {l : Launch} {e : Env} {s : State} {m : MethodId} {args : Array Value} {below : List Frame} {meth : Method} {c : Code} {dC : Nat → ClassId} {dI : Nat → Nat → Nat} {ad : Nat → Nat} {cI cJ : ClassId}
set_option maxHeartbeats 4000000 in
set_option maxRecDepth 100000 in
theorem tb_X6_firstSum_91 (C0 : zCx p s m meth c args RX6 cX6_firstSum 5 (some .long) vs_X6_firstSum) (hK : va_K (dC, dI) vwCl (x_ty cI cJ) s) (N : Nat) {Q : Int64 → zSt → Prop} {k_91 : Int32 → Int32 → Int32 → zSt → Prop} (hk_91 : ∀ (x2 : Int32) (x3 : Int32) (x4 : Int32) (σ : zSt) (H : Heap) (locs : List Loc) (ls : Array Slot), k_91 x2 x3 x4 σ → va_P (dC, dI) vwCl (x_W ad cI cJ σ) H → va_D (zAW x_n ad s.heap.size) (x_W ad cI cJ σ) → va_S (zAW x_n ad s.heap.size) s.heap H locs → lv_has ls 5 [(0, .ref (ad 4)), (2, .int x2), (3, .int x3), (4, .int x4)] → W p l e rm_X6_firstSum s m args below meth c H locs 0 0 (MQ below (zQl (dC, dI) (x_ty cI cJ) (x_W ad cI cJ) (zAW x_n ad s.heap.size) Q) args s 0 0 (zAW x_n ad s.heap.size)) (F0 m 91 ls [])) : ∀ (x2 : Int32) (x3 : Int32) (x4 : Int32) (σ : zSt) (H : Heap) (locs : List Loc) (ls : Array Slot), b_X6_firstSum_91 N k_91 Q x2 x3 x4 σ → va_P (dC, dI) vwCl (x_W ad cI cJ σ) H → va_D (zAW x_n ad s.heap.size) (x_W ad cI cJ σ) → va_S (zAW x_n ad s.heap.size) s.heap H locs → lv_has ls 5 [(0, .ref (ad 4)), (2, .int x2), (3, .int x3), (4, .int x4)] → W p l e rm_X6_firstSum s m args below meth c H locs 0 0 (MQ below (zQl (dC, dI) (x_ty cI cJ) (x_W ad cI cJ) (zAW x_n ad s.heap.size) Q) args s 0 0 (zAW x_n ad s.heap.size)) (F0 m 91 ls []) := by
  obtain ⟨hx, hb, hml, hr, hown, hts, hlocks⟩ := id C0
  intro x2 x3 x4 σ H locs ls h hP hD hS hl
  unfold b_X6_firstSum_91 at h
  refine lv_iload hx hb dX6_firstSum_91 (lv_at hl 3 rfl) ?_
  refine lv_aload_n hx hb dX6_firstSum_93 rfl (lv_at hl 0 rfl) ?_
  refine xg_4_2 hx hb hts hown hK hP mw_94 dX6_firstSum_94 ?_
  refine lv_iload_n hx hb dX6_firstSum_97 rfl (lv_at hl 1 rfl) ?_
  refine xa_28 hx hb hK hP h.1 rfl dX6_firstSum_98 ?_
  have h := h.2
  refine lv_icmp_ge (tgt := 131) hx hb dX6_firstSum_99 (by decide) (fun hc => ?_) (fun hc => ?_)
  · have h := h.1 hc
    refine lv_aload_n hx hb dX6_firstSum_131 rfl (lv_at hl 0 rfl) ?_
    refine xg_4_5 hx hb hts hown hK hP mw_97 dX6_firstSum_132 ?_
    refine lv_iconst (v := (0 : Int32)) hx hb dX6_firstSum_135 (by decide) ?_
    refine xa_31 (j := 0) hx hb hK hP (zin (by decide)) (by decide) dX6_firstSum_136 ?_
    exact zret_l hx hb hr hlocks hK hP hD hS h dX6_firstSum_137
  · have h := h.2 hc
    refine lv_iload hx hb dX6_firstSum_102 (lv_at hl 3 rfl) ?_
    refine lv_aload_n hx hb dX6_firstSum_104 rfl (lv_at hl 0 rfl) ?_
    refine xg_4_4 hx hb hts hown hK hP mw_96 dX6_firstSum_105 ?_
    refine xl_30 hx hb hK hP dX6_firstSum_108 ?_
    refine lv_icmp_ge (tgt := 131) hx hb dX6_firstSum_109 (by decide) (fun hc => ?_) (fun hc => ?_)
    · have h := h.1 hc
      refine lv_aload_n hx hb dX6_firstSum_131 rfl (lv_at hl 0 rfl) ?_
      refine xg_4_5 hx hb hts hown hK hP mw_97 dX6_firstSum_132 ?_
      refine lv_iconst (v := (0 : Int32)) hx hb dX6_firstSum_135 (by decide) ?_
      refine xa_31 (j := 0) hx hb hK hP (zin (by decide)) (by decide) dX6_firstSum_136 ?_
      exact zret_l hx hb hr hlocks hK hP hD hS h dX6_firstSum_137
    · have h := h.2 hc
      refine lv_aload_n hx hb dX6_firstSum_112 rfl (lv_at hl 0 rfl) ?_
      refine lv_aload_n hx hb dX6_firstSum_113 rfl (lv_at hl 0 rfl) ?_
      refine xg_4_4 hx hb hts hown hK hP mw_96 dX6_firstSum_114 ?_
      refine lv_iload hx hb dX6_firstSum_117 (lv_at hl 3 rfl) ?_
      refine xa_30 hx hb hK hP h.1 rfl dX6_firstSum_119 ?_
      have h := h.2
      refine lv_iload_n hx hb dX6_firstSum_120 rfl (lv_at hl 2 rfl) ?_
      refine k_X6_apply N ⟨hx, hb, hml, hown, hts⟩ mw_571 ⟨Nat.le_of_ble_eq_true rfl, Nat.le_of_ble_eq_true rfl⟩ h hK hP hD hS hl.1 (rest := []) (Nat.le_of_ble_eq_true rfl) dX6_firstSum_121 (fun r1 τ2 H locs h hP hD hS => ?_)
      refine lv_istore_n (lv' := [(3, .int r1), (0, .ref (ad 4)), (2, .int x2), (4, .int x4)]) hx hb dX6_firstSum_124 rfl hl (by decide) rfl (fun ls hl => ?_)
      obtain ⟨v3, ev3⟩ : ∃ z : Int32, z = x4 + (1 : Int32) := ⟨_, rfl⟩
      have h := h v3 ev3
      refine lv_iinc (v := v3) (lv' := [(4, .int v3), (3, .int r1), (0, .ref (ad 4)), (2, .int x2)]) hx hb dX6_firstSum_125 hl (k := 3) rfl (by rw [ev3]; rfl) (by decide) rfl (fun ls hl => ?_)
      refine lv_goto (tgt := 91) hx hb dX6_firstSum_128 (by decide) ?_
      exact hk_91 x2 r1 v3 τ2 _ _ _ h hP hD hS (lv_sub hl [2, 3, 1, 0] rfl)
set_option maxHeartbeats 4000000 in
set_option maxRecDepth 100000 in
theorem t_X6_firstSum_91 (C0 : zCx p s m meth c args RX6 cX6_firstSum 5 (some .long) vs_X6_firstSum) (hK : va_K (dC, dI) vwCl (x_ty cI cJ) s) (N : Nat) {Q : Int64 → zSt → Prop} : ∀ (f : Nat) (x2 : Int32) (x3 : Int32) (x4 : Int32) (σ : zSt) (H : Heap) (locs : List Loc) (ls : Array Slot), w_X6_firstSum_91 N  Q f x2 x3 x4 σ → va_P (dC, dI) vwCl (x_W ad cI cJ σ) H → va_D (zAW x_n ad s.heap.size) (x_W ad cI cJ σ) → va_S (zAW x_n ad s.heap.size) s.heap H locs → lv_has ls 5 [(0, .ref (ad 4)), (2, .int x2), (3, .int x3), (4, .int x4)] → W p l e rm_X6_firstSum s m args below meth c H locs 0 0 (MQ below (zQl (dC, dI) (x_ty cI cJ) (x_W ad cI cJ) (zAW x_n ad s.heap.size) Q) args s 0 0 (zAW x_n ad s.heap.size)) (F0 m 91 ls []) := by
  intro f
  induction f with
  | zero => intro x2 x3 x4 σ H locs ls h; exact h.elim
  | succ f ih =>
    intro x2 x3 x4 σ H locs ls h hP hD hS hl
    exact tb_X6_firstSum_91 C0 hK N  (k_91 := w_X6_firstSum_91 N  Q f) ih x2 x3 x4 σ H locs ls h hP hD hS hl
set_option maxHeartbeats 4000000 in
set_option maxRecDepth 100000 in
theorem t_X6_firstSum_70 (C0 : zCx p s m meth c args RX6 cX6_firstSum 5 (some .long) vs_X6_firstSum) (hK : va_K (dC, dI) vwCl (x_ty cI cJ) s) (N : Nat) {Q : Int64 → zSt → Prop} {k_2 : Int32 → Int32 → zSt → Prop} (hk_2 : ∀ (x1 : Int32) (x2 : Int32) (σ : zSt) (H : Heap) (locs : List Loc) (ls : Array Slot), k_2 x1 x2 σ → va_P (dC, dI) vwCl (x_W ad cI cJ σ) H → va_D (zAW x_n ad s.heap.size) (x_W ad cI cJ σ) → va_S (zAW x_n ad s.heap.size) s.heap H locs → lv_has ls 5 [(0, .ref (ad 4)), (1, .int x1), (2, .int x2)] → W p l e rm_X6_firstSum s m args below meth c H locs 0 0 (MQ below (zQl (dC, dI) (x_ty cI cJ) (x_W ad cI cJ) (zAW x_n ad s.heap.size) Q) args s 0 0 (zAW x_n ad s.heap.size)) (F0 m 2 ls [])) : ∀ (x1 : Int32) (x2 : Int32) (σ : zSt) (H : Heap) (locs : List Loc) (ls : Array Slot), b_X6_firstSum_70 N k_2 Q x1 x2 σ → va_P (dC, dI) vwCl (x_W ad cI cJ σ) H → va_D (zAW x_n ad s.heap.size) (x_W ad cI cJ σ) → va_S (zAW x_n ad s.heap.size) s.heap H locs → lv_has ls 5 [(0, .ref (ad 4)), (1, .int x1), (2, .int x2)] → W p l e rm_X6_firstSum s m args below meth c H locs 0 0 (MQ below (zQl (dC, dI) (x_ty cI cJ) (x_W ad cI cJ) (zAW x_n ad s.heap.size) Q) args s 0 0 (zAW x_n ad s.heap.size)) (F0 m 70 ls []) := by
  obtain ⟨hx, hb, hml, hr, hown, hts, hlocks⟩ := id C0
  intro x1 x2 σ H locs ls h hP hD hS hl
  unfold b_X6_firstSum_70 at h
  refine lv_aload_n hx hb dX6_firstSum_70 rfl (lv_at hl 0 rfl) ?_
  refine xg_4_5 hx hb hts hown hK hP mw_97 dX6_firstSum_71 ?_
  refine lv_iconst (v := (0 : Int32)) hx hb dX6_firstSum_74 (by decide) ?_
  refine xa_31 (j := 0) hx hb hK hP (zin (by decide)) (by decide) dX6_firstSum_75 ?_
  refine lv_lconst (v := (0 : Int64)) hx hb dX6_firstSum_76 (by decide) ?_
  refine W.lcmp hx hb dX6_firstSum_77 ?_
  refine lv_if_eq (tgt := 138) hx hb dX6_firstSum_78 (by decide) (fun hc => ?_) (fun hc => ?_)
  · have h := h.1 hc
    obtain ⟨v1, ev1⟩ : ∃ z : Int32, z = x2 + (1 : Int32) := ⟨_, rfl⟩
    have h := h v1 ev1
    refine lv_iinc (v := v1) (lv' := [(2, .int v1), (0, .ref (ad 4)), (1, .int x1)]) hx hb dX6_firstSum_138 hl (k := 2) rfl (by rw [ev1]; rfl) (by decide) rfl (fun ls hl => ?_)
    refine lv_goto (tgt := 2) hx hb dX6_firstSum_141 (by decide) ?_
    exact hk_2 x1 v1 σ _ _ _ h hP hD hS (lv_sub hl [1, 2, 0] rfl)
  · have h := h.2 hc
    refine lv_iconst (v := (0 : Int32)) hx hb dX6_firstSum_81 (by decide) ?_
    refine lv_istore_n (lv' := [(3, .int (0 : Int32)), (0, .ref (ad 4)), (1, .int x1), (2, .int x2)]) hx hb dX6_firstSum_82 rfl hl (by decide) rfl (fun ls hl => ?_)
    refine lv_aload_n hx hb dX6_firstSum_83 rfl (lv_at hl 1 rfl) ?_
    refine xg_4_1 hx hb hts hown hK hP mw_93 dX6_firstSum_84 ?_
    refine lv_iload_n hx hb dX6_firstSum_87 rfl (lv_at hl 3 rfl) ?_
    refine xa_27 hx hb hK hP h.1 rfl dX6_firstSum_88 ?_
    have h := h.2
    refine lv_topi (fun v2 ev2 => ?_)
    have h := h v2 ev2
    refine lv_istore (lv' := [(4, .int v2), (3, .int (0 : Int32)), (0, .ref (ad 4)), (1, .int x1), (2, .int x2)]) hx hb dX6_firstSum_89 hl (by decide) rfl (fun ls hl => ?_)
    exact t_X6_firstSum_91 C0 hK N  N x2 (0 : Int32) v2 σ _ _ _ h hP hD hS (lv_sub hl [2, 4, 1, 0] rfl)
set_option maxHeartbeats 4000000 in
set_option maxRecDepth 100000 in
theorem tb_X6_firstSum_30 (C0 : zCx p s m meth c args RX6 cX6_firstSum 5 (some .long) vs_X6_firstSum) (hK : va_K (dC, dI) vwCl (x_ty cI cJ) s) (N : Nat) {Q : Int64 → zSt → Prop} {k_2 : Int32 → Int32 → zSt → Prop} (hk_2 : ∀ (x1 : Int32) (x2 : Int32) (σ : zSt) (H : Heap) (locs : List Loc) (ls : Array Slot), k_2 x1 x2 σ → va_P (dC, dI) vwCl (x_W ad cI cJ σ) H → va_D (zAW x_n ad s.heap.size) (x_W ad cI cJ σ) → va_S (zAW x_n ad s.heap.size) s.heap H locs → lv_has ls 5 [(0, .ref (ad 4)), (1, .int x1), (2, .int x2)] → W p l e rm_X6_firstSum s m args below meth c H locs 0 0 (MQ below (zQl (dC, dI) (x_ty cI cJ) (x_W ad cI cJ) (zAW x_n ad s.heap.size) Q) args s 0 0 (zAW x_n ad s.heap.size)) (F0 m 2 ls [])) {k_30 : Int32 → Int32 → Int32 → Int32 → zSt → Prop} (hk_30 : ∀ (x1 : Int32) (x2 : Int32) (x3 : Int32) (x4 : Int32) (σ : zSt) (H : Heap) (locs : List Loc) (ls : Array Slot), k_30 x1 x2 x3 x4 σ → va_P (dC, dI) vwCl (x_W ad cI cJ σ) H → va_D (zAW x_n ad s.heap.size) (x_W ad cI cJ σ) → va_S (zAW x_n ad s.heap.size) s.heap H locs → lv_has ls 5 [(0, .ref (ad 4)), (1, .int x1), (2, .int x2), (3, .int x3), (4, .int x4)] → W p l e rm_X6_firstSum s m args below meth c H locs 0 0 (MQ below (zQl (dC, dI) (x_ty cI cJ) (x_W ad cI cJ) (zAW x_n ad s.heap.size) Q) args s 0 0 (zAW x_n ad s.heap.size)) (F0 m 30 ls [])) : ∀ (x1 : Int32) (x2 : Int32) (x3 : Int32) (x4 : Int32) (σ : zSt) (H : Heap) (locs : List Loc) (ls : Array Slot), b_X6_firstSum_30 N k_2 k_30 Q x1 x2 x3 x4 σ → va_P (dC, dI) vwCl (x_W ad cI cJ σ) H → va_D (zAW x_n ad s.heap.size) (x_W ad cI cJ σ) → va_S (zAW x_n ad s.heap.size) s.heap H locs → lv_has ls 5 [(0, .ref (ad 4)), (1, .int x1), (2, .int x2), (3, .int x3), (4, .int x4)] → W p l e rm_X6_firstSum s m args below meth c H locs 0 0 (MQ below (zQl (dC, dI) (x_ty cI cJ) (x_W ad cI cJ) (zAW x_n ad s.heap.size) Q) args s 0 0 (zAW x_n ad s.heap.size)) (F0 m 30 ls []) := by
  obtain ⟨hx, hb, hml, hr, hown, hts, hlocks⟩ := id C0
  intro x1 x2 x3 x4 σ H locs ls h hP hD hS hl
  unfold b_X6_firstSum_30 at h
  refine lv_iload hx hb dX6_firstSum_30 (lv_at hl 4 rfl) ?_
  refine lv_aload_n hx hb dX6_firstSum_32 rfl (lv_at hl 0 rfl) ?_
  refine xg_4_3 hx hb hts hown hK hP mw_95 dX6_firstSum_33 ?_
  refine lv_iload_n hx hb dX6_firstSum_36 rfl (lv_at hl 2 rfl) ?_
  refine xa_29 hx hb hK hP h.1 rfl dX6_firstSum_37 ?_
  have h := h.2
  refine lv_icmp_ge (tgt := 70) hx hb dX6_firstSum_38 (by decide) (fun hc => ?_) (fun hc => ?_)
  · have h := h.1 hc
    exact t_X6_firstSum_70 C0 hK N hk_2 x1 x2 σ _ _ _ h hP hD hS (lv_sub hl [0, 1, 2] rfl)
  · have h := h.2 hc
    refine lv_iload hx hb dX6_firstSum_41 (lv_at hl 4 rfl) ?_
    refine lv_aload_n hx hb dX6_firstSum_43 rfl (lv_at hl 0 rfl) ?_
    refine xg_4_4 hx hb hts hown hK hP mw_96 dX6_firstSum_44 ?_
    refine xl_30 hx hb hK hP dX6_firstSum_47 ?_
    refine lv_icmp_ge (tgt := 70) hx hb dX6_firstSum_48 (by decide) (fun hc => ?_) (fun hc => ?_)
    · have h := h.1 hc
      exact t_X6_firstSum_70 C0 hK N hk_2 x1 x2 σ _ _ _ h hP hD hS (lv_sub hl [0, 1, 2] rfl)
    · have h := h.2 hc
      refine lv_aload_n hx hb dX6_firstSum_51 rfl (lv_at hl 0 rfl) ?_
      refine lv_aload_n hx hb dX6_firstSum_52 rfl (lv_at hl 0 rfl) ?_
      refine xg_4_4 hx hb hts hown hK hP mw_96 dX6_firstSum_53 ?_
      refine lv_iload hx hb dX6_firstSum_56 (lv_at hl 4 rfl) ?_
      refine xa_30 hx hb hK hP h.1 rfl dX6_firstSum_58 ?_
      have h := h.2
      refine lv_iload_n hx hb dX6_firstSum_59 rfl (lv_at hl 3 rfl) ?_
      refine k_X6_apply N ⟨hx, hb, hml, hown, hts⟩ mw_571 ⟨Nat.le_of_ble_eq_true rfl, Nat.le_of_ble_eq_true rfl⟩ h hK hP hD hS hl.1 (rest := []) (Nat.le_of_ble_eq_true rfl) dX6_firstSum_60 (fun r1 τ2 H locs h hP hD hS => ?_)
      refine lv_istore_n (lv' := [(3, .int r1), (0, .ref (ad 4)), (1, .int x1), (2, .int x2), (4, .int x4)]) hx hb dX6_firstSum_63 rfl hl (by decide) rfl (fun ls hl => ?_)
      obtain ⟨v3, ev3⟩ : ∃ z : Int32, z = x4 + (1 : Int32) := ⟨_, rfl⟩
      have h := h v3 ev3
      refine lv_iinc (v := v3) (lv' := [(4, .int v3), (3, .int r1), (0, .ref (ad 4)), (1, .int x1), (2, .int x2)]) hx hb dX6_firstSum_64 hl (k := 4) rfl (by rw [ev3]; rfl) (by decide) rfl (fun ls hl => ?_)
      refine lv_goto (tgt := 30) hx hb dX6_firstSum_67 (by decide) ?_
      exact hk_30 x1 x2 r1 v3 τ2 _ _ _ h hP hD hS (lv_sub hl [2, 3, 4, 1, 0] rfl)
set_option maxHeartbeats 4000000 in
set_option maxRecDepth 100000 in
theorem t_X6_firstSum_30 (C0 : zCx p s m meth c args RX6 cX6_firstSum 5 (some .long) vs_X6_firstSum) (hK : va_K (dC, dI) vwCl (x_ty cI cJ) s) (N : Nat) {Q : Int64 → zSt → Prop} {k_2 : Int32 → Int32 → zSt → Prop} (hk_2 : ∀ (x1 : Int32) (x2 : Int32) (σ : zSt) (H : Heap) (locs : List Loc) (ls : Array Slot), k_2 x1 x2 σ → va_P (dC, dI) vwCl (x_W ad cI cJ σ) H → va_D (zAW x_n ad s.heap.size) (x_W ad cI cJ σ) → va_S (zAW x_n ad s.heap.size) s.heap H locs → lv_has ls 5 [(0, .ref (ad 4)), (1, .int x1), (2, .int x2)] → W p l e rm_X6_firstSum s m args below meth c H locs 0 0 (MQ below (zQl (dC, dI) (x_ty cI cJ) (x_W ad cI cJ) (zAW x_n ad s.heap.size) Q) args s 0 0 (zAW x_n ad s.heap.size)) (F0 m 2 ls [])) : ∀ (f : Nat) (x1 : Int32) (x2 : Int32) (x3 : Int32) (x4 : Int32) (σ : zSt) (H : Heap) (locs : List Loc) (ls : Array Slot), w_X6_firstSum_30 N k_2 Q f x1 x2 x3 x4 σ → va_P (dC, dI) vwCl (x_W ad cI cJ σ) H → va_D (zAW x_n ad s.heap.size) (x_W ad cI cJ σ) → va_S (zAW x_n ad s.heap.size) s.heap H locs → lv_has ls 5 [(0, .ref (ad 4)), (1, .int x1), (2, .int x2), (3, .int x3), (4, .int x4)] → W p l e rm_X6_firstSum s m args below meth c H locs 0 0 (MQ below (zQl (dC, dI) (x_ty cI cJ) (x_W ad cI cJ) (zAW x_n ad s.heap.size) Q) args s 0 0 (zAW x_n ad s.heap.size)) (F0 m 30 ls []) := by
  intro f
  induction f with
  | zero => intro x1 x2 x3 x4 σ H locs ls h; exact h.elim
  | succ f ih =>
    intro x1 x2 x3 x4 σ H locs ls h hP hD hS hl
    exact tb_X6_firstSum_30 C0 hK N hk_2 (k_30 := w_X6_firstSum_30 N k_2 Q f) ih x1 x2 x3 x4 σ H locs ls h hP hD hS hl
set_option maxHeartbeats 4000000 in
set_option maxRecDepth 100000 in
theorem tb_X6_firstSum_2 (C0 : zCx p s m meth c args RX6 cX6_firstSum 5 (some .long) vs_X6_firstSum) (hK : va_K (dC, dI) vwCl (x_ty cI cJ) s) (N : Nat) {Q : Int64 → zSt → Prop} {k_2 : Int32 → Int32 → zSt → Prop} (hk_2 : ∀ (x1 : Int32) (x2 : Int32) (σ : zSt) (H : Heap) (locs : List Loc) (ls : Array Slot), k_2 x1 x2 σ → va_P (dC, dI) vwCl (x_W ad cI cJ σ) H → va_D (zAW x_n ad s.heap.size) (x_W ad cI cJ σ) → va_S (zAW x_n ad s.heap.size) s.heap H locs → lv_has ls 5 [(0, .ref (ad 4)), (1, .int x1), (2, .int x2)] → W p l e rm_X6_firstSum s m args below meth c H locs 0 0 (MQ below (zQl (dC, dI) (x_ty cI cJ) (x_W ad cI cJ) (zAW x_n ad s.heap.size) Q) args s 0 0 (zAW x_n ad s.heap.size)) (F0 m 2 ls [])) : ∀ (x1 : Int32) (x2 : Int32) (σ : zSt) (H : Heap) (locs : List Loc) (ls : Array Slot), b_X6_firstSum_2 N k_2 Q x1 x2 σ → va_P (dC, dI) vwCl (x_W ad cI cJ σ) H → va_D (zAW x_n ad s.heap.size) (x_W ad cI cJ σ) → va_S (zAW x_n ad s.heap.size) s.heap H locs → lv_has ls 5 [(0, .ref (ad 4)), (1, .int x1), (2, .int x2)] → W p l e rm_X6_firstSum s m args below meth c H locs 0 0 (MQ below (zQl (dC, dI) (x_ty cI cJ) (x_W ad cI cJ) (zAW x_n ad s.heap.size) Q) args s 0 0 (zAW x_n ad s.heap.size)) (F0 m 2 ls []) := by
  obtain ⟨hx, hb, hml, hr, hown, hts, hlocks⟩ := id C0
  intro x1 x2 σ H locs ls h hP hD hS hl
  unfold b_X6_firstSum_2 at h
  refine lv_iload_n hx hb dX6_firstSum_2 rfl (lv_at hl 2 rfl) ?_
  refine lv_aload_n hx hb dX6_firstSum_3 rfl (lv_at hl 0 rfl) ?_
  refine xg_4_7 hx hb hts hown hK hP mw_100 dX6_firstSum_4 ?_
  refine lv_icmp_ge (tgt := 144) hx hb dX6_firstSum_7 (by decide) (fun hc => ?_) (fun hc => ?_)
  · have h := h.1 hc
    refine lv_lconst (v := (0 : Int64)) hx hb dX6_firstSum_144 (by decide) ?_
    exact zret_l hx hb hr hlocks hK hP hD hS h dX6_firstSum_145
  · have h := h.2 hc
    refine lv_aload_n hx hb dX6_firstSum_10 rfl (lv_at hl 0 rfl) ?_
    refine xg_4_0 hx hb hts hown hK hP mw_92 dX6_firstSum_11 ?_
    refine lv_iload_n hx hb dX6_firstSum_14 rfl (lv_at hl 2 rfl) ?_
    refine xa_26 hx hb hK hP h.1 rfl dX6_firstSum_15 ?_
    have h := h.2
    refine lv_iload_n hx hb dX6_firstSum_16 rfl (lv_at hl 1 rfl) ?_
    refine lv_icmp_ne (tgt := 138) hx hb dX6_firstSum_17 (by decide) (fun hc => ?_) (fun hc => ?_)
    · have h := h.2 hc
      obtain ⟨v1, ev1⟩ : ∃ z : Int32, z = x2 + (1 : Int32) := ⟨_, rfl⟩
      have h := h v1 ev1
      refine lv_iinc (v := v1) (lv' := [(2, .int v1), (0, .ref (ad 4)), (1, .int x1)]) hx hb dX6_firstSum_138 hl (k := 2) rfl (by rw [ev1]; rfl) (by decide) rfl (fun ls hl => ?_)
      refine lv_goto (tgt := 2) hx hb dX6_firstSum_141 (by decide) ?_
      exact hk_2 x1 v1 σ _ _ _ h hP hD hS (lv_sub hl [1, 2, 0] rfl)
    · have h := h.1 hc
      refine lv_iconst (v := (0 : Int32)) hx hb dX6_firstSum_20 (by decide) ?_
      refine lv_istore_n (lv' := [(3, .int (0 : Int32)), (0, .ref (ad 4)), (1, .int x1), (2, .int x2)]) hx hb dX6_firstSum_21 rfl hl (by decide) rfl (fun ls hl => ?_)
      refine lv_aload_n hx hb dX6_firstSum_22 rfl (lv_at hl 1 rfl) ?_
      refine xg_4_2 hx hb hts hown hK hP mw_94 dX6_firstSum_23 ?_
      refine lv_iload_n hx hb dX6_firstSum_26 rfl (lv_at hl 3 rfl) ?_
      refine xa_28 hx hb hK hP h.1 rfl dX6_firstSum_27 ?_
      have h := h.2
      refine lv_topi (fun v2 ev2 => ?_)
      have h := h v2 ev2
      refine lv_istore (lv' := [(4, .int v2), (3, .int (0 : Int32)), (0, .ref (ad 4)), (1, .int x1), (2, .int x2)]) hx hb dX6_firstSum_28 hl (by decide) rfl (fun ls hl => ?_)
      exact t_X6_firstSum_30 C0 hK N hk_2 N x1 x2 (0 : Int32) v2 σ _ _ _ h hP hD hS (lv_sub hl [2, 3, 4, 1, 0] rfl)
set_option maxHeartbeats 4000000 in
set_option maxRecDepth 100000 in
theorem t_X6_firstSum_2 (C0 : zCx p s m meth c args RX6 cX6_firstSum 5 (some .long) vs_X6_firstSum) (hK : va_K (dC, dI) vwCl (x_ty cI cJ) s) (N : Nat) {Q : Int64 → zSt → Prop} : ∀ (f : Nat) (x1 : Int32) (x2 : Int32) (σ : zSt) (H : Heap) (locs : List Loc) (ls : Array Slot), w_X6_firstSum_2 N  Q f x1 x2 σ → va_P (dC, dI) vwCl (x_W ad cI cJ σ) H → va_D (zAW x_n ad s.heap.size) (x_W ad cI cJ σ) → va_S (zAW x_n ad s.heap.size) s.heap H locs → lv_has ls 5 [(0, .ref (ad 4)), (1, .int x1), (2, .int x2)] → W p l e rm_X6_firstSum s m args below meth c H locs 0 0 (MQ below (zQl (dC, dI) (x_ty cI cJ) (x_W ad cI cJ) (zAW x_n ad s.heap.size) Q) args s 0 0 (zAW x_n ad s.heap.size)) (F0 m 2 ls []) := by
  intro f
  induction f with
  | zero => intro x1 x2 σ H locs ls h; exact h.elim
  | succ f ih =>
    intro x1 x2 σ H locs ls h hP hD hS hl
    exact tb_X6_firstSum_2 C0 hK N  (k_2 := w_X6_firstSum_2 N  Q f) ih x1 x2 σ H locs ls h hP hD hS hl
set_option maxHeartbeats 4000000 in
set_option maxRecDepth 100000 in
theorem t_X6_firstSum_0 (C0 : zCx p s m meth c args RX6 cX6_firstSum 5 (some .long) vs_X6_firstSum) (hK : va_K (dC, dI) vwCl (x_ty cI cJ) s) (N : Nat) {Q : Int64 → zSt → Prop} : ∀ (x1 : Int32) (σ : zSt) (H : Heap) (locs : List Loc) (ls : Array Slot), w_X6_firstSum N x1 σ Q → va_P (dC, dI) vwCl (x_W ad cI cJ σ) H → va_D (zAW x_n ad s.heap.size) (x_W ad cI cJ σ) → va_S (zAW x_n ad s.heap.size) s.heap H locs → lv_has ls 5 [(0, .ref (ad 4)), (1, .int x1)] → W p l e rm_X6_firstSum s m args below meth c H locs 0 0 (MQ below (zQl (dC, dI) (x_ty cI cJ) (x_W ad cI cJ) (zAW x_n ad s.heap.size) Q) args s 0 0 (zAW x_n ad s.heap.size)) (F0 m 0 ls []) := by
  obtain ⟨hx, hb, hml, hr, hown, hts, hlocks⟩ := id C0
  intro x1 σ H locs ls h hP hD hS hl
  unfold w_X6_firstSum at h
  refine lv_iconst (v := (0 : Int32)) hx hb dX6_firstSum_0 (by decide) ?_
  refine lv_istore_n (lv' := [(2, .int (0 : Int32)), (0, .ref (ad 4)), (1, .int x1)]) hx hb dX6_firstSum_1 rfl hl (by decide) rfl (fun ls hl => ?_)
  exact t_X6_firstSum_2 C0 hK N  N x1 (0 : Int32) σ _ _ _ h hP hD hS (lv_sub hl [1, 2, 0] rfl)
set_option maxHeartbeats 4000000 in
set_option maxRecDepth 100000 in
theorem c_X6_firstSum (N : Nat) (l : Launch) (dC : Nat → ClassId) (dI : Nat → Nat → Nat) (ad : Nat → Nat) (cI cJ : ClassId) (sz : Nat) (σ : zSt) (x1 : Int32) (Q : Int64 → zSt → Prop) (h : w_X6_firstSum N x1 σ Q) : Met l yX6_firstSum vs_X6_firstSum rm_X6_firstSum (va_Pc [.ref (ad 4), .int x1] (zPc (dC, dI) (x_ty cI cJ) (x_W ad cI cJ) sz σ)) (zQl (dC, dI) (x_ty cI cJ) (x_W ad cI cJ) (zAW x_n ad sz) Q) 0 0 (zAW x_n ad sz) := by
  refine Met.ofW (cc := cX6_firstSum) (maxL := 5) (ret := (some .long)) (by decide) rfl ?_
  intro p e s m args below meth c s₁ B hml hv
  obtain ⟨rfl, hsz, hP, hK, hD0⟩ := hv
  subst hsz
  have C0 : zCx p s m meth c _ RX6 cX6_firstSum 5 (some .long) vs_X6_firstSum := ⟨B.exec, B.bytes, hml, B.returns, findClass_of_methodNamed B.named, atoms_spec (ws := vs_X6_firstSum) B.pre, B.notSynchronized⟩
  have hD := x_D0 (n0 := s.heap.size) hD0
  have hl := lv_entry ([.ref (ad 4), .int x1]) (n := 5) (Nat.le_of_ble_eq_true rfl)
  rw [lg_entry_eq]
  generalize (lg_sl ([.ref (ad 4), .int x1]) ++ List.replicate (5 - (lg_sl ([.ref (ad 4), .int x1])).length) Slot.unset).toArray = ls at hl ⊢
  exact t_X6_firstSum_0 C0 hK N x1 σ _ _ ls h hP hD va_S.rf hl
theorem k_X6_firstSum (N : Nat) {R : Room} {H : Heap} {locs : List Loc} {Q2 : State → Prop} {cc : ByteArray} {nL pc index : Nat} {ls : Array Slot} {rest : List Value} {own : String} {c0 : Cond} {σ : zSt} {x1 : Int32} {Q : Int64 → zSt → Prop} (S0 : CallFix p m c cc nL s args (c0 :: zT) own) (hml : Cond.methodLink own index yX6_firstSum ∈ zT) (hR : rm_X6_firstSum.frames + 1 ≤ R.frames ∧ 8 + (5 + 11) + rm_X6_firstSum.locals ≤ R.locals) (h : w_X6_firstSum N x1 σ Q) (hK : va_K (dC, dI) vwCl (x_ty cI cJ) s) (hP : va_P (dC, dI) vwCl (x_W ad cI cJ σ) H) (hD : va_D (zAW x_n ad s.heap.size) (x_W ad cI cJ σ)) (hS : va_S (zAW x_n ad s.heap.size) s.heap H locs) (hsz : ls.size = nL) (hW : (rest.map fun v => v.category).sum ≤ 8) (hdg : decode cc pc = .ok (.invokevirtual index, 3)) (kk : ∀ (r : Int64) (τ : zSt) (H1 : Heap) (locs1 : List Loc), Q r τ → va_P (dC, dI) vwCl (x_W ad cI cJ τ) H1 → va_D (zAW x_n ad s.heap.size) (x_W ad cI cJ τ) → va_S (zAW x_n ad s.heap.size) s.heap H1 locs1 → W p l e R s m args below meth c H1 locs1 0 0 Q2 (F0 m (pc + 3) ls (.long r :: rest))) : W p l e R s m args below meth c H locs 0 0 Q2 (F0 m pc ls (.int x1 :: .ref (ad 4) :: rest)) :=
  zcv_l (T := TX6) (N' := 10) (k := 4) (ci := 6) (fs := x_f4 ad σ) [.int x1] S0 (c_X6_firstSum N l dC dI ad cI cJ H.size σ x1 Q h) (cw_X6_firstSum S0.2.2.2.2 hml rfl rfl hR) rfl rfl hK hP hD hS rfl hsz hW rfl hdg kk
end q06
section q06
def vs_X10_reckon : List Cond := .code yX10_reckon cX10_reckon 7 (some .long) :: zT
def rm_X10_reckon : Room := { frames := 2, cells := 0, slots := 0, locals := 60 }
theorem cw_X10_reckon {rm R : Room} {s : State} {args : Array Value} {own : String} {index : Nat} {c0 : Cond} (hts : ∀ w ∈ c0 :: zT, w.before args s = true) (hml : Cond.methodLink own index yX10_reckon ∈ zT) (hrc : rm.cells = 0) (hrs : rm.slots = 0) (hR : rm.frames + 1 ≤ R.frames ∧ 8 + (7 + 11) + rm.locals ≤ R.locals) : CallW R s args own RX10 index yX10_reckon cX10_reckon 7 (some .long) vs_X10_reckon rm 0 0 2 :=
  zwV 2 hts hml mw_547 mw_1340 mw_12 mw_548 hrc hrs (by decide +kernel) hR
def b_X10_reckon_55 (N : Nat) (k_55 : Int32 → Int64 → Int32 → zSt → Prop) (Q : Int64 → zSt → Prop) (x3 : Int32) (x4 : Int64) (x6 : Int32) (σ : zSt) : Prop :=
  ((σ.1 1) ≤ x6 → Q x4 σ) ∧ (¬ (σ.1 1) ≤ x6 → (vp_in x6 10) ∧ (((σ.2.2.1 29 x6.toNatClampNeg) ≤ 0 → ∀ v1 : Int32, v1 = x6 + (1 : Int32) → k_55 x3 x4 v1 σ) ∧ (¬ (σ.2.2.1 29 x6.toNatClampNeg) ≤ 0 → (vp_in x6 10) ∧ (∀ τ2 : zSt, τ2 = zA σ 13 (upd (σ.2.2.1 13) 0 (σ.2.2.1 29 x6.toNatClampNeg)) → (vp_in x3 10) ∧ ((vp_in x6 10) ∧ (∀ τ3 : zSt, τ3 = zA τ2 13 (upd (τ2.2.2.1 13) 1 (if 0 ≤ ((τ2.2.2.1 6 x3.toNatClampNeg) - (τ2.2.2.1 6 x6.toNatClampNeg)) then ((τ2.2.2.1 6 x3.toNatClampNeg) - (τ2.2.2.1 6 x6.toNatClampNeg)) else 0 - ((τ2.2.2.1 6 x3.toNatClampNeg) - (τ2.2.2.1 6 x6.toNatClampNeg)))) → (vp_in x6 10) ∧ (w_J6_bitCount_0f7a4 N (τ3.2.2.1 28 x6.toNatClampNeg) τ3 (fun r4 τ5 => ∀ τ6 : zSt, τ6 = zA τ5 13 (upd (τ5.2.2.1 13) 3 r4) → w_X6_firstSum N (1 : Int32) τ6 (fun r7 τ8 => ∀ v9 : Int64, v9 = x4 + r7 → (vp_in x6 10) ∧ (((τ8.2.2.1 29 x6.toNatClampNeg) = (1 : Int32) → w_X6_firstSum N (0 : Int32) τ8 (fun r12 τ13 => ∀ v14 : Int64, v14 = v9 - r12 → ∀ v15 : Int32, v15 = x6 + (1 : Int32) → k_55 x3 v14 v15 τ13)) ∧ (¬ (τ8.2.2.1 29 x6.toNatClampNeg) = (1 : Int32) → ∀ v10 : Int64, v10 = v9 - (0 : Int64) → ∀ v11 : Int32, v11 = x6 + (1 : Int32) → k_55 x3 v10 v11 τ8)))))))))))
def w_X10_reckon_55 (N : Nat) (Q : Int64 → zSt → Prop) : Nat → Int32 → Int64 → Int32 → zSt → Prop
  | 0 => fun _ _ _ _ => False
  | f + 1 => b_X10_reckon_55 N (w_X10_reckon_55 N  Q f) Q
def w_X10_reckon (N : Nat) (x1 : Int64) (x3 : Int32) (σ : zSt) (Q : Int64 → zSt → Prop) : Prop :=
  w_X10_lay N x1 σ (fun τ2 => w_X10_spread N x3 τ2 (fun τ4 => ∀ τ5 : zSt, τ5 = zI τ4 6 x3 → (vp_in x3 10) ∧ (w_J6_bitCount_0f7a4 N (τ5.2.2.1 28 x3.toNatClampNeg) τ5 (fun r6 τ7 => ∀ τ8 : zSt, τ8 = zA τ7 13 (upd (τ7.2.2.1 13) 2 r6) → w_J13_bitCount_95d88 N x1 τ8 (fun r9 τ10 => ∀ τ11 : zSt, τ11 = zA τ10 13 (upd (τ10.2.2.1 13) 4 r9) → w_X10_reckon_55 N Q N x3 (0 : Int64) (0 : Int32) τ11)))))
variable {p : Program} {l : Launch} {e : Env} {s : State} {m : MethodId} {args : Array Value} {below : List Frame} {meth : Method} {c : Code} {dC : Nat → ClassId} {dI : Nat → Nat → Nat} {ad : Nat → Nat} {cI cJ : ClassId}
set_option maxHeartbeats 4000000 in
set_option maxRecDepth 100000 in
theorem tb_X10_reckon_55 (C0 : zCx p s m meth c args RX10 cX10_reckon 7 (some .long) vs_X10_reckon) (hK : va_K (dC, dI) vwCl (x_ty cI cJ) s) (N : Nat) {Q : Int64 → zSt → Prop} {k_55 : Int32 → Int64 → Int32 → zSt → Prop} (hk_55 : ∀ (x3 : Int32) (x4 : Int64) (x6 : Int32) (σ : zSt) (H : Heap) (locs : List Loc) (ls : Array Slot), k_55 x3 x4 x6 σ → va_P (dC, dI) vwCl (x_W ad cI cJ σ) H → va_D (zAW x_n ad s.heap.size) (x_W ad cI cJ σ) → va_S (zAW x_n ad s.heap.size) s.heap H locs → lv_has ls 7 [(0, .ref (ad 9)), (3, .int x3), (4, .long x4), (6, .int x6)] → W p l e rm_X10_reckon s m args below meth c H locs 0 0 (MQ below (zQl (dC, dI) (x_ty cI cJ) (x_W ad cI cJ) (zAW x_n ad s.heap.size) Q) args s 0 0 (zAW x_n ad s.heap.size)) (F0 m 55 ls [])) : ∀ (x3 : Int32) (x4 : Int64) (x6 : Int32) (σ : zSt) (H : Heap) (locs : List Loc) (ls : Array Slot), b_X10_reckon_55 N k_55 Q x3 x4 x6 σ → va_P (dC, dI) vwCl (x_W ad cI cJ σ) H → va_D (zAW x_n ad s.heap.size) (x_W ad cI cJ σ) → va_S (zAW x_n ad s.heap.size) s.heap H locs → lv_has ls 7 [(0, .ref (ad 9)), (3, .int x3), (4, .long x4), (6, .int x6)] → W p l e rm_X10_reckon s m args below meth c H locs 0 0 (MQ below (zQl (dC, dI) (x_ty cI cJ) (x_W ad cI cJ) (zAW x_n ad s.heap.size) Q) args s 0 0 (zAW x_n ad s.heap.size)) (F0 m 55 ls []) := by
  obtain ⟨hx, hb, hml, hr, hown, hts, hlocks⟩ := id C0
  intro x3 x4 x6 σ H locs ls h hP hD hS hl
  unfold b_X10_reckon_55 at h
  refine lv_iload hx hb dX10_reckon_55 (lv_at hl 3 rfl) ?_
  refine lv_aload_n hx hb dX10_reckon_57 rfl (lv_at hl 0 rfl) ?_
  refine xg_9_0 hx hb hts hown hK hP mw_199 dX10_reckon_58 ?_
  refine xg_3_4 hx hb hts hown hK hP mw_74 dX10_reckon_61 ?_
  refine lv_icmp_ge (tgt := 191) hx hb dX10_reckon_64 (by decide) (fun hc => ?_) (fun hc => ?_)
  · have h := h.1 hc
    refine lv_lload hx hb dX10_reckon_191 (lv_at hl 2 rfl) ?_
    exact zret_l hx hb hr hlocks hK hP hD hS h dX10_reckon_193
  · have h := h.2 hc
    refine lv_aload_n hx hb dX10_reckon_67 rfl (lv_at hl 0 rfl) ?_
    refine xg_9_5 hx hb hts hown hK hP mw_204 dX10_reckon_68 ?_
    refine lv_iload hx hb dX10_reckon_71 (lv_at hl 3 rfl) ?_
    refine xa_51 hx hb hK hP h.1 rfl dX10_reckon_73 ?_
    have h := h.2
    refine lv_if_le (tgt := 185) hx hb dX10_reckon_74 (by decide) (fun hc => ?_) (fun hc => ?_)
    · have h := h.1 hc
      obtain ⟨v1, ev1⟩ : ∃ z : Int32, z = x6 + (1 : Int32) := ⟨_, rfl⟩
      have h := h v1 ev1
      refine lv_iinc (v := v1) (lv' := [(6, .int v1), (0, .ref (ad 9)), (3, .int x3), (4, .long x4)]) hx hb dX10_reckon_185 hl (k := 3) rfl (by rw [ev1]; rfl) (by decide) rfl (fun ls hl => ?_)
      refine lv_goto (tgt := 55) hx hb dX10_reckon_188 (by decide) ?_
      exact hk_55 x3 x4 v1 σ _ _ _ h hP hD hS (lv_sub hl [1, 2, 3, 0] rfl)
    · have h := h.2 hc
      refine lv_aload_n hx hb dX10_reckon_77 rfl (lv_at hl 0 rfl) ?_
      refine xg_9_1 hx hb hts hown hK hP mw_200 dX10_reckon_78 ?_
      refine xg_4_6 hx hb hts hown hK hP mw_99 dX10_reckon_81 ?_
      refine lv_iconst (v := (0 : Int32)) hx hb dX10_reckon_84 (by decide) ?_
      refine lv_aload_n hx hb dX10_reckon_85 rfl (lv_at hl 0 rfl) ?_
      refine xg_9_5 hx hb hts hown hK hP mw_204 dX10_reckon_86 ?_
      refine lv_iload hx hb dX10_reckon_89 (lv_at hl 3 rfl) ?_
      refine xa_51 hx hb hK hP h.1 rfl dX10_reckon_91 ?_
      have h := h.2
      refine xs_32 (j := 0) hx hb hK hP hD hS (zin (by decide)) (by decide) dX10_reckon_92 (fun τ2 H locs eτ2 hP hD hS => ?_)
      have h := h τ2 eτ2
      refine lv_aload_n hx hb dX10_reckon_93 rfl (lv_at hl 0 rfl) ?_
      refine xg_9_1 hx hb hts hown hK hP mw_200 dX10_reckon_94 ?_
      refine xg_4_6 hx hb hts hown hK hP mw_99 dX10_reckon_97 ?_
      refine lv_iconst (v := (1 : Int32)) hx hb dX10_reckon_100 (by decide) ?_
      refine lv_aload_n hx hb dX10_reckon_101 rfl (lv_at hl 0 rfl) ?_
      refine xg_9_0 hx hb hts hown hK hP mw_199 dX10_reckon_102 ?_
      refine xg_3_2 hx hb hts hown hK hP mw_70 dX10_reckon_105 ?_
      refine lv_iload_n hx hb dX10_reckon_108 rfl (lv_at hl 1 rfl) ?_
      refine xa_24 hx hb hK hP h.1 rfl dX10_reckon_109 ?_
      have h := h.2
      refine lv_aload_n hx hb dX10_reckon_110 rfl (lv_at hl 0 rfl) ?_
      refine xg_9_0 hx hb hts hown hK hP mw_199 dX10_reckon_111 ?_
      refine xg_3_2 hx hb hts hown hK hP mw_70 dX10_reckon_114 ?_
      refine lv_iload hx hb dX10_reckon_117 (lv_at hl 3 rfl) ?_
      refine xa_24 hx hb hK hP h.1 rfl dX10_reckon_119 ?_
      have h := h.2
      refine lv_isub hx hb dX10_reckon_120 ?_
      refine va_mabs hx hb (hml.trans hl.1.symm) hown (hts _ (List.mem_cons_of_mem _ mw_564)) (hts _ (List.mem_cons_of_mem _ mw_565)) (hts _ (List.mem_cons_of_mem _ mw_19)) (hts _ (List.mem_cons_of_mem _ mw_566)) (Nat.le_of_ble_eq_true rfl) (Nat.le_of_ble_eq_true rfl) (Nat.zero_le _) (Nat.zero_le _) dX10_reckon_121 ?_
      refine xs_32 (j := 1) hx hb hK hP hD hS (zin (by decide)) (by decide) dX10_reckon_124 (fun τ3 H locs eτ3 hP hD hS => ?_)
      have h := h τ3 eτ3
      refine lv_aload_n hx hb dX10_reckon_125 rfl (lv_at hl 0 rfl) ?_
      refine xg_9_1 hx hb hts hown hK hP mw_200 dX10_reckon_126 ?_
      refine xg_4_6 hx hb hts hown hK hP mw_99 dX10_reckon_129 ?_
      refine lv_iconst (v := (3 : Int32)) hx hb dX10_reckon_132 (by decide) ?_
      refine lv_aload_n hx hb dX10_reckon_133 rfl (lv_at hl 0 rfl) ?_
      refine xg_9_4 hx hb hts hown hK hP mw_203 dX10_reckon_134 ?_
      refine lv_iload hx hb dX10_reckon_137 (lv_at hl 3 rfl) ?_
      refine xa_50 hx hb hK hP h.1 rfl dX10_reckon_139 ?_
      have h := h.2
      refine k_J6_bitCount_0f7a4 N ⟨hx, hb, hml, hown, hts⟩ mw_557 ⟨Nat.le_of_ble_eq_true rfl, Nat.le_of_ble_eq_true rfl⟩ h hK hP hD hS hl.1 (rest := [.int (3 : Int32), .ref (ad 32)]) (Nat.le_of_ble_eq_true rfl) dX10_reckon_140 (fun r4 τ5 H locs h hP hD hS => ?_)
      refine xs_32 (j := 3) hx hb hK hP hD hS (zin (by decide)) (by decide) dX10_reckon_143 (fun τ6 H locs eτ6 hP hD hS => ?_)
      have h := h τ6 eτ6
      refine lv_lload hx hb dX10_reckon_144 (lv_at hl 2 rfl) ?_
      refine lv_aload_n hx hb dX10_reckon_146 rfl (lv_at hl 0 rfl) ?_
      refine xg_9_1 hx hb hts hown hK hP mw_200 dX10_reckon_147 ?_
      refine lv_iconst (v := (1 : Int32)) hx hb dX10_reckon_150 (by decide) ?_
      refine k_X6_firstSum N ⟨hx, hb, hml, hown, hts⟩ mw_567 ⟨Nat.le_of_ble_eq_true rfl, Nat.le_of_ble_eq_true rfl⟩ h hK hP hD hS hl.1 (rest := [.long x4]) (Nat.le_of_ble_eq_true rfl) dX10_reckon_151 (fun r7 τ8 H locs h hP hD hS => ?_)
      refine lv_ladd hx hb dX10_reckon_154 ?_
      refine lv_topl (fun v9 ev9 => ?_)
      have h := h v9 ev9
      refine lv_lstore (lv' := [(4, .long v9), (0, .ref (ad 9)), (3, .int x3), (6, .int x6)]) hx hb dX10_reckon_155 hl (by decide) rfl (fun ls hl => ?_)
      refine lv_lload hx hb dX10_reckon_157 (lv_at hl 0 rfl) ?_
      refine lv_aload_n hx hb dX10_reckon_159 rfl (lv_at hl 1 rfl) ?_
      refine xg_9_5 hx hb hts hown hK hP mw_204 dX10_reckon_160 ?_
      refine lv_iload hx hb dX10_reckon_163 (lv_at hl 3 rfl) ?_
      refine xa_51 hx hb hK hP h.1 rfl dX10_reckon_165 ?_
      have h := h.2
      refine lv_iconst (v := (1 : Int32)) hx hb dX10_reckon_166 (by decide) ?_
      refine lv_icmp_ne (tgt := 181) hx hb dX10_reckon_167 (by decide) (fun hc => ?_) (fun hc => ?_)
      · have h := h.2 hc
        refine lv_lconst (v := (0 : Int64)) hx hb dX10_reckon_181 (by decide) ?_
        refine lv_lsub hx hb dX10_reckon_182 ?_
        refine lv_topl (fun v10 ev10 => ?_)
        have h := h v10 ev10
        refine lv_lstore (lv' := [(4, .long v10), (0, .ref (ad 9)), (3, .int x3), (6, .int x6)]) hx hb dX10_reckon_183 hl (by decide) rfl (fun ls hl => ?_)
        obtain ⟨v11, ev11⟩ : ∃ z : Int32, z = x6 + (1 : Int32) := ⟨_, rfl⟩
        have h := h v11 ev11
        refine lv_iinc (v := v11) (lv' := [(6, .int v11), (4, .long v10), (0, .ref (ad 9)), (3, .int x3)]) hx hb dX10_reckon_185 hl (k := 3) rfl (by rw [ev11]; rfl) (by decide) rfl (fun ls hl => ?_)
        refine lv_goto (tgt := 55) hx hb dX10_reckon_188 (by decide) ?_
        exact hk_55 x3 v10 v11 τ8 _ _ _ h hP hD hS (lv_sub hl [2, 3, 1, 0] rfl)
      · have h := h.1 hc
        refine lv_aload_n hx hb dX10_reckon_170 rfl (lv_at hl 1 rfl) ?_
        refine xg_9_1 hx hb hts hown hK hP mw_200 dX10_reckon_171 ?_
        refine lv_iconst (v := (0 : Int32)) hx hb dX10_reckon_174 (by decide) ?_
        refine k_X6_firstSum N ⟨hx, hb, hml, hown, hts⟩ mw_567 ⟨Nat.le_of_ble_eq_true rfl, Nat.le_of_ble_eq_true rfl⟩ h hK hP hD hS hl.1 (rest := [.long v9]) (Nat.le_of_ble_eq_true rfl) dX10_reckon_175 (fun r12 τ13 H locs h hP hD hS => ?_)
        refine lv_goto (tgt := 182) hx hb dX10_reckon_178 (by decide) ?_
        refine lv_lsub hx hb dX10_reckon_182 ?_
        refine lv_topl (fun v14 ev14 => ?_)
        have h := h v14 ev14
        refine lv_lstore (lv' := [(4, .long v14), (0, .ref (ad 9)), (3, .int x3), (6, .int x6)]) hx hb dX10_reckon_183 hl (by decide) rfl (fun ls hl => ?_)
        obtain ⟨v15, ev15⟩ : ∃ z : Int32, z = x6 + (1 : Int32) := ⟨_, rfl⟩
        have h := h v15 ev15
        refine lv_iinc (v := v15) (lv' := [(6, .int v15), (4, .long v14), (0, .ref (ad 9)), (3, .int x3)]) hx hb dX10_reckon_185 hl (k := 3) rfl (by rw [ev15]; rfl) (by decide) rfl (fun ls hl => ?_)
        refine lv_goto (tgt := 55) hx hb dX10_reckon_188 (by decide) ?_
        exact hk_55 x3 v14 v15 τ13 _ _ _ h hP hD hS (lv_sub hl [2, 3, 1, 0] rfl)
set_option maxHeartbeats 4000000 in
set_option maxRecDepth 100000 in
theorem t_X10_reckon_55 (C0 : zCx p s m meth c args RX10 cX10_reckon 7 (some .long) vs_X10_reckon) (hK : va_K (dC, dI) vwCl (x_ty cI cJ) s) (N : Nat) {Q : Int64 → zSt → Prop} : ∀ (f : Nat) (x3 : Int32) (x4 : Int64) (x6 : Int32) (σ : zSt) (H : Heap) (locs : List Loc) (ls : Array Slot), w_X10_reckon_55 N  Q f x3 x4 x6 σ → va_P (dC, dI) vwCl (x_W ad cI cJ σ) H → va_D (zAW x_n ad s.heap.size) (x_W ad cI cJ σ) → va_S (zAW x_n ad s.heap.size) s.heap H locs → lv_has ls 7 [(0, .ref (ad 9)), (3, .int x3), (4, .long x4), (6, .int x6)] → W p l e rm_X10_reckon s m args below meth c H locs 0 0 (MQ below (zQl (dC, dI) (x_ty cI cJ) (x_W ad cI cJ) (zAW x_n ad s.heap.size) Q) args s 0 0 (zAW x_n ad s.heap.size)) (F0 m 55 ls []) := by
  intro f
  induction f with
  | zero => intro x3 x4 x6 σ H locs ls h; exact h.elim
  | succ f ih =>
    intro x3 x4 x6 σ H locs ls h hP hD hS hl
    exact tb_X10_reckon_55 C0 hK N  (k_55 := w_X10_reckon_55 N  Q f) ih x3 x4 x6 σ H locs ls h hP hD hS hl
set_option maxHeartbeats 4000000 in
set_option maxRecDepth 100000 in
theorem t_X10_reckon_0 (C0 : zCx p s m meth c args RX10 cX10_reckon 7 (some .long) vs_X10_reckon) (hK : va_K (dC, dI) vwCl (x_ty cI cJ) s) (N : Nat) {Q : Int64 → zSt → Prop} : ∀ (x1 : Int64) (x3 : Int32) (σ : zSt) (H : Heap) (locs : List Loc) (ls : Array Slot), w_X10_reckon N x1 x3 σ Q → va_P (dC, dI) vwCl (x_W ad cI cJ σ) H → va_D (zAW x_n ad s.heap.size) (x_W ad cI cJ σ) → va_S (zAW x_n ad s.heap.size) s.heap H locs → lv_has ls 7 [(0, .ref (ad 9)), (1, .long x1), (3, .int x3)] → W p l e rm_X10_reckon s m args below meth c H locs 0 0 (MQ below (zQl (dC, dI) (x_ty cI cJ) (x_W ad cI cJ) (zAW x_n ad s.heap.size) Q) args s 0 0 (zAW x_n ad s.heap.size)) (F0 m 0 ls []) := by
  obtain ⟨hx, hb, hml, hr, hown, hts, hlocks⟩ := id C0
  intro x1 x3 σ H locs ls h hP hD hS hl
  unfold w_X10_reckon at h
  refine lv_aload_n hx hb dX10_reckon_0 rfl (lv_at hl 0 rfl) ?_
  refine lv_lload_n hx hb dX10_reckon_1 rfl (lv_at hl 1 rfl) ?_
  refine k_X10_lay N ⟨hx, hb, hml, hown, hts⟩ mw_549 ⟨Nat.le_of_ble_eq_true rfl, Nat.le_of_ble_eq_true rfl⟩ h hK hP hD hS hl.1 (rest := []) (Nat.le_of_ble_eq_true rfl) dX10_reckon_2 (fun τ2 H locs h hP hD hS => ?_)
  refine lv_aload_n hx hb dX10_reckon_5 rfl (lv_at hl 0 rfl) ?_
  refine lv_iload_n hx hb dX10_reckon_6 rfl (lv_at hl 2 rfl) ?_
  refine k_X10_spread N ⟨hx, hb, hml, hown, hts⟩ mw_553 ⟨Nat.le_of_ble_eq_true rfl, Nat.le_of_ble_eq_true rfl⟩ h hK hP hD hS hl.1 (rest := []) (Nat.le_of_ble_eq_true rfl) dX10_reckon_7 (fun τ4 H locs h hP hD hS => ?_)
  refine lv_aload_n hx hb dX10_reckon_10 rfl (lv_at hl 0 rfl) ?_
  refine xg_9_1 hx hb hts hown hK hP mw_200 dX10_reckon_11 ?_
  refine lv_iload_n hx hb dX10_reckon_14 rfl (lv_at hl 2 rfl) ?_
  refine xp_4_9 hx hb hts hown hK hP hD hS mw_104 dX10_reckon_15 (fun τ5 H locs eτ5 hP hD hS => ?_)
  have h := h τ5 eτ5
  refine lv_aload_n hx hb dX10_reckon_18 rfl (lv_at hl 0 rfl) ?_
  refine xg_9_1 hx hb hts hown hK hP mw_200 dX10_reckon_19 ?_
  refine xg_4_6 hx hb hts hown hK hP mw_99 dX10_reckon_22 ?_
  refine lv_iconst (v := (2 : Int32)) hx hb dX10_reckon_25 (by decide) ?_
  refine lv_aload_n hx hb dX10_reckon_26 rfl (lv_at hl 0 rfl) ?_
  refine xg_9_4 hx hb hts hown hK hP mw_203 dX10_reckon_27 ?_
  refine lv_iload_n hx hb dX10_reckon_30 rfl (lv_at hl 2 rfl) ?_
  refine xa_50 hx hb hK hP h.1 rfl dX10_reckon_31 ?_
  have h := h.2
  refine k_J6_bitCount_0f7a4 N ⟨hx, hb, hml, hown, hts⟩ mw_557 ⟨Nat.le_of_ble_eq_true rfl, Nat.le_of_ble_eq_true rfl⟩ h hK hP hD hS hl.1 (rest := [.int (2 : Int32), .ref (ad 32)]) (Nat.le_of_ble_eq_true rfl) dX10_reckon_32 (fun r6 τ7 H locs h hP hD hS => ?_)
  refine xs_32 (j := 2) hx hb hK hP hD hS (zin (by decide)) (by decide) dX10_reckon_35 (fun τ8 H locs eτ8 hP hD hS => ?_)
  have h := h τ8 eτ8
  refine lv_aload_n hx hb dX10_reckon_36 rfl (lv_at hl 0 rfl) ?_
  refine xg_9_1 hx hb hts hown hK hP mw_200 dX10_reckon_37 ?_
  refine xg_4_6 hx hb hts hown hK hP mw_99 dX10_reckon_40 ?_
  refine lv_iconst (v := (4 : Int32)) hx hb dX10_reckon_43 (by decide) ?_
  refine lv_lload_n hx hb dX10_reckon_44 rfl (lv_at hl 1 rfl) ?_
  refine k_J13_bitCount_95d88 N ⟨hx, hb, hml, hown, hts⟩ mw_563 ⟨Nat.le_of_ble_eq_true rfl, Nat.le_of_ble_eq_true rfl⟩ h hK hP hD hS hl.1 (rest := [.int (4 : Int32), .ref (ad 32)]) (Nat.le_of_ble_eq_true rfl) dX10_reckon_45 (fun r9 τ10 H locs h hP hD hS => ?_)
  refine xs_32 (j := 4) hx hb hK hP hD hS (zin (by decide)) (by decide) dX10_reckon_48 (fun τ11 H locs eτ11 hP hD hS => ?_)
  have h := h τ11 eτ11
  refine lv_lconst (v := (0 : Int64)) hx hb dX10_reckon_49 (by decide) ?_
  refine lv_lstore (lv' := [(4, .long (0 : Int64)), (0, .ref (ad 9)), (1, .long x1), (3, .int x3)]) hx hb dX10_reckon_50 hl (by decide) rfl (fun ls hl => ?_)
  refine lv_iconst (v := (0 : Int32)) hx hb dX10_reckon_52 (by decide) ?_
  refine lv_istore (lv' := [(6, .int (0 : Int32)), (4, .long (0 : Int64)), (0, .ref (ad 9)), (1, .long x1), (3, .int x3)]) hx hb dX10_reckon_53 hl (by decide) rfl (fun ls hl => ?_)
  exact t_X10_reckon_55 C0 hK N  N x3 (0 : Int64) (0 : Int32) τ11 _ _ _ h hP hD hS (lv_sub hl [2, 4, 1, 0] rfl)
set_option maxHeartbeats 4000000 in
set_option maxRecDepth 100000 in
theorem c_X10_reckon (N : Nat) (l : Launch) (dC : Nat → ClassId) (dI : Nat → Nat → Nat) (ad : Nat → Nat) (cI cJ : ClassId) (sz : Nat) (σ : zSt) (x1 : Int64) (x3 : Int32) (Q : Int64 → zSt → Prop) (h : w_X10_reckon N x1 x3 σ Q) : Met l yX10_reckon vs_X10_reckon rm_X10_reckon (va_Pc [.ref (ad 9), .long x1, .int x3] (zPc (dC, dI) (x_ty cI cJ) (x_W ad cI cJ) sz σ)) (zQl (dC, dI) (x_ty cI cJ) (x_W ad cI cJ) (zAW x_n ad sz) Q) 0 0 (zAW x_n ad sz) := by
  refine Met.ofW (cc := cX10_reckon) (maxL := 7) (ret := (some .long)) (by decide) rfl ?_
  intro p e s m args below meth c s₁ B hml hv
  obtain ⟨rfl, hsz, hP, hK, hD0⟩ := hv
  subst hsz
  have C0 : zCx p s m meth c _ RX10 cX10_reckon 7 (some .long) vs_X10_reckon := ⟨B.exec, B.bytes, hml, B.returns, findClass_of_methodNamed B.named, atoms_spec (ws := vs_X10_reckon) B.pre, B.notSynchronized⟩
  have hD := x_D0 (n0 := s.heap.size) hD0
  have hl := lv_entry ([.ref (ad 9), .long x1, .int x3]) (n := 7) (Nat.le_of_ble_eq_true rfl)
  rw [lg_entry_eq]
  generalize (lg_sl ([.ref (ad 9), .long x1, .int x3]) ++ List.replicate (7 - (lg_sl ([.ref (ad 9), .long x1, .int x3])).length) Slot.unset).toArray = ls at hl ⊢
  exact t_X10_reckon_0 C0 hK N x1 x3 σ _ _ ls h hP hD va_S.rf hl
theorem k_X10_reckon (N : Nat) {R : Room} {H : Heap} {locs : List Loc} {Q2 : State → Prop} {cc : ByteArray} {nL pc index : Nat} {ls : Array Slot} {rest : List Value} {own : String} {c0 : Cond} {σ : zSt} {x1 : Int64} {x3 : Int32} {Q : Int64 → zSt → Prop} (S0 : CallFix p m c cc nL s args (c0 :: zT) own) (hml : Cond.methodLink own index yX10_reckon ∈ zT) (hR : rm_X10_reckon.frames + 1 ≤ R.frames ∧ 8 + (7 + 11) + rm_X10_reckon.locals ≤ R.locals) (h : w_X10_reckon N x1 x3 σ Q) (hK : va_K (dC, dI) vwCl (x_ty cI cJ) s) (hP : va_P (dC, dI) vwCl (x_W ad cI cJ σ) H) (hD : va_D (zAW x_n ad s.heap.size) (x_W ad cI cJ σ)) (hS : va_S (zAW x_n ad s.heap.size) s.heap H locs) (hsz : ls.size = nL) (hW : (rest.map fun v => v.category).sum ≤ 8) (hdg : decode cc pc = .ok (.invokevirtual index, 3)) (kk : ∀ (r : Int64) (τ : zSt) (H1 : Heap) (locs1 : List Loc), Q r τ → va_P (dC, dI) vwCl (x_W ad cI cJ τ) H1 → va_D (zAW x_n ad s.heap.size) (x_W ad cI cJ τ) → va_S (zAW x_n ad s.heap.size) s.heap H1 locs1 → W p l e R s m args below meth c H1 locs1 0 0 Q2 (F0 m (pc + 3) ls (.long r :: rest))) : W p l e R s m args below meth c H locs 0 0 Q2 (F0 m pc ls (.int x3 :: .long x1 :: .ref (ad 9) :: rest)) :=
  zcv_l (T := TX10) (N' := 10) (k := 9) (ci := 10) (fs := x_f9 ad σ) [.long x1, .int x3] S0 (c_X10_reckon N l dC dI ad cI cJ H.size σ x1 x3 Q h) (cw_X10_reckon S0.2.2.2.2 hml rfl rfl hR) rfl rfl hK hP hD hS rfl hsz hW rfl hdg kk
end q06
section q06
def vs_X10_of : List Cond := .code yX10_of cX10_of 8 (some .long) :: zT
def rm_X10_of : Room := { frames := 3, cells := 0, slots := 0, locals := 86 }
theorem cw_X10_of {rm R : Room} {s : State} {args : Array Value} {own : String} {index : Nat} {c0 : Cond} (hts : ∀ w ∈ c0 :: zT, w.before args s = true) (hml : Cond.methodLink own index yX10_of ∈ zT) (hrc : rm.cells = 0) (hrs : rm.slots = 0) (hR : rm.frames + 1 ≤ R.frames ∧ 8 + (8 + 11) + rm.locals ≤ R.locals) : CallW R s args own RX10 index yX10_of cX10_of 8 (some .long) vs_X10_of rm 0 0 2 :=
  zwV 2 hts hml mw_543 mw_544 mw_12 mw_545 hrc hrs (by decide +kernel) hR
def b_X10_of_77 (N : Nat) (Q : Int64 → zSt → Prop) (x1 : Int64) (x3 : Int32) (x6 : Int32) (σ : zSt) : Prop :=
  (vp_in x3 10) ∧ (w_J13_bitCount_95d88 N (x1 &&& (σ.2.2.2 2 x3.toNatClampNeg)) σ (fun r1 τ2 => (vp_in x6 8192) ∧ ((x3 = (τ2.1 26) → Q ((τ2.2.2.2 6 x6.toNatClampNeg) - (r1.toInt64 * ((τ2.1 25) + (τ2.1 27)).toInt64)) τ2) ∧ (¬ x3 = (τ2.1 26) → Q ((τ2.2.2.2 6 x6.toNatClampNeg) - (r1.toInt64 * (τ2.1 25).toInt64)) τ2))))
def w_X10_of (N : Nat) (x1 : Int64) (x3 : Int32) (σ : zSt) (Q : Int64 → zSt → Prop) : Prop :=
  ∀ v1 : Int64, v1 = (x1 * (σ.1 1).toInt64) + x3.toInt64 → ∀ v2 : Int32, v2 = (((v1 ^^^ (v1 >>> ((13 : Int32).toInt64 &&& 63))) ^^^ (v1 >>> ((26 : Int32).toInt64 &&& 63))) ^^^ (v1 >>> ((39 : Int32).toInt64 &&& 63))).toInt32 &&& (8191 : Int32) → (vp_in v2 8192) ∧ (((lg_cmp (σ.2.2.2 5 v2.toNatClampNeg) v1) = 0 → b_X10_of_77 N Q x1 x3 v2 σ) ∧ (¬ (lg_cmp (σ.2.2.2 5 v2.toNatClampNeg) v1) = 0 → w_X10_reckon N x1 x3 σ (fun r3 τ4 => (vp_in v2 8192) ∧ (∀ τ5 : zSt, τ5 = zB τ4 6 (vp_updL (τ4.2.2.2 6) (v2.toNatClampNeg) r3) → (vp_in v2 8192) ∧ (∀ τ6 : zSt, τ6 = zB τ5 5 (vp_updL (τ5.2.2.2 5) (v2.toNatClampNeg) v1) → b_X10_of_77 N Q x1 x3 v2 τ6)))))
variable {p : Program} {l : Launch} {e : Env} {s : State} {m : MethodId} {args : Array Value} {below : List Frame} {meth : Method} {c : Code} {dC : Nat → ClassId} {dI : Nat → Nat → Nat} {ad : Nat → Nat} {cI cJ : ClassId}
set_option maxHeartbeats 4000000 in
set_option maxRecDepth 100000 in
theorem t_X10_of_77 (C0 : zCx p s m meth c args RX10 cX10_of 8 (some .long) vs_X10_of) (hK : va_K (dC, dI) vwCl (x_ty cI cJ) s) (N : Nat) {Q : Int64 → zSt → Prop} : ∀ (x1 : Int64) (x3 : Int32) (x6 : Int32) (σ : zSt) (H : Heap) (locs : List Loc) (ls : Array Slot), b_X10_of_77 N  Q x1 x3 x6 σ → va_P (dC, dI) vwCl (x_W ad cI cJ σ) H → va_D (zAW x_n ad s.heap.size) (x_W ad cI cJ σ) → va_S (zAW x_n ad s.heap.size) s.heap H locs → lv_has ls 8 [(0, .ref (ad 9)), (1, .long x1), (3, .int x3), (6, .int x6)] → W p l e rm_X10_of s m args below meth c H locs 0 0 (MQ below (zQl (dC, dI) (x_ty cI cJ) (x_W ad cI cJ) (zAW x_n ad s.heap.size) Q) args s 0 0 (zAW x_n ad s.heap.size)) (F0 m 77 ls []) := by
  obtain ⟨hx, hb, hml, hr, hown, hts, hlocks⟩ := id C0
  intro x1 x3 x6 σ H locs ls h hP hD hS hl
  unfold b_X10_of_77 at h
  refine lv_lload_n hx hb dX10_of_77 rfl (lv_at hl 1 rfl) ?_
  refine lv_aload_n hx hb dX10_of_78 rfl (lv_at hl 0 rfl) ?_
  refine xg_9_0 hx hb hts hown hK hP mw_199 dX10_of_79 ?_
  refine xg_3_0 hx hb hts hown hK hP mw_66 dX10_of_82 ?_
  refine xg_2_2 hx hb hts hown hK hP mw_54 dX10_of_85 ?_
  refine lv_iload_n hx hb dX10_of_88 rfl (lv_at hl 2 rfl) ?_
  refine xa_22 hx hb hK hP h.1 rfl dX10_of_89 ?_
  have h := h.2
  refine lv_land hx hb dX10_of_90 ?_
  refine k_J13_bitCount_95d88 N ⟨hx, hb, hml, hown, hts⟩ mw_563 ⟨Nat.le_of_ble_eq_true rfl, Nat.le_of_ble_eq_true rfl⟩ h hK hP hD hS hl.1 (rest := []) (Nat.le_of_ble_eq_true rfl) dX10_of_91 (fun r1 τ2 H locs h hP hD hS => ?_)
  refine lv_istore (lv' := [(7, .int r1), (0, .ref (ad 9)), (1, .long x1), (3, .int x3), (6, .int x6)]) hx hb dX10_of_94 hl (by decide) rfl (fun ls hl => ?_)
  refine lv_aload_n hx hb dX10_of_96 rfl (lv_at hl 1 rfl) ?_
  refine xg_9_3 hx hb hts hown hK hP mw_202 dX10_of_97 ?_
  refine lv_iload hx hb dX10_of_100 (lv_at hl 4 rfl) ?_
  refine xa_49 hx hb hK hP h.1 rfl dX10_of_102 ?_
  have h := h.2
  refine lv_iload hx hb dX10_of_103 (lv_at hl 0 rfl) ?_
  refine lv_i2l hx hb dX10_of_105 rfl ?_
  refine lv_iload_n hx hb dX10_of_106 rfl (lv_at hl 3 rfl) ?_
  refine lv_aload_n hx hb dX10_of_107 rfl (lv_at hl 1 rfl) ?_
  refine xg_9_7 hx hb hts hown hK hP mw_208 dX10_of_108 ?_
  refine lv_icmp_ne (tgt := 126) hx hb dX10_of_111 (by decide) (fun hc => ?_) (fun hc => ?_)
  · have h := h.2 hc
    refine lv_aload_n hx hb dX10_of_126 rfl (lv_at hl 1 rfl) ?_
    refine xg_9_6 hx hb hts hown hK hP mw_206 dX10_of_127 ?_
    refine lv_i2l hx hb dX10_of_130 rfl ?_
    refine lv_lmul hx hb dX10_of_131 ?_
    refine lv_lsub hx hb dX10_of_132 ?_
    exact zret_l hx hb hr hlocks hK hP hD hS h dX10_of_133
  · have h := h.1 hc
    refine lv_aload_n hx hb dX10_of_114 rfl (lv_at hl 1 rfl) ?_
    refine xg_9_6 hx hb hts hown hK hP mw_206 dX10_of_115 ?_
    refine lv_aload_n hx hb dX10_of_118 rfl (lv_at hl 1 rfl) ?_
    refine xg_9_8 hx hb hts hown hK hP mw_209 dX10_of_119 ?_
    refine lv_iadd hx hb dX10_of_122 ?_
    refine lv_goto (tgt := 130) hx hb dX10_of_123 (by decide) ?_
    refine lv_i2l hx hb dX10_of_130 rfl ?_
    refine lv_lmul hx hb dX10_of_131 ?_
    refine lv_lsub hx hb dX10_of_132 ?_
    exact zret_l hx hb hr hlocks hK hP hD hS h dX10_of_133
set_option maxHeartbeats 4000000 in
set_option maxRecDepth 100000 in
theorem t_X10_of_0 (C0 : zCx p s m meth c args RX10 cX10_of 8 (some .long) vs_X10_of) (hK : va_K (dC, dI) vwCl (x_ty cI cJ) s) (N : Nat) {Q : Int64 → zSt → Prop} : ∀ (x1 : Int64) (x3 : Int32) (σ : zSt) (H : Heap) (locs : List Loc) (ls : Array Slot), w_X10_of N x1 x3 σ Q → va_P (dC, dI) vwCl (x_W ad cI cJ σ) H → va_D (zAW x_n ad s.heap.size) (x_W ad cI cJ σ) → va_S (zAW x_n ad s.heap.size) s.heap H locs → lv_has ls 8 [(0, .ref (ad 9)), (1, .long x1), (3, .int x3)] → W p l e rm_X10_of s m args below meth c H locs 0 0 (MQ below (zQl (dC, dI) (x_ty cI cJ) (x_W ad cI cJ) (zAW x_n ad s.heap.size) Q) args s 0 0 (zAW x_n ad s.heap.size)) (F0 m 0 ls []) := by
  obtain ⟨hx, hb, hml, hr, hown, hts, hlocks⟩ := id C0
  intro x1 x3 σ H locs ls h hP hD hS hl
  unfold w_X10_of at h
  refine lv_lload_n hx hb dX10_of_0 rfl (lv_at hl 1 rfl) ?_
  refine lv_aload_n hx hb dX10_of_1 rfl (lv_at hl 0 rfl) ?_
  refine xg_9_0 hx hb hts hown hK hP mw_199 dX10_of_2 ?_
  refine xg_3_4 hx hb hts hown hK hP mw_74 dX10_of_5 ?_
  refine lv_i2l hx hb dX10_of_8 rfl ?_
  refine lv_lmul hx hb dX10_of_9 ?_
  refine lv_iload_n hx hb dX10_of_10 rfl (lv_at hl 2 rfl) ?_
  refine lv_i2l hx hb dX10_of_11 rfl ?_
  refine lv_ladd hx hb dX10_of_12 ?_
  refine lv_topl (fun v1 ev1 => ?_)
  have h := h v1 ev1
  refine lv_lstore (lv' := [(4, .long v1), (0, .ref (ad 9)), (1, .long x1), (3, .int x3)]) hx hb dX10_of_13 hl (by decide) rfl (fun ls hl => ?_)
  refine lv_lload hx hb dX10_of_15 (lv_at hl 0 rfl) ?_
  refine lv_lload hx hb dX10_of_17 (lv_at hl 0 rfl) ?_
  refine lv_bipush (v := (13 : Int32)) hx hb dX10_of_19 (by decide) ?_
  refine lv_lshr hx hb dX10_of_21 rfl ?_
  refine lv_lxor hx hb dX10_of_22 ?_
  refine lv_lload hx hb dX10_of_23 (lv_at hl 0 rfl) ?_
  refine lv_bipush (v := (26 : Int32)) hx hb dX10_of_25 (by decide) ?_
  refine lv_lshr hx hb dX10_of_27 rfl ?_
  refine lv_lxor hx hb dX10_of_28 ?_
  refine lv_lload hx hb dX10_of_29 (lv_at hl 0 rfl) ?_
  refine lv_bipush (v := (39 : Int32)) hx hb dX10_of_31 (by decide) ?_
  refine lv_lshr hx hb dX10_of_33 rfl ?_
  refine lv_lxor hx hb dX10_of_34 ?_
  refine lv_l2i hx hb dX10_of_35 rfl ?_
  refine lv_sipush (v := (8191 : Int32)) hx hb dX10_of_36 (by decide) ?_
  refine lv_iand hx hb dX10_of_39 ?_
  refine lv_topi (fun v2 ev2 => ?_)
  have h := h v2 ev2
  refine lv_istore (lv' := [(6, .int v2), (4, .long v1), (0, .ref (ad 9)), (1, .long x1), (3, .int x3)]) hx hb dX10_of_40 hl (by decide) rfl (fun ls hl => ?_)
  refine lv_aload_n hx hb dX10_of_42 rfl (lv_at hl 2 rfl) ?_
  refine xg_9_2 hx hb hts hown hK hP mw_201 dX10_of_43 ?_
  refine lv_iload hx hb dX10_of_46 (lv_at hl 0 rfl) ?_
  refine xa_48 hx hb hK hP h.1 rfl dX10_of_48 ?_
  have h := h.2
  refine lv_lload hx hb dX10_of_49 (lv_at hl 1 rfl) ?_
  refine W.lcmp hx hb dX10_of_51 ?_
  refine lv_if_eq (tgt := 77) hx hb dX10_of_52 (by decide) (fun hc => ?_) (fun hc => ?_)
  · have h := h.1 hc
    exact t_X10_of_77 C0 hK N  x1 x3 v2 σ _ _ _ h hP hD hS (lv_sub hl [2, 3, 4, 0] rfl)
  · have h := h.2 hc
    refine lv_aload_n hx hb dX10_of_55 rfl (lv_at hl 2 rfl) ?_
    refine xg_9_3 hx hb hts hown hK hP mw_202 dX10_of_56 ?_
    refine lv_iload hx hb dX10_of_59 (lv_at hl 0 rfl) ?_
    refine lv_aload_n hx hb dX10_of_61 rfl (lv_at hl 2 rfl) ?_
    refine lv_lload_n hx hb dX10_of_62 rfl (lv_at hl 3 rfl) ?_
    refine lv_iload_n hx hb dX10_of_63 rfl (lv_at hl 4 rfl) ?_
    refine k_X10_reckon N ⟨hx, hb, hml, hown, hts⟩ mw_546 ⟨Nat.le_of_ble_eq_true rfl, Nat.le_of_ble_eq_true rfl⟩ h hK hP hD hS hl.1 (rest := [.int v2, .ref (ad 49)]) (Nat.le_of_ble_eq_true rfl) dX10_of_64 (fun r3 τ4 H locs h hP hD hS => ?_)
    refine xs_49 hx hb hK hP hD hS h.1 rfl dX10_of_67 (fun τ5 H locs eτ5 hP hD hS => ?_)
    have h := h.2
    have h := h τ5 eτ5
    refine lv_aload_n hx hb dX10_of_68 rfl (lv_at hl 2 rfl) ?_
    refine xg_9_2 hx hb hts hown hK hP mw_201 dX10_of_69 ?_
    refine lv_iload hx hb dX10_of_72 (lv_at hl 0 rfl) ?_
    refine lv_lload hx hb dX10_of_74 (lv_at hl 1 rfl) ?_
    refine xs_48 hx hb hK hP hD hS h.1 rfl dX10_of_76 (fun τ6 H locs eτ6 hP hD hS => ?_)
    have h := h.2
    have h := h τ6 eτ6
    exact t_X10_of_77 C0 hK N  x1 x3 v2 τ6 _ _ _ h hP hD hS (lv_sub hl [2, 3, 4, 0] rfl)
set_option maxHeartbeats 4000000 in
set_option maxRecDepth 100000 in
theorem c_X10_of (N : Nat) (l : Launch) (dC : Nat → ClassId) (dI : Nat → Nat → Nat) (ad : Nat → Nat) (cI cJ : ClassId) (sz : Nat) (σ : zSt) (x1 : Int64) (x3 : Int32) (Q : Int64 → zSt → Prop) (h : w_X10_of N x1 x3 σ Q) : Met l yX10_of vs_X10_of rm_X10_of (va_Pc [.ref (ad 9), .long x1, .int x3] (zPc (dC, dI) (x_ty cI cJ) (x_W ad cI cJ) sz σ)) (zQl (dC, dI) (x_ty cI cJ) (x_W ad cI cJ) (zAW x_n ad sz) Q) 0 0 (zAW x_n ad sz) := by
  refine Met.ofW (cc := cX10_of) (maxL := 8) (ret := (some .long)) (by decide) rfl ?_
  intro p e s m args below meth c s₁ B hml hv
  obtain ⟨rfl, hsz, hP, hK, hD0⟩ := hv
  subst hsz
  have C0 : zCx p s m meth c _ RX10 cX10_of 8 (some .long) vs_X10_of := ⟨B.exec, B.bytes, hml, B.returns, findClass_of_methodNamed B.named, atoms_spec (ws := vs_X10_of) B.pre, B.notSynchronized⟩
  have hD := x_D0 (n0 := s.heap.size) hD0
  have hl := lv_entry ([.ref (ad 9), .long x1, .int x3]) (n := 8) (Nat.le_of_ble_eq_true rfl)
  rw [lg_entry_eq]
  generalize (lg_sl ([.ref (ad 9), .long x1, .int x3]) ++ List.replicate (8 - (lg_sl ([.ref (ad 9), .long x1, .int x3])).length) Slot.unset).toArray = ls at hl ⊢
  exact t_X10_of_0 C0 hK N x1 x3 σ _ _ ls h hP hD va_S.rf hl
theorem k_X10_of (N : Nat) {R : Room} {H : Heap} {locs : List Loc} {Q2 : State → Prop} {cc : ByteArray} {nL pc index : Nat} {ls : Array Slot} {rest : List Value} {own : String} {c0 : Cond} {σ : zSt} {x1 : Int64} {x3 : Int32} {Q : Int64 → zSt → Prop} (S0 : CallFix p m c cc nL s args (c0 :: zT) own) (hml : Cond.methodLink own index yX10_of ∈ zT) (hR : rm_X10_of.frames + 1 ≤ R.frames ∧ 8 + (8 + 11) + rm_X10_of.locals ≤ R.locals) (h : w_X10_of N x1 x3 σ Q) (hK : va_K (dC, dI) vwCl (x_ty cI cJ) s) (hP : va_P (dC, dI) vwCl (x_W ad cI cJ σ) H) (hD : va_D (zAW x_n ad s.heap.size) (x_W ad cI cJ σ)) (hS : va_S (zAW x_n ad s.heap.size) s.heap H locs) (hsz : ls.size = nL) (hW : (rest.map fun v => v.category).sum ≤ 8) (hdg : decode cc pc = .ok (.invokevirtual index, 3)) (kk : ∀ (r : Int64) (τ : zSt) (H1 : Heap) (locs1 : List Loc), Q r τ → va_P (dC, dI) vwCl (x_W ad cI cJ τ) H1 → va_D (zAW x_n ad s.heap.size) (x_W ad cI cJ τ) → va_S (zAW x_n ad s.heap.size) s.heap H1 locs1 → W p l e R s m args below meth c H1 locs1 0 0 Q2 (F0 m (pc + 3) ls (.long r :: rest))) : W p l e R s m args below meth c H locs 0 0 Q2 (F0 m pc ls (.int x3 :: .long x1 :: .ref (ad 9) :: rest)) :=
  zcv_l (T := TX10) (N' := 10) (k := 9) (ci := 10) (fs := x_f9 ad σ) [.long x1, .int x3] S0 (c_X10_of N l dC dI ad cI cJ H.size σ x1 x3 Q h) (cw_X10_of S0.2.2.2.2 hml rfl rfl hR) rfl rfl hK hP hD hS rfl hsz hW rfl hdg kk
end q06
section q06
def vs_X10_inAll : List Cond := .code yX10_inAll cX10_inAll 6 (some .long) :: zT
def rm_X10_inAll : Room := { frames := 4, cells := 0, slots := 0, locals := 113 }
theorem cw_X10_inAll {rm R : Room} {s : State} {args : Array Value} {own : String} {index : Nat} {c0 : Cond} (hts : ∀ w ∈ c0 :: zT, w.before args s = true) (hml : Cond.methodLink own index yX10_inAll ∈ zT) (hrc : rm.cells = 0) (hrs : rm.slots = 0) (hR : rm.frames + 1 ≤ R.frames ∧ 8 + (6 + 11) + rm.locals ≤ R.locals) : CallW R s args own RX10 index yX10_inAll cX10_inAll 6 (some .long) vs_X10_inAll rm 0 0 1 :=
  zwV 1 hts hml mw_539 mw_540 mw_12 mw_541 hrc hrs (by decide +kernel) hR
def b_X10_inAll_5 (N : Nat) (k_5 : Int64 → Int64 → Int32 → zSt → Prop) (Q : Int64 → zSt → Prop) (x1 : Int64) (x3 : Int64) (x5 : Int32) (σ : zSt) : Prop :=
  ((σ.1 1) ≤ x5 → Q x3 σ) ∧ (¬ (σ.1 1) ≤ x5 → w_X10_of N x1 x5 σ (fun r1 τ2 => ∀ v3 : Int64, v3 = x3 + r1 → ∀ v4 : Int32, v4 = x5 + (1 : Int32) → k_5 x1 v3 v4 τ2))
def w_X10_inAll_5 (N : Nat) (Q : Int64 → zSt → Prop) : Nat → Int64 → Int64 → Int32 → zSt → Prop
  | 0 => fun _ _ _ _ => False
  | f + 1 => b_X10_inAll_5 N (w_X10_inAll_5 N  Q f) Q
def w_X10_inAll (N : Nat) (x1 : Int64) (σ : zSt) (Q : Int64 → zSt → Prop) : Prop :=
  w_X10_inAll_5 N Q N x1 (0 : Int64) (0 : Int32) σ
variable {p : Program} {l : Launch} {e : Env} {s : State} {m : MethodId} {args : Array Value} {below : List Frame} {meth : Method} {c : Code} {dC : Nat → ClassId} {dI : Nat → Nat → Nat} {ad : Nat → Nat} {cI cJ : ClassId}
set_option maxHeartbeats 4000000 in
set_option maxRecDepth 100000 in
theorem tb_X10_inAll_5 (C0 : zCx p s m meth c args RX10 cX10_inAll 6 (some .long) vs_X10_inAll) (hK : va_K (dC, dI) vwCl (x_ty cI cJ) s) (N : Nat) {Q : Int64 → zSt → Prop} {k_5 : Int64 → Int64 → Int32 → zSt → Prop} (hk_5 : ∀ (x1 : Int64) (x3 : Int64) (x5 : Int32) (σ : zSt) (H : Heap) (locs : List Loc) (ls : Array Slot), k_5 x1 x3 x5 σ → va_P (dC, dI) vwCl (x_W ad cI cJ σ) H → va_D (zAW x_n ad s.heap.size) (x_W ad cI cJ σ) → va_S (zAW x_n ad s.heap.size) s.heap H locs → lv_has ls 6 [(0, .ref (ad 9)), (1, .long x1), (3, .long x3), (5, .int x5)] → W p l e rm_X10_inAll s m args below meth c H locs 0 0 (MQ below (zQl (dC, dI) (x_ty cI cJ) (x_W ad cI cJ) (zAW x_n ad s.heap.size) Q) args s 0 0 (zAW x_n ad s.heap.size)) (F0 m 5 ls [])) : ∀ (x1 : Int64) (x3 : Int64) (x5 : Int32) (σ : zSt) (H : Heap) (locs : List Loc) (ls : Array Slot), b_X10_inAll_5 N k_5 Q x1 x3 x5 σ → va_P (dC, dI) vwCl (x_W ad cI cJ σ) H → va_D (zAW x_n ad s.heap.size) (x_W ad cI cJ σ) → va_S (zAW x_n ad s.heap.size) s.heap H locs → lv_has ls 6 [(0, .ref (ad 9)), (1, .long x1), (3, .long x3), (5, .int x5)] → W p l e rm_X10_inAll s m args below meth c H locs 0 0 (MQ below (zQl (dC, dI) (x_ty cI cJ) (x_W ad cI cJ) (zAW x_n ad s.heap.size) Q) args s 0 0 (zAW x_n ad s.heap.size)) (F0 m 5 ls []) := by
  obtain ⟨hx, hb, hml, hr, hown, hts, hlocks⟩ := id C0
  intro x1 x3 x5 σ H locs ls h hP hD hS hl
  unfold b_X10_inAll_5 at h
  refine lv_iload hx hb dX10_inAll_5 (lv_at hl 3 rfl) ?_
  refine lv_aload_n hx hb dX10_inAll_7 rfl (lv_at hl 0 rfl) ?_
  refine xg_9_0 hx hb hts hown hK hP mw_199 dX10_inAll_8 ?_
  refine xg_3_4 hx hb hts hown hK hP mw_74 dX10_inAll_11 ?_
  refine lv_icmp_ge (tgt := 33) hx hb dX10_inAll_14 (by decide) (fun hc => ?_) (fun hc => ?_)
  · have h := h.1 hc
    refine lv_lload_n hx hb dX10_inAll_33 rfl (lv_at hl 2 rfl) ?_
    exact zret_l hx hb hr hlocks hK hP hD hS h dX10_inAll_34
  · have h := h.2 hc
    refine lv_lload_n hx hb dX10_inAll_17 rfl (lv_at hl 2 rfl) ?_
    refine lv_aload_n hx hb dX10_inAll_18 rfl (lv_at hl 0 rfl) ?_
    refine lv_lload_n hx hb dX10_inAll_19 rfl (lv_at hl 1 rfl) ?_
    refine lv_iload hx hb dX10_inAll_20 (lv_at hl 3 rfl) ?_
    refine k_X10_of N ⟨hx, hb, hml, hown, hts⟩ mw_542 ⟨Nat.le_of_ble_eq_true rfl, Nat.le_of_ble_eq_true rfl⟩ h hK hP hD hS hl.1 (rest := [.long x3]) (Nat.le_of_ble_eq_true rfl) dX10_inAll_22 (fun r1 τ2 H locs h hP hD hS => ?_)
    refine lv_ladd hx hb dX10_inAll_25 ?_
    refine lv_topl (fun v3 ev3 => ?_)
    have h := h v3 ev3
    refine lv_lstore_n (lv' := [(3, .long v3), (0, .ref (ad 9)), (1, .long x1), (5, .int x5)]) hx hb dX10_inAll_26 rfl hl (by decide) rfl (fun ls hl => ?_)
    obtain ⟨v4, ev4⟩ : ∃ z : Int32, z = x5 + (1 : Int32) := ⟨_, rfl⟩
    have h := h v4 ev4
    refine lv_iinc (v := v4) (lv' := [(5, .int v4), (3, .long v3), (0, .ref (ad 9)), (1, .long x1)]) hx hb dX10_inAll_27 hl (k := 3) rfl (by rw [ev4]; rfl) (by decide) rfl (fun ls hl => ?_)
    refine lv_goto (tgt := 5) hx hb dX10_inAll_30 (by decide) ?_
    exact hk_5 x1 v3 v4 τ2 _ _ _ h hP hD hS (lv_sub hl [2, 3, 1, 0] rfl)
set_option maxHeartbeats 4000000 in
set_option maxRecDepth 100000 in
theorem t_X10_inAll_5 (C0 : zCx p s m meth c args RX10 cX10_inAll 6 (some .long) vs_X10_inAll) (hK : va_K (dC, dI) vwCl (x_ty cI cJ) s) (N : Nat) {Q : Int64 → zSt → Prop} : ∀ (f : Nat) (x1 : Int64) (x3 : Int64) (x5 : Int32) (σ : zSt) (H : Heap) (locs : List Loc) (ls : Array Slot), w_X10_inAll_5 N  Q f x1 x3 x5 σ → va_P (dC, dI) vwCl (x_W ad cI cJ σ) H → va_D (zAW x_n ad s.heap.size) (x_W ad cI cJ σ) → va_S (zAW x_n ad s.heap.size) s.heap H locs → lv_has ls 6 [(0, .ref (ad 9)), (1, .long x1), (3, .long x3), (5, .int x5)] → W p l e rm_X10_inAll s m args below meth c H locs 0 0 (MQ below (zQl (dC, dI) (x_ty cI cJ) (x_W ad cI cJ) (zAW x_n ad s.heap.size) Q) args s 0 0 (zAW x_n ad s.heap.size)) (F0 m 5 ls []) := by
  intro f
  induction f with
  | zero => intro x1 x3 x5 σ H locs ls h; exact h.elim
  | succ f ih =>
    intro x1 x3 x5 σ H locs ls h hP hD hS hl
    exact tb_X10_inAll_5 C0 hK N  (k_5 := w_X10_inAll_5 N  Q f) ih x1 x3 x5 σ H locs ls h hP hD hS hl
set_option maxHeartbeats 4000000 in
set_option maxRecDepth 100000 in
theorem t_X10_inAll_0 (C0 : zCx p s m meth c args RX10 cX10_inAll 6 (some .long) vs_X10_inAll) (hK : va_K (dC, dI) vwCl (x_ty cI cJ) s) (N : Nat) {Q : Int64 → zSt → Prop} : ∀ (x1 : Int64) (σ : zSt) (H : Heap) (locs : List Loc) (ls : Array Slot), w_X10_inAll N x1 σ Q → va_P (dC, dI) vwCl (x_W ad cI cJ σ) H → va_D (zAW x_n ad s.heap.size) (x_W ad cI cJ σ) → va_S (zAW x_n ad s.heap.size) s.heap H locs → lv_has ls 6 [(0, .ref (ad 9)), (1, .long x1)] → W p l e rm_X10_inAll s m args below meth c H locs 0 0 (MQ below (zQl (dC, dI) (x_ty cI cJ) (x_W ad cI cJ) (zAW x_n ad s.heap.size) Q) args s 0 0 (zAW x_n ad s.heap.size)) (F0 m 0 ls []) := by
  obtain ⟨hx, hb, hml, hr, hown, hts, hlocks⟩ := id C0
  intro x1 σ H locs ls h hP hD hS hl
  unfold w_X10_inAll at h
  refine lv_lconst (v := (0 : Int64)) hx hb dX10_inAll_0 (by decide) ?_
  refine lv_lstore_n (lv' := [(3, .long (0 : Int64)), (0, .ref (ad 9)), (1, .long x1)]) hx hb dX10_inAll_1 rfl hl (by decide) rfl (fun ls hl => ?_)
  refine lv_iconst (v := (0 : Int32)) hx hb dX10_inAll_2 (by decide) ?_
  refine lv_istore (lv' := [(5, .int (0 : Int32)), (3, .long (0 : Int64)), (0, .ref (ad 9)), (1, .long x1)]) hx hb dX10_inAll_3 hl (by decide) rfl (fun ls hl => ?_)
  exact t_X10_inAll_5 C0 hK N  N x1 (0 : Int64) (0 : Int32) σ _ _ _ h hP hD hS (lv_sub hl [2, 3, 1, 0] rfl)
set_option maxHeartbeats 4000000 in
set_option maxRecDepth 100000 in
theorem c_X10_inAll (N : Nat) (l : Launch) (dC : Nat → ClassId) (dI : Nat → Nat → Nat) (ad : Nat → Nat) (cI cJ : ClassId) (sz : Nat) (σ : zSt) (x1 : Int64) (Q : Int64 → zSt → Prop) (h : w_X10_inAll N x1 σ Q) : Met l yX10_inAll vs_X10_inAll rm_X10_inAll (va_Pc [.ref (ad 9), .long x1] (zPc (dC, dI) (x_ty cI cJ) (x_W ad cI cJ) sz σ)) (zQl (dC, dI) (x_ty cI cJ) (x_W ad cI cJ) (zAW x_n ad sz) Q) 0 0 (zAW x_n ad sz) := by
  refine Met.ofW (cc := cX10_inAll) (maxL := 6) (ret := (some .long)) (by decide) rfl ?_
  intro p e s m args below meth c s₁ B hml hv
  obtain ⟨rfl, hsz, hP, hK, hD0⟩ := hv
  subst hsz
  have C0 : zCx p s m meth c _ RX10 cX10_inAll 6 (some .long) vs_X10_inAll := ⟨B.exec, B.bytes, hml, B.returns, findClass_of_methodNamed B.named, atoms_spec (ws := vs_X10_inAll) B.pre, B.notSynchronized⟩
  have hD := x_D0 (n0 := s.heap.size) hD0
  have hl := lv_entry ([.ref (ad 9), .long x1]) (n := 6) (Nat.le_of_ble_eq_true rfl)
  rw [lg_entry_eq]
  generalize (lg_sl ([.ref (ad 9), .long x1]) ++ List.replicate (6 - (lg_sl ([.ref (ad 9), .long x1])).length) Slot.unset).toArray = ls at hl ⊢
  exact t_X10_inAll_0 C0 hK N x1 σ _ _ ls h hP hD va_S.rf hl
theorem k_X10_inAll (N : Nat) {R : Room} {H : Heap} {locs : List Loc} {Q2 : State → Prop} {cc : ByteArray} {nL pc index : Nat} {ls : Array Slot} {rest : List Value} {own : String} {c0 : Cond} {σ : zSt} {x1 : Int64} {Q : Int64 → zSt → Prop} (S0 : CallFix p m c cc nL s args (c0 :: zT) own) (hml : Cond.methodLink own index yX10_inAll ∈ zT) (hR : rm_X10_inAll.frames + 1 ≤ R.frames ∧ 8 + (6 + 11) + rm_X10_inAll.locals ≤ R.locals) (h : w_X10_inAll N x1 σ Q) (hK : va_K (dC, dI) vwCl (x_ty cI cJ) s) (hP : va_P (dC, dI) vwCl (x_W ad cI cJ σ) H) (hD : va_D (zAW x_n ad s.heap.size) (x_W ad cI cJ σ)) (hS : va_S (zAW x_n ad s.heap.size) s.heap H locs) (hsz : ls.size = nL) (hW : (rest.map fun v => v.category).sum ≤ 8) (hdg : decode cc pc = .ok (.invokevirtual index, 3)) (kk : ∀ (r : Int64) (τ : zSt) (H1 : Heap) (locs1 : List Loc), Q r τ → va_P (dC, dI) vwCl (x_W ad cI cJ τ) H1 → va_D (zAW x_n ad s.heap.size) (x_W ad cI cJ τ) → va_S (zAW x_n ad s.heap.size) s.heap H1 locs1 → W p l e R s m args below meth c H1 locs1 0 0 Q2 (F0 m (pc + 3) ls (.long r :: rest))) : W p l e R s m args below meth c H locs 0 0 Q2 (F0 m pc ls (.long x1 :: .ref (ad 9) :: rest)) :=
  zcv_l (T := TX10) (N' := 10) (k := 9) (ci := 10) (fs := x_f9 ad σ) [.long x1] S0 (c_X10_inAll N l dC dI ad cI cJ H.size σ x1 Q h) (cw_X10_inAll S0.2.2.2.2 hml rfl rfl hR) rfl rfl hK hP hD hS rfl hsz hW rfl hdg kk
end q06
section q06
def vs_X11_worth : List Cond := .code yX11_worth cX11_worth 2 (some .long) :: zT
def rm_X11_worth : Room := { frames := 5, cells := 0, slots := 0, locals := 138 }
theorem cw_X11_worth {rm R : Room} {s : State} {args : Array Value} {own : String} {index : Nat} {c0 : Cond} (hts : ∀ w ∈ c0 :: zT, w.before args s = true) (hml : Cond.methodLink own index yX11_worth ∈ zT) (hrc : rm.cells = 0) (hrs : rm.slots = 0) (hR : rm.frames + 1 ≤ R.frames ∧ 8 + (2 + 11) + rm.locals ≤ R.locals) : CallW R s args own RX11 index yX11_worth cX11_worth 2 (some .long) vs_X11_worth rm 0 0 1 :=
  zwV 1 hts hml mw_535 mw_536 mw_1 mw_537 hrc hrs (by decide +kernel) hR
def w_X11_worth (N : Nat) (x1 : Int32) (σ : zSt) (Q : Int64 → zSt → Prop) : Prop :=
  (x1 = (-1 : Int32) → w_X10_inAll N (σ.2.1 0) σ (fun r5 τ6 => Q r5 τ6)) ∧ (¬ x1 = (-1 : Int32) → w_X4_isPerson_2 N x1 σ (fun r1 τ2 => (r1 = 0 → Q (-1000000000000 : Int64) τ2) ∧ (¬ r1 = 0 → w_X10_of N (τ2.2.1 0) x1 τ2 (fun r3 τ4 => Q r3 τ4))))
variable {p : Program} {l : Launch} {e : Env} {s : State} {m : MethodId} {args : Array Value} {below : List Frame} {meth : Method} {c : Code} {dC : Nat → ClassId} {dI : Nat → Nat → Nat} {ad : Nat → Nat} {cI cJ : ClassId}
set_option maxHeartbeats 4000000 in
set_option maxRecDepth 100000 in
theorem t_X11_worth_0 (C0 : zCx p s m meth c args RX11 cX11_worth 2 (some .long) vs_X11_worth) (hK : va_K (dC, dI) vwCl (x_ty cI cJ) s) (N : Nat) {Q : Int64 → zSt → Prop} : ∀ (x1 : Int32) (σ : zSt) (H : Heap) (locs : List Loc) (ls : Array Slot), w_X11_worth N x1 σ Q → va_P (dC, dI) vwCl (x_W ad cI cJ σ) H → va_D (zAW x_n ad s.heap.size) (x_W ad cI cJ σ) → va_S (zAW x_n ad s.heap.size) s.heap H locs → lv_has ls 2 [(0, .ref (ad 0)), (1, .int x1)] → W p l e rm_X11_worth s m args below meth c H locs 0 0 (MQ below (zQl (dC, dI) (x_ty cI cJ) (x_W ad cI cJ) (zAW x_n ad s.heap.size) Q) args s 0 0 (zAW x_n ad s.heap.size)) (F0 m 0 ls []) := by
  obtain ⟨hx, hb, hml, hr, hown, hts, hlocks⟩ := id C0
  intro x1 σ H locs ls h hP hD hS hl
  unfold w_X11_worth at h
  refine lv_iload_n hx hb dX11_worth_0 rfl (lv_at hl 1 rfl) ?_
  refine lv_iconst (v := (-1 : Int32)) hx hb dX11_worth_1 (by decide) ?_
  refine lv_icmp_ne (tgt := 17) hx hb dX11_worth_2 (by decide) (fun hc => ?_) (fun hc => ?_)
  · have h := h.2 hc
    refine lv_aload_n hx hb dX11_worth_17 rfl (lv_at hl 0 rfl) ?_
    refine xg_0_2 hx hb hts hown hK hP mw_291 dX11_worth_18 ?_
    refine lv_iload_n hx hb dX11_worth_21 rfl (lv_at hl 1 rfl) ?_
    refine k_X4_isPerson_2 N ⟨hx, hb, hml, hown, hts⟩ mw_491 ⟨Nat.le_of_ble_eq_true rfl, Nat.le_of_ble_eq_true rfl⟩ h hK hP hD hS hl.1 (rest := []) (Nat.le_of_ble_eq_true rfl) dX11_worth_22 (fun r1 τ2 H locs h hP hD hS => ?_)
    refine lv_if_eq (tgt := 43) hx hb dX11_worth_25 (by decide) (fun hc => ?_) (fun hc => ?_)
    · have h := h.1 hc
      refine lv_ldc2 (v := (-1000000000000 : Int64)) hx hb hown (hts _ (List.mem_cons_of_mem _ mw_274)) dX11_worth_43 ?_
      exact zret_l hx hb hr hlocks hK hP hD hS h dX11_worth_46
    · have h := h.2 hc
      refine lv_aload_n hx hb dX11_worth_28 rfl (lv_at hl 0 rfl) ?_
      refine xg_0_5 hx hb hts hown hK hP mw_294 dX11_worth_29 ?_
      refine lv_aload_n hx hb dX11_worth_32 rfl (lv_at hl 0 rfl) ?_
      refine xg_0_15 hx hb hts hown hK hP mw_304 dX11_worth_33 ?_
      refine lv_iload_n hx hb dX11_worth_36 rfl (lv_at hl 1 rfl) ?_
      refine k_X10_of N ⟨hx, hb, hml, hown, hts⟩ mw_576 ⟨Nat.le_of_ble_eq_true rfl, Nat.le_of_ble_eq_true rfl⟩ h hK hP hD hS hl.1 (rest := []) (Nat.le_of_ble_eq_true rfl) dX11_worth_37 (fun r3 τ4 H locs h hP hD hS => ?_)
      refine lv_goto (tgt := 46) hx hb dX11_worth_40 (by decide) ?_
      exact zret_l hx hb hr hlocks hK hP hD hS h dX11_worth_46
  · have h := h.1 hc
    refine lv_aload_n hx hb dX11_worth_5 rfl (lv_at hl 0 rfl) ?_
    refine xg_0_5 hx hb hts hown hK hP mw_294 dX11_worth_6 ?_
    refine lv_aload_n hx hb dX11_worth_9 rfl (lv_at hl 0 rfl) ?_
    refine xg_0_15 hx hb hts hown hK hP mw_304 dX11_worth_10 ?_
    refine k_X10_inAll N ⟨hx, hb, hml, hown, hts⟩ mw_538 ⟨Nat.le_of_ble_eq_true rfl, Nat.le_of_ble_eq_true rfl⟩ h hK hP hD hS hl.1 (rest := []) (Nat.le_of_ble_eq_true rfl) dX11_worth_13 (fun r5 τ6 H locs h hP hD hS => ?_)
    exact zret_l hx hb hr hlocks hK hP hD hS h dX11_worth_16
set_option maxHeartbeats 4000000 in
set_option maxRecDepth 100000 in
theorem c_X11_worth (N : Nat) (l : Launch) (dC : Nat → ClassId) (dI : Nat → Nat → Nat) (ad : Nat → Nat) (cI cJ : ClassId) (sz : Nat) (σ : zSt) (x1 : Int32) (Q : Int64 → zSt → Prop) (h : w_X11_worth N x1 σ Q) : Met l yX11_worth vs_X11_worth rm_X11_worth (va_Pc [.ref (ad 0), .int x1] (zPc (dC, dI) (x_ty cI cJ) (x_W ad cI cJ) sz σ)) (zQl (dC, dI) (x_ty cI cJ) (x_W ad cI cJ) (zAW x_n ad sz) Q) 0 0 (zAW x_n ad sz) := by
  refine Met.ofW (cc := cX11_worth) (maxL := 2) (ret := (some .long)) (by decide) rfl ?_
  intro p e s m args below meth c s₁ B hml hv
  obtain ⟨rfl, hsz, hP, hK, hD0⟩ := hv
  subst hsz
  have C0 : zCx p s m meth c _ RX11 cX11_worth 2 (some .long) vs_X11_worth := ⟨B.exec, B.bytes, hml, B.returns, findClass_of_methodNamed B.named, atoms_spec (ws := vs_X11_worth) B.pre, B.notSynchronized⟩
  have hD := x_D0 (n0 := s.heap.size) hD0
  have hl := lv_entry ([.ref (ad 0), .int x1]) (n := 2) (Nat.le_of_ble_eq_true rfl)
  rw [lg_entry_eq]
  generalize (lg_sl ([.ref (ad 0), .int x1]) ++ List.replicate (2 - (lg_sl ([.ref (ad 0), .int x1])).length) Slot.unset).toArray = ls at hl ⊢
  exact t_X11_worth_0 C0 hK N x1 σ _ _ ls h hP hD va_S.rf hl
theorem k_X11_worth (N : Nat) {R : Room} {H : Heap} {locs : List Loc} {Q2 : State → Prop} {cc : ByteArray} {nL pc index : Nat} {ls : Array Slot} {rest : List Value} {own : String} {c0 : Cond} {σ : zSt} {x1 : Int32} {Q : Int64 → zSt → Prop} (S0 : CallFix p m c cc nL s args (c0 :: zT) own) (hml : Cond.methodLink own index yX11_worth ∈ zT) (hR : rm_X11_worth.frames + 1 ≤ R.frames ∧ 8 + (2 + 11) + rm_X11_worth.locals ≤ R.locals) (h : w_X11_worth N x1 σ Q) (hK : va_K (dC, dI) vwCl (x_ty cI cJ) s) (hP : va_P (dC, dI) vwCl (x_W ad cI cJ σ) H) (hD : va_D (zAW x_n ad s.heap.size) (x_W ad cI cJ σ)) (hS : va_S (zAW x_n ad s.heap.size) s.heap H locs) (hsz : ls.size = nL) (hW : (rest.map fun v => v.category).sum ≤ 8) (hdg : decode cc pc = .ok (.invokevirtual index, 3)) (kk : ∀ (r : Int64) (τ : zSt) (H1 : Heap) (locs1 : List Loc), Q r τ → va_P (dC, dI) vwCl (x_W ad cI cJ τ) H1 → va_D (zAW x_n ad s.heap.size) (x_W ad cI cJ τ) → va_S (zAW x_n ad s.heap.size) s.heap H1 locs1 → W p l e R s m args below meth c H1 locs1 0 0 Q2 (F0 m (pc + 3) ls (.long r :: rest))) : W p l e R s m args below meth c H locs 0 0 Q2 (F0 m pc ls (.int x1 :: .ref (ad 0) :: rest)) :=
  zcv_l (T := TX11) (N' := 17) (k := 0) (ci := 11) (fs := x_f0 ad σ) [.int x1] S0 (c_X11_worth N l dC dI ad cI cJ H.size σ x1 Q h) (cw_X11_worth S0.2.2.2.2 hml rfl rfl hR) rfl rfl hK hP hD hS rfl hsz hW rfl hdg kk
end q06
section q06
def vs_X11_ways : List Cond := .code yX11_ways cX11_ways 3 (some .int) :: zT
def rm_X11_ways : Room := { frames := 1, cells := 0, slots := 0, locals := 27 }
theorem cw_X11_ways {rm R : Room} {s : State} {args : Array Value} {own : String} {index : Nat} {c0 : Cond} (hts : ∀ w ∈ c0 :: zT, w.before args s = true) (hml : Cond.methodLink own index yX11_ways ∈ zT) (hrc : rm.cells = 0) (hrs : rm.slots = 0) (hR : rm.frames + 1 ≤ R.frames ∧ 8 + (3 + 11) + rm.locals ≤ R.locals) : CallW R s args own RX11 index yX11_ways cX11_ways 3 (some .int) vs_X11_ways rm 0 0 2 :=
  zwV 2 hts hml mw_578 mw_579 mw_1 mw_580 hrc hrs (by decide +kernel) hR
def w_X11_ways (N : Nat) (x1 : Int32) (x2 : Int32) (σ : zSt) (Q : Int32 → zSt → Prop) : Prop :=
  w_X4_isPerson_2 N x1 σ (fun r1 τ2 => (r1 = 0 → Q (-1 : Int32) τ2) ∧ (¬ r1 = 0 → w_X4_isPerson_2 N x2 τ2 (fun r3 τ4 => (r3 = 0 → Q (-1 : Int32) τ4) ∧ (¬ r3 = 0 → w_X10_lay N (τ4.2.1 0) τ4 (fun τ6 => w_X10_spread N x1 τ6 (fun τ8 => (vp_in x2 10) ∧ (Q (τ8.2.2.1 29 x2.toNatClampNeg) τ8)))))))
variable {p : Program} {l : Launch} {e : Env} {s : State} {m : MethodId} {args : Array Value} {below : List Frame} {meth : Method} {c : Code} {dC : Nat → ClassId} {dI : Nat → Nat → Nat} {ad : Nat → Nat} {cI cJ : ClassId}
set_option maxHeartbeats 4000000 in
set_option maxRecDepth 100000 in
theorem t_X11_ways_0 (C0 : zCx p s m meth c args RX11 cX11_ways 3 (some .int) vs_X11_ways) (hK : va_K (dC, dI) vwCl (x_ty cI cJ) s) (N : Nat) {Q : Int32 → zSt → Prop} : ∀ (x1 : Int32) (x2 : Int32) (σ : zSt) (H : Heap) (locs : List Loc) (ls : Array Slot), w_X11_ways N x1 x2 σ Q → va_P (dC, dI) vwCl (x_W ad cI cJ σ) H → va_D (zAW x_n ad s.heap.size) (x_W ad cI cJ σ) → va_S (zAW x_n ad s.heap.size) s.heap H locs → lv_has ls 3 [(0, .ref (ad 0)), (1, .int x1), (2, .int x2)] → W p l e rm_X11_ways s m args below meth c H locs 0 0 (MQ below (zQi (dC, dI) (x_ty cI cJ) (x_W ad cI cJ) (zAW x_n ad s.heap.size) Q) args s 0 0 (zAW x_n ad s.heap.size)) (F0 m 0 ls []) := by
  obtain ⟨hx, hb, hml, hr, hown, hts, hlocks⟩ := id C0
  intro x1 x2 σ H locs ls h hP hD hS hl
  unfold w_X11_ways at h
  refine lv_aload_n hx hb dX11_ways_0 rfl (lv_at hl 0 rfl) ?_
  refine xg_0_2 hx hb hts hown hK hP mw_291 dX11_ways_1 ?_
  refine lv_iload_n hx hb dX11_ways_4 rfl (lv_at hl 1 rfl) ?_
  refine k_X4_isPerson_2 N ⟨hx, hb, hml, hown, hts⟩ mw_491 ⟨Nat.le_of_ble_eq_true rfl, Nat.le_of_ble_eq_true rfl⟩ h hK hP hD hS hl.1 (rest := []) (Nat.le_of_ble_eq_true rfl) dX11_ways_5 (fun r1 τ2 H locs h hP hD hS => ?_)
  refine lv_if_eq (tgt := 22) hx hb dX11_ways_8 (by decide) (fun hc => ?_) (fun hc => ?_)
  · have h := h.1 hc
    refine lv_iconst (v := (-1 : Int32)) hx hb dX11_ways_22 (by decide) ?_
    exact zret_i hx hb hr hlocks hK hP hD hS h dX11_ways_23
  · have h := h.2 hc
    refine lv_aload_n hx hb dX11_ways_11 rfl (lv_at hl 0 rfl) ?_
    refine xg_0_2 hx hb hts hown hK hP mw_291 dX11_ways_12 ?_
    refine lv_iload_n hx hb dX11_ways_15 rfl (lv_at hl 2 rfl) ?_
    refine k_X4_isPerson_2 N ⟨hx, hb, hml, hown, hts⟩ mw_491 ⟨Nat.le_of_ble_eq_true rfl, Nat.le_of_ble_eq_true rfl⟩ h hK hP hD hS hl.1 (rest := []) (Nat.le_of_ble_eq_true rfl) dX11_ways_16 (fun r3 τ4 H locs h hP hD hS => ?_)
    refine lv_if_ne (tgt := 24) hx hb dX11_ways_19 (by decide) (fun hc => ?_) (fun hc => ?_)
    · have h := h.2 hc
      refine lv_aload_n hx hb dX11_ways_24 rfl (lv_at hl 0 rfl) ?_
      refine xg_0_5 hx hb hts hown hK hP mw_294 dX11_ways_25 ?_
      refine lv_aload_n hx hb dX11_ways_28 rfl (lv_at hl 0 rfl) ?_
      refine xg_0_15 hx hb hts hown hK hP mw_304 dX11_ways_29 ?_
      refine k_X10_lay N ⟨hx, hb, hml, hown, hts⟩ mw_581 ⟨Nat.le_of_ble_eq_true rfl, Nat.le_of_ble_eq_true rfl⟩ h hK hP hD hS hl.1 (rest := []) (Nat.le_of_ble_eq_true rfl) dX11_ways_32 (fun τ6 H locs h hP hD hS => ?_)
      refine lv_aload_n hx hb dX11_ways_35 rfl (lv_at hl 0 rfl) ?_
      refine xg_0_5 hx hb hts hown hK hP mw_294 dX11_ways_36 ?_
      refine lv_iload_n hx hb dX11_ways_39 rfl (lv_at hl 1 rfl) ?_
      refine k_X10_spread N ⟨hx, hb, hml, hown, hts⟩ mw_582 ⟨Nat.le_of_ble_eq_true rfl, Nat.le_of_ble_eq_true rfl⟩ h hK hP hD hS hl.1 (rest := []) (Nat.le_of_ble_eq_true rfl) dX11_ways_40 (fun τ8 H locs h hP hD hS => ?_)
      refine lv_aload_n hx hb dX11_ways_43 rfl (lv_at hl 0 rfl) ?_
      refine xg_0_5 hx hb hts hown hK hP mw_294 dX11_ways_44 ?_
      refine xg_9_5 hx hb hts hown hK hP mw_205 dX11_ways_47 ?_
      refine lv_iload_n hx hb dX11_ways_50 rfl (lv_at hl 2 rfl) ?_
      refine xa_51 hx hb hK hP h.1 rfl dX11_ways_51 ?_
      have h := h.2
      exact zret_i hx hb hr hlocks hK hP hD hS h dX11_ways_52
    · have h := h.1 hc
      refine lv_iconst (v := (-1 : Int32)) hx hb dX11_ways_22 (by decide) ?_
      exact zret_i hx hb hr hlocks hK hP hD hS h dX11_ways_23
set_option maxHeartbeats 4000000 in
set_option maxRecDepth 100000 in
theorem c_X11_ways (N : Nat) (l : Launch) (dC : Nat → ClassId) (dI : Nat → Nat → Nat) (ad : Nat → Nat) (cI cJ : ClassId) (sz : Nat) (σ : zSt) (x1 : Int32) (x2 : Int32) (Q : Int32 → zSt → Prop) (h : w_X11_ways N x1 x2 σ Q) : Met l yX11_ways vs_X11_ways rm_X11_ways (va_Pc [.ref (ad 0), .int x1, .int x2] (zPc (dC, dI) (x_ty cI cJ) (x_W ad cI cJ) sz σ)) (zQi (dC, dI) (x_ty cI cJ) (x_W ad cI cJ) (zAW x_n ad sz) Q) 0 0 (zAW x_n ad sz) := by
  refine Met.ofW (cc := cX11_ways) (maxL := 3) (ret := (some .int)) (by decide) rfl ?_
  intro p e s m args below meth c s₁ B hml hv
  obtain ⟨rfl, hsz, hP, hK, hD0⟩ := hv
  subst hsz
  have C0 : zCx p s m meth c _ RX11 cX11_ways 3 (some .int) vs_X11_ways := ⟨B.exec, B.bytes, hml, B.returns, findClass_of_methodNamed B.named, atoms_spec (ws := vs_X11_ways) B.pre, B.notSynchronized⟩
  have hD := x_D0 (n0 := s.heap.size) hD0
  have hl := lv_entry ([.ref (ad 0), .int x1, .int x2]) (n := 3) (Nat.le_of_ble_eq_true rfl)
  rw [lg_entry_eq]
  generalize (lg_sl ([.ref (ad 0), .int x1, .int x2]) ++ List.replicate (3 - (lg_sl ([.ref (ad 0), .int x1, .int x2])).length) Slot.unset).toArray = ls at hl ⊢
  exact t_X11_ways_0 C0 hK N x1 x2 σ _ _ ls h hP hD va_S.rf hl
theorem k_X11_ways (N : Nat) {R : Room} {H : Heap} {locs : List Loc} {Q2 : State → Prop} {cc : ByteArray} {nL pc index : Nat} {ls : Array Slot} {rest : List Value} {own : String} {c0 : Cond} {σ : zSt} {x1 : Int32} {x2 : Int32} {Q : Int32 → zSt → Prop} (S0 : CallFix p m c cc nL s args (c0 :: zT) own) (hml : Cond.methodLink own index yX11_ways ∈ zT) (hR : rm_X11_ways.frames + 1 ≤ R.frames ∧ 8 + (3 + 11) + rm_X11_ways.locals ≤ R.locals) (h : w_X11_ways N x1 x2 σ Q) (hK : va_K (dC, dI) vwCl (x_ty cI cJ) s) (hP : va_P (dC, dI) vwCl (x_W ad cI cJ σ) H) (hD : va_D (zAW x_n ad s.heap.size) (x_W ad cI cJ σ)) (hS : va_S (zAW x_n ad s.heap.size) s.heap H locs) (hsz : ls.size = nL) (hW : (rest.map fun v => v.category).sum ≤ 8) (hdg : decode cc pc = .ok (.invokevirtual index, 3)) (kk : ∀ (r : Int32) (τ : zSt) (H1 : Heap) (locs1 : List Loc), Q r τ → va_P (dC, dI) vwCl (x_W ad cI cJ τ) H1 → va_D (zAW x_n ad s.heap.size) (x_W ad cI cJ τ) → va_S (zAW x_n ad s.heap.size) s.heap H1 locs1 → W p l e R s m args below meth c H1 locs1 0 0 Q2 (F0 m (pc + 3) ls (.int r :: rest))) : W p l e R s m args below meth c H locs 0 0 Q2 (F0 m pc ls (.int x2 :: .int x1 :: .ref (ad 0) :: rest)) :=
  zcv_i (T := TX11) (N' := 17) (k := 0) (ci := 11) (fs := x_f0 ad σ) [.int x1, .int x2] S0 (c_X11_ways N l dC dI ad cI cJ H.size σ x1 x2 Q h) (cw_X11_ways S0.2.2.2.2 hml rfl rfl hR) rfl rfl hK hP hD hS rfl hsz hW rfl hdg kk
end q06
section q06
def vs_X11_isKind : List Cond := .code yX11_isKind cX11_isKind 1 (some .boolean) :: zT
def rm_X11_isKind : Room := { frames := 0, cells := 0, slots := 0, locals := 0 }
theorem cw_X11_isKind {R : Room} {s : State} {args : Array Value} {own : String} {index : Nat} {c0 : Cond} (hts : ∀ w ∈ c0 :: zT, w.before args s = true) (hml : Cond.methodLink own index yX11_isKind ∈ zT) (hR : rm_X11_isKind.frames + 1 ≤ R.frames ∧ 8 + (1 + 11) + rm_X11_isKind.locals ≤ R.locals) : CallB R s args own index yX11_isKind cX11_isKind 1 (some .boolean) vs_X11_isKind rm_X11_isKind 0 0 1 ∧ (Cond.static yX11_isKind).before args s = true :=
  zwS 1 hts hml mw_588 mw_1 mw_589 rfl rfl (by decide +kernel) hR
def w_X11_isKind (N : Nat) (x0 : Int32) (σ : zSt) (Q : Int32 → zSt → Prop) : Prop :=
  (x0 < 0 → Q (0 : Int32) σ) ∧ (¬ x0 < 0 → ((6 : Int32) ≤ x0 → Q (0 : Int32) σ) ∧ (¬ (6 : Int32) ≤ x0 → Q (1 : Int32) σ))
variable {p : Program} {l : Launch} {e : Env} {s : State} {m : MethodId} {args : Array Value} {below : List Frame} {meth : Method} {c : Code} {dC : Nat → ClassId} {dI : Nat → Nat → Nat} {ad : Nat → Nat} {cI cJ : ClassId}
set_option maxHeartbeats 4000000 in
set_option maxRecDepth 100000 in
theorem t_X11_isKind_0 (C0 : zCx p s m meth c args RX11 cX11_isKind 1 (some .boolean) vs_X11_isKind) (hK : va_K (dC, dI) vwCl (x_ty cI cJ) s) (N : Nat) {Q : Int32 → zSt → Prop} : ∀ (x0 : Int32) (σ : zSt) (H : Heap) (locs : List Loc) (ls : Array Slot), w_X11_isKind N x0 σ Q → va_P (dC, dI) vwCl (x_W ad cI cJ σ) H → va_D (zAW x_n ad s.heap.size) (x_W ad cI cJ σ) → va_S (zAW x_n ad s.heap.size) s.heap H locs → lv_has ls 1 [(0, .int x0)] → W p l e rm_X11_isKind s m args below meth c H locs 0 0 (MQ below (zQi (dC, dI) (x_ty cI cJ) (x_W ad cI cJ) (zAW x_n ad s.heap.size) Q) args s 0 0 (zAW x_n ad s.heap.size)) (F0 m 0 ls []) := by
  obtain ⟨hx, hb, hml, hr, hown, hts, hlocks⟩ := id C0
  intro x0 σ H locs ls h hP hD hS hl
  unfold w_X11_isKind at h
  refine lv_iload_n hx hb dX11_isKind_0 rfl (lv_at hl 0 rfl) ?_
  refine lv_if_lt (tgt := 14) hx hb dX11_isKind_1 (by decide) (fun hc => ?_) (fun hc => ?_)
  · have h := h.1 hc
    refine lv_iconst (v := (0 : Int32)) hx hb dX11_isKind_14 (by decide) ?_
    exact zret_z hx hb hr hlocks hK hP hD hS zb_0 h dX11_isKind_15
  · have h := h.2 hc
    refine lv_iload_n hx hb dX11_isKind_4 rfl (lv_at hl 0 rfl) ?_
    refine lv_bipush (v := (6 : Int32)) hx hb dX11_isKind_5 (by decide) ?_
    refine lv_icmp_ge (tgt := 14) hx hb dX11_isKind_7 (by decide) (fun hc => ?_) (fun hc => ?_)
    · have h := h.1 hc
      refine lv_iconst (v := (0 : Int32)) hx hb dX11_isKind_14 (by decide) ?_
      exact zret_z hx hb hr hlocks hK hP hD hS zb_0 h dX11_isKind_15
    · have h := h.2 hc
      refine lv_iconst (v := (1 : Int32)) hx hb dX11_isKind_10 (by decide) ?_
      refine lv_goto (tgt := 15) hx hb dX11_isKind_11 (by decide) ?_
      exact zret_z hx hb hr hlocks hK hP hD hS zb_1 h dX11_isKind_15
set_option maxHeartbeats 4000000 in
set_option maxRecDepth 100000 in
theorem c_X11_isKind (N : Nat) (l : Launch) (dC : Nat → ClassId) (dI : Nat → Nat → Nat) (ad : Nat → Nat) (cI cJ : ClassId) (sz : Nat) (σ : zSt) (x0 : Int32) (Q : Int32 → zSt → Prop) (h : w_X11_isKind N x0 σ Q) : Met l yX11_isKind vs_X11_isKind rm_X11_isKind (va_Pc [.int x0] (zPc (dC, dI) (x_ty cI cJ) (x_W ad cI cJ) sz σ)) (zQi (dC, dI) (x_ty cI cJ) (x_W ad cI cJ) (zAW x_n ad sz) Q) 0 0 (zAW x_n ad sz) := by
  refine Met.ofW (cc := cX11_isKind) (maxL := 1) (ret := (some .boolean)) (by decide) rfl ?_
  intro p e s m args below meth c s₁ B hml hv
  obtain ⟨rfl, hsz, hP, hK, hD0⟩ := hv
  subst hsz
  have C0 : zCx p s m meth c _ RX11 cX11_isKind 1 (some .boolean) vs_X11_isKind := ⟨B.exec, B.bytes, hml, B.returns, findClass_of_methodNamed B.named, atoms_spec (ws := vs_X11_isKind) B.pre, B.notSynchronized⟩
  have hD := x_D0 (n0 := s.heap.size) hD0
  have hl := lv_entry ([.int x0]) (n := 1) (Nat.le_of_ble_eq_true rfl)
  rw [lg_entry_eq]
  generalize (lg_sl ([.int x0]) ++ List.replicate (1 - (lg_sl ([.int x0])).length) Slot.unset).toArray = ls at hl ⊢
  exact t_X11_isKind_0 C0 hK N x0 σ _ _ ls h hP hD va_S.rf hl
theorem k_X11_isKind (N : Nat) {R : Room} {H : Heap} {locs : List Loc} {Q2 : State → Prop} {cc : ByteArray} {nL pc index : Nat} {ls : Array Slot} {rest : List Value} {own : String} {c0 : Cond} {σ : zSt} {x0 : Int32} {Q : Int32 → zSt → Prop} (S0 : CallFix p m c cc nL s args (c0 :: zT) own) (hml : Cond.methodLink own index yX11_isKind ∈ zT) (hR : rm_X11_isKind.frames + 1 ≤ R.frames ∧ 8 + (1 + 11) + rm_X11_isKind.locals ≤ R.locals) (h : w_X11_isKind N x0 σ Q) (hK : va_K (dC, dI) vwCl (x_ty cI cJ) s) (hP : va_P (dC, dI) vwCl (x_W ad cI cJ σ) H) (hD : va_D (zAW x_n ad s.heap.size) (x_W ad cI cJ σ)) (hS : va_S (zAW x_n ad s.heap.size) s.heap H locs) (hsz : ls.size = nL) (hW : (rest.map fun v => v.category).sum ≤ 8) (hdg : decode cc pc = .ok (.invokestatic index, 3)) (kk : ∀ (r : Int32) (τ : zSt) (H1 : Heap) (locs1 : List Loc), Q r τ → va_P (dC, dI) vwCl (x_W ad cI cJ τ) H1 → va_D (zAW x_n ad s.heap.size) (x_W ad cI cJ τ) → va_S (zAW x_n ad s.heap.size) s.heap H1 locs1 → W p l e R s m args below meth c H1 locs1 0 0 Q2 (F0 m (pc + 3) ls (.int r :: rest))) : W p l e R s m args below meth c H locs 0 0 Q2 (F0 m pc ls (.int x0 :: rest)) :=
  zcs_i [.int x0] S0 (c_X11_isKind N l dC dI ad cI cJ H.size σ x0 Q h) (cw_X11_isKind S0.2.2.2.2 hml hR) hK hP hD hS rfl hsz hW rfl hdg kk
end q06
section q06
def vs_X0_gains : List Cond := .code yX0_gains cX0_gains 6 (some .boolean) :: zT
def rm_X0_gains : Room := { frames := 4, cells := 0, slots := 0, locals := 113 }
theorem cw_X0_gains {rm R : Room} {s : State} {args : Array Value} {own : String} {index : Nat} {c0 : Cond} (hts : ∀ w ∈ c0 :: zT, w.before args s = true) (hml : Cond.methodLink own index yX0_gains ∈ zT) (hrc : rm.cells = 0) (hrs : rm.slots = 0) (hR : rm.frames + 1 ≤ R.frames ∧ 8 + (6 + 11) + rm.locals ≤ R.locals) : CallW R s args own RX0 index yX0_gains cX0_gains 6 (some .boolean) vs_X0_gains rm 0 0 3 :=
  zwV 3 hts hml mw_599 mw_1343 mw_13 mw_600 hrc hrs (by decide +kernel) hR
def w_X0_gains (N : Nat) (x1 : Int64) (x3 : Int64) (x5 : Int32) (σ : zSt) (Q : Int32 → zSt → Prop) : Prop :=
  w_X10_of N x3 x5 σ (fun r1 τ2 => w_X10_of N x1 x5 τ2 (fun r3 τ4 => ((lg_cmp r1 r3) ≤ 0 → Q (0 : Int32) τ4) ∧ (¬ (lg_cmp r1 r3) ≤ 0 → Q (1 : Int32) τ4)))
variable {p : Program} {l : Launch} {e : Env} {s : State} {m : MethodId} {args : Array Value} {below : List Frame} {meth : Method} {c : Code} {dC : Nat → ClassId} {dI : Nat → Nat → Nat} {ad : Nat → Nat} {cI cJ : ClassId}
set_option maxHeartbeats 4000000 in
set_option maxRecDepth 100000 in
theorem t_X0_gains_0 (C0 : zCx p s m meth c args RX0 cX0_gains 6 (some .boolean) vs_X0_gains) (hK : va_K (dC, dI) vwCl (x_ty cI cJ) s) (N : Nat) {Q : Int32 → zSt → Prop} : ∀ (x1 : Int64) (x3 : Int64) (x5 : Int32) (σ : zSt) (H : Heap) (locs : List Loc) (ls : Array Slot), w_X0_gains N x1 x3 x5 σ Q → va_P (dC, dI) vwCl (x_W ad cI cJ σ) H → va_D (zAW x_n ad s.heap.size) (x_W ad cI cJ σ) → va_S (zAW x_n ad s.heap.size) s.heap H locs → lv_has ls 6 [(0, .ref (ad 10)), (1, .long x1), (3, .long x3), (5, .int x5)] → W p l e rm_X0_gains s m args below meth c H locs 0 0 (MQ below (zQi (dC, dI) (x_ty cI cJ) (x_W ad cI cJ) (zAW x_n ad s.heap.size) Q) args s 0 0 (zAW x_n ad s.heap.size)) (F0 m 0 ls []) := by
  obtain ⟨hx, hb, hml, hr, hown, hts, hlocks⟩ := id C0
  intro x1 x3 x5 σ H locs ls h hP hD hS hl
  unfold w_X0_gains at h
  refine lv_aload_n hx hb dX0_gains_0 rfl (lv_at hl 0 rfl) ?_
  refine xg_10_2 hx hb hts hown hK hP mw_222 dX0_gains_1 ?_
  refine lv_lload_n hx hb dX0_gains_4 rfl (lv_at hl 2 rfl) ?_
  refine lv_iload hx hb dX0_gains_5 (lv_at hl 3 rfl) ?_
  refine k_X10_of N ⟨hx, hb, hml, hown, hts⟩ mw_601 ⟨Nat.le_of_ble_eq_true rfl, Nat.le_of_ble_eq_true rfl⟩ h hK hP hD hS hl.1 (rest := []) (Nat.le_of_ble_eq_true rfl) dX0_gains_7 (fun r1 τ2 H locs h hP hD hS => ?_)
  refine lv_aload_n hx hb dX0_gains_10 rfl (lv_at hl 0 rfl) ?_
  refine xg_10_2 hx hb hts hown hK hP mw_222 dX0_gains_11 ?_
  refine lv_lload_n hx hb dX0_gains_14 rfl (lv_at hl 1 rfl) ?_
  refine lv_iload hx hb dX0_gains_15 (lv_at hl 3 rfl) ?_
  refine k_X10_of N ⟨hx, hb, hml, hown, hts⟩ mw_601 ⟨Nat.le_of_ble_eq_true rfl, Nat.le_of_ble_eq_true rfl⟩ h hK hP hD hS hl.1 (rest := [.long r1]) (Nat.le_of_ble_eq_true rfl) dX0_gains_17 (fun r3 τ4 H locs h hP hD hS => ?_)
  refine W.lcmp hx hb dX0_gains_20 ?_
  refine lv_if_le (tgt := 28) hx hb dX0_gains_21 (by decide) (fun hc => ?_) (fun hc => ?_)
  · have h := h.1 hc
    refine lv_iconst (v := (0 : Int32)) hx hb dX0_gains_28 (by decide) ?_
    exact zret_z hx hb hr hlocks hK hP hD hS zb_0 h dX0_gains_29
  · have h := h.2 hc
    refine lv_iconst (v := (1 : Int32)) hx hb dX0_gains_24 (by decide) ?_
    refine lv_goto (tgt := 29) hx hb dX0_gains_25 (by decide) ?_
    exact zret_z hx hb hr hlocks hK hP hD hS zb_1 h dX0_gains_29
set_option maxHeartbeats 4000000 in
set_option maxRecDepth 100000 in
theorem c_X0_gains (N : Nat) (l : Launch) (dC : Nat → ClassId) (dI : Nat → Nat → Nat) (ad : Nat → Nat) (cI cJ : ClassId) (sz : Nat) (σ : zSt) (x1 : Int64) (x3 : Int64) (x5 : Int32) (Q : Int32 → zSt → Prop) (h : w_X0_gains N x1 x3 x5 σ Q) : Met l yX0_gains vs_X0_gains rm_X0_gains (va_Pc [.ref (ad 10), .long x1, .long x3, .int x5] (zPc (dC, dI) (x_ty cI cJ) (x_W ad cI cJ) sz σ)) (zQi (dC, dI) (x_ty cI cJ) (x_W ad cI cJ) (zAW x_n ad sz) Q) 0 0 (zAW x_n ad sz) := by
  refine Met.ofW (cc := cX0_gains) (maxL := 6) (ret := (some .boolean)) (by decide) rfl ?_
  intro p e s m args below meth c s₁ B hml hv
  obtain ⟨rfl, hsz, hP, hK, hD0⟩ := hv
  subst hsz
  have C0 : zCx p s m meth c _ RX0 cX0_gains 6 (some .boolean) vs_X0_gains := ⟨B.exec, B.bytes, hml, B.returns, findClass_of_methodNamed B.named, atoms_spec (ws := vs_X0_gains) B.pre, B.notSynchronized⟩
  have hD := x_D0 (n0 := s.heap.size) hD0
  have hl := lv_entry ([.ref (ad 10), .long x1, .long x3, .int x5]) (n := 6) (Nat.le_of_ble_eq_true rfl)
  rw [lg_entry_eq]
  generalize (lg_sl ([.ref (ad 10), .long x1, .long x3, .int x5]) ++ List.replicate (6 - (lg_sl ([.ref (ad 10), .long x1, .long x3, .int x5])).length) Slot.unset).toArray = ls at hl ⊢
  exact t_X0_gains_0 C0 hK N x1 x3 x5 σ _ _ ls h hP hD va_S.rf hl
theorem k_X0_gains (N : Nat) {R : Room} {H : Heap} {locs : List Loc} {Q2 : State → Prop} {cc : ByteArray} {nL pc index : Nat} {ls : Array Slot} {rest : List Value} {own : String} {c0 : Cond} {σ : zSt} {x1 : Int64} {x3 : Int64} {x5 : Int32} {Q : Int32 → zSt → Prop} (S0 : CallFix p m c cc nL s args (c0 :: zT) own) (hml : Cond.methodLink own index yX0_gains ∈ zT) (hR : rm_X0_gains.frames + 1 ≤ R.frames ∧ 8 + (6 + 11) + rm_X0_gains.locals ≤ R.locals) (h : w_X0_gains N x1 x3 x5 σ Q) (hK : va_K (dC, dI) vwCl (x_ty cI cJ) s) (hP : va_P (dC, dI) vwCl (x_W ad cI cJ σ) H) (hD : va_D (zAW x_n ad s.heap.size) (x_W ad cI cJ σ)) (hS : va_S (zAW x_n ad s.heap.size) s.heap H locs) (hsz : ls.size = nL) (hW : (rest.map fun v => v.category).sum ≤ 8) (hdg : decode cc pc = .ok (.invokevirtual index, 3)) (kk : ∀ (r : Int32) (τ : zSt) (H1 : Heap) (locs1 : List Loc), Q r τ → va_P (dC, dI) vwCl (x_W ad cI cJ τ) H1 → va_D (zAW x_n ad s.heap.size) (x_W ad cI cJ τ) → va_S (zAW x_n ad s.heap.size) s.heap H1 locs1 → W p l e R s m args below meth c H1 locs1 0 0 Q2 (F0 m (pc + 3) ls (.int r :: rest))) : W p l e R s m args below meth c H locs 0 0 Q2 (F0 m pc ls (.int x5 :: .long x3 :: .long x1 :: .ref (ad 10) :: rest)) :=
  zcv_i (T := TX0) (N' := 9) (k := 10) (ci := 0) (fs := x_f10 ad σ) [.long x1, .long x3, .int x5] S0 (c_X0_gains N l dC dI ad cI cJ H.size σ x1 x3 x5 Q h) (cw_X0_gains S0.2.2.2.2 hml rfl rfl hR) rfl rfl hK hP hD hS rfl hsz hW rfl hdg kk
end q06
section q06
def vs_X0_found : List Cond := .code yX0_found cX0_found 5 (some .boolean) :: zT
def rm_X0_found : Room := { frames := 0, cells := 0, slots := 0, locals := 0 }
theorem cw_X0_found {rm R : Room} {s : State} {args : Array Value} {own : String} {index : Nat} {c0 : Cond} (hts : ∀ w ∈ c0 :: zT, w.before args s = true) (hml : Cond.methodLink own index yX0_found ∈ zT) (hrc : rm.cells = 0) (hrs : rm.slots = 0) (hR : rm.frames + 1 ≤ R.frames ∧ 8 + (5 + 11) + rm.locals ≤ R.locals) : CallW R s args own RX0 index yX0_found cX0_found 5 (some .boolean) vs_X0_found rm 0 0 3 :=
  zwV 3 hts hml mw_603 mw_1344 mw_13 mw_604 hrc hrs (by decide +kernel) hR
def w_X0_found (N : Nat) (x1 : Int32) (x2 : Int32) (x3 : Int64) (σ : zSt) (Q : Int32 → zSt → Prop) : Prop :=
  ∀ τ1 : zSt, τ1 = zI σ 28 x1 → ∀ τ2 : zSt, τ2 = zI τ1 29 x2 → ∀ τ3 : zSt, τ3 = zJ τ2 5 x3 → Q (1 : Int32) τ3
variable {p : Program} {l : Launch} {e : Env} {s : State} {m : MethodId} {args : Array Value} {below : List Frame} {meth : Method} {c : Code} {dC : Nat → ClassId} {dI : Nat → Nat → Nat} {ad : Nat → Nat} {cI cJ : ClassId}
set_option maxHeartbeats 4000000 in
set_option maxRecDepth 100000 in
theorem t_X0_found_0 (C0 : zCx p s m meth c args RX0 cX0_found 5 (some .boolean) vs_X0_found) (hK : va_K (dC, dI) vwCl (x_ty cI cJ) s) (N : Nat) {Q : Int32 → zSt → Prop} : ∀ (x1 : Int32) (x2 : Int32) (x3 : Int64) (σ : zSt) (H : Heap) (locs : List Loc) (ls : Array Slot), w_X0_found N x1 x2 x3 σ Q → va_P (dC, dI) vwCl (x_W ad cI cJ σ) H → va_D (zAW x_n ad s.heap.size) (x_W ad cI cJ σ) → va_S (zAW x_n ad s.heap.size) s.heap H locs → lv_has ls 5 [(0, .ref (ad 10)), (1, .int x1), (2, .int x2), (3, .long x3)] → W p l e rm_X0_found s m args below meth c H locs 0 0 (MQ below (zQi (dC, dI) (x_ty cI cJ) (x_W ad cI cJ) (zAW x_n ad s.heap.size) Q) args s 0 0 (zAW x_n ad s.heap.size)) (F0 m 0 ls []) := by
  obtain ⟨hx, hb, hml, hr, hown, hts, hlocks⟩ := id C0
  intro x1 x2 x3 σ H locs ls h hP hD hS hl
  unfold w_X0_found at h
  refine lv_aload_n hx hb dX0_found_0 rfl (lv_at hl 0 rfl) ?_
  refine lv_iload_n hx hb dX0_found_1 rfl (lv_at hl 1 rfl) ?_
  refine xp_10_6 hx hb hts hown hK hP hD hS mw_226 dX0_found_2 (fun τ1 H locs eτ1 hP hD hS => ?_)
  have h := h τ1 eτ1
  refine lv_aload_n hx hb dX0_found_5 rfl (lv_at hl 0 rfl) ?_
  refine lv_iload_n hx hb dX0_found_6 rfl (lv_at hl 2 rfl) ?_
  refine xp_10_7 hx hb hts hown hK hP hD hS mw_228 dX0_found_7 (fun τ2 H locs eτ2 hP hD hS => ?_)
  have h := h τ2 eτ2
  refine lv_aload_n hx hb dX0_found_10 rfl (lv_at hl 0 rfl) ?_
  refine lv_lload_n hx hb dX0_found_11 rfl (lv_at hl 3 rfl) ?_
  refine xp_10_8 hx hb hts hown hK hP hD hS mw_230 dX0_found_12 (fun τ3 H locs eτ3 hP hD hS => ?_)
  have h := h τ3 eτ3
  refine lv_iconst (v := (1 : Int32)) hx hb dX0_found_15 (by decide) ?_
  exact zret_z hx hb hr hlocks hK hP hD hS zb_1 h dX0_found_16
set_option maxHeartbeats 4000000 in
set_option maxRecDepth 100000 in
theorem c_X0_found (N : Nat) (l : Launch) (dC : Nat → ClassId) (dI : Nat → Nat → Nat) (ad : Nat → Nat) (cI cJ : ClassId) (sz : Nat) (σ : zSt) (x1 : Int32) (x2 : Int32) (x3 : Int64) (Q : Int32 → zSt → Prop) (h : w_X0_found N x1 x2 x3 σ Q) : Met l yX0_found vs_X0_found rm_X0_found (va_Pc [.ref (ad 10), .int x1, .int x2, .long x3] (zPc (dC, dI) (x_ty cI cJ) (x_W ad cI cJ) sz σ)) (zQi (dC, dI) (x_ty cI cJ) (x_W ad cI cJ) (zAW x_n ad sz) Q) 0 0 (zAW x_n ad sz) := by
  refine Met.ofW (cc := cX0_found) (maxL := 5) (ret := (some .boolean)) (by decide) rfl ?_
  intro p e s m args below meth c s₁ B hml hv
  obtain ⟨rfl, hsz, hP, hK, hD0⟩ := hv
  subst hsz
  have C0 : zCx p s m meth c _ RX0 cX0_found 5 (some .boolean) vs_X0_found := ⟨B.exec, B.bytes, hml, B.returns, findClass_of_methodNamed B.named, atoms_spec (ws := vs_X0_found) B.pre, B.notSynchronized⟩
  have hD := x_D0 (n0 := s.heap.size) hD0
  have hl := lv_entry ([.ref (ad 10), .int x1, .int x2, .long x3]) (n := 5) (Nat.le_of_ble_eq_true rfl)
  rw [lg_entry_eq]
  generalize (lg_sl ([.ref (ad 10), .int x1, .int x2, .long x3]) ++ List.replicate (5 - (lg_sl ([.ref (ad 10), .int x1, .int x2, .long x3])).length) Slot.unset).toArray = ls at hl ⊢
  exact t_X0_found_0 C0 hK N x1 x2 x3 σ _ _ ls h hP hD va_S.rf hl
theorem k_X0_found (N : Nat) {R : Room} {H : Heap} {locs : List Loc} {Q2 : State → Prop} {cc : ByteArray} {nL pc index : Nat} {ls : Array Slot} {rest : List Value} {own : String} {c0 : Cond} {σ : zSt} {x1 : Int32} {x2 : Int32} {x3 : Int64} {Q : Int32 → zSt → Prop} (S0 : CallFix p m c cc nL s args (c0 :: zT) own) (hml : Cond.methodLink own index yX0_found ∈ zT) (hR : rm_X0_found.frames + 1 ≤ R.frames ∧ 8 + (5 + 11) + rm_X0_found.locals ≤ R.locals) (h : w_X0_found N x1 x2 x3 σ Q) (hK : va_K (dC, dI) vwCl (x_ty cI cJ) s) (hP : va_P (dC, dI) vwCl (x_W ad cI cJ σ) H) (hD : va_D (zAW x_n ad s.heap.size) (x_W ad cI cJ σ)) (hS : va_S (zAW x_n ad s.heap.size) s.heap H locs) (hsz : ls.size = nL) (hW : (rest.map fun v => v.category).sum ≤ 8) (hdg : decode cc pc = .ok (.invokevirtual index, 3)) (kk : ∀ (r : Int32) (τ : zSt) (H1 : Heap) (locs1 : List Loc), Q r τ → va_P (dC, dI) vwCl (x_W ad cI cJ τ) H1 → va_D (zAW x_n ad s.heap.size) (x_W ad cI cJ τ) → va_S (zAW x_n ad s.heap.size) s.heap H1 locs1 → W p l e R s m args below meth c H1 locs1 0 0 Q2 (F0 m (pc + 3) ls (.int r :: rest))) : W p l e R s m args below meth c H locs 0 0 Q2 (F0 m pc ls (.long x3 :: .int x2 :: .int x1 :: .ref (ad 10) :: rest)) :=
  zcv_i (T := TX0) (N' := 9) (k := 10) (ci := 0) (fs := x_f10 ad σ) [.int x1, .int x2, .long x3] S0 (c_X0_found N l dC dI ad cI cJ H.size σ x1 x2 x3 Q h) (cw_X0_found S0.2.2.2.2 hml rfl rfl hR) rfl rfl hK hP hD hS rfl hsz hW rfl hdg kk
end q06
section q06
def vs_X0_firstCut : List Cond := .code yX0_firstCut cX0_firstCut 6 (some .boolean) :: zT
def rm_X0_firstCut : Room := { frames := 5, cells := 0, slots := 0, locals := 138 }
theorem cw_X0_firstCut {rm R : Room} {s : State} {args : Array Value} {own : String} {index : Nat} {c0 : Cond} (hts : ∀ w ∈ c0 :: zT, w.before args s = true) (hml : Cond.methodLink own index yX0_firstCut ∈ zT) (hrc : rm.cells = 0) (hrs : rm.slots = 0) (hR : rm.frames + 1 ≤ R.frames ∧ 8 + (6 + 11) + rm.locals ≤ R.locals) : CallW R s args own RX0 index yX0_firstCut cX0_firstCut 6 (some .boolean) vs_X0_firstCut rm 0 0 1 :=
  zwV 1 hts hml mw_595 mw_1342 mw_13 mw_596 hrc hrs (by decide +kernel) hR
def b_X0_firstCut_2 (N : Nat) (k_2 : Int64 → Int32 → zSt → Prop) (Q : Int32 → zSt → Prop) (x1 : Int64) (x3 : Int32) (σ : zSt) : Prop :=
  ((σ.1 2) ≤ x3 → Q (0 : Int32) σ) ∧ (¬ (σ.1 2) ≤ x3 → ((lg_cmp ((x1 >>> (x3.toInt64 &&& 63)) &&& (1 : Int64)) (0 : Int64)) = 0 → ∀ v1 : Int32, v1 = x3 + (1 : Int32) → k_2 x1 v1 σ) ∧ (¬ (lg_cmp ((x1 >>> (x3.toInt64 &&& 63)) &&& (1 : Int64)) (0 : Int64)) = 0 → ∀ v2 : Int64, v2 = x1 &&& (((1 : Int64) <<< (x3.toInt64 &&& 63)) ^^^ (-1 : Int64)) → (vp_in x3 45) ∧ (w_X0_gains N x1 v2 (σ.2.2.1 3 x3.toNatClampNeg) σ (fun r3 τ4 => (r3 = 0 → (vp_in x3 45) ∧ (w_X0_gains N x1 v2 (τ4.2.2.1 4 x3.toNatClampNeg) τ4 (fun r5 τ6 => (r5 = 0 → ∀ v7 : Int32, v7 = x3 + (1 : Int32) → k_2 x1 v7 τ6) ∧ (¬ r5 = 0 → (vp_in x3 45) ∧ (w_X0_found N (0 : Int32) ((1 : Int32) <<< ((τ6.2.2.1 4 x3.toNatClampNeg) &&& 31)) v2 τ6 (fun r8 τ9 => (zb r8) ∧ Q r8 τ9)))))) ∧ (¬ r3 = 0 → (vp_in x3 45) ∧ (w_X0_found N (0 : Int32) ((1 : Int32) <<< ((τ4.2.2.1 3 x3.toNatClampNeg) &&& 31)) v2 τ4 (fun r10 τ11 => (zb r10) ∧ Q r10 τ11)))))))
def w_X0_firstCut_2 (N : Nat) (Q : Int32 → zSt → Prop) : Nat → Int64 → Int32 → zSt → Prop
  | 0 => fun _ _ _ => False
  | f + 1 => b_X0_firstCut_2 N (w_X0_firstCut_2 N  Q f) Q
def w_X0_firstCut (N : Nat) (x1 : Int64) (σ : zSt) (Q : Int32 → zSt → Prop) : Prop :=
  w_X0_firstCut_2 N Q N x1 (0 : Int32) σ
variable {p : Program} {l : Launch} {e : Env} {s : State} {m : MethodId} {args : Array Value} {below : List Frame} {meth : Method} {c : Code} {dC : Nat → ClassId} {dI : Nat → Nat → Nat} {ad : Nat → Nat} {cI cJ : ClassId}
set_option maxHeartbeats 4000000 in
set_option maxRecDepth 100000 in
theorem tb_X0_firstCut_2 (C0 : zCx p s m meth c args RX0 cX0_firstCut 6 (some .boolean) vs_X0_firstCut) (hK : va_K (dC, dI) vwCl (x_ty cI cJ) s) (N : Nat) {Q : Int32 → zSt → Prop} {k_2 : Int64 → Int32 → zSt → Prop} (hk_2 : ∀ (x1 : Int64) (x3 : Int32) (σ : zSt) (H : Heap) (locs : List Loc) (ls : Array Slot), k_2 x1 x3 σ → va_P (dC, dI) vwCl (x_W ad cI cJ σ) H → va_D (zAW x_n ad s.heap.size) (x_W ad cI cJ σ) → va_S (zAW x_n ad s.heap.size) s.heap H locs → lv_has ls 6 [(0, .ref (ad 10)), (1, .long x1), (3, .int x3)] → W p l e rm_X0_firstCut s m args below meth c H locs 0 0 (MQ below (zQi (dC, dI) (x_ty cI cJ) (x_W ad cI cJ) (zAW x_n ad s.heap.size) Q) args s 0 0 (zAW x_n ad s.heap.size)) (F0 m 2 ls [])) : ∀ (x1 : Int64) (x3 : Int32) (σ : zSt) (H : Heap) (locs : List Loc) (ls : Array Slot), b_X0_firstCut_2 N k_2 Q x1 x3 σ → va_P (dC, dI) vwCl (x_W ad cI cJ σ) H → va_D (zAW x_n ad s.heap.size) (x_W ad cI cJ σ) → va_S (zAW x_n ad s.heap.size) s.heap H locs → lv_has ls 6 [(0, .ref (ad 10)), (1, .long x1), (3, .int x3)] → W p l e rm_X0_firstCut s m args below meth c H locs 0 0 (MQ below (zQi (dC, dI) (x_ty cI cJ) (x_W ad cI cJ) (zAW x_n ad s.heap.size) Q) args s 0 0 (zAW x_n ad s.heap.size)) (F0 m 2 ls []) := by
  obtain ⟨hx, hb, hml, hr, hown, hts, hlocks⟩ := id C0
  intro x1 x3 σ H locs ls h hP hD hS hl
  unfold b_X0_firstCut_2 at h
  refine lv_iload_n hx hb dX0_firstCut_2 rfl (lv_at hl 2 rfl) ?_
  refine lv_aload_n hx hb dX0_firstCut_3 rfl (lv_at hl 0 rfl) ?_
  refine xg_10_0 hx hb hts hown hK hP mw_220 dX0_firstCut_4 ?_
  refine xg_3_5 hx hb hts hown hK hP mw_80 dX0_firstCut_7 ?_
  refine lv_icmp_ge (tgt := 116) hx hb dX0_firstCut_10 (by decide) (fun hc => ?_) (fun hc => ?_)
  · have h := h.1 hc
    refine lv_iconst (v := (0 : Int32)) hx hb dX0_firstCut_116 (by decide) ?_
    exact zret_z hx hb hr hlocks hK hP hD hS zb_0 h dX0_firstCut_117
  · have h := h.2 hc
    refine lv_lload_n hx hb dX0_firstCut_13 rfl (lv_at hl 1 rfl) ?_
    refine lv_iload_n hx hb dX0_firstCut_14 rfl (lv_at hl 2 rfl) ?_
    refine lv_lshr hx hb dX0_firstCut_15 rfl ?_
    refine lv_lconst (v := (1 : Int64)) hx hb dX0_firstCut_16 (by decide) ?_
    refine lv_land hx hb dX0_firstCut_17 ?_
    refine lv_lconst (v := (0 : Int64)) hx hb dX0_firstCut_18 (by decide) ?_
    refine W.lcmp hx hb dX0_firstCut_19 ?_
    refine lv_if_eq (tgt := 110) hx hb dX0_firstCut_20 (by decide) (fun hc => ?_) (fun hc => ?_)
    · have h := h.1 hc
      obtain ⟨v1, ev1⟩ : ∃ z : Int32, z = x3 + (1 : Int32) := ⟨_, rfl⟩
      have h := h v1 ev1
      refine lv_iinc (v := v1) (lv' := [(3, .int v1), (0, .ref (ad 10)), (1, .long x1)]) hx hb dX0_firstCut_110 hl (k := 2) rfl (by rw [ev1]; rfl) (by decide) rfl (fun ls hl => ?_)
      refine lv_goto (tgt := 2) hx hb dX0_firstCut_113 (by decide) ?_
      exact hk_2 x1 v1 σ _ _ _ h hP hD hS (lv_sub hl [1, 2, 0] rfl)
    · have h := h.2 hc
      refine lv_lload_n hx hb dX0_firstCut_23 rfl (lv_at hl 1 rfl) ?_
      refine lv_lconst (v := (1 : Int64)) hx hb dX0_firstCut_24 (by decide) ?_
      refine lv_iload_n hx hb dX0_firstCut_25 rfl (lv_at hl 2 rfl) ?_
      refine lv_lshl hx hb dX0_firstCut_26 rfl ?_
      refine lv_ldc2 (v := (-1 : Int64)) hx hb hown (hts _ (List.mem_cons_of_mem _ mw_597)) dX0_firstCut_27 ?_
      refine lv_lxor hx hb dX0_firstCut_30 ?_
      refine lv_land hx hb dX0_firstCut_31 ?_
      refine lv_topl (fun v2 ev2 => ?_)
      have h := h v2 ev2
      refine lv_lstore (lv' := [(4, .long v2), (0, .ref (ad 10)), (1, .long x1), (3, .int x3)]) hx hb dX0_firstCut_32 hl (by decide) rfl (fun ls hl => ?_)
      refine lv_aload_n hx hb dX0_firstCut_34 rfl (lv_at hl 1 rfl) ?_
      refine lv_lload_n hx hb dX0_firstCut_35 rfl (lv_at hl 2 rfl) ?_
      refine lv_lload hx hb dX0_firstCut_36 (lv_at hl 0 rfl) ?_
      refine lv_aload_n hx hb dX0_firstCut_38 rfl (lv_at hl 1 rfl) ?_
      refine xg_10_1 hx hb hts hown hK hP mw_221 dX0_firstCut_39 ?_
      refine xg_2_0 hx hb hts hown hK hP mw_46 dX0_firstCut_42 ?_
      refine lv_iload_n hx hb dX0_firstCut_45 rfl (lv_at hl 3 rfl) ?_
      refine xa_20 hx hb hK hP h.1 rfl dX0_firstCut_46 ?_
      have h := h.2
      refine k_X0_gains N ⟨hx, hb, hml, hown, hts⟩ mw_598 ⟨Nat.le_of_ble_eq_true rfl, Nat.le_of_ble_eq_true rfl⟩ h hK hP hD hS hl.1 (rest := []) (Nat.le_of_ble_eq_true rfl) dX0_firstCut_47 (fun r3 τ4 H locs h hP hD hS => ?_)
      refine lv_if_eq (tgt := 72) hx hb dX0_firstCut_50 (by decide) (fun hc => ?_) (fun hc => ?_)
      · have h := h.1 hc
        refine lv_aload_n hx hb dX0_firstCut_72 rfl (lv_at hl 1 rfl) ?_
        refine lv_lload_n hx hb dX0_firstCut_73 rfl (lv_at hl 2 rfl) ?_
        refine lv_lload hx hb dX0_firstCut_74 (lv_at hl 0 rfl) ?_
        refine lv_aload_n hx hb dX0_firstCut_76 rfl (lv_at hl 1 rfl) ?_
        refine xg_10_1 hx hb hts hown hK hP mw_221 dX0_firstCut_77 ?_
        refine xg_2_1 hx hb hts hown hK hP mw_50 dX0_firstCut_80 ?_
        refine lv_iload_n hx hb dX0_firstCut_83 rfl (lv_at hl 3 rfl) ?_
        refine xa_21 hx hb hK hP h.1 rfl dX0_firstCut_84 ?_
        have h := h.2
        refine k_X0_gains N ⟨hx, hb, hml, hown, hts⟩ mw_598 ⟨Nat.le_of_ble_eq_true rfl, Nat.le_of_ble_eq_true rfl⟩ h hK hP hD hS hl.1 (rest := []) (Nat.le_of_ble_eq_true rfl) dX0_firstCut_85 (fun r5 τ6 H locs h hP hD hS => ?_)
        refine lv_if_eq (tgt := 110) hx hb dX0_firstCut_88 (by decide) (fun hc => ?_) (fun hc => ?_)
        · have h := h.1 hc
          obtain ⟨v7, ev7⟩ : ∃ z : Int32, z = x3 + (1 : Int32) := ⟨_, rfl⟩
          have h := h v7 ev7
          refine lv_iinc (v := v7) (lv' := [(3, .int v7), (4, .long v2), (0, .ref (ad 10)), (1, .long x1)]) hx hb dX0_firstCut_110 hl (k := 3) rfl (by rw [ev7]; rfl) (by decide) rfl (fun ls hl => ?_)
          refine lv_goto (tgt := 2) hx hb dX0_firstCut_113 (by decide) ?_
          exact hk_2 x1 v7 τ6 _ _ _ h hP hD hS (lv_sub hl [2, 3, 0] rfl)
        · have h := h.2 hc
          refine lv_aload_n hx hb dX0_firstCut_91 rfl (lv_at hl 1 rfl) ?_
          refine lv_iconst (v := (0 : Int32)) hx hb dX0_firstCut_92 (by decide) ?_
          refine lv_iconst (v := (1 : Int32)) hx hb dX0_firstCut_93 (by decide) ?_
          refine lv_aload_n hx hb dX0_firstCut_94 rfl (lv_at hl 1 rfl) ?_
          refine xg_10_1 hx hb hts hown hK hP mw_221 dX0_firstCut_95 ?_
          refine xg_2_1 hx hb hts hown hK hP mw_50 dX0_firstCut_98 ?_
          refine lv_iload_n hx hb dX0_firstCut_101 rfl (lv_at hl 3 rfl) ?_
          refine xa_21 hx hb hK hP h.1 rfl dX0_firstCut_102 ?_
          have h := h.2
          refine lv_ishl hx hb dX0_firstCut_103 ?_
          refine lv_lload hx hb dX0_firstCut_104 (lv_at hl 0 rfl) ?_
          refine k_X0_found N ⟨hx, hb, hml, hown, hts⟩ mw_602 ⟨Nat.le_of_ble_eq_true rfl, Nat.le_of_ble_eq_true rfl⟩ h hK hP hD hS hl.1 (rest := []) (Nat.le_of_ble_eq_true rfl) dX0_firstCut_106 (fun r8 τ9 H locs h hP hD hS => ?_)
          exact zret_z hx hb hr hlocks hK hP hD hS h.1 h.2 dX0_firstCut_109
      · have h := h.2 hc
        refine lv_aload_n hx hb dX0_firstCut_53 rfl (lv_at hl 1 rfl) ?_
        refine lv_iconst (v := (0 : Int32)) hx hb dX0_firstCut_54 (by decide) ?_
        refine lv_iconst (v := (1 : Int32)) hx hb dX0_firstCut_55 (by decide) ?_
        refine lv_aload_n hx hb dX0_firstCut_56 rfl (lv_at hl 1 rfl) ?_
        refine xg_10_1 hx hb hts hown hK hP mw_221 dX0_firstCut_57 ?_
        refine xg_2_0 hx hb hts hown hK hP mw_46 dX0_firstCut_60 ?_
        refine lv_iload_n hx hb dX0_firstCut_63 rfl (lv_at hl 3 rfl) ?_
        refine xa_20 hx hb hK hP h.1 rfl dX0_firstCut_64 ?_
        have h := h.2
        refine lv_ishl hx hb dX0_firstCut_65 ?_
        refine lv_lload hx hb dX0_firstCut_66 (lv_at hl 0 rfl) ?_
        refine k_X0_found N ⟨hx, hb, hml, hown, hts⟩ mw_602 ⟨Nat.le_of_ble_eq_true rfl, Nat.le_of_ble_eq_true rfl⟩ h hK hP hD hS hl.1 (rest := []) (Nat.le_of_ble_eq_true rfl) dX0_firstCut_68 (fun r10 τ11 H locs h hP hD hS => ?_)
        exact zret_z hx hb hr hlocks hK hP hD hS h.1 h.2 dX0_firstCut_71
set_option maxHeartbeats 4000000 in
set_option maxRecDepth 100000 in
theorem t_X0_firstCut_2 (C0 : zCx p s m meth c args RX0 cX0_firstCut 6 (some .boolean) vs_X0_firstCut) (hK : va_K (dC, dI) vwCl (x_ty cI cJ) s) (N : Nat) {Q : Int32 → zSt → Prop} : ∀ (f : Nat) (x1 : Int64) (x3 : Int32) (σ : zSt) (H : Heap) (locs : List Loc) (ls : Array Slot), w_X0_firstCut_2 N  Q f x1 x3 σ → va_P (dC, dI) vwCl (x_W ad cI cJ σ) H → va_D (zAW x_n ad s.heap.size) (x_W ad cI cJ σ) → va_S (zAW x_n ad s.heap.size) s.heap H locs → lv_has ls 6 [(0, .ref (ad 10)), (1, .long x1), (3, .int x3)] → W p l e rm_X0_firstCut s m args below meth c H locs 0 0 (MQ below (zQi (dC, dI) (x_ty cI cJ) (x_W ad cI cJ) (zAW x_n ad s.heap.size) Q) args s 0 0 (zAW x_n ad s.heap.size)) (F0 m 2 ls []) := by
  intro f
  induction f with
  | zero => intro x1 x3 σ H locs ls h; exact h.elim
  | succ f ih =>
    intro x1 x3 σ H locs ls h hP hD hS hl
    exact tb_X0_firstCut_2 C0 hK N  (k_2 := w_X0_firstCut_2 N  Q f) ih x1 x3 σ H locs ls h hP hD hS hl
set_option maxHeartbeats 4000000 in
set_option maxRecDepth 100000 in
theorem t_X0_firstCut_0 (C0 : zCx p s m meth c args RX0 cX0_firstCut 6 (some .boolean) vs_X0_firstCut) (hK : va_K (dC, dI) vwCl (x_ty cI cJ) s) (N : Nat) {Q : Int32 → zSt → Prop} : ∀ (x1 : Int64) (σ : zSt) (H : Heap) (locs : List Loc) (ls : Array Slot), w_X0_firstCut N x1 σ Q → va_P (dC, dI) vwCl (x_W ad cI cJ σ) H → va_D (zAW x_n ad s.heap.size) (x_W ad cI cJ σ) → va_S (zAW x_n ad s.heap.size) s.heap H locs → lv_has ls 6 [(0, .ref (ad 10)), (1, .long x1)] → W p l e rm_X0_firstCut s m args below meth c H locs 0 0 (MQ below (zQi (dC, dI) (x_ty cI cJ) (x_W ad cI cJ) (zAW x_n ad s.heap.size) Q) args s 0 0 (zAW x_n ad s.heap.size)) (F0 m 0 ls []) := by
  obtain ⟨hx, hb, hml, hr, hown, hts, hlocks⟩ := id C0
  intro x1 σ H locs ls h hP hD hS hl
  unfold w_X0_firstCut at h
  refine lv_iconst (v := (0 : Int32)) hx hb dX0_firstCut_0 (by decide) ?_
  refine lv_istore_n (lv' := [(3, .int (0 : Int32)), (0, .ref (ad 10)), (1, .long x1)]) hx hb dX0_firstCut_1 rfl hl (by decide) rfl (fun ls hl => ?_)
  exact t_X0_firstCut_2 C0 hK N  N x1 (0 : Int32) σ _ _ _ h hP hD hS (lv_sub hl [1, 2, 0] rfl)
set_option maxHeartbeats 4000000 in
set_option maxRecDepth 100000 in
theorem c_X0_firstCut (N : Nat) (l : Launch) (dC : Nat → ClassId) (dI : Nat → Nat → Nat) (ad : Nat → Nat) (cI cJ : ClassId) (sz : Nat) (σ : zSt) (x1 : Int64) (Q : Int32 → zSt → Prop) (h : w_X0_firstCut N x1 σ Q) : Met l yX0_firstCut vs_X0_firstCut rm_X0_firstCut (va_Pc [.ref (ad 10), .long x1] (zPc (dC, dI) (x_ty cI cJ) (x_W ad cI cJ) sz σ)) (zQi (dC, dI) (x_ty cI cJ) (x_W ad cI cJ) (zAW x_n ad sz) Q) 0 0 (zAW x_n ad sz) := by
  refine Met.ofW (cc := cX0_firstCut) (maxL := 6) (ret := (some .boolean)) (by decide) rfl ?_
  intro p e s m args below meth c s₁ B hml hv
  obtain ⟨rfl, hsz, hP, hK, hD0⟩ := hv
  subst hsz
  have C0 : zCx p s m meth c _ RX0 cX0_firstCut 6 (some .boolean) vs_X0_firstCut := ⟨B.exec, B.bytes, hml, B.returns, findClass_of_methodNamed B.named, atoms_spec (ws := vs_X0_firstCut) B.pre, B.notSynchronized⟩
  have hD := x_D0 (n0 := s.heap.size) hD0
  have hl := lv_entry ([.ref (ad 10), .long x1]) (n := 6) (Nat.le_of_ble_eq_true rfl)
  rw [lg_entry_eq]
  generalize (lg_sl ([.ref (ad 10), .long x1]) ++ List.replicate (6 - (lg_sl ([.ref (ad 10), .long x1])).length) Slot.unset).toArray = ls at hl ⊢
  exact t_X0_firstCut_0 C0 hK N x1 σ _ _ ls h hP hD va_S.rf hl
theorem k_X0_firstCut (N : Nat) {R : Room} {H : Heap} {locs : List Loc} {Q2 : State → Prop} {cc : ByteArray} {nL pc index : Nat} {ls : Array Slot} {rest : List Value} {own : String} {c0 : Cond} {σ : zSt} {x1 : Int64} {Q : Int32 → zSt → Prop} (S0 : CallFix p m c cc nL s args (c0 :: zT) own) (hml : Cond.methodLink own index yX0_firstCut ∈ zT) (hR : rm_X0_firstCut.frames + 1 ≤ R.frames ∧ 8 + (6 + 11) + rm_X0_firstCut.locals ≤ R.locals) (h : w_X0_firstCut N x1 σ Q) (hK : va_K (dC, dI) vwCl (x_ty cI cJ) s) (hP : va_P (dC, dI) vwCl (x_W ad cI cJ σ) H) (hD : va_D (zAW x_n ad s.heap.size) (x_W ad cI cJ σ)) (hS : va_S (zAW x_n ad s.heap.size) s.heap H locs) (hsz : ls.size = nL) (hW : (rest.map fun v => v.category).sum ≤ 8) (hdg : decode cc pc = .ok (.invokevirtual index, 3)) (kk : ∀ (r : Int32) (τ : zSt) (H1 : Heap) (locs1 : List Loc), Q r τ → va_P (dC, dI) vwCl (x_W ad cI cJ τ) H1 → va_D (zAW x_n ad s.heap.size) (x_W ad cI cJ τ) → va_S (zAW x_n ad s.heap.size) s.heap H1 locs1 → W p l e R s m args below meth c H1 locs1 0 0 Q2 (F0 m (pc + 3) ls (.int r :: rest))) : W p l e R s m args below meth c H locs 0 0 Q2 (F0 m pc ls (.long x1 :: .ref (ad 10) :: rest)) :=
  zcv_i (T := TX0) (N' := 9) (k := 10) (ci := 0) (fs := x_f10 ad σ) [.long x1] S0 (c_X0_firstCut N l dC dI ad cI cJ H.size σ x1 Q h) (cw_X0_firstCut S0.2.2.2.2 hml rfl rfl hR) rfl rfl hK hP hD hS rfl hsz hW rfl hdg kk
end q06
