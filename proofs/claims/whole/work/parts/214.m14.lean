section q14
end q14
section q14
def b_X12_feed_71 (N : Nat) (k_18 : Int32 → Int32 → Int32 → Int32 → Int32 → Int32 → zSt → Prop) (Q : Int32 → zSt → Prop) (x1 : Int32) (x2 : Int32) (x3 : Int32) (x4 : Int32) (x5 : Int32) (x6 : Int32) (s0 : Int32) (σ : zSt) : Prop :=
  (vp_in (σ.1 0) 800) ∧ (∀ τ1 : zSt, τ1 = zA σ 0 (upd (σ.2.2.1 0) ((σ.1 0).toNatClampNeg) ((s0 >>> (((8 : Int32) * ((3 : Int32) - (x6 - x6 / (4 : Int32) * (4 : Int32)))) &&& 31)) &&& (255 : Int32))) → ∀ τ2 : zSt, τ2 = zI τ1 0 ((τ1.1 0) + (1 : Int32)) → ∀ v3 : Int32, v3 = x6 + (1 : Int32) → k_18 x1 x2 x3 x4 x5 v3 τ2)
def b_X12_feed_18 (N : Nat) (k_18 : Int32 → Int32 → Int32 → Int32 → Int32 → Int32 → zSt → Prop) (Q : Int32 → zSt → Prop) (x1 : Int32) (x2 : Int32) (x3 : Int32) (x4 : Int32) (x5 : Int32) (x6 : Int32) (σ : zSt) : Prop :=
  ((20 : Int32) ≤ x6 → Q (σ.1 0) σ) ∧ (¬ (20 : Int32) ≤ x6 → ((4 : Int32) ≤ x6 → ((8 : Int32) ≤ x6 → ((12 : Int32) ≤ x6 → ((16 : Int32) ≤ x6 → b_X12_feed_71 N k_18 Q x1 x2 x3 x4 x5 x6 x5 σ) ∧ (¬ (16 : Int32) ≤ x6 → b_X12_feed_71 N k_18 Q x1 x2 x3 x4 x5 x6 x4 σ)) ∧ (¬ (12 : Int32) ≤ x6 → b_X12_feed_71 N k_18 Q x1 x2 x3 x4 x5 x6 x3 σ)) ∧ (¬ (8 : Int32) ≤ x6 → b_X12_feed_71 N k_18 Q x1 x2 x3 x4 x5 x6 x2 σ)) ∧ (¬ (4 : Int32) ≤ x6 → b_X12_feed_71 N k_18 Q x1 x2 x3 x4 x5 x6 x1 σ))
def w_X12_feed_18 (N : Nat) (Q : Int32 → zSt → Prop) : Nat → Int32 → Int32 → Int32 → Int32 → Int32 → Int32 → zSt → Prop
  | 0 => fun _ _ _ _ _ _ _ => False
  | f + 1 => b_X12_feed_18 N (w_X12_feed_18 N  Q f) Q
def w_X12_feed (N : Nat) (x1 : Int32) (x2 : Int32) (x3 : Int32) (x4 : Int32) (x5 : Int32) (σ : zSt) (Q : Int32 → zSt → Prop) : Prop :=
  (((σ.1 0) + (20 : Int32)) ≤ (800 : Int32) → w_X12_feed_18 N Q N x1 x2 x3 x4 x5 (0 : Int32) σ) ∧ (¬ ((σ.1 0) + (20 : Int32)) ≤ (800 : Int32) → Q (-1 : Int32) σ)
variable {p : Program} {l : Launch} {e : Env} {s : State} {m : MethodId} {args : Array Value} {below : List Frame} {meth : Method} {c : Code} {dC : Nat → ClassId} {dI : Nat → Nat → Nat} {ad : Nat → Nat} {cI cJ cC : ClassId}
set_option maxHeartbeats 4000000 in
set_option maxRecDepth 100000 in
theorem t_X12_feed_71 (C0 : zCx p s m meth c args RX12 cX12_feed 8 (some .int) vs_X12_feed) (hK : va_K (dC, dI) vwCl (m_ty cI cJ cC) s) (N : Nat) {Q : Int32 → zSt → Prop} {k_18 : Int32 → Int32 → Int32 → Int32 → Int32 → Int32 → zSt → Prop} (hk_18 : ∀ (x1 : Int32) (x2 : Int32) (x3 : Int32) (x4 : Int32) (x5 : Int32) (x6 : Int32) (σ : zSt) (H : Heap) (locs : List Loc) (ls : Array Slot), k_18 x1 x2 x3 x4 x5 x6 σ → va_P (dC, dI) vwCl (m_W ad cI cJ cC σ) H → va_D (zAW m_n ad s.heap.size) (m_W ad cI cJ cC σ) → va_S (zAW m_n ad s.heap.size) s.heap H locs → lv_has ls 8 [(0, .ref (ad 0)), (1, .int x1), (2, .int x2), (3, .int x3), (4, .int x4), (5, .int x5), (6, .int x6)] → W p l e rm_X12_feed s m args below meth c H locs 0 0 (MQ below (zQi (dC, dI) (m_ty cI cJ cC) (m_W ad cI cJ cC) (zAW m_n ad s.heap.size) Q) args s 0 0 (zAW m_n ad s.heap.size)) (F0 m 18 ls [])) : ∀ (x1 : Int32) (x2 : Int32) (x3 : Int32) (x4 : Int32) (x5 : Int32) (x6 : Int32) (s0 : Int32) (σ : zSt) (H : Heap) (locs : List Loc) (ls : Array Slot), b_X12_feed_71 N k_18 Q x1 x2 x3 x4 x5 x6 s0 σ → va_P (dC, dI) vwCl (m_W ad cI cJ cC σ) H → va_D (zAW m_n ad s.heap.size) (m_W ad cI cJ cC σ) → va_S (zAW m_n ad s.heap.size) s.heap H locs → lv_has ls 8 [(0, .ref (ad 0)), (1, .int x1), (2, .int x2), (3, .int x3), (4, .int x4), (5, .int x5), (6, .int x6)] → W p l e rm_X12_feed s m args below meth c H locs 0 0 (MQ below (zQi (dC, dI) (m_ty cI cJ cC) (m_W ad cI cJ cC) (zAW m_n ad s.heap.size) Q) args s 0 0 (zAW m_n ad s.heap.size)) (F0 m 71 ls [.int s0]) := by
  obtain ⟨hx, hb, hml, hr, hown, hts, hlocks⟩ := id C0
  intro x1 x2 x3 x4 x5 x6 s0 σ H locs ls h hP hD hS hl
  unfold b_X12_feed_71 at h
  refine lv_istore (lv' := [(7, .int s0), (0, .ref (ad 0)), (1, .int x1), (2, .int x2), (3, .int x3), (4, .int x4), (5, .int x5), (6, .int x6)]) hx hb dX12_feed_71 hl (by decide) rfl (fun ls hl => ?_)
  refine lv_aload_n hx hb dX12_feed_73 rfl (lv_at hl 1 rfl) ?_
  refine mg_0_0 hx hb hts hown hK hP mw_833 dX12_feed_74 ?_
  refine lv_aload_n hx hb dX12_feed_77 rfl (lv_at hl 1 rfl) ?_
  refine mg_0_1 hx hb hts hown hK hP mw_834 dX12_feed_78 ?_
  refine lv_iload hx hb dX12_feed_81 (lv_at hl 0 rfl) ?_
  refine lv_bipush (v := (8 : Int32)) hx hb dX12_feed_83 (by decide) ?_
  refine lv_iconst (v := (3 : Int32)) hx hb dX12_feed_85 (by decide) ?_
  refine lv_iload hx hb dX12_feed_86 (lv_at hl 7 rfl) ?_
  refine lv_iconst (v := (4 : Int32)) hx hb dX12_feed_88 (by decide) ?_
  refine lv_irem hx hb dX12_feed_89 (by decide) ?_
  refine lv_isub hx hb dX12_feed_90 ?_
  refine lv_imul hx hb dX12_feed_91 ?_
  refine lv_ishr hx hb dX12_feed_92 ?_
  refine lv_sipush (v := (255 : Int32)) hx hb dX12_feed_93 (by decide) ?_
  refine lv_iand hx hb dX12_feed_96 ?_
  refine ms_1 hx hb hK hP hD hS h.1 rfl dX12_feed_97 (fun τ1 H locs eτ1 hP hD hS => ?_)
  have h := h.2
  have h := h τ1 eτ1
  refine lv_aload_n hx hb dX12_feed_98 rfl (lv_at hl 1 rfl) ?_
  refine lv_dup hx hb dX12_feed_99 rfl ?_
  refine mg_0_1 hx hb hts hown hK hP mw_834 dX12_feed_100 ?_
  refine lv_iconst (v := (1 : Int32)) hx hb dX12_feed_103 (by decide) ?_
  refine lv_iadd hx hb dX12_feed_104 ?_
  refine mp_0_1 hx hb hts hown hK hP hD hS mw_834 dX12_feed_105 (fun τ2 H locs eτ2 hP hD hS => ?_)
  have h := h τ2 eτ2
  obtain ⟨v3, ev3⟩ : ∃ z : Int32, z = x6 + (1 : Int32) := ⟨_, rfl⟩
  have h := h v3 ev3
  refine lv_iinc (v := v3) (lv' := [(6, .int v3), (7, .int s0), (0, .ref (ad 0)), (1, .int x1), (2, .int x2), (3, .int x3), (4, .int x4), (5, .int x5)]) hx hb dX12_feed_108 hl (k := 7) rfl (by rw [ev3]; rfl) (by decide) rfl (fun ls hl => ?_)
  refine lv_goto (tgt := 18) hx hb dX12_feed_111 (by decide) ?_
  exact hk_18 x1 x2 x3 x4 x5 v3 τ2 _ _ _ h hP hD hS (lv_sub hl [2, 3, 4, 5, 6, 7, 0] rfl)
set_option maxHeartbeats 4000000 in
set_option maxRecDepth 100000 in
theorem tb_X12_feed_18 (C0 : zCx p s m meth c args RX12 cX12_feed 8 (some .int) vs_X12_feed) (hK : va_K (dC, dI) vwCl (m_ty cI cJ cC) s) (N : Nat) {Q : Int32 → zSt → Prop} {k_18 : Int32 → Int32 → Int32 → Int32 → Int32 → Int32 → zSt → Prop} (hk_18 : ∀ (x1 : Int32) (x2 : Int32) (x3 : Int32) (x4 : Int32) (x5 : Int32) (x6 : Int32) (σ : zSt) (H : Heap) (locs : List Loc) (ls : Array Slot), k_18 x1 x2 x3 x4 x5 x6 σ → va_P (dC, dI) vwCl (m_W ad cI cJ cC σ) H → va_D (zAW m_n ad s.heap.size) (m_W ad cI cJ cC σ) → va_S (zAW m_n ad s.heap.size) s.heap H locs → lv_has ls 8 [(0, .ref (ad 0)), (1, .int x1), (2, .int x2), (3, .int x3), (4, .int x4), (5, .int x5), (6, .int x6)] → W p l e rm_X12_feed s m args below meth c H locs 0 0 (MQ below (zQi (dC, dI) (m_ty cI cJ cC) (m_W ad cI cJ cC) (zAW m_n ad s.heap.size) Q) args s 0 0 (zAW m_n ad s.heap.size)) (F0 m 18 ls [])) : ∀ (x1 : Int32) (x2 : Int32) (x3 : Int32) (x4 : Int32) (x5 : Int32) (x6 : Int32) (σ : zSt) (H : Heap) (locs : List Loc) (ls : Array Slot), b_X12_feed_18 N k_18 Q x1 x2 x3 x4 x5 x6 σ → va_P (dC, dI) vwCl (m_W ad cI cJ cC σ) H → va_D (zAW m_n ad s.heap.size) (m_W ad cI cJ cC σ) → va_S (zAW m_n ad s.heap.size) s.heap H locs → lv_has ls 8 [(0, .ref (ad 0)), (1, .int x1), (2, .int x2), (3, .int x3), (4, .int x4), (5, .int x5), (6, .int x6)] → W p l e rm_X12_feed s m args below meth c H locs 0 0 (MQ below (zQi (dC, dI) (m_ty cI cJ cC) (m_W ad cI cJ cC) (zAW m_n ad s.heap.size) Q) args s 0 0 (zAW m_n ad s.heap.size)) (F0 m 18 ls []) := by
  obtain ⟨hx, hb, hml, hr, hown, hts, hlocks⟩ := id C0
  intro x1 x2 x3 x4 x5 x6 σ H locs ls h hP hD hS hl
  unfold b_X12_feed_18 at h
  refine lv_iload hx hb dX12_feed_18 (lv_at hl 6 rfl) ?_
  refine lv_bipush (v := (20 : Int32)) hx hb dX12_feed_20 (by decide) ?_
  refine lv_icmp_ge (tgt := 114) hx hb dX12_feed_22 (by decide) (fun hc => ?_) (fun hc => ?_)
  · have h := h.1 hc
    refine lv_aload_n hx hb dX12_feed_114 rfl (lv_at hl 0 rfl) ?_
    refine mg_0_1 hx hb hts hown hK hP mw_834 dX12_feed_115 ?_
    exact zret_i hx hb hr hlocks hK hP hD hS h dX12_feed_118
  · have h := h.2 hc
    refine lv_iload hx hb dX12_feed_25 (lv_at hl 6 rfl) ?_
    refine lv_iconst (v := (4 : Int32)) hx hb dX12_feed_27 (by decide) ?_
    refine lv_icmp_ge (tgt := 35) hx hb dX12_feed_28 (by decide) (fun hc => ?_) (fun hc => ?_)
    · have h := h.1 hc
      refine lv_iload hx hb dX12_feed_35 (lv_at hl 6 rfl) ?_
      refine lv_bipush (v := (8 : Int32)) hx hb dX12_feed_37 (by decide) ?_
      refine lv_icmp_ge (tgt := 46) hx hb dX12_feed_39 (by decide) (fun hc => ?_) (fun hc => ?_)
      · have h := h.1 hc
        refine lv_iload hx hb dX12_feed_46 (lv_at hl 6 rfl) ?_
        refine lv_bipush (v := (12 : Int32)) hx hb dX12_feed_48 (by decide) ?_
        refine lv_icmp_ge (tgt := 57) hx hb dX12_feed_50 (by decide) (fun hc => ?_) (fun hc => ?_)
        · have h := h.1 hc
          refine lv_iload hx hb dX12_feed_57 (lv_at hl 6 rfl) ?_
          refine lv_bipush (v := (16 : Int32)) hx hb dX12_feed_59 (by decide) ?_
          refine lv_icmp_ge (tgt := 69) hx hb dX12_feed_61 (by decide) (fun hc => ?_) (fun hc => ?_)
          · have h := h.1 hc
            refine lv_iload hx hb dX12_feed_69 (lv_at hl 5 rfl) ?_
            exact t_X12_feed_71 C0 hK N hk_18 x1 x2 x3 x4 x5 x6 x5 σ _ _ _ h hP hD hS (lv_sub hl [0, 1, 2, 3, 4, 5, 6] rfl)
          · have h := h.2 hc
            refine lv_iload hx hb dX12_feed_64 (lv_at hl 4 rfl) ?_
            refine lv_goto (tgt := 71) hx hb dX12_feed_66 (by decide) ?_
            exact t_X12_feed_71 C0 hK N hk_18 x1 x2 x3 x4 x5 x6 x4 σ _ _ _ h hP hD hS (lv_sub hl [0, 1, 2, 3, 4, 5, 6] rfl)
        · have h := h.2 hc
          refine lv_iload_n hx hb dX12_feed_53 rfl (lv_at hl 3 rfl) ?_
          refine lv_goto (tgt := 71) hx hb dX12_feed_54 (by decide) ?_
          exact t_X12_feed_71 C0 hK N hk_18 x1 x2 x3 x4 x5 x6 x3 σ _ _ _ h hP hD hS (lv_sub hl [0, 1, 2, 3, 4, 5, 6] rfl)
      · have h := h.2 hc
        refine lv_iload_n hx hb dX12_feed_42 rfl (lv_at hl 2 rfl) ?_
        refine lv_goto (tgt := 71) hx hb dX12_feed_43 (by decide) ?_
        exact t_X12_feed_71 C0 hK N hk_18 x1 x2 x3 x4 x5 x6 x2 σ _ _ _ h hP hD hS (lv_sub hl [0, 1, 2, 3, 4, 5, 6] rfl)
    · have h := h.2 hc
      refine lv_iload_n hx hb dX12_feed_31 rfl (lv_at hl 1 rfl) ?_
      refine lv_goto (tgt := 71) hx hb dX12_feed_32 (by decide) ?_
      exact t_X12_feed_71 C0 hK N hk_18 x1 x2 x3 x4 x5 x6 x1 σ _ _ _ h hP hD hS (lv_sub hl [0, 1, 2, 3, 4, 5, 6] rfl)
set_option maxHeartbeats 4000000 in
set_option maxRecDepth 100000 in
theorem t_X12_feed_18 (C0 : zCx p s m meth c args RX12 cX12_feed 8 (some .int) vs_X12_feed) (hK : va_K (dC, dI) vwCl (m_ty cI cJ cC) s) (N : Nat) {Q : Int32 → zSt → Prop} : ∀ (f : Nat) (x1 : Int32) (x2 : Int32) (x3 : Int32) (x4 : Int32) (x5 : Int32) (x6 : Int32) (σ : zSt) (H : Heap) (locs : List Loc) (ls : Array Slot), w_X12_feed_18 N  Q f x1 x2 x3 x4 x5 x6 σ → va_P (dC, dI) vwCl (m_W ad cI cJ cC σ) H → va_D (zAW m_n ad s.heap.size) (m_W ad cI cJ cC σ) → va_S (zAW m_n ad s.heap.size) s.heap H locs → lv_has ls 8 [(0, .ref (ad 0)), (1, .int x1), (2, .int x2), (3, .int x3), (4, .int x4), (5, .int x5), (6, .int x6)] → W p l e rm_X12_feed s m args below meth c H locs 0 0 (MQ below (zQi (dC, dI) (m_ty cI cJ cC) (m_W ad cI cJ cC) (zAW m_n ad s.heap.size) Q) args s 0 0 (zAW m_n ad s.heap.size)) (F0 m 18 ls []) := by
  intro f
  induction f with
  | zero => intro x1 x2 x3 x4 x5 x6 σ H locs ls h; exact h.elim
  | succ f ih =>
    intro x1 x2 x3 x4 x5 x6 σ H locs ls h hP hD hS hl
    exact tb_X12_feed_18 C0 hK N  (k_18 := w_X12_feed_18 N  Q f) ih x1 x2 x3 x4 x5 x6 σ H locs ls h hP hD hS hl
set_option maxHeartbeats 4000000 in
set_option maxRecDepth 100000 in
theorem t_X12_feed_0 (C0 : zCx p s m meth c args RX12 cX12_feed 8 (some .int) vs_X12_feed) (hK : va_K (dC, dI) vwCl (m_ty cI cJ cC) s) (N : Nat) {Q : Int32 → zSt → Prop} : ∀ (x1 : Int32) (x2 : Int32) (x3 : Int32) (x4 : Int32) (x5 : Int32) (σ : zSt) (H : Heap) (locs : List Loc) (ls : Array Slot), w_X12_feed N x1 x2 x3 x4 x5 σ Q → va_P (dC, dI) vwCl (m_W ad cI cJ cC σ) H → va_D (zAW m_n ad s.heap.size) (m_W ad cI cJ cC σ) → va_S (zAW m_n ad s.heap.size) s.heap H locs → lv_has ls 8 [(0, .ref (ad 0)), (1, .int x1), (2, .int x2), (3, .int x3), (4, .int x4), (5, .int x5)] → W p l e rm_X12_feed s m args below meth c H locs 0 0 (MQ below (zQi (dC, dI) (m_ty cI cJ cC) (m_W ad cI cJ cC) (zAW m_n ad s.heap.size) Q) args s 0 0 (zAW m_n ad s.heap.size)) (F0 m 0 ls []) := by
  obtain ⟨hx, hb, hml, hr, hown, hts, hlocks⟩ := id C0
  intro x1 x2 x3 x4 x5 σ H locs ls h hP hD hS hl
  unfold w_X12_feed at h
  refine lv_aload_n hx hb dX12_feed_0 rfl (lv_at hl 0 rfl) ?_
  refine mg_0_1 hx hb hts hown hK hP mw_834 dX12_feed_1 ?_
  refine lv_bipush (v := (20 : Int32)) hx hb dX12_feed_4 (by decide) ?_
  refine lv_iadd hx hb dX12_feed_6 ?_
  refine lv_sipush (v := (800 : Int32)) hx hb dX12_feed_7 (by decide) ?_
  refine lv_icmp_le (tgt := 15) hx hb dX12_feed_10 (by decide) (fun hc => ?_) (fun hc => ?_)
  · have h := h.1 hc
    refine lv_iconst (v := (0 : Int32)) hx hb dX12_feed_15 (by decide) ?_
    refine lv_istore (lv' := [(6, .int (0 : Int32)), (0, .ref (ad 0)), (1, .int x1), (2, .int x2), (3, .int x3), (4, .int x4), (5, .int x5)]) hx hb dX12_feed_16 hl (by decide) rfl (fun ls hl => ?_)
    exact t_X12_feed_18 C0 hK N  N x1 x2 x3 x4 x5 (0 : Int32) σ _ _ _ h hP hD hS (lv_sub hl [1, 2, 3, 4, 5, 6, 0] rfl)
  · have h := h.2 hc
    refine lv_iconst (v := (-1 : Int32)) hx hb dX12_feed_13 (by decide) ?_
    exact zret_i hx hb hr hlocks hK hP hD hS h dX12_feed_14
set_option maxHeartbeats 4000000 in
set_option maxRecDepth 100000 in
theorem c_X12_feed (N : Nat) (l : Launch) (dC : Nat → ClassId) (dI : Nat → Nat → Nat) (ad : Nat → Nat) (cI cJ cC : ClassId) (sz : Nat) (σ : zSt) (x1 : Int32) (x2 : Int32) (x3 : Int32) (x4 : Int32) (x5 : Int32) (Q : Int32 → zSt → Prop) (h : w_X12_feed N x1 x2 x3 x4 x5 σ Q) : Met l yX12_feed vs_X12_feed rm_X12_feed (va_Pc [.ref (ad 0), .int x1, .int x2, .int x3, .int x4, .int x5] (zPc (dC, dI) (m_ty cI cJ cC) (m_W ad cI cJ cC) sz σ)) (zQi (dC, dI) (m_ty cI cJ cC) (m_W ad cI cJ cC) (zAW m_n ad sz) Q) 0 0 (zAW m_n ad sz) := by
  refine Met.ofW (cc := cX12_feed) (maxL := 8) (ret := (some .int)) (by decide) rfl ?_
  intro p e s m args below meth c s₁ B hml hv
  obtain ⟨rfl, hsz, hP, hK, hD0⟩ := hv
  subst hsz
  have C0 : zCx p s m meth c _ RX12 cX12_feed 8 (some .int) vs_X12_feed := ⟨B.exec, B.bytes, hml, B.returns, findClass_of_methodNamed B.named, atoms_spec (ws := vs_X12_feed) B.pre, B.notSynchronized⟩
  have hD := m_D0 (n0 := s.heap.size) hD0
  have hl := lv_entry ([.ref (ad 0), .int x1, .int x2, .int x3, .int x4, .int x5]) (n := 8) (Nat.le_of_ble_eq_true rfl)
  rw [lg_entry_eq]
  generalize (lg_sl ([.ref (ad 0), .int x1, .int x2, .int x3, .int x4, .int x5]) ++ List.replicate (8 - (lg_sl ([.ref (ad 0), .int x1, .int x2, .int x3, .int x4, .int x5])).length) Slot.unset).toArray = ls at hl ⊢
  exact t_X12_feed_0 C0 hK N x1 x2 x3 x4 x5 σ _ _ ls h hP hD va_S.rf hl
theorem k_X12_feed (N : Nat) {R : Room} {H : Heap} {locs : List Loc} {cells slots : Nat} {Q2 : State → Prop} {cc : ByteArray} {nL pc index : Nat} {ls : Array Slot} {rest : List Value} {own : String} {c0 : Cond} {σ : zSt} {x1 : Int32} {x2 : Int32} {x3 : Int32} {x4 : Int32} {x5 : Int32} {Q : Int32 → zSt → Prop} (S0 : CallFix p m c cc nL s args (c0 :: zT) own) (hml : Cond.methodLink own index yX12_feed ∈ zT) (hR : rm_X12_feed.frames + 1 ≤ R.frames ∧ 8 + (8 + 11) + rm_X12_feed.locals ≤ R.locals) (h : w_X12_feed N x1 x2 x3 x4 x5 σ Q) (hK : va_K (dC, dI) vwCl (m_ty cI cJ cC) s) (hP : va_P (dC, dI) vwCl (m_W ad cI cJ cC σ) H) (hD : va_D (zAW m_n ad s.heap.size) (m_W ad cI cJ cC σ)) (hS : va_S (zAW m_n ad s.heap.size) s.heap H locs) (hsz : ls.size = nL) (hW : (rest.map fun v => v.category).sum ≤ 8) (hcs : cells ≤ R.cells ∧ slots ≤ R.slots) (hdg : decode cc pc = .ok (.invokevirtual index, 3)) (kk : ∀ (r : Int32) (τ : zSt) (H1 : Heap) (locs1 : List Loc), Q r τ → va_P (dC, dI) vwCl (m_W ad cI cJ cC τ) H1 → va_D (zAW m_n ad s.heap.size) (m_W ad cI cJ cC τ) → va_S (zAW m_n ad s.heap.size) s.heap H1 locs1 → W p l e R s m args below meth c H1 locs1 cells slots Q2 (F0 m (pc + 3) ls (.int r :: rest))) : W p l e R s m args below meth c H locs cells slots Q2 (F0 m pc ls (.int x5 :: .int x4 :: .int x3 :: .int x2 :: .int x1 :: .ref (ad 0) :: rest)) :=
  zcv_i (T := TX12) (N' := 83) (k := 0) (ci := 12) (fs := m_f0 ad σ) [.int x1, .int x2, .int x3, .int x4, .int x5] S0 (c_X12_feed N l dC dI ad cI cJ cC H.size σ x1 x2 x3 x4 x5 Q h) (cw_X12_feed S0.2.2.2.2 hml rfl rfl hR) rfl rfl hK hP hD hS rfl hsz hW rfl hcs hdg kk
end q14
section q14
def w_X12_end (N : Nat) (x1 : Int32) (σ : zSt) (Q : Int32 → zSt → Prop) : Prop :=
  (x1 < 0 → Q (0 : Int32) σ) ∧ (¬ x1 < 0 → (x1 ≤ (σ.1 0) → ∀ τ1 : zSt, τ1 = zI σ 0 x1 → Q (1 : Int32) τ1) ∧ (¬ x1 ≤ (σ.1 0) → Q (0 : Int32) σ))
variable {p : Program} {l : Launch} {e : Env} {s : State} {m : MethodId} {args : Array Value} {below : List Frame} {meth : Method} {c : Code} {dC : Nat → ClassId} {dI : Nat → Nat → Nat} {ad : Nat → Nat} {cI cJ cC : ClassId}
set_option maxHeartbeats 4000000 in
set_option maxRecDepth 100000 in
theorem t_X12_end_0 (C0 : zCx p s m meth c args RX12 cX12_end 2 (some .boolean) vs_X12_end) (hK : va_K (dC, dI) vwCl (m_ty cI cJ cC) s) (N : Nat) {Q : Int32 → zSt → Prop} : ∀ (x1 : Int32) (σ : zSt) (H : Heap) (locs : List Loc) (ls : Array Slot), w_X12_end N x1 σ Q → va_P (dC, dI) vwCl (m_W ad cI cJ cC σ) H → va_D (zAW m_n ad s.heap.size) (m_W ad cI cJ cC σ) → va_S (zAW m_n ad s.heap.size) s.heap H locs → lv_has ls 2 [(0, .ref (ad 0)), (1, .int x1)] → W p l e rm_X12_end s m args below meth c H locs 0 0 (MQ below (zQi (dC, dI) (m_ty cI cJ cC) (m_W ad cI cJ cC) (zAW m_n ad s.heap.size) Q) args s 0 0 (zAW m_n ad s.heap.size)) (F0 m 0 ls []) := by
  obtain ⟨hx, hb, hml, hr, hown, hts, hlocks⟩ := id C0
  intro x1 σ H locs ls h hP hD hS hl
  unfold w_X12_end at h
  refine lv_iload_n hx hb dX12_end_0 rfl (lv_at hl 1 rfl) ?_
  refine lv_if_lt (tgt := 12) hx hb dX12_end_1 (by decide) (fun hc => ?_) (fun hc => ?_)
  · have h := h.1 hc
    refine lv_iconst (v := (0 : Int32)) hx hb dX12_end_12 (by decide) ?_
    exact zret_z hx hb hr hlocks hK hP hD hS zb_0 h dX12_end_13
  · have h := h.2 hc
    refine lv_iload_n hx hb dX12_end_4 rfl (lv_at hl 1 rfl) ?_
    refine lv_aload_n hx hb dX12_end_5 rfl (lv_at hl 0 rfl) ?_
    refine mg_0_1 hx hb hts hown hK hP mw_834 dX12_end_6 ?_
    refine lv_icmp_le (tgt := 14) hx hb dX12_end_9 (by decide) (fun hc => ?_) (fun hc => ?_)
    · have h := h.1 hc
      refine lv_aload_n hx hb dX12_end_14 rfl (lv_at hl 0 rfl) ?_
      refine lv_iload_n hx hb dX12_end_15 rfl (lv_at hl 1 rfl) ?_
      refine mp_0_1 hx hb hts hown hK hP hD hS mw_834 dX12_end_16 (fun τ1 H locs eτ1 hP hD hS => ?_)
      have h := h τ1 eτ1
      refine lv_iconst (v := (1 : Int32)) hx hb dX12_end_19 (by decide) ?_
      exact zret_z hx hb hr hlocks hK hP hD hS zb_1 h dX12_end_20
    · have h := h.2 hc
      refine lv_iconst (v := (0 : Int32)) hx hb dX12_end_12 (by decide) ?_
      exact zret_z hx hb hr hlocks hK hP hD hS zb_0 h dX12_end_13
set_option maxHeartbeats 4000000 in
set_option maxRecDepth 100000 in
theorem c_X12_end (N : Nat) (l : Launch) (dC : Nat → ClassId) (dI : Nat → Nat → Nat) (ad : Nat → Nat) (cI cJ cC : ClassId) (sz : Nat) (σ : zSt) (x1 : Int32) (Q : Int32 → zSt → Prop) (h : w_X12_end N x1 σ Q) : Met l yX12_end vs_X12_end rm_X12_end (va_Pc [.ref (ad 0), .int x1] (zPc (dC, dI) (m_ty cI cJ cC) (m_W ad cI cJ cC) sz σ)) (zQi (dC, dI) (m_ty cI cJ cC) (m_W ad cI cJ cC) (zAW m_n ad sz) Q) 0 0 (zAW m_n ad sz) := by
  refine Met.ofW (cc := cX12_end) (maxL := 2) (ret := (some .boolean)) (by decide) rfl ?_
  intro p e s m args below meth c s₁ B hml hv
  obtain ⟨rfl, hsz, hP, hK, hD0⟩ := hv
  subst hsz
  have C0 : zCx p s m meth c _ RX12 cX12_end 2 (some .boolean) vs_X12_end := ⟨B.exec, B.bytes, hml, B.returns, findClass_of_methodNamed B.named, atoms_spec (ws := vs_X12_end) B.pre, B.notSynchronized⟩
  have hD := m_D0 (n0 := s.heap.size) hD0
  have hl := lv_entry ([.ref (ad 0), .int x1]) (n := 2) (Nat.le_of_ble_eq_true rfl)
  rw [lg_entry_eq]
  generalize (lg_sl ([.ref (ad 0), .int x1]) ++ List.replicate (2 - (lg_sl ([.ref (ad 0), .int x1])).length) Slot.unset).toArray = ls at hl ⊢
  exact t_X12_end_0 C0 hK N x1 σ _ _ ls h hP hD va_S.rf hl
theorem k_X12_end (N : Nat) {R : Room} {H : Heap} {locs : List Loc} {cells slots : Nat} {Q2 : State → Prop} {cc : ByteArray} {nL pc index : Nat} {ls : Array Slot} {rest : List Value} {own : String} {c0 : Cond} {σ : zSt} {x1 : Int32} {Q : Int32 → zSt → Prop} (S0 : CallFix p m c cc nL s args (c0 :: zT) own) (hml : Cond.methodLink own index yX12_end ∈ zT) (hR : rm_X12_end.frames + 1 ≤ R.frames ∧ 8 + (2 + 11) + rm_X12_end.locals ≤ R.locals) (h : w_X12_end N x1 σ Q) (hK : va_K (dC, dI) vwCl (m_ty cI cJ cC) s) (hP : va_P (dC, dI) vwCl (m_W ad cI cJ cC σ) H) (hD : va_D (zAW m_n ad s.heap.size) (m_W ad cI cJ cC σ)) (hS : va_S (zAW m_n ad s.heap.size) s.heap H locs) (hsz : ls.size = nL) (hW : (rest.map fun v => v.category).sum ≤ 8) (hcs : cells ≤ R.cells ∧ slots ≤ R.slots) (hdg : decode cc pc = .ok (.invokevirtual index, 3)) (kk : ∀ (r : Int32) (τ : zSt) (H1 : Heap) (locs1 : List Loc), Q r τ → va_P (dC, dI) vwCl (m_W ad cI cJ cC τ) H1 → va_D (zAW m_n ad s.heap.size) (m_W ad cI cJ cC τ) → va_S (zAW m_n ad s.heap.size) s.heap H1 locs1 → W p l e R s m args below meth c H1 locs1 cells slots Q2 (F0 m (pc + 3) ls (.int r :: rest))) : W p l e R s m args below meth c H locs cells slots Q2 (F0 m pc ls (.int x1 :: .ref (ad 0) :: rest)) :=
  zcv_i (T := TX12) (N' := 83) (k := 0) (ci := 12) (fs := m_f0 ad σ) [.int x1] S0 (c_X12_end N l dC dI ad cI cJ cC H.size σ x1 Q h) (cw_X12_end S0.2.2.2.2 hml rfl rfl hR) rfl rfl hK hP hD hS rfl hsz hW rfl hcs hdg kk
end q14
section q14
def b_X12_stands_187 (N : Nat) (k_187 : Int32 → zSt → Prop) (Q : zSt → Prop) (x1 : Int32) (σ : zSt) : Prop :=
  ((σ.1 9) ≤ x1 → Q σ) ∧ (¬ (σ.1 9) ≤ x1 → (vp_in x1 1800) ∧ ((vp_in ((900 : Int32) + x1) 1800) ∧ (∀ τ1 : zSt, τ1 = zA σ 10 (upd (σ.2.2.1 10) (((900 : Int32) + x1).toNatClampNeg) (σ.2.2.1 10 x1.toNatClampNeg)) → ∀ v2 : Int32, v2 = x1 + (1 : Int32) → k_187 v2 τ1)))
def w_X12_stands_187 (N : Nat) (Q : zSt → Prop) : Nat → Int32 → zSt → Prop
  | 0 => fun _ _ => False
  | f + 1 => b_X12_stands_187 N (w_X12_stands_187 N  Q f) Q
def b_X12_stands_109 (N : Nat) (k_109 : Int32 → zSt → Prop) (Q : zSt → Prop) (x1 : Int32) (σ : zSt) : Prop :=
  ((σ.2.2.1 4 0) ≤ x1 → w_X12_stands_187 N Q N (0 : Int32) σ) ∧ (¬ (σ.2.2.1 4 0) ≤ x1 → (vp_in x1 40) ∧ ((vp_in ((20 : Int32) + x1) 40) ∧ (∀ τ1 : zSt, τ1 = zA σ 5 (upd (σ.2.2.1 5) (((20 : Int32) + x1).toNatClampNeg) (σ.2.2.1 5 x1.toNatClampNeg)) → (vp_in x1 40) ∧ ((vp_in ((20 : Int32) + x1) 40) ∧ (∀ τ2 : zSt, τ2 = zA τ1 6 (upd (τ1.2.2.1 6) (((20 : Int32) + x1).toNatClampNeg) (τ1.2.2.1 6 x1.toNatClampNeg)) → (vp_in x1 40) ∧ ((vp_in ((20 : Int32) + x1) 40) ∧ (∀ τ3 : zSt, τ3 = zA τ2 7 (upd (τ2.2.2.1 7) (((20 : Int32) + x1).toNatClampNeg) (τ2.2.2.1 7 x1.toNatClampNeg)) → (vp_in x1 40) ∧ ((vp_in ((20 : Int32) + x1) 40) ∧ (∀ τ4 : zSt, τ4 = zA τ3 8 (upd (τ3.2.2.1 8) (((20 : Int32) + x1).toNatClampNeg) (τ3.2.2.1 8 x1.toNatClampNeg)) → ∀ v5 : Int32, v5 = x1 + (1 : Int32) → k_109 v5 τ4)))))))))
def w_X12_stands_109 (N : Nat) (Q : zSt → Prop) : Nat → Int32 → zSt → Prop
  | 0 => fun _ _ => False
  | f + 1 => b_X12_stands_109 N (w_X12_stands_109 N  Q f) Q
def b_X12_stands_50 (N : Nat) (k_50 : Int32 → zSt → Prop) (Q : zSt → Prop) (x1 : Int32) (σ : zSt) : Prop :=
  ((10 : Int32) ≤ x1 → w_X12_stands_109 N Q N (0 : Int32) σ) ∧ (¬ (10 : Int32) ≤ x1 → (vp_in x1 20) ∧ ((vp_in ((10 : Int32) + x1) 20) ∧ (∀ τ1 : zSt, τ1 = zB σ 0 (vp_updL (σ.2.2.2 0) (((10 : Int32) + x1).toNatClampNeg) (σ.2.2.2 0 x1.toNatClampNeg)) → (vp_in x1 20) ∧ ((vp_in ((10 : Int32) + x1) 20) ∧ (∀ τ2 : zSt, τ2 = zA τ1 2 (upd (τ1.2.2.1 2) (((10 : Int32) + x1).toNatClampNeg) (τ1.2.2.1 2 x1.toNatClampNeg)) → (vp_in x1 20) ∧ ((vp_in ((10 : Int32) + x1) 20) ∧ (∀ τ3 : zSt, τ3 = zA τ2 3 (upd (τ2.2.2.1 3) (((10 : Int32) + x1).toNatClampNeg) (τ2.2.2.1 3 x1.toNatClampNeg)) → ∀ v4 : Int32, v4 = x1 + (1 : Int32) → k_50 v4 τ3)))))))
def w_X12_stands_50 (N : Nat) (Q : zSt → Prop) : Nat → Int32 → zSt → Prop
  | 0 => fun _ _ => False
  | f + 1 => b_X12_stands_50 N (w_X12_stands_50 N  Q f) Q
def w_X12_stands (N : Nat)  (σ : zSt) (Q : zSt → Prop) : Prop :=
  ∀ τ1 : zSt, τ1 = zA σ 1 (upd (σ.2.2.1 1) 1 (σ.2.2.1 1 0)) → ∀ τ2 : zSt, τ2 = zA τ1 4 (upd (τ1.2.2.1 4) 1 (τ1.2.2.1 4 0)) → ∀ τ3 : zSt, τ3 = zA τ2 9 (upd (τ2.2.2.1 9) 1 (τ2.2.2.1 9 0)) → ∀ τ4 : zSt, τ4 = zB τ3 1 (vp_updL (τ3.2.2.2 1) 1 (τ3.2.2.2 1 0)) → w_X12_stands_50 N Q N (0 : Int32) τ4
variable {p : Program} {l : Launch} {e : Env} {s : State} {m : MethodId} {args : Array Value} {below : List Frame} {meth : Method} {c : Code} {dC : Nat → ClassId} {dI : Nat → Nat → Nat} {ad : Nat → Nat} {cI cJ cC : ClassId}
set_option maxHeartbeats 4000000 in
set_option maxRecDepth 100000 in
theorem tb_X12_stands_187 (C0 : zCx p s m meth c args RX12 cX12_stands 2 none vs_X12_stands) (hK : va_K (dC, dI) vwCl (m_ty cI cJ cC) s) (N : Nat) {Q : zSt → Prop} {k_187 : Int32 → zSt → Prop} (hk_187 : ∀ (x1 : Int32) (σ : zSt) (H : Heap) (locs : List Loc) (ls : Array Slot), k_187 x1 σ → va_P (dC, dI) vwCl (m_W ad cI cJ cC σ) H → va_D (zAW m_n ad s.heap.size) (m_W ad cI cJ cC σ) → va_S (zAW m_n ad s.heap.size) s.heap H locs → lv_has ls 2 [(0, .ref (ad 0)), (1, .int x1)] → W p l e rm_X12_stands s m args below meth c H locs 0 0 (MQ below (zQv (dC, dI) (m_ty cI cJ cC) (m_W ad cI cJ cC) (zAW m_n ad s.heap.size) Q) args s 0 0 (zAW m_n ad s.heap.size)) (F0 m 187 ls [])) : ∀ (x1 : Int32) (σ : zSt) (H : Heap) (locs : List Loc) (ls : Array Slot), b_X12_stands_187 N k_187 Q x1 σ → va_P (dC, dI) vwCl (m_W ad cI cJ cC σ) H → va_D (zAW m_n ad s.heap.size) (m_W ad cI cJ cC σ) → va_S (zAW m_n ad s.heap.size) s.heap H locs → lv_has ls 2 [(0, .ref (ad 0)), (1, .int x1)] → W p l e rm_X12_stands s m args below meth c H locs 0 0 (MQ below (zQv (dC, dI) (m_ty cI cJ cC) (m_W ad cI cJ cC) (zAW m_n ad s.heap.size) Q) args s 0 0 (zAW m_n ad s.heap.size)) (F0 m 187 ls []) := by
  obtain ⟨hx, hb, hml, hr, hown, hts, hlocks⟩ := id C0
  intro x1 σ H locs ls h hP hD hS hl
  unfold b_X12_stands_187 at h
  refine lv_iload_n hx hb dX12_stands_187 rfl (lv_at hl 1 rfl) ?_
  refine lv_aload_n hx hb dX12_stands_188 rfl (lv_at hl 0 rfl) ?_
  refine mg_0_41 hx hb hts hown hK hP mw_874 dX12_stands_189 ?_
  refine lv_icmp_ge (tgt := 217) hx hb dX12_stands_192 (by decide) (fun hc => ?_) (fun hc => ?_)
  · have h := h.1 hc
    exact zret_v hx hb hr hlocks hK hP hD hS h dX12_stands_217
  · have h := h.2 hc
    refine lv_aload_n hx hb dX12_stands_195 rfl (lv_at hl 0 rfl) ?_
    refine mg_0_40 hx hb hts hown hK hP mw_873 dX12_stands_196 ?_
    refine lv_sipush (v := (900 : Int32)) hx hb dX12_stands_199 (by decide) ?_
    refine lv_iload_n hx hb dX12_stands_202 rfl (lv_at hl 1 rfl) ?_
    refine lv_iadd hx hb dX12_stands_203 ?_
    refine lv_aload_n hx hb dX12_stands_204 rfl (lv_at hl 0 rfl) ?_
    refine mg_0_40 hx hb hts hown hK hP mw_873 dX12_stands_205 ?_
    refine lv_iload_n hx hb dX12_stands_208 rfl (lv_at hl 1 rfl) ?_
    refine ma_13 hx hb hK hP h.1 rfl dX12_stands_209 ?_
    have h := h.2
    refine ms_13 hx hb hK hP hD hS h.1 rfl dX12_stands_210 (fun τ1 H locs eτ1 hP hD hS => ?_)
    have h := h.2
    have h := h τ1 eτ1
    obtain ⟨v2, ev2⟩ : ∃ z : Int32, z = x1 + (1 : Int32) := ⟨_, rfl⟩
    have h := h v2 ev2
    refine lv_iinc (v := v2) (lv' := [(1, .int v2), (0, .ref (ad 0))]) hx hb dX12_stands_211 hl (k := 1) rfl (by rw [ev2]; rfl) (by decide) rfl (fun ls hl => ?_)
    refine lv_goto (tgt := 187) hx hb dX12_stands_214 (by decide) ?_
    exact hk_187 v2 τ1 _ _ _ h hP hD hS (lv_sub hl [1, 0] rfl)
set_option maxHeartbeats 4000000 in
set_option maxRecDepth 100000 in
theorem t_X12_stands_187 (C0 : zCx p s m meth c args RX12 cX12_stands 2 none vs_X12_stands) (hK : va_K (dC, dI) vwCl (m_ty cI cJ cC) s) (N : Nat) {Q : zSt → Prop} : ∀ (f : Nat) (x1 : Int32) (σ : zSt) (H : Heap) (locs : List Loc) (ls : Array Slot), w_X12_stands_187 N  Q f x1 σ → va_P (dC, dI) vwCl (m_W ad cI cJ cC σ) H → va_D (zAW m_n ad s.heap.size) (m_W ad cI cJ cC σ) → va_S (zAW m_n ad s.heap.size) s.heap H locs → lv_has ls 2 [(0, .ref (ad 0)), (1, .int x1)] → W p l e rm_X12_stands s m args below meth c H locs 0 0 (MQ below (zQv (dC, dI) (m_ty cI cJ cC) (m_W ad cI cJ cC) (zAW m_n ad s.heap.size) Q) args s 0 0 (zAW m_n ad s.heap.size)) (F0 m 187 ls []) := by
  intro f
  induction f with
  | zero => intro x1 σ H locs ls h; exact h.elim
  | succ f ih =>
    intro x1 σ H locs ls h hP hD hS hl
    exact tb_X12_stands_187 C0 hK N  (k_187 := w_X12_stands_187 N  Q f) ih x1 σ H locs ls h hP hD hS hl
set_option maxHeartbeats 4000000 in
set_option maxRecDepth 100000 in
theorem tb_X12_stands_109 (C0 : zCx p s m meth c args RX12 cX12_stands 2 none vs_X12_stands) (hK : va_K (dC, dI) vwCl (m_ty cI cJ cC) s) (N : Nat) {Q : zSt → Prop} {k_109 : Int32 → zSt → Prop} (hk_109 : ∀ (x1 : Int32) (σ : zSt) (H : Heap) (locs : List Loc) (ls : Array Slot), k_109 x1 σ → va_P (dC, dI) vwCl (m_W ad cI cJ cC σ) H → va_D (zAW m_n ad s.heap.size) (m_W ad cI cJ cC σ) → va_S (zAW m_n ad s.heap.size) s.heap H locs → lv_has ls 2 [(0, .ref (ad 0)), (1, .int x1)] → W p l e rm_X12_stands s m args below meth c H locs 0 0 (MQ below (zQv (dC, dI) (m_ty cI cJ cC) (m_W ad cI cJ cC) (zAW m_n ad s.heap.size) Q) args s 0 0 (zAW m_n ad s.heap.size)) (F0 m 109 ls [])) : ∀ (x1 : Int32) (σ : zSt) (H : Heap) (locs : List Loc) (ls : Array Slot), b_X12_stands_109 N k_109 Q x1 σ → va_P (dC, dI) vwCl (m_W ad cI cJ cC σ) H → va_D (zAW m_n ad s.heap.size) (m_W ad cI cJ cC σ) → va_S (zAW m_n ad s.heap.size) s.heap H locs → lv_has ls 2 [(0, .ref (ad 0)), (1, .int x1)] → W p l e rm_X12_stands s m args below meth c H locs 0 0 (MQ below (zQv (dC, dI) (m_ty cI cJ cC) (m_W ad cI cJ cC) (zAW m_n ad s.heap.size) Q) args s 0 0 (zAW m_n ad s.heap.size)) (F0 m 109 ls []) := by
  obtain ⟨hx, hb, hml, hr, hown, hts, hlocks⟩ := id C0
  intro x1 σ H locs ls h hP hD hS hl
  unfold b_X12_stands_109 at h
  refine lv_iload_n hx hb dX12_stands_109 rfl (lv_at hl 1 rfl) ?_
  refine lv_aload_n hx hb dX12_stands_110 rfl (lv_at hl 0 rfl) ?_
  refine mg_0_33 hx hb hts hown hK hP mw_866 dX12_stands_111 ?_
  refine lv_iconst (v := (0 : Int32)) hx hb dX12_stands_114 (by decide) ?_
  refine ma_6 (j := 0) hx hb hK hP (zin (by decide)) (by decide) dX12_stands_115 ?_
  refine lv_icmp_ge (tgt := 185) hx hb dX12_stands_116 (by decide) (fun hc => ?_) (fun hc => ?_)
  · have h := h.1 hc
    refine lv_iconst (v := (0 : Int32)) hx hb dX12_stands_185 (by decide) ?_
    refine lv_istore_n (lv' := [(1, .int (0 : Int32)), (0, .ref (ad 0))]) hx hb dX12_stands_186 rfl hl (by decide) rfl (fun ls hl => ?_)
    exact t_X12_stands_187 C0 hK N  N (0 : Int32) σ _ _ _ h hP hD hS (lv_sub hl [1, 0] rfl)
  · have h := h.2 hc
    refine lv_aload_n hx hb dX12_stands_119 rfl (lv_at hl 0 rfl) ?_
    refine mg_0_34 hx hb hts hown hK hP mw_867 dX12_stands_120 ?_
    refine lv_bipush (v := (20 : Int32)) hx hb dX12_stands_123 (by decide) ?_
    refine lv_iload_n hx hb dX12_stands_125 rfl (lv_at hl 1 rfl) ?_
    refine lv_iadd hx hb dX12_stands_126 ?_
    refine lv_aload_n hx hb dX12_stands_127 rfl (lv_at hl 0 rfl) ?_
    refine mg_0_34 hx hb hts hown hK hP mw_867 dX12_stands_128 ?_
    refine lv_iload_n hx hb dX12_stands_131 rfl (lv_at hl 1 rfl) ?_
    refine ma_7 hx hb hK hP h.1 rfl dX12_stands_132 ?_
    have h := h.2
    refine ms_7 hx hb hK hP hD hS h.1 rfl dX12_stands_133 (fun τ1 H locs eτ1 hP hD hS => ?_)
    have h := h.2
    have h := h τ1 eτ1
    refine lv_aload_n hx hb dX12_stands_134 rfl (lv_at hl 0 rfl) ?_
    refine mg_0_35 hx hb hts hown hK hP mw_868 dX12_stands_135 ?_
    refine lv_bipush (v := (20 : Int32)) hx hb dX12_stands_138 (by decide) ?_
    refine lv_iload_n hx hb dX12_stands_140 rfl (lv_at hl 1 rfl) ?_
    refine lv_iadd hx hb dX12_stands_141 ?_
    refine lv_aload_n hx hb dX12_stands_142 rfl (lv_at hl 0 rfl) ?_
    refine mg_0_35 hx hb hts hown hK hP mw_868 dX12_stands_143 ?_
    refine lv_iload_n hx hb dX12_stands_146 rfl (lv_at hl 1 rfl) ?_
    refine ma_8 hx hb hK hP h.1 rfl dX12_stands_147 ?_
    have h := h.2
    refine ms_8 hx hb hK hP hD hS h.1 rfl dX12_stands_148 (fun τ2 H locs eτ2 hP hD hS => ?_)
    have h := h.2
    have h := h τ2 eτ2
    refine lv_aload_n hx hb dX12_stands_149 rfl (lv_at hl 0 rfl) ?_
    refine mg_0_36 hx hb hts hown hK hP mw_869 dX12_stands_150 ?_
    refine lv_bipush (v := (20 : Int32)) hx hb dX12_stands_153 (by decide) ?_
    refine lv_iload_n hx hb dX12_stands_155 rfl (lv_at hl 1 rfl) ?_
    refine lv_iadd hx hb dX12_stands_156 ?_
    refine lv_aload_n hx hb dX12_stands_157 rfl (lv_at hl 0 rfl) ?_
    refine mg_0_36 hx hb hts hown hK hP mw_869 dX12_stands_158 ?_
    refine lv_iload_n hx hb dX12_stands_161 rfl (lv_at hl 1 rfl) ?_
    refine ma_9 hx hb hK hP h.1 rfl dX12_stands_162 ?_
    have h := h.2
    refine ms_9 hx hb hK hP hD hS h.1 rfl dX12_stands_163 (fun τ3 H locs eτ3 hP hD hS => ?_)
    have h := h.2
    have h := h τ3 eτ3
    refine lv_aload_n hx hb dX12_stands_164 rfl (lv_at hl 0 rfl) ?_
    refine mg_0_37 hx hb hts hown hK hP mw_870 dX12_stands_165 ?_
    refine lv_bipush (v := (20 : Int32)) hx hb dX12_stands_168 (by decide) ?_
    refine lv_iload_n hx hb dX12_stands_170 rfl (lv_at hl 1 rfl) ?_
    refine lv_iadd hx hb dX12_stands_171 ?_
    refine lv_aload_n hx hb dX12_stands_172 rfl (lv_at hl 0 rfl) ?_
    refine mg_0_37 hx hb hts hown hK hP mw_870 dX12_stands_173 ?_
    refine lv_iload_n hx hb dX12_stands_176 rfl (lv_at hl 1 rfl) ?_
    refine ma_10 hx hb hK hP h.1 rfl dX12_stands_177 ?_
    have h := h.2
    refine ms_10 hx hb hK hP hD hS h.1 rfl dX12_stands_178 (fun τ4 H locs eτ4 hP hD hS => ?_)
    have h := h.2
    have h := h τ4 eτ4
    obtain ⟨v5, ev5⟩ : ∃ z : Int32, z = x1 + (1 : Int32) := ⟨_, rfl⟩
    have h := h v5 ev5
    refine lv_iinc (v := v5) (lv' := [(1, .int v5), (0, .ref (ad 0))]) hx hb dX12_stands_179 hl (k := 1) rfl (by rw [ev5]; rfl) (by decide) rfl (fun ls hl => ?_)
    refine lv_goto (tgt := 109) hx hb dX12_stands_182 (by decide) ?_
    exact hk_109 v5 τ4 _ _ _ h hP hD hS (lv_sub hl [1, 0] rfl)
set_option maxHeartbeats 4000000 in
set_option maxRecDepth 100000 in
theorem t_X12_stands_109 (C0 : zCx p s m meth c args RX12 cX12_stands 2 none vs_X12_stands) (hK : va_K (dC, dI) vwCl (m_ty cI cJ cC) s) (N : Nat) {Q : zSt → Prop} : ∀ (f : Nat) (x1 : Int32) (σ : zSt) (H : Heap) (locs : List Loc) (ls : Array Slot), w_X12_stands_109 N  Q f x1 σ → va_P (dC, dI) vwCl (m_W ad cI cJ cC σ) H → va_D (zAW m_n ad s.heap.size) (m_W ad cI cJ cC σ) → va_S (zAW m_n ad s.heap.size) s.heap H locs → lv_has ls 2 [(0, .ref (ad 0)), (1, .int x1)] → W p l e rm_X12_stands s m args below meth c H locs 0 0 (MQ below (zQv (dC, dI) (m_ty cI cJ cC) (m_W ad cI cJ cC) (zAW m_n ad s.heap.size) Q) args s 0 0 (zAW m_n ad s.heap.size)) (F0 m 109 ls []) := by
  intro f
  induction f with
  | zero => intro x1 σ H locs ls h; exact h.elim
  | succ f ih =>
    intro x1 σ H locs ls h hP hD hS hl
    exact tb_X12_stands_109 C0 hK N  (k_109 := w_X12_stands_109 N  Q f) ih x1 σ H locs ls h hP hD hS hl
set_option maxHeartbeats 4000000 in
set_option maxRecDepth 100000 in
theorem tb_X12_stands_50 (C0 : zCx p s m meth c args RX12 cX12_stands 2 none vs_X12_stands) (hK : va_K (dC, dI) vwCl (m_ty cI cJ cC) s) (N : Nat) {Q : zSt → Prop} {k_50 : Int32 → zSt → Prop} (hk_50 : ∀ (x1 : Int32) (σ : zSt) (H : Heap) (locs : List Loc) (ls : Array Slot), k_50 x1 σ → va_P (dC, dI) vwCl (m_W ad cI cJ cC σ) H → va_D (zAW m_n ad s.heap.size) (m_W ad cI cJ cC σ) → va_S (zAW m_n ad s.heap.size) s.heap H locs → lv_has ls 2 [(0, .ref (ad 0)), (1, .int x1)] → W p l e rm_X12_stands s m args below meth c H locs 0 0 (MQ below (zQv (dC, dI) (m_ty cI cJ cC) (m_W ad cI cJ cC) (zAW m_n ad s.heap.size) Q) args s 0 0 (zAW m_n ad s.heap.size)) (F0 m 50 ls [])) : ∀ (x1 : Int32) (σ : zSt) (H : Heap) (locs : List Loc) (ls : Array Slot), b_X12_stands_50 N k_50 Q x1 σ → va_P (dC, dI) vwCl (m_W ad cI cJ cC σ) H → va_D (zAW m_n ad s.heap.size) (m_W ad cI cJ cC σ) → va_S (zAW m_n ad s.heap.size) s.heap H locs → lv_has ls 2 [(0, .ref (ad 0)), (1, .int x1)] → W p l e rm_X12_stands s m args below meth c H locs 0 0 (MQ below (zQv (dC, dI) (m_ty cI cJ cC) (m_W ad cI cJ cC) (zAW m_n ad s.heap.size) Q) args s 0 0 (zAW m_n ad s.heap.size)) (F0 m 50 ls []) := by
  obtain ⟨hx, hb, hml, hr, hown, hts, hlocks⟩ := id C0
  intro x1 σ H locs ls h hP hD hS hl
  unfold b_X12_stands_50 at h
  refine lv_iload_n hx hb dX12_stands_50 rfl (lv_at hl 1 rfl) ?_
  refine lv_bipush (v := (10 : Int32)) hx hb dX12_stands_51 (by decide) ?_
  refine lv_icmp_ge (tgt := 107) hx hb dX12_stands_53 (by decide) (fun hc => ?_) (fun hc => ?_)
  · have h := h.1 hc
    refine lv_iconst (v := (0 : Int32)) hx hb dX12_stands_107 (by decide) ?_
    refine lv_istore_n (lv' := [(1, .int (0 : Int32)), (0, .ref (ad 0))]) hx hb dX12_stands_108 rfl hl (by decide) rfl (fun ls hl => ?_)
    exact t_X12_stands_109 C0 hK N  N (0 : Int32) σ _ _ _ h hP hD hS (lv_sub hl [1, 0] rfl)
  · have h := h.2 hc
    refine lv_aload_n hx hb dX12_stands_56 rfl (lv_at hl 0 rfl) ?_
    refine mg_0_30 hx hb hts hown hK hP mw_863 dX12_stands_57 ?_
    refine lv_bipush (v := (10 : Int32)) hx hb dX12_stands_60 (by decide) ?_
    refine lv_iload_n hx hb dX12_stands_62 rfl (lv_at hl 1 rfl) ?_
    refine lv_iadd hx hb dX12_stands_63 ?_
    refine lv_aload_n hx hb dX12_stands_64 rfl (lv_at hl 0 rfl) ?_
    refine mg_0_30 hx hb hts hown hK hP mw_863 dX12_stands_65 ?_
    refine lv_iload_n hx hb dX12_stands_68 rfl (lv_at hl 1 rfl) ?_
    refine ma_3 hx hb hK hP h.1 rfl dX12_stands_69 ?_
    have h := h.2
    refine ms_3 hx hb hK hP hD hS h.1 rfl dX12_stands_70 (fun τ1 H locs eτ1 hP hD hS => ?_)
    have h := h.2
    have h := h τ1 eτ1
    refine lv_aload_n hx hb dX12_stands_71 rfl (lv_at hl 0 rfl) ?_
    refine mg_0_31 hx hb hts hown hK hP mw_864 dX12_stands_72 ?_
    refine lv_bipush (v := (10 : Int32)) hx hb dX12_stands_75 (by decide) ?_
    refine lv_iload_n hx hb dX12_stands_77 rfl (lv_at hl 1 rfl) ?_
    refine lv_iadd hx hb dX12_stands_78 ?_
    refine lv_aload_n hx hb dX12_stands_79 rfl (lv_at hl 0 rfl) ?_
    refine mg_0_31 hx hb hts hown hK hP mw_864 dX12_stands_80 ?_
    refine lv_iload_n hx hb dX12_stands_83 rfl (lv_at hl 1 rfl) ?_
    refine ma_4 hx hb hK hP h.1 rfl dX12_stands_84 ?_
    have h := h.2
    refine ms_4 hx hb hK hP hD hS h.1 rfl dX12_stands_85 (fun τ2 H locs eτ2 hP hD hS => ?_)
    have h := h.2
    have h := h τ2 eτ2
    refine lv_aload_n hx hb dX12_stands_86 rfl (lv_at hl 0 rfl) ?_
    refine mg_0_32 hx hb hts hown hK hP mw_865 dX12_stands_87 ?_
    refine lv_bipush (v := (10 : Int32)) hx hb dX12_stands_90 (by decide) ?_
    refine lv_iload_n hx hb dX12_stands_92 rfl (lv_at hl 1 rfl) ?_
    refine lv_iadd hx hb dX12_stands_93 ?_
    refine lv_aload_n hx hb dX12_stands_94 rfl (lv_at hl 0 rfl) ?_
    refine mg_0_32 hx hb hts hown hK hP mw_865 dX12_stands_95 ?_
    refine lv_iload_n hx hb dX12_stands_98 rfl (lv_at hl 1 rfl) ?_
    refine ma_5 hx hb hK hP h.1 rfl dX12_stands_99 ?_
    have h := h.2
    refine ms_5 hx hb hK hP hD hS h.1 rfl dX12_stands_100 (fun τ3 H locs eτ3 hP hD hS => ?_)
    have h := h.2
    have h := h τ3 eτ3
    obtain ⟨v4, ev4⟩ : ∃ z : Int32, z = x1 + (1 : Int32) := ⟨_, rfl⟩
    have h := h v4 ev4
    refine lv_iinc (v := v4) (lv' := [(1, .int v4), (0, .ref (ad 0))]) hx hb dX12_stands_101 hl (k := 1) rfl (by rw [ev4]; rfl) (by decide) rfl (fun ls hl => ?_)
    refine lv_goto (tgt := 50) hx hb dX12_stands_104 (by decide) ?_
    exact hk_50 v4 τ3 _ _ _ h hP hD hS (lv_sub hl [1, 0] rfl)
set_option maxHeartbeats 4000000 in
set_option maxRecDepth 100000 in
theorem t_X12_stands_50 (C0 : zCx p s m meth c args RX12 cX12_stands 2 none vs_X12_stands) (hK : va_K (dC, dI) vwCl (m_ty cI cJ cC) s) (N : Nat) {Q : zSt → Prop} : ∀ (f : Nat) (x1 : Int32) (σ : zSt) (H : Heap) (locs : List Loc) (ls : Array Slot), w_X12_stands_50 N  Q f x1 σ → va_P (dC, dI) vwCl (m_W ad cI cJ cC σ) H → va_D (zAW m_n ad s.heap.size) (m_W ad cI cJ cC σ) → va_S (zAW m_n ad s.heap.size) s.heap H locs → lv_has ls 2 [(0, .ref (ad 0)), (1, .int x1)] → W p l e rm_X12_stands s m args below meth c H locs 0 0 (MQ below (zQv (dC, dI) (m_ty cI cJ cC) (m_W ad cI cJ cC) (zAW m_n ad s.heap.size) Q) args s 0 0 (zAW m_n ad s.heap.size)) (F0 m 50 ls []) := by
  intro f
  induction f with
  | zero => intro x1 σ H locs ls h; exact h.elim
  | succ f ih =>
    intro x1 σ H locs ls h hP hD hS hl
    exact tb_X12_stands_50 C0 hK N  (k_50 := w_X12_stands_50 N  Q f) ih x1 σ H locs ls h hP hD hS hl
set_option maxHeartbeats 4000000 in
set_option maxRecDepth 100000 in
theorem t_X12_stands_0 (C0 : zCx p s m meth c args RX12 cX12_stands 2 none vs_X12_stands) (hK : va_K (dC, dI) vwCl (m_ty cI cJ cC) s) (N : Nat) {Q : zSt → Prop} : ∀  (σ : zSt) (H : Heap) (locs : List Loc) (ls : Array Slot), w_X12_stands N  σ Q → va_P (dC, dI) vwCl (m_W ad cI cJ cC σ) H → va_D (zAW m_n ad s.heap.size) (m_W ad cI cJ cC σ) → va_S (zAW m_n ad s.heap.size) s.heap H locs → lv_has ls 2 [(0, .ref (ad 0))] → W p l e rm_X12_stands s m args below meth c H locs 0 0 (MQ below (zQv (dC, dI) (m_ty cI cJ cC) (m_W ad cI cJ cC) (zAW m_n ad s.heap.size) Q) args s 0 0 (zAW m_n ad s.heap.size)) (F0 m 0 ls []) := by
  obtain ⟨hx, hb, hml, hr, hown, hts, hlocks⟩ := id C0
  intro  σ H locs ls h hP hD hS hl
  unfold w_X12_stands at h
  refine lv_aload_n hx hb dX12_stands_0 rfl (lv_at hl 0 rfl) ?_
  refine mg_0_29 hx hb hts hown hK hP mw_862 dX12_stands_1 ?_
  refine lv_iconst (v := (1 : Int32)) hx hb dX12_stands_4 (by decide) ?_
  refine lv_aload_n hx hb dX12_stands_5 rfl (lv_at hl 0 rfl) ?_
  refine mg_0_29 hx hb hts hown hK hP mw_862 dX12_stands_6 ?_
  refine lv_iconst (v := (0 : Int32)) hx hb dX12_stands_9 (by decide) ?_
  refine ma_2 (j := 0) hx hb hK hP (zin (by decide)) (by decide) dX12_stands_10 ?_
  refine ms_2 (j := 1) hx hb hK hP hD hS (zin (by decide)) (by decide) dX12_stands_11 (fun τ1 H locs eτ1 hP hD hS => ?_)
  have h := h τ1 eτ1
  refine lv_aload_n hx hb dX12_stands_12 rfl (lv_at hl 0 rfl) ?_
  refine mg_0_33 hx hb hts hown hK hP mw_866 dX12_stands_13 ?_
  refine lv_iconst (v := (1 : Int32)) hx hb dX12_stands_16 (by decide) ?_
  refine lv_aload_n hx hb dX12_stands_17 rfl (lv_at hl 0 rfl) ?_
  refine mg_0_33 hx hb hts hown hK hP mw_866 dX12_stands_18 ?_
  refine lv_iconst (v := (0 : Int32)) hx hb dX12_stands_21 (by decide) ?_
  refine ma_6 (j := 0) hx hb hK hP (zin (by decide)) (by decide) dX12_stands_22 ?_
  refine ms_6 (j := 1) hx hb hK hP hD hS (zin (by decide)) (by decide) dX12_stands_23 (fun τ2 H locs eτ2 hP hD hS => ?_)
  have h := h τ2 eτ2
  refine lv_aload_n hx hb dX12_stands_24 rfl (lv_at hl 0 rfl) ?_
  refine mg_0_38 hx hb hts hown hK hP mw_871 dX12_stands_25 ?_
  refine lv_iconst (v := (1 : Int32)) hx hb dX12_stands_28 (by decide) ?_
  refine lv_aload_n hx hb dX12_stands_29 rfl (lv_at hl 0 rfl) ?_
  refine mg_0_38 hx hb hts hown hK hP mw_871 dX12_stands_30 ?_
  refine lv_iconst (v := (0 : Int32)) hx hb dX12_stands_33 (by decide) ?_
  refine ma_11 (j := 0) hx hb hK hP (zin (by decide)) (by decide) dX12_stands_34 ?_
  refine ms_11 (j := 1) hx hb hK hP hD hS (zin (by decide)) (by decide) dX12_stands_35 (fun τ3 H locs eτ3 hP hD hS => ?_)
  have h := h τ3 eτ3
  refine lv_aload_n hx hb dX12_stands_36 rfl (lv_at hl 0 rfl) ?_
  refine mg_0_39 hx hb hts hown hK hP mw_872 dX12_stands_37 ?_
  refine lv_iconst (v := (1 : Int32)) hx hb dX12_stands_40 (by decide) ?_
  refine lv_aload_n hx hb dX12_stands_41 rfl (lv_at hl 0 rfl) ?_
  refine mg_0_39 hx hb hts hown hK hP mw_872 dX12_stands_42 ?_
  refine lv_iconst (v := (0 : Int32)) hx hb dX12_stands_45 (by decide) ?_
  refine ma_12 (j := 0) hx hb hK hP (zin (by decide)) (by decide) dX12_stands_46 ?_
  refine ms_12 (j := 1) hx hb hK hP hD hS (zin (by decide)) (by decide) dX12_stands_47 (fun τ4 H locs eτ4 hP hD hS => ?_)
  have h := h τ4 eτ4
  refine lv_iconst (v := (0 : Int32)) hx hb dX12_stands_48 (by decide) ?_
  refine lv_istore_n (lv' := [(1, .int (0 : Int32)), (0, .ref (ad 0))]) hx hb dX12_stands_49 rfl hl (by decide) rfl (fun ls hl => ?_)
  exact t_X12_stands_50 C0 hK N  N (0 : Int32) τ4 _ _ _ h hP hD hS (lv_sub hl [1, 0] rfl)
set_option maxHeartbeats 4000000 in
set_option maxRecDepth 100000 in
theorem c_X12_stands (N : Nat) (l : Launch) (dC : Nat → ClassId) (dI : Nat → Nat → Nat) (ad : Nat → Nat) (cI cJ cC : ClassId) (sz : Nat) (σ : zSt)  (Q : zSt → Prop) (h : w_X12_stands N  σ Q) : Met l yX12_stands vs_X12_stands rm_X12_stands (va_Pc [.ref (ad 0)] (zPc (dC, dI) (m_ty cI cJ cC) (m_W ad cI cJ cC) sz σ)) (zQv (dC, dI) (m_ty cI cJ cC) (m_W ad cI cJ cC) (zAW m_n ad sz) Q) 0 0 (zAW m_n ad sz) := by
  refine Met.ofW (cc := cX12_stands) (maxL := 2) (ret := none) (by decide) rfl ?_
  intro p e s m args below meth c s₁ B hml hv
  obtain ⟨rfl, hsz, hP, hK, hD0⟩ := hv
  subst hsz
  have C0 : zCx p s m meth c _ RX12 cX12_stands 2 none vs_X12_stands := ⟨B.exec, B.bytes, hml, B.returns, findClass_of_methodNamed B.named, atoms_spec (ws := vs_X12_stands) B.pre, B.notSynchronized⟩
  have hD := m_D0 (n0 := s.heap.size) hD0
  have hl := lv_entry ([.ref (ad 0)]) (n := 2) (Nat.le_of_ble_eq_true rfl)
  rw [lg_entry_eq]
  generalize (lg_sl ([.ref (ad 0)]) ++ List.replicate (2 - (lg_sl ([.ref (ad 0)])).length) Slot.unset).toArray = ls at hl ⊢
  exact t_X12_stands_0 C0 hK N  σ _ _ ls h hP hD va_S.rf hl
theorem k_X12_stands (N : Nat) {R : Room} {H : Heap} {locs : List Loc} {cells slots : Nat} {Q2 : State → Prop} {cc : ByteArray} {nL pc index : Nat} {ls : Array Slot} {rest : List Value} {own : String} {c0 : Cond} {σ : zSt}  {Q : zSt → Prop} (S0 : CallFix p m c cc nL s args (c0 :: zT) own) (hml : Cond.methodLink own index yX12_stands ∈ zT) (hR : rm_X12_stands.frames + 1 ≤ R.frames ∧ 8 + (2 + 11) + rm_X12_stands.locals ≤ R.locals) (h : w_X12_stands N  σ Q) (hK : va_K (dC, dI) vwCl (m_ty cI cJ cC) s) (hP : va_P (dC, dI) vwCl (m_W ad cI cJ cC σ) H) (hD : va_D (zAW m_n ad s.heap.size) (m_W ad cI cJ cC σ)) (hS : va_S (zAW m_n ad s.heap.size) s.heap H locs) (hsz : ls.size = nL) (hW : (rest.map fun v => v.category).sum ≤ 8) (hcs : cells ≤ R.cells ∧ slots ≤ R.slots) (hdg : decode cc pc = .ok (.invokevirtual index, 3)) (kk : ∀ (τ : zSt) (H1 : Heap) (locs1 : List Loc), Q τ → va_P (dC, dI) vwCl (m_W ad cI cJ cC τ) H1 → va_D (zAW m_n ad s.heap.size) (m_W ad cI cJ cC τ) → va_S (zAW m_n ad s.heap.size) s.heap H1 locs1 → W p l e R s m args below meth c H1 locs1 cells slots Q2 (F0 m (pc + 3) ls (rest))) : W p l e R s m args below meth c H locs cells slots Q2 (F0 m pc ls (.ref (ad 0) :: rest)) :=
  zcv_v (T := TX12) (N' := 83) (k := 0) (ci := 12) (fs := m_f0 ad σ) [] S0 (c_X12_stands N l dC dI ad cI cJ cC H.size σ  Q h) (cw_X12_stands S0.2.2.2.2 hml rfl rfl hR) rfl rfl hK hP hD hS rfl hsz hW rfl hcs hdg kk
end q14
section q14
def b_X12_look_52 (N : Nat) (Q : Int32 → zSt → Prop)  (σ : zSt) : Prop :=
  ((σ.1 2) ≤ (σ.1 1) → Q (-1 : Int32) σ) ∧ (¬ (σ.1 2) ≤ (σ.1 1) → (vp_in (σ.1 1) 800) ∧ (Q (σ.2.2.1 0 (σ.1 1).toNatClampNeg) σ))
def b_X12_look_39 (N : Nat) (k_0 : zSt → Prop) (Q : Int32 → zSt → Prop)  (σ : zSt) : Prop :=
  ∀ τ1 : zSt, τ1 = zI σ 1 ((σ.1 1) + (1 : Int32)) → k_0 τ1
def b_X12_look_0 (N : Nat) (k_0 : zSt → Prop) (Q : Int32 → zSt → Prop)  (σ : zSt) : Prop :=
  ((σ.1 2) ≤ (σ.1 1) → b_X12_look_52 N Q σ) ∧ (¬ (σ.1 2) ≤ (σ.1 1) → (vp_in (σ.1 1) 800) ∧ (((σ.2.2.1 0 (σ.1 1).toNatClampNeg) = (10 : Int32) → b_X12_look_39 N k_0 Q σ) ∧ (¬ (σ.2.2.1 0 (σ.1 1).toNatClampNeg) = (10 : Int32) → (vp_in (σ.1 1) 800) ∧ (((σ.2.2.1 0 (σ.1 1).toNatClampNeg) = (32 : Int32) → b_X12_look_39 N k_0 Q σ) ∧ (¬ (σ.2.2.1 0 (σ.1 1).toNatClampNeg) = (32 : Int32) → b_X12_look_52 N Q σ)))))
def w_X12_look_0 (N : Nat) (Q : Int32 → zSt → Prop) : Nat → zSt → Prop
  | 0 => fun  _ => False
  | f + 1 => b_X12_look_0 N (w_X12_look_0 N  Q f) Q
def w_X12_look (N : Nat)  (σ : zSt) (Q : Int32 → zSt → Prop) : Prop := w_X12_look_0 N Q N  σ
variable {p : Program} {l : Launch} {e : Env} {s : State} {m : MethodId} {args : Array Value} {below : List Frame} {meth : Method} {c : Code} {dC : Nat → ClassId} {dI : Nat → Nat → Nat} {ad : Nat → Nat} {cI cJ cC : ClassId}
set_option maxHeartbeats 4000000 in
set_option maxRecDepth 100000 in
theorem t_X12_look_52 (C0 : zCx p s m meth c args RX12 cX12_look 1 (some .int) vs_X12_look) (hK : va_K (dC, dI) vwCl (m_ty cI cJ cC) s) (N : Nat) {Q : Int32 → zSt → Prop} : ∀  (σ : zSt) (H : Heap) (locs : List Loc) (ls : Array Slot), b_X12_look_52 N  Q  σ → va_P (dC, dI) vwCl (m_W ad cI cJ cC σ) H → va_D (zAW m_n ad s.heap.size) (m_W ad cI cJ cC σ) → va_S (zAW m_n ad s.heap.size) s.heap H locs → lv_has ls 1 [(0, .ref (ad 0))] → W p l e rm_X12_look s m args below meth c H locs 0 0 (MQ below (zQi (dC, dI) (m_ty cI cJ cC) (m_W ad cI cJ cC) (zAW m_n ad s.heap.size) Q) args s 0 0 (zAW m_n ad s.heap.size)) (F0 m 52 ls []) := by
  obtain ⟨hx, hb, hml, hr, hown, hts, hlocks⟩ := id C0
  intro  σ H locs ls h hP hD hS hl
  unfold b_X12_look_52 at h
  refine lv_aload_n hx hb dX12_look_52 rfl (lv_at hl 0 rfl) ?_
  refine mg_0_2 hx hb hts hown hK hP mw_835 dX12_look_53 ?_
  refine lv_aload_n hx hb dX12_look_56 rfl (lv_at hl 0 rfl) ?_
  refine mg_0_3 hx hb hts hown hK hP mw_836 dX12_look_57 ?_
  refine lv_icmp_ge (tgt := 75) hx hb dX12_look_60 (by decide) (fun hc => ?_) (fun hc => ?_)
  · have h := h.1 hc
    refine lv_iconst (v := (-1 : Int32)) hx hb dX12_look_75 (by decide) ?_
    exact zret_i hx hb hr hlocks hK hP hD hS h dX12_look_76
  · have h := h.2 hc
    refine lv_aload_n hx hb dX12_look_63 rfl (lv_at hl 0 rfl) ?_
    refine mg_0_0 hx hb hts hown hK hP mw_833 dX12_look_64 ?_
    refine lv_aload_n hx hb dX12_look_67 rfl (lv_at hl 0 rfl) ?_
    refine mg_0_2 hx hb hts hown hK hP mw_835 dX12_look_68 ?_
    refine ma_1 hx hb hK hP h.1 rfl dX12_look_71 ?_
    have h := h.2
    refine lv_goto (tgt := 76) hx hb dX12_look_72 (by decide) ?_
    exact zret_i hx hb hr hlocks hK hP hD hS h dX12_look_76
set_option maxHeartbeats 4000000 in
set_option maxRecDepth 100000 in
theorem t_X12_look_39 (C0 : zCx p s m meth c args RX12 cX12_look 1 (some .int) vs_X12_look) (hK : va_K (dC, dI) vwCl (m_ty cI cJ cC) s) (N : Nat) {Q : Int32 → zSt → Prop} {k_0 : zSt → Prop} (hk_0 : ∀  (σ : zSt) (H : Heap) (locs : List Loc) (ls : Array Slot), k_0  σ → va_P (dC, dI) vwCl (m_W ad cI cJ cC σ) H → va_D (zAW m_n ad s.heap.size) (m_W ad cI cJ cC σ) → va_S (zAW m_n ad s.heap.size) s.heap H locs → lv_has ls 1 [(0, .ref (ad 0))] → W p l e rm_X12_look s m args below meth c H locs 0 0 (MQ below (zQi (dC, dI) (m_ty cI cJ cC) (m_W ad cI cJ cC) (zAW m_n ad s.heap.size) Q) args s 0 0 (zAW m_n ad s.heap.size)) (F0 m 0 ls [])) : ∀  (σ : zSt) (H : Heap) (locs : List Loc) (ls : Array Slot), b_X12_look_39 N k_0 Q  σ → va_P (dC, dI) vwCl (m_W ad cI cJ cC σ) H → va_D (zAW m_n ad s.heap.size) (m_W ad cI cJ cC σ) → va_S (zAW m_n ad s.heap.size) s.heap H locs → lv_has ls 1 [(0, .ref (ad 0))] → W p l e rm_X12_look s m args below meth c H locs 0 0 (MQ below (zQi (dC, dI) (m_ty cI cJ cC) (m_W ad cI cJ cC) (zAW m_n ad s.heap.size) Q) args s 0 0 (zAW m_n ad s.heap.size)) (F0 m 39 ls []) := by
  obtain ⟨hx, hb, hml, hr, hown, hts, hlocks⟩ := id C0
  intro  σ H locs ls h hP hD hS hl
  unfold b_X12_look_39 at h
  refine lv_aload_n hx hb dX12_look_39 rfl (lv_at hl 0 rfl) ?_
  refine lv_dup hx hb dX12_look_40 rfl ?_
  refine mg_0_2 hx hb hts hown hK hP mw_835 dX12_look_41 ?_
  refine lv_iconst (v := (1 : Int32)) hx hb dX12_look_44 (by decide) ?_
  refine lv_iadd hx hb dX12_look_45 ?_
  refine mp_0_2 hx hb hts hown hK hP hD hS mw_835 dX12_look_46 (fun τ1 H locs eτ1 hP hD hS => ?_)
  have h := h τ1 eτ1
  refine lv_goto (tgt := 0) hx hb dX12_look_49 (by decide) ?_
  exact hk_0 τ1 _ _ _ h hP hD hS (lv_sub hl [0] rfl)
set_option maxHeartbeats 4000000 in
set_option maxRecDepth 100000 in
theorem tb_X12_look_0 (C0 : zCx p s m meth c args RX12 cX12_look 1 (some .int) vs_X12_look) (hK : va_K (dC, dI) vwCl (m_ty cI cJ cC) s) (N : Nat) {Q : Int32 → zSt → Prop} {k_0 : zSt → Prop} (hk_0 : ∀  (σ : zSt) (H : Heap) (locs : List Loc) (ls : Array Slot), k_0  σ → va_P (dC, dI) vwCl (m_W ad cI cJ cC σ) H → va_D (zAW m_n ad s.heap.size) (m_W ad cI cJ cC σ) → va_S (zAW m_n ad s.heap.size) s.heap H locs → lv_has ls 1 [(0, .ref (ad 0))] → W p l e rm_X12_look s m args below meth c H locs 0 0 (MQ below (zQi (dC, dI) (m_ty cI cJ cC) (m_W ad cI cJ cC) (zAW m_n ad s.heap.size) Q) args s 0 0 (zAW m_n ad s.heap.size)) (F0 m 0 ls [])) : ∀  (σ : zSt) (H : Heap) (locs : List Loc) (ls : Array Slot), b_X12_look_0 N k_0 Q  σ → va_P (dC, dI) vwCl (m_W ad cI cJ cC σ) H → va_D (zAW m_n ad s.heap.size) (m_W ad cI cJ cC σ) → va_S (zAW m_n ad s.heap.size) s.heap H locs → lv_has ls 1 [(0, .ref (ad 0))] → W p l e rm_X12_look s m args below meth c H locs 0 0 (MQ below (zQi (dC, dI) (m_ty cI cJ cC) (m_W ad cI cJ cC) (zAW m_n ad s.heap.size) Q) args s 0 0 (zAW m_n ad s.heap.size)) (F0 m 0 ls []) := by
  obtain ⟨hx, hb, hml, hr, hown, hts, hlocks⟩ := id C0
  intro  σ H locs ls h hP hD hS hl
  unfold b_X12_look_0 at h
  refine lv_aload_n hx hb dX12_look_0 rfl (lv_at hl 0 rfl) ?_
  refine mg_0_2 hx hb hts hown hK hP mw_835 dX12_look_1 ?_
  refine lv_aload_n hx hb dX12_look_4 rfl (lv_at hl 0 rfl) ?_
  refine mg_0_3 hx hb hts hown hK hP mw_836 dX12_look_5 ?_
  refine lv_icmp_ge (tgt := 52) hx hb dX12_look_8 (by decide) (fun hc => ?_) (fun hc => ?_)
  · have h := h.1 hc
    exact t_X12_look_52 C0 hK N  σ _ _ _ h hP hD hS (lv_sub hl [0] rfl)
  · have h := h.2 hc
    refine lv_aload_n hx hb dX12_look_11 rfl (lv_at hl 0 rfl) ?_
    refine mg_0_0 hx hb hts hown hK hP mw_833 dX12_look_12 ?_
    refine lv_aload_n hx hb dX12_look_15 rfl (lv_at hl 0 rfl) ?_
    refine mg_0_2 hx hb hts hown hK hP mw_835 dX12_look_16 ?_
    refine ma_1 hx hb hK hP h.1 rfl dX12_look_19 ?_
    have h := h.2
    refine lv_bipush (v := (10 : Int32)) hx hb dX12_look_20 (by decide) ?_
    refine lv_icmp_eq (tgt := 39) hx hb dX12_look_22 (by decide) (fun hc => ?_) (fun hc => ?_)
    · have h := h.1 hc
      exact t_X12_look_39 C0 hK N hk_0 σ _ _ _ h hP hD hS (lv_sub hl [0] rfl)
    · have h := h.2 hc
      refine lv_aload_n hx hb dX12_look_25 rfl (lv_at hl 0 rfl) ?_
      refine mg_0_0 hx hb hts hown hK hP mw_833 dX12_look_26 ?_
      refine lv_aload_n hx hb dX12_look_29 rfl (lv_at hl 0 rfl) ?_
      refine mg_0_2 hx hb hts hown hK hP mw_835 dX12_look_30 ?_
      refine ma_1 hx hb hK hP h.1 rfl dX12_look_33 ?_
      have h := h.2
      refine lv_bipush (v := (32 : Int32)) hx hb dX12_look_34 (by decide) ?_
      refine lv_icmp_ne (tgt := 52) hx hb dX12_look_36 (by decide) (fun hc => ?_) (fun hc => ?_)
      · have h := h.2 hc
        exact t_X12_look_52 C0 hK N  σ _ _ _ h hP hD hS (lv_sub hl [0] rfl)
      · have h := h.1 hc
        exact t_X12_look_39 C0 hK N hk_0 σ _ _ _ h hP hD hS (lv_sub hl [0] rfl)
set_option maxHeartbeats 4000000 in
set_option maxRecDepth 100000 in
theorem t_X12_look_0 (C0 : zCx p s m meth c args RX12 cX12_look 1 (some .int) vs_X12_look) (hK : va_K (dC, dI) vwCl (m_ty cI cJ cC) s) (N : Nat) {Q : Int32 → zSt → Prop} : ∀ (f : Nat)  (σ : zSt) (H : Heap) (locs : List Loc) (ls : Array Slot), w_X12_look_0 N  Q f  σ → va_P (dC, dI) vwCl (m_W ad cI cJ cC σ) H → va_D (zAW m_n ad s.heap.size) (m_W ad cI cJ cC σ) → va_S (zAW m_n ad s.heap.size) s.heap H locs → lv_has ls 1 [(0, .ref (ad 0))] → W p l e rm_X12_look s m args below meth c H locs 0 0 (MQ below (zQi (dC, dI) (m_ty cI cJ cC) (m_W ad cI cJ cC) (zAW m_n ad s.heap.size) Q) args s 0 0 (zAW m_n ad s.heap.size)) (F0 m 0 ls []) := by
  intro f
  induction f with
  | zero => intro  σ H locs ls h; exact h.elim
  | succ f ih =>
    intro  σ H locs ls h hP hD hS hl
    exact tb_X12_look_0 C0 hK N  (k_0 := w_X12_look_0 N  Q f) ih  σ H locs ls h hP hD hS hl
set_option maxHeartbeats 4000000 in
set_option maxRecDepth 100000 in
theorem c_X12_look (N : Nat) (l : Launch) (dC : Nat → ClassId) (dI : Nat → Nat → Nat) (ad : Nat → Nat) (cI cJ cC : ClassId) (sz : Nat) (σ : zSt)  (Q : Int32 → zSt → Prop) (h : w_X12_look N  σ Q) : Met l yX12_look vs_X12_look rm_X12_look (va_Pc [.ref (ad 0)] (zPc (dC, dI) (m_ty cI cJ cC) (m_W ad cI cJ cC) sz σ)) (zQi (dC, dI) (m_ty cI cJ cC) (m_W ad cI cJ cC) (zAW m_n ad sz) Q) 0 0 (zAW m_n ad sz) := by
  refine Met.ofW (cc := cX12_look) (maxL := 1) (ret := (some .int)) (by decide) rfl ?_
  intro p e s m args below meth c s₁ B hml hv
  obtain ⟨rfl, hsz, hP, hK, hD0⟩ := hv
  subst hsz
  have C0 : zCx p s m meth c _ RX12 cX12_look 1 (some .int) vs_X12_look := ⟨B.exec, B.bytes, hml, B.returns, findClass_of_methodNamed B.named, atoms_spec (ws := vs_X12_look) B.pre, B.notSynchronized⟩
  have hD := m_D0 (n0 := s.heap.size) hD0
  have hl := lv_entry ([.ref (ad 0)]) (n := 1) (Nat.le_of_ble_eq_true rfl)
  rw [lg_entry_eq]
  generalize (lg_sl ([.ref (ad 0)]) ++ List.replicate (1 - (lg_sl ([.ref (ad 0)])).length) Slot.unset).toArray = ls at hl ⊢
  exact t_X12_look_0 C0 hK N N  σ _ _ ls h hP hD va_S.rf hl
theorem k_X12_look (N : Nat) {R : Room} {H : Heap} {locs : List Loc} {cells slots : Nat} {Q2 : State → Prop} {cc : ByteArray} {nL pc index : Nat} {ls : Array Slot} {rest : List Value} {own : String} {c0 : Cond} {σ : zSt}  {Q : Int32 → zSt → Prop} (S0 : CallFix p m c cc nL s args (c0 :: zT) own) (hml : Cond.methodLink own index yX12_look ∈ zT) (hR : rm_X12_look.frames + 1 ≤ R.frames ∧ 8 + (1 + 11) + rm_X12_look.locals ≤ R.locals) (h : w_X12_look N  σ Q) (hK : va_K (dC, dI) vwCl (m_ty cI cJ cC) s) (hP : va_P (dC, dI) vwCl (m_W ad cI cJ cC σ) H) (hD : va_D (zAW m_n ad s.heap.size) (m_W ad cI cJ cC σ)) (hS : va_S (zAW m_n ad s.heap.size) s.heap H locs) (hsz : ls.size = nL) (hW : (rest.map fun v => v.category).sum ≤ 8) (hcs : cells ≤ R.cells ∧ slots ≤ R.slots) (hdg : decode cc pc = .ok (.invokevirtual index, 3)) (kk : ∀ (r : Int32) (τ : zSt) (H1 : Heap) (locs1 : List Loc), Q r τ → va_P (dC, dI) vwCl (m_W ad cI cJ cC τ) H1 → va_D (zAW m_n ad s.heap.size) (m_W ad cI cJ cC τ) → va_S (zAW m_n ad s.heap.size) s.heap H1 locs1 → W p l e R s m args below meth c H1 locs1 cells slots Q2 (F0 m (pc + 3) ls (.int r :: rest))) : W p l e R s m args below meth c H locs cells slots Q2 (F0 m pc ls (.ref (ad 0) :: rest)) :=
  zcv_i (T := TX12) (N' := 83) (k := 0) (ci := 12) (fs := m_f0 ad σ) [] S0 (c_X12_look N l dC dI ad cI cJ cC H.size σ  Q h) (cw_X12_look S0.2.2.2.2 hml rfl rfl hR) rfl rfl hK hP hD hS rfl hsz hW rfl hcs hdg kk
end q14
section q14
def w_X12_isLetter (N : Nat) (x0 : Int32) (σ : zSt) (Q : Int32 → zSt → Prop) : Prop :=
  (x0 < (97 : Int32) → Q (0 : Int32) σ) ∧ (¬ x0 < (97 : Int32) → ((122 : Int32) < x0 → Q (0 : Int32) σ) ∧ (¬ (122 : Int32) < x0 → Q (1 : Int32) σ))
variable {p : Program} {l : Launch} {e : Env} {s : State} {m : MethodId} {args : Array Value} {below : List Frame} {meth : Method} {c : Code} {dC : Nat → ClassId} {dI : Nat → Nat → Nat} {ad : Nat → Nat} {cI cJ cC : ClassId}
set_option maxHeartbeats 4000000 in
set_option maxRecDepth 100000 in
theorem t_X12_isLetter_0 (C0 : zCx p s m meth c args RX12 cX12_isLetter 1 (some .boolean) vs_X12_isLetter) (hK : va_K (dC, dI) vwCl (m_ty cI cJ cC) s) (N : Nat) {Q : Int32 → zSt → Prop} : ∀ (x0 : Int32) (σ : zSt) (H : Heap) (locs : List Loc) (ls : Array Slot), w_X12_isLetter N x0 σ Q → va_P (dC, dI) vwCl (m_W ad cI cJ cC σ) H → va_D (zAW m_n ad s.heap.size) (m_W ad cI cJ cC σ) → va_S (zAW m_n ad s.heap.size) s.heap H locs → lv_has ls 1 [(0, .int x0)] → W p l e rm_X12_isLetter s m args below meth c H locs 0 0 (MQ below (zQi (dC, dI) (m_ty cI cJ cC) (m_W ad cI cJ cC) (zAW m_n ad s.heap.size) Q) args s 0 0 (zAW m_n ad s.heap.size)) (F0 m 0 ls []) := by
  obtain ⟨hx, hb, hml, hr, hown, hts, hlocks⟩ := id C0
  intro x0 σ H locs ls h hP hD hS hl
  unfold w_X12_isLetter at h
  refine lv_iload_n hx hb dX12_isLetter_0 rfl (lv_at hl 0 rfl) ?_
  refine lv_bipush (v := (97 : Int32)) hx hb dX12_isLetter_1 (by decide) ?_
  refine lv_icmp_lt (tgt := 16) hx hb dX12_isLetter_3 (by decide) (fun hc => ?_) (fun hc => ?_)
  · have h := h.1 hc
    refine lv_iconst (v := (0 : Int32)) hx hb dX12_isLetter_16 (by decide) ?_
    exact zret_z hx hb hr hlocks hK hP hD hS zb_0 h dX12_isLetter_17
  · have h := h.2 hc
    refine lv_iload_n hx hb dX12_isLetter_6 rfl (lv_at hl 0 rfl) ?_
    refine lv_bipush (v := (122 : Int32)) hx hb dX12_isLetter_7 (by decide) ?_
    refine lv_icmp_gt (tgt := 16) hx hb dX12_isLetter_9 (by decide) (fun hc => ?_) (fun hc => ?_)
    · have h := h.1 hc
      refine lv_iconst (v := (0 : Int32)) hx hb dX12_isLetter_16 (by decide) ?_
      exact zret_z hx hb hr hlocks hK hP hD hS zb_0 h dX12_isLetter_17
    · have h := h.2 hc
      refine lv_iconst (v := (1 : Int32)) hx hb dX12_isLetter_12 (by decide) ?_
      refine lv_goto (tgt := 17) hx hb dX12_isLetter_13 (by decide) ?_
      exact zret_z hx hb hr hlocks hK hP hD hS zb_1 h dX12_isLetter_17
set_option maxHeartbeats 4000000 in
set_option maxRecDepth 100000 in
theorem c_X12_isLetter (N : Nat) (l : Launch) (dC : Nat → ClassId) (dI : Nat → Nat → Nat) (ad : Nat → Nat) (cI cJ cC : ClassId) (sz : Nat) (σ : zSt) (x0 : Int32) (Q : Int32 → zSt → Prop) (h : w_X12_isLetter N x0 σ Q) : Met l yX12_isLetter vs_X12_isLetter rm_X12_isLetter (va_Pc [.int x0] (zPc (dC, dI) (m_ty cI cJ cC) (m_W ad cI cJ cC) sz σ)) (zQi (dC, dI) (m_ty cI cJ cC) (m_W ad cI cJ cC) (zAW m_n ad sz) Q) 0 0 (zAW m_n ad sz) := by
  refine Met.ofW (cc := cX12_isLetter) (maxL := 1) (ret := (some .boolean)) (by decide) rfl ?_
  intro p e s m args below meth c s₁ B hml hv
  obtain ⟨rfl, hsz, hP, hK, hD0⟩ := hv
  subst hsz
  have C0 : zCx p s m meth c _ RX12 cX12_isLetter 1 (some .boolean) vs_X12_isLetter := ⟨B.exec, B.bytes, hml, B.returns, findClass_of_methodNamed B.named, atoms_spec (ws := vs_X12_isLetter) B.pre, B.notSynchronized⟩
  have hD := m_D0 (n0 := s.heap.size) hD0
  have hl := lv_entry ([.int x0]) (n := 1) (Nat.le_of_ble_eq_true rfl)
  rw [lg_entry_eq]
  generalize (lg_sl ([.int x0]) ++ List.replicate (1 - (lg_sl ([.int x0])).length) Slot.unset).toArray = ls at hl ⊢
  exact t_X12_isLetter_0 C0 hK N x0 σ _ _ ls h hP hD va_S.rf hl
theorem k_X12_isLetter (N : Nat) {R : Room} {H : Heap} {locs : List Loc} {cells slots : Nat} {Q2 : State → Prop} {cc : ByteArray} {nL pc index : Nat} {ls : Array Slot} {rest : List Value} {own : String} {c0 : Cond} {σ : zSt} {x0 : Int32} {Q : Int32 → zSt → Prop} (S0 : CallFix p m c cc nL s args (c0 :: zT) own) (hml : Cond.methodLink own index yX12_isLetter ∈ zT) (hR : rm_X12_isLetter.frames + 1 ≤ R.frames ∧ 8 + (1 + 11) + rm_X12_isLetter.locals ≤ R.locals) (h : w_X12_isLetter N x0 σ Q) (hK : va_K (dC, dI) vwCl (m_ty cI cJ cC) s) (hP : va_P (dC, dI) vwCl (m_W ad cI cJ cC σ) H) (hD : va_D (zAW m_n ad s.heap.size) (m_W ad cI cJ cC σ)) (hS : va_S (zAW m_n ad s.heap.size) s.heap H locs) (hsz : ls.size = nL) (hW : (rest.map fun v => v.category).sum ≤ 8) (hcs : cells ≤ R.cells ∧ slots ≤ R.slots) (hdg : decode cc pc = .ok (.invokestatic index, 3)) (kk : ∀ (r : Int32) (τ : zSt) (H1 : Heap) (locs1 : List Loc), Q r τ → va_P (dC, dI) vwCl (m_W ad cI cJ cC τ) H1 → va_D (zAW m_n ad s.heap.size) (m_W ad cI cJ cC τ) → va_S (zAW m_n ad s.heap.size) s.heap H1 locs1 → W p l e R s m args below meth c H1 locs1 cells slots Q2 (F0 m (pc + 3) ls (.int r :: rest))) : W p l e R s m args below meth c H locs cells slots Q2 (F0 m pc ls (.int x0 :: rest)) :=
  zcs_i [.int x0] S0 (c_X12_isLetter N l dC dI ad cI cJ cC H.size σ x0 Q h) (cw_X12_isLetter S0.2.2.2.2 hml hR) hK hP hD hS rfl hsz hW rfl hcs hdg kk
end q14
section q14
def b_X12_isHere_76 (N : Nat) (w : Nat) (k_76 : Int32 → zSt → Prop) (Q : Int32 → zSt → Prop) (x3 : Int32) (σ : zSt) : Prop :=
  ((Int32.ofNat (m_wl w)) ≤ x3 → Q (1 : Int32) σ) ∧ (¬ (Int32.ofNat (m_wl w)) ≤ x3 → (vp_in ((σ.1 1) + x3) 800) ∧ ((vp_in x3 (m_wl w)) ∧ (((σ.2.2.1 0 ((σ.1 1) + x3).toNatClampNeg) = (m_wf w x3.toNatClampNeg) → ∀ v1 : Int32, v1 = x3 + (1 : Int32) → k_76 v1 σ) ∧ (¬ (σ.2.2.1 0 ((σ.1 1) + x3).toNatClampNeg) = (m_wf w x3.toNatClampNeg) → Q (0 : Int32) σ))))
def w_X12_isHere_76 (N : Nat) (w : Nat) (Q : Int32 → zSt → Prop) : Nat → Int32 → zSt → Prop
  | 0 => fun _ _ => False
  | f + 1 => b_X12_isHere_76 N w (w_X12_isHere_76 N w  Q f) Q
def b_X12_isHere_61 (N : Nat) (w : Nat) (Q : Int32 → zSt → Prop) (x2 : Int32) (σ : zSt) : Prop :=
  ((x2 - (σ.1 1)) = (Int32.ofNat (m_wl w)) → w_X12_isHere_76 N w Q N (0 : Int32) σ) ∧ (¬ (x2 - (σ.1 1)) = (Int32.ofNat (m_wl w)) → Q (0 : Int32) σ)
def b_X12_isHere_35 (N : Nat) (w : Nat) (k_35 : Int32 → zSt → Prop) (Q : Int32 → zSt → Prop) (x2 : Int32) (σ : zSt) : Prop :=
  ((σ.1 2) ≤ x2 → b_X12_isHere_61 N w Q x2 σ) ∧ (¬ (σ.1 2) ≤ x2 → (vp_in x2 800) ∧ (w_X12_isLetter N (σ.2.2.1 0 x2.toNatClampNeg) σ (fun r1 τ2 => (r1 = 0 → b_X12_isHere_61 N w Q x2 τ2) ∧ (¬ r1 = 0 → ∀ v3 : Int32, v3 = x2 + (1 : Int32) → k_35 v3 τ2))))
def w_X12_isHere_35 (N : Nat) (w : Nat) (Q : Int32 → zSt → Prop) : Nat → Int32 → zSt → Prop
  | 0 => fun _ _ => False
  | f + 1 => b_X12_isHere_35 N w (w_X12_isHere_35 N w  Q f) Q
def w_X12_isHere (N : Nat) (w : Nat)  (σ : zSt) (Q : Int32 → zSt → Prop) : Prop :=
  ((σ.1 4) = 0 → w_X12_look N σ (fun r1 τ2 => w_X12_isLetter N r1 τ2 (fun r3 τ4 => (r3 = 0 → Q (0 : Int32) τ4) ∧ (¬ r3 = 0 → ((τ4.1 1) = (τ4.1 3) → Q (0 : Int32) τ4) ∧ (¬ (τ4.1 1) = (τ4.1 3) → ∀ v5 : Int32, v5 = τ4.1 1 → w_X12_isHere_35 N w Q N v5 τ4))))) ∧ (¬ (σ.1 4) = 0 → Q (0 : Int32) σ)
variable {p : Program} {l : Launch} {e : Env} {s : State} {m : MethodId} {args : Array Value} {below : List Frame} {meth : Method} {c : Code} {dC : Nat → ClassId} {dI : Nat → Nat → Nat} {ad : Nat → Nat} {cI cJ cC : ClassId}
set_option maxHeartbeats 4000000 in
set_option maxRecDepth 100000 in
theorem tb_X12_isHere_76 (C0 : zCx p s m meth c args RX12 cX12_isHere 4 (some .boolean) vs_X12_isHere) (hK : va_K (dC, dI) vwCl (m_ty cI cJ cC) s) (N : Nat) {w : Nat} (hw : w < 19) {Q : Int32 → zSt → Prop} {k_76 : Int32 → zSt → Prop} (hk_76 : ∀ (x3 : Int32) (σ : zSt) (H : Heap) (locs : List Loc) (ls : Array Slot), k_76 x3 σ → va_P (dC, dI) vwCl (m_W ad cI cJ cC σ) H → va_D (zAW m_n ad s.heap.size) (m_W ad cI cJ cC σ) → va_S (zAW m_n ad s.heap.size) s.heap H locs → lv_has ls 4 [(0, .ref (ad 0)), (1, .ref (ad (27 + w))), (3, .int x3)] → W p l e rm_X12_isHere s m args below meth c H locs 0 0 (MQ below (zQi (dC, dI) (m_ty cI cJ cC) (m_W ad cI cJ cC) (zAW m_n ad s.heap.size) Q) args s 0 0 (zAW m_n ad s.heap.size)) (F0 m 76 ls [])) : ∀ (x3 : Int32) (σ : zSt) (H : Heap) (locs : List Loc) (ls : Array Slot), b_X12_isHere_76 N w k_76 Q x3 σ → va_P (dC, dI) vwCl (m_W ad cI cJ cC σ) H → va_D (zAW m_n ad s.heap.size) (m_W ad cI cJ cC σ) → va_S (zAW m_n ad s.heap.size) s.heap H locs → lv_has ls 4 [(0, .ref (ad 0)), (1, .ref (ad (27 + w))), (3, .int x3)] → W p l e rm_X12_isHere s m args below meth c H locs 0 0 (MQ below (zQi (dC, dI) (m_ty cI cJ cC) (m_W ad cI cJ cC) (zAW m_n ad s.heap.size) Q) args s 0 0 (zAW m_n ad s.heap.size)) (F0 m 76 ls []) := by
  obtain ⟨hx, hb, hml, hr, hown, hts, hlocks⟩ := id C0
  intro x3 σ H locs ls h hP hD hS hl
  unfold b_X12_isHere_76 at h
  refine lv_iload_n hx hb dX12_isHere_76 rfl (lv_at hl 2 rfl) ?_
  refine lv_aload_n hx hb dX12_isHere_77 rfl (lv_at hl 1 rfl) ?_
  refine ml_w hw hx hb hK hP dX12_isHere_78 ?_
  refine lv_icmp_ge (tgt := 107) hx hb dX12_isHere_79 (by decide) (fun hc => ?_) (fun hc => ?_)
  · have h := h.1 hc
    refine lv_iconst (v := (1 : Int32)) hx hb dX12_isHere_107 (by decide) ?_
    exact zret_z hx hb hr hlocks hK hP hD hS zb_1 h dX12_isHere_108
  · have h := h.2 hc
    refine lv_aload_n hx hb dX12_isHere_82 rfl (lv_at hl 0 rfl) ?_
    refine mg_0_0 hx hb hts hown hK hP mw_833 dX12_isHere_83 ?_
    refine lv_aload_n hx hb dX12_isHere_86 rfl (lv_at hl 0 rfl) ?_
    refine mg_0_2 hx hb hts hown hK hP mw_835 dX12_isHere_87 ?_
    refine lv_iload_n hx hb dX12_isHere_90 rfl (lv_at hl 2 rfl) ?_
    refine lv_iadd hx hb dX12_isHere_91 ?_
    refine ma_1 hx hb hK hP h.1 rfl dX12_isHere_92 ?_
    have h := h.2
    refine lv_aload_n hx hb dX12_isHere_93 rfl (lv_at hl 1 rfl) ?_
    refine lv_iload_n hx hb dX12_isHere_94 rfl (lv_at hl 2 rfl) ?_
    refine ma_w hw hx hb hK hP h.1 rfl dX12_isHere_95 ?_
    have h := h.2
    refine lv_icmp_eq (tgt := 101) hx hb dX12_isHere_96 (by decide) (fun hc => ?_) (fun hc => ?_)
    · have h := h.1 hc
      obtain ⟨v1, ev1⟩ : ∃ z : Int32, z = x3 + (1 : Int32) := ⟨_, rfl⟩
      have h := h v1 ev1
      refine lv_iinc (v := v1) (lv' := [(3, .int v1), (0, .ref (ad 0)), (1, .ref (ad (27 + w)))]) hx hb dX12_isHere_101 hl (k := 2) rfl (by rw [ev1]; rfl) (by decide) rfl (fun ls hl => ?_)
      refine lv_goto (tgt := 76) hx hb dX12_isHere_104 (by decide) ?_
      exact hk_76 v1 σ _ _ _ h hP hD hS (lv_sub hl [1, 2, 0] rfl)
    · have h := h.2 hc
      refine lv_iconst (v := (0 : Int32)) hx hb dX12_isHere_99 (by decide) ?_
      exact zret_z hx hb hr hlocks hK hP hD hS zb_0 h dX12_isHere_100
set_option maxHeartbeats 4000000 in
set_option maxRecDepth 100000 in
theorem t_X12_isHere_76 (C0 : zCx p s m meth c args RX12 cX12_isHere 4 (some .boolean) vs_X12_isHere) (hK : va_K (dC, dI) vwCl (m_ty cI cJ cC) s) (N : Nat) {w : Nat} (hw : w < 19) {Q : Int32 → zSt → Prop} : ∀ (f : Nat) (x3 : Int32) (σ : zSt) (H : Heap) (locs : List Loc) (ls : Array Slot), w_X12_isHere_76 N w  Q f x3 σ → va_P (dC, dI) vwCl (m_W ad cI cJ cC σ) H → va_D (zAW m_n ad s.heap.size) (m_W ad cI cJ cC σ) → va_S (zAW m_n ad s.heap.size) s.heap H locs → lv_has ls 4 [(0, .ref (ad 0)), (1, .ref (ad (27 + w))), (3, .int x3)] → W p l e rm_X12_isHere s m args below meth c H locs 0 0 (MQ below (zQi (dC, dI) (m_ty cI cJ cC) (m_W ad cI cJ cC) (zAW m_n ad s.heap.size) Q) args s 0 0 (zAW m_n ad s.heap.size)) (F0 m 76 ls []) := by
  intro f
  induction f with
  | zero => intro x3 σ H locs ls h; exact h.elim
  | succ f ih =>
    intro x3 σ H locs ls h hP hD hS hl
    exact tb_X12_isHere_76 C0 hK N hw  (k_76 := w_X12_isHere_76 N w  Q f) ih x3 σ H locs ls h hP hD hS hl
set_option maxHeartbeats 4000000 in
set_option maxRecDepth 100000 in
theorem t_X12_isHere_61 (C0 : zCx p s m meth c args RX12 cX12_isHere 4 (some .boolean) vs_X12_isHere) (hK : va_K (dC, dI) vwCl (m_ty cI cJ cC) s) (N : Nat) {w : Nat} (hw : w < 19) {Q : Int32 → zSt → Prop} : ∀ (x2 : Int32) (σ : zSt) (H : Heap) (locs : List Loc) (ls : Array Slot), b_X12_isHere_61 N w  Q x2 σ → va_P (dC, dI) vwCl (m_W ad cI cJ cC σ) H → va_D (zAW m_n ad s.heap.size) (m_W ad cI cJ cC σ) → va_S (zAW m_n ad s.heap.size) s.heap H locs → lv_has ls 4 [(0, .ref (ad 0)), (1, .ref (ad (27 + w))), (2, .int x2)] → W p l e rm_X12_isHere s m args below meth c H locs 0 0 (MQ below (zQi (dC, dI) (m_ty cI cJ cC) (m_W ad cI cJ cC) (zAW m_n ad s.heap.size) Q) args s 0 0 (zAW m_n ad s.heap.size)) (F0 m 61 ls []) := by
  obtain ⟨hx, hb, hml, hr, hown, hts, hlocks⟩ := id C0
  intro x2 σ H locs ls h hP hD hS hl
  unfold b_X12_isHere_61 at h
  refine lv_iload_n hx hb dX12_isHere_61 rfl (lv_at hl 2 rfl) ?_
  refine lv_aload_n hx hb dX12_isHere_62 rfl (lv_at hl 0 rfl) ?_
  refine mg_0_2 hx hb hts hown hK hP mw_835 dX12_isHere_63 ?_
  refine lv_isub hx hb dX12_isHere_66 ?_
  refine lv_aload_n hx hb dX12_isHere_67 rfl (lv_at hl 1 rfl) ?_
  refine ml_w hw hx hb hK hP dX12_isHere_68 ?_
  refine lv_icmp_eq (tgt := 74) hx hb dX12_isHere_69 (by decide) (fun hc => ?_) (fun hc => ?_)
  · have h := h.1 hc
    refine lv_iconst (v := (0 : Int32)) hx hb dX12_isHere_74 (by decide) ?_
    refine lv_istore_n (lv' := [(3, .int (0 : Int32)), (0, .ref (ad 0)), (1, .ref (ad (27 + w))), (2, .int x2)]) hx hb dX12_isHere_75 rfl hl (by decide) rfl (fun ls hl => ?_)
    exact t_X12_isHere_76 C0 hK N hw  N (0 : Int32) σ _ _ _ h hP hD hS (lv_sub hl [1, 2, 0] rfl)
  · have h := h.2 hc
    refine lv_iconst (v := (0 : Int32)) hx hb dX12_isHere_72 (by decide) ?_
    exact zret_z hx hb hr hlocks hK hP hD hS zb_0 h dX12_isHere_73
set_option maxHeartbeats 4000000 in
set_option maxRecDepth 100000 in
theorem tb_X12_isHere_35 (C0 : zCx p s m meth c args RX12 cX12_isHere 4 (some .boolean) vs_X12_isHere) (hK : va_K (dC, dI) vwCl (m_ty cI cJ cC) s) (N : Nat) {w : Nat} (hw : w < 19) {Q : Int32 → zSt → Prop} {k_35 : Int32 → zSt → Prop} (hk_35 : ∀ (x2 : Int32) (σ : zSt) (H : Heap) (locs : List Loc) (ls : Array Slot), k_35 x2 σ → va_P (dC, dI) vwCl (m_W ad cI cJ cC σ) H → va_D (zAW m_n ad s.heap.size) (m_W ad cI cJ cC σ) → va_S (zAW m_n ad s.heap.size) s.heap H locs → lv_has ls 4 [(0, .ref (ad 0)), (1, .ref (ad (27 + w))), (2, .int x2)] → W p l e rm_X12_isHere s m args below meth c H locs 0 0 (MQ below (zQi (dC, dI) (m_ty cI cJ cC) (m_W ad cI cJ cC) (zAW m_n ad s.heap.size) Q) args s 0 0 (zAW m_n ad s.heap.size)) (F0 m 35 ls [])) : ∀ (x2 : Int32) (σ : zSt) (H : Heap) (locs : List Loc) (ls : Array Slot), b_X12_isHere_35 N w k_35 Q x2 σ → va_P (dC, dI) vwCl (m_W ad cI cJ cC σ) H → va_D (zAW m_n ad s.heap.size) (m_W ad cI cJ cC σ) → va_S (zAW m_n ad s.heap.size) s.heap H locs → lv_has ls 4 [(0, .ref (ad 0)), (1, .ref (ad (27 + w))), (2, .int x2)] → W p l e rm_X12_isHere s m args below meth c H locs 0 0 (MQ below (zQi (dC, dI) (m_ty cI cJ cC) (m_W ad cI cJ cC) (zAW m_n ad s.heap.size) Q) args s 0 0 (zAW m_n ad s.heap.size)) (F0 m 35 ls []) := by
  obtain ⟨hx, hb, hml, hr, hown, hts, hlocks⟩ := id C0
  intro x2 σ H locs ls h hP hD hS hl
  unfold b_X12_isHere_35 at h
  refine lv_iload_n hx hb dX12_isHere_35 rfl (lv_at hl 2 rfl) ?_
  refine lv_aload_n hx hb dX12_isHere_36 rfl (lv_at hl 0 rfl) ?_
  refine mg_0_3 hx hb hts hown hK hP mw_836 dX12_isHere_37 ?_
  refine lv_icmp_ge (tgt := 61) hx hb dX12_isHere_40 (by decide) (fun hc => ?_) (fun hc => ?_)
  · have h := h.1 hc
    exact t_X12_isHere_61 C0 hK N hw  x2 σ _ _ _ h hP hD hS (lv_sub hl [0, 1, 2] rfl)
  · have h := h.2 hc
    refine lv_aload_n hx hb dX12_isHere_43 rfl (lv_at hl 0 rfl) ?_
    refine mg_0_0 hx hb hts hown hK hP mw_833 dX12_isHere_44 ?_
    refine lv_iload_n hx hb dX12_isHere_47 rfl (lv_at hl 2 rfl) ?_
    refine ma_1 hx hb hK hP h.1 rfl dX12_isHere_48 ?_
    have h := h.2
    refine k_X12_isLetter N ⟨hx, hb, hml, hown, hts⟩ mw_941 ⟨Nat.le_of_ble_eq_true rfl, Nat.le_of_ble_eq_true rfl⟩ h hK hP hD hS hl.1 (rest := []) (Nat.le_of_ble_eq_true rfl) ⟨Nat.le_of_ble_eq_true rfl, Nat.le_of_ble_eq_true rfl⟩ dX12_isHere_49 (fun r1 τ2 H locs h hP hD hS => ?_)
    refine lv_if_eq (tgt := 61) hx hb dX12_isHere_52 (by decide) (fun hc => ?_) (fun hc => ?_)
    · have h := h.1 hc
      exact t_X12_isHere_61 C0 hK N hw  x2 τ2 _ _ _ h hP hD hS (lv_sub hl [0, 1, 2] rfl)
    · have h := h.2 hc
      obtain ⟨v3, ev3⟩ : ∃ z : Int32, z = x2 + (1 : Int32) := ⟨_, rfl⟩
      have h := h v3 ev3
      refine lv_iinc (v := v3) (lv' := [(2, .int v3), (0, .ref (ad 0)), (1, .ref (ad (27 + w)))]) hx hb dX12_isHere_55 hl (k := 2) rfl (by rw [ev3]; rfl) (by decide) rfl (fun ls hl => ?_)
      refine lv_goto (tgt := 35) hx hb dX12_isHere_58 (by decide) ?_
      exact hk_35 v3 τ2 _ _ _ h hP hD hS (lv_sub hl [1, 2, 0] rfl)
set_option maxHeartbeats 4000000 in
set_option maxRecDepth 100000 in
theorem t_X12_isHere_35 (C0 : zCx p s m meth c args RX12 cX12_isHere 4 (some .boolean) vs_X12_isHere) (hK : va_K (dC, dI) vwCl (m_ty cI cJ cC) s) (N : Nat) {w : Nat} (hw : w < 19) {Q : Int32 → zSt → Prop} : ∀ (f : Nat) (x2 : Int32) (σ : zSt) (H : Heap) (locs : List Loc) (ls : Array Slot), w_X12_isHere_35 N w  Q f x2 σ → va_P (dC, dI) vwCl (m_W ad cI cJ cC σ) H → va_D (zAW m_n ad s.heap.size) (m_W ad cI cJ cC σ) → va_S (zAW m_n ad s.heap.size) s.heap H locs → lv_has ls 4 [(0, .ref (ad 0)), (1, .ref (ad (27 + w))), (2, .int x2)] → W p l e rm_X12_isHere s m args below meth c H locs 0 0 (MQ below (zQi (dC, dI) (m_ty cI cJ cC) (m_W ad cI cJ cC) (zAW m_n ad s.heap.size) Q) args s 0 0 (zAW m_n ad s.heap.size)) (F0 m 35 ls []) := by
  intro f
  induction f with
  | zero => intro x2 σ H locs ls h; exact h.elim
  | succ f ih =>
    intro x2 σ H locs ls h hP hD hS hl
    exact tb_X12_isHere_35 C0 hK N hw  (k_35 := w_X12_isHere_35 N w  Q f) ih x2 σ H locs ls h hP hD hS hl
set_option maxHeartbeats 4000000 in
set_option maxRecDepth 100000 in
theorem t_X12_isHere_0 (C0 : zCx p s m meth c args RX12 cX12_isHere 4 (some .boolean) vs_X12_isHere) (hK : va_K (dC, dI) vwCl (m_ty cI cJ cC) s) (N : Nat) {w : Nat} (hw : w < 19) {Q : Int32 → zSt → Prop} : ∀  (σ : zSt) (H : Heap) (locs : List Loc) (ls : Array Slot), w_X12_isHere N w  σ Q → va_P (dC, dI) vwCl (m_W ad cI cJ cC σ) H → va_D (zAW m_n ad s.heap.size) (m_W ad cI cJ cC σ) → va_S (zAW m_n ad s.heap.size) s.heap H locs → lv_has ls 4 [(0, .ref (ad 0)), (1, .ref (ad (27 + w)))] → W p l e rm_X12_isHere s m args below meth c H locs 0 0 (MQ below (zQi (dC, dI) (m_ty cI cJ cC) (m_W ad cI cJ cC) (zAW m_n ad s.heap.size) Q) args s 0 0 (zAW m_n ad s.heap.size)) (F0 m 0 ls []) := by
  obtain ⟨hx, hb, hml, hr, hown, hts, hlocks⟩ := id C0
  intro  σ H locs ls h hP hD hS hl
  unfold w_X12_isHere at h
  refine lv_aload_n hx hb dX12_isHere_0 rfl (lv_at hl 0 rfl) ?_
  refine mg_0_5 hx hb hts hown hK hP mw_838 dX12_isHere_1 ?_
  refine lv_if_ne (tgt := 28) hx hb dX12_isHere_4 (by decide) (fun hc => ?_) (fun hc => ?_)
  · have h := h.2 hc
    refine lv_iconst (v := (0 : Int32)) hx hb dX12_isHere_28 (by decide) ?_
    exact zret_z hx hb hr hlocks hK hP hD hS zb_0 h dX12_isHere_29
  · have h := h.1 hc
    refine lv_aload_n hx hb dX12_isHere_7 rfl (lv_at hl 0 rfl) ?_
    refine k_X12_look N ⟨hx, hb, hml, hown, hts⟩ mw_929 ⟨Nat.le_of_ble_eq_true rfl, Nat.le_of_ble_eq_true rfl⟩ h hK hP hD hS hl.1 (rest := []) (Nat.le_of_ble_eq_true rfl) ⟨Nat.le_of_ble_eq_true rfl, Nat.le_of_ble_eq_true rfl⟩ dX12_isHere_8 (fun r1 τ2 H locs h hP hD hS => ?_)
    refine k_X12_isLetter N ⟨hx, hb, hml, hown, hts⟩ mw_941 ⟨Nat.le_of_ble_eq_true rfl, Nat.le_of_ble_eq_true rfl⟩ h hK hP hD hS hl.1 (rest := []) (Nat.le_of_ble_eq_true rfl) ⟨Nat.le_of_ble_eq_true rfl, Nat.le_of_ble_eq_true rfl⟩ dX12_isHere_11 (fun r3 τ4 H locs h hP hD hS => ?_)
    refine lv_if_eq (tgt := 28) hx hb dX12_isHere_14 (by decide) (fun hc => ?_) (fun hc => ?_)
    · have h := h.1 hc
      refine lv_iconst (v := (0 : Int32)) hx hb dX12_isHere_28 (by decide) ?_
      exact zret_z hx hb hr hlocks hK hP hD hS zb_0 h dX12_isHere_29
    · have h := h.2 hc
      refine lv_aload_n hx hb dX12_isHere_17 rfl (lv_at hl 0 rfl) ?_
      refine mg_0_2 hx hb hts hown hK hP mw_835 dX12_isHere_18 ?_
      refine lv_aload_n hx hb dX12_isHere_21 rfl (lv_at hl 0 rfl) ?_
      refine mg_0_4 hx hb hts hown hK hP mw_837 dX12_isHere_22 ?_
      refine lv_icmp_ne (tgt := 30) hx hb dX12_isHere_25 (by decide) (fun hc => ?_) (fun hc => ?_)
      · have h := h.2 hc
        refine lv_aload_n hx hb dX12_isHere_30 rfl (lv_at hl 0 rfl) ?_
        refine mg_0_2 hx hb hts hown hK hP mw_835 dX12_isHere_31 ?_
        refine lv_topi (fun v5 ev5 => ?_)
        have h := h v5 ev5
        refine lv_istore_n (lv' := [(2, .int v5), (0, .ref (ad 0)), (1, .ref (ad (27 + w)))]) hx hb dX12_isHere_34 rfl hl (by decide) rfl (fun ls hl => ?_)
        exact t_X12_isHere_35 C0 hK N hw  N v5 τ4 _ _ _ h hP hD hS (lv_sub hl [1, 2, 0] rfl)
      · have h := h.1 hc
        refine lv_iconst (v := (0 : Int32)) hx hb dX12_isHere_28 (by decide) ?_
        exact zret_z hx hb hr hlocks hK hP hD hS zb_0 h dX12_isHere_29
set_option maxHeartbeats 4000000 in
set_option maxRecDepth 100000 in
theorem c_X12_isHere (N : Nat) {w : Nat} (hw : w < 19) (l : Launch) (dC : Nat → ClassId) (dI : Nat → Nat → Nat) (ad : Nat → Nat) (cI cJ cC : ClassId) (sz : Nat) (σ : zSt)  (Q : Int32 → zSt → Prop) (h : w_X12_isHere N w  σ Q) : Met l yX12_isHere vs_X12_isHere rm_X12_isHere (va_Pc [.ref (ad 0), .ref (ad (27 + w))] (zPc (dC, dI) (m_ty cI cJ cC) (m_W ad cI cJ cC) sz σ)) (zQi (dC, dI) (m_ty cI cJ cC) (m_W ad cI cJ cC) (zAW m_n ad sz) Q) 0 0 (zAW m_n ad sz) := by
  refine Met.ofW (cc := cX12_isHere) (maxL := 4) (ret := (some .boolean)) (by decide) rfl ?_
  intro p e s m args below meth c s₁ B hml hv
  obtain ⟨rfl, hsz, hP, hK, hD0⟩ := hv
  subst hsz
  have C0 : zCx p s m meth c _ RX12 cX12_isHere 4 (some .boolean) vs_X12_isHere := ⟨B.exec, B.bytes, hml, B.returns, findClass_of_methodNamed B.named, atoms_spec (ws := vs_X12_isHere) B.pre, B.notSynchronized⟩
  have hD := m_D0 (n0 := s.heap.size) hD0
  have hl := lv_entry ([.ref (ad 0), .ref (ad (27 + w))]) (n := 4) (Nat.le_of_ble_eq_true rfl)
  rw [lg_entry_eq]
  generalize (lg_sl ([.ref (ad 0), .ref (ad (27 + w))]) ++ List.replicate (4 - (lg_sl ([.ref (ad 0), .ref (ad (27 + w))])).length) Slot.unset).toArray = ls at hl ⊢
  exact t_X12_isHere_0 C0 hK N hw  σ _ _ ls h hP hD va_S.rf hl
theorem k_X12_isHere (N : Nat) {w : Nat} (hw : w < 19) {R : Room} {H : Heap} {locs : List Loc} {cells slots : Nat} {Q2 : State → Prop} {cc : ByteArray} {nL pc index : Nat} {ls : Array Slot} {rest : List Value} {own : String} {c0 : Cond} {σ : zSt}  {Q : Int32 → zSt → Prop} (S0 : CallFix p m c cc nL s args (c0 :: zT) own) (hml : Cond.methodLink own index yX12_isHere ∈ zT) (hR : rm_X12_isHere.frames + 1 ≤ R.frames ∧ 8 + (4 + 11) + rm_X12_isHere.locals ≤ R.locals) (h : w_X12_isHere N w  σ Q) (hK : va_K (dC, dI) vwCl (m_ty cI cJ cC) s) (hP : va_P (dC, dI) vwCl (m_W ad cI cJ cC σ) H) (hD : va_D (zAW m_n ad s.heap.size) (m_W ad cI cJ cC σ)) (hS : va_S (zAW m_n ad s.heap.size) s.heap H locs) (hsz : ls.size = nL) (hW : (rest.map fun v => v.category).sum ≤ 8) (hcs : cells ≤ R.cells ∧ slots ≤ R.slots) (hdg : decode cc pc = .ok (.invokevirtual index, 3)) (kk : ∀ (r : Int32) (τ : zSt) (H1 : Heap) (locs1 : List Loc), Q r τ → va_P (dC, dI) vwCl (m_W ad cI cJ cC τ) H1 → va_D (zAW m_n ad s.heap.size) (m_W ad cI cJ cC τ) → va_S (zAW m_n ad s.heap.size) s.heap H1 locs1 → W p l e R s m args below meth c H1 locs1 cells slots Q2 (F0 m (pc + 3) ls (.int r :: rest))) : W p l e R s m args below meth c H locs cells slots Q2 (F0 m pc ls (.ref (ad (27 + w)) :: .ref (ad 0) :: rest)) :=
  zcv_i (T := TX12) (N' := 83) (k := 0) (ci := 12) (fs := m_f0 ad σ) [.ref (ad (27 + w))] S0 (c_X12_isHere N hw l dC dI ad cI cJ cC H.size σ  Q h) (cw_X12_isHere S0.2.2.2.2 hml rfl rfl hR) rfl rfl hK hP hD hS rfl hsz hW rfl hcs hdg kk
end q14
section q14
def w_X12_takes (N : Nat) (w : Nat)  (σ : zSt) (Q : Int32 → zSt → Prop) : Prop :=
  w_X12_isHere N w σ (fun r1 τ2 => (r1 = 0 → Q (0 : Int32) τ2) ∧ (¬ r1 = 0 → ∀ τ3 : zSt, τ3 = zI τ2 1 ((τ2.1 1) + (Int32.ofNat (m_wl w))) → ∀ τ4 : zSt, τ4 = zI τ3 3 (τ3.1 1) → Q (1 : Int32) τ4))
variable {p : Program} {l : Launch} {e : Env} {s : State} {m : MethodId} {args : Array Value} {below : List Frame} {meth : Method} {c : Code} {dC : Nat → ClassId} {dI : Nat → Nat → Nat} {ad : Nat → Nat} {cI cJ cC : ClassId}
set_option maxHeartbeats 4000000 in
set_option maxRecDepth 100000 in
theorem t_X12_takes_0 (C0 : zCx p s m meth c args RX12 cX12_takes 2 (some .boolean) vs_X12_takes) (hK : va_K (dC, dI) vwCl (m_ty cI cJ cC) s) (N : Nat) {w : Nat} (hw : w < 19) {Q : Int32 → zSt → Prop} : ∀  (σ : zSt) (H : Heap) (locs : List Loc) (ls : Array Slot), w_X12_takes N w  σ Q → va_P (dC, dI) vwCl (m_W ad cI cJ cC σ) H → va_D (zAW m_n ad s.heap.size) (m_W ad cI cJ cC σ) → va_S (zAW m_n ad s.heap.size) s.heap H locs → lv_has ls 2 [(0, .ref (ad 0)), (1, .ref (ad (27 + w)))] → W p l e rm_X12_takes s m args below meth c H locs 0 0 (MQ below (zQi (dC, dI) (m_ty cI cJ cC) (m_W ad cI cJ cC) (zAW m_n ad s.heap.size) Q) args s 0 0 (zAW m_n ad s.heap.size)) (F0 m 0 ls []) := by
  obtain ⟨hx, hb, hml, hr, hown, hts, hlocks⟩ := id C0
  intro  σ H locs ls h hP hD hS hl
  unfold w_X12_takes at h
  refine lv_aload_n hx hb dX12_takes_0 rfl (lv_at hl 0 rfl) ?_
  refine lv_aload_n hx hb dX12_takes_1 rfl (lv_at hl 1 rfl) ?_
  refine k_X12_isHere N (w := w) hw ⟨hx, hb, hml, hown, hts⟩ mw_938 ⟨Nat.le_of_ble_eq_true rfl, Nat.le_of_ble_eq_true rfl⟩ h hK hP hD hS hl.1 (rest := []) (Nat.le_of_ble_eq_true rfl) ⟨Nat.le_of_ble_eq_true rfl, Nat.le_of_ble_eq_true rfl⟩ dX12_takes_2 (fun r1 τ2 H locs h hP hD hS => ?_)
  refine lv_if_ne (tgt := 10) hx hb dX12_takes_5 (by decide) (fun hc => ?_) (fun hc => ?_)
  · have h := h.2 hc
    refine lv_aload_n hx hb dX12_takes_10 rfl (lv_at hl 0 rfl) ?_
    refine lv_dup hx hb dX12_takes_11 rfl ?_
    refine mg_0_2 hx hb hts hown hK hP mw_835 dX12_takes_12 ?_
    refine lv_aload_n hx hb dX12_takes_15 rfl (lv_at hl 1 rfl) ?_
    refine ml_w hw hx hb hK hP dX12_takes_16 ?_
    refine lv_iadd hx hb dX12_takes_17 ?_
    refine mp_0_2 hx hb hts hown hK hP hD hS mw_835 dX12_takes_18 (fun τ3 H locs eτ3 hP hD hS => ?_)
    have h := h τ3 eτ3
    refine lv_aload_n hx hb dX12_takes_21 rfl (lv_at hl 0 rfl) ?_
    refine lv_aload_n hx hb dX12_takes_22 rfl (lv_at hl 0 rfl) ?_
    refine mg_0_2 hx hb hts hown hK hP mw_835 dX12_takes_23 ?_
    refine mp_0_4 hx hb hts hown hK hP hD hS mw_837 dX12_takes_26 (fun τ4 H locs eτ4 hP hD hS => ?_)
    have h := h τ4 eτ4
    refine lv_iconst (v := (1 : Int32)) hx hb dX12_takes_29 (by decide) ?_
    exact zret_z hx hb hr hlocks hK hP hD hS zb_1 h dX12_takes_30
  · have h := h.1 hc
    refine lv_iconst (v := (0 : Int32)) hx hb dX12_takes_8 (by decide) ?_
    exact zret_z hx hb hr hlocks hK hP hD hS zb_0 h dX12_takes_9
set_option maxHeartbeats 4000000 in
set_option maxRecDepth 100000 in
theorem c_X12_takes (N : Nat) {w : Nat} (hw : w < 19) (l : Launch) (dC : Nat → ClassId) (dI : Nat → Nat → Nat) (ad : Nat → Nat) (cI cJ cC : ClassId) (sz : Nat) (σ : zSt)  (Q : Int32 → zSt → Prop) (h : w_X12_takes N w  σ Q) : Met l yX12_takes vs_X12_takes rm_X12_takes (va_Pc [.ref (ad 0), .ref (ad (27 + w))] (zPc (dC, dI) (m_ty cI cJ cC) (m_W ad cI cJ cC) sz σ)) (zQi (dC, dI) (m_ty cI cJ cC) (m_W ad cI cJ cC) (zAW m_n ad sz) Q) 0 0 (zAW m_n ad sz) := by
  refine Met.ofW (cc := cX12_takes) (maxL := 2) (ret := (some .boolean)) (by decide) rfl ?_
  intro p e s m args below meth c s₁ B hml hv
  obtain ⟨rfl, hsz, hP, hK, hD0⟩ := hv
  subst hsz
  have C0 : zCx p s m meth c _ RX12 cX12_takes 2 (some .boolean) vs_X12_takes := ⟨B.exec, B.bytes, hml, B.returns, findClass_of_methodNamed B.named, atoms_spec (ws := vs_X12_takes) B.pre, B.notSynchronized⟩
  have hD := m_D0 (n0 := s.heap.size) hD0
  have hl := lv_entry ([.ref (ad 0), .ref (ad (27 + w))]) (n := 2) (Nat.le_of_ble_eq_true rfl)
  rw [lg_entry_eq]
  generalize (lg_sl ([.ref (ad 0), .ref (ad (27 + w))]) ++ List.replicate (2 - (lg_sl ([.ref (ad 0), .ref (ad (27 + w))])).length) Slot.unset).toArray = ls at hl ⊢
  exact t_X12_takes_0 C0 hK N hw  σ _ _ ls h hP hD va_S.rf hl
theorem k_X12_takes (N : Nat) {w : Nat} (hw : w < 19) {R : Room} {H : Heap} {locs : List Loc} {cells slots : Nat} {Q2 : State → Prop} {cc : ByteArray} {nL pc index : Nat} {ls : Array Slot} {rest : List Value} {own : String} {c0 : Cond} {σ : zSt}  {Q : Int32 → zSt → Prop} (S0 : CallFix p m c cc nL s args (c0 :: zT) own) (hml : Cond.methodLink own index yX12_takes ∈ zT) (hR : rm_X12_takes.frames + 1 ≤ R.frames ∧ 8 + (2 + 11) + rm_X12_takes.locals ≤ R.locals) (h : w_X12_takes N w  σ Q) (hK : va_K (dC, dI) vwCl (m_ty cI cJ cC) s) (hP : va_P (dC, dI) vwCl (m_W ad cI cJ cC σ) H) (hD : va_D (zAW m_n ad s.heap.size) (m_W ad cI cJ cC σ)) (hS : va_S (zAW m_n ad s.heap.size) s.heap H locs) (hsz : ls.size = nL) (hW : (rest.map fun v => v.category).sum ≤ 8) (hcs : cells ≤ R.cells ∧ slots ≤ R.slots) (hdg : decode cc pc = .ok (.invokevirtual index, 3)) (kk : ∀ (r : Int32) (τ : zSt) (H1 : Heap) (locs1 : List Loc), Q r τ → va_P (dC, dI) vwCl (m_W ad cI cJ cC τ) H1 → va_D (zAW m_n ad s.heap.size) (m_W ad cI cJ cC τ) → va_S (zAW m_n ad s.heap.size) s.heap H1 locs1 → W p l e R s m args below meth c H1 locs1 cells slots Q2 (F0 m (pc + 3) ls (.int r :: rest))) : W p l e R s m args below meth c H locs cells slots Q2 (F0 m pc ls (.ref (ad (27 + w)) :: .ref (ad 0) :: rest)) :=
  zcv_i (T := TX12) (N' := 83) (k := 0) (ci := 12) (fs := m_f0 ad σ) [.ref (ad (27 + w))] S0 (c_X12_takes N hw l dC dI ad cI cJ cC H.size σ  Q h) (cw_X12_takes S0.2.2.2.2 hml rfl rfl hR) rfl rfl hK hP hD hS rfl hsz hW rfl hcs hdg kk
end q14
section q14
def w_X12_fail (N : Nat) (x1 : Int32) (x2 : Int32) (σ : zSt) (Q : zSt → Prop) : Prop :=
  ((σ.1 4) = 0 → ∀ τ1 : zSt, τ1 = zI σ 4 x1 → ∀ τ2 : zSt, τ2 = zI τ1 5 x2 → Q τ2) ∧ (¬ (σ.1 4) = 0 → Q σ)
variable {p : Program} {l : Launch} {e : Env} {s : State} {m : MethodId} {args : Array Value} {below : List Frame} {meth : Method} {c : Code} {dC : Nat → ClassId} {dI : Nat → Nat → Nat} {ad : Nat → Nat} {cI cJ cC : ClassId}
set_option maxHeartbeats 4000000 in
set_option maxRecDepth 100000 in
theorem t_X12_fail_0 (C0 : zCx p s m meth c args RX12 cX12_fail 3 none vs_X12_fail) (hK : va_K (dC, dI) vwCl (m_ty cI cJ cC) s) (N : Nat) {Q : zSt → Prop} : ∀ (x1 : Int32) (x2 : Int32) (σ : zSt) (H : Heap) (locs : List Loc) (ls : Array Slot), w_X12_fail N x1 x2 σ Q → va_P (dC, dI) vwCl (m_W ad cI cJ cC σ) H → va_D (zAW m_n ad s.heap.size) (m_W ad cI cJ cC σ) → va_S (zAW m_n ad s.heap.size) s.heap H locs → lv_has ls 3 [(0, .ref (ad 0)), (1, .int x1), (2, .int x2)] → W p l e rm_X12_fail s m args below meth c H locs 0 0 (MQ below (zQv (dC, dI) (m_ty cI cJ cC) (m_W ad cI cJ cC) (zAW m_n ad s.heap.size) Q) args s 0 0 (zAW m_n ad s.heap.size)) (F0 m 0 ls []) := by
  obtain ⟨hx, hb, hml, hr, hown, hts, hlocks⟩ := id C0
  intro x1 x2 σ H locs ls h hP hD hS hl
  unfold w_X12_fail at h
  refine lv_aload_n hx hb dX12_fail_0 rfl (lv_at hl 0 rfl) ?_
  refine mg_0_5 hx hb hts hown hK hP mw_838 dX12_fail_1 ?_
  refine lv_if_eq (tgt := 8) hx hb dX12_fail_4 (by decide) (fun hc => ?_) (fun hc => ?_)
  · have h := h.1 hc
    refine lv_aload_n hx hb dX12_fail_8 rfl (lv_at hl 0 rfl) ?_
    refine lv_iload_n hx hb dX12_fail_9 rfl (lv_at hl 1 rfl) ?_
    refine mp_0_5 hx hb hts hown hK hP hD hS mw_838 dX12_fail_10 (fun τ1 H locs eτ1 hP hD hS => ?_)
    have h := h τ1 eτ1
    refine lv_aload_n hx hb dX12_fail_13 rfl (lv_at hl 0 rfl) ?_
    refine lv_iload_n hx hb dX12_fail_14 rfl (lv_at hl 2 rfl) ?_
    refine mp_0_6 hx hb hts hown hK hP hD hS mw_839 dX12_fail_15 (fun τ2 H locs eτ2 hP hD hS => ?_)
    have h := h τ2 eτ2
    exact zret_v hx hb hr hlocks hK hP hD hS h dX12_fail_18
  · have h := h.2 hc
    exact zret_v hx hb hr hlocks hK hP hD hS h dX12_fail_7
set_option maxHeartbeats 4000000 in
set_option maxRecDepth 100000 in
theorem c_X12_fail (N : Nat) (l : Launch) (dC : Nat → ClassId) (dI : Nat → Nat → Nat) (ad : Nat → Nat) (cI cJ cC : ClassId) (sz : Nat) (σ : zSt) (x1 : Int32) (x2 : Int32) (Q : zSt → Prop) (h : w_X12_fail N x1 x2 σ Q) : Met l yX12_fail vs_X12_fail rm_X12_fail (va_Pc [.ref (ad 0), .int x1, .int x2] (zPc (dC, dI) (m_ty cI cJ cC) (m_W ad cI cJ cC) sz σ)) (zQv (dC, dI) (m_ty cI cJ cC) (m_W ad cI cJ cC) (zAW m_n ad sz) Q) 0 0 (zAW m_n ad sz) := by
  refine Met.ofW (cc := cX12_fail) (maxL := 3) (ret := none) (by decide) rfl ?_
  intro p e s m args below meth c s₁ B hml hv
  obtain ⟨rfl, hsz, hP, hK, hD0⟩ := hv
  subst hsz
  have C0 : zCx p s m meth c _ RX12 cX12_fail 3 none vs_X12_fail := ⟨B.exec, B.bytes, hml, B.returns, findClass_of_methodNamed B.named, atoms_spec (ws := vs_X12_fail) B.pre, B.notSynchronized⟩
  have hD := m_D0 (n0 := s.heap.size) hD0
  have hl := lv_entry ([.ref (ad 0), .int x1, .int x2]) (n := 3) (Nat.le_of_ble_eq_true rfl)
  rw [lg_entry_eq]
  generalize (lg_sl ([.ref (ad 0), .int x1, .int x2]) ++ List.replicate (3 - (lg_sl ([.ref (ad 0), .int x1, .int x2])).length) Slot.unset).toArray = ls at hl ⊢
  exact t_X12_fail_0 C0 hK N x1 x2 σ _ _ ls h hP hD va_S.rf hl
theorem k_X12_fail (N : Nat) {R : Room} {H : Heap} {locs : List Loc} {cells slots : Nat} {Q2 : State → Prop} {cc : ByteArray} {nL pc index : Nat} {ls : Array Slot} {rest : List Value} {own : String} {c0 : Cond} {σ : zSt} {x1 : Int32} {x2 : Int32} {Q : zSt → Prop} (S0 : CallFix p m c cc nL s args (c0 :: zT) own) (hml : Cond.methodLink own index yX12_fail ∈ zT) (hR : rm_X12_fail.frames + 1 ≤ R.frames ∧ 8 + (3 + 11) + rm_X12_fail.locals ≤ R.locals) (h : w_X12_fail N x1 x2 σ Q) (hK : va_K (dC, dI) vwCl (m_ty cI cJ cC) s) (hP : va_P (dC, dI) vwCl (m_W ad cI cJ cC σ) H) (hD : va_D (zAW m_n ad s.heap.size) (m_W ad cI cJ cC σ)) (hS : va_S (zAW m_n ad s.heap.size) s.heap H locs) (hsz : ls.size = nL) (hW : (rest.map fun v => v.category).sum ≤ 8) (hcs : cells ≤ R.cells ∧ slots ≤ R.slots) (hdg : decode cc pc = .ok (.invokevirtual index, 3)) (kk : ∀ (τ : zSt) (H1 : Heap) (locs1 : List Loc), Q τ → va_P (dC, dI) vwCl (m_W ad cI cJ cC τ) H1 → va_D (zAW m_n ad s.heap.size) (m_W ad cI cJ cC τ) → va_S (zAW m_n ad s.heap.size) s.heap H1 locs1 → W p l e R s m args below meth c H1 locs1 cells slots Q2 (F0 m (pc + 3) ls (rest))) : W p l e R s m args below meth c H locs cells slots Q2 (F0 m pc ls (.int x2 :: .int x1 :: .ref (ad 0) :: rest)) :=
  zcv_v (T := TX12) (N' := 83) (k := 0) (ci := 12) (fs := m_f0 ad σ) [.int x1, .int x2] S0 (c_X12_fail N l dC dI ad cI cJ cC H.size σ x1 x2 Q h) (cw_X12_fail S0.2.2.2.2 hml rfl rfl hR) rfl rfl hK hP hD hS rfl hsz hW rfl hcs hdg kk
end q14
section q14
def w_X12_asks (N : Nat) (w : Nat)  (σ : zSt) (Q : zSt → Prop) : Prop :=
  ((σ.1 4) = 0 → w_X12_takes N w σ (fun r1 τ2 => (r1 = 0 → w_X12_fail N (1 : Int32) (τ2.1 1) τ2 (fun τ4 => Q τ4)) ∧ (¬ r1 = 0 → Q τ2))) ∧ (¬ (σ.1 4) = 0 → Q σ)
variable {p : Program} {l : Launch} {e : Env} {s : State} {m : MethodId} {args : Array Value} {below : List Frame} {meth : Method} {c : Code} {dC : Nat → ClassId} {dI : Nat → Nat → Nat} {ad : Nat → Nat} {cI cJ cC : ClassId}
set_option maxHeartbeats 4000000 in
set_option maxRecDepth 100000 in
theorem t_X12_asks_0 (C0 : zCx p s m meth c args RX12 cX12_asks 2 none vs_X12_asks) (hK : va_K (dC, dI) vwCl (m_ty cI cJ cC) s) (N : Nat) {w : Nat} (hw : w < 19) {Q : zSt → Prop} : ∀  (σ : zSt) (H : Heap) (locs : List Loc) (ls : Array Slot), w_X12_asks N w  σ Q → va_P (dC, dI) vwCl (m_W ad cI cJ cC σ) H → va_D (zAW m_n ad s.heap.size) (m_W ad cI cJ cC σ) → va_S (zAW m_n ad s.heap.size) s.heap H locs → lv_has ls 2 [(0, .ref (ad 0)), (1, .ref (ad (27 + w)))] → W p l e rm_X12_asks s m args below meth c H locs 0 0 (MQ below (zQv (dC, dI) (m_ty cI cJ cC) (m_W ad cI cJ cC) (zAW m_n ad s.heap.size) Q) args s 0 0 (zAW m_n ad s.heap.size)) (F0 m 0 ls []) := by
  obtain ⟨hx, hb, hml, hr, hown, hts, hlocks⟩ := id C0
  intro  σ H locs ls h hP hD hS hl
  unfold w_X12_asks at h
  refine lv_aload_n hx hb dX12_asks_0 rfl (lv_at hl 0 rfl) ?_
  refine mg_0_5 hx hb hts hown hK hP mw_838 dX12_asks_1 ?_
  refine lv_if_ne (tgt := 24) hx hb dX12_asks_4 (by decide) (fun hc => ?_) (fun hc => ?_)
  · have h := h.2 hc
    exact zret_v hx hb hr hlocks hK hP hD hS h dX12_asks_24
  · have h := h.1 hc
    refine lv_aload_n hx hb dX12_asks_7 rfl (lv_at hl 0 rfl) ?_
    refine lv_aload_n hx hb dX12_asks_8 rfl (lv_at hl 1 rfl) ?_
    refine k_X12_takes N (w := w) hw ⟨hx, hb, hml, hown, hts⟩ mw_935 ⟨Nat.le_of_ble_eq_true rfl, Nat.le_of_ble_eq_true rfl⟩ h hK hP hD hS hl.1 (rest := []) (Nat.le_of_ble_eq_true rfl) ⟨Nat.le_of_ble_eq_true rfl, Nat.le_of_ble_eq_true rfl⟩ dX12_asks_9 (fun r1 τ2 H locs h hP hD hS => ?_)
    refine lv_if_ne (tgt := 24) hx hb dX12_asks_12 (by decide) (fun hc => ?_) (fun hc => ?_)
    · have h := h.2 hc
      exact zret_v hx hb hr hlocks hK hP hD hS h dX12_asks_24
    · have h := h.1 hc
      refine lv_aload_n hx hb dX12_asks_15 rfl (lv_at hl 0 rfl) ?_
      refine lv_iconst (v := (1 : Int32)) hx hb dX12_asks_16 (by decide) ?_
      refine lv_aload_n hx hb dX12_asks_17 rfl (lv_at hl 0 rfl) ?_
      refine mg_0_2 hx hb hts hown hK hP mw_835 dX12_asks_18 ?_
      refine k_X12_fail N ⟨hx, hb, hml, hown, hts⟩ mw_944 ⟨Nat.le_of_ble_eq_true rfl, Nat.le_of_ble_eq_true rfl⟩ h hK hP hD hS hl.1 (rest := []) (Nat.le_of_ble_eq_true rfl) ⟨Nat.le_of_ble_eq_true rfl, Nat.le_of_ble_eq_true rfl⟩ dX12_asks_21 (fun τ4 H locs h hP hD hS => ?_)
      exact zret_v hx hb hr hlocks hK hP hD hS h dX12_asks_24
set_option maxHeartbeats 4000000 in
set_option maxRecDepth 100000 in
theorem c_X12_asks (N : Nat) {w : Nat} (hw : w < 19) (l : Launch) (dC : Nat → ClassId) (dI : Nat → Nat → Nat) (ad : Nat → Nat) (cI cJ cC : ClassId) (sz : Nat) (σ : zSt)  (Q : zSt → Prop) (h : w_X12_asks N w  σ Q) : Met l yX12_asks vs_X12_asks rm_X12_asks (va_Pc [.ref (ad 0), .ref (ad (27 + w))] (zPc (dC, dI) (m_ty cI cJ cC) (m_W ad cI cJ cC) sz σ)) (zQv (dC, dI) (m_ty cI cJ cC) (m_W ad cI cJ cC) (zAW m_n ad sz) Q) 0 0 (zAW m_n ad sz) := by
  refine Met.ofW (cc := cX12_asks) (maxL := 2) (ret := none) (by decide) rfl ?_
  intro p e s m args below meth c s₁ B hml hv
  obtain ⟨rfl, hsz, hP, hK, hD0⟩ := hv
  subst hsz
  have C0 : zCx p s m meth c _ RX12 cX12_asks 2 none vs_X12_asks := ⟨B.exec, B.bytes, hml, B.returns, findClass_of_methodNamed B.named, atoms_spec (ws := vs_X12_asks) B.pre, B.notSynchronized⟩
  have hD := m_D0 (n0 := s.heap.size) hD0
  have hl := lv_entry ([.ref (ad 0), .ref (ad (27 + w))]) (n := 2) (Nat.le_of_ble_eq_true rfl)
  rw [lg_entry_eq]
  generalize (lg_sl ([.ref (ad 0), .ref (ad (27 + w))]) ++ List.replicate (2 - (lg_sl ([.ref (ad 0), .ref (ad (27 + w))])).length) Slot.unset).toArray = ls at hl ⊢
  exact t_X12_asks_0 C0 hK N hw  σ _ _ ls h hP hD va_S.rf hl
theorem k_X12_asks (N : Nat) {w : Nat} (hw : w < 19) {R : Room} {H : Heap} {locs : List Loc} {cells slots : Nat} {Q2 : State → Prop} {cc : ByteArray} {nL pc index : Nat} {ls : Array Slot} {rest : List Value} {own : String} {c0 : Cond} {σ : zSt}  {Q : zSt → Prop} (S0 : CallFix p m c cc nL s args (c0 :: zT) own) (hml : Cond.methodLink own index yX12_asks ∈ zT) (hR : rm_X12_asks.frames + 1 ≤ R.frames ∧ 8 + (2 + 11) + rm_X12_asks.locals ≤ R.locals) (h : w_X12_asks N w  σ Q) (hK : va_K (dC, dI) vwCl (m_ty cI cJ cC) s) (hP : va_P (dC, dI) vwCl (m_W ad cI cJ cC σ) H) (hD : va_D (zAW m_n ad s.heap.size) (m_W ad cI cJ cC σ)) (hS : va_S (zAW m_n ad s.heap.size) s.heap H locs) (hsz : ls.size = nL) (hW : (rest.map fun v => v.category).sum ≤ 8) (hcs : cells ≤ R.cells ∧ slots ≤ R.slots) (hdg : decode cc pc = .ok (.invokevirtual index, 3)) (kk : ∀ (τ : zSt) (H1 : Heap) (locs1 : List Loc), Q τ → va_P (dC, dI) vwCl (m_W ad cI cJ cC τ) H1 → va_D (zAW m_n ad s.heap.size) (m_W ad cI cJ cC τ) → va_S (zAW m_n ad s.heap.size) s.heap H1 locs1 → W p l e R s m args below meth c H1 locs1 cells slots Q2 (F0 m (pc + 3) ls (rest))) : W p l e R s m args below meth c H locs cells slots Q2 (F0 m pc ls (.ref (ad (27 + w)) :: .ref (ad 0) :: rest)) :=
  zcv_v (T := TX12) (N' := 83) (k := 0) (ci := 12) (fs := m_f0 ad σ) [.ref (ad (27 + w))] S0 (c_X12_asks N hw l dC dI ad cI cJ cC H.size σ  Q h) (cw_X12_asks S0.2.2.2.2 hml rfl rfl hR) rfl rfl hK hP hD hS rfl hsz hW rfl hcs hdg kk
end q14
section q14
def w_X12_code (N : Nat) (x1 : Int32) (σ : zSt) (Q : zSt → Prop) : Prop :=
  (vp_in ((0 : Int32) + (σ.1 9)) 1800) ∧ (∀ τ1 : zSt, τ1 = zA σ 10 (upd (σ.2.2.1 10) (((0 : Int32) + (σ.1 9)).toNatClampNeg) x1) → ∀ τ2 : zSt, τ2 = zI τ1 9 ((τ1.1 9) + (1 : Int32)) → Q τ2)
variable {p : Program} {l : Launch} {e : Env} {s : State} {m : MethodId} {args : Array Value} {below : List Frame} {meth : Method} {c : Code} {dC : Nat → ClassId} {dI : Nat → Nat → Nat} {ad : Nat → Nat} {cI cJ cC : ClassId}
set_option maxHeartbeats 4000000 in
set_option maxRecDepth 100000 in
theorem t_X12_code_0 (C0 : zCx p s m meth c args RX12 cX12_code 2 none vs_X12_code) (hK : va_K (dC, dI) vwCl (m_ty cI cJ cC) s) (N : Nat) {Q : zSt → Prop} : ∀ (x1 : Int32) (σ : zSt) (H : Heap) (locs : List Loc) (ls : Array Slot), w_X12_code N x1 σ Q → va_P (dC, dI) vwCl (m_W ad cI cJ cC σ) H → va_D (zAW m_n ad s.heap.size) (m_W ad cI cJ cC σ) → va_S (zAW m_n ad s.heap.size) s.heap H locs → lv_has ls 2 [(0, .ref (ad 0)), (1, .int x1)] → W p l e rm_X12_code s m args below meth c H locs 0 0 (MQ below (zQv (dC, dI) (m_ty cI cJ cC) (m_W ad cI cJ cC) (zAW m_n ad s.heap.size) Q) args s 0 0 (zAW m_n ad s.heap.size)) (F0 m 0 ls []) := by
  obtain ⟨hx, hb, hml, hr, hown, hts, hlocks⟩ := id C0
  intro x1 σ H locs ls h hP hD hS hl
  unfold w_X12_code at h
  refine lv_aload_n hx hb dX12_code_0 rfl (lv_at hl 0 rfl) ?_
  refine mg_0_40 hx hb hts hown hK hP mw_873 dX12_code_1 ?_
  refine lv_iconst (v := (0 : Int32)) hx hb dX12_code_4 (by decide) ?_
  refine lv_aload_n hx hb dX12_code_5 rfl (lv_at hl 0 rfl) ?_
  refine mg_0_41 hx hb hts hown hK hP mw_874 dX12_code_6 ?_
  refine lv_iadd hx hb dX12_code_9 ?_
  refine lv_iload_n hx hb dX12_code_10 rfl (lv_at hl 1 rfl) ?_
  refine ms_13 hx hb hK hP hD hS h.1 rfl dX12_code_11 (fun τ1 H locs eτ1 hP hD hS => ?_)
  have h := h.2
  have h := h τ1 eτ1
  refine lv_aload_n hx hb dX12_code_12 rfl (lv_at hl 0 rfl) ?_
  refine lv_dup hx hb dX12_code_13 rfl ?_
  refine mg_0_41 hx hb hts hown hK hP mw_874 dX12_code_14 ?_
  refine lv_iconst (v := (1 : Int32)) hx hb dX12_code_17 (by decide) ?_
  refine lv_iadd hx hb dX12_code_18 ?_
  refine mp_0_41 hx hb hts hown hK hP hD hS mw_874 dX12_code_19 (fun τ2 H locs eτ2 hP hD hS => ?_)
  have h := h τ2 eτ2
  exact zret_v hx hb hr hlocks hK hP hD hS h dX12_code_22
set_option maxHeartbeats 4000000 in
set_option maxRecDepth 100000 in
theorem c_X12_code (N : Nat) (l : Launch) (dC : Nat → ClassId) (dI : Nat → Nat → Nat) (ad : Nat → Nat) (cI cJ cC : ClassId) (sz : Nat) (σ : zSt) (x1 : Int32) (Q : zSt → Prop) (h : w_X12_code N x1 σ Q) : Met l yX12_code vs_X12_code rm_X12_code (va_Pc [.ref (ad 0), .int x1] (zPc (dC, dI) (m_ty cI cJ cC) (m_W ad cI cJ cC) sz σ)) (zQv (dC, dI) (m_ty cI cJ cC) (m_W ad cI cJ cC) (zAW m_n ad sz) Q) 0 0 (zAW m_n ad sz) := by
  refine Met.ofW (cc := cX12_code) (maxL := 2) (ret := none) (by decide) rfl ?_
  intro p e s m args below meth c s₁ B hml hv
  obtain ⟨rfl, hsz, hP, hK, hD0⟩ := hv
  subst hsz
  have C0 : zCx p s m meth c _ RX12 cX12_code 2 none vs_X12_code := ⟨B.exec, B.bytes, hml, B.returns, findClass_of_methodNamed B.named, atoms_spec (ws := vs_X12_code) B.pre, B.notSynchronized⟩
  have hD := m_D0 (n0 := s.heap.size) hD0
  have hl := lv_entry ([.ref (ad 0), .int x1]) (n := 2) (Nat.le_of_ble_eq_true rfl)
  rw [lg_entry_eq]
  generalize (lg_sl ([.ref (ad 0), .int x1]) ++ List.replicate (2 - (lg_sl ([.ref (ad 0), .int x1])).length) Slot.unset).toArray = ls at hl ⊢
  exact t_X12_code_0 C0 hK N x1 σ _ _ ls h hP hD va_S.rf hl
theorem k_X12_code (N : Nat) {R : Room} {H : Heap} {locs : List Loc} {cells slots : Nat} {Q2 : State → Prop} {cc : ByteArray} {nL pc index : Nat} {ls : Array Slot} {rest : List Value} {own : String} {c0 : Cond} {σ : zSt} {x1 : Int32} {Q : zSt → Prop} (S0 : CallFix p m c cc nL s args (c0 :: zT) own) (hml : Cond.methodLink own index yX12_code ∈ zT) (hR : rm_X12_code.frames + 1 ≤ R.frames ∧ 8 + (2 + 11) + rm_X12_code.locals ≤ R.locals) (h : w_X12_code N x1 σ Q) (hK : va_K (dC, dI) vwCl (m_ty cI cJ cC) s) (hP : va_P (dC, dI) vwCl (m_W ad cI cJ cC σ) H) (hD : va_D (zAW m_n ad s.heap.size) (m_W ad cI cJ cC σ)) (hS : va_S (zAW m_n ad s.heap.size) s.heap H locs) (hsz : ls.size = nL) (hW : (rest.map fun v => v.category).sum ≤ 8) (hcs : cells ≤ R.cells ∧ slots ≤ R.slots) (hdg : decode cc pc = .ok (.invokevirtual index, 3)) (kk : ∀ (τ : zSt) (H1 : Heap) (locs1 : List Loc), Q τ → va_P (dC, dI) vwCl (m_W ad cI cJ cC τ) H1 → va_D (zAW m_n ad s.heap.size) (m_W ad cI cJ cC τ) → va_S (zAW m_n ad s.heap.size) s.heap H1 locs1 → W p l e R s m args below meth c H1 locs1 cells slots Q2 (F0 m (pc + 3) ls (rest))) : W p l e R s m args below meth c H locs cells slots Q2 (F0 m pc ls (.int x1 :: .ref (ad 0) :: rest)) :=
  zcv_v (T := TX12) (N' := 83) (k := 0) (ci := 12) (fs := m_f0 ad σ) [.int x1] S0 (c_X12_code N l dC dI ad cI cJ cC H.size σ x1 Q h) (cw_X12_code S0.2.2.2.2 hml rfl rfl hR) rfl rfl hK hP hD hS rfl hsz hW rfl hcs hdg kk
end q14
section q14
def w_X12_drops (N : Nat)  (σ : zSt) (Q : zSt → Prop) : Prop :=
  ∀ τ1 : zSt, τ1 = zI σ 10 ((σ.1 10) - (1 : Int32)) → (vp_in (τ1.1 10) 900) ∧ (w_X12_code N (τ1.2.2.1 11 (τ1.1 10).toNatClampNeg) τ1 (fun τ3 => Q τ3))
variable {p : Program} {l : Launch} {e : Env} {s : State} {m : MethodId} {args : Array Value} {below : List Frame} {meth : Method} {c : Code} {dC : Nat → ClassId} {dI : Nat → Nat → Nat} {ad : Nat → Nat} {cI cJ cC : ClassId}
set_option maxHeartbeats 4000000 in
set_option maxRecDepth 100000 in
theorem t_X12_drops_0 (C0 : zCx p s m meth c args RX12 cX12_drops 1 none vs_X12_drops) (hK : va_K (dC, dI) vwCl (m_ty cI cJ cC) s) (N : Nat) {Q : zSt → Prop} : ∀  (σ : zSt) (H : Heap) (locs : List Loc) (ls : Array Slot), w_X12_drops N  σ Q → va_P (dC, dI) vwCl (m_W ad cI cJ cC σ) H → va_D (zAW m_n ad s.heap.size) (m_W ad cI cJ cC σ) → va_S (zAW m_n ad s.heap.size) s.heap H locs → lv_has ls 1 [(0, .ref (ad 0))] → W p l e rm_X12_drops s m args below meth c H locs 0 0 (MQ below (zQv (dC, dI) (m_ty cI cJ cC) (m_W ad cI cJ cC) (zAW m_n ad s.heap.size) Q) args s 0 0 (zAW m_n ad s.heap.size)) (F0 m 0 ls []) := by
  obtain ⟨hx, hb, hml, hr, hown, hts, hlocks⟩ := id C0
  intro  σ H locs ls h hP hD hS hl
  unfold w_X12_drops at h
  refine lv_aload_n hx hb dX12_drops_0 rfl (lv_at hl 0 rfl) ?_
  refine lv_dup hx hb dX12_drops_1 rfl ?_
  refine mg_0_43 hx hb hts hown hK hP mw_876 dX12_drops_2 ?_
  refine lv_iconst (v := (1 : Int32)) hx hb dX12_drops_5 (by decide) ?_
  refine lv_isub hx hb dX12_drops_6 ?_
  refine mp_0_43 hx hb hts hown hK hP hD hS mw_876 dX12_drops_7 (fun τ1 H locs eτ1 hP hD hS => ?_)
  have h := h τ1 eτ1
  refine lv_aload_n hx hb dX12_drops_10 rfl (lv_at hl 0 rfl) ?_
  refine lv_aload_n hx hb dX12_drops_11 rfl (lv_at hl 0 rfl) ?_
  refine mg_0_42 hx hb hts hown hK hP mw_875 dX12_drops_12 ?_
  refine lv_aload_n hx hb dX12_drops_15 rfl (lv_at hl 0 rfl) ?_
  refine mg_0_43 hx hb hts hown hK hP mw_876 dX12_drops_16 ?_
  refine ma_14 hx hb hK hP h.1 rfl dX12_drops_19 ?_
  have h := h.2
  refine k_X12_code N ⟨hx, hb, hml, hown, hts⟩ mw_991 ⟨Nat.le_of_ble_eq_true rfl, Nat.le_of_ble_eq_true rfl⟩ h hK hP hD hS hl.1 (rest := []) (Nat.le_of_ble_eq_true rfl) ⟨Nat.le_of_ble_eq_true rfl, Nat.le_of_ble_eq_true rfl⟩ dX12_drops_20 (fun τ3 H locs h hP hD hS => ?_)
  exact zret_v hx hb hr hlocks hK hP hD hS h dX12_drops_23
set_option maxHeartbeats 4000000 in
set_option maxRecDepth 100000 in
theorem c_X12_drops (N : Nat) (l : Launch) (dC : Nat → ClassId) (dI : Nat → Nat → Nat) (ad : Nat → Nat) (cI cJ cC : ClassId) (sz : Nat) (σ : zSt)  (Q : zSt → Prop) (h : w_X12_drops N  σ Q) : Met l yX12_drops vs_X12_drops rm_X12_drops (va_Pc [.ref (ad 0)] (zPc (dC, dI) (m_ty cI cJ cC) (m_W ad cI cJ cC) sz σ)) (zQv (dC, dI) (m_ty cI cJ cC) (m_W ad cI cJ cC) (zAW m_n ad sz) Q) 0 0 (zAW m_n ad sz) := by
  refine Met.ofW (cc := cX12_drops) (maxL := 1) (ret := none) (by decide) rfl ?_
  intro p e s m args below meth c s₁ B hml hv
  obtain ⟨rfl, hsz, hP, hK, hD0⟩ := hv
  subst hsz
  have C0 : zCx p s m meth c _ RX12 cX12_drops 1 none vs_X12_drops := ⟨B.exec, B.bytes, hml, B.returns, findClass_of_methodNamed B.named, atoms_spec (ws := vs_X12_drops) B.pre, B.notSynchronized⟩
  have hD := m_D0 (n0 := s.heap.size) hD0
  have hl := lv_entry ([.ref (ad 0)]) (n := 1) (Nat.le_of_ble_eq_true rfl)
  rw [lg_entry_eq]
  generalize (lg_sl ([.ref (ad 0)]) ++ List.replicate (1 - (lg_sl ([.ref (ad 0)])).length) Slot.unset).toArray = ls at hl ⊢
  exact t_X12_drops_0 C0 hK N  σ _ _ ls h hP hD va_S.rf hl
theorem k_X12_drops (N : Nat) {R : Room} {H : Heap} {locs : List Loc} {cells slots : Nat} {Q2 : State → Prop} {cc : ByteArray} {nL pc index : Nat} {ls : Array Slot} {rest : List Value} {own : String} {c0 : Cond} {σ : zSt}  {Q : zSt → Prop} (S0 : CallFix p m c cc nL s args (c0 :: zT) own) (hml : Cond.methodLink own index yX12_drops ∈ zT) (hR : rm_X12_drops.frames + 1 ≤ R.frames ∧ 8 + (1 + 11) + rm_X12_drops.locals ≤ R.locals) (h : w_X12_drops N  σ Q) (hK : va_K (dC, dI) vwCl (m_ty cI cJ cC) s) (hP : va_P (dC, dI) vwCl (m_W ad cI cJ cC σ) H) (hD : va_D (zAW m_n ad s.heap.size) (m_W ad cI cJ cC σ)) (hS : va_S (zAW m_n ad s.heap.size) s.heap H locs) (hsz : ls.size = nL) (hW : (rest.map fun v => v.category).sum ≤ 8) (hcs : cells ≤ R.cells ∧ slots ≤ R.slots) (hdg : decode cc pc = .ok (.invokevirtual index, 3)) (kk : ∀ (τ : zSt) (H1 : Heap) (locs1 : List Loc), Q τ → va_P (dC, dI) vwCl (m_W ad cI cJ cC τ) H1 → va_D (zAW m_n ad s.heap.size) (m_W ad cI cJ cC τ) → va_S (zAW m_n ad s.heap.size) s.heap H1 locs1 → W p l e R s m args below meth c H1 locs1 cells slots Q2 (F0 m (pc + 3) ls (rest))) : W p l e R s m args below meth c H locs cells slots Q2 (F0 m pc ls (.ref (ad 0) :: rest)) :=
  zcv_v (T := TX12) (N' := 83) (k := 0) (ci := 12) (fs := m_f0 ad σ) [] S0 (c_X12_drops N l dC dI ad cI cJ cC H.size σ  Q h) (cw_X12_drops S0.2.2.2.2 hml rfl rfl hR) rfl rfl hK hP hD hS rfl hsz hW rfl hcs hdg kk
end q14
section q14
def w_X12_isDigit (N : Nat) (x0 : Int32) (σ : zSt) (Q : Int32 → zSt → Prop) : Prop :=
  (x0 < (48 : Int32) → Q (0 : Int32) σ) ∧ (¬ x0 < (48 : Int32) → ((57 : Int32) < x0 → Q (0 : Int32) σ) ∧ (¬ (57 : Int32) < x0 → Q (1 : Int32) σ))
variable {p : Program} {l : Launch} {e : Env} {s : State} {m : MethodId} {args : Array Value} {below : List Frame} {meth : Method} {c : Code} {dC : Nat → ClassId} {dI : Nat → Nat → Nat} {ad : Nat → Nat} {cI cJ cC : ClassId}
set_option maxHeartbeats 4000000 in
set_option maxRecDepth 100000 in
theorem t_X12_isDigit_0 (C0 : zCx p s m meth c args RX12 cX12_isDigit 1 (some .boolean) vs_X12_isDigit) (hK : va_K (dC, dI) vwCl (m_ty cI cJ cC) s) (N : Nat) {Q : Int32 → zSt → Prop} : ∀ (x0 : Int32) (σ : zSt) (H : Heap) (locs : List Loc) (ls : Array Slot), w_X12_isDigit N x0 σ Q → va_P (dC, dI) vwCl (m_W ad cI cJ cC σ) H → va_D (zAW m_n ad s.heap.size) (m_W ad cI cJ cC σ) → va_S (zAW m_n ad s.heap.size) s.heap H locs → lv_has ls 1 [(0, .int x0)] → W p l e rm_X12_isDigit s m args below meth c H locs 0 0 (MQ below (zQi (dC, dI) (m_ty cI cJ cC) (m_W ad cI cJ cC) (zAW m_n ad s.heap.size) Q) args s 0 0 (zAW m_n ad s.heap.size)) (F0 m 0 ls []) := by
  obtain ⟨hx, hb, hml, hr, hown, hts, hlocks⟩ := id C0
  intro x0 σ H locs ls h hP hD hS hl
  unfold w_X12_isDigit at h
  refine lv_iload_n hx hb dX12_isDigit_0 rfl (lv_at hl 0 rfl) ?_
  refine lv_bipush (v := (48 : Int32)) hx hb dX12_isDigit_1 (by decide) ?_
  refine lv_icmp_lt (tgt := 16) hx hb dX12_isDigit_3 (by decide) (fun hc => ?_) (fun hc => ?_)
  · have h := h.1 hc
    refine lv_iconst (v := (0 : Int32)) hx hb dX12_isDigit_16 (by decide) ?_
    exact zret_z hx hb hr hlocks hK hP hD hS zb_0 h dX12_isDigit_17
  · have h := h.2 hc
    refine lv_iload_n hx hb dX12_isDigit_6 rfl (lv_at hl 0 rfl) ?_
    refine lv_bipush (v := (57 : Int32)) hx hb dX12_isDigit_7 (by decide) ?_
    refine lv_icmp_gt (tgt := 16) hx hb dX12_isDigit_9 (by decide) (fun hc => ?_) (fun hc => ?_)
    · have h := h.1 hc
      refine lv_iconst (v := (0 : Int32)) hx hb dX12_isDigit_16 (by decide) ?_
      exact zret_z hx hb hr hlocks hK hP hD hS zb_0 h dX12_isDigit_17
    · have h := h.2 hc
      refine lv_iconst (v := (1 : Int32)) hx hb dX12_isDigit_12 (by decide) ?_
      refine lv_goto (tgt := 17) hx hb dX12_isDigit_13 (by decide) ?_
      exact zret_z hx hb hr hlocks hK hP hD hS zb_1 h dX12_isDigit_17
set_option maxHeartbeats 4000000 in
set_option maxRecDepth 100000 in
theorem c_X12_isDigit (N : Nat) (l : Launch) (dC : Nat → ClassId) (dI : Nat → Nat → Nat) (ad : Nat → Nat) (cI cJ cC : ClassId) (sz : Nat) (σ : zSt) (x0 : Int32) (Q : Int32 → zSt → Prop) (h : w_X12_isDigit N x0 σ Q) : Met l yX12_isDigit vs_X12_isDigit rm_X12_isDigit (va_Pc [.int x0] (zPc (dC, dI) (m_ty cI cJ cC) (m_W ad cI cJ cC) sz σ)) (zQi (dC, dI) (m_ty cI cJ cC) (m_W ad cI cJ cC) (zAW m_n ad sz) Q) 0 0 (zAW m_n ad sz) := by
  refine Met.ofW (cc := cX12_isDigit) (maxL := 1) (ret := (some .boolean)) (by decide) rfl ?_
  intro p e s m args below meth c s₁ B hml hv
  obtain ⟨rfl, hsz, hP, hK, hD0⟩ := hv
  subst hsz
  have C0 : zCx p s m meth c _ RX12 cX12_isDigit 1 (some .boolean) vs_X12_isDigit := ⟨B.exec, B.bytes, hml, B.returns, findClass_of_methodNamed B.named, atoms_spec (ws := vs_X12_isDigit) B.pre, B.notSynchronized⟩
  have hD := m_D0 (n0 := s.heap.size) hD0
  have hl := lv_entry ([.int x0]) (n := 1) (Nat.le_of_ble_eq_true rfl)
  rw [lg_entry_eq]
  generalize (lg_sl ([.int x0]) ++ List.replicate (1 - (lg_sl ([.int x0])).length) Slot.unset).toArray = ls at hl ⊢
  exact t_X12_isDigit_0 C0 hK N x0 σ _ _ ls h hP hD va_S.rf hl
theorem k_X12_isDigit (N : Nat) {R : Room} {H : Heap} {locs : List Loc} {cells slots : Nat} {Q2 : State → Prop} {cc : ByteArray} {nL pc index : Nat} {ls : Array Slot} {rest : List Value} {own : String} {c0 : Cond} {σ : zSt} {x0 : Int32} {Q : Int32 → zSt → Prop} (S0 : CallFix p m c cc nL s args (c0 :: zT) own) (hml : Cond.methodLink own index yX12_isDigit ∈ zT) (hR : rm_X12_isDigit.frames + 1 ≤ R.frames ∧ 8 + (1 + 11) + rm_X12_isDigit.locals ≤ R.locals) (h : w_X12_isDigit N x0 σ Q) (hK : va_K (dC, dI) vwCl (m_ty cI cJ cC) s) (hP : va_P (dC, dI) vwCl (m_W ad cI cJ cC σ) H) (hD : va_D (zAW m_n ad s.heap.size) (m_W ad cI cJ cC σ)) (hS : va_S (zAW m_n ad s.heap.size) s.heap H locs) (hsz : ls.size = nL) (hW : (rest.map fun v => v.category).sum ≤ 8) (hcs : cells ≤ R.cells ∧ slots ≤ R.slots) (hdg : decode cc pc = .ok (.invokestatic index, 3)) (kk : ∀ (r : Int32) (τ : zSt) (H1 : Heap) (locs1 : List Loc), Q r τ → va_P (dC, dI) vwCl (m_W ad cI cJ cC τ) H1 → va_D (zAW m_n ad s.heap.size) (m_W ad cI cJ cC τ) → va_S (zAW m_n ad s.heap.size) s.heap H1 locs1 → W p l e R s m args below meth c H1 locs1 cells slots Q2 (F0 m (pc + 3) ls (.int r :: rest))) : W p l e R s m args below meth c H locs cells slots Q2 (F0 m pc ls (.int x0 :: rest)) :=
  zcs_i [.int x0] S0 (c_X12_isDigit N l dC dI ad cI cJ cC H.size σ x0 Q h) (cw_X12_isDigit S0.2.2.2.2 hml hR) hK hP hD hS rfl hsz hW rfl hcs hdg kk
end q14
section q14
def w_X12_isIn (N : Nat) (x0 : Int64) (x2 : Int64) (x4 : Int64) (σ : zSt) (Q : Int32 → zSt → Prop) : Prop :=
  ((lg_cmp x0 x2) < 0 → Q (0 : Int32) σ) ∧ (¬ (lg_cmp x0 x2) < 0 → (0 < (lg_cmp x0 x4) → Q (0 : Int32) σ) ∧ (¬ 0 < (lg_cmp x0 x4) → Q (1 : Int32) σ))
variable {p : Program} {l : Launch} {e : Env} {s : State} {m : MethodId} {args : Array Value} {below : List Frame} {meth : Method} {c : Code} {dC : Nat → ClassId} {dI : Nat → Nat → Nat} {ad : Nat → Nat} {cI cJ cC : ClassId}
set_option maxHeartbeats 4000000 in
set_option maxRecDepth 100000 in
theorem t_X12_isIn_0 (C0 : zCx p s m meth c args RX12 cX12_isIn 6 (some .boolean) vs_X12_isIn) (hK : va_K (dC, dI) vwCl (m_ty cI cJ cC) s) (N : Nat) {Q : Int32 → zSt → Prop} : ∀ (x0 : Int64) (x2 : Int64) (x4 : Int64) (σ : zSt) (H : Heap) (locs : List Loc) (ls : Array Slot), w_X12_isIn N x0 x2 x4 σ Q → va_P (dC, dI) vwCl (m_W ad cI cJ cC σ) H → va_D (zAW m_n ad s.heap.size) (m_W ad cI cJ cC σ) → va_S (zAW m_n ad s.heap.size) s.heap H locs → lv_has ls 6 [(0, .long x0), (2, .long x2), (4, .long x4)] → W p l e rm_X12_isIn s m args below meth c H locs 0 0 (MQ below (zQi (dC, dI) (m_ty cI cJ cC) (m_W ad cI cJ cC) (zAW m_n ad s.heap.size) Q) args s 0 0 (zAW m_n ad s.heap.size)) (F0 m 0 ls []) := by
  obtain ⟨hx, hb, hml, hr, hown, hts, hlocks⟩ := id C0
  intro x0 x2 x4 σ H locs ls h hP hD hS hl
  unfold w_X12_isIn at h
  refine lv_lload_n hx hb dX12_isIn_0 rfl (lv_at hl 0 rfl) ?_
  refine lv_lload_n hx hb dX12_isIn_1 rfl (lv_at hl 1 rfl) ?_
  refine W.lcmp hx hb dX12_isIn_2 ?_
  refine lv_if_lt (tgt := 17) hx hb dX12_isIn_3 (by decide) (fun hc => ?_) (fun hc => ?_)
  · have h := h.1 hc
    refine lv_iconst (v := (0 : Int32)) hx hb dX12_isIn_17 (by decide) ?_
    exact zret_z hx hb hr hlocks hK hP hD hS zb_0 h dX12_isIn_18
  · have h := h.2 hc
    refine lv_lload_n hx hb dX12_isIn_6 rfl (lv_at hl 0 rfl) ?_
    refine lv_lload hx hb dX12_isIn_7 (lv_at hl 2 rfl) ?_
    refine W.lcmp hx hb dX12_isIn_9 ?_
    refine lv_if_gt (tgt := 17) hx hb dX12_isIn_10 (by decide) (fun hc => ?_) (fun hc => ?_)
    · have h := h.1 hc
      refine lv_iconst (v := (0 : Int32)) hx hb dX12_isIn_17 (by decide) ?_
      exact zret_z hx hb hr hlocks hK hP hD hS zb_0 h dX12_isIn_18
    · have h := h.2 hc
      refine lv_iconst (v := (1 : Int32)) hx hb dX12_isIn_13 (by decide) ?_
      refine lv_goto (tgt := 18) hx hb dX12_isIn_14 (by decide) ?_
      exact zret_z hx hb hr hlocks hK hP hD hS zb_1 h dX12_isIn_18
set_option maxHeartbeats 4000000 in
set_option maxRecDepth 100000 in
theorem c_X12_isIn (N : Nat) (l : Launch) (dC : Nat → ClassId) (dI : Nat → Nat → Nat) (ad : Nat → Nat) (cI cJ cC : ClassId) (sz : Nat) (σ : zSt) (x0 : Int64) (x2 : Int64) (x4 : Int64) (Q : Int32 → zSt → Prop) (h : w_X12_isIn N x0 x2 x4 σ Q) : Met l yX12_isIn vs_X12_isIn rm_X12_isIn (va_Pc [.long x0, .long x2, .long x4] (zPc (dC, dI) (m_ty cI cJ cC) (m_W ad cI cJ cC) sz σ)) (zQi (dC, dI) (m_ty cI cJ cC) (m_W ad cI cJ cC) (zAW m_n ad sz) Q) 0 0 (zAW m_n ad sz) := by
  refine Met.ofW (cc := cX12_isIn) (maxL := 6) (ret := (some .boolean)) (by decide) rfl ?_
  intro p e s m args below meth c s₁ B hml hv
  obtain ⟨rfl, hsz, hP, hK, hD0⟩ := hv
  subst hsz
  have C0 : zCx p s m meth c _ RX12 cX12_isIn 6 (some .boolean) vs_X12_isIn := ⟨B.exec, B.bytes, hml, B.returns, findClass_of_methodNamed B.named, atoms_spec (ws := vs_X12_isIn) B.pre, B.notSynchronized⟩
  have hD := m_D0 (n0 := s.heap.size) hD0
  have hl := lv_entry ([.long x0, .long x2, .long x4]) (n := 6) (Nat.le_of_ble_eq_true rfl)
  rw [lg_entry_eq]
  generalize (lg_sl ([.long x0, .long x2, .long x4]) ++ List.replicate (6 - (lg_sl ([.long x0, .long x2, .long x4])).length) Slot.unset).toArray = ls at hl ⊢
  exact t_X12_isIn_0 C0 hK N x0 x2 x4 σ _ _ ls h hP hD va_S.rf hl
theorem k_X12_isIn (N : Nat) {R : Room} {H : Heap} {locs : List Loc} {cells slots : Nat} {Q2 : State → Prop} {cc : ByteArray} {nL pc index : Nat} {ls : Array Slot} {rest : List Value} {own : String} {c0 : Cond} {σ : zSt} {x0 : Int64} {x2 : Int64} {x4 : Int64} {Q : Int32 → zSt → Prop} (S0 : CallFix p m c cc nL s args (c0 :: zT) own) (hml : Cond.methodLink own index yX12_isIn ∈ zT) (hR : rm_X12_isIn.frames + 1 ≤ R.frames ∧ 8 + (6 + 11) + rm_X12_isIn.locals ≤ R.locals) (h : w_X12_isIn N x0 x2 x4 σ Q) (hK : va_K (dC, dI) vwCl (m_ty cI cJ cC) s) (hP : va_P (dC, dI) vwCl (m_W ad cI cJ cC σ) H) (hD : va_D (zAW m_n ad s.heap.size) (m_W ad cI cJ cC σ)) (hS : va_S (zAW m_n ad s.heap.size) s.heap H locs) (hsz : ls.size = nL) (hW : (rest.map fun v => v.category).sum ≤ 8) (hcs : cells ≤ R.cells ∧ slots ≤ R.slots) (hdg : decode cc pc = .ok (.invokestatic index, 3)) (kk : ∀ (r : Int32) (τ : zSt) (H1 : Heap) (locs1 : List Loc), Q r τ → va_P (dC, dI) vwCl (m_W ad cI cJ cC τ) H1 → va_D (zAW m_n ad s.heap.size) (m_W ad cI cJ cC τ) → va_S (zAW m_n ad s.heap.size) s.heap H1 locs1 → W p l e R s m args below meth c H1 locs1 cells slots Q2 (F0 m (pc + 3) ls (.int r :: rest))) : W p l e R s m args below meth c H locs cells slots Q2 (F0 m pc ls (.long x4 :: .long x2 :: .long x0 :: rest)) :=
  zcs_i [.long x0, .long x2, .long x4] S0 (c_X12_isIn N l dC dI ad cI cJ cC H.size σ x0 x2 x4 Q h) (cw_X12_isIn S0.2.2.2.2 hml hR) hK hP hD hS rfl hsz hW rfl hcs hdg kk
end q14
