section q12
end q12
section q12
def b_X11_gifts_119 (N : Nat) (k_43 : Int32 → Int64 → Int32 → zSt → Prop) (Q : Int64 → zSt → Prop) (x1 : Int32) (x4 : Int32) (s0 : Int32) (s1 : Int32) (s2 : Int32) (s4 : Int64) (s5 : Int64) (σ : zSt) : Prop :=
  w_X11_giftOf N s2 s1 s0 σ (fun r1 τ2 => ∀ v3 : Int64, v3 = s5 + (s4 + r1) → ∀ v4 : Int32, v4 = x4 + (1 : Int32) → k_43 x1 v3 v4 τ2)
def b_X11_gifts_93 (N : Nat) (k_43 : Int32 → Int64 → Int32 → zSt → Prop) (Q : Int64 → zSt → Prop) (x1 : Int32) (x4 : Int32) (s0 : Int32) (s1 : Int32) (s2 : Int32) (s4 : Int64) (σ : zSt) : Prop :=
  w_X11_giftOf N s2 s1 s0 σ (fun r1 τ2 => (vp_in x4 45) ∧ ((x1 = (1 : Int32) → b_X11_gifts_119 N k_43 Q x1 x4 (1 : Int32) x4 (τ2.2.2.1 4 x4.toNatClampNeg) r1 s4 τ2) ∧ (¬ x1 = (1 : Int32) → b_X11_gifts_119 N k_43 Q x1 x4 (0 : Int32) x4 (τ2.2.2.1 4 x4.toNatClampNeg) r1 s4 τ2)))
def b_X11_gifts_43 (N : Nat) (k_43 : Int32 → Int64 → Int32 → zSt → Prop) (Q : Int64 → zSt → Prop) (x1 : Int32) (x2 : Int64) (x4 : Int32) (σ : zSt) : Prop :=
  ((σ.1 2) ≤ x4 → Q x2 σ) ∧ (¬ (σ.1 2) ≤ x4 → ((lg_cmp (((σ.2.1 0) >>> (x4.toInt64 &&& 63)) &&& (1 : Int64)) (0 : Int64)) = 0 → ∀ v1 : Int32, v1 = x4 + (1 : Int32) → k_43 x1 x2 v1 σ) ∧ (¬ (lg_cmp (((σ.2.1 0) >>> (x4.toInt64 &&& 63)) &&& (1 : Int64)) (0 : Int64)) = 0 → (vp_in x4 45) ∧ ((x1 = (1 : Int32) → b_X11_gifts_93 N k_43 Q x1 x4 (1 : Int32) x4 (σ.2.2.1 3 x4.toNatClampNeg) x2 σ) ∧ (¬ x1 = (1 : Int32) → b_X11_gifts_93 N k_43 Q x1 x4 (0 : Int32) x4 (σ.2.2.1 3 x4.toNatClampNeg) x2 σ))))
def w_X11_gifts_43 (N : Nat) (Q : Int64 → zSt → Prop) : Nat → Int32 → Int64 → Int32 → zSt → Prop
  | 0 => fun _ _ _ _ => False
  | f + 1 => b_X11_gifts_43 N (w_X11_gifts_43 N  Q f) Q
def w_X11_gifts (N : Nat) (x1 : Int32) (σ : zSt) (Q : Int64 → zSt → Prop) : Prop :=
  (x1 = (2 : Int32) → w_X0_firstAdd N (σ.2.1 0) σ (fun r1 τ2 => (r1 = 0 → Q (1 : Int64) τ2) ∧ (¬ r1 = 0 → Q (0 : Int64) τ2))) ∧ (¬ x1 = (2 : Int32) → (x1 = 0 → w_X11_gifts_43 N Q N x1 (0 : Int64) (0 : Int32) σ) ∧ (¬ x1 = 0 → (x1 = (1 : Int32) → w_X11_gifts_43 N Q N x1 (0 : Int64) (0 : Int32) σ) ∧ (¬ x1 = (1 : Int32) → Q (-1 : Int64) σ)))
variable {p : Program} {l : Launch} {e : Env} {s : State} {m : MethodId} {args : Array Value} {below : List Frame} {meth : Method} {c : Code} {dC : Nat → ClassId} {dI : Nat → Nat → Nat} {ad : Nat → Nat} {cI cJ : ClassId}
set_option maxHeartbeats 4000000 in
set_option maxRecDepth 100000 in
theorem t_X11_gifts_119 (C0 : zCx p s m meth c args RX11 cX11_gifts 5 (some .long) vs_X11_gifts) (hK : va_K (dC, dI) vwCl (x_ty cI cJ) s) (N : Nat) {Q : Int64 → zSt → Prop} {k_43 : Int32 → Int64 → Int32 → zSt → Prop} (hk_43 : ∀ (x1 : Int32) (x2 : Int64) (x4 : Int32) (σ : zSt) (H : Heap) (locs : List Loc) (ls : Array Slot), k_43 x1 x2 x4 σ → va_P (dC, dI) vwCl (x_W ad cI cJ σ) H → va_D (zAW x_n ad s.heap.size) (x_W ad cI cJ σ) → va_S (zAW x_n ad s.heap.size) s.heap H locs → lv_has ls 5 [(0, .ref (ad 0)), (1, .int x1), (2, .long x2), (4, .int x4)] → W p l e rm_X11_gifts s m args below meth c H locs 0 0 (MQ below (zQl (dC, dI) (x_ty cI cJ) (x_W ad cI cJ) (zAW x_n ad s.heap.size) Q) args s 0 0 (zAW x_n ad s.heap.size)) (F0 m 43 ls [])) : ∀ (x1 : Int32) (x4 : Int32) (s0 : Int32) (s1 : Int32) (s2 : Int32) (s4 : Int64) (s5 : Int64) (σ : zSt) (H : Heap) (locs : List Loc) (ls : Array Slot), b_X11_gifts_119 N k_43 Q x1 x4 s0 s1 s2 s4 s5 σ → va_P (dC, dI) vwCl (x_W ad cI cJ σ) H → va_D (zAW x_n ad s.heap.size) (x_W ad cI cJ σ) → va_S (zAW x_n ad s.heap.size) s.heap H locs → lv_has ls 5 [(0, .ref (ad 0)), (1, .int x1), (4, .int x4)] → W p l e rm_X11_gifts s m args below meth c H locs 0 0 (MQ below (zQl (dC, dI) (x_ty cI cJ) (x_W ad cI cJ) (zAW x_n ad s.heap.size) Q) args s 0 0 (zAW x_n ad s.heap.size)) (F0 m 119 ls [.int s0, .int s1, .int s2, .ref (ad 0), .long s4, .long s5]) := by
  obtain ⟨hx, hb, hml, hr, hown, hts, hlocks⟩ := id C0
  intro x1 x4 s0 s1 s2 s4 s5 σ H locs ls h hP hD hS hl
  unfold b_X11_gifts_119 at h
  refine k_X11_giftOf N ⟨hx, hb, hml, hown, hts⟩ mw_759 ⟨Nat.le_of_ble_eq_true rfl, Nat.le_of_ble_eq_true rfl⟩ h hK hP hD hS hl.1 (rest := [.long s4, .long s5]) (Nat.le_of_ble_eq_true rfl) ⟨Nat.le_of_ble_eq_true rfl, Nat.le_of_ble_eq_true rfl⟩ dX11_gifts_119 (fun r1 τ2 H locs h hP hD hS => ?_)
  refine lv_ladd hx hb dX11_gifts_122 ?_
  refine lv_ladd hx hb dX11_gifts_123 ?_
  refine lv_topl (fun v3 ev3 => ?_)
  have h := h v3 ev3
  refine lv_lstore_n (lv' := [(2, .long v3), (0, .ref (ad 0)), (1, .int x1), (4, .int x4)]) hx hb dX11_gifts_124 rfl hl (by decide) rfl (fun ls hl => ?_)
  obtain ⟨v4, ev4⟩ : ∃ z : Int32, z = x4 + (1 : Int32) := ⟨_, rfl⟩
  have h := h v4 ev4
  refine lv_iinc (v := v4) (lv' := [(4, .int v4), (2, .long v3), (0, .ref (ad 0)), (1, .int x1)]) hx hb dX11_gifts_125 hl (k := 3) rfl (by rw [ev4]; rfl) (by decide) rfl (fun ls hl => ?_)
  refine lv_goto (tgt := 43) hx hb dX11_gifts_128 (by decide) ?_
  exact hk_43 x1 v3 v4 τ2 _ _ _ h hP hD hS (lv_sub hl [2, 3, 1, 0] rfl)
set_option maxHeartbeats 4000000 in
set_option maxRecDepth 100000 in
theorem t_X11_gifts_93 (C0 : zCx p s m meth c args RX11 cX11_gifts 5 (some .long) vs_X11_gifts) (hK : va_K (dC, dI) vwCl (x_ty cI cJ) s) (N : Nat) {Q : Int64 → zSt → Prop} {k_43 : Int32 → Int64 → Int32 → zSt → Prop} (hk_43 : ∀ (x1 : Int32) (x2 : Int64) (x4 : Int32) (σ : zSt) (H : Heap) (locs : List Loc) (ls : Array Slot), k_43 x1 x2 x4 σ → va_P (dC, dI) vwCl (x_W ad cI cJ σ) H → va_D (zAW x_n ad s.heap.size) (x_W ad cI cJ σ) → va_S (zAW x_n ad s.heap.size) s.heap H locs → lv_has ls 5 [(0, .ref (ad 0)), (1, .int x1), (2, .long x2), (4, .int x4)] → W p l e rm_X11_gifts s m args below meth c H locs 0 0 (MQ below (zQl (dC, dI) (x_ty cI cJ) (x_W ad cI cJ) (zAW x_n ad s.heap.size) Q) args s 0 0 (zAW x_n ad s.heap.size)) (F0 m 43 ls [])) : ∀ (x1 : Int32) (x4 : Int32) (s0 : Int32) (s1 : Int32) (s2 : Int32) (s4 : Int64) (σ : zSt) (H : Heap) (locs : List Loc) (ls : Array Slot), b_X11_gifts_93 N k_43 Q x1 x4 s0 s1 s2 s4 σ → va_P (dC, dI) vwCl (x_W ad cI cJ σ) H → va_D (zAW x_n ad s.heap.size) (x_W ad cI cJ σ) → va_S (zAW x_n ad s.heap.size) s.heap H locs → lv_has ls 5 [(0, .ref (ad 0)), (1, .int x1), (4, .int x4)] → W p l e rm_X11_gifts s m args below meth c H locs 0 0 (MQ below (zQl (dC, dI) (x_ty cI cJ) (x_W ad cI cJ) (zAW x_n ad s.heap.size) Q) args s 0 0 (zAW x_n ad s.heap.size)) (F0 m 93 ls [.int s0, .int s1, .int s2, .ref (ad 0), .long s4]) := by
  obtain ⟨hx, hb, hml, hr, hown, hts, hlocks⟩ := id C0
  intro x1 x4 s0 s1 s2 s4 σ H locs ls h hP hD hS hl
  unfold b_X11_gifts_93 at h
  refine k_X11_giftOf N ⟨hx, hb, hml, hown, hts⟩ mw_759 ⟨Nat.le_of_ble_eq_true rfl, Nat.le_of_ble_eq_true rfl⟩ h hK hP hD hS hl.1 (rest := [.long s4]) (Nat.le_of_ble_eq_true rfl) ⟨Nat.le_of_ble_eq_true rfl, Nat.le_of_ble_eq_true rfl⟩ dX11_gifts_93 (fun r1 τ2 H locs h hP hD hS => ?_)
  refine lv_aload_n hx hb dX11_gifts_96 rfl (lv_at hl 0 rfl) ?_
  refine lv_aload_n hx hb dX11_gifts_97 rfl (lv_at hl 0 rfl) ?_
  refine xg_0_1 hx hb hts hown hK hP mw_290 dX11_gifts_98 ?_
  refine xg_2_1 hx hb hts hown hK hP mw_52 dX11_gifts_101 ?_
  refine lv_iload hx hb dX11_gifts_104 (lv_at hl 2 rfl) ?_
  refine xa_21 hx hb hK hP h.1 rfl dX11_gifts_106 ?_
  have h := h.2
  refine lv_iload hx hb dX11_gifts_107 (lv_at hl 2 rfl) ?_
  refine lv_iload_n hx hb dX11_gifts_109 rfl (lv_at hl 1 rfl) ?_
  refine lv_iconst (v := (1 : Int32)) hx hb dX11_gifts_110 (by decide) ?_
  refine lv_icmp_ne (tgt := 118) hx hb dX11_gifts_111 (by decide) (fun hc => ?_) (fun hc => ?_)
  · have h := h.2 hc
    refine lv_iconst (v := (0 : Int32)) hx hb dX11_gifts_118 (by decide) ?_
    exact t_X11_gifts_119 C0 hK N hk_43 x1 x4 (0 : Int32) x4 (τ2.2.2.1 4 x4.toNatClampNeg) r1 s4 τ2 _ _ _ h hP hD hS (lv_sub hl [0, 1, 2] rfl)
  · have h := h.1 hc
    refine lv_iconst (v := (1 : Int32)) hx hb dX11_gifts_114 (by decide) ?_
    refine lv_goto (tgt := 119) hx hb dX11_gifts_115 (by decide) ?_
    exact t_X11_gifts_119 C0 hK N hk_43 x1 x4 (1 : Int32) x4 (τ2.2.2.1 4 x4.toNatClampNeg) r1 s4 τ2 _ _ _ h hP hD hS (lv_sub hl [0, 1, 2] rfl)
set_option maxHeartbeats 4000000 in
set_option maxRecDepth 100000 in
theorem tb_X11_gifts_43 (C0 : zCx p s m meth c args RX11 cX11_gifts 5 (some .long) vs_X11_gifts) (hK : va_K (dC, dI) vwCl (x_ty cI cJ) s) (N : Nat) {Q : Int64 → zSt → Prop} {k_43 : Int32 → Int64 → Int32 → zSt → Prop} (hk_43 : ∀ (x1 : Int32) (x2 : Int64) (x4 : Int32) (σ : zSt) (H : Heap) (locs : List Loc) (ls : Array Slot), k_43 x1 x2 x4 σ → va_P (dC, dI) vwCl (x_W ad cI cJ σ) H → va_D (zAW x_n ad s.heap.size) (x_W ad cI cJ σ) → va_S (zAW x_n ad s.heap.size) s.heap H locs → lv_has ls 5 [(0, .ref (ad 0)), (1, .int x1), (2, .long x2), (4, .int x4)] → W p l e rm_X11_gifts s m args below meth c H locs 0 0 (MQ below (zQl (dC, dI) (x_ty cI cJ) (x_W ad cI cJ) (zAW x_n ad s.heap.size) Q) args s 0 0 (zAW x_n ad s.heap.size)) (F0 m 43 ls [])) : ∀ (x1 : Int32) (x2 : Int64) (x4 : Int32) (σ : zSt) (H : Heap) (locs : List Loc) (ls : Array Slot), b_X11_gifts_43 N k_43 Q x1 x2 x4 σ → va_P (dC, dI) vwCl (x_W ad cI cJ σ) H → va_D (zAW x_n ad s.heap.size) (x_W ad cI cJ σ) → va_S (zAW x_n ad s.heap.size) s.heap H locs → lv_has ls 5 [(0, .ref (ad 0)), (1, .int x1), (2, .long x2), (4, .int x4)] → W p l e rm_X11_gifts s m args below meth c H locs 0 0 (MQ below (zQl (dC, dI) (x_ty cI cJ) (x_W ad cI cJ) (zAW x_n ad s.heap.size) Q) args s 0 0 (zAW x_n ad s.heap.size)) (F0 m 43 ls []) := by
  obtain ⟨hx, hb, hml, hr, hown, hts, hlocks⟩ := id C0
  intro x1 x2 x4 σ H locs ls h hP hD hS hl
  unfold b_X11_gifts_43 at h
  refine lv_iload hx hb dX11_gifts_43 (lv_at hl 3 rfl) ?_
  refine lv_aload_n hx hb dX11_gifts_45 rfl (lv_at hl 0 rfl) ?_
  refine xg_0_2 hx hb hts hown hK hP mw_291 dX11_gifts_46 ?_
  refine xg_3_5 hx hb hts hown hK hP mw_81 dX11_gifts_49 ?_
  refine lv_icmp_ge (tgt := 131) hx hb dX11_gifts_52 (by decide) (fun hc => ?_) (fun hc => ?_)
  · have h := h.1 hc
    refine lv_lload_n hx hb dX11_gifts_131 rfl (lv_at hl 2 rfl) ?_
    exact zret_l hx hb hr hlocks hK hP hD hS h dX11_gifts_132
  · have h := h.2 hc
    refine lv_aload_n hx hb dX11_gifts_55 rfl (lv_at hl 0 rfl) ?_
    refine xg_0_15 hx hb hts hown hK hP mw_304 dX11_gifts_56 ?_
    refine lv_iload hx hb dX11_gifts_59 (lv_at hl 3 rfl) ?_
    refine lv_lshr hx hb dX11_gifts_61 rfl ?_
    refine lv_lconst (v := (1 : Int64)) hx hb dX11_gifts_62 (by decide) ?_
    refine lv_land hx hb dX11_gifts_63 ?_
    refine lv_lconst (v := (0 : Int64)) hx hb dX11_gifts_64 (by decide) ?_
    refine W.lcmp hx hb dX11_gifts_65 ?_
    refine lv_if_eq (tgt := 125) hx hb dX11_gifts_66 (by decide) (fun hc => ?_) (fun hc => ?_)
    · have h := h.1 hc
      obtain ⟨v1, ev1⟩ : ∃ z : Int32, z = x4 + (1 : Int32) := ⟨_, rfl⟩
      have h := h v1 ev1
      refine lv_iinc (v := v1) (lv' := [(4, .int v1), (0, .ref (ad 0)), (1, .int x1), (2, .long x2)]) hx hb dX11_gifts_125 hl (k := 3) rfl (by rw [ev1]; rfl) (by decide) rfl (fun ls hl => ?_)
      refine lv_goto (tgt := 43) hx hb dX11_gifts_128 (by decide) ?_
      exact hk_43 x1 x2 v1 σ _ _ _ h hP hD hS (lv_sub hl [1, 2, 3, 0] rfl)
    · have h := h.2 hc
      refine lv_lload_n hx hb dX11_gifts_69 rfl (lv_at hl 2 rfl) ?_
      refine lv_aload_n hx hb dX11_gifts_70 rfl (lv_at hl 0 rfl) ?_
      refine lv_aload_n hx hb dX11_gifts_71 rfl (lv_at hl 0 rfl) ?_
      refine xg_0_1 hx hb hts hown hK hP mw_290 dX11_gifts_72 ?_
      refine xg_2_0 hx hb hts hown hK hP mw_48 dX11_gifts_75 ?_
      refine lv_iload hx hb dX11_gifts_78 (lv_at hl 3 rfl) ?_
      refine xa_20 hx hb hK hP h.1 rfl dX11_gifts_80 ?_
      have h := h.2
      refine lv_iload hx hb dX11_gifts_81 (lv_at hl 3 rfl) ?_
      refine lv_iload_n hx hb dX11_gifts_83 rfl (lv_at hl 1 rfl) ?_
      refine lv_iconst (v := (1 : Int32)) hx hb dX11_gifts_84 (by decide) ?_
      refine lv_icmp_ne (tgt := 92) hx hb dX11_gifts_85 (by decide) (fun hc => ?_) (fun hc => ?_)
      · have h := h.2 hc
        refine lv_iconst (v := (0 : Int32)) hx hb dX11_gifts_92 (by decide) ?_
        exact t_X11_gifts_93 C0 hK N hk_43 x1 x4 (0 : Int32) x4 (σ.2.2.1 3 x4.toNatClampNeg) x2 σ _ _ _ h hP hD hS (lv_sub hl [0, 1, 3] rfl)
      · have h := h.1 hc
        refine lv_iconst (v := (1 : Int32)) hx hb dX11_gifts_88 (by decide) ?_
        refine lv_goto (tgt := 93) hx hb dX11_gifts_89 (by decide) ?_
        exact t_X11_gifts_93 C0 hK N hk_43 x1 x4 (1 : Int32) x4 (σ.2.2.1 3 x4.toNatClampNeg) x2 σ _ _ _ h hP hD hS (lv_sub hl [0, 1, 3] rfl)
set_option maxHeartbeats 4000000 in
set_option maxRecDepth 100000 in
theorem t_X11_gifts_43 (C0 : zCx p s m meth c args RX11 cX11_gifts 5 (some .long) vs_X11_gifts) (hK : va_K (dC, dI) vwCl (x_ty cI cJ) s) (N : Nat) {Q : Int64 → zSt → Prop} : ∀ (f : Nat) (x1 : Int32) (x2 : Int64) (x4 : Int32) (σ : zSt) (H : Heap) (locs : List Loc) (ls : Array Slot), w_X11_gifts_43 N  Q f x1 x2 x4 σ → va_P (dC, dI) vwCl (x_W ad cI cJ σ) H → va_D (zAW x_n ad s.heap.size) (x_W ad cI cJ σ) → va_S (zAW x_n ad s.heap.size) s.heap H locs → lv_has ls 5 [(0, .ref (ad 0)), (1, .int x1), (2, .long x2), (4, .int x4)] → W p l e rm_X11_gifts s m args below meth c H locs 0 0 (MQ below (zQl (dC, dI) (x_ty cI cJ) (x_W ad cI cJ) (zAW x_n ad s.heap.size) Q) args s 0 0 (zAW x_n ad s.heap.size)) (F0 m 43 ls []) := by
  intro f
  induction f with
  | zero => intro x1 x2 x4 σ H locs ls h; exact h.elim
  | succ f ih =>
    intro x1 x2 x4 σ H locs ls h hP hD hS hl
    exact tb_X11_gifts_43 C0 hK N  (k_43 := w_X11_gifts_43 N  Q f) ih x1 x2 x4 σ H locs ls h hP hD hS hl
set_option maxHeartbeats 4000000 in
set_option maxRecDepth 100000 in
theorem t_X11_gifts_0 (C0 : zCx p s m meth c args RX11 cX11_gifts 5 (some .long) vs_X11_gifts) (hK : va_K (dC, dI) vwCl (x_ty cI cJ) s) (N : Nat) {Q : Int64 → zSt → Prop} : ∀ (x1 : Int32) (σ : zSt) (H : Heap) (locs : List Loc) (ls : Array Slot), w_X11_gifts N x1 σ Q → va_P (dC, dI) vwCl (x_W ad cI cJ σ) H → va_D (zAW x_n ad s.heap.size) (x_W ad cI cJ σ) → va_S (zAW x_n ad s.heap.size) s.heap H locs → lv_has ls 5 [(0, .ref (ad 0)), (1, .int x1)] → W p l e rm_X11_gifts s m args below meth c H locs 0 0 (MQ below (zQl (dC, dI) (x_ty cI cJ) (x_W ad cI cJ) (zAW x_n ad s.heap.size) Q) args s 0 0 (zAW x_n ad s.heap.size)) (F0 m 0 ls []) := by
  obtain ⟨hx, hb, hml, hr, hown, hts, hlocks⟩ := id C0
  intro x1 σ H locs ls h hP hD hS hl
  unfold w_X11_gifts at h
  refine lv_iload_n hx hb dX11_gifts_0 rfl (lv_at hl 1 rfl) ?_
  refine lv_iconst (v := (2 : Int32)) hx hb dX11_gifts_1 (by decide) ?_
  refine lv_icmp_ne (tgt := 25) hx hb dX11_gifts_2 (by decide) (fun hc => ?_) (fun hc => ?_)
  · have h := h.2 hc
    refine lv_iload_n hx hb dX11_gifts_25 rfl (lv_at hl 1 rfl) ?_
    refine lv_if_eq (tgt := 38) hx hb dX11_gifts_26 (by decide) (fun hc => ?_) (fun hc => ?_)
    · have h := h.1 hc
      refine lv_lconst (v := (0 : Int64)) hx hb dX11_gifts_38 (by decide) ?_
      refine lv_lstore_n (lv' := [(2, .long (0 : Int64)), (0, .ref (ad 0)), (1, .int x1)]) hx hb dX11_gifts_39 rfl hl (by decide) rfl (fun ls hl => ?_)
      refine lv_iconst (v := (0 : Int32)) hx hb dX11_gifts_40 (by decide) ?_
      refine lv_istore (lv' := [(4, .int (0 : Int32)), (2, .long (0 : Int64)), (0, .ref (ad 0)), (1, .int x1)]) hx hb dX11_gifts_41 hl (by decide) rfl (fun ls hl => ?_)
      exact t_X11_gifts_43 C0 hK N  N x1 (0 : Int64) (0 : Int32) σ _ _ _ h hP hD hS (lv_sub hl [2, 3, 1, 0] rfl)
    · have h := h.2 hc
      refine lv_iload_n hx hb dX11_gifts_29 rfl (lv_at hl 1 rfl) ?_
      refine lv_iconst (v := (1 : Int32)) hx hb dX11_gifts_30 (by decide) ?_
      refine lv_icmp_eq (tgt := 38) hx hb dX11_gifts_31 (by decide) (fun hc => ?_) (fun hc => ?_)
      · have h := h.1 hc
        refine lv_lconst (v := (0 : Int64)) hx hb dX11_gifts_38 (by decide) ?_
        refine lv_lstore_n (lv' := [(2, .long (0 : Int64)), (0, .ref (ad 0)), (1, .int x1)]) hx hb dX11_gifts_39 rfl hl (by decide) rfl (fun ls hl => ?_)
        refine lv_iconst (v := (0 : Int32)) hx hb dX11_gifts_40 (by decide) ?_
        refine lv_istore (lv' := [(4, .int (0 : Int32)), (2, .long (0 : Int64)), (0, .ref (ad 0)), (1, .int x1)]) hx hb dX11_gifts_41 hl (by decide) rfl (fun ls hl => ?_)
        exact t_X11_gifts_43 C0 hK N  N x1 (0 : Int64) (0 : Int32) σ _ _ _ h hP hD hS (lv_sub hl [2, 3, 1, 0] rfl)
      · have h := h.2 hc
        refine lv_ldc2 (v := (-1 : Int64)) hx hb hown (hts _ (List.mem_cons_of_mem _ mw_275)) dX11_gifts_34 ?_
        exact zret_l hx hb hr hlocks hK hP hD hS h dX11_gifts_37
  · have h := h.1 hc
    refine lv_aload_n hx hb dX11_gifts_5 rfl (lv_at hl 0 rfl) ?_
    refine xg_0_6 hx hb hts hown hK hP mw_295 dX11_gifts_6 ?_
    refine lv_aload_n hx hb dX11_gifts_9 rfl (lv_at hl 0 rfl) ?_
    refine xg_0_15 hx hb hts hown hK hP mw_304 dX11_gifts_10 ?_
    refine k_X0_firstAdd N ⟨hx, hb, hml, hown, hts⟩ mw_758 ⟨Nat.le_of_ble_eq_true rfl, Nat.le_of_ble_eq_true rfl⟩ h hK hP hD hS hl.1 (rest := []) (Nat.le_of_ble_eq_true rfl) ⟨Nat.le_of_ble_eq_true rfl, Nat.le_of_ble_eq_true rfl⟩ dX11_gifts_13 (fun r1 τ2 H locs h hP hD hS => ?_)
    refine lv_if_eq (tgt := 23) hx hb dX11_gifts_16 (by decide) (fun hc => ?_) (fun hc => ?_)
    · have h := h.1 hc
      refine lv_lconst (v := (1 : Int64)) hx hb dX11_gifts_23 (by decide) ?_
      exact zret_l hx hb hr hlocks hK hP hD hS h dX11_gifts_24
    · have h := h.2 hc
      refine lv_lconst (v := (0 : Int64)) hx hb dX11_gifts_19 (by decide) ?_
      refine lv_goto (tgt := 24) hx hb dX11_gifts_20 (by decide) ?_
      exact zret_l hx hb hr hlocks hK hP hD hS h dX11_gifts_24
set_option maxHeartbeats 4000000 in
set_option maxRecDepth 100000 in
theorem c_X11_gifts (N : Nat) (l : Launch) (dC : Nat → ClassId) (dI : Nat → Nat → Nat) (ad : Nat → Nat) (cI cJ : ClassId) (sz : Nat) (σ : zSt) (x1 : Int32) (Q : Int64 → zSt → Prop) (h : w_X11_gifts N x1 σ Q) : Met l yX11_gifts vs_X11_gifts rm_X11_gifts (va_Pc [.ref (ad 0), .int x1] (zPc (dC, dI) (x_ty cI cJ) (x_W ad cI cJ) sz σ)) (zQl (dC, dI) (x_ty cI cJ) (x_W ad cI cJ) (zAW x_n ad sz) Q) 0 0 (zAW x_n ad sz) := by
  refine Met.ofW (cc := cX11_gifts) (maxL := 5) (ret := (some .long)) (by decide) rfl ?_
  intro p e s m args below meth c s₁ B hml hv
  obtain ⟨rfl, hsz, hP, hK, hD0⟩ := hv
  subst hsz
  have C0 : zCx p s m meth c _ RX11 cX11_gifts 5 (some .long) vs_X11_gifts := ⟨B.exec, B.bytes, hml, B.returns, findClass_of_methodNamed B.named, atoms_spec (ws := vs_X11_gifts) B.pre, B.notSynchronized⟩
  have hD := x_D0 (n0 := s.heap.size) hD0
  have hl := lv_entry ([.ref (ad 0), .int x1]) (n := 5) (Nat.le_of_ble_eq_true rfl)
  rw [lg_entry_eq]
  generalize (lg_sl ([.ref (ad 0), .int x1]) ++ List.replicate (5 - (lg_sl ([.ref (ad 0), .int x1])).length) Slot.unset).toArray = ls at hl ⊢
  exact t_X11_gifts_0 C0 hK N x1 σ _ _ ls h hP hD va_S.rf hl
theorem k_X11_gifts (N : Nat) {R : Room} {H : Heap} {locs : List Loc} {cells slots : Nat} {Q2 : State → Prop} {cc : ByteArray} {nL pc index : Nat} {ls : Array Slot} {rest : List Value} {own : String} {c0 : Cond} {σ : zSt} {x1 : Int32} {Q : Int64 → zSt → Prop} (S0 : CallFix p m c cc nL s args (c0 :: zT) own) (hml : Cond.methodLink own index yX11_gifts ∈ zT) (hR : rm_X11_gifts.frames + 1 ≤ R.frames ∧ 8 + (5 + 11) + rm_X11_gifts.locals ≤ R.locals) (h : w_X11_gifts N x1 σ Q) (hK : va_K (dC, dI) vwCl (x_ty cI cJ) s) (hP : va_P (dC, dI) vwCl (x_W ad cI cJ σ) H) (hD : va_D (zAW x_n ad s.heap.size) (x_W ad cI cJ σ)) (hS : va_S (zAW x_n ad s.heap.size) s.heap H locs) (hsz : ls.size = nL) (hW : (rest.map fun v => v.category).sum ≤ 8) (hcs : cells ≤ R.cells ∧ slots ≤ R.slots) (hdg : decode cc pc = .ok (.invokevirtual index, 3)) (kk : ∀ (r : Int64) (τ : zSt) (H1 : Heap) (locs1 : List Loc), Q r τ → va_P (dC, dI) vwCl (x_W ad cI cJ τ) H1 → va_D (zAW x_n ad s.heap.size) (x_W ad cI cJ τ) → va_S (zAW x_n ad s.heap.size) s.heap H1 locs1 → W p l e R s m args below meth c H1 locs1 cells slots Q2 (F0 m (pc + 3) ls (.long r :: rest))) : W p l e R s m args below meth c H locs cells slots Q2 (F0 m pc ls (.int x1 :: .ref (ad 0) :: rest)) :=
  zcv_l (T := TX11) (N' := 17) (k := 0) (ci := 11) (fs := x_f0 ad σ) [.int x1] S0 (c_X11_gifts N l dC dI ad cI cJ H.size σ x1 Q h) (cw_X11_gifts S0.2.2.2.2 hml rfl rfl hR) rfl rfl hK hP hD hS rfl hsz hW rfl hcs hdg kk
end q12
section q12
def b_X11_gift_62 (N : Nat) (Q : Int64 → zSt → Prop) (x1 : Int32) (x2 : Int32) (x3 : Int32) (σ : zSt) : Prop :=
  w_X11_giftOf N x1 x2 x3 σ (fun r1 τ2 => Q r1 τ2)
def w_X11_gift (N : Nat) (x1 : Int32) (x2 : Int32) (x3 : Int32) (σ : zSt) (Q : Int64 → zSt → Prop) : Prop :=
  (x2 < 0 → Q (-1 : Int64) σ) ∧ (¬ x2 < 0 → ((σ.1 2) ≤ x2 → Q (-1 : Int64) σ) ∧ (¬ (σ.1 2) ≤ x2 → ((lg_cmp (((σ.2.1 0) >>> (x2.toInt64 &&& 63)) &&& (1 : Int64)) (0 : Int64)) = 0 → Q (-1 : Int64) σ) ∧ (¬ (lg_cmp (((σ.2.1 0) >>> (x2.toInt64 &&& 63)) &&& (1 : Int64)) (0 : Int64)) = 0 → (vp_in x2 45) ∧ ((x1 = (σ.2.2.1 3 x2.toNatClampNeg) → b_X11_gift_62 N Q x1 x2 x3 σ) ∧ (¬ x1 = (σ.2.2.1 3 x2.toNatClampNeg) → (vp_in x2 45) ∧ ((x1 = (σ.2.2.1 4 x2.toNatClampNeg) → b_X11_gift_62 N Q x1 x2 x3 σ) ∧ (¬ x1 = (σ.2.2.1 4 x2.toNatClampNeg) → Q (-1 : Int64) σ)))))))
variable {p : Program} {l : Launch} {e : Env} {s : State} {m : MethodId} {args : Array Value} {below : List Frame} {meth : Method} {c : Code} {dC : Nat → ClassId} {dI : Nat → Nat → Nat} {ad : Nat → Nat} {cI cJ : ClassId}
set_option maxHeartbeats 4000000 in
set_option maxRecDepth 100000 in
theorem t_X11_gift_62 (C0 : zCx p s m meth c args RX11 cX11_gift 4 (some .long) vs_X11_gift) (hK : va_K (dC, dI) vwCl (x_ty cI cJ) s) (N : Nat) {Q : Int64 → zSt → Prop} : ∀ (x1 : Int32) (x2 : Int32) (x3 : Int32) (σ : zSt) (H : Heap) (locs : List Loc) (ls : Array Slot), b_X11_gift_62 N  Q x1 x2 x3 σ → va_P (dC, dI) vwCl (x_W ad cI cJ σ) H → va_D (zAW x_n ad s.heap.size) (x_W ad cI cJ σ) → va_S (zAW x_n ad s.heap.size) s.heap H locs → lv_has ls 4 [(0, .ref (ad 0)), (1, .int x1), (2, .int x2), (3, .int x3)] → W p l e rm_X11_gift s m args below meth c H locs 0 0 (MQ below (zQl (dC, dI) (x_ty cI cJ) (x_W ad cI cJ) (zAW x_n ad s.heap.size) Q) args s 0 0 (zAW x_n ad s.heap.size)) (F0 m 62 ls []) := by
  obtain ⟨hx, hb, hml, hr, hown, hts, hlocks⟩ := id C0
  intro x1 x2 x3 σ H locs ls h hP hD hS hl
  unfold b_X11_gift_62 at h
  refine lv_aload_n hx hb dX11_gift_62 rfl (lv_at hl 0 rfl) ?_
  refine lv_iload_n hx hb dX11_gift_63 rfl (lv_at hl 1 rfl) ?_
  refine lv_iload_n hx hb dX11_gift_64 rfl (lv_at hl 2 rfl) ?_
  refine lv_iload_n hx hb dX11_gift_65 rfl (lv_at hl 3 rfl) ?_
  refine k_X11_giftOf N ⟨hx, hb, hml, hown, hts⟩ mw_759 ⟨Nat.le_of_ble_eq_true rfl, Nat.le_of_ble_eq_true rfl⟩ h hK hP hD hS hl.1 (rest := []) (Nat.le_of_ble_eq_true rfl) ⟨Nat.le_of_ble_eq_true rfl, Nat.le_of_ble_eq_true rfl⟩ dX11_gift_66 (fun r1 τ2 H locs h hP hD hS => ?_)
  exact zret_l hx hb hr hlocks hK hP hD hS h dX11_gift_69
set_option maxHeartbeats 4000000 in
set_option maxRecDepth 100000 in
theorem t_X11_gift_0 (C0 : zCx p s m meth c args RX11 cX11_gift 4 (some .long) vs_X11_gift) (hK : va_K (dC, dI) vwCl (x_ty cI cJ) s) (N : Nat) {Q : Int64 → zSt → Prop} : ∀ (x1 : Int32) (x2 : Int32) (x3 : Int32) (σ : zSt) (H : Heap) (locs : List Loc) (ls : Array Slot), w_X11_gift N x1 x2 x3 σ Q → va_P (dC, dI) vwCl (x_W ad cI cJ σ) H → va_D (zAW x_n ad s.heap.size) (x_W ad cI cJ σ) → va_S (zAW x_n ad s.heap.size) s.heap H locs → lv_has ls 4 [(0, .ref (ad 0)), (1, .int x1), (2, .int x2), (3, .int x3)] → W p l e rm_X11_gift s m args below meth c H locs 0 0 (MQ below (zQl (dC, dI) (x_ty cI cJ) (x_W ad cI cJ) (zAW x_n ad s.heap.size) Q) args s 0 0 (zAW x_n ad s.heap.size)) (F0 m 0 ls []) := by
  obtain ⟨hx, hb, hml, hr, hown, hts, hlocks⟩ := id C0
  intro x1 x2 x3 σ H locs ls h hP hD hS hl
  unfold w_X11_gift at h
  refine lv_iload_n hx hb dX11_gift_0 rfl (lv_at hl 2 rfl) ?_
  refine lv_if_lt (tgt := 28) hx hb dX11_gift_1 (by decide) (fun hc => ?_) (fun hc => ?_)
  · have h := h.1 hc
    refine lv_ldc2 (v := (-1 : Int64)) hx hb hown (hts _ (List.mem_cons_of_mem _ mw_275)) dX11_gift_28 ?_
    exact zret_l hx hb hr hlocks hK hP hD hS h dX11_gift_31
  · have h := h.2 hc
    refine lv_iload_n hx hb dX11_gift_4 rfl (lv_at hl 2 rfl) ?_
    refine lv_aload_n hx hb dX11_gift_5 rfl (lv_at hl 0 rfl) ?_
    refine xg_0_2 hx hb hts hown hK hP mw_291 dX11_gift_6 ?_
    refine xg_3_5 hx hb hts hown hK hP mw_81 dX11_gift_9 ?_
    refine lv_icmp_ge (tgt := 28) hx hb dX11_gift_12 (by decide) (fun hc => ?_) (fun hc => ?_)
    · have h := h.1 hc
      refine lv_ldc2 (v := (-1 : Int64)) hx hb hown (hts _ (List.mem_cons_of_mem _ mw_275)) dX11_gift_28 ?_
      exact zret_l hx hb hr hlocks hK hP hD hS h dX11_gift_31
    · have h := h.2 hc
      refine lv_aload_n hx hb dX11_gift_15 rfl (lv_at hl 0 rfl) ?_
      refine xg_0_15 hx hb hts hown hK hP mw_304 dX11_gift_16 ?_
      refine lv_iload_n hx hb dX11_gift_19 rfl (lv_at hl 2 rfl) ?_
      refine lv_lshr hx hb dX11_gift_20 rfl ?_
      refine lv_lconst (v := (1 : Int64)) hx hb dX11_gift_21 (by decide) ?_
      refine lv_land hx hb dX11_gift_22 ?_
      refine lv_lconst (v := (0 : Int64)) hx hb dX11_gift_23 (by decide) ?_
      refine W.lcmp hx hb dX11_gift_24 ?_
      refine lv_if_ne (tgt := 32) hx hb dX11_gift_25 (by decide) (fun hc => ?_) (fun hc => ?_)
      · have h := h.2 hc
        refine lv_iload_n hx hb dX11_gift_32 rfl (lv_at hl 1 rfl) ?_
        refine lv_aload_n hx hb dX11_gift_33 rfl (lv_at hl 0 rfl) ?_
        refine xg_0_1 hx hb hts hown hK hP mw_290 dX11_gift_34 ?_
        refine xg_2_0 hx hb hts hown hK hP mw_48 dX11_gift_37 ?_
        refine lv_iload_n hx hb dX11_gift_40 rfl (lv_at hl 2 rfl) ?_
        refine xa_20 hx hb hK hP h.1 rfl dX11_gift_41 ?_
        have h := h.2
        refine lv_icmp_eq (tgt := 62) hx hb dX11_gift_42 (by decide) (fun hc => ?_) (fun hc => ?_)
        · have h := h.1 hc
          exact t_X11_gift_62 C0 hK N  x1 x2 x3 σ _ _ _ h hP hD hS (lv_sub hl [0, 1, 2, 3] rfl)
        · have h := h.2 hc
          refine lv_iload_n hx hb dX11_gift_45 rfl (lv_at hl 1 rfl) ?_
          refine lv_aload_n hx hb dX11_gift_46 rfl (lv_at hl 0 rfl) ?_
          refine xg_0_1 hx hb hts hown hK hP mw_290 dX11_gift_47 ?_
          refine xg_2_1 hx hb hts hown hK hP mw_52 dX11_gift_50 ?_
          refine lv_iload_n hx hb dX11_gift_53 rfl (lv_at hl 2 rfl) ?_
          refine xa_21 hx hb hK hP h.1 rfl dX11_gift_54 ?_
          have h := h.2
          refine lv_icmp_eq (tgt := 62) hx hb dX11_gift_55 (by decide) (fun hc => ?_) (fun hc => ?_)
          · have h := h.1 hc
            exact t_X11_gift_62 C0 hK N  x1 x2 x3 σ _ _ _ h hP hD hS (lv_sub hl [0, 1, 2, 3] rfl)
          · have h := h.2 hc
            refine lv_ldc2 (v := (-1 : Int64)) hx hb hown (hts _ (List.mem_cons_of_mem _ mw_275)) dX11_gift_58 ?_
            exact zret_l hx hb hr hlocks hK hP hD hS h dX11_gift_61
      · have h := h.1 hc
        refine lv_ldc2 (v := (-1 : Int64)) hx hb hown (hts _ (List.mem_cons_of_mem _ mw_275)) dX11_gift_28 ?_
        exact zret_l hx hb hr hlocks hK hP hD hS h dX11_gift_31
set_option maxHeartbeats 4000000 in
set_option maxRecDepth 100000 in
theorem c_X11_gift (N : Nat) (l : Launch) (dC : Nat → ClassId) (dI : Nat → Nat → Nat) (ad : Nat → Nat) (cI cJ : ClassId) (sz : Nat) (σ : zSt) (x1 : Int32) (x2 : Int32) (x3 : Int32) (Q : Int64 → zSt → Prop) (h : w_X11_gift N x1 x2 x3 σ Q) : Met l yX11_gift vs_X11_gift rm_X11_gift (va_Pc [.ref (ad 0), .int x1, .int x2, .int x3] (zPc (dC, dI) (x_ty cI cJ) (x_W ad cI cJ) sz σ)) (zQl (dC, dI) (x_ty cI cJ) (x_W ad cI cJ) (zAW x_n ad sz) Q) 0 0 (zAW x_n ad sz) := by
  refine Met.ofW (cc := cX11_gift) (maxL := 4) (ret := (some .long)) (by decide) rfl ?_
  intro p e s m args below meth c s₁ B hml hv
  obtain ⟨rfl, hsz, hP, hK, hD0⟩ := hv
  subst hsz
  have C0 : zCx p s m meth c _ RX11 cX11_gift 4 (some .long) vs_X11_gift := ⟨B.exec, B.bytes, hml, B.returns, findClass_of_methodNamed B.named, atoms_spec (ws := vs_X11_gift) B.pre, B.notSynchronized⟩
  have hD := x_D0 (n0 := s.heap.size) hD0
  have hl := lv_entry ([.ref (ad 0), .int x1, .int x2, .int x3]) (n := 4) (Nat.le_of_ble_eq_true rfl)
  rw [lg_entry_eq]
  generalize (lg_sl ([.ref (ad 0), .int x1, .int x2, .int x3]) ++ List.replicate (4 - (lg_sl ([.ref (ad 0), .int x1, .int x2, .int x3])).length) Slot.unset).toArray = ls at hl ⊢
  exact t_X11_gift_0 C0 hK N x1 x2 x3 σ _ _ ls h hP hD va_S.rf hl
theorem k_X11_gift (N : Nat) {R : Room} {H : Heap} {locs : List Loc} {cells slots : Nat} {Q2 : State → Prop} {cc : ByteArray} {nL pc index : Nat} {ls : Array Slot} {rest : List Value} {own : String} {c0 : Cond} {σ : zSt} {x1 : Int32} {x2 : Int32} {x3 : Int32} {Q : Int64 → zSt → Prop} (S0 : CallFix p m c cc nL s args (c0 :: zT) own) (hml : Cond.methodLink own index yX11_gift ∈ zT) (hR : rm_X11_gift.frames + 1 ≤ R.frames ∧ 8 + (4 + 11) + rm_X11_gift.locals ≤ R.locals) (h : w_X11_gift N x1 x2 x3 σ Q) (hK : va_K (dC, dI) vwCl (x_ty cI cJ) s) (hP : va_P (dC, dI) vwCl (x_W ad cI cJ σ) H) (hD : va_D (zAW x_n ad s.heap.size) (x_W ad cI cJ σ)) (hS : va_S (zAW x_n ad s.heap.size) s.heap H locs) (hsz : ls.size = nL) (hW : (rest.map fun v => v.category).sum ≤ 8) (hcs : cells ≤ R.cells ∧ slots ≤ R.slots) (hdg : decode cc pc = .ok (.invokevirtual index, 3)) (kk : ∀ (r : Int64) (τ : zSt) (H1 : Heap) (locs1 : List Loc), Q r τ → va_P (dC, dI) vwCl (x_W ad cI cJ τ) H1 → va_D (zAW x_n ad s.heap.size) (x_W ad cI cJ τ) → va_S (zAW x_n ad s.heap.size) s.heap H1 locs1 → W p l e R s m args below meth c H1 locs1 cells slots Q2 (F0 m (pc + 3) ls (.long r :: rest))) : W p l e R s m args below meth c H locs cells slots Q2 (F0 m pc ls (.int x3 :: .int x2 :: .int x1 :: .ref (ad 0) :: rest)) :=
  zcv_l (T := TX11) (N' := 17) (k := 0) (ci := 11) (fs := x_f0 ad σ) [.int x1, .int x2, .int x3] S0 (c_X11_gift N l dC dI ad cI cJ H.size σ x1 x2 x3 Q h) (cw_X11_gift S0.2.2.2.2 hml rfl rfl hR) rfl rfl hK hP hD hS rfl hsz hW rfl hcs hdg kk
end q12
section q12
def b_X11_good_53 (N : Nat) (k_18 : Int32 → Int64 → Int64 → Int32 → zSt → Prop) (Q : Int64 → zSt → Prop) (x1 : Int32) (x2 : Int64) (x4 : Int64) (x6 : Int32) (x7 : Int64) (s0 : Int32) (σ : zSt) : Prop :=
  (s0 = x1 → w_X4_may N ((σ.2.1 0) ^^^ x7) σ (fun r2 τ3 => (r2 = 0 → ∀ v4 : Int32, v4 = x6 + (1 : Int32) → k_18 x1 x2 x4 v4 τ3) ∧ (¬ r2 = 0 → w_X10_inAll N ((τ3.2.1 0) ^^^ x7) τ3 (fun r5 τ6 => ((lg_cmp r5 x4) ≤ 0 → ∀ v7 : Int32, v7 = x6 + (1 : Int32) → k_18 x1 x2 x4 v7 τ6) ∧ (¬ (lg_cmp r5 x4) ≤ 0 → w_X0_moves N (τ6.2.1 0) x6 τ6 (fun r8 τ9 => (r8 = 0 → ∀ v11 : Int64, v11 = x2 ||| x7 → ∀ v12 : Int32, v12 = x6 + (1 : Int32) → k_18 x1 v11 x4 v12 τ9) ∧ (¬ r8 = 0 → ∀ v10 : Int32, v10 = x6 + (1 : Int32) → k_18 x1 x2 x4 v10 τ9))))))) ∧ (¬ s0 = x1 → ∀ v1 : Int32, v1 = x6 + (1 : Int32) → k_18 x1 x2 x4 v1 σ)
def b_X11_good_18 (N : Nat) (k_18 : Int32 → Int64 → Int64 → Int32 → zSt → Prop) (Q : Int64 → zSt → Prop) (x1 : Int32) (x2 : Int64) (x4 : Int64) (x6 : Int32) (σ : zSt) : Prop :=
  ((σ.1 2) ≤ x6 → Q x2 σ) ∧ (¬ (σ.1 2) ≤ x6 → ∀ v1 : Int64, v1 = (1 : Int64) <<< (x6.toInt64 &&& 63) → ((lg_cmp ((σ.2.1 0) &&& v1) (0 : Int64)) = 0 → b_X11_good_53 N k_18 Q x1 x2 x4 x6 v1 (0 : Int32) σ) ∧ (¬ (lg_cmp ((σ.2.1 0) &&& v1) (0 : Int64)) = 0 → b_X11_good_53 N k_18 Q x1 x2 x4 x6 v1 (1 : Int32) σ))
def w_X11_good_18 (N : Nat) (Q : Int64 → zSt → Prop) : Nat → Int32 → Int64 → Int64 → Int32 → zSt → Prop
  | 0 => fun _ _ _ _ _ => False
  | f + 1 => b_X11_good_18 N (w_X11_good_18 N  Q f) Q
def w_X11_good (N : Nat) (x1 : Int32) (σ : zSt) (Q : Int64 → zSt → Prop) : Prop :=
  w_X10_inAll N (σ.2.1 0) σ (fun r1 τ2 => w_X11_good_18 N Q N x1 (0 : Int64) r1 (0 : Int32) τ2)
variable {p : Program} {l : Launch} {e : Env} {s : State} {m : MethodId} {args : Array Value} {below : List Frame} {meth : Method} {c : Code} {dC : Nat → ClassId} {dI : Nat → Nat → Nat} {ad : Nat → Nat} {cI cJ : ClassId}
set_option maxHeartbeats 4000000 in
set_option maxRecDepth 100000 in
theorem t_X11_good_53 (C0 : zCx p s m meth c args RX11 cX11_good 10 (some .long) vs_X11_good) (hK : va_K (dC, dI) vwCl (x_ty cI cJ) s) (N : Nat) {Q : Int64 → zSt → Prop} {k_18 : Int32 → Int64 → Int64 → Int32 → zSt → Prop} (hk_18 : ∀ (x1 : Int32) (x2 : Int64) (x4 : Int64) (x6 : Int32) (σ : zSt) (H : Heap) (locs : List Loc) (ls : Array Slot), k_18 x1 x2 x4 x6 σ → va_P (dC, dI) vwCl (x_W ad cI cJ σ) H → va_D (zAW x_n ad s.heap.size) (x_W ad cI cJ σ) → va_S (zAW x_n ad s.heap.size) s.heap H locs → lv_has ls 10 [(0, .ref (ad 0)), (1, .int x1), (2, .long x2), (4, .long x4), (6, .int x6)] → W p l e rm_X11_good s m args below meth c H locs 0 0 (MQ below (zQl (dC, dI) (x_ty cI cJ) (x_W ad cI cJ) (zAW x_n ad s.heap.size) Q) args s 0 0 (zAW x_n ad s.heap.size)) (F0 m 18 ls [])) : ∀ (x1 : Int32) (x2 : Int64) (x4 : Int64) (x6 : Int32) (x7 : Int64) (s0 : Int32) (σ : zSt) (H : Heap) (locs : List Loc) (ls : Array Slot), b_X11_good_53 N k_18 Q x1 x2 x4 x6 x7 s0 σ → va_P (dC, dI) vwCl (x_W ad cI cJ σ) H → va_D (zAW x_n ad s.heap.size) (x_W ad cI cJ σ) → va_S (zAW x_n ad s.heap.size) s.heap H locs → lv_has ls 10 [(0, .ref (ad 0)), (1, .int x1), (2, .long x2), (4, .long x4), (6, .int x6), (7, .long x7)] → W p l e rm_X11_good s m args below meth c H locs 0 0 (MQ below (zQl (dC, dI) (x_ty cI cJ) (x_W ad cI cJ) (zAW x_n ad s.heap.size) Q) args s 0 0 (zAW x_n ad s.heap.size)) (F0 m 53 ls [.int s0]) := by
  obtain ⟨hx, hb, hml, hr, hown, hts, hlocks⟩ := id C0
  intro x1 x2 x4 x6 x7 s0 σ H locs ls h hP hD hS hl
  unfold b_X11_good_53 at h
  refine lv_istore (lv' := [(9, .int s0), (0, .ref (ad 0)), (1, .int x1), (2, .long x2), (4, .long x4), (6, .int x6), (7, .long x7)]) hx hb dX11_good_53 hl (by decide) rfl (fun ls hl => ?_)
  refine lv_iload hx hb dX11_good_55 (lv_at hl 0 rfl) ?_
  refine lv_iload_n hx hb dX11_good_57 rfl (lv_at hl 2 rfl) ?_
  refine lv_icmp_ne (tgt := 119) hx hb dX11_good_58 (by decide) (fun hc => ?_) (fun hc => ?_)
  · have h := h.2 hc
    obtain ⟨v1, ev1⟩ : ∃ z : Int32, z = x6 + (1 : Int32) := ⟨_, rfl⟩
    have h := h v1 ev1
    refine lv_iinc (v := v1) (lv' := [(6, .int v1), (9, .int s0), (0, .ref (ad 0)), (1, .int x1), (2, .long x2), (4, .long x4), (7, .long x7)]) hx hb dX11_good_119 hl (k := 5) rfl (by rw [ev1]; rfl) (by decide) rfl (fun ls hl => ?_)
    refine lv_goto (tgt := 18) hx hb dX11_good_122 (by decide) ?_
    exact hk_18 x1 x2 x4 v1 σ _ _ _ h hP hD hS (lv_sub hl [2, 3, 4, 5, 0] rfl)
  · have h := h.1 hc
    refine lv_aload_n hx hb dX11_good_61 rfl (lv_at hl 1 rfl) ?_
    refine xg_0_2 hx hb hts hown hK hP mw_291 dX11_good_62 ?_
    refine lv_aload_n hx hb dX11_good_65 rfl (lv_at hl 1 rfl) ?_
    refine xg_0_15 hx hb hts hown hK hP mw_304 dX11_good_66 ?_
    refine lv_lload hx hb dX11_good_69 (lv_at hl 6 rfl) ?_
    refine lv_lxor hx hb dX11_good_71 ?_
    refine k_X4_may N ⟨hx, hb, hml, hown, hts⟩ mw_500 ⟨Nat.le_of_ble_eq_true rfl, Nat.le_of_ble_eq_true rfl⟩ h hK hP hD hS hl.1 (rest := []) (Nat.le_of_ble_eq_true rfl) ⟨Nat.le_of_ble_eq_true rfl, Nat.le_of_ble_eq_true rfl⟩ dX11_good_72 (fun r2 τ3 H locs h hP hD hS => ?_)
    refine lv_if_eq (tgt := 119) hx hb dX11_good_75 (by decide) (fun hc => ?_) (fun hc => ?_)
    · have h := h.1 hc
      obtain ⟨v4, ev4⟩ : ∃ z : Int32, z = x6 + (1 : Int32) := ⟨_, rfl⟩
      have h := h v4 ev4
      refine lv_iinc (v := v4) (lv' := [(6, .int v4), (9, .int s0), (0, .ref (ad 0)), (1, .int x1), (2, .long x2), (4, .long x4), (7, .long x7)]) hx hb dX11_good_119 hl (k := 5) rfl (by rw [ev4]; rfl) (by decide) rfl (fun ls hl => ?_)
      refine lv_goto (tgt := 18) hx hb dX11_good_122 (by decide) ?_
      exact hk_18 x1 x2 x4 v4 τ3 _ _ _ h hP hD hS (lv_sub hl [2, 3, 4, 5, 0] rfl)
    · have h := h.2 hc
      refine lv_aload_n hx hb dX11_good_78 rfl (lv_at hl 1 rfl) ?_
      refine xg_0_5 hx hb hts hown hK hP mw_294 dX11_good_79 ?_
      refine lv_aload_n hx hb dX11_good_82 rfl (lv_at hl 1 rfl) ?_
      refine xg_0_15 hx hb hts hown hK hP mw_304 dX11_good_83 ?_
      refine lv_lload hx hb dX11_good_86 (lv_at hl 6 rfl) ?_
      refine lv_lxor hx hb dX11_good_88 ?_
      refine k_X10_inAll N ⟨hx, hb, hml, hown, hts⟩ mw_538 ⟨Nat.le_of_ble_eq_true rfl, Nat.le_of_ble_eq_true rfl⟩ h hK hP hD hS hl.1 (rest := []) (Nat.le_of_ble_eq_true rfl) ⟨Nat.le_of_ble_eq_true rfl, Nat.le_of_ble_eq_true rfl⟩ dX11_good_89 (fun r5 τ6 H locs h hP hD hS => ?_)
      refine lv_lload hx hb dX11_good_92 (lv_at hl 4 rfl) ?_
      refine W.lcmp hx hb dX11_good_94 ?_
      refine lv_if_le (tgt := 119) hx hb dX11_good_95 (by decide) (fun hc => ?_) (fun hc => ?_)
      · have h := h.1 hc
        obtain ⟨v7, ev7⟩ : ∃ z : Int32, z = x6 + (1 : Int32) := ⟨_, rfl⟩
        have h := h v7 ev7
        refine lv_iinc (v := v7) (lv' := [(6, .int v7), (9, .int s0), (0, .ref (ad 0)), (1, .int x1), (2, .long x2), (4, .long x4), (7, .long x7)]) hx hb dX11_good_119 hl (k := 5) rfl (by rw [ev7]; rfl) (by decide) rfl (fun ls hl => ?_)
        refine lv_goto (tgt := 18) hx hb dX11_good_122 (by decide) ?_
        exact hk_18 x1 x2 x4 v7 τ6 _ _ _ h hP hD hS (lv_sub hl [2, 3, 4, 5, 0] rfl)
      · have h := h.2 hc
        refine lv_aload_n hx hb dX11_good_98 rfl (lv_at hl 1 rfl) ?_
        refine xg_0_6 hx hb hts hown hK hP mw_295 dX11_good_99 ?_
        refine lv_aload_n hx hb dX11_good_102 rfl (lv_at hl 1 rfl) ?_
        refine xg_0_15 hx hb hts hown hK hP mw_304 dX11_good_103 ?_
        refine lv_iload hx hb dX11_good_106 (lv_at hl 5 rfl) ?_
        refine k_X0_moves N ⟨hx, hb, hml, hown, hts⟩ mw_748 ⟨Nat.le_of_ble_eq_true rfl, Nat.le_of_ble_eq_true rfl⟩ h hK hP hD hS hl.1 (rest := []) (Nat.le_of_ble_eq_true rfl) ⟨Nat.le_of_ble_eq_true rfl, Nat.le_of_ble_eq_true rfl⟩ dX11_good_108 (fun r8 τ9 H locs h hP hD hS => ?_)
        refine lv_if_ne (tgt := 119) hx hb dX11_good_111 (by decide) (fun hc => ?_) (fun hc => ?_)
        · have h := h.2 hc
          obtain ⟨v10, ev10⟩ : ∃ z : Int32, z = x6 + (1 : Int32) := ⟨_, rfl⟩
          have h := h v10 ev10
          refine lv_iinc (v := v10) (lv' := [(6, .int v10), (9, .int s0), (0, .ref (ad 0)), (1, .int x1), (2, .long x2), (4, .long x4), (7, .long x7)]) hx hb dX11_good_119 hl (k := 5) rfl (by rw [ev10]; rfl) (by decide) rfl (fun ls hl => ?_)
          refine lv_goto (tgt := 18) hx hb dX11_good_122 (by decide) ?_
          exact hk_18 x1 x2 x4 v10 τ9 _ _ _ h hP hD hS (lv_sub hl [2, 3, 4, 5, 0] rfl)
        · have h := h.1 hc
          refine lv_lload_n hx hb dX11_good_114 rfl (lv_at hl 3 rfl) ?_
          refine lv_lload hx hb dX11_good_115 (lv_at hl 6 rfl) ?_
          refine lv_lor hx hb dX11_good_117 ?_
          refine lv_topl (fun v11 ev11 => ?_)
          have h := h v11 ev11
          refine lv_lstore_n (lv' := [(2, .long v11), (9, .int s0), (0, .ref (ad 0)), (1, .int x1), (4, .long x4), (6, .int x6), (7, .long x7)]) hx hb dX11_good_118 rfl hl (by decide) rfl (fun ls hl => ?_)
          obtain ⟨v12, ev12⟩ : ∃ z : Int32, z = x6 + (1 : Int32) := ⟨_, rfl⟩
          have h := h v12 ev12
          refine lv_iinc (v := v12) (lv' := [(6, .int v12), (2, .long v11), (9, .int s0), (0, .ref (ad 0)), (1, .int x1), (4, .long x4), (7, .long x7)]) hx hb dX11_good_119 hl (k := 5) rfl (by rw [ev12]; rfl) (by decide) rfl (fun ls hl => ?_)
          refine lv_goto (tgt := 18) hx hb dX11_good_122 (by decide) ?_
          exact hk_18 x1 v11 x4 v12 τ9 _ _ _ h hP hD hS (lv_sub hl [3, 4, 1, 5, 0] rfl)
set_option maxHeartbeats 4000000 in
set_option maxRecDepth 100000 in
theorem tb_X11_good_18 (C0 : zCx p s m meth c args RX11 cX11_good 10 (some .long) vs_X11_good) (hK : va_K (dC, dI) vwCl (x_ty cI cJ) s) (N : Nat) {Q : Int64 → zSt → Prop} {k_18 : Int32 → Int64 → Int64 → Int32 → zSt → Prop} (hk_18 : ∀ (x1 : Int32) (x2 : Int64) (x4 : Int64) (x6 : Int32) (σ : zSt) (H : Heap) (locs : List Loc) (ls : Array Slot), k_18 x1 x2 x4 x6 σ → va_P (dC, dI) vwCl (x_W ad cI cJ σ) H → va_D (zAW x_n ad s.heap.size) (x_W ad cI cJ σ) → va_S (zAW x_n ad s.heap.size) s.heap H locs → lv_has ls 10 [(0, .ref (ad 0)), (1, .int x1), (2, .long x2), (4, .long x4), (6, .int x6)] → W p l e rm_X11_good s m args below meth c H locs 0 0 (MQ below (zQl (dC, dI) (x_ty cI cJ) (x_W ad cI cJ) (zAW x_n ad s.heap.size) Q) args s 0 0 (zAW x_n ad s.heap.size)) (F0 m 18 ls [])) : ∀ (x1 : Int32) (x2 : Int64) (x4 : Int64) (x6 : Int32) (σ : zSt) (H : Heap) (locs : List Loc) (ls : Array Slot), b_X11_good_18 N k_18 Q x1 x2 x4 x6 σ → va_P (dC, dI) vwCl (x_W ad cI cJ σ) H → va_D (zAW x_n ad s.heap.size) (x_W ad cI cJ σ) → va_S (zAW x_n ad s.heap.size) s.heap H locs → lv_has ls 10 [(0, .ref (ad 0)), (1, .int x1), (2, .long x2), (4, .long x4), (6, .int x6)] → W p l e rm_X11_good s m args below meth c H locs 0 0 (MQ below (zQl (dC, dI) (x_ty cI cJ) (x_W ad cI cJ) (zAW x_n ad s.heap.size) Q) args s 0 0 (zAW x_n ad s.heap.size)) (F0 m 18 ls []) := by
  obtain ⟨hx, hb, hml, hr, hown, hts, hlocks⟩ := id C0
  intro x1 x2 x4 x6 σ H locs ls h hP hD hS hl
  unfold b_X11_good_18 at h
  refine lv_iload hx hb dX11_good_18 (lv_at hl 4 rfl) ?_
  refine lv_aload_n hx hb dX11_good_20 rfl (lv_at hl 0 rfl) ?_
  refine xg_0_2 hx hb hts hown hK hP mw_291 dX11_good_21 ?_
  refine xg_3_5 hx hb hts hown hK hP mw_81 dX11_good_24 ?_
  refine lv_icmp_ge (tgt := 125) hx hb dX11_good_27 (by decide) (fun hc => ?_) (fun hc => ?_)
  · have h := h.1 hc
    refine lv_lload_n hx hb dX11_good_125 rfl (lv_at hl 2 rfl) ?_
    exact zret_l hx hb hr hlocks hK hP hD hS h dX11_good_126
  · have h := h.2 hc
    refine lv_lconst (v := (1 : Int64)) hx hb dX11_good_30 (by decide) ?_
    refine lv_iload hx hb dX11_good_31 (lv_at hl 4 rfl) ?_
    refine lv_lshl hx hb dX11_good_33 rfl ?_
    refine lv_topl (fun v1 ev1 => ?_)
    have h := h v1 ev1
    refine lv_lstore (lv' := [(7, .long v1), (0, .ref (ad 0)), (1, .int x1), (2, .long x2), (4, .long x4), (6, .int x6)]) hx hb dX11_good_34 hl (by decide) rfl (fun ls hl => ?_)
    refine lv_aload_n hx hb dX11_good_36 rfl (lv_at hl 1 rfl) ?_
    refine xg_0_15 hx hb hts hown hK hP mw_304 dX11_good_37 ?_
    refine lv_lload hx hb dX11_good_40 (lv_at hl 0 rfl) ?_
    refine lv_land hx hb dX11_good_42 ?_
    refine lv_lconst (v := (0 : Int64)) hx hb dX11_good_43 (by decide) ?_
    refine W.lcmp hx hb dX11_good_44 ?_
    refine lv_if_eq (tgt := 52) hx hb dX11_good_45 (by decide) (fun hc => ?_) (fun hc => ?_)
    · have h := h.1 hc
      refine lv_iconst (v := (0 : Int32)) hx hb dX11_good_52 (by decide) ?_
      exact t_X11_good_53 C0 hK N hk_18 x1 x2 x4 x6 v1 (0 : Int32) σ _ _ _ h hP hD hS (lv_sub hl [1, 2, 3, 4, 5, 0] rfl)
    · have h := h.2 hc
      refine lv_iconst (v := (1 : Int32)) hx hb dX11_good_48 (by decide) ?_
      refine lv_goto (tgt := 53) hx hb dX11_good_49 (by decide) ?_
      exact t_X11_good_53 C0 hK N hk_18 x1 x2 x4 x6 v1 (1 : Int32) σ _ _ _ h hP hD hS (lv_sub hl [1, 2, 3, 4, 5, 0] rfl)
set_option maxHeartbeats 4000000 in
set_option maxRecDepth 100000 in
theorem t_X11_good_18 (C0 : zCx p s m meth c args RX11 cX11_good 10 (some .long) vs_X11_good) (hK : va_K (dC, dI) vwCl (x_ty cI cJ) s) (N : Nat) {Q : Int64 → zSt → Prop} : ∀ (f : Nat) (x1 : Int32) (x2 : Int64) (x4 : Int64) (x6 : Int32) (σ : zSt) (H : Heap) (locs : List Loc) (ls : Array Slot), w_X11_good_18 N  Q f x1 x2 x4 x6 σ → va_P (dC, dI) vwCl (x_W ad cI cJ σ) H → va_D (zAW x_n ad s.heap.size) (x_W ad cI cJ σ) → va_S (zAW x_n ad s.heap.size) s.heap H locs → lv_has ls 10 [(0, .ref (ad 0)), (1, .int x1), (2, .long x2), (4, .long x4), (6, .int x6)] → W p l e rm_X11_good s m args below meth c H locs 0 0 (MQ below (zQl (dC, dI) (x_ty cI cJ) (x_W ad cI cJ) (zAW x_n ad s.heap.size) Q) args s 0 0 (zAW x_n ad s.heap.size)) (F0 m 18 ls []) := by
  intro f
  induction f with
  | zero => intro x1 x2 x4 x6 σ H locs ls h; exact h.elim
  | succ f ih =>
    intro x1 x2 x4 x6 σ H locs ls h hP hD hS hl
    exact tb_X11_good_18 C0 hK N  (k_18 := w_X11_good_18 N  Q f) ih x1 x2 x4 x6 σ H locs ls h hP hD hS hl
set_option maxHeartbeats 4000000 in
set_option maxRecDepth 100000 in
theorem t_X11_good_0 (C0 : zCx p s m meth c args RX11 cX11_good 10 (some .long) vs_X11_good) (hK : va_K (dC, dI) vwCl (x_ty cI cJ) s) (N : Nat) {Q : Int64 → zSt → Prop} : ∀ (x1 : Int32) (σ : zSt) (H : Heap) (locs : List Loc) (ls : Array Slot), w_X11_good N x1 σ Q → va_P (dC, dI) vwCl (x_W ad cI cJ σ) H → va_D (zAW x_n ad s.heap.size) (x_W ad cI cJ σ) → va_S (zAW x_n ad s.heap.size) s.heap H locs → lv_has ls 10 [(0, .ref (ad 0)), (1, .int x1)] → W p l e rm_X11_good s m args below meth c H locs 0 0 (MQ below (zQl (dC, dI) (x_ty cI cJ) (x_W ad cI cJ) (zAW x_n ad s.heap.size) Q) args s 0 0 (zAW x_n ad s.heap.size)) (F0 m 0 ls []) := by
  obtain ⟨hx, hb, hml, hr, hown, hts, hlocks⟩ := id C0
  intro x1 σ H locs ls h hP hD hS hl
  unfold w_X11_good at h
  refine lv_lconst (v := (0 : Int64)) hx hb dX11_good_0 (by decide) ?_
  refine lv_lstore_n (lv' := [(2, .long (0 : Int64)), (0, .ref (ad 0)), (1, .int x1)]) hx hb dX11_good_1 rfl hl (by decide) rfl (fun ls hl => ?_)
  refine lv_aload_n hx hb dX11_good_2 rfl (lv_at hl 1 rfl) ?_
  refine xg_0_5 hx hb hts hown hK hP mw_294 dX11_good_3 ?_
  refine lv_aload_n hx hb dX11_good_6 rfl (lv_at hl 1 rfl) ?_
  refine xg_0_15 hx hb hts hown hK hP mw_304 dX11_good_7 ?_
  refine k_X10_inAll N ⟨hx, hb, hml, hown, hts⟩ mw_538 ⟨Nat.le_of_ble_eq_true rfl, Nat.le_of_ble_eq_true rfl⟩ h hK hP hD hS hl.1 (rest := []) (Nat.le_of_ble_eq_true rfl) ⟨Nat.le_of_ble_eq_true rfl, Nat.le_of_ble_eq_true rfl⟩ dX11_good_10 (fun r1 τ2 H locs h hP hD hS => ?_)
  refine lv_lstore (lv' := [(4, .long r1), (2, .long (0 : Int64)), (0, .ref (ad 0)), (1, .int x1)]) hx hb dX11_good_13 hl (by decide) rfl (fun ls hl => ?_)
  refine lv_iconst (v := (0 : Int32)) hx hb dX11_good_15 (by decide) ?_
  refine lv_istore (lv' := [(6, .int (0 : Int32)), (4, .long r1), (2, .long (0 : Int64)), (0, .ref (ad 0)), (1, .int x1)]) hx hb dX11_good_16 hl (by decide) rfl (fun ls hl => ?_)
  exact t_X11_good_18 C0 hK N  N x1 (0 : Int64) r1 (0 : Int32) τ2 _ _ _ h hP hD hS (lv_sub hl [3, 4, 2, 1, 0] rfl)
set_option maxHeartbeats 4000000 in
set_option maxRecDepth 100000 in
theorem c_X11_good (N : Nat) (l : Launch) (dC : Nat → ClassId) (dI : Nat → Nat → Nat) (ad : Nat → Nat) (cI cJ : ClassId) (sz : Nat) (σ : zSt) (x1 : Int32) (Q : Int64 → zSt → Prop) (h : w_X11_good N x1 σ Q) : Met l yX11_good vs_X11_good rm_X11_good (va_Pc [.ref (ad 0), .int x1] (zPc (dC, dI) (x_ty cI cJ) (x_W ad cI cJ) sz σ)) (zQl (dC, dI) (x_ty cI cJ) (x_W ad cI cJ) (zAW x_n ad sz) Q) 0 0 (zAW x_n ad sz) := by
  refine Met.ofW (cc := cX11_good) (maxL := 10) (ret := (some .long)) (by decide) rfl ?_
  intro p e s m args below meth c s₁ B hml hv
  obtain ⟨rfl, hsz, hP, hK, hD0⟩ := hv
  subst hsz
  have C0 : zCx p s m meth c _ RX11 cX11_good 10 (some .long) vs_X11_good := ⟨B.exec, B.bytes, hml, B.returns, findClass_of_methodNamed B.named, atoms_spec (ws := vs_X11_good) B.pre, B.notSynchronized⟩
  have hD := x_D0 (n0 := s.heap.size) hD0
  have hl := lv_entry ([.ref (ad 0), .int x1]) (n := 10) (Nat.le_of_ble_eq_true rfl)
  rw [lg_entry_eq]
  generalize (lg_sl ([.ref (ad 0), .int x1]) ++ List.replicate (10 - (lg_sl ([.ref (ad 0), .int x1])).length) Slot.unset).toArray = ls at hl ⊢
  exact t_X11_good_0 C0 hK N x1 σ _ _ ls h hP hD va_S.rf hl
theorem k_X11_good (N : Nat) {R : Room} {H : Heap} {locs : List Loc} {cells slots : Nat} {Q2 : State → Prop} {cc : ByteArray} {nL pc index : Nat} {ls : Array Slot} {rest : List Value} {own : String} {c0 : Cond} {σ : zSt} {x1 : Int32} {Q : Int64 → zSt → Prop} (S0 : CallFix p m c cc nL s args (c0 :: zT) own) (hml : Cond.methodLink own index yX11_good ∈ zT) (hR : rm_X11_good.frames + 1 ≤ R.frames ∧ 8 + (10 + 11) + rm_X11_good.locals ≤ R.locals) (h : w_X11_good N x1 σ Q) (hK : va_K (dC, dI) vwCl (x_ty cI cJ) s) (hP : va_P (dC, dI) vwCl (x_W ad cI cJ σ) H) (hD : va_D (zAW x_n ad s.heap.size) (x_W ad cI cJ σ)) (hS : va_S (zAW x_n ad s.heap.size) s.heap H locs) (hsz : ls.size = nL) (hW : (rest.map fun v => v.category).sum ≤ 8) (hcs : cells ≤ R.cells ∧ slots ≤ R.slots) (hdg : decode cc pc = .ok (.invokevirtual index, 3)) (kk : ∀ (r : Int64) (τ : zSt) (H1 : Heap) (locs1 : List Loc), Q r τ → va_P (dC, dI) vwCl (x_W ad cI cJ τ) H1 → va_D (zAW x_n ad s.heap.size) (x_W ad cI cJ τ) → va_S (zAW x_n ad s.heap.size) s.heap H1 locs1 → W p l e R s m args below meth c H1 locs1 cells slots Q2 (F0 m (pc + 3) ls (.long r :: rest))) : W p l e R s m args below meth c H locs cells slots Q2 (F0 m pc ls (.int x1 :: .ref (ad 0) :: rest)) :=
  zcv_l (T := TX11) (N' := 17) (k := 0) (ci := 11) (fs := x_f0 ad σ) [.int x1] S0 (c_X11_good N l dC dI ad cI cJ H.size σ x1 Q h) (cw_X11_good S0.2.2.2.2 hml rfl rfl hR) rfl rfl hK hP hD hS rfl hsz hW rfl hcs hdg kk
end q12
section q12
def b_X11_edge_105 (N : Nat) (k_73 : Int32 → Int32 → Int32 → Int32 → Int32 → Int32 → Int32 → zSt → Prop) (Q : Int32 → zSt → Prop) (x1 : Int32) (x2 : Int32) (x3 : Int32) (x4 : Int32) (x5 : Int32) (x6 : Int32) (x7 : Int32) (s0 : Int32) (σ : zSt) : Prop :=
  ∀ τ1 : zSt, τ1 = zI σ 25 s0 → w_X0_endRest N (τ1.2.1 0) x1 τ1 (fun r2 τ3 => (r2 = 0 → ∀ v5 : Int32, v5 = x7 + (1 : Int32) → k_73 x1 x2 x3 x4 x5 s0 v5 τ3) ∧ (¬ r2 = 0 → ∀ v4 : Int32, v4 = x7 + (1 : Int32) → k_73 x1 x2 x3 x4 x5 x6 v4 τ3))
def b_X11_edge_73 (N : Nat) (k_73 : Int32 → Int32 → Int32 → Int32 → Int32 → Int32 → Int32 → zSt → Prop) (Q : Int32 → zSt → Prop) (x1 : Int32) (x2 : Int32) (x3 : Int32) (x4 : Int32) (x5 : Int32) (x6 : Int32) (x7 : Int32) (σ : zSt) : Prop :=
  ((x3 - x2) < x7 → ∀ τ1 : zSt, τ1 = zI σ 25 x5 → Q x6 τ1) ∧ (¬ (x3 - x2) < x7 → (x6 = (-1000000000 : Int32) → (x4 = 0 → b_X11_edge_105 N k_73 Q x1 x2 x3 x4 x5 x6 x7 (x2 + x7) σ) ∧ (¬ x4 = 0 → b_X11_edge_105 N k_73 Q x1 x2 x3 x4 x5 x6 x7 (x3 - x7) σ)) ∧ (¬ x6 = (-1000000000 : Int32) → ∀ τ2 : zSt, τ2 = zI σ 25 x5 → Q x6 τ2))
def w_X11_edge_73 (N : Nat) (Q : Int32 → zSt → Prop) : Nat → Int32 → Int32 → Int32 → Int32 → Int32 → Int32 → Int32 → zSt → Prop
  | 0 => fun _ _ _ _ _ _ _ _ => False
  | f + 1 => b_X11_edge_73 N (w_X11_edge_73 N  Q f) Q
def w_X11_edge (N : Nat) (x1 : Int32) (x2 : Int32) (x3 : Int32) (x4 : Int32) (σ : zSt) (Q : Int32 → zSt → Prop) : Prop :=
  w_X11_isKind N x1 σ (fun r1 τ2 => (r1 = 0 → Q (-1000000001 : Int32) τ2) ∧ (¬ r1 = 0 → (x1 = (5 : Int32) → Q (-1000000001 : Int32) τ2) ∧ (¬ x1 = (5 : Int32) → ((6 : Int32) < (τ2.1 1) → Q (-1000000001 : Int32) τ2) ∧ (¬ (6 : Int32) < (τ2.1 1) → w_X11_canBeExtra N x2 τ2 (fun r3 τ4 => (r3 = 0 → Q (-1000000001 : Int32) τ4) ∧ (¬ r3 = 0 → w_X11_canBeExtra N x3 τ4 (fun r5 τ6 => (r5 = 0 → Q (-1000000001 : Int32) τ6) ∧ (¬ r5 = 0 → (x3 < x2 → Q (-1000000001 : Int32) τ6) ∧ (¬ x3 < x2 → ((x3 - x2) ≤ (200 : Int32) → ∀ v7 : Int32, v7 = τ6.1 25 → w_X11_edge_73 N Q N x1 x2 x3 x4 v7 (-1000000000 : Int32) (0 : Int32) τ6) ∧ (¬ (x3 - x2) ≤ (200 : Int32) → Q (-1000000001 : Int32) τ6))))))))))
variable {p : Program} {l : Launch} {e : Env} {s : State} {m : MethodId} {args : Array Value} {below : List Frame} {meth : Method} {c : Code} {dC : Nat → ClassId} {dI : Nat → Nat → Nat} {ad : Nat → Nat} {cI cJ : ClassId}
set_option maxHeartbeats 4000000 in
set_option maxRecDepth 100000 in
theorem t_X11_edge_105 (C0 : zCx p s m meth c args RX11 cX11_edge 9 (some .int) vs_X11_edge) (hK : va_K (dC, dI) vwCl (x_ty cI cJ) s) (N : Nat) {Q : Int32 → zSt → Prop} {k_73 : Int32 → Int32 → Int32 → Int32 → Int32 → Int32 → Int32 → zSt → Prop} (hk_73 : ∀ (x1 : Int32) (x2 : Int32) (x3 : Int32) (x4 : Int32) (x5 : Int32) (x6 : Int32) (x7 : Int32) (σ : zSt) (H : Heap) (locs : List Loc) (ls : Array Slot), k_73 x1 x2 x3 x4 x5 x6 x7 σ → va_P (dC, dI) vwCl (x_W ad cI cJ σ) H → va_D (zAW x_n ad s.heap.size) (x_W ad cI cJ σ) → va_S (zAW x_n ad s.heap.size) s.heap H locs → lv_has ls 9 [(0, .ref (ad 0)), (1, .int x1), (2, .int x2), (3, .int x3), (4, .int x4), (5, .int x5), (6, .int x6), (7, .int x7)] → W p l e rm_X11_edge s m args below meth c H locs 0 0 (MQ below (zQi (dC, dI) (x_ty cI cJ) (x_W ad cI cJ) (zAW x_n ad s.heap.size) Q) args s 0 0 (zAW x_n ad s.heap.size)) (F0 m 73 ls [])) : ∀ (x1 : Int32) (x2 : Int32) (x3 : Int32) (x4 : Int32) (x5 : Int32) (x6 : Int32) (x7 : Int32) (s0 : Int32) (σ : zSt) (H : Heap) (locs : List Loc) (ls : Array Slot), b_X11_edge_105 N k_73 Q x1 x2 x3 x4 x5 x6 x7 s0 σ → va_P (dC, dI) vwCl (x_W ad cI cJ σ) H → va_D (zAW x_n ad s.heap.size) (x_W ad cI cJ σ) → va_S (zAW x_n ad s.heap.size) s.heap H locs → lv_has ls 9 [(0, .ref (ad 0)), (1, .int x1), (2, .int x2), (3, .int x3), (4, .int x4), (5, .int x5), (6, .int x6), (7, .int x7)] → W p l e rm_X11_edge s m args below meth c H locs 0 0 (MQ below (zQi (dC, dI) (x_ty cI cJ) (x_W ad cI cJ) (zAW x_n ad s.heap.size) Q) args s 0 0 (zAW x_n ad s.heap.size)) (F0 m 105 ls [.int s0]) := by
  obtain ⟨hx, hb, hml, hr, hown, hts, hlocks⟩ := id C0
  intro x1 x2 x3 x4 x5 x6 x7 s0 σ H locs ls h hP hD hS hl
  unfold b_X11_edge_105 at h
  refine lv_istore (lv' := [(8, .int s0), (0, .ref (ad 0)), (1, .int x1), (2, .int x2), (3, .int x3), (4, .int x4), (5, .int x5), (6, .int x6), (7, .int x7)]) hx hb dX11_edge_105 hl (by decide) rfl (fun ls hl => ?_)
  refine lv_aload_n hx hb dX11_edge_107 rfl (lv_at hl 1 rfl) ?_
  refine xg_0_5 hx hb hts hown hK hP mw_294 dX11_edge_108 ?_
  refine lv_iload hx hb dX11_edge_111 (lv_at hl 0 rfl) ?_
  refine xp_9_6 hx hb hts hown hK hP hD hS mw_207 dX11_edge_113 (fun τ1 H locs eτ1 hP hD hS => ?_)
  have h := h τ1 eτ1
  refine lv_aload_n hx hb dX11_edge_116 rfl (lv_at hl 1 rfl) ?_
  refine xg_0_6 hx hb hts hown hK hP mw_295 dX11_edge_117 ?_
  refine lv_aload_n hx hb dX11_edge_120 rfl (lv_at hl 1 rfl) ?_
  refine xg_0_15 hx hb hts hown hK hP mw_304 dX11_edge_121 ?_
  refine lv_iload_n hx hb dX11_edge_124 rfl (lv_at hl 2 rfl) ?_
  refine k_X0_endRest N ⟨hx, hb, hml, hown, hts⟩ mw_590 ⟨Nat.le_of_ble_eq_true rfl, Nat.le_of_ble_eq_true rfl⟩ h hK hP hD hS hl.1 (rest := []) (Nat.le_of_ble_eq_true rfl) ⟨Nat.le_of_ble_eq_true rfl, Nat.le_of_ble_eq_true rfl⟩ dX11_edge_125 (fun r2 τ3 H locs h hP hD hS => ?_)
  refine lv_if_ne (tgt := 135) hx hb dX11_edge_128 (by decide) (fun hc => ?_) (fun hc => ?_)
  · have h := h.2 hc
    obtain ⟨v4, ev4⟩ : ∃ z : Int32, z = x7 + (1 : Int32) := ⟨_, rfl⟩
    have h := h v4 ev4
    refine lv_iinc (v := v4) (lv' := [(7, .int v4), (8, .int s0), (0, .ref (ad 0)), (1, .int x1), (2, .int x2), (3, .int x3), (4, .int x4), (5, .int x5), (6, .int x6)]) hx hb dX11_edge_135 hl (k := 8) rfl (by rw [ev4]; rfl) (by decide) rfl (fun ls hl => ?_)
    refine lv_goto (tgt := 73) hx hb dX11_edge_138 (by decide) ?_
    exact hk_73 x1 x2 x3 x4 x5 x6 v4 τ3 _ _ _ h hP hD hS (lv_sub hl [2, 3, 4, 5, 6, 7, 8, 0] rfl)
  · have h := h.1 hc
    refine lv_iload hx hb dX11_edge_131 (lv_at hl 0 rfl) ?_
    refine lv_istore (lv' := [(6, .int s0), (8, .int s0), (0, .ref (ad 0)), (1, .int x1), (2, .int x2), (3, .int x3), (4, .int x4), (5, .int x5), (7, .int x7)]) hx hb dX11_edge_133 hl (by decide) rfl (fun ls hl => ?_)
    obtain ⟨v5, ev5⟩ : ∃ z : Int32, z = x7 + (1 : Int32) := ⟨_, rfl⟩
    have h := h v5 ev5
    refine lv_iinc (v := v5) (lv' := [(7, .int v5), (6, .int s0), (8, .int s0), (0, .ref (ad 0)), (1, .int x1), (2, .int x2), (3, .int x3), (4, .int x4), (5, .int x5)]) hx hb dX11_edge_135 hl (k := 8) rfl (by rw [ev5]; rfl) (by decide) rfl (fun ls hl => ?_)
    refine lv_goto (tgt := 73) hx hb dX11_edge_138 (by decide) ?_
    exact hk_73 x1 x2 x3 x4 x5 s0 v5 τ3 _ _ _ h hP hD hS (lv_sub hl [3, 4, 5, 6, 7, 8, 1, 0] rfl)
set_option maxHeartbeats 4000000 in
set_option maxRecDepth 100000 in
theorem tb_X11_edge_73 (C0 : zCx p s m meth c args RX11 cX11_edge 9 (some .int) vs_X11_edge) (hK : va_K (dC, dI) vwCl (x_ty cI cJ) s) (N : Nat) {Q : Int32 → zSt → Prop} {k_73 : Int32 → Int32 → Int32 → Int32 → Int32 → Int32 → Int32 → zSt → Prop} (hk_73 : ∀ (x1 : Int32) (x2 : Int32) (x3 : Int32) (x4 : Int32) (x5 : Int32) (x6 : Int32) (x7 : Int32) (σ : zSt) (H : Heap) (locs : List Loc) (ls : Array Slot), k_73 x1 x2 x3 x4 x5 x6 x7 σ → va_P (dC, dI) vwCl (x_W ad cI cJ σ) H → va_D (zAW x_n ad s.heap.size) (x_W ad cI cJ σ) → va_S (zAW x_n ad s.heap.size) s.heap H locs → lv_has ls 9 [(0, .ref (ad 0)), (1, .int x1), (2, .int x2), (3, .int x3), (4, .int x4), (5, .int x5), (6, .int x6), (7, .int x7)] → W p l e rm_X11_edge s m args below meth c H locs 0 0 (MQ below (zQi (dC, dI) (x_ty cI cJ) (x_W ad cI cJ) (zAW x_n ad s.heap.size) Q) args s 0 0 (zAW x_n ad s.heap.size)) (F0 m 73 ls [])) : ∀ (x1 : Int32) (x2 : Int32) (x3 : Int32) (x4 : Int32) (x5 : Int32) (x6 : Int32) (x7 : Int32) (σ : zSt) (H : Heap) (locs : List Loc) (ls : Array Slot), b_X11_edge_73 N k_73 Q x1 x2 x3 x4 x5 x6 x7 σ → va_P (dC, dI) vwCl (x_W ad cI cJ σ) H → va_D (zAW x_n ad s.heap.size) (x_W ad cI cJ σ) → va_S (zAW x_n ad s.heap.size) s.heap H locs → lv_has ls 9 [(0, .ref (ad 0)), (1, .int x1), (2, .int x2), (3, .int x3), (4, .int x4), (5, .int x5), (6, .int x6), (7, .int x7)] → W p l e rm_X11_edge s m args below meth c H locs 0 0 (MQ below (zQi (dC, dI) (x_ty cI cJ) (x_W ad cI cJ) (zAW x_n ad s.heap.size) Q) args s 0 0 (zAW x_n ad s.heap.size)) (F0 m 73 ls []) := by
  obtain ⟨hx, hb, hml, hr, hown, hts, hlocks⟩ := id C0
  intro x1 x2 x3 x4 x5 x6 x7 σ H locs ls h hP hD hS hl
  unfold b_X11_edge_73 at h
  refine lv_iload hx hb dX11_edge_73 (lv_at hl 7 rfl) ?_
  refine lv_iload_n hx hb dX11_edge_75 rfl (lv_at hl 3 rfl) ?_
  refine lv_iload_n hx hb dX11_edge_76 rfl (lv_at hl 2 rfl) ?_
  refine lv_isub hx hb dX11_edge_77 ?_
  refine lv_icmp_gt (tgt := 141) hx hb dX11_edge_78 (by decide) (fun hc => ?_) (fun hc => ?_)
  · have h := h.1 hc
    refine lv_aload_n hx hb dX11_edge_141 rfl (lv_at hl 0 rfl) ?_
    refine xg_0_5 hx hb hts hown hK hP mw_294 dX11_edge_142 ?_
    refine lv_iload hx hb dX11_edge_145 (lv_at hl 5 rfl) ?_
    refine xp_9_6 hx hb hts hown hK hP hD hS mw_207 dX11_edge_147 (fun τ1 H locs eτ1 hP hD hS => ?_)
    have h := h τ1 eτ1
    refine lv_iload hx hb dX11_edge_150 (lv_at hl 6 rfl) ?_
    exact zret_i hx hb hr hlocks hK hP hD hS h dX11_edge_152
  · have h := h.2 hc
    refine lv_iload hx hb dX11_edge_81 (lv_at hl 6 rfl) ?_
    refine lv_ldcw (v := (-1000000000 : Int32)) hx hb hown (hts _ (List.mem_cons_of_mem _ mw_781)) dX11_edge_83 ?_
    refine lv_icmp_ne (tgt := 141) hx hb dX11_edge_86 (by decide) (fun hc => ?_) (fun hc => ?_)
    · have h := h.2 hc
      refine lv_aload_n hx hb dX11_edge_141 rfl (lv_at hl 0 rfl) ?_
      refine xg_0_5 hx hb hts hown hK hP mw_294 dX11_edge_142 ?_
      refine lv_iload hx hb dX11_edge_145 (lv_at hl 5 rfl) ?_
      refine xp_9_6 hx hb hts hown hK hP hD hS mw_207 dX11_edge_147 (fun τ2 H locs eτ2 hP hD hS => ?_)
      have h := h τ2 eτ2
      refine lv_iload hx hb dX11_edge_150 (lv_at hl 6 rfl) ?_
      exact zret_i hx hb hr hlocks hK hP hD hS h dX11_edge_152
    · have h := h.1 hc
      refine lv_iload hx hb dX11_edge_89 (lv_at hl 4 rfl) ?_
      refine lv_if_eq (tgt := 101) hx hb dX11_edge_91 (by decide) (fun hc => ?_) (fun hc => ?_)
      · have h := h.1 hc
        refine lv_iload_n hx hb dX11_edge_101 rfl (lv_at hl 2 rfl) ?_
        refine lv_iload hx hb dX11_edge_102 (lv_at hl 7 rfl) ?_
        refine lv_iadd hx hb dX11_edge_104 ?_
        exact t_X11_edge_105 C0 hK N hk_73 x1 x2 x3 x4 x5 x6 x7 (x2 + x7) σ _ _ _ h hP hD hS (lv_sub hl [0, 1, 2, 3, 4, 5, 6, 7] rfl)
      · have h := h.2 hc
        refine lv_iload_n hx hb dX11_edge_94 rfl (lv_at hl 3 rfl) ?_
        refine lv_iload hx hb dX11_edge_95 (lv_at hl 7 rfl) ?_
        refine lv_isub hx hb dX11_edge_97 ?_
        refine lv_goto (tgt := 105) hx hb dX11_edge_98 (by decide) ?_
        exact t_X11_edge_105 C0 hK N hk_73 x1 x2 x3 x4 x5 x6 x7 (x3 - x7) σ _ _ _ h hP hD hS (lv_sub hl [0, 1, 2, 3, 4, 5, 6, 7] rfl)
set_option maxHeartbeats 4000000 in
set_option maxRecDepth 100000 in
theorem t_X11_edge_73 (C0 : zCx p s m meth c args RX11 cX11_edge 9 (some .int) vs_X11_edge) (hK : va_K (dC, dI) vwCl (x_ty cI cJ) s) (N : Nat) {Q : Int32 → zSt → Prop} : ∀ (f : Nat) (x1 : Int32) (x2 : Int32) (x3 : Int32) (x4 : Int32) (x5 : Int32) (x6 : Int32) (x7 : Int32) (σ : zSt) (H : Heap) (locs : List Loc) (ls : Array Slot), w_X11_edge_73 N  Q f x1 x2 x3 x4 x5 x6 x7 σ → va_P (dC, dI) vwCl (x_W ad cI cJ σ) H → va_D (zAW x_n ad s.heap.size) (x_W ad cI cJ σ) → va_S (zAW x_n ad s.heap.size) s.heap H locs → lv_has ls 9 [(0, .ref (ad 0)), (1, .int x1), (2, .int x2), (3, .int x3), (4, .int x4), (5, .int x5), (6, .int x6), (7, .int x7)] → W p l e rm_X11_edge s m args below meth c H locs 0 0 (MQ below (zQi (dC, dI) (x_ty cI cJ) (x_W ad cI cJ) (zAW x_n ad s.heap.size) Q) args s 0 0 (zAW x_n ad s.heap.size)) (F0 m 73 ls []) := by
  intro f
  induction f with
  | zero => intro x1 x2 x3 x4 x5 x6 x7 σ H locs ls h; exact h.elim
  | succ f ih =>
    intro x1 x2 x3 x4 x5 x6 x7 σ H locs ls h hP hD hS hl
    exact tb_X11_edge_73 C0 hK N  (k_73 := w_X11_edge_73 N  Q f) ih x1 x2 x3 x4 x5 x6 x7 σ H locs ls h hP hD hS hl
set_option maxHeartbeats 4000000 in
set_option maxRecDepth 100000 in
theorem t_X11_edge_0 (C0 : zCx p s m meth c args RX11 cX11_edge 9 (some .int) vs_X11_edge) (hK : va_K (dC, dI) vwCl (x_ty cI cJ) s) (N : Nat) {Q : Int32 → zSt → Prop} : ∀ (x1 : Int32) (x2 : Int32) (x3 : Int32) (x4 : Int32) (σ : zSt) (H : Heap) (locs : List Loc) (ls : Array Slot), w_X11_edge N x1 x2 x3 x4 σ Q → va_P (dC, dI) vwCl (x_W ad cI cJ σ) H → va_D (zAW x_n ad s.heap.size) (x_W ad cI cJ σ) → va_S (zAW x_n ad s.heap.size) s.heap H locs → lv_has ls 9 [(0, .ref (ad 0)), (1, .int x1), (2, .int x2), (3, .int x3), (4, .int x4)] → W p l e rm_X11_edge s m args below meth c H locs 0 0 (MQ below (zQi (dC, dI) (x_ty cI cJ) (x_W ad cI cJ) (zAW x_n ad s.heap.size) Q) args s 0 0 (zAW x_n ad s.heap.size)) (F0 m 0 ls []) := by
  obtain ⟨hx, hb, hml, hr, hown, hts, hlocks⟩ := id C0
  intro x1 x2 x3 x4 σ H locs ls h hP hD hS hl
  unfold w_X11_edge at h
  refine lv_iload_n hx hb dX11_edge_0 rfl (lv_at hl 1 rfl) ?_
  refine k_X11_isKind N ⟨hx, hb, hml, hown, hts⟩ mw_587 ⟨Nat.le_of_ble_eq_true rfl, Nat.le_of_ble_eq_true rfl⟩ h hK hP hD hS hl.1 (rest := []) (Nat.le_of_ble_eq_true rfl) ⟨Nat.le_of_ble_eq_true rfl, Nat.le_of_ble_eq_true rfl⟩ dX11_edge_1 (fun r1 τ2 H locs h hP hD hS => ?_)
  refine lv_if_eq (tgt := 52) hx hb dX11_edge_4 (by decide) (fun hc => ?_) (fun hc => ?_)
  · have h := h.1 hc
    refine lv_ldcw (v := (-1000000001 : Int32)) hx hb hown (hts _ (List.mem_cons_of_mem _ mw_780)) dX11_edge_52 ?_
    exact zret_i hx hb hr hlocks hK hP hD hS h dX11_edge_55
  · have h := h.2 hc
    refine lv_iload_n hx hb dX11_edge_7 rfl (lv_at hl 1 rfl) ?_
    refine lv_iconst (v := (5 : Int32)) hx hb dX11_edge_8 (by decide) ?_
    refine lv_icmp_eq (tgt := 52) hx hb dX11_edge_9 (by decide) (fun hc => ?_) (fun hc => ?_)
    · have h := h.1 hc
      refine lv_ldcw (v := (-1000000001 : Int32)) hx hb hown (hts _ (List.mem_cons_of_mem _ mw_780)) dX11_edge_52 ?_
      exact zret_i hx hb hr hlocks hK hP hD hS h dX11_edge_55
    · have h := h.2 hc
      refine lv_aload_n hx hb dX11_edge_12 rfl (lv_at hl 0 rfl) ?_
      refine xg_0_2 hx hb hts hown hK hP mw_291 dX11_edge_13 ?_
      refine xg_3_4 hx hb hts hown hK hP mw_75 dX11_edge_16 ?_
      refine lv_bipush (v := (6 : Int32)) hx hb dX11_edge_19 (by decide) ?_
      refine lv_icmp_gt (tgt := 52) hx hb dX11_edge_21 (by decide) (fun hc => ?_) (fun hc => ?_)
      · have h := h.1 hc
        refine lv_ldcw (v := (-1000000001 : Int32)) hx hb hown (hts _ (List.mem_cons_of_mem _ mw_780)) dX11_edge_52 ?_
        exact zret_i hx hb hr hlocks hK hP hD hS h dX11_edge_55
      · have h := h.2 hc
        refine lv_iload_n hx hb dX11_edge_24 rfl (lv_at hl 2 rfl) ?_
        refine k_X11_canBeExtra N ⟨hx, hb, hml, hown, hts⟩ mw_531 ⟨Nat.le_of_ble_eq_true rfl, Nat.le_of_ble_eq_true rfl⟩ h hK hP hD hS hl.1 (rest := []) (Nat.le_of_ble_eq_true rfl) ⟨Nat.le_of_ble_eq_true rfl, Nat.le_of_ble_eq_true rfl⟩ dX11_edge_25 (fun r3 τ4 H locs h hP hD hS => ?_)
        refine lv_if_eq (tgt := 52) hx hb dX11_edge_28 (by decide) (fun hc => ?_) (fun hc => ?_)
        · have h := h.1 hc
          refine lv_ldcw (v := (-1000000001 : Int32)) hx hb hown (hts _ (List.mem_cons_of_mem _ mw_780)) dX11_edge_52 ?_
          exact zret_i hx hb hr hlocks hK hP hD hS h dX11_edge_55
        · have h := h.2 hc
          refine lv_iload_n hx hb dX11_edge_31 rfl (lv_at hl 3 rfl) ?_
          refine k_X11_canBeExtra N ⟨hx, hb, hml, hown, hts⟩ mw_531 ⟨Nat.le_of_ble_eq_true rfl, Nat.le_of_ble_eq_true rfl⟩ h hK hP hD hS hl.1 (rest := []) (Nat.le_of_ble_eq_true rfl) ⟨Nat.le_of_ble_eq_true rfl, Nat.le_of_ble_eq_true rfl⟩ dX11_edge_32 (fun r5 τ6 H locs h hP hD hS => ?_)
          refine lv_if_eq (tgt := 52) hx hb dX11_edge_35 (by decide) (fun hc => ?_) (fun hc => ?_)
          · have h := h.1 hc
            refine lv_ldcw (v := (-1000000001 : Int32)) hx hb hown (hts _ (List.mem_cons_of_mem _ mw_780)) dX11_edge_52 ?_
            exact zret_i hx hb hr hlocks hK hP hD hS h dX11_edge_55
          · have h := h.2 hc
            refine lv_iload_n hx hb dX11_edge_38 rfl (lv_at hl 2 rfl) ?_
            refine lv_iload_n hx hb dX11_edge_39 rfl (lv_at hl 3 rfl) ?_
            refine lv_icmp_gt (tgt := 52) hx hb dX11_edge_40 (by decide) (fun hc => ?_) (fun hc => ?_)
            · have h := h.1 hc
              refine lv_ldcw (v := (-1000000001 : Int32)) hx hb hown (hts _ (List.mem_cons_of_mem _ mw_780)) dX11_edge_52 ?_
              exact zret_i hx hb hr hlocks hK hP hD hS h dX11_edge_55
            · have h := h.2 hc
              refine lv_iload_n hx hb dX11_edge_43 rfl (lv_at hl 3 rfl) ?_
              refine lv_iload_n hx hb dX11_edge_44 rfl (lv_at hl 2 rfl) ?_
              refine lv_isub hx hb dX11_edge_45 ?_
              refine lv_sipush (v := (200 : Int32)) hx hb dX11_edge_46 (by decide) ?_
              refine lv_icmp_le (tgt := 56) hx hb dX11_edge_49 (by decide) (fun hc => ?_) (fun hc => ?_)
              · have h := h.1 hc
                refine lv_aload_n hx hb dX11_edge_56 rfl (lv_at hl 0 rfl) ?_
                refine xg_0_5 hx hb hts hown hK hP mw_294 dX11_edge_57 ?_
                refine xg_9_6 hx hb hts hown hK hP mw_207 dX11_edge_60 ?_
                refine lv_topi (fun v7 ev7 => ?_)
                have h := h v7 ev7
                refine lv_istore (lv' := [(5, .int v7), (0, .ref (ad 0)), (1, .int x1), (2, .int x2), (3, .int x3), (4, .int x4)]) hx hb dX11_edge_63 hl (by decide) rfl (fun ls hl => ?_)
                refine lv_ldcw (v := (-1000000000 : Int32)) hx hb hown (hts _ (List.mem_cons_of_mem _ mw_781)) dX11_edge_65 ?_
                refine lv_istore (lv' := [(6, .int (-1000000000 : Int32)), (5, .int v7), (0, .ref (ad 0)), (1, .int x1), (2, .int x2), (3, .int x3), (4, .int x4)]) hx hb dX11_edge_68 hl (by decide) rfl (fun ls hl => ?_)
                refine lv_iconst (v := (0 : Int32)) hx hb dX11_edge_70 (by decide) ?_
                refine lv_istore (lv' := [(7, .int (0 : Int32)), (6, .int (-1000000000 : Int32)), (5, .int v7), (0, .ref (ad 0)), (1, .int x1), (2, .int x2), (3, .int x3), (4, .int x4)]) hx hb dX11_edge_71 hl (by decide) rfl (fun ls hl => ?_)
                exact t_X11_edge_73 C0 hK N  N x1 x2 x3 x4 v7 (-1000000000 : Int32) (0 : Int32) τ6 _ _ _ h hP hD hS (lv_sub hl [3, 4, 5, 6, 7, 2, 1, 0] rfl)
              · have h := h.2 hc
                refine lv_ldcw (v := (-1000000001 : Int32)) hx hb hown (hts _ (List.mem_cons_of_mem _ mw_780)) dX11_edge_52 ?_
                exact zret_i hx hb hr hlocks hK hP hD hS h dX11_edge_55
set_option maxHeartbeats 4000000 in
set_option maxRecDepth 100000 in
theorem c_X11_edge (N : Nat) (l : Launch) (dC : Nat → ClassId) (dI : Nat → Nat → Nat) (ad : Nat → Nat) (cI cJ : ClassId) (sz : Nat) (σ : zSt) (x1 : Int32) (x2 : Int32) (x3 : Int32) (x4 : Int32) (Q : Int32 → zSt → Prop) (h : w_X11_edge N x1 x2 x3 x4 σ Q) : Met l yX11_edge vs_X11_edge rm_X11_edge (va_Pc [.ref (ad 0), .int x1, .int x2, .int x3, .int x4] (zPc (dC, dI) (x_ty cI cJ) (x_W ad cI cJ) sz σ)) (zQi (dC, dI) (x_ty cI cJ) (x_W ad cI cJ) (zAW x_n ad sz) Q) 0 0 (zAW x_n ad sz) := by
  refine Met.ofW (cc := cX11_edge) (maxL := 9) (ret := (some .int)) (by decide) rfl ?_
  intro p e s m args below meth c s₁ B hml hv
  obtain ⟨rfl, hsz, hP, hK, hD0⟩ := hv
  subst hsz
  have C0 : zCx p s m meth c _ RX11 cX11_edge 9 (some .int) vs_X11_edge := ⟨B.exec, B.bytes, hml, B.returns, findClass_of_methodNamed B.named, atoms_spec (ws := vs_X11_edge) B.pre, B.notSynchronized⟩
  have hD := x_D0 (n0 := s.heap.size) hD0
  have hl := lv_entry ([.ref (ad 0), .int x1, .int x2, .int x3, .int x4]) (n := 9) (Nat.le_of_ble_eq_true rfl)
  rw [lg_entry_eq]
  generalize (lg_sl ([.ref (ad 0), .int x1, .int x2, .int x3, .int x4]) ++ List.replicate (9 - (lg_sl ([.ref (ad 0), .int x1, .int x2, .int x3, .int x4])).length) Slot.unset).toArray = ls at hl ⊢
  exact t_X11_edge_0 C0 hK N x1 x2 x3 x4 σ _ _ ls h hP hD va_S.rf hl
theorem k_X11_edge (N : Nat) {R : Room} {H : Heap} {locs : List Loc} {cells slots : Nat} {Q2 : State → Prop} {cc : ByteArray} {nL pc index : Nat} {ls : Array Slot} {rest : List Value} {own : String} {c0 : Cond} {σ : zSt} {x1 : Int32} {x2 : Int32} {x3 : Int32} {x4 : Int32} {Q : Int32 → zSt → Prop} (S0 : CallFix p m c cc nL s args (c0 :: zT) own) (hml : Cond.methodLink own index yX11_edge ∈ zT) (hR : rm_X11_edge.frames + 1 ≤ R.frames ∧ 8 + (9 + 11) + rm_X11_edge.locals ≤ R.locals) (h : w_X11_edge N x1 x2 x3 x4 σ Q) (hK : va_K (dC, dI) vwCl (x_ty cI cJ) s) (hP : va_P (dC, dI) vwCl (x_W ad cI cJ σ) H) (hD : va_D (zAW x_n ad s.heap.size) (x_W ad cI cJ σ)) (hS : va_S (zAW x_n ad s.heap.size) s.heap H locs) (hsz : ls.size = nL) (hW : (rest.map fun v => v.category).sum ≤ 8) (hcs : cells ≤ R.cells ∧ slots ≤ R.slots) (hdg : decode cc pc = .ok (.invokevirtual index, 3)) (kk : ∀ (r : Int32) (τ : zSt) (H1 : Heap) (locs1 : List Loc), Q r τ → va_P (dC, dI) vwCl (x_W ad cI cJ τ) H1 → va_D (zAW x_n ad s.heap.size) (x_W ad cI cJ τ) → va_S (zAW x_n ad s.heap.size) s.heap H1 locs1 → W p l e R s m args below meth c H1 locs1 cells slots Q2 (F0 m (pc + 3) ls (.int r :: rest))) : W p l e R s m args below meth c H locs cells slots Q2 (F0 m pc ls (.int x4 :: .int x3 :: .int x2 :: .int x1 :: .ref (ad 0) :: rest)) :=
  zcv_i (T := TX11) (N' := 17) (k := 0) (ci := 11) (fs := x_f0 ad σ) [.int x1, .int x2, .int x3, .int x4] S0 (c_X11_edge N l dC dI ad cI cJ H.size σ x1 x2 x3 x4 Q h) (cw_X11_edge S0.2.2.2.2 hml rfl rfl hR) rfl rfl hK hP hD hS rfl hsz hW rfl hcs hdg kk
end q12
section q12
def b_X11_lie_121 (N : Nat) (k_29 : Int32 → Int32 → Int32 → zSt → Prop) (Q : Int32 → zSt → Prop) (x1 : Int32) (x3 : Int32) (x6 : Int64) (σ : zSt) : Prop :=
  ∀ τ1 : zSt, τ1 = zJ σ 1 x6 → ∀ v2 : Int32, v2 = x3 + (1 : Int32) → k_29 x1 x3 v2 τ1
def b_X11_lie_92 (N : Nat) (k_29 : Int32 → Int32 → Int32 → zSt → Prop) (Q : Int32 → zSt → Prop) (x1 : Int32) (x2 : Int32) (x3 : Int32) (s0 : Int64) (σ : zSt) : Prop :=
  w_X10_of N s0 x1 σ (fun r1 τ2 => (x2 = (-1 : Int32) → b_X11_lie_121 N k_29 Q x1 x3 r1 τ2) ∧ (¬ x2 = (-1 : Int32) → ((lg_cmp r1 (τ2.2.1 1)) ≤ 0 → ∀ v3 : Int32, v3 = x3 + (1 : Int32) → k_29 x1 x2 v3 τ2) ∧ (¬ (lg_cmp r1 (τ2.2.1 1)) ≤ 0 → b_X11_lie_121 N k_29 Q x1 x3 r1 τ2)))
def b_X11_lie_91 (N : Nat) (k_29 : Int32 → Int32 → Int32 → zSt → Prop) (Q : Int32 → zSt → Prop) (x1 : Int32) (x2 : Int32) (x3 : Int32) (σ : zSt) : Prop :=
  b_X11_lie_92 N k_29 Q x1 x2 x3 (0 : Int64) σ
def b_X11_lie_29 (N : Nat) (k_29 : Int32 → Int32 → Int32 → zSt → Prop) (Q : Int32 → zSt → Prop) (x1 : Int32) (x2 : Int32) (x3 : Int32) (σ : zSt) : Prop :=
  ((20 : Int32) < x3 → Q x2 σ) ∧ (¬ (20 : Int32) < x3 → w_X10_pretend N x1 x3 σ (fun τ2 => w_X9_from N (0 : Int64) τ2 (fun τ4 => w_X10_pretend N (-1 : Int32) (0 : Int32) τ4 (fun τ6 => ((τ6.1 32) = 0 → b_X11_lie_91 N k_29 Q x1 x2 x3 τ6) ∧ (¬ (τ6.1 32) = 0 → ((τ6.1 31) = 0 → w_X9_lastNet N τ6 (fun r7 τ8 => b_X11_lie_92 N k_29 Q x1 x2 x3 r7 τ8)) ∧ (¬ (τ6.1 31) = 0 → b_X11_lie_91 N k_29 Q x1 x2 x3 τ6))))))
def w_X11_lie_29 (N : Nat) (Q : Int32 → zSt → Prop) : Nat → Int32 → Int32 → Int32 → zSt → Prop
  | 0 => fun _ _ _ _ => False
  | f + 1 => b_X11_lie_29 N (w_X11_lie_29 N  Q f) Q
def w_X11_lie (N : Nat) (x1 : Int32) (σ : zSt) (Q : Int32 → zSt → Prop) : Prop :=
  w_X4_isPerson_2 N x1 σ (fun r1 τ2 => (r1 = 0 → Q (-1 : Int32) τ2) ∧ (¬ r1 = 0 → ((τ2.1 1) ≤ (6 : Int32) → w_X11_lie_29 N Q N x1 (-1 : Int32) (0 : Int32) τ2) ∧ (¬ (τ2.1 1) ≤ (6 : Int32) → Q (-1 : Int32) τ2)))
variable {p : Program} {l : Launch} {e : Env} {s : State} {m : MethodId} {args : Array Value} {below : List Frame} {meth : Method} {c : Code} {dC : Nat → ClassId} {dI : Nat → Nat → Nat} {ad : Nat → Nat} {cI cJ : ClassId}
set_option maxHeartbeats 4000000 in
set_option maxRecDepth 100000 in
theorem t_X11_lie_121 (C0 : zCx p s m meth c args RX11 cX11_lie 8 (some .int) vs_X11_lie) (hK : va_K (dC, dI) vwCl (x_ty cI cJ) s) (N : Nat) {Q : Int32 → zSt → Prop} {k_29 : Int32 → Int32 → Int32 → zSt → Prop} (hk_29 : ∀ (x1 : Int32) (x2 : Int32) (x3 : Int32) (σ : zSt) (H : Heap) (locs : List Loc) (ls : Array Slot), k_29 x1 x2 x3 σ → va_P (dC, dI) vwCl (x_W ad cI cJ σ) H → va_D (zAW x_n ad s.heap.size) (x_W ad cI cJ σ) → va_S (zAW x_n ad s.heap.size) s.heap H locs → lv_has ls 8 [(0, .ref (ad 0)), (1, .int x1), (2, .int x2), (3, .int x3)] → W p l e rm_X11_lie s m args below meth c H locs 0 0 (MQ below (zQi (dC, dI) (x_ty cI cJ) (x_W ad cI cJ) (zAW x_n ad s.heap.size) Q) args s 0 0 (zAW x_n ad s.heap.size)) (F0 m 29 ls [])) : ∀ (x1 : Int32) (x3 : Int32) (x6 : Int64) (σ : zSt) (H : Heap) (locs : List Loc) (ls : Array Slot), b_X11_lie_121 N k_29 Q x1 x3 x6 σ → va_P (dC, dI) vwCl (x_W ad cI cJ σ) H → va_D (zAW x_n ad s.heap.size) (x_W ad cI cJ σ) → va_S (zAW x_n ad s.heap.size) s.heap H locs → lv_has ls 8 [(0, .ref (ad 0)), (1, .int x1), (3, .int x3), (6, .long x6)] → W p l e rm_X11_lie s m args below meth c H locs 0 0 (MQ below (zQi (dC, dI) (x_ty cI cJ) (x_W ad cI cJ) (zAW x_n ad s.heap.size) Q) args s 0 0 (zAW x_n ad s.heap.size)) (F0 m 121 ls []) := by
  obtain ⟨hx, hb, hml, hr, hown, hts, hlocks⟩ := id C0
  intro x1 x3 x6 σ H locs ls h hP hD hS hl
  unfold b_X11_lie_121 at h
  refine lv_iload_n hx hb dX11_lie_121 rfl (lv_at hl 2 rfl) ?_
  refine lv_istore_n (lv' := [(2, .int x3), (0, .ref (ad 0)), (1, .int x1), (3, .int x3), (6, .long x6)]) hx hb dX11_lie_122 rfl hl (by decide) rfl (fun ls hl => ?_)
  refine lv_aload_n hx hb dX11_lie_123 rfl (lv_at hl 1 rfl) ?_
  refine lv_lload hx hb dX11_lie_124 (lv_at hl 4 rfl) ?_
  refine xp_0_16 hx hb hts hown hK hP hD hS mw_305 dX11_lie_126 (fun τ1 H locs eτ1 hP hD hS => ?_)
  have h := h τ1 eτ1
  obtain ⟨v2, ev2⟩ : ∃ z : Int32, z = x3 + (1 : Int32) := ⟨_, rfl⟩
  have h := h v2 ev2
  refine lv_iinc (v := v2) (lv' := [(3, .int v2), (2, .int x3), (0, .ref (ad 0)), (1, .int x1), (6, .long x6)]) hx hb dX11_lie_129 hl (k := 3) rfl (by rw [ev2]; rfl) (by decide) rfl (fun ls hl => ?_)
  refine lv_goto (tgt := 29) hx hb dX11_lie_132 (by decide) ?_
  exact hk_29 x1 x3 v2 τ1 _ _ _ h hP hD hS (lv_sub hl [2, 3, 1, 0] rfl)
set_option maxHeartbeats 4000000 in
set_option maxRecDepth 100000 in
theorem t_X11_lie_92 (C0 : zCx p s m meth c args RX11 cX11_lie 8 (some .int) vs_X11_lie) (hK : va_K (dC, dI) vwCl (x_ty cI cJ) s) (N : Nat) {Q : Int32 → zSt → Prop} {k_29 : Int32 → Int32 → Int32 → zSt → Prop} (hk_29 : ∀ (x1 : Int32) (x2 : Int32) (x3 : Int32) (σ : zSt) (H : Heap) (locs : List Loc) (ls : Array Slot), k_29 x1 x2 x3 σ → va_P (dC, dI) vwCl (x_W ad cI cJ σ) H → va_D (zAW x_n ad s.heap.size) (x_W ad cI cJ σ) → va_S (zAW x_n ad s.heap.size) s.heap H locs → lv_has ls 8 [(0, .ref (ad 0)), (1, .int x1), (2, .int x2), (3, .int x3)] → W p l e rm_X11_lie s m args below meth c H locs 0 0 (MQ below (zQi (dC, dI) (x_ty cI cJ) (x_W ad cI cJ) (zAW x_n ad s.heap.size) Q) args s 0 0 (zAW x_n ad s.heap.size)) (F0 m 29 ls [])) : ∀ (x1 : Int32) (x2 : Int32) (x3 : Int32) (s0 : Int64) (σ : zSt) (H : Heap) (locs : List Loc) (ls : Array Slot), b_X11_lie_92 N k_29 Q x1 x2 x3 s0 σ → va_P (dC, dI) vwCl (x_W ad cI cJ σ) H → va_D (zAW x_n ad s.heap.size) (x_W ad cI cJ σ) → va_S (zAW x_n ad s.heap.size) s.heap H locs → lv_has ls 8 [(0, .ref (ad 0)), (1, .int x1), (2, .int x2), (3, .int x3)] → W p l e rm_X11_lie s m args below meth c H locs 0 0 (MQ below (zQi (dC, dI) (x_ty cI cJ) (x_W ad cI cJ) (zAW x_n ad s.heap.size) Q) args s 0 0 (zAW x_n ad s.heap.size)) (F0 m 92 ls [.long s0]) := by
  obtain ⟨hx, hb, hml, hr, hown, hts, hlocks⟩ := id C0
  intro x1 x2 x3 s0 σ H locs ls h hP hD hS hl
  unfold b_X11_lie_92 at h
  refine lv_lstore (lv' := [(4, .long s0), (0, .ref (ad 0)), (1, .int x1), (2, .int x2), (3, .int x3)]) hx hb dX11_lie_92 hl (by decide) rfl (fun ls hl => ?_)
  refine lv_aload_n hx hb dX11_lie_94 rfl (lv_at hl 1 rfl) ?_
  refine xg_0_5 hx hb hts hown hK hP mw_294 dX11_lie_95 ?_
  refine lv_lload hx hb dX11_lie_98 (lv_at hl 0 rfl) ?_
  refine lv_iload_n hx hb dX11_lie_100 rfl (lv_at hl 2 rfl) ?_
  refine k_X10_of N ⟨hx, hb, hml, hown, hts⟩ mw_576 ⟨Nat.le_of_ble_eq_true rfl, Nat.le_of_ble_eq_true rfl⟩ h hK hP hD hS hl.1 (rest := []) (Nat.le_of_ble_eq_true rfl) ⟨Nat.le_of_ble_eq_true rfl, Nat.le_of_ble_eq_true rfl⟩ dX11_lie_101 (fun r1 τ2 H locs h hP hD hS => ?_)
  refine lv_lstore (lv' := [(6, .long r1), (4, .long s0), (0, .ref (ad 0)), (1, .int x1), (2, .int x2), (3, .int x3)]) hx hb dX11_lie_104 hl (by decide) rfl (fun ls hl => ?_)
  refine lv_iload_n hx hb dX11_lie_106 rfl (lv_at hl 4 rfl) ?_
  refine lv_iconst (v := (-1 : Int32)) hx hb dX11_lie_107 (by decide) ?_
  refine lv_icmp_eq (tgt := 121) hx hb dX11_lie_108 (by decide) (fun hc => ?_) (fun hc => ?_)
  · have h := h.1 hc
    exact t_X11_lie_121 C0 hK N hk_29 x1 x3 r1 τ2 _ _ _ h hP hD hS (lv_sub hl [2, 3, 5, 0] rfl)
  · have h := h.2 hc
    refine lv_lload hx hb dX11_lie_111 (lv_at hl 0 rfl) ?_
    refine lv_aload_n hx hb dX11_lie_113 rfl (lv_at hl 2 rfl) ?_
    refine xg_0_16 hx hb hts hown hK hP mw_305 dX11_lie_114 ?_
    refine W.lcmp hx hb dX11_lie_117 ?_
    refine lv_if_le (tgt := 129) hx hb dX11_lie_118 (by decide) (fun hc => ?_) (fun hc => ?_)
    · have h := h.1 hc
      obtain ⟨v3, ev3⟩ : ∃ z : Int32, z = x3 + (1 : Int32) := ⟨_, rfl⟩
      have h := h v3 ev3
      refine lv_iinc (v := v3) (lv' := [(3, .int v3), (6, .long r1), (4, .long s0), (0, .ref (ad 0)), (1, .int x1), (2, .int x2)]) hx hb dX11_lie_129 hl (k := 5) rfl (by rw [ev3]; rfl) (by decide) rfl (fun ls hl => ?_)
      refine lv_goto (tgt := 29) hx hb dX11_lie_132 (by decide) ?_
      exact hk_29 x1 x2 v3 τ2 _ _ _ h hP hD hS (lv_sub hl [3, 4, 5, 0] rfl)
    · have h := h.2 hc
      exact t_X11_lie_121 C0 hK N hk_29 x1 x3 r1 τ2 _ _ _ h hP hD hS (lv_sub hl [2, 3, 5, 0] rfl)
set_option maxHeartbeats 4000000 in
set_option maxRecDepth 100000 in
theorem t_X11_lie_91 (C0 : zCx p s m meth c args RX11 cX11_lie 8 (some .int) vs_X11_lie) (hK : va_K (dC, dI) vwCl (x_ty cI cJ) s) (N : Nat) {Q : Int32 → zSt → Prop} {k_29 : Int32 → Int32 → Int32 → zSt → Prop} (hk_29 : ∀ (x1 : Int32) (x2 : Int32) (x3 : Int32) (σ : zSt) (H : Heap) (locs : List Loc) (ls : Array Slot), k_29 x1 x2 x3 σ → va_P (dC, dI) vwCl (x_W ad cI cJ σ) H → va_D (zAW x_n ad s.heap.size) (x_W ad cI cJ σ) → va_S (zAW x_n ad s.heap.size) s.heap H locs → lv_has ls 8 [(0, .ref (ad 0)), (1, .int x1), (2, .int x2), (3, .int x3)] → W p l e rm_X11_lie s m args below meth c H locs 0 0 (MQ below (zQi (dC, dI) (x_ty cI cJ) (x_W ad cI cJ) (zAW x_n ad s.heap.size) Q) args s 0 0 (zAW x_n ad s.heap.size)) (F0 m 29 ls [])) : ∀ (x1 : Int32) (x2 : Int32) (x3 : Int32) (σ : zSt) (H : Heap) (locs : List Loc) (ls : Array Slot), b_X11_lie_91 N k_29 Q x1 x2 x3 σ → va_P (dC, dI) vwCl (x_W ad cI cJ σ) H → va_D (zAW x_n ad s.heap.size) (x_W ad cI cJ σ) → va_S (zAW x_n ad s.heap.size) s.heap H locs → lv_has ls 8 [(0, .ref (ad 0)), (1, .int x1), (2, .int x2), (3, .int x3)] → W p l e rm_X11_lie s m args below meth c H locs 0 0 (MQ below (zQi (dC, dI) (x_ty cI cJ) (x_W ad cI cJ) (zAW x_n ad s.heap.size) Q) args s 0 0 (zAW x_n ad s.heap.size)) (F0 m 91 ls []) := by
  obtain ⟨hx, hb, hml, hr, hown, hts, hlocks⟩ := id C0
  intro x1 x2 x3 σ H locs ls h hP hD hS hl
  unfold b_X11_lie_91 at h
  refine lv_lconst (v := (0 : Int64)) hx hb dX11_lie_91 (by decide) ?_
  exact t_X11_lie_92 C0 hK N hk_29 x1 x2 x3 (0 : Int64) σ _ _ _ h hP hD hS (lv_sub hl [0, 1, 2, 3] rfl)
set_option maxHeartbeats 4000000 in
set_option maxRecDepth 100000 in
theorem tb_X11_lie_29 (C0 : zCx p s m meth c args RX11 cX11_lie 8 (some .int) vs_X11_lie) (hK : va_K (dC, dI) vwCl (x_ty cI cJ) s) (N : Nat) {Q : Int32 → zSt → Prop} {k_29 : Int32 → Int32 → Int32 → zSt → Prop} (hk_29 : ∀ (x1 : Int32) (x2 : Int32) (x3 : Int32) (σ : zSt) (H : Heap) (locs : List Loc) (ls : Array Slot), k_29 x1 x2 x3 σ → va_P (dC, dI) vwCl (x_W ad cI cJ σ) H → va_D (zAW x_n ad s.heap.size) (x_W ad cI cJ σ) → va_S (zAW x_n ad s.heap.size) s.heap H locs → lv_has ls 8 [(0, .ref (ad 0)), (1, .int x1), (2, .int x2), (3, .int x3)] → W p l e rm_X11_lie s m args below meth c H locs 0 0 (MQ below (zQi (dC, dI) (x_ty cI cJ) (x_W ad cI cJ) (zAW x_n ad s.heap.size) Q) args s 0 0 (zAW x_n ad s.heap.size)) (F0 m 29 ls [])) : ∀ (x1 : Int32) (x2 : Int32) (x3 : Int32) (σ : zSt) (H : Heap) (locs : List Loc) (ls : Array Slot), b_X11_lie_29 N k_29 Q x1 x2 x3 σ → va_P (dC, dI) vwCl (x_W ad cI cJ σ) H → va_D (zAW x_n ad s.heap.size) (x_W ad cI cJ σ) → va_S (zAW x_n ad s.heap.size) s.heap H locs → lv_has ls 8 [(0, .ref (ad 0)), (1, .int x1), (2, .int x2), (3, .int x3)] → W p l e rm_X11_lie s m args below meth c H locs 0 0 (MQ below (zQi (dC, dI) (x_ty cI cJ) (x_W ad cI cJ) (zAW x_n ad s.heap.size) Q) args s 0 0 (zAW x_n ad s.heap.size)) (F0 m 29 ls []) := by
  obtain ⟨hx, hb, hml, hr, hown, hts, hlocks⟩ := id C0
  intro x1 x2 x3 σ H locs ls h hP hD hS hl
  unfold b_X11_lie_29 at h
  refine lv_iload_n hx hb dX11_lie_29 rfl (lv_at hl 3 rfl) ?_
  refine lv_bipush (v := (20 : Int32)) hx hb dX11_lie_30 (by decide) ?_
  refine lv_icmp_gt (tgt := 135) hx hb dX11_lie_32 (by decide) (fun hc => ?_) (fun hc => ?_)
  · have h := h.1 hc
    refine lv_iload_n hx hb dX11_lie_135 rfl (lv_at hl 2 rfl) ?_
    exact zret_i hx hb hr hlocks hK hP hD hS h dX11_lie_136
  · have h := h.2 hc
    refine lv_aload_n hx hb dX11_lie_35 rfl (lv_at hl 0 rfl) ?_
    refine xg_0_5 hx hb hts hown hK hP mw_294 dX11_lie_36 ?_
    refine lv_iload_n hx hb dX11_lie_39 rfl (lv_at hl 1 rfl) ?_
    refine lv_iload_n hx hb dX11_lie_40 rfl (lv_at hl 3 rfl) ?_
    refine k_X10_pretend N ⟨hx, hb, hml, hown, hts⟩ mw_786 ⟨Nat.le_of_ble_eq_true rfl, Nat.le_of_ble_eq_true rfl⟩ h hK hP hD hS hl.1 (rest := []) (Nat.le_of_ble_eq_true rfl) ⟨Nat.le_of_ble_eq_true rfl, Nat.le_of_ble_eq_true rfl⟩ dX11_lie_41 (fun τ2 H locs h hP hD hS => ?_)
    refine lv_aload_n hx hb dX11_lie_44 rfl (lv_at hl 0 rfl) ?_
    refine xg_0_7 hx hb hts hown hK hP mw_296 dX11_lie_45 ?_
    refine lv_lconst (v := (0 : Int64)) hx hb dX11_lie_48 (by decide) ?_
    refine k_X9_from N ⟨hx, hb, hml, hown, hts⟩ mw_665 ⟨Nat.le_of_ble_eq_true rfl, Nat.le_of_ble_eq_true rfl⟩ h hK hP hD hS hl.1 (rest := []) (Nat.le_of_ble_eq_true rfl) ⟨Nat.le_of_ble_eq_true rfl, Nat.le_of_ble_eq_true rfl⟩ dX11_lie_49 (fun τ4 H locs h hP hD hS => ?_)
    refine lv_aload_n hx hb dX11_lie_52 rfl (lv_at hl 0 rfl) ?_
    refine xg_0_5 hx hb hts hown hK hP mw_294 dX11_lie_53 ?_
    refine lv_iconst (v := (-1 : Int32)) hx hb dX11_lie_56 (by decide) ?_
    refine lv_iconst (v := (0 : Int32)) hx hb dX11_lie_57 (by decide) ?_
    refine k_X10_pretend N ⟨hx, hb, hml, hown, hts⟩ mw_786 ⟨Nat.le_of_ble_eq_true rfl, Nat.le_of_ble_eq_true rfl⟩ h hK hP hD hS hl.1 (rest := []) (Nat.le_of_ble_eq_true rfl) ⟨Nat.le_of_ble_eq_true rfl, Nat.le_of_ble_eq_true rfl⟩ dX11_lie_58 (fun τ6 H locs h hP hD hS => ?_)
    refine lv_aload_n hx hb dX11_lie_61 rfl (lv_at hl 0 rfl) ?_
    refine xg_0_7 hx hb hts hown hK hP mw_296 dX11_lie_62 ?_
    refine xg_11_6 hx hb hts hown hK hP mw_247 dX11_lie_65 ?_
    refine lv_if_eq (tgt := 91) hx hb dX11_lie_68 (by decide) (fun hc => ?_) (fun hc => ?_)
    · have h := h.1 hc
      exact t_X11_lie_91 C0 hK N hk_29 x1 x2 x3 τ6 _ _ _ h hP hD hS (lv_sub hl [0, 1, 2, 3] rfl)
    · have h := h.2 hc
      refine lv_aload_n hx hb dX11_lie_71 rfl (lv_at hl 0 rfl) ?_
      refine xg_0_7 hx hb hts hown hK hP mw_296 dX11_lie_72 ?_
      refine xg_11_5 hx hb hts hown hK hP mw_245 dX11_lie_75 ?_
      refine lv_if_ne (tgt := 91) hx hb dX11_lie_78 (by decide) (fun hc => ?_) (fun hc => ?_)
      · have h := h.2 hc
        exact t_X11_lie_91 C0 hK N hk_29 x1 x2 x3 τ6 _ _ _ h hP hD hS (lv_sub hl [0, 1, 2, 3] rfl)
      · have h := h.1 hc
        refine lv_aload_n hx hb dX11_lie_81 rfl (lv_at hl 0 rfl) ?_
        refine xg_0_7 hx hb hts hown hK hP mw_296 dX11_lie_82 ?_
        refine k_X9_lastNet N ⟨hx, hb, hml, hown, hts⟩ mw_673 ⟨Nat.le_of_ble_eq_true rfl, Nat.le_of_ble_eq_true rfl⟩ h hK hP hD hS hl.1 (rest := []) (Nat.le_of_ble_eq_true rfl) ⟨Nat.le_of_ble_eq_true rfl, Nat.le_of_ble_eq_true rfl⟩ dX11_lie_85 (fun r7 τ8 H locs h hP hD hS => ?_)
        refine lv_goto (tgt := 92) hx hb dX11_lie_88 (by decide) ?_
        exact t_X11_lie_92 C0 hK N hk_29 x1 x2 x3 r7 τ8 _ _ _ h hP hD hS (lv_sub hl [0, 1, 2, 3] rfl)
set_option maxHeartbeats 4000000 in
set_option maxRecDepth 100000 in
theorem t_X11_lie_29 (C0 : zCx p s m meth c args RX11 cX11_lie 8 (some .int) vs_X11_lie) (hK : va_K (dC, dI) vwCl (x_ty cI cJ) s) (N : Nat) {Q : Int32 → zSt → Prop} : ∀ (f : Nat) (x1 : Int32) (x2 : Int32) (x3 : Int32) (σ : zSt) (H : Heap) (locs : List Loc) (ls : Array Slot), w_X11_lie_29 N  Q f x1 x2 x3 σ → va_P (dC, dI) vwCl (x_W ad cI cJ σ) H → va_D (zAW x_n ad s.heap.size) (x_W ad cI cJ σ) → va_S (zAW x_n ad s.heap.size) s.heap H locs → lv_has ls 8 [(0, .ref (ad 0)), (1, .int x1), (2, .int x2), (3, .int x3)] → W p l e rm_X11_lie s m args below meth c H locs 0 0 (MQ below (zQi (dC, dI) (x_ty cI cJ) (x_W ad cI cJ) (zAW x_n ad s.heap.size) Q) args s 0 0 (zAW x_n ad s.heap.size)) (F0 m 29 ls []) := by
  intro f
  induction f with
  | zero => intro x1 x2 x3 σ H locs ls h; exact h.elim
  | succ f ih =>
    intro x1 x2 x3 σ H locs ls h hP hD hS hl
    exact tb_X11_lie_29 C0 hK N  (k_29 := w_X11_lie_29 N  Q f) ih x1 x2 x3 σ H locs ls h hP hD hS hl
set_option maxHeartbeats 4000000 in
set_option maxRecDepth 100000 in
theorem t_X11_lie_0 (C0 : zCx p s m meth c args RX11 cX11_lie 8 (some .int) vs_X11_lie) (hK : va_K (dC, dI) vwCl (x_ty cI cJ) s) (N : Nat) {Q : Int32 → zSt → Prop} : ∀ (x1 : Int32) (σ : zSt) (H : Heap) (locs : List Loc) (ls : Array Slot), w_X11_lie N x1 σ Q → va_P (dC, dI) vwCl (x_W ad cI cJ σ) H → va_D (zAW x_n ad s.heap.size) (x_W ad cI cJ σ) → va_S (zAW x_n ad s.heap.size) s.heap H locs → lv_has ls 8 [(0, .ref (ad 0)), (1, .int x1)] → W p l e rm_X11_lie s m args below meth c H locs 0 0 (MQ below (zQi (dC, dI) (x_ty cI cJ) (x_W ad cI cJ) (zAW x_n ad s.heap.size) Q) args s 0 0 (zAW x_n ad s.heap.size)) (F0 m 0 ls []) := by
  obtain ⟨hx, hb, hml, hr, hown, hts, hlocks⟩ := id C0
  intro x1 σ H locs ls h hP hD hS hl
  unfold w_X11_lie at h
  refine lv_aload_n hx hb dX11_lie_0 rfl (lv_at hl 0 rfl) ?_
  refine xg_0_2 hx hb hts hown hK hP mw_291 dX11_lie_1 ?_
  refine lv_iload_n hx hb dX11_lie_4 rfl (lv_at hl 1 rfl) ?_
  refine k_X4_isPerson_2 N ⟨hx, hb, hml, hown, hts⟩ mw_491 ⟨Nat.le_of_ble_eq_true rfl, Nat.le_of_ble_eq_true rfl⟩ h hK hP hD hS hl.1 (rest := []) (Nat.le_of_ble_eq_true rfl) ⟨Nat.le_of_ble_eq_true rfl, Nat.le_of_ble_eq_true rfl⟩ dX11_lie_5 (fun r1 τ2 H locs h hP hD hS => ?_)
  refine lv_if_eq (tgt := 23) hx hb dX11_lie_8 (by decide) (fun hc => ?_) (fun hc => ?_)
  · have h := h.1 hc
    refine lv_iconst (v := (-1 : Int32)) hx hb dX11_lie_23 (by decide) ?_
    exact zret_i hx hb hr hlocks hK hP hD hS h dX11_lie_24
  · have h := h.2 hc
    refine lv_aload_n hx hb dX11_lie_11 rfl (lv_at hl 0 rfl) ?_
    refine xg_0_2 hx hb hts hown hK hP mw_291 dX11_lie_12 ?_
    refine xg_3_4 hx hb hts hown hK hP mw_75 dX11_lie_15 ?_
    refine lv_bipush (v := (6 : Int32)) hx hb dX11_lie_18 (by decide) ?_
    refine lv_icmp_le (tgt := 25) hx hb dX11_lie_20 (by decide) (fun hc => ?_) (fun hc => ?_)
    · have h := h.1 hc
      refine lv_iconst (v := (-1 : Int32)) hx hb dX11_lie_25 (by decide) ?_
      refine lv_istore_n (lv' := [(2, .int (-1 : Int32)), (0, .ref (ad 0)), (1, .int x1)]) hx hb dX11_lie_26 rfl hl (by decide) rfl (fun ls hl => ?_)
      refine lv_iconst (v := (0 : Int32)) hx hb dX11_lie_27 (by decide) ?_
      refine lv_istore_n (lv' := [(3, .int (0 : Int32)), (2, .int (-1 : Int32)), (0, .ref (ad 0)), (1, .int x1)]) hx hb dX11_lie_28 rfl hl (by decide) rfl (fun ls hl => ?_)
      exact t_X11_lie_29 C0 hK N  N x1 (-1 : Int32) (0 : Int32) τ2 _ _ _ h hP hD hS (lv_sub hl [2, 3, 1, 0] rfl)
    · have h := h.2 hc
      refine lv_iconst (v := (-1 : Int32)) hx hb dX11_lie_23 (by decide) ?_
      exact zret_i hx hb hr hlocks hK hP hD hS h dX11_lie_24
set_option maxHeartbeats 4000000 in
set_option maxRecDepth 100000 in
theorem c_X11_lie (N : Nat) (l : Launch) (dC : Nat → ClassId) (dI : Nat → Nat → Nat) (ad : Nat → Nat) (cI cJ : ClassId) (sz : Nat) (σ : zSt) (x1 : Int32) (Q : Int32 → zSt → Prop) (h : w_X11_lie N x1 σ Q) : Met l yX11_lie vs_X11_lie rm_X11_lie (va_Pc [.ref (ad 0), .int x1] (zPc (dC, dI) (x_ty cI cJ) (x_W ad cI cJ) sz σ)) (zQi (dC, dI) (x_ty cI cJ) (x_W ad cI cJ) (zAW x_n ad sz) Q) 0 0 (zAW x_n ad sz) := by
  refine Met.ofW (cc := cX11_lie) (maxL := 8) (ret := (some .int)) (by decide) rfl ?_
  intro p e s m args below meth c s₁ B hml hv
  obtain ⟨rfl, hsz, hP, hK, hD0⟩ := hv
  subst hsz
  have C0 : zCx p s m meth c _ RX11 cX11_lie 8 (some .int) vs_X11_lie := ⟨B.exec, B.bytes, hml, B.returns, findClass_of_methodNamed B.named, atoms_spec (ws := vs_X11_lie) B.pre, B.notSynchronized⟩
  have hD := x_D0 (n0 := s.heap.size) hD0
  have hl := lv_entry ([.ref (ad 0), .int x1]) (n := 8) (Nat.le_of_ble_eq_true rfl)
  rw [lg_entry_eq]
  generalize (lg_sl ([.ref (ad 0), .int x1]) ++ List.replicate (8 - (lg_sl ([.ref (ad 0), .int x1])).length) Slot.unset).toArray = ls at hl ⊢
  exact t_X11_lie_0 C0 hK N x1 σ _ _ ls h hP hD va_S.rf hl
theorem k_X11_lie (N : Nat) {R : Room} {H : Heap} {locs : List Loc} {cells slots : Nat} {Q2 : State → Prop} {cc : ByteArray} {nL pc index : Nat} {ls : Array Slot} {rest : List Value} {own : String} {c0 : Cond} {σ : zSt} {x1 : Int32} {Q : Int32 → zSt → Prop} (S0 : CallFix p m c cc nL s args (c0 :: zT) own) (hml : Cond.methodLink own index yX11_lie ∈ zT) (hR : rm_X11_lie.frames + 1 ≤ R.frames ∧ 8 + (8 + 11) + rm_X11_lie.locals ≤ R.locals) (h : w_X11_lie N x1 σ Q) (hK : va_K (dC, dI) vwCl (x_ty cI cJ) s) (hP : va_P (dC, dI) vwCl (x_W ad cI cJ σ) H) (hD : va_D (zAW x_n ad s.heap.size) (x_W ad cI cJ σ)) (hS : va_S (zAW x_n ad s.heap.size) s.heap H locs) (hsz : ls.size = nL) (hW : (rest.map fun v => v.category).sum ≤ 8) (hcs : cells ≤ R.cells ∧ slots ≤ R.slots) (hdg : decode cc pc = .ok (.invokevirtual index, 3)) (kk : ∀ (r : Int32) (τ : zSt) (H1 : Heap) (locs1 : List Loc), Q r τ → va_P (dC, dI) vwCl (x_W ad cI cJ τ) H1 → va_D (zAW x_n ad s.heap.size) (x_W ad cI cJ τ) → va_S (zAW x_n ad s.heap.size) s.heap H1 locs1 → W p l e R s m args below meth c H1 locs1 cells slots Q2 (F0 m (pc + 3) ls (.int r :: rest))) : W p l e R s m args below meth c H locs cells slots Q2 (F0 m pc ls (.int x1 :: .ref (ad 0) :: rest)) :=
  zcv_i (T := TX11) (N' := 17) (k := 0) (ci := 11) (fs := x_f0 ad σ) [.int x1] S0 (c_X11_lie N l dC dI ad cI cJ H.size σ x1 Q h) (cw_X11_lie S0.2.2.2.2 hml rfl rfl hR) rfl rfl hK hP hD hS rfl hsz hW rfl hcs hdg kk
end q12
section q12
def w_X11_lied (N : Nat)  (σ : zSt) (Q : Int64 → zSt → Prop) : Prop :=
  Q (σ.2.1 1) σ
variable {p : Program} {l : Launch} {e : Env} {s : State} {m : MethodId} {args : Array Value} {below : List Frame} {meth : Method} {c : Code} {dC : Nat → ClassId} {dI : Nat → Nat → Nat} {ad : Nat → Nat} {cI cJ : ClassId}
set_option maxHeartbeats 4000000 in
set_option maxRecDepth 100000 in
theorem t_X11_lied_0 (C0 : zCx p s m meth c args RX11 cX11_lied 1 (some .long) vs_X11_lied) (hK : va_K (dC, dI) vwCl (x_ty cI cJ) s) (N : Nat) {Q : Int64 → zSt → Prop} : ∀  (σ : zSt) (H : Heap) (locs : List Loc) (ls : Array Slot), w_X11_lied N  σ Q → va_P (dC, dI) vwCl (x_W ad cI cJ σ) H → va_D (zAW x_n ad s.heap.size) (x_W ad cI cJ σ) → va_S (zAW x_n ad s.heap.size) s.heap H locs → lv_has ls 1 [(0, .ref (ad 0))] → W p l e rm_X11_lied s m args below meth c H locs 0 0 (MQ below (zQl (dC, dI) (x_ty cI cJ) (x_W ad cI cJ) (zAW x_n ad s.heap.size) Q) args s 0 0 (zAW x_n ad s.heap.size)) (F0 m 0 ls []) := by
  obtain ⟨hx, hb, hml, hr, hown, hts, hlocks⟩ := id C0
  intro  σ H locs ls h hP hD hS hl
  unfold w_X11_lied at h
  refine lv_aload_n hx hb dX11_lied_0 rfl (lv_at hl 0 rfl) ?_
  refine xg_0_16 hx hb hts hown hK hP mw_305 dX11_lied_1 ?_
  exact zret_l hx hb hr hlocks hK hP hD hS h dX11_lied_4
set_option maxHeartbeats 4000000 in
set_option maxRecDepth 100000 in
theorem c_X11_lied (N : Nat) (l : Launch) (dC : Nat → ClassId) (dI : Nat → Nat → Nat) (ad : Nat → Nat) (cI cJ : ClassId) (sz : Nat) (σ : zSt)  (Q : Int64 → zSt → Prop) (h : w_X11_lied N  σ Q) : Met l yX11_lied vs_X11_lied rm_X11_lied (va_Pc [.ref (ad 0)] (zPc (dC, dI) (x_ty cI cJ) (x_W ad cI cJ) sz σ)) (zQl (dC, dI) (x_ty cI cJ) (x_W ad cI cJ) (zAW x_n ad sz) Q) 0 0 (zAW x_n ad sz) := by
  refine Met.ofW (cc := cX11_lied) (maxL := 1) (ret := (some .long)) (by decide) rfl ?_
  intro p e s m args below meth c s₁ B hml hv
  obtain ⟨rfl, hsz, hP, hK, hD0⟩ := hv
  subst hsz
  have C0 : zCx p s m meth c _ RX11 cX11_lied 1 (some .long) vs_X11_lied := ⟨B.exec, B.bytes, hml, B.returns, findClass_of_methodNamed B.named, atoms_spec (ws := vs_X11_lied) B.pre, B.notSynchronized⟩
  have hD := x_D0 (n0 := s.heap.size) hD0
  have hl := lv_entry ([.ref (ad 0)]) (n := 1) (Nat.le_of_ble_eq_true rfl)
  rw [lg_entry_eq]
  generalize (lg_sl ([.ref (ad 0)]) ++ List.replicate (1 - (lg_sl ([.ref (ad 0)])).length) Slot.unset).toArray = ls at hl ⊢
  exact t_X11_lied_0 C0 hK N  σ _ _ ls h hP hD va_S.rf hl
theorem k_X11_lied (N : Nat) {R : Room} {H : Heap} {locs : List Loc} {cells slots : Nat} {Q2 : State → Prop} {cc : ByteArray} {nL pc index : Nat} {ls : Array Slot} {rest : List Value} {own : String} {c0 : Cond} {σ : zSt}  {Q : Int64 → zSt → Prop} (S0 : CallFix p m c cc nL s args (c0 :: zT) own) (hml : Cond.methodLink own index yX11_lied ∈ zT) (hR : rm_X11_lied.frames + 1 ≤ R.frames ∧ 8 + (1 + 11) + rm_X11_lied.locals ≤ R.locals) (h : w_X11_lied N  σ Q) (hK : va_K (dC, dI) vwCl (x_ty cI cJ) s) (hP : va_P (dC, dI) vwCl (x_W ad cI cJ σ) H) (hD : va_D (zAW x_n ad s.heap.size) (x_W ad cI cJ σ)) (hS : va_S (zAW x_n ad s.heap.size) s.heap H locs) (hsz : ls.size = nL) (hW : (rest.map fun v => v.category).sum ≤ 8) (hcs : cells ≤ R.cells ∧ slots ≤ R.slots) (hdg : decode cc pc = .ok (.invokevirtual index, 3)) (kk : ∀ (r : Int64) (τ : zSt) (H1 : Heap) (locs1 : List Loc), Q r τ → va_P (dC, dI) vwCl (x_W ad cI cJ τ) H1 → va_D (zAW x_n ad s.heap.size) (x_W ad cI cJ τ) → va_S (zAW x_n ad s.heap.size) s.heap H1 locs1 → W p l e R s m args below meth c H1 locs1 cells slots Q2 (F0 m (pc + 3) ls (.long r :: rest))) : W p l e R s m args below meth c H locs cells slots Q2 (F0 m pc ls (.ref (ad 0) :: rest)) :=
  zcv_l (T := TX11) (N' := 17) (k := 0) (ci := 11) (fs := x_f0 ad σ) [] S0 (c_X11_lied N l dC dI ad cI cJ H.size σ  Q h) (cw_X11_lied S0.2.2.2.2 hml rfl rfl hR) rfl rfl hK hP hD hS rfl hsz hW rfl hcs hdg kk
end q12
section q12
def b_X11_image_89 (N : Nat) (k_89 : Int32 → Int32 → zSt → Prop) (Q : Int32 → zSt → Prop) (x2 : Int32) (x3 : Int32) (σ : zSt) : Prop :=
  ((9 : Int32) ≤ x3 → ∀ τ1 : zSt, τ1 = zA σ 1 (upd (σ.2.2.1 1) 9 x2) → Q (10 : Int32) τ1) ∧ (¬ (9 : Int32) ≤ x3 → (vp_in x3 10) ∧ (∀ v2 : Int32, v2 = x2 ^^^ (σ.2.2.1 1 x3.toNatClampNeg) → ∀ v3 : Int32, v3 = x3 + (1 : Int32) → k_89 v2 v3 σ))
def w_X11_image_89 (N : Nat) (Q : Int32 → zSt → Prop) : Nat → Int32 → Int32 → zSt → Prop
  | 0 => fun _ _ _ => False
  | f + 1 => b_X11_image_89 N (w_X11_image_89 N  Q f) Q
def b_X11_image_15 (N : Nat) (k_15 : Int32 → zSt → Prop) (Q : Int32 → zSt → Prop) (x1 : Int32) (σ : zSt) : Prop :=
  ((6 : Int32) < x1 → ∀ v1 : Int32, v1 = (σ.1 25) + (1000 : Int32) → ∀ τ2 : zSt, τ2 = zA σ 1 (upd (σ.2.2.1 1) 7 (v1 >>> ((8 : Int32) &&& 31))) → ∀ τ3 : zSt, τ3 = zA τ2 1 (upd (τ2.2.2.1 1) 8 (v1 &&& (255 : Int32))) → w_X11_image_89 N Q N (0 : Int32) (0 : Int32) τ3) ∧ (¬ (6 : Int32) < x1 → (vp_in x1 10) ∧ (∀ τ4 : zSt, τ4 = zA σ 1 (upd (σ.2.2.1 1) (x1.toNatClampNeg) (((σ.2.1 0) >>> (((8 : Int32) * ((6 : Int32) - x1)).toInt64 &&& 63)).toInt32 &&& (255 : Int32))) → ∀ v5 : Int32, v5 = x1 + (1 : Int32) → k_15 v5 τ4))
def w_X11_image_15 (N : Nat) (Q : Int32 → zSt → Prop) : Nat → Int32 → zSt → Prop
  | 0 => fun _ _ => False
  | f + 1 => b_X11_image_15 N (w_X11_image_15 N  Q f) Q
def w_X11_image (N : Nat)  (σ : zSt) (Q : Int32 → zSt → Prop) : Prop :=
  ∀ τ1 : zSt, τ1 = zA σ 1 (upd (σ.2.2.1 1) 0 (σ.1 1)) → w_X11_image_15 N Q N (1 : Int32) τ1
variable {p : Program} {l : Launch} {e : Env} {s : State} {m : MethodId} {args : Array Value} {below : List Frame} {meth : Method} {c : Code} {dC : Nat → ClassId} {dI : Nat → Nat → Nat} {ad : Nat → Nat} {cI cJ : ClassId}
set_option maxHeartbeats 4000000 in
set_option maxRecDepth 100000 in
theorem tb_X11_image_89 (C0 : zCx p s m meth c args RX11 cX11_image 4 (some .int) vs_X11_image) (hK : va_K (dC, dI) vwCl (x_ty cI cJ) s) (N : Nat) {Q : Int32 → zSt → Prop} {k_89 : Int32 → Int32 → zSt → Prop} (hk_89 : ∀ (x2 : Int32) (x3 : Int32) (σ : zSt) (H : Heap) (locs : List Loc) (ls : Array Slot), k_89 x2 x3 σ → va_P (dC, dI) vwCl (x_W ad cI cJ σ) H → va_D (zAW x_n ad s.heap.size) (x_W ad cI cJ σ) → va_S (zAW x_n ad s.heap.size) s.heap H locs → lv_has ls 4 [(0, .ref (ad 0)), (2, .int x2), (3, .int x3)] → W p l e rm_X11_image s m args below meth c H locs 0 0 (MQ below (zQi (dC, dI) (x_ty cI cJ) (x_W ad cI cJ) (zAW x_n ad s.heap.size) Q) args s 0 0 (zAW x_n ad s.heap.size)) (F0 m 89 ls [])) : ∀ (x2 : Int32) (x3 : Int32) (σ : zSt) (H : Heap) (locs : List Loc) (ls : Array Slot), b_X11_image_89 N k_89 Q x2 x3 σ → va_P (dC, dI) vwCl (x_W ad cI cJ σ) H → va_D (zAW x_n ad s.heap.size) (x_W ad cI cJ σ) → va_S (zAW x_n ad s.heap.size) s.heap H locs → lv_has ls 4 [(0, .ref (ad 0)), (2, .int x2), (3, .int x3)] → W p l e rm_X11_image s m args below meth c H locs 0 0 (MQ below (zQi (dC, dI) (x_ty cI cJ) (x_W ad cI cJ) (zAW x_n ad s.heap.size) Q) args s 0 0 (zAW x_n ad s.heap.size)) (F0 m 89 ls []) := by
  obtain ⟨hx, hb, hml, hr, hown, hts, hlocks⟩ := id C0
  intro x2 x3 σ H locs ls h hP hD hS hl
  unfold b_X11_image_89 at h
  refine lv_iload_n hx hb dX11_image_89 rfl (lv_at hl 2 rfl) ?_
  refine lv_bipush (v := (9 : Int32)) hx hb dX11_image_90 (by decide) ?_
  refine lv_icmp_ge (tgt := 110) hx hb dX11_image_92 (by decide) (fun hc => ?_) (fun hc => ?_)
  · have h := h.1 hc
    refine lv_aload_n hx hb dX11_image_110 rfl (lv_at hl 0 rfl) ?_
    refine xg_0_12 hx hb hts hown hK hP mw_301 dX11_image_111 ?_
    refine lv_bipush (v := (9 : Int32)) hx hb dX11_image_114 (by decide) ?_
    refine lv_iload_n hx hb dX11_image_116 rfl (lv_at hl 1 rfl) ?_
    refine xs_16 (j := 9) hx hb hK hP hD hS (zin (by decide)) (by decide) dX11_image_117 (fun τ1 H locs eτ1 hP hD hS => ?_)
    have h := h τ1 eτ1
    refine lv_bipush (v := (10 : Int32)) hx hb dX11_image_118 (by decide) ?_
    exact zret_i hx hb hr hlocks hK hP hD hS h dX11_image_120
  · have h := h.2 hc
    refine lv_iload_n hx hb dX11_image_95 rfl (lv_at hl 1 rfl) ?_
    refine lv_aload_n hx hb dX11_image_96 rfl (lv_at hl 0 rfl) ?_
    refine xg_0_12 hx hb hts hown hK hP mw_301 dX11_image_97 ?_
    refine lv_iload_n hx hb dX11_image_100 rfl (lv_at hl 2 rfl) ?_
    refine xa_16 hx hb hK hP h.1 rfl dX11_image_101 ?_
    have h := h.2
    refine lv_ixor hx hb dX11_image_102 ?_
    refine lv_topi (fun v2 ev2 => ?_)
    have h := h v2 ev2
    refine lv_istore_n (lv' := [(2, .int v2), (0, .ref (ad 0)), (3, .int x3)]) hx hb dX11_image_103 rfl hl (by decide) rfl (fun ls hl => ?_)
    obtain ⟨v3, ev3⟩ : ∃ z : Int32, z = x3 + (1 : Int32) := ⟨_, rfl⟩
    have h := h v3 ev3
    refine lv_iinc (v := v3) (lv' := [(3, .int v3), (2, .int v2), (0, .ref (ad 0))]) hx hb dX11_image_104 hl (k := 2) rfl (by rw [ev3]; rfl) (by decide) rfl (fun ls hl => ?_)
    refine lv_goto (tgt := 89) hx hb dX11_image_107 (by decide) ?_
    exact hk_89 v2 v3 σ _ _ _ h hP hD hS (lv_sub hl [2, 1, 0] rfl)
set_option maxHeartbeats 4000000 in
set_option maxRecDepth 100000 in
theorem t_X11_image_89 (C0 : zCx p s m meth c args RX11 cX11_image 4 (some .int) vs_X11_image) (hK : va_K (dC, dI) vwCl (x_ty cI cJ) s) (N : Nat) {Q : Int32 → zSt → Prop} : ∀ (f : Nat) (x2 : Int32) (x3 : Int32) (σ : zSt) (H : Heap) (locs : List Loc) (ls : Array Slot), w_X11_image_89 N  Q f x2 x3 σ → va_P (dC, dI) vwCl (x_W ad cI cJ σ) H → va_D (zAW x_n ad s.heap.size) (x_W ad cI cJ σ) → va_S (zAW x_n ad s.heap.size) s.heap H locs → lv_has ls 4 [(0, .ref (ad 0)), (2, .int x2), (3, .int x3)] → W p l e rm_X11_image s m args below meth c H locs 0 0 (MQ below (zQi (dC, dI) (x_ty cI cJ) (x_W ad cI cJ) (zAW x_n ad s.heap.size) Q) args s 0 0 (zAW x_n ad s.heap.size)) (F0 m 89 ls []) := by
  intro f
  induction f with
  | zero => intro x2 x3 σ H locs ls h; exact h.elim
  | succ f ih =>
    intro x2 x3 σ H locs ls h hP hD hS hl
    exact tb_X11_image_89 C0 hK N  (k_89 := w_X11_image_89 N  Q f) ih x2 x3 σ H locs ls h hP hD hS hl
set_option maxHeartbeats 4000000 in
set_option maxRecDepth 100000 in
theorem tb_X11_image_15 (C0 : zCx p s m meth c args RX11 cX11_image 4 (some .int) vs_X11_image) (hK : va_K (dC, dI) vwCl (x_ty cI cJ) s) (N : Nat) {Q : Int32 → zSt → Prop} {k_15 : Int32 → zSt → Prop} (hk_15 : ∀ (x1 : Int32) (σ : zSt) (H : Heap) (locs : List Loc) (ls : Array Slot), k_15 x1 σ → va_P (dC, dI) vwCl (x_W ad cI cJ σ) H → va_D (zAW x_n ad s.heap.size) (x_W ad cI cJ σ) → va_S (zAW x_n ad s.heap.size) s.heap H locs → lv_has ls 4 [(0, .ref (ad 0)), (1, .int x1)] → W p l e rm_X11_image s m args below meth c H locs 0 0 (MQ below (zQi (dC, dI) (x_ty cI cJ) (x_W ad cI cJ) (zAW x_n ad s.heap.size) Q) args s 0 0 (zAW x_n ad s.heap.size)) (F0 m 15 ls [])) : ∀ (x1 : Int32) (σ : zSt) (H : Heap) (locs : List Loc) (ls : Array Slot), b_X11_image_15 N k_15 Q x1 σ → va_P (dC, dI) vwCl (x_W ad cI cJ σ) H → va_D (zAW x_n ad s.heap.size) (x_W ad cI cJ σ) → va_S (zAW x_n ad s.heap.size) s.heap H locs → lv_has ls 4 [(0, .ref (ad 0)), (1, .int x1)] → W p l e rm_X11_image s m args below meth c H locs 0 0 (MQ below (zQi (dC, dI) (x_ty cI cJ) (x_W ad cI cJ) (zAW x_n ad s.heap.size) Q) args s 0 0 (zAW x_n ad s.heap.size)) (F0 m 15 ls []) := by
  obtain ⟨hx, hb, hml, hr, hown, hts, hlocks⟩ := id C0
  intro x1 σ H locs ls h hP hD hS hl
  unfold b_X11_image_15 at h
  refine lv_iload_n hx hb dX11_image_15 rfl (lv_at hl 1 rfl) ?_
  refine lv_bipush (v := (6 : Int32)) hx hb dX11_image_16 (by decide) ?_
  refine lv_icmp_gt (tgt := 50) hx hb dX11_image_18 (by decide) (fun hc => ?_) (fun hc => ?_)
  · have h := h.1 hc
    refine lv_aload_n hx hb dX11_image_50 rfl (lv_at hl 0 rfl) ?_
    refine xg_0_5 hx hb hts hown hK hP mw_294 dX11_image_51 ?_
    refine xg_9_6 hx hb hts hown hK hP mw_207 dX11_image_54 ?_
    refine lv_sipush (v := (1000 : Int32)) hx hb dX11_image_57 (by decide) ?_
    refine lv_iadd hx hb dX11_image_60 ?_
    refine lv_topi (fun v1 ev1 => ?_)
    have h := h v1 ev1
    refine lv_istore_n (lv' := [(1, .int v1), (0, .ref (ad 0))]) hx hb dX11_image_61 rfl hl (by decide) rfl (fun ls hl => ?_)
    refine lv_aload_n hx hb dX11_image_62 rfl (lv_at hl 1 rfl) ?_
    refine xg_0_12 hx hb hts hown hK hP mw_301 dX11_image_63 ?_
    refine lv_bipush (v := (7 : Int32)) hx hb dX11_image_66 (by decide) ?_
    refine lv_iload_n hx hb dX11_image_68 rfl (lv_at hl 0 rfl) ?_
    refine lv_bipush (v := (8 : Int32)) hx hb dX11_image_69 (by decide) ?_
    refine lv_ishr hx hb dX11_image_71 ?_
    refine xs_16 (j := 7) hx hb hK hP hD hS (zin (by decide)) (by decide) dX11_image_72 (fun τ2 H locs eτ2 hP hD hS => ?_)
    have h := h τ2 eτ2
    refine lv_aload_n hx hb dX11_image_73 rfl (lv_at hl 1 rfl) ?_
    refine xg_0_12 hx hb hts hown hK hP mw_301 dX11_image_74 ?_
    refine lv_bipush (v := (8 : Int32)) hx hb dX11_image_77 (by decide) ?_
    refine lv_iload_n hx hb dX11_image_79 rfl (lv_at hl 0 rfl) ?_
    refine lv_sipush (v := (255 : Int32)) hx hb dX11_image_80 (by decide) ?_
    refine lv_iand hx hb dX11_image_83 ?_
    refine xs_16 (j := 8) hx hb hK hP hD hS (zin (by decide)) (by decide) dX11_image_84 (fun τ3 H locs eτ3 hP hD hS => ?_)
    have h := h τ3 eτ3
    refine lv_iconst (v := (0 : Int32)) hx hb dX11_image_85 (by decide) ?_
    refine lv_istore_n (lv' := [(2, .int (0 : Int32)), (1, .int v1), (0, .ref (ad 0))]) hx hb dX11_image_86 rfl hl (by decide) rfl (fun ls hl => ?_)
    refine lv_iconst (v := (0 : Int32)) hx hb dX11_image_87 (by decide) ?_
    refine lv_istore_n (lv' := [(3, .int (0 : Int32)), (2, .int (0 : Int32)), (1, .int v1), (0, .ref (ad 0))]) hx hb dX11_image_88 rfl hl (by decide) rfl (fun ls hl => ?_)
    exact t_X11_image_89 C0 hK N  N (0 : Int32) (0 : Int32) τ3 _ _ _ h hP hD hS (lv_sub hl [3, 1, 0] rfl)
  · have h := h.2 hc
    refine lv_aload_n hx hb dX11_image_21 rfl (lv_at hl 0 rfl) ?_
    refine xg_0_12 hx hb hts hown hK hP mw_301 dX11_image_22 ?_
    refine lv_iload_n hx hb dX11_image_25 rfl (lv_at hl 1 rfl) ?_
    refine lv_aload_n hx hb dX11_image_26 rfl (lv_at hl 0 rfl) ?_
    refine xg_0_15 hx hb hts hown hK hP mw_304 dX11_image_27 ?_
    refine lv_bipush (v := (8 : Int32)) hx hb dX11_image_30 (by decide) ?_
    refine lv_bipush (v := (6 : Int32)) hx hb dX11_image_32 (by decide) ?_
    refine lv_iload_n hx hb dX11_image_34 rfl (lv_at hl 1 rfl) ?_
    refine lv_isub hx hb dX11_image_35 ?_
    refine lv_imul hx hb dX11_image_36 ?_
    refine lv_lshr hx hb dX11_image_37 rfl ?_
    refine lv_l2i hx hb dX11_image_38 rfl ?_
    refine lv_sipush (v := (255 : Int32)) hx hb dX11_image_39 (by decide) ?_
    refine lv_iand hx hb dX11_image_42 ?_
    refine xs_16 hx hb hK hP hD hS h.1 rfl dX11_image_43 (fun τ4 H locs eτ4 hP hD hS => ?_)
    have h := h.2
    have h := h τ4 eτ4
    obtain ⟨v5, ev5⟩ : ∃ z : Int32, z = x1 + (1 : Int32) := ⟨_, rfl⟩
    have h := h v5 ev5
    refine lv_iinc (v := v5) (lv' := [(1, .int v5), (0, .ref (ad 0))]) hx hb dX11_image_44 hl (k := 1) rfl (by rw [ev5]; rfl) (by decide) rfl (fun ls hl => ?_)
    refine lv_goto (tgt := 15) hx hb dX11_image_47 (by decide) ?_
    exact hk_15 v5 τ4 _ _ _ h hP hD hS (lv_sub hl [1, 0] rfl)
set_option maxHeartbeats 4000000 in
set_option maxRecDepth 100000 in
theorem t_X11_image_15 (C0 : zCx p s m meth c args RX11 cX11_image 4 (some .int) vs_X11_image) (hK : va_K (dC, dI) vwCl (x_ty cI cJ) s) (N : Nat) {Q : Int32 → zSt → Prop} : ∀ (f : Nat) (x1 : Int32) (σ : zSt) (H : Heap) (locs : List Loc) (ls : Array Slot), w_X11_image_15 N  Q f x1 σ → va_P (dC, dI) vwCl (x_W ad cI cJ σ) H → va_D (zAW x_n ad s.heap.size) (x_W ad cI cJ σ) → va_S (zAW x_n ad s.heap.size) s.heap H locs → lv_has ls 4 [(0, .ref (ad 0)), (1, .int x1)] → W p l e rm_X11_image s m args below meth c H locs 0 0 (MQ below (zQi (dC, dI) (x_ty cI cJ) (x_W ad cI cJ) (zAW x_n ad s.heap.size) Q) args s 0 0 (zAW x_n ad s.heap.size)) (F0 m 15 ls []) := by
  intro f
  induction f with
  | zero => intro x1 σ H locs ls h; exact h.elim
  | succ f ih =>
    intro x1 σ H locs ls h hP hD hS hl
    exact tb_X11_image_15 C0 hK N  (k_15 := w_X11_image_15 N  Q f) ih x1 σ H locs ls h hP hD hS hl
set_option maxHeartbeats 4000000 in
set_option maxRecDepth 100000 in
theorem t_X11_image_0 (C0 : zCx p s m meth c args RX11 cX11_image 4 (some .int) vs_X11_image) (hK : va_K (dC, dI) vwCl (x_ty cI cJ) s) (N : Nat) {Q : Int32 → zSt → Prop} : ∀  (σ : zSt) (H : Heap) (locs : List Loc) (ls : Array Slot), w_X11_image N  σ Q → va_P (dC, dI) vwCl (x_W ad cI cJ σ) H → va_D (zAW x_n ad s.heap.size) (x_W ad cI cJ σ) → va_S (zAW x_n ad s.heap.size) s.heap H locs → lv_has ls 4 [(0, .ref (ad 0))] → W p l e rm_X11_image s m args below meth c H locs 0 0 (MQ below (zQi (dC, dI) (x_ty cI cJ) (x_W ad cI cJ) (zAW x_n ad s.heap.size) Q) args s 0 0 (zAW x_n ad s.heap.size)) (F0 m 0 ls []) := by
  obtain ⟨hx, hb, hml, hr, hown, hts, hlocks⟩ := id C0
  intro  σ H locs ls h hP hD hS hl
  unfold w_X11_image at h
  refine lv_aload_n hx hb dX11_image_0 rfl (lv_at hl 0 rfl) ?_
  refine xg_0_12 hx hb hts hown hK hP mw_301 dX11_image_1 ?_
  refine lv_iconst (v := (0 : Int32)) hx hb dX11_image_4 (by decide) ?_
  refine lv_aload_n hx hb dX11_image_5 rfl (lv_at hl 0 rfl) ?_
  refine xg_0_2 hx hb hts hown hK hP mw_291 dX11_image_6 ?_
  refine xg_3_4 hx hb hts hown hK hP mw_75 dX11_image_9 ?_
  refine xs_16 (j := 0) hx hb hK hP hD hS (zin (by decide)) (by decide) dX11_image_12 (fun τ1 H locs eτ1 hP hD hS => ?_)
  have h := h τ1 eτ1
  refine lv_iconst (v := (1 : Int32)) hx hb dX11_image_13 (by decide) ?_
  refine lv_istore_n (lv' := [(1, .int (1 : Int32)), (0, .ref (ad 0))]) hx hb dX11_image_14 rfl hl (by decide) rfl (fun ls hl => ?_)
  exact t_X11_image_15 C0 hK N  N (1 : Int32) τ1 _ _ _ h hP hD hS (lv_sub hl [1, 0] rfl)
set_option maxHeartbeats 4000000 in
set_option maxRecDepth 100000 in
theorem c_X11_image (N : Nat) (l : Launch) (dC : Nat → ClassId) (dI : Nat → Nat → Nat) (ad : Nat → Nat) (cI cJ : ClassId) (sz : Nat) (σ : zSt)  (Q : Int32 → zSt → Prop) (h : w_X11_image N  σ Q) : Met l yX11_image vs_X11_image rm_X11_image (va_Pc [.ref (ad 0)] (zPc (dC, dI) (x_ty cI cJ) (x_W ad cI cJ) sz σ)) (zQi (dC, dI) (x_ty cI cJ) (x_W ad cI cJ) (zAW x_n ad sz) Q) 0 0 (zAW x_n ad sz) := by
  refine Met.ofW (cc := cX11_image) (maxL := 4) (ret := (some .int)) (by decide) rfl ?_
  intro p e s m args below meth c s₁ B hml hv
  obtain ⟨rfl, hsz, hP, hK, hD0⟩ := hv
  subst hsz
  have C0 : zCx p s m meth c _ RX11 cX11_image 4 (some .int) vs_X11_image := ⟨B.exec, B.bytes, hml, B.returns, findClass_of_methodNamed B.named, atoms_spec (ws := vs_X11_image) B.pre, B.notSynchronized⟩
  have hD := x_D0 (n0 := s.heap.size) hD0
  have hl := lv_entry ([.ref (ad 0)]) (n := 4) (Nat.le_of_ble_eq_true rfl)
  rw [lg_entry_eq]
  generalize (lg_sl ([.ref (ad 0)]) ++ List.replicate (4 - (lg_sl ([.ref (ad 0)])).length) Slot.unset).toArray = ls at hl ⊢
  exact t_X11_image_0 C0 hK N  σ _ _ ls h hP hD va_S.rf hl
theorem k_X11_image (N : Nat) {R : Room} {H : Heap} {locs : List Loc} {cells slots : Nat} {Q2 : State → Prop} {cc : ByteArray} {nL pc index : Nat} {ls : Array Slot} {rest : List Value} {own : String} {c0 : Cond} {σ : zSt}  {Q : Int32 → zSt → Prop} (S0 : CallFix p m c cc nL s args (c0 :: zT) own) (hml : Cond.methodLink own index yX11_image ∈ zT) (hR : rm_X11_image.frames + 1 ≤ R.frames ∧ 8 + (4 + 11) + rm_X11_image.locals ≤ R.locals) (h : w_X11_image N  σ Q) (hK : va_K (dC, dI) vwCl (x_ty cI cJ) s) (hP : va_P (dC, dI) vwCl (x_W ad cI cJ σ) H) (hD : va_D (zAW x_n ad s.heap.size) (x_W ad cI cJ σ)) (hS : va_S (zAW x_n ad s.heap.size) s.heap H locs) (hsz : ls.size = nL) (hW : (rest.map fun v => v.category).sum ≤ 8) (hcs : cells ≤ R.cells ∧ slots ≤ R.slots) (hdg : decode cc pc = .ok (.invokevirtual index, 3)) (kk : ∀ (r : Int32) (τ : zSt) (H1 : Heap) (locs1 : List Loc), Q r τ → va_P (dC, dI) vwCl (x_W ad cI cJ τ) H1 → va_D (zAW x_n ad s.heap.size) (x_W ad cI cJ τ) → va_S (zAW x_n ad s.heap.size) s.heap H1 locs1 → W p l e R s m args below meth c H1 locs1 cells slots Q2 (F0 m (pc + 3) ls (.int r :: rest))) : W p l e R s m args below meth c H locs cells slots Q2 (F0 m pc ls (.ref (ad 0) :: rest)) :=
  zcv_i (T := TX11) (N' := 17) (k := 0) (ci := 11) (fs := x_f0 ad σ) [] S0 (c_X11_image N l dC dI ad cI cJ H.size σ  Q h) (cw_X11_image S0.2.2.2.2 hml rfl rfl hR) rfl rfl hK hP hD hS rfl hsz hW rfl hcs hdg kk
end q12
section q12
def w_X11_octet (N : Nat) (x1 : Int32) (σ : zSt) (Q : Int32 → zSt → Prop) : Prop :=
  (x1 < 0 → Q (-1 : Int32) σ) ∧ (¬ x1 < 0 → ((10 : Int32) ≤ x1 → Q (-1 : Int32) σ) ∧ (¬ (10 : Int32) ≤ x1 → (vp_in x1 10) ∧ (Q (σ.2.2.1 1 x1.toNatClampNeg) σ)))
variable {p : Program} {l : Launch} {e : Env} {s : State} {m : MethodId} {args : Array Value} {below : List Frame} {meth : Method} {c : Code} {dC : Nat → ClassId} {dI : Nat → Nat → Nat} {ad : Nat → Nat} {cI cJ : ClassId}
set_option maxHeartbeats 4000000 in
set_option maxRecDepth 100000 in
theorem t_X11_octet_0 (C0 : zCx p s m meth c args RX11 cX11_octet 2 (some .int) vs_X11_octet) (hK : va_K (dC, dI) vwCl (x_ty cI cJ) s) (N : Nat) {Q : Int32 → zSt → Prop} : ∀ (x1 : Int32) (σ : zSt) (H : Heap) (locs : List Loc) (ls : Array Slot), w_X11_octet N x1 σ Q → va_P (dC, dI) vwCl (x_W ad cI cJ σ) H → va_D (zAW x_n ad s.heap.size) (x_W ad cI cJ σ) → va_S (zAW x_n ad s.heap.size) s.heap H locs → lv_has ls 2 [(0, .ref (ad 0)), (1, .int x1)] → W p l e rm_X11_octet s m args below meth c H locs 0 0 (MQ below (zQi (dC, dI) (x_ty cI cJ) (x_W ad cI cJ) (zAW x_n ad s.heap.size) Q) args s 0 0 (zAW x_n ad s.heap.size)) (F0 m 0 ls []) := by
  obtain ⟨hx, hb, hml, hr, hown, hts, hlocks⟩ := id C0
  intro x1 σ H locs ls h hP hD hS hl
  unfold w_X11_octet at h
  refine lv_iload_n hx hb dX11_octet_0 rfl (lv_at hl 1 rfl) ?_
  refine lv_if_lt (tgt := 22) hx hb dX11_octet_1 (by decide) (fun hc => ?_) (fun hc => ?_)
  · have h := h.1 hc
    refine lv_iconst (v := (-1 : Int32)) hx hb dX11_octet_22 (by decide) ?_
    exact zret_i hx hb hr hlocks hK hP hD hS h dX11_octet_23
  · have h := h.2 hc
    refine lv_iload_n hx hb dX11_octet_4 rfl (lv_at hl 1 rfl) ?_
    refine lv_aload_n hx hb dX11_octet_5 rfl (lv_at hl 0 rfl) ?_
    refine xg_0_12 hx hb hts hown hK hP mw_301 dX11_octet_6 ?_
    refine xl_16 hx hb hK hP dX11_octet_9 ?_
    refine lv_icmp_ge (tgt := 22) hx hb dX11_octet_10 (by decide) (fun hc => ?_) (fun hc => ?_)
    · have h := h.1 hc
      refine lv_iconst (v := (-1 : Int32)) hx hb dX11_octet_22 (by decide) ?_
      exact zret_i hx hb hr hlocks hK hP hD hS h dX11_octet_23
    · have h := h.2 hc
      refine lv_aload_n hx hb dX11_octet_13 rfl (lv_at hl 0 rfl) ?_
      refine xg_0_12 hx hb hts hown hK hP mw_301 dX11_octet_14 ?_
      refine lv_iload_n hx hb dX11_octet_17 rfl (lv_at hl 1 rfl) ?_
      refine xa_16 hx hb hK hP h.1 rfl dX11_octet_18 ?_
      have h := h.2
      refine lv_goto (tgt := 23) hx hb dX11_octet_19 (by decide) ?_
      exact zret_i hx hb hr hlocks hK hP hD hS h dX11_octet_23
set_option maxHeartbeats 4000000 in
set_option maxRecDepth 100000 in
theorem c_X11_octet (N : Nat) (l : Launch) (dC : Nat → ClassId) (dI : Nat → Nat → Nat) (ad : Nat → Nat) (cI cJ : ClassId) (sz : Nat) (σ : zSt) (x1 : Int32) (Q : Int32 → zSt → Prop) (h : w_X11_octet N x1 σ Q) : Met l yX11_octet vs_X11_octet rm_X11_octet (va_Pc [.ref (ad 0), .int x1] (zPc (dC, dI) (x_ty cI cJ) (x_W ad cI cJ) sz σ)) (zQi (dC, dI) (x_ty cI cJ) (x_W ad cI cJ) (zAW x_n ad sz) Q) 0 0 (zAW x_n ad sz) := by
  refine Met.ofW (cc := cX11_octet) (maxL := 2) (ret := (some .int)) (by decide) rfl ?_
  intro p e s m args below meth c s₁ B hml hv
  obtain ⟨rfl, hsz, hP, hK, hD0⟩ := hv
  subst hsz
  have C0 : zCx p s m meth c _ RX11 cX11_octet 2 (some .int) vs_X11_octet := ⟨B.exec, B.bytes, hml, B.returns, findClass_of_methodNamed B.named, atoms_spec (ws := vs_X11_octet) B.pre, B.notSynchronized⟩
  have hD := x_D0 (n0 := s.heap.size) hD0
  have hl := lv_entry ([.ref (ad 0), .int x1]) (n := 2) (Nat.le_of_ble_eq_true rfl)
  rw [lg_entry_eq]
  generalize (lg_sl ([.ref (ad 0), .int x1]) ++ List.replicate (2 - (lg_sl ([.ref (ad 0), .int x1])).length) Slot.unset).toArray = ls at hl ⊢
  exact t_X11_octet_0 C0 hK N x1 σ _ _ ls h hP hD va_S.rf hl
theorem k_X11_octet (N : Nat) {R : Room} {H : Heap} {locs : List Loc} {cells slots : Nat} {Q2 : State → Prop} {cc : ByteArray} {nL pc index : Nat} {ls : Array Slot} {rest : List Value} {own : String} {c0 : Cond} {σ : zSt} {x1 : Int32} {Q : Int32 → zSt → Prop} (S0 : CallFix p m c cc nL s args (c0 :: zT) own) (hml : Cond.methodLink own index yX11_octet ∈ zT) (hR : rm_X11_octet.frames + 1 ≤ R.frames ∧ 8 + (2 + 11) + rm_X11_octet.locals ≤ R.locals) (h : w_X11_octet N x1 σ Q) (hK : va_K (dC, dI) vwCl (x_ty cI cJ) s) (hP : va_P (dC, dI) vwCl (x_W ad cI cJ σ) H) (hD : va_D (zAW x_n ad s.heap.size) (x_W ad cI cJ σ)) (hS : va_S (zAW x_n ad s.heap.size) s.heap H locs) (hsz : ls.size = nL) (hW : (rest.map fun v => v.category).sum ≤ 8) (hcs : cells ≤ R.cells ∧ slots ≤ R.slots) (hdg : decode cc pc = .ok (.invokevirtual index, 3)) (kk : ∀ (r : Int32) (τ : zSt) (H1 : Heap) (locs1 : List Loc), Q r τ → va_P (dC, dI) vwCl (x_W ad cI cJ τ) H1 → va_D (zAW x_n ad s.heap.size) (x_W ad cI cJ τ) → va_S (zAW x_n ad s.heap.size) s.heap H1 locs1 → W p l e R s m args below meth c H1 locs1 cells slots Q2 (F0 m (pc + 3) ls (.int r :: rest))) : W p l e R s m args below meth c H locs cells slots Q2 (F0 m pc ls (.int x1 :: .ref (ad 0) :: rest)) :=
  zcv_i (T := TX11) (N' := 17) (k := 0) (ci := 11) (fs := x_f0 ad σ) [.int x1] S0 (c_X11_octet N l dC dI ad cI cJ H.size σ x1 Q h) (cw_X11_octet S0.2.2.2.2 hml rfl rfl hR) rfl rfl hK hP hD hS rfl hsz hW rfl hcs hdg kk
end q12
section q12
def b_X7_xorOfAll_4 (N : Nat) (k_4 : Int32 → Int32 → zSt → Prop) (Q : Int32 → zSt → Prop) (x1 : Int32) (x2 : Int32) (σ : zSt) : Prop :=
  ((σ.1 0) ≤ x2 → Q x1 σ) ∧ (¬ (σ.1 0) ≤ x2 → ((800 : Int32) ≤ x2 → Q x1 σ) ∧ (¬ (800 : Int32) ≤ x2 → (vp_in x2 800) ∧ (∀ v1 : Int32, v1 = x1 ^^^ (σ.2.2.1 2 x2.toNatClampNeg) → ∀ v2 : Int32, v2 = x2 + (1 : Int32) → k_4 v1 v2 σ)))
def w_X7_xorOfAll_4 (N : Nat) (Q : Int32 → zSt → Prop) : Nat → Int32 → Int32 → zSt → Prop
  | 0 => fun _ _ _ => False
  | f + 1 => b_X7_xorOfAll_4 N (w_X7_xorOfAll_4 N  Q f) Q
def w_X7_xorOfAll (N : Nat)  (σ : zSt) (Q : Int32 → zSt → Prop) : Prop :=
  w_X7_xorOfAll_4 N Q N (0 : Int32) (0 : Int32) σ
variable {p : Program} {l : Launch} {e : Env} {s : State} {m : MethodId} {args : Array Value} {below : List Frame} {meth : Method} {c : Code} {dC : Nat → ClassId} {dI : Nat → Nat → Nat} {ad : Nat → Nat} {cI cJ : ClassId}
set_option maxHeartbeats 4000000 in
set_option maxRecDepth 100000 in
theorem tb_X7_xorOfAll_4 (C0 : zCx p s m meth c args RX7 cX7_xorOfAll 3 (some .int) vs_X7_xorOfAll) (hK : va_K (dC, dI) vwCl (x_ty cI cJ) s) (N : Nat) {Q : Int32 → zSt → Prop} {k_4 : Int32 → Int32 → zSt → Prop} (hk_4 : ∀ (x1 : Int32) (x2 : Int32) (σ : zSt) (H : Heap) (locs : List Loc) (ls : Array Slot), k_4 x1 x2 σ → va_P (dC, dI) vwCl (x_W ad cI cJ σ) H → va_D (zAW x_n ad s.heap.size) (x_W ad cI cJ σ) → va_S (zAW x_n ad s.heap.size) s.heap H locs → lv_has ls 3 [(0, .ref (ad 1)), (1, .int x1), (2, .int x2)] → W p l e rm_X7_xorOfAll s m args below meth c H locs 0 0 (MQ below (zQi (dC, dI) (x_ty cI cJ) (x_W ad cI cJ) (zAW x_n ad s.heap.size) Q) args s 0 0 (zAW x_n ad s.heap.size)) (F0 m 4 ls [])) : ∀ (x1 : Int32) (x2 : Int32) (σ : zSt) (H : Heap) (locs : List Loc) (ls : Array Slot), b_X7_xorOfAll_4 N k_4 Q x1 x2 σ → va_P (dC, dI) vwCl (x_W ad cI cJ σ) H → va_D (zAW x_n ad s.heap.size) (x_W ad cI cJ σ) → va_S (zAW x_n ad s.heap.size) s.heap H locs → lv_has ls 3 [(0, .ref (ad 1)), (1, .int x1), (2, .int x2)] → W p l e rm_X7_xorOfAll s m args below meth c H locs 0 0 (MQ below (zQi (dC, dI) (x_ty cI cJ) (x_W ad cI cJ) (zAW x_n ad s.heap.size) Q) args s 0 0 (zAW x_n ad s.heap.size)) (F0 m 4 ls []) := by
  obtain ⟨hx, hb, hml, hr, hown, hts, hlocks⟩ := id C0
  intro x1 x2 σ H locs ls h hP hD hS hl
  unfold b_X7_xorOfAll_4 at h
  refine lv_iload_n hx hb dX7_xorOfAll_4 rfl (lv_at hl 2 rfl) ?_
  refine lv_aload_n hx hb dX7_xorOfAll_5 rfl (lv_at hl 0 rfl) ?_
  refine xg_1_1 hx hb hts hown hK hP mw_37 dX7_xorOfAll_6 ?_
  refine lv_icmp_ge (tgt := 36) hx hb dX7_xorOfAll_9 (by decide) (fun hc => ?_) (fun hc => ?_)
  · have h := h.1 hc
    refine lv_iload_n hx hb dX7_xorOfAll_36 rfl (lv_at hl 1 rfl) ?_
    exact zret_i hx hb hr hlocks hK hP hD hS h dX7_xorOfAll_37
  · have h := h.2 hc
    refine lv_iload_n hx hb dX7_xorOfAll_12 rfl (lv_at hl 2 rfl) ?_
    refine lv_aload_n hx hb dX7_xorOfAll_13 rfl (lv_at hl 0 rfl) ?_
    refine xg_1_0 hx hb hts hown hK hP mw_35 dX7_xorOfAll_14 ?_
    refine xl_19 hx hb hK hP dX7_xorOfAll_17 ?_
    refine lv_icmp_ge (tgt := 36) hx hb dX7_xorOfAll_18 (by decide) (fun hc => ?_) (fun hc => ?_)
    · have h := h.1 hc
      refine lv_iload_n hx hb dX7_xorOfAll_36 rfl (lv_at hl 1 rfl) ?_
      exact zret_i hx hb hr hlocks hK hP hD hS h dX7_xorOfAll_37
    · have h := h.2 hc
      refine lv_iload_n hx hb dX7_xorOfAll_21 rfl (lv_at hl 1 rfl) ?_
      refine lv_aload_n hx hb dX7_xorOfAll_22 rfl (lv_at hl 0 rfl) ?_
      refine xg_1_0 hx hb hts hown hK hP mw_35 dX7_xorOfAll_23 ?_
      refine lv_iload_n hx hb dX7_xorOfAll_26 rfl (lv_at hl 2 rfl) ?_
      refine xa_19 hx hb hK hP h.1 rfl dX7_xorOfAll_27 ?_
      have h := h.2
      refine lv_ixor hx hb dX7_xorOfAll_28 ?_
      refine lv_topi (fun v1 ev1 => ?_)
      have h := h v1 ev1
      refine lv_istore_n (lv' := [(1, .int v1), (0, .ref (ad 1)), (2, .int x2)]) hx hb dX7_xorOfAll_29 rfl hl (by decide) rfl (fun ls hl => ?_)
      obtain ⟨v2, ev2⟩ : ∃ z : Int32, z = x2 + (1 : Int32) := ⟨_, rfl⟩
      have h := h v2 ev2
      refine lv_iinc (v := v2) (lv' := [(2, .int v2), (1, .int v1), (0, .ref (ad 1))]) hx hb dX7_xorOfAll_30 hl (k := 2) rfl (by rw [ev2]; rfl) (by decide) rfl (fun ls hl => ?_)
      refine lv_goto (tgt := 4) hx hb dX7_xorOfAll_33 (by decide) ?_
      exact hk_4 v1 v2 σ _ _ _ h hP hD hS (lv_sub hl [2, 1, 0] rfl)
set_option maxHeartbeats 4000000 in
set_option maxRecDepth 100000 in
theorem t_X7_xorOfAll_4 (C0 : zCx p s m meth c args RX7 cX7_xorOfAll 3 (some .int) vs_X7_xorOfAll) (hK : va_K (dC, dI) vwCl (x_ty cI cJ) s) (N : Nat) {Q : Int32 → zSt → Prop} : ∀ (f : Nat) (x1 : Int32) (x2 : Int32) (σ : zSt) (H : Heap) (locs : List Loc) (ls : Array Slot), w_X7_xorOfAll_4 N  Q f x1 x2 σ → va_P (dC, dI) vwCl (x_W ad cI cJ σ) H → va_D (zAW x_n ad s.heap.size) (x_W ad cI cJ σ) → va_S (zAW x_n ad s.heap.size) s.heap H locs → lv_has ls 3 [(0, .ref (ad 1)), (1, .int x1), (2, .int x2)] → W p l e rm_X7_xorOfAll s m args below meth c H locs 0 0 (MQ below (zQi (dC, dI) (x_ty cI cJ) (x_W ad cI cJ) (zAW x_n ad s.heap.size) Q) args s 0 0 (zAW x_n ad s.heap.size)) (F0 m 4 ls []) := by
  intro f
  induction f with
  | zero => intro x1 x2 σ H locs ls h; exact h.elim
  | succ f ih =>
    intro x1 x2 σ H locs ls h hP hD hS hl
    exact tb_X7_xorOfAll_4 C0 hK N  (k_4 := w_X7_xorOfAll_4 N  Q f) ih x1 x2 σ H locs ls h hP hD hS hl
set_option maxHeartbeats 4000000 in
set_option maxRecDepth 100000 in
theorem t_X7_xorOfAll_0 (C0 : zCx p s m meth c args RX7 cX7_xorOfAll 3 (some .int) vs_X7_xorOfAll) (hK : va_K (dC, dI) vwCl (x_ty cI cJ) s) (N : Nat) {Q : Int32 → zSt → Prop} : ∀  (σ : zSt) (H : Heap) (locs : List Loc) (ls : Array Slot), w_X7_xorOfAll N  σ Q → va_P (dC, dI) vwCl (x_W ad cI cJ σ) H → va_D (zAW x_n ad s.heap.size) (x_W ad cI cJ σ) → va_S (zAW x_n ad s.heap.size) s.heap H locs → lv_has ls 3 [(0, .ref (ad 1))] → W p l e rm_X7_xorOfAll s m args below meth c H locs 0 0 (MQ below (zQi (dC, dI) (x_ty cI cJ) (x_W ad cI cJ) (zAW x_n ad s.heap.size) Q) args s 0 0 (zAW x_n ad s.heap.size)) (F0 m 0 ls []) := by
  obtain ⟨hx, hb, hml, hr, hown, hts, hlocks⟩ := id C0
  intro  σ H locs ls h hP hD hS hl
  unfold w_X7_xorOfAll at h
  refine lv_iconst (v := (0 : Int32)) hx hb dX7_xorOfAll_0 (by decide) ?_
  refine lv_istore_n (lv' := [(1, .int (0 : Int32)), (0, .ref (ad 1))]) hx hb dX7_xorOfAll_1 rfl hl (by decide) rfl (fun ls hl => ?_)
  refine lv_iconst (v := (0 : Int32)) hx hb dX7_xorOfAll_2 (by decide) ?_
  refine lv_istore_n (lv' := [(2, .int (0 : Int32)), (1, .int (0 : Int32)), (0, .ref (ad 1))]) hx hb dX7_xorOfAll_3 rfl hl (by decide) rfl (fun ls hl => ?_)
  exact t_X7_xorOfAll_4 C0 hK N  N (0 : Int32) (0 : Int32) σ _ _ _ h hP hD hS (lv_sub hl [2, 1, 0] rfl)
set_option maxHeartbeats 4000000 in
set_option maxRecDepth 100000 in
theorem c_X7_xorOfAll (N : Nat) (l : Launch) (dC : Nat → ClassId) (dI : Nat → Nat → Nat) (ad : Nat → Nat) (cI cJ : ClassId) (sz : Nat) (σ : zSt)  (Q : Int32 → zSt → Prop) (h : w_X7_xorOfAll N  σ Q) : Met l yX7_xorOfAll vs_X7_xorOfAll rm_X7_xorOfAll (va_Pc [.ref (ad 1)] (zPc (dC, dI) (x_ty cI cJ) (x_W ad cI cJ) sz σ)) (zQi (dC, dI) (x_ty cI cJ) (x_W ad cI cJ) (zAW x_n ad sz) Q) 0 0 (zAW x_n ad sz) := by
  refine Met.ofW (cc := cX7_xorOfAll) (maxL := 3) (ret := (some .int)) (by decide) rfl ?_
  intro p e s m args below meth c s₁ B hml hv
  obtain ⟨rfl, hsz, hP, hK, hD0⟩ := hv
  subst hsz
  have C0 : zCx p s m meth c _ RX7 cX7_xorOfAll 3 (some .int) vs_X7_xorOfAll := ⟨B.exec, B.bytes, hml, B.returns, findClass_of_methodNamed B.named, atoms_spec (ws := vs_X7_xorOfAll) B.pre, B.notSynchronized⟩
  have hD := x_D0 (n0 := s.heap.size) hD0
  have hl := lv_entry ([.ref (ad 1)]) (n := 3) (Nat.le_of_ble_eq_true rfl)
  rw [lg_entry_eq]
  generalize (lg_sl ([.ref (ad 1)]) ++ List.replicate (3 - (lg_sl ([.ref (ad 1)])).length) Slot.unset).toArray = ls at hl ⊢
  exact t_X7_xorOfAll_0 C0 hK N  σ _ _ ls h hP hD va_S.rf hl
theorem k_X7_xorOfAll (N : Nat) {R : Room} {H : Heap} {locs : List Loc} {cells slots : Nat} {Q2 : State → Prop} {cc : ByteArray} {nL pc index : Nat} {ls : Array Slot} {rest : List Value} {own : String} {c0 : Cond} {σ : zSt}  {Q : Int32 → zSt → Prop} (S0 : CallFix p m c cc nL s args (c0 :: zT) own) (hml : Cond.methodLink own index yX7_xorOfAll ∈ zT) (hR : rm_X7_xorOfAll.frames + 1 ≤ R.frames ∧ 8 + (3 + 11) + rm_X7_xorOfAll.locals ≤ R.locals) (h : w_X7_xorOfAll N  σ Q) (hK : va_K (dC, dI) vwCl (x_ty cI cJ) s) (hP : va_P (dC, dI) vwCl (x_W ad cI cJ σ) H) (hD : va_D (zAW x_n ad s.heap.size) (x_W ad cI cJ σ)) (hS : va_S (zAW x_n ad s.heap.size) s.heap H locs) (hsz : ls.size = nL) (hW : (rest.map fun v => v.category).sum ≤ 8) (hcs : cells ≤ R.cells ∧ slots ≤ R.slots) (hdg : decode cc pc = .ok (.invokevirtual index, 3)) (kk : ∀ (r : Int32) (τ : zSt) (H1 : Heap) (locs1 : List Loc), Q r τ → va_P (dC, dI) vwCl (x_W ad cI cJ τ) H1 → va_D (zAW x_n ad s.heap.size) (x_W ad cI cJ τ) → va_S (zAW x_n ad s.heap.size) s.heap H1 locs1 → W p l e R s m args below meth c H1 locs1 cells slots Q2 (F0 m (pc + 3) ls (.int r :: rest))) : W p l e R s m args below meth c H locs cells slots Q2 (F0 m pc ls (.ref (ad 1) :: rest)) :=
  zcv_i (T := TX7) (N' := 2) (k := 1) (ci := 7) (fs := x_f1 ad σ) [] S0 (c_X7_xorOfAll N l dC dI ad cI cJ H.size σ  Q h) (cw_X7_xorOfAll S0.2.2.2.2 hml rfl rfl hR) rfl rfl hK hP hD hS rfl hsz hW rfl hcs hdg kk
end q12
