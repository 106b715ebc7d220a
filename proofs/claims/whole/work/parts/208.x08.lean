section q08
end q08
section q08
def b_X0_firstSeveral_95 (N : Nat) (k_2 : Int64 → Int32 → zSt → Prop) (k_37 : Int64 → Int32 → Int64 → Int64 → Int32 → zSt → Prop) (Q : Int32 → zSt → Prop) (x1 : Int64) (x3 : Int32) (x4 : Int64) (x6 : Int64) (x8 : Int32) (σ : zSt) : Prop :=
  ∀ v1 : Int64, v1 = (x6 - x4) &&& x4 → ∀ v2 : Int32, v2 = x8 + (1 : Int32) → k_37 x1 x3 x4 v1 v2 σ
def b_X0_firstSeveral_37 (N : Nat) (k_2 : Int64 → Int32 → zSt → Prop) (k_37 : Int64 → Int32 → Int64 → Int64 → Int32 → zSt → Prop) (Q : Int32 → zSt → Prop) (x1 : Int64) (x3 : Int32) (x4 : Int64) (x6 : Int64) (x8 : Int32) (σ : zSt) : Prop :=
  ((512 : Int32) ≤ x8 → ∀ v1 : Int32, v1 = x3 + (1 : Int32) → k_2 x1 v1 σ) ∧ (¬ (512 : Int32) ≤ x8 → ((lg_cmp x6 (0 : Int64)) = 0 → ∀ v2 : Int32, v2 = x3 + (1 : Int32) → k_2 x1 v2 σ) ∧ (¬ (lg_cmp x6 (0 : Int64)) = 0 → w_J13_bitCount_95d88 N x6 σ (fun r3 τ4 => (r3 < (2 : Int32) → b_X0_firstSeveral_95 N k_2 k_37 Q x1 x3 x4 x6 x8 τ4) ∧ (¬ r3 < (2 : Int32) → w_X0_gains N x1 (x1 &&& (x6 ^^^ (-1 : Int64))) x3 τ4 (fun r5 τ6 => (r5 = 0 → b_X0_firstSeveral_95 N k_2 k_37 Q x1 x3 x4 x6 x8 τ6) ∧ (¬ r5 = 0 → w_X0_found N (2 : Int32) ((1 : Int32) <<< (x3 &&& 31)) (x1 &&& (x6 ^^^ (-1 : Int64))) τ6 (fun r7 τ8 => (zb r7) ∧ Q r7 τ8)))))))
def w_X0_firstSeveral_37 (N : Nat) (k_2 : Int64 → Int32 → zSt → Prop) (Q : Int32 → zSt → Prop) : Nat → Int64 → Int32 → Int64 → Int64 → Int32 → zSt → Prop
  | 0 => fun _ _ _ _ _ _ => False
  | f + 1 => b_X0_firstSeveral_37 N k_2 (w_X0_firstSeveral_37 N k_2 Q f) Q
def b_X0_firstSeveral_2 (N : Nat) (k_2 : Int64 → Int32 → zSt → Prop) (Q : Int32 → zSt → Prop) (x1 : Int64) (x3 : Int32) (σ : zSt) : Prop :=
  ((σ.1 1) ≤ x3 → Q (0 : Int32) σ) ∧ (¬ (σ.1 1) ≤ x3 → (vp_in x3 10) ∧ (∀ v1 : Int64, v1 = x1 &&& (σ.2.2.2 2 x3.toNatClampNeg) → ∀ v2 : Int64, v2 = (-v1) &&& v1 → w_X0_firstSeveral_37 N k_2 Q N x1 x3 v1 v2 (0 : Int32) σ))
def w_X0_firstSeveral_2 (N : Nat) (Q : Int32 → zSt → Prop) : Nat → Int64 → Int32 → zSt → Prop
  | 0 => fun _ _ _ => False
  | f + 1 => b_X0_firstSeveral_2 N (w_X0_firstSeveral_2 N  Q f) Q
def w_X0_firstSeveral (N : Nat) (x1 : Int64) (σ : zSt) (Q : Int32 → zSt → Prop) : Prop :=
  w_X0_firstSeveral_2 N Q N x1 (0 : Int32) σ
variable {p : Program} {l : Launch} {e : Env} {s : State} {m : MethodId} {args : Array Value} {below : List Frame} {meth : Method} {c : Code} {dC : Nat → ClassId} {dI : Nat → Nat → Nat} {ad : Nat → Nat} {cI cJ : ClassId}
set_option maxHeartbeats 4000000 in
set_option maxRecDepth 100000 in
theorem t_X0_firstSeveral_95 (C0 : zCx p s m meth c args RX0 cX0_firstSeveral 9 (some .boolean) vs_X0_firstSeveral) (hK : va_K (dC, dI) vwCl (x_ty cI cJ) s) (N : Nat) {Q : Int32 → zSt → Prop} {k_2 : Int64 → Int32 → zSt → Prop} (hk_2 : ∀ (x1 : Int64) (x3 : Int32) (σ : zSt) (H : Heap) (locs : List Loc) (ls : Array Slot), k_2 x1 x3 σ → va_P (dC, dI) vwCl (x_W ad cI cJ σ) H → va_D (zAW x_n ad s.heap.size) (x_W ad cI cJ σ) → va_S (zAW x_n ad s.heap.size) s.heap H locs → lv_has ls 9 [(0, .ref (ad 10)), (1, .long x1), (3, .int x3)] → W p l e rm_X0_firstSeveral s m args below meth c H locs 0 0 (MQ below (zQi (dC, dI) (x_ty cI cJ) (x_W ad cI cJ) (zAW x_n ad s.heap.size) Q) args s 0 0 (zAW x_n ad s.heap.size)) (F0 m 2 ls [])) {k_37 : Int64 → Int32 → Int64 → Int64 → Int32 → zSt → Prop} (hk_37 : ∀ (x1 : Int64) (x3 : Int32) (x4 : Int64) (x6 : Int64) (x8 : Int32) (σ : zSt) (H : Heap) (locs : List Loc) (ls : Array Slot), k_37 x1 x3 x4 x6 x8 σ → va_P (dC, dI) vwCl (x_W ad cI cJ σ) H → va_D (zAW x_n ad s.heap.size) (x_W ad cI cJ σ) → va_S (zAW x_n ad s.heap.size) s.heap H locs → lv_has ls 9 [(0, .ref (ad 10)), (1, .long x1), (3, .int x3), (4, .long x4), (6, .long x6), (8, .int x8)] → W p l e rm_X0_firstSeveral s m args below meth c H locs 0 0 (MQ below (zQi (dC, dI) (x_ty cI cJ) (x_W ad cI cJ) (zAW x_n ad s.heap.size) Q) args s 0 0 (zAW x_n ad s.heap.size)) (F0 m 37 ls [])) : ∀ (x1 : Int64) (x3 : Int32) (x4 : Int64) (x6 : Int64) (x8 : Int32) (σ : zSt) (H : Heap) (locs : List Loc) (ls : Array Slot), b_X0_firstSeveral_95 N k_2 k_37 Q x1 x3 x4 x6 x8 σ → va_P (dC, dI) vwCl (x_W ad cI cJ σ) H → va_D (zAW x_n ad s.heap.size) (x_W ad cI cJ σ) → va_S (zAW x_n ad s.heap.size) s.heap H locs → lv_has ls 9 [(0, .ref (ad 10)), (1, .long x1), (3, .int x3), (4, .long x4), (6, .long x6), (8, .int x8)] → W p l e rm_X0_firstSeveral s m args below meth c H locs 0 0 (MQ below (zQi (dC, dI) (x_ty cI cJ) (x_W ad cI cJ) (zAW x_n ad s.heap.size) Q) args s 0 0 (zAW x_n ad s.heap.size)) (F0 m 95 ls []) := by
  obtain ⟨hx, hb, hml, hr, hown, hts, hlocks⟩ := id C0
  intro x1 x3 x4 x6 x8 σ H locs ls h hP hD hS hl
  unfold b_X0_firstSeveral_95 at h
  refine lv_lload hx hb dX0_firstSeveral_95 (lv_at hl 4 rfl) ?_
  refine lv_lload hx hb dX0_firstSeveral_97 (lv_at hl 3 rfl) ?_
  refine lv_lsub hx hb dX0_firstSeveral_99 ?_
  refine lv_lload hx hb dX0_firstSeveral_100 (lv_at hl 3 rfl) ?_
  refine lv_land hx hb dX0_firstSeveral_102 ?_
  refine lv_topl (fun v1 ev1 => ?_)
  have h := h v1 ev1
  refine lv_lstore (lv' := [(6, .long v1), (0, .ref (ad 10)), (1, .long x1), (3, .int x3), (4, .long x4), (8, .int x8)]) hx hb dX0_firstSeveral_103 hl (by decide) rfl (fun ls hl => ?_)
  obtain ⟨v2, ev2⟩ : ∃ z : Int32, z = x8 + (1 : Int32) := ⟨_, rfl⟩
  have h := h v2 ev2
  refine lv_iinc (v := v2) (lv' := [(8, .int v2), (6, .long v1), (0, .ref (ad 10)), (1, .long x1), (3, .int x3), (4, .long x4)]) hx hb dX0_firstSeveral_105 hl (k := 5) rfl (by rw [ev2]; rfl) (by decide) rfl (fun ls hl => ?_)
  refine lv_goto (tgt := 37) hx hb dX0_firstSeveral_108 (by decide) ?_
  exact hk_37 x1 x3 x4 v1 v2 σ _ _ _ h hP hD hS (lv_sub hl [2, 3, 4, 5, 1, 0] rfl)
set_option maxHeartbeats 4000000 in
set_option maxRecDepth 100000 in
theorem tb_X0_firstSeveral_37 (C0 : zCx p s m meth c args RX0 cX0_firstSeveral 9 (some .boolean) vs_X0_firstSeveral) (hK : va_K (dC, dI) vwCl (x_ty cI cJ) s) (N : Nat) {Q : Int32 → zSt → Prop} {k_2 : Int64 → Int32 → zSt → Prop} (hk_2 : ∀ (x1 : Int64) (x3 : Int32) (σ : zSt) (H : Heap) (locs : List Loc) (ls : Array Slot), k_2 x1 x3 σ → va_P (dC, dI) vwCl (x_W ad cI cJ σ) H → va_D (zAW x_n ad s.heap.size) (x_W ad cI cJ σ) → va_S (zAW x_n ad s.heap.size) s.heap H locs → lv_has ls 9 [(0, .ref (ad 10)), (1, .long x1), (3, .int x3)] → W p l e rm_X0_firstSeveral s m args below meth c H locs 0 0 (MQ below (zQi (dC, dI) (x_ty cI cJ) (x_W ad cI cJ) (zAW x_n ad s.heap.size) Q) args s 0 0 (zAW x_n ad s.heap.size)) (F0 m 2 ls [])) {k_37 : Int64 → Int32 → Int64 → Int64 → Int32 → zSt → Prop} (hk_37 : ∀ (x1 : Int64) (x3 : Int32) (x4 : Int64) (x6 : Int64) (x8 : Int32) (σ : zSt) (H : Heap) (locs : List Loc) (ls : Array Slot), k_37 x1 x3 x4 x6 x8 σ → va_P (dC, dI) vwCl (x_W ad cI cJ σ) H → va_D (zAW x_n ad s.heap.size) (x_W ad cI cJ σ) → va_S (zAW x_n ad s.heap.size) s.heap H locs → lv_has ls 9 [(0, .ref (ad 10)), (1, .long x1), (3, .int x3), (4, .long x4), (6, .long x6), (8, .int x8)] → W p l e rm_X0_firstSeveral s m args below meth c H locs 0 0 (MQ below (zQi (dC, dI) (x_ty cI cJ) (x_W ad cI cJ) (zAW x_n ad s.heap.size) Q) args s 0 0 (zAW x_n ad s.heap.size)) (F0 m 37 ls [])) : ∀ (x1 : Int64) (x3 : Int32) (x4 : Int64) (x6 : Int64) (x8 : Int32) (σ : zSt) (H : Heap) (locs : List Loc) (ls : Array Slot), b_X0_firstSeveral_37 N k_2 k_37 Q x1 x3 x4 x6 x8 σ → va_P (dC, dI) vwCl (x_W ad cI cJ σ) H → va_D (zAW x_n ad s.heap.size) (x_W ad cI cJ σ) → va_S (zAW x_n ad s.heap.size) s.heap H locs → lv_has ls 9 [(0, .ref (ad 10)), (1, .long x1), (3, .int x3), (4, .long x4), (6, .long x6), (8, .int x8)] → W p l e rm_X0_firstSeveral s m args below meth c H locs 0 0 (MQ below (zQi (dC, dI) (x_ty cI cJ) (x_W ad cI cJ) (zAW x_n ad s.heap.size) Q) args s 0 0 (zAW x_n ad s.heap.size)) (F0 m 37 ls []) := by
  obtain ⟨hx, hb, hml, hr, hown, hts, hlocks⟩ := id C0
  intro x1 x3 x4 x6 x8 σ H locs ls h hP hD hS hl
  unfold b_X0_firstSeveral_37 at h
  refine lv_iload hx hb dX0_firstSeveral_37 (lv_at hl 5 rfl) ?_
  refine lv_sipush (v := (512 : Int32)) hx hb dX0_firstSeveral_39 (by decide) ?_
  refine lv_icmp_ge (tgt := 111) hx hb dX0_firstSeveral_42 (by decide) (fun hc => ?_) (fun hc => ?_)
  · have h := h.1 hc
    obtain ⟨v1, ev1⟩ : ∃ z : Int32, z = x3 + (1 : Int32) := ⟨_, rfl⟩
    have h := h v1 ev1
    refine lv_iinc (v := v1) (lv' := [(3, .int v1), (0, .ref (ad 10)), (1, .long x1), (4, .long x4), (6, .long x6), (8, .int x8)]) hx hb dX0_firstSeveral_111 hl (k := 2) rfl (by rw [ev1]; rfl) (by decide) rfl (fun ls hl => ?_)
    refine lv_goto (tgt := 2) hx hb dX0_firstSeveral_114 (by decide) ?_
    exact hk_2 x1 v1 σ _ _ _ h hP hD hS (lv_sub hl [1, 2, 0] rfl)
  · have h := h.2 hc
    refine lv_lload hx hb dX0_firstSeveral_45 (lv_at hl 4 rfl) ?_
    refine lv_lconst (v := (0 : Int64)) hx hb dX0_firstSeveral_47 (by decide) ?_
    refine W.lcmp hx hb dX0_firstSeveral_48 ?_
    refine lv_if_eq (tgt := 111) hx hb dX0_firstSeveral_49 (by decide) (fun hc => ?_) (fun hc => ?_)
    · have h := h.1 hc
      obtain ⟨v2, ev2⟩ : ∃ z : Int32, z = x3 + (1 : Int32) := ⟨_, rfl⟩
      have h := h v2 ev2
      refine lv_iinc (v := v2) (lv' := [(3, .int v2), (0, .ref (ad 10)), (1, .long x1), (4, .long x4), (6, .long x6), (8, .int x8)]) hx hb dX0_firstSeveral_111 hl (k := 2) rfl (by rw [ev2]; rfl) (by decide) rfl (fun ls hl => ?_)
      refine lv_goto (tgt := 2) hx hb dX0_firstSeveral_114 (by decide) ?_
      exact hk_2 x1 v2 σ _ _ _ h hP hD hS (lv_sub hl [1, 2, 0] rfl)
    · have h := h.2 hc
      refine lv_lload hx hb dX0_firstSeveral_52 (lv_at hl 4 rfl) ?_
      refine k_J13_bitCount_95d88 N ⟨hx, hb, hml, hown, hts⟩ mw_624 ⟨Nat.le_of_ble_eq_true rfl, Nat.le_of_ble_eq_true rfl⟩ h hK hP hD hS hl.1 (rest := []) (Nat.le_of_ble_eq_true rfl) ⟨Nat.le_of_ble_eq_true rfl, Nat.le_of_ble_eq_true rfl⟩ dX0_firstSeveral_54 (fun r3 τ4 H locs h hP hD hS => ?_)
      refine lv_iconst (v := (2 : Int32)) hx hb dX0_firstSeveral_57 (by decide) ?_
      refine lv_icmp_lt (tgt := 95) hx hb dX0_firstSeveral_58 (by decide) (fun hc => ?_) (fun hc => ?_)
      · have h := h.1 hc
        exact t_X0_firstSeveral_95 C0 hK N hk_2 hk_37 x1 x3 x4 x6 x8 τ4 _ _ _ h hP hD hS (lv_sub hl [0, 1, 2, 3, 4, 5] rfl)
      · have h := h.2 hc
        refine lv_aload_n hx hb dX0_firstSeveral_61 rfl (lv_at hl 0 rfl) ?_
        refine lv_lload_n hx hb dX0_firstSeveral_62 rfl (lv_at hl 1 rfl) ?_
        refine lv_lload_n hx hb dX0_firstSeveral_63 rfl (lv_at hl 1 rfl) ?_
        refine lv_lload hx hb dX0_firstSeveral_64 (lv_at hl 4 rfl) ?_
        refine lv_ldc2 (v := (-1 : Int64)) hx hb hown (hts _ (List.mem_cons_of_mem _ mw_601)) dX0_firstSeveral_66 ?_
        refine lv_lxor hx hb dX0_firstSeveral_69 ?_
        refine lv_land hx hb dX0_firstSeveral_70 ?_
        refine lv_iload_n hx hb dX0_firstSeveral_71 rfl (lv_at hl 2 rfl) ?_
        refine k_X0_gains N ⟨hx, hb, hml, hown, hts⟩ mw_602 ⟨Nat.le_of_ble_eq_true rfl, Nat.le_of_ble_eq_true rfl⟩ h hK hP hD hS hl.1 (rest := []) (Nat.le_of_ble_eq_true rfl) ⟨Nat.le_of_ble_eq_true rfl, Nat.le_of_ble_eq_true rfl⟩ dX0_firstSeveral_72 (fun r5 τ6 H locs h hP hD hS => ?_)
        refine lv_if_eq (tgt := 95) hx hb dX0_firstSeveral_75 (by decide) (fun hc => ?_) (fun hc => ?_)
        · have h := h.1 hc
          exact t_X0_firstSeveral_95 C0 hK N hk_2 hk_37 x1 x3 x4 x6 x8 τ6 _ _ _ h hP hD hS (lv_sub hl [0, 1, 2, 3, 4, 5] rfl)
        · have h := h.2 hc
          refine lv_aload_n hx hb dX0_firstSeveral_78 rfl (lv_at hl 0 rfl) ?_
          refine lv_iconst (v := (2 : Int32)) hx hb dX0_firstSeveral_79 (by decide) ?_
          refine lv_iconst (v := (1 : Int32)) hx hb dX0_firstSeveral_80 (by decide) ?_
          refine lv_iload_n hx hb dX0_firstSeveral_81 rfl (lv_at hl 2 rfl) ?_
          refine lv_ishl hx hb dX0_firstSeveral_82 ?_
          refine lv_lload_n hx hb dX0_firstSeveral_83 rfl (lv_at hl 1 rfl) ?_
          refine lv_lload hx hb dX0_firstSeveral_84 (lv_at hl 4 rfl) ?_
          refine lv_ldc2 (v := (-1 : Int64)) hx hb hown (hts _ (List.mem_cons_of_mem _ mw_601)) dX0_firstSeveral_86 ?_
          refine lv_lxor hx hb dX0_firstSeveral_89 ?_
          refine lv_land hx hb dX0_firstSeveral_90 ?_
          refine k_X0_found N ⟨hx, hb, hml, hown, hts⟩ mw_606 ⟨Nat.le_of_ble_eq_true rfl, Nat.le_of_ble_eq_true rfl⟩ h hK hP hD hS hl.1 (rest := []) (Nat.le_of_ble_eq_true rfl) ⟨Nat.le_of_ble_eq_true rfl, Nat.le_of_ble_eq_true rfl⟩ dX0_firstSeveral_91 (fun r7 τ8 H locs h hP hD hS => ?_)
          exact zret_z hx hb hr hlocks hK hP hD hS h.1 h.2 dX0_firstSeveral_94
set_option maxHeartbeats 4000000 in
set_option maxRecDepth 100000 in
theorem t_X0_firstSeveral_37 (C0 : zCx p s m meth c args RX0 cX0_firstSeveral 9 (some .boolean) vs_X0_firstSeveral) (hK : va_K (dC, dI) vwCl (x_ty cI cJ) s) (N : Nat) {Q : Int32 → zSt → Prop} {k_2 : Int64 → Int32 → zSt → Prop} (hk_2 : ∀ (x1 : Int64) (x3 : Int32) (σ : zSt) (H : Heap) (locs : List Loc) (ls : Array Slot), k_2 x1 x3 σ → va_P (dC, dI) vwCl (x_W ad cI cJ σ) H → va_D (zAW x_n ad s.heap.size) (x_W ad cI cJ σ) → va_S (zAW x_n ad s.heap.size) s.heap H locs → lv_has ls 9 [(0, .ref (ad 10)), (1, .long x1), (3, .int x3)] → W p l e rm_X0_firstSeveral s m args below meth c H locs 0 0 (MQ below (zQi (dC, dI) (x_ty cI cJ) (x_W ad cI cJ) (zAW x_n ad s.heap.size) Q) args s 0 0 (zAW x_n ad s.heap.size)) (F0 m 2 ls [])) : ∀ (f : Nat) (x1 : Int64) (x3 : Int32) (x4 : Int64) (x6 : Int64) (x8 : Int32) (σ : zSt) (H : Heap) (locs : List Loc) (ls : Array Slot), w_X0_firstSeveral_37 N k_2 Q f x1 x3 x4 x6 x8 σ → va_P (dC, dI) vwCl (x_W ad cI cJ σ) H → va_D (zAW x_n ad s.heap.size) (x_W ad cI cJ σ) → va_S (zAW x_n ad s.heap.size) s.heap H locs → lv_has ls 9 [(0, .ref (ad 10)), (1, .long x1), (3, .int x3), (4, .long x4), (6, .long x6), (8, .int x8)] → W p l e rm_X0_firstSeveral s m args below meth c H locs 0 0 (MQ below (zQi (dC, dI) (x_ty cI cJ) (x_W ad cI cJ) (zAW x_n ad s.heap.size) Q) args s 0 0 (zAW x_n ad s.heap.size)) (F0 m 37 ls []) := by
  intro f
  induction f with
  | zero => intro x1 x3 x4 x6 x8 σ H locs ls h; exact h.elim
  | succ f ih =>
    intro x1 x3 x4 x6 x8 σ H locs ls h hP hD hS hl
    exact tb_X0_firstSeveral_37 C0 hK N hk_2 (k_37 := w_X0_firstSeveral_37 N k_2 Q f) ih x1 x3 x4 x6 x8 σ H locs ls h hP hD hS hl
set_option maxHeartbeats 4000000 in
set_option maxRecDepth 100000 in
theorem tb_X0_firstSeveral_2 (C0 : zCx p s m meth c args RX0 cX0_firstSeveral 9 (some .boolean) vs_X0_firstSeveral) (hK : va_K (dC, dI) vwCl (x_ty cI cJ) s) (N : Nat) {Q : Int32 → zSt → Prop} {k_2 : Int64 → Int32 → zSt → Prop} (hk_2 : ∀ (x1 : Int64) (x3 : Int32) (σ : zSt) (H : Heap) (locs : List Loc) (ls : Array Slot), k_2 x1 x3 σ → va_P (dC, dI) vwCl (x_W ad cI cJ σ) H → va_D (zAW x_n ad s.heap.size) (x_W ad cI cJ σ) → va_S (zAW x_n ad s.heap.size) s.heap H locs → lv_has ls 9 [(0, .ref (ad 10)), (1, .long x1), (3, .int x3)] → W p l e rm_X0_firstSeveral s m args below meth c H locs 0 0 (MQ below (zQi (dC, dI) (x_ty cI cJ) (x_W ad cI cJ) (zAW x_n ad s.heap.size) Q) args s 0 0 (zAW x_n ad s.heap.size)) (F0 m 2 ls [])) : ∀ (x1 : Int64) (x3 : Int32) (σ : zSt) (H : Heap) (locs : List Loc) (ls : Array Slot), b_X0_firstSeveral_2 N k_2 Q x1 x3 σ → va_P (dC, dI) vwCl (x_W ad cI cJ σ) H → va_D (zAW x_n ad s.heap.size) (x_W ad cI cJ σ) → va_S (zAW x_n ad s.heap.size) s.heap H locs → lv_has ls 9 [(0, .ref (ad 10)), (1, .long x1), (3, .int x3)] → W p l e rm_X0_firstSeveral s m args below meth c H locs 0 0 (MQ below (zQi (dC, dI) (x_ty cI cJ) (x_W ad cI cJ) (zAW x_n ad s.heap.size) Q) args s 0 0 (zAW x_n ad s.heap.size)) (F0 m 2 ls []) := by
  obtain ⟨hx, hb, hml, hr, hown, hts, hlocks⟩ := id C0
  intro x1 x3 σ H locs ls h hP hD hS hl
  unfold b_X0_firstSeveral_2 at h
  refine lv_iload_n hx hb dX0_firstSeveral_2 rfl (lv_at hl 2 rfl) ?_
  refine lv_aload_n hx hb dX0_firstSeveral_3 rfl (lv_at hl 0 rfl) ?_
  refine xg_10_0 hx hb hts hown hK hP mw_220 dX0_firstSeveral_4 ?_
  refine xg_3_4 hx hb hts hown hK hP mw_76 dX0_firstSeveral_7 ?_
  refine lv_icmp_ge (tgt := 117) hx hb dX0_firstSeveral_10 (by decide) (fun hc => ?_) (fun hc => ?_)
  · have h := h.1 hc
    refine lv_iconst (v := (0 : Int32)) hx hb dX0_firstSeveral_117 (by decide) ?_
    exact zret_z hx hb hr hlocks hK hP hD hS zb_0 h dX0_firstSeveral_118
  · have h := h.2 hc
    refine lv_lload_n hx hb dX0_firstSeveral_13 rfl (lv_at hl 1 rfl) ?_
    refine lv_aload_n hx hb dX0_firstSeveral_14 rfl (lv_at hl 0 rfl) ?_
    refine xg_10_1 hx hb hts hown hK hP mw_221 dX0_firstSeveral_15 ?_
    refine xg_2_2 hx hb hts hown hK hP mw_56 dX0_firstSeveral_18 ?_
    refine lv_iload_n hx hb dX0_firstSeveral_21 rfl (lv_at hl 2 rfl) ?_
    refine xa_22 hx hb hK hP h.1 rfl dX0_firstSeveral_22 ?_
    have h := h.2
    refine lv_land hx hb dX0_firstSeveral_23 ?_
    refine lv_topl (fun v1 ev1 => ?_)
    have h := h v1 ev1
    refine lv_lstore (lv' := [(4, .long v1), (0, .ref (ad 10)), (1, .long x1), (3, .int x3)]) hx hb dX0_firstSeveral_24 hl (by decide) rfl (fun ls hl => ?_)
    refine lv_lload hx hb dX0_firstSeveral_26 (lv_at hl 0 rfl) ?_
    refine lv_lneg hx hb dX0_firstSeveral_28 ?_
    refine lv_lload hx hb dX0_firstSeveral_29 (lv_at hl 0 rfl) ?_
    refine lv_land hx hb dX0_firstSeveral_31 ?_
    refine lv_topl (fun v2 ev2 => ?_)
    have h := h v2 ev2
    refine lv_lstore (lv' := [(6, .long v2), (4, .long v1), (0, .ref (ad 10)), (1, .long x1), (3, .int x3)]) hx hb dX0_firstSeveral_32 hl (by decide) rfl (fun ls hl => ?_)
    refine lv_iconst (v := (0 : Int32)) hx hb dX0_firstSeveral_34 (by decide) ?_
    refine lv_istore (lv' := [(8, .int (0 : Int32)), (6, .long v2), (4, .long v1), (0, .ref (ad 10)), (1, .long x1), (3, .int x3)]) hx hb dX0_firstSeveral_35 hl (by decide) rfl (fun ls hl => ?_)
    exact t_X0_firstSeveral_37 C0 hK N hk_2 N x1 x3 v1 v2 (0 : Int32) σ _ _ _ h hP hD hS (lv_sub hl [3, 4, 5, 2, 1, 0] rfl)
set_option maxHeartbeats 4000000 in
set_option maxRecDepth 100000 in
theorem t_X0_firstSeveral_2 (C0 : zCx p s m meth c args RX0 cX0_firstSeveral 9 (some .boolean) vs_X0_firstSeveral) (hK : va_K (dC, dI) vwCl (x_ty cI cJ) s) (N : Nat) {Q : Int32 → zSt → Prop} : ∀ (f : Nat) (x1 : Int64) (x3 : Int32) (σ : zSt) (H : Heap) (locs : List Loc) (ls : Array Slot), w_X0_firstSeveral_2 N  Q f x1 x3 σ → va_P (dC, dI) vwCl (x_W ad cI cJ σ) H → va_D (zAW x_n ad s.heap.size) (x_W ad cI cJ σ) → va_S (zAW x_n ad s.heap.size) s.heap H locs → lv_has ls 9 [(0, .ref (ad 10)), (1, .long x1), (3, .int x3)] → W p l e rm_X0_firstSeveral s m args below meth c H locs 0 0 (MQ below (zQi (dC, dI) (x_ty cI cJ) (x_W ad cI cJ) (zAW x_n ad s.heap.size) Q) args s 0 0 (zAW x_n ad s.heap.size)) (F0 m 2 ls []) := by
  intro f
  induction f with
  | zero => intro x1 x3 σ H locs ls h; exact h.elim
  | succ f ih =>
    intro x1 x3 σ H locs ls h hP hD hS hl
    exact tb_X0_firstSeveral_2 C0 hK N  (k_2 := w_X0_firstSeveral_2 N  Q f) ih x1 x3 σ H locs ls h hP hD hS hl
set_option maxHeartbeats 4000000 in
set_option maxRecDepth 100000 in
theorem t_X0_firstSeveral_0 (C0 : zCx p s m meth c args RX0 cX0_firstSeveral 9 (some .boolean) vs_X0_firstSeveral) (hK : va_K (dC, dI) vwCl (x_ty cI cJ) s) (N : Nat) {Q : Int32 → zSt → Prop} : ∀ (x1 : Int64) (σ : zSt) (H : Heap) (locs : List Loc) (ls : Array Slot), w_X0_firstSeveral N x1 σ Q → va_P (dC, dI) vwCl (x_W ad cI cJ σ) H → va_D (zAW x_n ad s.heap.size) (x_W ad cI cJ σ) → va_S (zAW x_n ad s.heap.size) s.heap H locs → lv_has ls 9 [(0, .ref (ad 10)), (1, .long x1)] → W p l e rm_X0_firstSeveral s m args below meth c H locs 0 0 (MQ below (zQi (dC, dI) (x_ty cI cJ) (x_W ad cI cJ) (zAW x_n ad s.heap.size) Q) args s 0 0 (zAW x_n ad s.heap.size)) (F0 m 0 ls []) := by
  obtain ⟨hx, hb, hml, hr, hown, hts, hlocks⟩ := id C0
  intro x1 σ H locs ls h hP hD hS hl
  unfold w_X0_firstSeveral at h
  refine lv_iconst (v := (0 : Int32)) hx hb dX0_firstSeveral_0 (by decide) ?_
  refine lv_istore_n (lv' := [(3, .int (0 : Int32)), (0, .ref (ad 10)), (1, .long x1)]) hx hb dX0_firstSeveral_1 rfl hl (by decide) rfl (fun ls hl => ?_)
  exact t_X0_firstSeveral_2 C0 hK N  N x1 (0 : Int32) σ _ _ _ h hP hD hS (lv_sub hl [1, 2, 0] rfl)
set_option maxHeartbeats 4000000 in
set_option maxRecDepth 100000 in
theorem c_X0_firstSeveral (N : Nat) (l : Launch) (dC : Nat → ClassId) (dI : Nat → Nat → Nat) (ad : Nat → Nat) (cI cJ : ClassId) (sz : Nat) (σ : zSt) (x1 : Int64) (Q : Int32 → zSt → Prop) (h : w_X0_firstSeveral N x1 σ Q) : Met l yX0_firstSeveral vs_X0_firstSeveral rm_X0_firstSeveral (va_Pc [.ref (ad 10), .long x1] (zPc (dC, dI) (x_ty cI cJ) (x_W ad cI cJ) sz σ)) (zQi (dC, dI) (x_ty cI cJ) (x_W ad cI cJ) (zAW x_n ad sz) Q) 0 0 (zAW x_n ad sz) := by
  refine Met.ofW (cc := cX0_firstSeveral) (maxL := 9) (ret := (some .boolean)) (by decide) rfl ?_
  intro p e s m args below meth c s₁ B hml hv
  obtain ⟨rfl, hsz, hP, hK, hD0⟩ := hv
  subst hsz
  have C0 : zCx p s m meth c _ RX0 cX0_firstSeveral 9 (some .boolean) vs_X0_firstSeveral := ⟨B.exec, B.bytes, hml, B.returns, findClass_of_methodNamed B.named, atoms_spec (ws := vs_X0_firstSeveral) B.pre, B.notSynchronized⟩
  have hD := x_D0 (n0 := s.heap.size) hD0
  have hl := lv_entry ([.ref (ad 10), .long x1]) (n := 9) (Nat.le_of_ble_eq_true rfl)
  rw [lg_entry_eq]
  generalize (lg_sl ([.ref (ad 10), .long x1]) ++ List.replicate (9 - (lg_sl ([.ref (ad 10), .long x1])).length) Slot.unset).toArray = ls at hl ⊢
  exact t_X0_firstSeveral_0 C0 hK N x1 σ _ _ ls h hP hD va_S.rf hl
theorem k_X0_firstSeveral (N : Nat) {R : Room} {H : Heap} {locs : List Loc} {cells slots : Nat} {Q2 : State → Prop} {cc : ByteArray} {nL pc index : Nat} {ls : Array Slot} {rest : List Value} {own : String} {c0 : Cond} {σ : zSt} {x1 : Int64} {Q : Int32 → zSt → Prop} (S0 : CallFix p m c cc nL s args (c0 :: zT) own) (hml : Cond.methodLink own index yX0_firstSeveral ∈ zT) (hR : rm_X0_firstSeveral.frames + 1 ≤ R.frames ∧ 8 + (9 + 11) + rm_X0_firstSeveral.locals ≤ R.locals) (h : w_X0_firstSeveral N x1 σ Q) (hK : va_K (dC, dI) vwCl (x_ty cI cJ) s) (hP : va_P (dC, dI) vwCl (x_W ad cI cJ σ) H) (hD : va_D (zAW x_n ad s.heap.size) (x_W ad cI cJ σ)) (hS : va_S (zAW x_n ad s.heap.size) s.heap H locs) (hsz : ls.size = nL) (hW : (rest.map fun v => v.category).sum ≤ 8) (hcs : cells ≤ R.cells ∧ slots ≤ R.slots) (hdg : decode cc pc = .ok (.invokevirtual index, 3)) (kk : ∀ (r : Int32) (τ : zSt) (H1 : Heap) (locs1 : List Loc), Q r τ → va_P (dC, dI) vwCl (x_W ad cI cJ τ) H1 → va_D (zAW x_n ad s.heap.size) (x_W ad cI cJ τ) → va_S (zAW x_n ad s.heap.size) s.heap H1 locs1 → W p l e R s m args below meth c H1 locs1 cells slots Q2 (F0 m (pc + 3) ls (.int r :: rest))) : W p l e R s m args below meth c H locs cells slots Q2 (F0 m pc ls (.long x1 :: .ref (ad 10) :: rest)) :=
  zcv_i (T := TX0) (N' := 9) (k := 10) (ci := 0) (fs := x_f10 ad σ) [.long x1] S0 (c_X0_firstSeveral N l dC dI ad cI cJ H.size σ x1 Q h) (cw_X0_firstSeveral S0.2.2.2.2 hml rfl rfl hR) rfl rfl hK hP hD hS rfl hsz hW rfl hcs hdg kk
end q08
section q08
def b_X0_swapsAway_32 (N : Nat) (k_3 : Int64 → Int32 → Int32 → Int32 → zSt → Prop) (Q : Int32 → zSt → Prop) (x1 : Int64) (x3 : Int32) (x4 : Int32) (x5 : Int32) (s0 : Int32) (σ : zSt) : Prop :=
  ∀ v1 : Int64, v1 = (x1 &&& (((1 : Int64) <<< (x4.toInt64 &&& 63)) ^^^ (-1 : Int64))) ||| ((1 : Int64) <<< (s0.toInt64 &&& 63)) → ((lg_cmp ((x1 >>> (s0.toInt64 &&& 63)) &&& (1 : Int64)) (0 : Int64)) = 0 → w_X4_may N v1 σ (fun r3 τ4 => (r3 = 0 → ∀ v5 : Int32, v5 = x5 + (1 : Int32) → k_3 x1 x3 x4 v5 τ4) ∧ (¬ r3 = 0 → w_X10_of N v1 x3 τ4 (fun r6 τ7 => w_X10_of N x1 x3 τ7 (fun r8 τ9 => ((lg_cmp r6 r8) ≤ 0 → ∀ v10 : Int32, v10 = x5 + (1 : Int32) → k_3 x1 x3 x4 v10 τ9) ∧ (¬ (lg_cmp r6 r8) ≤ 0 → w_X10_of N v1 x5 τ9 (fun r11 τ12 => w_X10_of N x1 x5 τ12 (fun r13 τ14 => ((lg_cmp r11 r13) < 0 → ∀ v15 : Int32, v15 = x5 + (1 : Int32) → k_3 x1 x3 x4 v15 τ14) ∧ (¬ (lg_cmp r11 r13) < 0 → w_X0_found N (3 : Int32) (((1 : Int32) <<< (x3 &&& 31)) ||| ((1 : Int32) <<< (x5 &&& 31))) v1 τ14 (fun r16 τ17 => (zb r16) ∧ Q r16 τ17)))))))))) ∧ (¬ (lg_cmp ((x1 >>> (s0.toInt64 &&& 63)) &&& (1 : Int64)) (0 : Int64)) = 0 → ∀ v2 : Int32, v2 = x5 + (1 : Int32) → k_3 x1 x3 x4 v2 σ)
def b_X0_swapsAway_3 (N : Nat) (k_3 : Int64 → Int32 → Int32 → Int32 → zSt → Prop) (Q : Int32 → zSt → Prop) (x1 : Int64) (x3 : Int32) (x4 : Int32) (x5 : Int32) (σ : zSt) : Prop :=
  ((σ.1 1) ≤ x5 → Q (0 : Int32) σ) ∧ (¬ (σ.1 1) ≤ x5 → (x5 = x3 → b_X0_swapsAway_32 N k_3 Q x1 x3 x4 x5 x4 σ) ∧ (¬ x5 = x3 → w_X3_number N x3 x5 σ (fun r1 τ2 => b_X0_swapsAway_32 N k_3 Q x1 x3 x4 x5 r1 τ2)))
def w_X0_swapsAway_3 (N : Nat) (Q : Int32 → zSt → Prop) : Nat → Int64 → Int32 → Int32 → Int32 → zSt → Prop
  | 0 => fun _ _ _ _ _ => False
  | f + 1 => b_X0_swapsAway_3 N (w_X0_swapsAway_3 N  Q f) Q
def w_X0_swapsAway (N : Nat) (x1 : Int64) (x3 : Int32) (x4 : Int32) (σ : zSt) (Q : Int32 → zSt → Prop) : Prop :=
  w_X0_swapsAway_3 N Q N x1 x3 x4 (0 : Int32) σ
variable {p : Program} {l : Launch} {e : Env} {s : State} {m : MethodId} {args : Array Value} {below : List Frame} {meth : Method} {c : Code} {dC : Nat → ClassId} {dI : Nat → Nat → Nat} {ad : Nat → Nat} {cI cJ : ClassId}
set_option maxHeartbeats 4000000 in
set_option maxRecDepth 100000 in
theorem t_X0_swapsAway_32 (C0 : zCx p s m meth c args RX0 cX0_swapsAway 9 (some .boolean) vs_X0_swapsAway) (hK : va_K (dC, dI) vwCl (x_ty cI cJ) s) (N : Nat) {Q : Int32 → zSt → Prop} {k_3 : Int64 → Int32 → Int32 → Int32 → zSt → Prop} (hk_3 : ∀ (x1 : Int64) (x3 : Int32) (x4 : Int32) (x5 : Int32) (σ : zSt) (H : Heap) (locs : List Loc) (ls : Array Slot), k_3 x1 x3 x4 x5 σ → va_P (dC, dI) vwCl (x_W ad cI cJ σ) H → va_D (zAW x_n ad s.heap.size) (x_W ad cI cJ σ) → va_S (zAW x_n ad s.heap.size) s.heap H locs → lv_has ls 9 [(0, .ref (ad 10)), (1, .long x1), (3, .int x3), (4, .int x4), (5, .int x5)] → W p l e rm_X0_swapsAway s m args below meth c H locs 0 0 (MQ below (zQi (dC, dI) (x_ty cI cJ) (x_W ad cI cJ) (zAW x_n ad s.heap.size) Q) args s 0 0 (zAW x_n ad s.heap.size)) (F0 m 3 ls [])) : ∀ (x1 : Int64) (x3 : Int32) (x4 : Int32) (x5 : Int32) (s0 : Int32) (σ : zSt) (H : Heap) (locs : List Loc) (ls : Array Slot), b_X0_swapsAway_32 N k_3 Q x1 x3 x4 x5 s0 σ → va_P (dC, dI) vwCl (x_W ad cI cJ σ) H → va_D (zAW x_n ad s.heap.size) (x_W ad cI cJ σ) → va_S (zAW x_n ad s.heap.size) s.heap H locs → lv_has ls 9 [(0, .ref (ad 10)), (1, .long x1), (3, .int x3), (4, .int x4), (5, .int x5)] → W p l e rm_X0_swapsAway s m args below meth c H locs 0 0 (MQ below (zQi (dC, dI) (x_ty cI cJ) (x_W ad cI cJ) (zAW x_n ad s.heap.size) Q) args s 0 0 (zAW x_n ad s.heap.size)) (F0 m 32 ls [.int s0]) := by
  obtain ⟨hx, hb, hml, hr, hown, hts, hlocks⟩ := id C0
  intro x1 x3 x4 x5 s0 σ H locs ls h hP hD hS hl
  unfold b_X0_swapsAway_32 at h
  refine lv_istore (lv' := [(6, .int s0), (0, .ref (ad 10)), (1, .long x1), (3, .int x3), (4, .int x4), (5, .int x5)]) hx hb dX0_swapsAway_32 hl (by decide) rfl (fun ls hl => ?_)
  refine lv_lload_n hx hb dX0_swapsAway_34 rfl (lv_at hl 2 rfl) ?_
  refine lv_lconst (v := (1 : Int64)) hx hb dX0_swapsAway_35 (by decide) ?_
  refine lv_iload hx hb dX0_swapsAway_36 (lv_at hl 4 rfl) ?_
  refine lv_lshl hx hb dX0_swapsAway_38 rfl ?_
  refine lv_ldc2 (v := (-1 : Int64)) hx hb hown (hts _ (List.mem_cons_of_mem _ mw_601)) dX0_swapsAway_39 ?_
  refine lv_lxor hx hb dX0_swapsAway_42 ?_
  refine lv_land hx hb dX0_swapsAway_43 ?_
  refine lv_lconst (v := (1 : Int64)) hx hb dX0_swapsAway_44 (by decide) ?_
  refine lv_iload hx hb dX0_swapsAway_45 (lv_at hl 0 rfl) ?_
  refine lv_lshl hx hb dX0_swapsAway_47 rfl ?_
  refine lv_lor hx hb dX0_swapsAway_48 ?_
  refine lv_topl (fun v1 ev1 => ?_)
  have h := h v1 ev1
  refine lv_lstore (lv' := [(7, .long v1), (6, .int s0), (0, .ref (ad 10)), (1, .long x1), (3, .int x3), (4, .int x4), (5, .int x5)]) hx hb dX0_swapsAway_49 hl (by decide) rfl (fun ls hl => ?_)
  refine lv_lload_n hx hb dX0_swapsAway_51 rfl (lv_at hl 3 rfl) ?_
  refine lv_iload hx hb dX0_swapsAway_52 (lv_at hl 1 rfl) ?_
  refine lv_lshr hx hb dX0_swapsAway_54 rfl ?_
  refine lv_lconst (v := (1 : Int64)) hx hb dX0_swapsAway_55 (by decide) ?_
  refine lv_land hx hb dX0_swapsAway_56 ?_
  refine lv_lconst (v := (0 : Int64)) hx hb dX0_swapsAway_57 (by decide) ?_
  refine W.lcmp hx hb dX0_swapsAway_58 ?_
  refine lv_if_ne (tgt := 138) hx hb dX0_swapsAway_59 (by decide) (fun hc => ?_) (fun hc => ?_)
  · have h := h.2 hc
    obtain ⟨v2, ev2⟩ : ∃ z : Int32, z = x5 + (1 : Int32) := ⟨_, rfl⟩
    have h := h v2 ev2
    refine lv_iinc (v := v2) (lv' := [(5, .int v2), (7, .long v1), (6, .int s0), (0, .ref (ad 10)), (1, .long x1), (3, .int x3), (4, .int x4)]) hx hb dX0_swapsAway_138 hl (k := 6) rfl (by rw [ev2]; rfl) (by decide) rfl (fun ls hl => ?_)
    refine lv_goto (tgt := 3) hx hb dX0_swapsAway_141 (by decide) ?_
    exact hk_3 x1 x3 x4 v2 σ _ _ _ h hP hD hS (lv_sub hl [3, 4, 5, 6, 0] rfl)
  · have h := h.1 hc
    refine lv_aload_n hx hb dX0_swapsAway_62 rfl (lv_at hl 2 rfl) ?_
    refine xg_10_0 hx hb hts hown hK hP mw_220 dX0_swapsAway_63 ?_
    refine lv_lload hx hb dX0_swapsAway_66 (lv_at hl 0 rfl) ?_
    refine k_X4_may N ⟨hx, hb, hml, hown, hts⟩ mw_617 ⟨Nat.le_of_ble_eq_true rfl, Nat.le_of_ble_eq_true rfl⟩ h hK hP hD hS hl.1 (rest := []) (Nat.le_of_ble_eq_true rfl) ⟨Nat.le_of_ble_eq_true rfl, Nat.le_of_ble_eq_true rfl⟩ dX0_swapsAway_68 (fun r3 τ4 H locs h hP hD hS => ?_)
    refine lv_if_eq (tgt := 138) hx hb dX0_swapsAway_71 (by decide) (fun hc => ?_) (fun hc => ?_)
    · have h := h.1 hc
      obtain ⟨v5, ev5⟩ : ∃ z : Int32, z = x5 + (1 : Int32) := ⟨_, rfl⟩
      have h := h v5 ev5
      refine lv_iinc (v := v5) (lv' := [(5, .int v5), (7, .long v1), (6, .int s0), (0, .ref (ad 10)), (1, .long x1), (3, .int x3), (4, .int x4)]) hx hb dX0_swapsAway_138 hl (k := 6) rfl (by rw [ev5]; rfl) (by decide) rfl (fun ls hl => ?_)
      refine lv_goto (tgt := 3) hx hb dX0_swapsAway_141 (by decide) ?_
      exact hk_3 x1 x3 x4 v5 τ4 _ _ _ h hP hD hS (lv_sub hl [3, 4, 5, 6, 0] rfl)
    · have h := h.2 hc
      refine lv_aload_n hx hb dX0_swapsAway_74 rfl (lv_at hl 2 rfl) ?_
      refine xg_10_2 hx hb hts hown hK hP mw_222 dX0_swapsAway_75 ?_
      refine lv_lload hx hb dX0_swapsAway_78 (lv_at hl 0 rfl) ?_
      refine lv_iload_n hx hb dX0_swapsAway_80 rfl (lv_at hl 4 rfl) ?_
      refine k_X10_of N ⟨hx, hb, hml, hown, hts⟩ mw_605 ⟨Nat.le_of_ble_eq_true rfl, Nat.le_of_ble_eq_true rfl⟩ h hK hP hD hS hl.1 (rest := []) (Nat.le_of_ble_eq_true rfl) ⟨Nat.le_of_ble_eq_true rfl, Nat.le_of_ble_eq_true rfl⟩ dX0_swapsAway_81 (fun r6 τ7 H locs h hP hD hS => ?_)
      refine lv_aload_n hx hb dX0_swapsAway_84 rfl (lv_at hl 2 rfl) ?_
      refine xg_10_2 hx hb hts hown hK hP mw_222 dX0_swapsAway_85 ?_
      refine lv_lload_n hx hb dX0_swapsAway_88 rfl (lv_at hl 3 rfl) ?_
      refine lv_iload_n hx hb dX0_swapsAway_89 rfl (lv_at hl 4 rfl) ?_
      refine k_X10_of N ⟨hx, hb, hml, hown, hts⟩ mw_605 ⟨Nat.le_of_ble_eq_true rfl, Nat.le_of_ble_eq_true rfl⟩ h hK hP hD hS hl.1 (rest := [.long r6]) (Nat.le_of_ble_eq_true rfl) ⟨Nat.le_of_ble_eq_true rfl, Nat.le_of_ble_eq_true rfl⟩ dX0_swapsAway_90 (fun r8 τ9 H locs h hP hD hS => ?_)
      refine W.lcmp hx hb dX0_swapsAway_93 ?_
      refine lv_if_le (tgt := 138) hx hb dX0_swapsAway_94 (by decide) (fun hc => ?_) (fun hc => ?_)
      · have h := h.1 hc
        obtain ⟨v10, ev10⟩ : ∃ z : Int32, z = x5 + (1 : Int32) := ⟨_, rfl⟩
        have h := h v10 ev10
        refine lv_iinc (v := v10) (lv' := [(5, .int v10), (7, .long v1), (6, .int s0), (0, .ref (ad 10)), (1, .long x1), (3, .int x3), (4, .int x4)]) hx hb dX0_swapsAway_138 hl (k := 6) rfl (by rw [ev10]; rfl) (by decide) rfl (fun ls hl => ?_)
        refine lv_goto (tgt := 3) hx hb dX0_swapsAway_141 (by decide) ?_
        exact hk_3 x1 x3 x4 v10 τ9 _ _ _ h hP hD hS (lv_sub hl [3, 4, 5, 6, 0] rfl)
      · have h := h.2 hc
        refine lv_aload_n hx hb dX0_swapsAway_97 rfl (lv_at hl 2 rfl) ?_
        refine xg_10_2 hx hb hts hown hK hP mw_222 dX0_swapsAway_98 ?_
        refine lv_lload hx hb dX0_swapsAway_101 (lv_at hl 0 rfl) ?_
        refine lv_iload hx hb dX0_swapsAway_103 (lv_at hl 6 rfl) ?_
        refine k_X10_of N ⟨hx, hb, hml, hown, hts⟩ mw_605 ⟨Nat.le_of_ble_eq_true rfl, Nat.le_of_ble_eq_true rfl⟩ h hK hP hD hS hl.1 (rest := []) (Nat.le_of_ble_eq_true rfl) ⟨Nat.le_of_ble_eq_true rfl, Nat.le_of_ble_eq_true rfl⟩ dX0_swapsAway_105 (fun r11 τ12 H locs h hP hD hS => ?_)
        refine lv_aload_n hx hb dX0_swapsAway_108 rfl (lv_at hl 2 rfl) ?_
        refine xg_10_2 hx hb hts hown hK hP mw_222 dX0_swapsAway_109 ?_
        refine lv_lload_n hx hb dX0_swapsAway_112 rfl (lv_at hl 3 rfl) ?_
        refine lv_iload hx hb dX0_swapsAway_113 (lv_at hl 6 rfl) ?_
        refine k_X10_of N ⟨hx, hb, hml, hown, hts⟩ mw_605 ⟨Nat.le_of_ble_eq_true rfl, Nat.le_of_ble_eq_true rfl⟩ h hK hP hD hS hl.1 (rest := [.long r11]) (Nat.le_of_ble_eq_true rfl) ⟨Nat.le_of_ble_eq_true rfl, Nat.le_of_ble_eq_true rfl⟩ dX0_swapsAway_115 (fun r13 τ14 H locs h hP hD hS => ?_)
        refine W.lcmp hx hb dX0_swapsAway_118 ?_
        refine lv_if_lt (tgt := 138) hx hb dX0_swapsAway_119 (by decide) (fun hc => ?_) (fun hc => ?_)
        · have h := h.1 hc
          obtain ⟨v15, ev15⟩ : ∃ z : Int32, z = x5 + (1 : Int32) := ⟨_, rfl⟩
          have h := h v15 ev15
          refine lv_iinc (v := v15) (lv' := [(5, .int v15), (7, .long v1), (6, .int s0), (0, .ref (ad 10)), (1, .long x1), (3, .int x3), (4, .int x4)]) hx hb dX0_swapsAway_138 hl (k := 6) rfl (by rw [ev15]; rfl) (by decide) rfl (fun ls hl => ?_)
          refine lv_goto (tgt := 3) hx hb dX0_swapsAway_141 (by decide) ?_
          exact hk_3 x1 x3 x4 v15 τ14 _ _ _ h hP hD hS (lv_sub hl [3, 4, 5, 6, 0] rfl)
        · have h := h.2 hc
          refine lv_aload_n hx hb dX0_swapsAway_122 rfl (lv_at hl 2 rfl) ?_
          refine lv_iconst (v := (3 : Int32)) hx hb dX0_swapsAway_123 (by decide) ?_
          refine lv_iconst (v := (1 : Int32)) hx hb dX0_swapsAway_124 (by decide) ?_
          refine lv_iload_n hx hb dX0_swapsAway_125 rfl (lv_at hl 4 rfl) ?_
          refine lv_ishl hx hb dX0_swapsAway_126 ?_
          refine lv_iconst (v := (1 : Int32)) hx hb dX0_swapsAway_127 (by decide) ?_
          refine lv_iload hx hb dX0_swapsAway_128 (lv_at hl 6 rfl) ?_
          refine lv_ishl hx hb dX0_swapsAway_130 ?_
          refine lv_ior hx hb dX0_swapsAway_131 ?_
          refine lv_lload hx hb dX0_swapsAway_132 (lv_at hl 0 rfl) ?_
          refine k_X0_found N ⟨hx, hb, hml, hown, hts⟩ mw_606 ⟨Nat.le_of_ble_eq_true rfl, Nat.le_of_ble_eq_true rfl⟩ h hK hP hD hS hl.1 (rest := []) (Nat.le_of_ble_eq_true rfl) ⟨Nat.le_of_ble_eq_true rfl, Nat.le_of_ble_eq_true rfl⟩ dX0_swapsAway_134 (fun r16 τ17 H locs h hP hD hS => ?_)
          exact zret_z hx hb hr hlocks hK hP hD hS h.1 h.2 dX0_swapsAway_137
set_option maxHeartbeats 4000000 in
set_option maxRecDepth 100000 in
theorem tb_X0_swapsAway_3 (C0 : zCx p s m meth c args RX0 cX0_swapsAway 9 (some .boolean) vs_X0_swapsAway) (hK : va_K (dC, dI) vwCl (x_ty cI cJ) s) (N : Nat) {Q : Int32 → zSt → Prop} {k_3 : Int64 → Int32 → Int32 → Int32 → zSt → Prop} (hk_3 : ∀ (x1 : Int64) (x3 : Int32) (x4 : Int32) (x5 : Int32) (σ : zSt) (H : Heap) (locs : List Loc) (ls : Array Slot), k_3 x1 x3 x4 x5 σ → va_P (dC, dI) vwCl (x_W ad cI cJ σ) H → va_D (zAW x_n ad s.heap.size) (x_W ad cI cJ σ) → va_S (zAW x_n ad s.heap.size) s.heap H locs → lv_has ls 9 [(0, .ref (ad 10)), (1, .long x1), (3, .int x3), (4, .int x4), (5, .int x5)] → W p l e rm_X0_swapsAway s m args below meth c H locs 0 0 (MQ below (zQi (dC, dI) (x_ty cI cJ) (x_W ad cI cJ) (zAW x_n ad s.heap.size) Q) args s 0 0 (zAW x_n ad s.heap.size)) (F0 m 3 ls [])) : ∀ (x1 : Int64) (x3 : Int32) (x4 : Int32) (x5 : Int32) (σ : zSt) (H : Heap) (locs : List Loc) (ls : Array Slot), b_X0_swapsAway_3 N k_3 Q x1 x3 x4 x5 σ → va_P (dC, dI) vwCl (x_W ad cI cJ σ) H → va_D (zAW x_n ad s.heap.size) (x_W ad cI cJ σ) → va_S (zAW x_n ad s.heap.size) s.heap H locs → lv_has ls 9 [(0, .ref (ad 10)), (1, .long x1), (3, .int x3), (4, .int x4), (5, .int x5)] → W p l e rm_X0_swapsAway s m args below meth c H locs 0 0 (MQ below (zQi (dC, dI) (x_ty cI cJ) (x_W ad cI cJ) (zAW x_n ad s.heap.size) Q) args s 0 0 (zAW x_n ad s.heap.size)) (F0 m 3 ls []) := by
  obtain ⟨hx, hb, hml, hr, hown, hts, hlocks⟩ := id C0
  intro x1 x3 x4 x5 σ H locs ls h hP hD hS hl
  unfold b_X0_swapsAway_3 at h
  refine lv_iload hx hb dX0_swapsAway_3 (lv_at hl 4 rfl) ?_
  refine lv_aload_n hx hb dX0_swapsAway_5 rfl (lv_at hl 0 rfl) ?_
  refine xg_10_0 hx hb hts hown hK hP mw_220 dX0_swapsAway_6 ?_
  refine xg_3_4 hx hb hts hown hK hP mw_76 dX0_swapsAway_9 ?_
  refine lv_icmp_ge (tgt := 144) hx hb dX0_swapsAway_12 (by decide) (fun hc => ?_) (fun hc => ?_)
  · have h := h.1 hc
    refine lv_iconst (v := (0 : Int32)) hx hb dX0_swapsAway_144 (by decide) ?_
    exact zret_z hx hb hr hlocks hK hP hD hS zb_0 h dX0_swapsAway_145
  · have h := h.2 hc
    refine lv_iload hx hb dX0_swapsAway_15 (lv_at hl 4 rfl) ?_
    refine lv_iload_n hx hb dX0_swapsAway_17 rfl (lv_at hl 2 rfl) ?_
    refine lv_icmp_ne (tgt := 26) hx hb dX0_swapsAway_18 (by decide) (fun hc => ?_) (fun hc => ?_)
    · have h := h.2 hc
      refine lv_iload_n hx hb dX0_swapsAway_26 rfl (lv_at hl 2 rfl) ?_
      refine lv_iload hx hb dX0_swapsAway_27 (lv_at hl 4 rfl) ?_
      refine k_X3_number N ⟨hx, hb, hml, hown, hts⟩ mw_628 ⟨Nat.le_of_ble_eq_true rfl, Nat.le_of_ble_eq_true rfl⟩ h hK hP hD hS hl.1 (rest := []) (Nat.le_of_ble_eq_true rfl) ⟨Nat.le_of_ble_eq_true rfl, Nat.le_of_ble_eq_true rfl⟩ dX0_swapsAway_29 (fun r1 τ2 H locs h hP hD hS => ?_)
      exact t_X0_swapsAway_32 C0 hK N hk_3 x1 x3 x4 x5 r1 τ2 _ _ _ h hP hD hS (lv_sub hl [0, 1, 2, 3, 4] rfl)
    · have h := h.1 hc
      refine lv_iload hx hb dX0_swapsAway_21 (lv_at hl 3 rfl) ?_
      refine lv_goto (tgt := 32) hx hb dX0_swapsAway_23 (by decide) ?_
      exact t_X0_swapsAway_32 C0 hK N hk_3 x1 x3 x4 x5 x4 σ _ _ _ h hP hD hS (lv_sub hl [0, 1, 2, 3, 4] rfl)
set_option maxHeartbeats 4000000 in
set_option maxRecDepth 100000 in
theorem t_X0_swapsAway_3 (C0 : zCx p s m meth c args RX0 cX0_swapsAway 9 (some .boolean) vs_X0_swapsAway) (hK : va_K (dC, dI) vwCl (x_ty cI cJ) s) (N : Nat) {Q : Int32 → zSt → Prop} : ∀ (f : Nat) (x1 : Int64) (x3 : Int32) (x4 : Int32) (x5 : Int32) (σ : zSt) (H : Heap) (locs : List Loc) (ls : Array Slot), w_X0_swapsAway_3 N  Q f x1 x3 x4 x5 σ → va_P (dC, dI) vwCl (x_W ad cI cJ σ) H → va_D (zAW x_n ad s.heap.size) (x_W ad cI cJ σ) → va_S (zAW x_n ad s.heap.size) s.heap H locs → lv_has ls 9 [(0, .ref (ad 10)), (1, .long x1), (3, .int x3), (4, .int x4), (5, .int x5)] → W p l e rm_X0_swapsAway s m args below meth c H locs 0 0 (MQ below (zQi (dC, dI) (x_ty cI cJ) (x_W ad cI cJ) (zAW x_n ad s.heap.size) Q) args s 0 0 (zAW x_n ad s.heap.size)) (F0 m 3 ls []) := by
  intro f
  induction f with
  | zero => intro x1 x3 x4 x5 σ H locs ls h; exact h.elim
  | succ f ih =>
    intro x1 x3 x4 x5 σ H locs ls h hP hD hS hl
    exact tb_X0_swapsAway_3 C0 hK N  (k_3 := w_X0_swapsAway_3 N  Q f) ih x1 x3 x4 x5 σ H locs ls h hP hD hS hl
set_option maxHeartbeats 4000000 in
set_option maxRecDepth 100000 in
theorem t_X0_swapsAway_0 (C0 : zCx p s m meth c args RX0 cX0_swapsAway 9 (some .boolean) vs_X0_swapsAway) (hK : va_K (dC, dI) vwCl (x_ty cI cJ) s) (N : Nat) {Q : Int32 → zSt → Prop} : ∀ (x1 : Int64) (x3 : Int32) (x4 : Int32) (σ : zSt) (H : Heap) (locs : List Loc) (ls : Array Slot), w_X0_swapsAway N x1 x3 x4 σ Q → va_P (dC, dI) vwCl (x_W ad cI cJ σ) H → va_D (zAW x_n ad s.heap.size) (x_W ad cI cJ σ) → va_S (zAW x_n ad s.heap.size) s.heap H locs → lv_has ls 9 [(0, .ref (ad 10)), (1, .long x1), (3, .int x3), (4, .int x4)] → W p l e rm_X0_swapsAway s m args below meth c H locs 0 0 (MQ below (zQi (dC, dI) (x_ty cI cJ) (x_W ad cI cJ) (zAW x_n ad s.heap.size) Q) args s 0 0 (zAW x_n ad s.heap.size)) (F0 m 0 ls []) := by
  obtain ⟨hx, hb, hml, hr, hown, hts, hlocks⟩ := id C0
  intro x1 x3 x4 σ H locs ls h hP hD hS hl
  unfold w_X0_swapsAway at h
  refine lv_iconst (v := (0 : Int32)) hx hb dX0_swapsAway_0 (by decide) ?_
  refine lv_istore (lv' := [(5, .int (0 : Int32)), (0, .ref (ad 10)), (1, .long x1), (3, .int x3), (4, .int x4)]) hx hb dX0_swapsAway_1 hl (by decide) rfl (fun ls hl => ?_)
  exact t_X0_swapsAway_3 C0 hK N  N x1 x3 x4 (0 : Int32) σ _ _ _ h hP hD hS (lv_sub hl [1, 2, 3, 4, 0] rfl)
set_option maxHeartbeats 4000000 in
set_option maxRecDepth 100000 in
theorem c_X0_swapsAway (N : Nat) (l : Launch) (dC : Nat → ClassId) (dI : Nat → Nat → Nat) (ad : Nat → Nat) (cI cJ : ClassId) (sz : Nat) (σ : zSt) (x1 : Int64) (x3 : Int32) (x4 : Int32) (Q : Int32 → zSt → Prop) (h : w_X0_swapsAway N x1 x3 x4 σ Q) : Met l yX0_swapsAway vs_X0_swapsAway rm_X0_swapsAway (va_Pc [.ref (ad 10), .long x1, .int x3, .int x4] (zPc (dC, dI) (x_ty cI cJ) (x_W ad cI cJ) sz σ)) (zQi (dC, dI) (x_ty cI cJ) (x_W ad cI cJ) (zAW x_n ad sz) Q) 0 0 (zAW x_n ad sz) := by
  refine Met.ofW (cc := cX0_swapsAway) (maxL := 9) (ret := (some .boolean)) (by decide) rfl ?_
  intro p e s m args below meth c s₁ B hml hv
  obtain ⟨rfl, hsz, hP, hK, hD0⟩ := hv
  subst hsz
  have C0 : zCx p s m meth c _ RX0 cX0_swapsAway 9 (some .boolean) vs_X0_swapsAway := ⟨B.exec, B.bytes, hml, B.returns, findClass_of_methodNamed B.named, atoms_spec (ws := vs_X0_swapsAway) B.pre, B.notSynchronized⟩
  have hD := x_D0 (n0 := s.heap.size) hD0
  have hl := lv_entry ([.ref (ad 10), .long x1, .int x3, .int x4]) (n := 9) (Nat.le_of_ble_eq_true rfl)
  rw [lg_entry_eq]
  generalize (lg_sl ([.ref (ad 10), .long x1, .int x3, .int x4]) ++ List.replicate (9 - (lg_sl ([.ref (ad 10), .long x1, .int x3, .int x4])).length) Slot.unset).toArray = ls at hl ⊢
  exact t_X0_swapsAway_0 C0 hK N x1 x3 x4 σ _ _ ls h hP hD va_S.rf hl
theorem k_X0_swapsAway (N : Nat) {R : Room} {H : Heap} {locs : List Loc} {cells slots : Nat} {Q2 : State → Prop} {cc : ByteArray} {nL pc index : Nat} {ls : Array Slot} {rest : List Value} {own : String} {c0 : Cond} {σ : zSt} {x1 : Int64} {x3 : Int32} {x4 : Int32} {Q : Int32 → zSt → Prop} (S0 : CallFix p m c cc nL s args (c0 :: zT) own) (hml : Cond.methodLink own index yX0_swapsAway ∈ zT) (hR : rm_X0_swapsAway.frames + 1 ≤ R.frames ∧ 8 + (9 + 11) + rm_X0_swapsAway.locals ≤ R.locals) (h : w_X0_swapsAway N x1 x3 x4 σ Q) (hK : va_K (dC, dI) vwCl (x_ty cI cJ) s) (hP : va_P (dC, dI) vwCl (x_W ad cI cJ σ) H) (hD : va_D (zAW x_n ad s.heap.size) (x_W ad cI cJ σ)) (hS : va_S (zAW x_n ad s.heap.size) s.heap H locs) (hsz : ls.size = nL) (hW : (rest.map fun v => v.category).sum ≤ 8) (hcs : cells ≤ R.cells ∧ slots ≤ R.slots) (hdg : decode cc pc = .ok (.invokevirtual index, 3)) (kk : ∀ (r : Int32) (τ : zSt) (H1 : Heap) (locs1 : List Loc), Q r τ → va_P (dC, dI) vwCl (x_W ad cI cJ τ) H1 → va_D (zAW x_n ad s.heap.size) (x_W ad cI cJ τ) → va_S (zAW x_n ad s.heap.size) s.heap H1 locs1 → W p l e R s m args below meth c H1 locs1 cells slots Q2 (F0 m (pc + 3) ls (.int r :: rest))) : W p l e R s m args below meth c H locs cells slots Q2 (F0 m pc ls (.int x4 :: .int x3 :: .long x1 :: .ref (ad 10) :: rest)) :=
  zcv_i (T := TX0) (N' := 9) (k := 10) (ci := 0) (fs := x_f10 ad σ) [.long x1, .int x3, .int x4] S0 (c_X0_swapsAway N l dC dI ad cI cJ H.size σ x1 x3 x4 Q h) (cw_X0_swapsAway S0.2.2.2.2 hml rfl rfl hR) rfl rfl hK hP hD hS rfl hsz hW rfl hcs hdg kk
end q08
section q08
def b_X0_firstSwap_16 (N : Nat) (k_2 : Int64 → Int32 → zSt → Prop) (k_16 : Int64 → Int32 → Int32 → zSt → Prop) (Q : Int32 → zSt → Prop) (x1 : Int64) (x3 : Int32) (x4 : Int32) (σ : zSt) : Prop :=
  ((σ.1 1) ≤ x4 → ∀ v1 : Int32, v1 = x3 + (1 : Int32) → k_2 x1 v1 σ) ∧ (¬ (σ.1 1) ≤ x4 → (x4 = x3 → ∀ v2 : Int32, v2 = x4 + (1 : Int32) → k_16 x1 x3 v2 σ) ∧ (¬ x4 = x3 → w_X3_number N x3 x4 σ (fun r3 τ4 => ((lg_cmp ((x1 >>> (r3.toInt64 &&& 63)) &&& (1 : Int64)) (0 : Int64)) = 0 → ∀ v5 : Int32, v5 = x4 + (1 : Int32) → k_16 x1 x3 v5 τ4) ∧ (¬ (lg_cmp ((x1 >>> (r3.toInt64 &&& 63)) &&& (1 : Int64)) (0 : Int64)) = 0 → w_X3_number N x3 x4 τ4 (fun r6 τ7 => w_X0_swapsAway N x1 x3 r6 τ7 (fun r8 τ9 => (r8 = 0 → ∀ v10 : Int32, v10 = x4 + (1 : Int32) → k_16 x1 x3 v10 τ9) ∧ (¬ r8 = 0 → Q (1 : Int32) τ9)))))))
def w_X0_firstSwap_16 (N : Nat) (k_2 : Int64 → Int32 → zSt → Prop) (Q : Int32 → zSt → Prop) : Nat → Int64 → Int32 → Int32 → zSt → Prop
  | 0 => fun _ _ _ _ => False
  | f + 1 => b_X0_firstSwap_16 N k_2 (w_X0_firstSwap_16 N k_2 Q f) Q
def b_X0_firstSwap_2 (N : Nat) (k_2 : Int64 → Int32 → zSt → Prop) (Q : Int32 → zSt → Prop) (x1 : Int64) (x3 : Int32) (σ : zSt) : Prop :=
  ((σ.1 1) ≤ x3 → Q (0 : Int32) σ) ∧ (¬ (σ.1 1) ≤ x3 → w_X0_firstSwap_16 N k_2 Q N x1 x3 (0 : Int32) σ)
def w_X0_firstSwap_2 (N : Nat) (Q : Int32 → zSt → Prop) : Nat → Int64 → Int32 → zSt → Prop
  | 0 => fun _ _ _ => False
  | f + 1 => b_X0_firstSwap_2 N (w_X0_firstSwap_2 N  Q f) Q
def w_X0_firstSwap (N : Nat) (x1 : Int64) (σ : zSt) (Q : Int32 → zSt → Prop) : Prop :=
  w_X0_firstSwap_2 N Q N x1 (0 : Int32) σ
variable {p : Program} {l : Launch} {e : Env} {s : State} {m : MethodId} {args : Array Value} {below : List Frame} {meth : Method} {c : Code} {dC : Nat → ClassId} {dI : Nat → Nat → Nat} {ad : Nat → Nat} {cI cJ : ClassId}
set_option maxHeartbeats 4000000 in
set_option maxRecDepth 100000 in
theorem tb_X0_firstSwap_16 (C0 : zCx p s m meth c args RX0 cX0_firstSwap 5 (some .boolean) vs_X0_firstSwap) (hK : va_K (dC, dI) vwCl (x_ty cI cJ) s) (N : Nat) {Q : Int32 → zSt → Prop} {k_2 : Int64 → Int32 → zSt → Prop} (hk_2 : ∀ (x1 : Int64) (x3 : Int32) (σ : zSt) (H : Heap) (locs : List Loc) (ls : Array Slot), k_2 x1 x3 σ → va_P (dC, dI) vwCl (x_W ad cI cJ σ) H → va_D (zAW x_n ad s.heap.size) (x_W ad cI cJ σ) → va_S (zAW x_n ad s.heap.size) s.heap H locs → lv_has ls 5 [(0, .ref (ad 10)), (1, .long x1), (3, .int x3)] → W p l e rm_X0_firstSwap s m args below meth c H locs 0 0 (MQ below (zQi (dC, dI) (x_ty cI cJ) (x_W ad cI cJ) (zAW x_n ad s.heap.size) Q) args s 0 0 (zAW x_n ad s.heap.size)) (F0 m 2 ls [])) {k_16 : Int64 → Int32 → Int32 → zSt → Prop} (hk_16 : ∀ (x1 : Int64) (x3 : Int32) (x4 : Int32) (σ : zSt) (H : Heap) (locs : List Loc) (ls : Array Slot), k_16 x1 x3 x4 σ → va_P (dC, dI) vwCl (x_W ad cI cJ σ) H → va_D (zAW x_n ad s.heap.size) (x_W ad cI cJ σ) → va_S (zAW x_n ad s.heap.size) s.heap H locs → lv_has ls 5 [(0, .ref (ad 10)), (1, .long x1), (3, .int x3), (4, .int x4)] → W p l e rm_X0_firstSwap s m args below meth c H locs 0 0 (MQ below (zQi (dC, dI) (x_ty cI cJ) (x_W ad cI cJ) (zAW x_n ad s.heap.size) Q) args s 0 0 (zAW x_n ad s.heap.size)) (F0 m 16 ls [])) : ∀ (x1 : Int64) (x3 : Int32) (x4 : Int32) (σ : zSt) (H : Heap) (locs : List Loc) (ls : Array Slot), b_X0_firstSwap_16 N k_2 k_16 Q x1 x3 x4 σ → va_P (dC, dI) vwCl (x_W ad cI cJ σ) H → va_D (zAW x_n ad s.heap.size) (x_W ad cI cJ σ) → va_S (zAW x_n ad s.heap.size) s.heap H locs → lv_has ls 5 [(0, .ref (ad 10)), (1, .long x1), (3, .int x3), (4, .int x4)] → W p l e rm_X0_firstSwap s m args below meth c H locs 0 0 (MQ below (zQi (dC, dI) (x_ty cI cJ) (x_W ad cI cJ) (zAW x_n ad s.heap.size) Q) args s 0 0 (zAW x_n ad s.heap.size)) (F0 m 16 ls []) := by
  obtain ⟨hx, hb, hml, hr, hown, hts, hlocks⟩ := id C0
  intro x1 x3 x4 σ H locs ls h hP hD hS hl
  unfold b_X0_firstSwap_16 at h
  refine lv_iload hx hb dX0_firstSwap_16 (lv_at hl 3 rfl) ?_
  refine lv_aload_n hx hb dX0_firstSwap_18 rfl (lv_at hl 0 rfl) ?_
  refine xg_10_0 hx hb hts hown hK hP mw_220 dX0_firstSwap_19 ?_
  refine xg_3_4 hx hb hts hown hK hP mw_76 dX0_firstSwap_22 ?_
  refine lv_icmp_ge (tgt := 72) hx hb dX0_firstSwap_25 (by decide) (fun hc => ?_) (fun hc => ?_)
  · have h := h.1 hc
    obtain ⟨v1, ev1⟩ : ∃ z : Int32, z = x3 + (1 : Int32) := ⟨_, rfl⟩
    have h := h v1 ev1
    refine lv_iinc (v := v1) (lv' := [(3, .int v1), (0, .ref (ad 10)), (1, .long x1), (4, .int x4)]) hx hb dX0_firstSwap_72 hl (k := 2) rfl (by rw [ev1]; rfl) (by decide) rfl (fun ls hl => ?_)
    refine lv_goto (tgt := 2) hx hb dX0_firstSwap_75 (by decide) ?_
    exact hk_2 x1 v1 σ _ _ _ h hP hD hS (lv_sub hl [1, 2, 0] rfl)
  · have h := h.2 hc
    refine lv_iload hx hb dX0_firstSwap_28 (lv_at hl 3 rfl) ?_
    refine lv_iload_n hx hb dX0_firstSwap_30 rfl (lv_at hl 2 rfl) ?_
    refine lv_icmp_eq (tgt := 66) hx hb dX0_firstSwap_31 (by decide) (fun hc => ?_) (fun hc => ?_)
    · have h := h.1 hc
      obtain ⟨v2, ev2⟩ : ∃ z : Int32, z = x4 + (1 : Int32) := ⟨_, rfl⟩
      have h := h v2 ev2
      refine lv_iinc (v := v2) (lv' := [(4, .int v2), (0, .ref (ad 10)), (1, .long x1), (3, .int x3)]) hx hb dX0_firstSwap_66 hl (k := 3) rfl (by rw [ev2]; rfl) (by decide) rfl (fun ls hl => ?_)
      refine lv_goto (tgt := 16) hx hb dX0_firstSwap_69 (by decide) ?_
      exact hk_16 x1 x3 v2 σ _ _ _ h hP hD hS (lv_sub hl [1, 2, 3, 0] rfl)
    · have h := h.2 hc
      refine lv_lload_n hx hb dX0_firstSwap_34 rfl (lv_at hl 1 rfl) ?_
      refine lv_iload_n hx hb dX0_firstSwap_35 rfl (lv_at hl 2 rfl) ?_
      refine lv_iload hx hb dX0_firstSwap_36 (lv_at hl 3 rfl) ?_
      refine k_X3_number N ⟨hx, hb, hml, hown, hts⟩ mw_628 ⟨Nat.le_of_ble_eq_true rfl, Nat.le_of_ble_eq_true rfl⟩ h hK hP hD hS hl.1 (rest := [.long x1]) (Nat.le_of_ble_eq_true rfl) ⟨Nat.le_of_ble_eq_true rfl, Nat.le_of_ble_eq_true rfl⟩ dX0_firstSwap_38 (fun r3 τ4 H locs h hP hD hS => ?_)
      refine lv_lshr hx hb dX0_firstSwap_41 rfl ?_
      refine lv_lconst (v := (1 : Int64)) hx hb dX0_firstSwap_42 (by decide) ?_
      refine lv_land hx hb dX0_firstSwap_43 ?_
      refine lv_lconst (v := (0 : Int64)) hx hb dX0_firstSwap_44 (by decide) ?_
      refine W.lcmp hx hb dX0_firstSwap_45 ?_
      refine lv_if_eq (tgt := 66) hx hb dX0_firstSwap_46 (by decide) (fun hc => ?_) (fun hc => ?_)
      · have h := h.1 hc
        obtain ⟨v5, ev5⟩ : ∃ z : Int32, z = x4 + (1 : Int32) := ⟨_, rfl⟩
        have h := h v5 ev5
        refine lv_iinc (v := v5) (lv' := [(4, .int v5), (0, .ref (ad 10)), (1, .long x1), (3, .int x3)]) hx hb dX0_firstSwap_66 hl (k := 3) rfl (by rw [ev5]; rfl) (by decide) rfl (fun ls hl => ?_)
        refine lv_goto (tgt := 16) hx hb dX0_firstSwap_69 (by decide) ?_
        exact hk_16 x1 x3 v5 τ4 _ _ _ h hP hD hS (lv_sub hl [1, 2, 3, 0] rfl)
      · have h := h.2 hc
        refine lv_aload_n hx hb dX0_firstSwap_49 rfl (lv_at hl 0 rfl) ?_
        refine lv_lload_n hx hb dX0_firstSwap_50 rfl (lv_at hl 1 rfl) ?_
        refine lv_iload_n hx hb dX0_firstSwap_51 rfl (lv_at hl 2 rfl) ?_
        refine lv_iload_n hx hb dX0_firstSwap_52 rfl (lv_at hl 2 rfl) ?_
        refine lv_iload hx hb dX0_firstSwap_53 (lv_at hl 3 rfl) ?_
        refine k_X3_number N ⟨hx, hb, hml, hown, hts⟩ mw_628 ⟨Nat.le_of_ble_eq_true rfl, Nat.le_of_ble_eq_true rfl⟩ h hK hP hD hS hl.1 (rest := [.int x3, .long x1, .ref (ad 10)]) (Nat.le_of_ble_eq_true rfl) ⟨Nat.le_of_ble_eq_true rfl, Nat.le_of_ble_eq_true rfl⟩ dX0_firstSwap_55 (fun r6 τ7 H locs h hP hD hS => ?_)
        refine k_X0_swapsAway N ⟨hx, hb, hml, hown, hts⟩ mw_629 ⟨Nat.le_of_ble_eq_true rfl, Nat.le_of_ble_eq_true rfl⟩ h hK hP hD hS hl.1 (rest := []) (Nat.le_of_ble_eq_true rfl) ⟨Nat.le_of_ble_eq_true rfl, Nat.le_of_ble_eq_true rfl⟩ dX0_firstSwap_58 (fun r8 τ9 H locs h hP hD hS => ?_)
        refine lv_if_eq (tgt := 66) hx hb dX0_firstSwap_61 (by decide) (fun hc => ?_) (fun hc => ?_)
        · have h := h.1 hc
          obtain ⟨v10, ev10⟩ : ∃ z : Int32, z = x4 + (1 : Int32) := ⟨_, rfl⟩
          have h := h v10 ev10
          refine lv_iinc (v := v10) (lv' := [(4, .int v10), (0, .ref (ad 10)), (1, .long x1), (3, .int x3)]) hx hb dX0_firstSwap_66 hl (k := 3) rfl (by rw [ev10]; rfl) (by decide) rfl (fun ls hl => ?_)
          refine lv_goto (tgt := 16) hx hb dX0_firstSwap_69 (by decide) ?_
          exact hk_16 x1 x3 v10 τ9 _ _ _ h hP hD hS (lv_sub hl [1, 2, 3, 0] rfl)
        · have h := h.2 hc
          refine lv_iconst (v := (1 : Int32)) hx hb dX0_firstSwap_64 (by decide) ?_
          exact zret_z hx hb hr hlocks hK hP hD hS zb_1 h dX0_firstSwap_65
set_option maxHeartbeats 4000000 in
set_option maxRecDepth 100000 in
theorem t_X0_firstSwap_16 (C0 : zCx p s m meth c args RX0 cX0_firstSwap 5 (some .boolean) vs_X0_firstSwap) (hK : va_K (dC, dI) vwCl (x_ty cI cJ) s) (N : Nat) {Q : Int32 → zSt → Prop} {k_2 : Int64 → Int32 → zSt → Prop} (hk_2 : ∀ (x1 : Int64) (x3 : Int32) (σ : zSt) (H : Heap) (locs : List Loc) (ls : Array Slot), k_2 x1 x3 σ → va_P (dC, dI) vwCl (x_W ad cI cJ σ) H → va_D (zAW x_n ad s.heap.size) (x_W ad cI cJ σ) → va_S (zAW x_n ad s.heap.size) s.heap H locs → lv_has ls 5 [(0, .ref (ad 10)), (1, .long x1), (3, .int x3)] → W p l e rm_X0_firstSwap s m args below meth c H locs 0 0 (MQ below (zQi (dC, dI) (x_ty cI cJ) (x_W ad cI cJ) (zAW x_n ad s.heap.size) Q) args s 0 0 (zAW x_n ad s.heap.size)) (F0 m 2 ls [])) : ∀ (f : Nat) (x1 : Int64) (x3 : Int32) (x4 : Int32) (σ : zSt) (H : Heap) (locs : List Loc) (ls : Array Slot), w_X0_firstSwap_16 N k_2 Q f x1 x3 x4 σ → va_P (dC, dI) vwCl (x_W ad cI cJ σ) H → va_D (zAW x_n ad s.heap.size) (x_W ad cI cJ σ) → va_S (zAW x_n ad s.heap.size) s.heap H locs → lv_has ls 5 [(0, .ref (ad 10)), (1, .long x1), (3, .int x3), (4, .int x4)] → W p l e rm_X0_firstSwap s m args below meth c H locs 0 0 (MQ below (zQi (dC, dI) (x_ty cI cJ) (x_W ad cI cJ) (zAW x_n ad s.heap.size) Q) args s 0 0 (zAW x_n ad s.heap.size)) (F0 m 16 ls []) := by
  intro f
  induction f with
  | zero => intro x1 x3 x4 σ H locs ls h; exact h.elim
  | succ f ih =>
    intro x1 x3 x4 σ H locs ls h hP hD hS hl
    exact tb_X0_firstSwap_16 C0 hK N hk_2 (k_16 := w_X0_firstSwap_16 N k_2 Q f) ih x1 x3 x4 σ H locs ls h hP hD hS hl
set_option maxHeartbeats 4000000 in
set_option maxRecDepth 100000 in
theorem tb_X0_firstSwap_2 (C0 : zCx p s m meth c args RX0 cX0_firstSwap 5 (some .boolean) vs_X0_firstSwap) (hK : va_K (dC, dI) vwCl (x_ty cI cJ) s) (N : Nat) {Q : Int32 → zSt → Prop} {k_2 : Int64 → Int32 → zSt → Prop} (hk_2 : ∀ (x1 : Int64) (x3 : Int32) (σ : zSt) (H : Heap) (locs : List Loc) (ls : Array Slot), k_2 x1 x3 σ → va_P (dC, dI) vwCl (x_W ad cI cJ σ) H → va_D (zAW x_n ad s.heap.size) (x_W ad cI cJ σ) → va_S (zAW x_n ad s.heap.size) s.heap H locs → lv_has ls 5 [(0, .ref (ad 10)), (1, .long x1), (3, .int x3)] → W p l e rm_X0_firstSwap s m args below meth c H locs 0 0 (MQ below (zQi (dC, dI) (x_ty cI cJ) (x_W ad cI cJ) (zAW x_n ad s.heap.size) Q) args s 0 0 (zAW x_n ad s.heap.size)) (F0 m 2 ls [])) : ∀ (x1 : Int64) (x3 : Int32) (σ : zSt) (H : Heap) (locs : List Loc) (ls : Array Slot), b_X0_firstSwap_2 N k_2 Q x1 x3 σ → va_P (dC, dI) vwCl (x_W ad cI cJ σ) H → va_D (zAW x_n ad s.heap.size) (x_W ad cI cJ σ) → va_S (zAW x_n ad s.heap.size) s.heap H locs → lv_has ls 5 [(0, .ref (ad 10)), (1, .long x1), (3, .int x3)] → W p l e rm_X0_firstSwap s m args below meth c H locs 0 0 (MQ below (zQi (dC, dI) (x_ty cI cJ) (x_W ad cI cJ) (zAW x_n ad s.heap.size) Q) args s 0 0 (zAW x_n ad s.heap.size)) (F0 m 2 ls []) := by
  obtain ⟨hx, hb, hml, hr, hown, hts, hlocks⟩ := id C0
  intro x1 x3 σ H locs ls h hP hD hS hl
  unfold b_X0_firstSwap_2 at h
  refine lv_iload_n hx hb dX0_firstSwap_2 rfl (lv_at hl 2 rfl) ?_
  refine lv_aload_n hx hb dX0_firstSwap_3 rfl (lv_at hl 0 rfl) ?_
  refine xg_10_0 hx hb hts hown hK hP mw_220 dX0_firstSwap_4 ?_
  refine xg_3_4 hx hb hts hown hK hP mw_76 dX0_firstSwap_7 ?_
  refine lv_icmp_ge (tgt := 78) hx hb dX0_firstSwap_10 (by decide) (fun hc => ?_) (fun hc => ?_)
  · have h := h.1 hc
    refine lv_iconst (v := (0 : Int32)) hx hb dX0_firstSwap_78 (by decide) ?_
    exact zret_z hx hb hr hlocks hK hP hD hS zb_0 h dX0_firstSwap_79
  · have h := h.2 hc
    refine lv_iconst (v := (0 : Int32)) hx hb dX0_firstSwap_13 (by decide) ?_
    refine lv_istore (lv' := [(4, .int (0 : Int32)), (0, .ref (ad 10)), (1, .long x1), (3, .int x3)]) hx hb dX0_firstSwap_14 hl (by decide) rfl (fun ls hl => ?_)
    exact t_X0_firstSwap_16 C0 hK N hk_2 N x1 x3 (0 : Int32) σ _ _ _ h hP hD hS (lv_sub hl [1, 2, 3, 0] rfl)
set_option maxHeartbeats 4000000 in
set_option maxRecDepth 100000 in
theorem t_X0_firstSwap_2 (C0 : zCx p s m meth c args RX0 cX0_firstSwap 5 (some .boolean) vs_X0_firstSwap) (hK : va_K (dC, dI) vwCl (x_ty cI cJ) s) (N : Nat) {Q : Int32 → zSt → Prop} : ∀ (f : Nat) (x1 : Int64) (x3 : Int32) (σ : zSt) (H : Heap) (locs : List Loc) (ls : Array Slot), w_X0_firstSwap_2 N  Q f x1 x3 σ → va_P (dC, dI) vwCl (x_W ad cI cJ σ) H → va_D (zAW x_n ad s.heap.size) (x_W ad cI cJ σ) → va_S (zAW x_n ad s.heap.size) s.heap H locs → lv_has ls 5 [(0, .ref (ad 10)), (1, .long x1), (3, .int x3)] → W p l e rm_X0_firstSwap s m args below meth c H locs 0 0 (MQ below (zQi (dC, dI) (x_ty cI cJ) (x_W ad cI cJ) (zAW x_n ad s.heap.size) Q) args s 0 0 (zAW x_n ad s.heap.size)) (F0 m 2 ls []) := by
  intro f
  induction f with
  | zero => intro x1 x3 σ H locs ls h; exact h.elim
  | succ f ih =>
    intro x1 x3 σ H locs ls h hP hD hS hl
    exact tb_X0_firstSwap_2 C0 hK N  (k_2 := w_X0_firstSwap_2 N  Q f) ih x1 x3 σ H locs ls h hP hD hS hl
set_option maxHeartbeats 4000000 in
set_option maxRecDepth 100000 in
theorem t_X0_firstSwap_0 (C0 : zCx p s m meth c args RX0 cX0_firstSwap 5 (some .boolean) vs_X0_firstSwap) (hK : va_K (dC, dI) vwCl (x_ty cI cJ) s) (N : Nat) {Q : Int32 → zSt → Prop} : ∀ (x1 : Int64) (σ : zSt) (H : Heap) (locs : List Loc) (ls : Array Slot), w_X0_firstSwap N x1 σ Q → va_P (dC, dI) vwCl (x_W ad cI cJ σ) H → va_D (zAW x_n ad s.heap.size) (x_W ad cI cJ σ) → va_S (zAW x_n ad s.heap.size) s.heap H locs → lv_has ls 5 [(0, .ref (ad 10)), (1, .long x1)] → W p l e rm_X0_firstSwap s m args below meth c H locs 0 0 (MQ below (zQi (dC, dI) (x_ty cI cJ) (x_W ad cI cJ) (zAW x_n ad s.heap.size) Q) args s 0 0 (zAW x_n ad s.heap.size)) (F0 m 0 ls []) := by
  obtain ⟨hx, hb, hml, hr, hown, hts, hlocks⟩ := id C0
  intro x1 σ H locs ls h hP hD hS hl
  unfold w_X0_firstSwap at h
  refine lv_iconst (v := (0 : Int32)) hx hb dX0_firstSwap_0 (by decide) ?_
  refine lv_istore_n (lv' := [(3, .int (0 : Int32)), (0, .ref (ad 10)), (1, .long x1)]) hx hb dX0_firstSwap_1 rfl hl (by decide) rfl (fun ls hl => ?_)
  exact t_X0_firstSwap_2 C0 hK N  N x1 (0 : Int32) σ _ _ _ h hP hD hS (lv_sub hl [1, 2, 0] rfl)
set_option maxHeartbeats 4000000 in
set_option maxRecDepth 100000 in
theorem c_X0_firstSwap (N : Nat) (l : Launch) (dC : Nat → ClassId) (dI : Nat → Nat → Nat) (ad : Nat → Nat) (cI cJ : ClassId) (sz : Nat) (σ : zSt) (x1 : Int64) (Q : Int32 → zSt → Prop) (h : w_X0_firstSwap N x1 σ Q) : Met l yX0_firstSwap vs_X0_firstSwap rm_X0_firstSwap (va_Pc [.ref (ad 10), .long x1] (zPc (dC, dI) (x_ty cI cJ) (x_W ad cI cJ) sz σ)) (zQi (dC, dI) (x_ty cI cJ) (x_W ad cI cJ) (zAW x_n ad sz) Q) 0 0 (zAW x_n ad sz) := by
  refine Met.ofW (cc := cX0_firstSwap) (maxL := 5) (ret := (some .boolean)) (by decide) rfl ?_
  intro p e s m args below meth c s₁ B hml hv
  obtain ⟨rfl, hsz, hP, hK, hD0⟩ := hv
  subst hsz
  have C0 : zCx p s m meth c _ RX0 cX0_firstSwap 5 (some .boolean) vs_X0_firstSwap := ⟨B.exec, B.bytes, hml, B.returns, findClass_of_methodNamed B.named, atoms_spec (ws := vs_X0_firstSwap) B.pre, B.notSynchronized⟩
  have hD := x_D0 (n0 := s.heap.size) hD0
  have hl := lv_entry ([.ref (ad 10), .long x1]) (n := 5) (Nat.le_of_ble_eq_true rfl)
  rw [lg_entry_eq]
  generalize (lg_sl ([.ref (ad 10), .long x1]) ++ List.replicate (5 - (lg_sl ([.ref (ad 10), .long x1])).length) Slot.unset).toArray = ls at hl ⊢
  exact t_X0_firstSwap_0 C0 hK N x1 σ _ _ ls h hP hD va_S.rf hl
theorem k_X0_firstSwap (N : Nat) {R : Room} {H : Heap} {locs : List Loc} {cells slots : Nat} {Q2 : State → Prop} {cc : ByteArray} {nL pc index : Nat} {ls : Array Slot} {rest : List Value} {own : String} {c0 : Cond} {σ : zSt} {x1 : Int64} {Q : Int32 → zSt → Prop} (S0 : CallFix p m c cc nL s args (c0 :: zT) own) (hml : Cond.methodLink own index yX0_firstSwap ∈ zT) (hR : rm_X0_firstSwap.frames + 1 ≤ R.frames ∧ 8 + (5 + 11) + rm_X0_firstSwap.locals ≤ R.locals) (h : w_X0_firstSwap N x1 σ Q) (hK : va_K (dC, dI) vwCl (x_ty cI cJ) s) (hP : va_P (dC, dI) vwCl (x_W ad cI cJ σ) H) (hD : va_D (zAW x_n ad s.heap.size) (x_W ad cI cJ σ)) (hS : va_S (zAW x_n ad s.heap.size) s.heap H locs) (hsz : ls.size = nL) (hW : (rest.map fun v => v.category).sum ≤ 8) (hcs : cells ≤ R.cells ∧ slots ≤ R.slots) (hdg : decode cc pc = .ok (.invokevirtual index, 3)) (kk : ∀ (r : Int32) (τ : zSt) (H1 : Heap) (locs1 : List Loc), Q r τ → va_P (dC, dI) vwCl (x_W ad cI cJ τ) H1 → va_D (zAW x_n ad s.heap.size) (x_W ad cI cJ τ) → va_S (zAW x_n ad s.heap.size) s.heap H1 locs1 → W p l e R s m args below meth c H1 locs1 cells slots Q2 (F0 m (pc + 3) ls (.int r :: rest))) : W p l e R s m args below meth c H locs cells slots Q2 (F0 m pc ls (.long x1 :: .ref (ad 10) :: rest)) :=
  zcv_i (T := TX0) (N' := 9) (k := 10) (ci := 0) (fs := x_f10 ad σ) [.long x1] S0 (c_X0_firstSwap N l dC dI ad cI cJ H.size σ x1 Q h) (cw_X0_firstSwap S0.2.2.2.2 hml rfl rfl hR) rfl rfl hK hP hD hS rfl hsz hW rfl hcs hdg kk
end q08
section q08
def b_X0_firstTogether_2 (N : Nat) (k_2 : Int64 → Int32 → zSt → Prop) (Q : Int32 → zSt → Prop) (x1 : Int64) (x3 : Int32) (σ : zSt) : Prop :=
  ((σ.1 2) ≤ x3 → Q (0 : Int32) σ) ∧ (¬ (σ.1 2) ≤ x3 → ∀ v1 : Int64, v1 = x1 ^^^ ((1 : Int64) <<< (x3.toInt64 &&& 63)) → (vp_in x3 45) ∧ (∀ v2 : Int32, v2 = σ.2.2.1 3 x3.toNatClampNeg → (vp_in x3 45) ∧ (∀ v3 : Int32, v3 = σ.2.2.1 4 x3.toNatClampNeg → w_X4_may N v1 σ (fun r4 τ5 => (r4 = 0 → ∀ v6 : Int32, v6 = x3 + (1 : Int32) → k_2 x1 v6 τ5) ∧ (¬ r4 = 0 → w_X10_of N v1 v2 τ5 (fun r7 τ8 => w_X10_of N v1 v3 τ8 (fun r9 τ10 => w_X10_of N x1 v2 τ10 (fun r11 τ12 => w_X10_of N x1 v3 τ12 (fun r13 τ14 => ((lg_cmp (r7 + r9) (r11 + r13)) ≤ 0 → ∀ v15 : Int32, v15 = x3 + (1 : Int32) → k_2 x1 v15 τ14) ∧ (¬ (lg_cmp (r7 + r9) (r11 + r13)) ≤ 0 → w_X0_bothOf N x3 τ14 (fun r16 τ17 => w_X0_found N (4 : Int32) r16 v1 τ17 (fun r18 τ19 => (zb r18) ∧ Q r18 τ19))))))))))))
def w_X0_firstTogether_2 (N : Nat) (Q : Int32 → zSt → Prop) : Nat → Int64 → Int32 → zSt → Prop
  | 0 => fun _ _ _ => False
  | f + 1 => b_X0_firstTogether_2 N (w_X0_firstTogether_2 N  Q f) Q
def w_X0_firstTogether (N : Nat) (x1 : Int64) (σ : zSt) (Q : Int32 → zSt → Prop) : Prop :=
  w_X0_firstTogether_2 N Q N x1 (0 : Int32) σ
variable {p : Program} {l : Launch} {e : Env} {s : State} {m : MethodId} {args : Array Value} {below : List Frame} {meth : Method} {c : Code} {dC : Nat → ClassId} {dI : Nat → Nat → Nat} {ad : Nat → Nat} {cI cJ : ClassId}
set_option maxHeartbeats 4000000 in
set_option maxRecDepth 100000 in
theorem tb_X0_firstTogether_2 (C0 : zCx p s m meth c args RX0 cX0_firstTogether 8 (some .boolean) vs_X0_firstTogether) (hK : va_K (dC, dI) vwCl (x_ty cI cJ) s) (N : Nat) {Q : Int32 → zSt → Prop} {k_2 : Int64 → Int32 → zSt → Prop} (hk_2 : ∀ (x1 : Int64) (x3 : Int32) (σ : zSt) (H : Heap) (locs : List Loc) (ls : Array Slot), k_2 x1 x3 σ → va_P (dC, dI) vwCl (x_W ad cI cJ σ) H → va_D (zAW x_n ad s.heap.size) (x_W ad cI cJ σ) → va_S (zAW x_n ad s.heap.size) s.heap H locs → lv_has ls 8 [(0, .ref (ad 10)), (1, .long x1), (3, .int x3)] → W p l e rm_X0_firstTogether s m args below meth c H locs 0 0 (MQ below (zQi (dC, dI) (x_ty cI cJ) (x_W ad cI cJ) (zAW x_n ad s.heap.size) Q) args s 0 0 (zAW x_n ad s.heap.size)) (F0 m 2 ls [])) : ∀ (x1 : Int64) (x3 : Int32) (σ : zSt) (H : Heap) (locs : List Loc) (ls : Array Slot), b_X0_firstTogether_2 N k_2 Q x1 x3 σ → va_P (dC, dI) vwCl (x_W ad cI cJ σ) H → va_D (zAW x_n ad s.heap.size) (x_W ad cI cJ σ) → va_S (zAW x_n ad s.heap.size) s.heap H locs → lv_has ls 8 [(0, .ref (ad 10)), (1, .long x1), (3, .int x3)] → W p l e rm_X0_firstTogether s m args below meth c H locs 0 0 (MQ below (zQi (dC, dI) (x_ty cI cJ) (x_W ad cI cJ) (zAW x_n ad s.heap.size) Q) args s 0 0 (zAW x_n ad s.heap.size)) (F0 m 2 ls []) := by
  obtain ⟨hx, hb, hml, hr, hown, hts, hlocks⟩ := id C0
  intro x1 x3 σ H locs ls h hP hD hS hl
  unfold b_X0_firstTogether_2 at h
  refine lv_iload_n hx hb dX0_firstTogether_2 rfl (lv_at hl 2 rfl) ?_
  refine lv_aload_n hx hb dX0_firstTogether_3 rfl (lv_at hl 0 rfl) ?_
  refine xg_10_0 hx hb hts hown hK hP mw_220 dX0_firstTogether_4 ?_
  refine xg_3_5 hx hb hts hown hK hP mw_80 dX0_firstTogether_7 ?_
  refine lv_icmp_ge (tgt := 121) hx hb dX0_firstTogether_10 (by decide) (fun hc => ?_) (fun hc => ?_)
  · have h := h.1 hc
    refine lv_iconst (v := (0 : Int32)) hx hb dX0_firstTogether_121 (by decide) ?_
    exact zret_z hx hb hr hlocks hK hP hD hS zb_0 h dX0_firstTogether_122
  · have h := h.2 hc
    refine lv_lload_n hx hb dX0_firstTogether_13 rfl (lv_at hl 1 rfl) ?_
    refine lv_lconst (v := (1 : Int64)) hx hb dX0_firstTogether_14 (by decide) ?_
    refine lv_iload_n hx hb dX0_firstTogether_15 rfl (lv_at hl 2 rfl) ?_
    refine lv_lshl hx hb dX0_firstTogether_16 rfl ?_
    refine lv_lxor hx hb dX0_firstTogether_17 ?_
    refine lv_topl (fun v1 ev1 => ?_)
    have h := h v1 ev1
    refine lv_lstore (lv' := [(4, .long v1), (0, .ref (ad 10)), (1, .long x1), (3, .int x3)]) hx hb dX0_firstTogether_18 hl (by decide) rfl (fun ls hl => ?_)
    refine lv_aload_n hx hb dX0_firstTogether_20 rfl (lv_at hl 1 rfl) ?_
    refine xg_10_1 hx hb hts hown hK hP mw_221 dX0_firstTogether_21 ?_
    refine xg_2_0 hx hb hts hown hK hP mw_46 dX0_firstTogether_24 ?_
    refine lv_iload_n hx hb dX0_firstTogether_27 rfl (lv_at hl 3 rfl) ?_
    refine xa_20 hx hb hK hP h.1 rfl dX0_firstTogether_28 ?_
    have h := h.2
    refine lv_topi (fun v2 ev2 => ?_)
    have h := h v2 ev2
    refine lv_istore (lv' := [(6, .int v2), (4, .long v1), (0, .ref (ad 10)), (1, .long x1), (3, .int x3)]) hx hb dX0_firstTogether_29 hl (by decide) rfl (fun ls hl => ?_)
    refine lv_aload_n hx hb dX0_firstTogether_31 rfl (lv_at hl 2 rfl) ?_
    refine xg_10_1 hx hb hts hown hK hP mw_221 dX0_firstTogether_32 ?_
    refine xg_2_1 hx hb hts hown hK hP mw_50 dX0_firstTogether_35 ?_
    refine lv_iload_n hx hb dX0_firstTogether_38 rfl (lv_at hl 4 rfl) ?_
    refine xa_21 hx hb hK hP h.1 rfl dX0_firstTogether_39 ?_
    have h := h.2
    refine lv_topi (fun v3 ev3 => ?_)
    have h := h v3 ev3
    refine lv_istore (lv' := [(7, .int v3), (6, .int v2), (4, .long v1), (0, .ref (ad 10)), (1, .long x1), (3, .int x3)]) hx hb dX0_firstTogether_40 hl (by decide) rfl (fun ls hl => ?_)
    refine lv_aload_n hx hb dX0_firstTogether_42 rfl (lv_at hl 3 rfl) ?_
    refine xg_10_0 hx hb hts hown hK hP mw_220 dX0_firstTogether_43 ?_
    refine lv_lload hx hb dX0_firstTogether_46 (lv_at hl 2 rfl) ?_
    refine k_X4_may N ⟨hx, hb, hml, hown, hts⟩ mw_617 ⟨Nat.le_of_ble_eq_true rfl, Nat.le_of_ble_eq_true rfl⟩ h hK hP hD hS hl.1 (rest := []) (Nat.le_of_ble_eq_true rfl) ⟨Nat.le_of_ble_eq_true rfl, Nat.le_of_ble_eq_true rfl⟩ dX0_firstTogether_48 (fun r4 τ5 H locs h hP hD hS => ?_)
    refine lv_if_eq (tgt := 115) hx hb dX0_firstTogether_51 (by decide) (fun hc => ?_) (fun hc => ?_)
    · have h := h.1 hc
      obtain ⟨v6, ev6⟩ : ∃ z : Int32, z = x3 + (1 : Int32) := ⟨_, rfl⟩
      have h := h v6 ev6
      refine lv_iinc (v := v6) (lv' := [(3, .int v6), (7, .int v3), (6, .int v2), (4, .long v1), (0, .ref (ad 10)), (1, .long x1)]) hx hb dX0_firstTogether_115 hl (k := 5) rfl (by rw [ev6]; rfl) (by decide) rfl (fun ls hl => ?_)
      refine lv_goto (tgt := 2) hx hb dX0_firstTogether_118 (by decide) ?_
      exact hk_2 x1 v6 τ5 _ _ _ h hP hD hS (lv_sub hl [4, 5, 0] rfl)
    · have h := h.2 hc
      refine lv_aload_n hx hb dX0_firstTogether_54 rfl (lv_at hl 3 rfl) ?_
      refine xg_10_2 hx hb hts hown hK hP mw_222 dX0_firstTogether_55 ?_
      refine lv_lload hx hb dX0_firstTogether_58 (lv_at hl 2 rfl) ?_
      refine lv_iload hx hb dX0_firstTogether_60 (lv_at hl 1 rfl) ?_
      refine k_X10_of N ⟨hx, hb, hml, hown, hts⟩ mw_605 ⟨Nat.le_of_ble_eq_true rfl, Nat.le_of_ble_eq_true rfl⟩ h hK hP hD hS hl.1 (rest := []) (Nat.le_of_ble_eq_true rfl) ⟨Nat.le_of_ble_eq_true rfl, Nat.le_of_ble_eq_true rfl⟩ dX0_firstTogether_62 (fun r7 τ8 H locs h hP hD hS => ?_)
      refine lv_aload_n hx hb dX0_firstTogether_65 rfl (lv_at hl 3 rfl) ?_
      refine xg_10_2 hx hb hts hown hK hP mw_222 dX0_firstTogether_66 ?_
      refine lv_lload hx hb dX0_firstTogether_69 (lv_at hl 2 rfl) ?_
      refine lv_iload hx hb dX0_firstTogether_71 (lv_at hl 0 rfl) ?_
      refine k_X10_of N ⟨hx, hb, hml, hown, hts⟩ mw_605 ⟨Nat.le_of_ble_eq_true rfl, Nat.le_of_ble_eq_true rfl⟩ h hK hP hD hS hl.1 (rest := [.long r7]) (Nat.le_of_ble_eq_true rfl) ⟨Nat.le_of_ble_eq_true rfl, Nat.le_of_ble_eq_true rfl⟩ dX0_firstTogether_73 (fun r9 τ10 H locs h hP hD hS => ?_)
      refine lv_ladd hx hb dX0_firstTogether_76 ?_
      refine lv_aload_n hx hb dX0_firstTogether_77 rfl (lv_at hl 3 rfl) ?_
      refine xg_10_2 hx hb hts hown hK hP mw_222 dX0_firstTogether_78 ?_
      refine lv_lload_n hx hb dX0_firstTogether_81 rfl (lv_at hl 4 rfl) ?_
      refine lv_iload hx hb dX0_firstTogether_82 (lv_at hl 1 rfl) ?_
      refine k_X10_of N ⟨hx, hb, hml, hown, hts⟩ mw_605 ⟨Nat.le_of_ble_eq_true rfl, Nat.le_of_ble_eq_true rfl⟩ h hK hP hD hS hl.1 (rest := [.long (r7 + r9)]) (Nat.le_of_ble_eq_true rfl) ⟨Nat.le_of_ble_eq_true rfl, Nat.le_of_ble_eq_true rfl⟩ dX0_firstTogether_84 (fun r11 τ12 H locs h hP hD hS => ?_)
      refine lv_aload_n hx hb dX0_firstTogether_87 rfl (lv_at hl 3 rfl) ?_
      refine xg_10_2 hx hb hts hown hK hP mw_222 dX0_firstTogether_88 ?_
      refine lv_lload_n hx hb dX0_firstTogether_91 rfl (lv_at hl 4 rfl) ?_
      refine lv_iload hx hb dX0_firstTogether_92 (lv_at hl 0 rfl) ?_
      refine k_X10_of N ⟨hx, hb, hml, hown, hts⟩ mw_605 ⟨Nat.le_of_ble_eq_true rfl, Nat.le_of_ble_eq_true rfl⟩ h hK hP hD hS hl.1 (rest := [.long r11, .long (r7 + r9)]) (Nat.le_of_ble_eq_true rfl) ⟨Nat.le_of_ble_eq_true rfl, Nat.le_of_ble_eq_true rfl⟩ dX0_firstTogether_94 (fun r13 τ14 H locs h hP hD hS => ?_)
      refine lv_ladd hx hb dX0_firstTogether_97 ?_
      refine W.lcmp hx hb dX0_firstTogether_98 ?_
      refine lv_if_le (tgt := 115) hx hb dX0_firstTogether_99 (by decide) (fun hc => ?_) (fun hc => ?_)
      · have h := h.1 hc
        obtain ⟨v15, ev15⟩ : ∃ z : Int32, z = x3 + (1 : Int32) := ⟨_, rfl⟩
        have h := h v15 ev15
        refine lv_iinc (v := v15) (lv' := [(3, .int v15), (7, .int v3), (6, .int v2), (4, .long v1), (0, .ref (ad 10)), (1, .long x1)]) hx hb dX0_firstTogether_115 hl (k := 5) rfl (by rw [ev15]; rfl) (by decide) rfl (fun ls hl => ?_)
        refine lv_goto (tgt := 2) hx hb dX0_firstTogether_118 (by decide) ?_
        exact hk_2 x1 v15 τ14 _ _ _ h hP hD hS (lv_sub hl [4, 5, 0] rfl)
      · have h := h.2 hc
        refine lv_aload_n hx hb dX0_firstTogether_102 rfl (lv_at hl 3 rfl) ?_
        refine lv_iconst (v := (4 : Int32)) hx hb dX0_firstTogether_103 (by decide) ?_
        refine lv_aload_n hx hb dX0_firstTogether_104 rfl (lv_at hl 3 rfl) ?_
        refine lv_iload_n hx hb dX0_firstTogether_105 rfl (lv_at hl 5 rfl) ?_
        refine k_X0_bothOf N ⟨hx, hb, hml, hown, hts⟩ mw_618 ⟨Nat.le_of_ble_eq_true rfl, Nat.le_of_ble_eq_true rfl⟩ h hK hP hD hS hl.1 (rest := [.int (4 : Int32), .ref (ad 10)]) (Nat.le_of_ble_eq_true rfl) ⟨Nat.le_of_ble_eq_true rfl, Nat.le_of_ble_eq_true rfl⟩ dX0_firstTogether_106 (fun r16 τ17 H locs h hP hD hS => ?_)
        refine lv_lload hx hb dX0_firstTogether_109 (lv_at hl 2 rfl) ?_
        refine k_X0_found N ⟨hx, hb, hml, hown, hts⟩ mw_606 ⟨Nat.le_of_ble_eq_true rfl, Nat.le_of_ble_eq_true rfl⟩ h hK hP hD hS hl.1 (rest := []) (Nat.le_of_ble_eq_true rfl) ⟨Nat.le_of_ble_eq_true rfl, Nat.le_of_ble_eq_true rfl⟩ dX0_firstTogether_111 (fun r18 τ19 H locs h hP hD hS => ?_)
        exact zret_z hx hb hr hlocks hK hP hD hS h.1 h.2 dX0_firstTogether_114
set_option maxHeartbeats 4000000 in
set_option maxRecDepth 100000 in
theorem t_X0_firstTogether_2 (C0 : zCx p s m meth c args RX0 cX0_firstTogether 8 (some .boolean) vs_X0_firstTogether) (hK : va_K (dC, dI) vwCl (x_ty cI cJ) s) (N : Nat) {Q : Int32 → zSt → Prop} : ∀ (f : Nat) (x1 : Int64) (x3 : Int32) (σ : zSt) (H : Heap) (locs : List Loc) (ls : Array Slot), w_X0_firstTogether_2 N  Q f x1 x3 σ → va_P (dC, dI) vwCl (x_W ad cI cJ σ) H → va_D (zAW x_n ad s.heap.size) (x_W ad cI cJ σ) → va_S (zAW x_n ad s.heap.size) s.heap H locs → lv_has ls 8 [(0, .ref (ad 10)), (1, .long x1), (3, .int x3)] → W p l e rm_X0_firstTogether s m args below meth c H locs 0 0 (MQ below (zQi (dC, dI) (x_ty cI cJ) (x_W ad cI cJ) (zAW x_n ad s.heap.size) Q) args s 0 0 (zAW x_n ad s.heap.size)) (F0 m 2 ls []) := by
  intro f
  induction f with
  | zero => intro x1 x3 σ H locs ls h; exact h.elim
  | succ f ih =>
    intro x1 x3 σ H locs ls h hP hD hS hl
    exact tb_X0_firstTogether_2 C0 hK N  (k_2 := w_X0_firstTogether_2 N  Q f) ih x1 x3 σ H locs ls h hP hD hS hl
set_option maxHeartbeats 4000000 in
set_option maxRecDepth 100000 in
theorem t_X0_firstTogether_0 (C0 : zCx p s m meth c args RX0 cX0_firstTogether 8 (some .boolean) vs_X0_firstTogether) (hK : va_K (dC, dI) vwCl (x_ty cI cJ) s) (N : Nat) {Q : Int32 → zSt → Prop} : ∀ (x1 : Int64) (σ : zSt) (H : Heap) (locs : List Loc) (ls : Array Slot), w_X0_firstTogether N x1 σ Q → va_P (dC, dI) vwCl (x_W ad cI cJ σ) H → va_D (zAW x_n ad s.heap.size) (x_W ad cI cJ σ) → va_S (zAW x_n ad s.heap.size) s.heap H locs → lv_has ls 8 [(0, .ref (ad 10)), (1, .long x1)] → W p l e rm_X0_firstTogether s m args below meth c H locs 0 0 (MQ below (zQi (dC, dI) (x_ty cI cJ) (x_W ad cI cJ) (zAW x_n ad s.heap.size) Q) args s 0 0 (zAW x_n ad s.heap.size)) (F0 m 0 ls []) := by
  obtain ⟨hx, hb, hml, hr, hown, hts, hlocks⟩ := id C0
  intro x1 σ H locs ls h hP hD hS hl
  unfold w_X0_firstTogether at h
  refine lv_iconst (v := (0 : Int32)) hx hb dX0_firstTogether_0 (by decide) ?_
  refine lv_istore_n (lv' := [(3, .int (0 : Int32)), (0, .ref (ad 10)), (1, .long x1)]) hx hb dX0_firstTogether_1 rfl hl (by decide) rfl (fun ls hl => ?_)
  exact t_X0_firstTogether_2 C0 hK N  N x1 (0 : Int32) σ _ _ _ h hP hD hS (lv_sub hl [1, 2, 0] rfl)
set_option maxHeartbeats 4000000 in
set_option maxRecDepth 100000 in
theorem c_X0_firstTogether (N : Nat) (l : Launch) (dC : Nat → ClassId) (dI : Nat → Nat → Nat) (ad : Nat → Nat) (cI cJ : ClassId) (sz : Nat) (σ : zSt) (x1 : Int64) (Q : Int32 → zSt → Prop) (h : w_X0_firstTogether N x1 σ Q) : Met l yX0_firstTogether vs_X0_firstTogether rm_X0_firstTogether (va_Pc [.ref (ad 10), .long x1] (zPc (dC, dI) (x_ty cI cJ) (x_W ad cI cJ) sz σ)) (zQi (dC, dI) (x_ty cI cJ) (x_W ad cI cJ) (zAW x_n ad sz) Q) 0 0 (zAW x_n ad sz) := by
  refine Met.ofW (cc := cX0_firstTogether) (maxL := 8) (ret := (some .boolean)) (by decide) rfl ?_
  intro p e s m args below meth c s₁ B hml hv
  obtain ⟨rfl, hsz, hP, hK, hD0⟩ := hv
  subst hsz
  have C0 : zCx p s m meth c _ RX0 cX0_firstTogether 8 (some .boolean) vs_X0_firstTogether := ⟨B.exec, B.bytes, hml, B.returns, findClass_of_methodNamed B.named, atoms_spec (ws := vs_X0_firstTogether) B.pre, B.notSynchronized⟩
  have hD := x_D0 (n0 := s.heap.size) hD0
  have hl := lv_entry ([.ref (ad 10), .long x1]) (n := 8) (Nat.le_of_ble_eq_true rfl)
  rw [lg_entry_eq]
  generalize (lg_sl ([.ref (ad 10), .long x1]) ++ List.replicate (8 - (lg_sl ([.ref (ad 10), .long x1])).length) Slot.unset).toArray = ls at hl ⊢
  exact t_X0_firstTogether_0 C0 hK N x1 σ _ _ ls h hP hD va_S.rf hl
theorem k_X0_firstTogether (N : Nat) {R : Room} {H : Heap} {locs : List Loc} {cells slots : Nat} {Q2 : State → Prop} {cc : ByteArray} {nL pc index : Nat} {ls : Array Slot} {rest : List Value} {own : String} {c0 : Cond} {σ : zSt} {x1 : Int64} {Q : Int32 → zSt → Prop} (S0 : CallFix p m c cc nL s args (c0 :: zT) own) (hml : Cond.methodLink own index yX0_firstTogether ∈ zT) (hR : rm_X0_firstTogether.frames + 1 ≤ R.frames ∧ 8 + (8 + 11) + rm_X0_firstTogether.locals ≤ R.locals) (h : w_X0_firstTogether N x1 σ Q) (hK : va_K (dC, dI) vwCl (x_ty cI cJ) s) (hP : va_P (dC, dI) vwCl (x_W ad cI cJ σ) H) (hD : va_D (zAW x_n ad s.heap.size) (x_W ad cI cJ σ)) (hS : va_S (zAW x_n ad s.heap.size) s.heap H locs) (hsz : ls.size = nL) (hW : (rest.map fun v => v.category).sum ≤ 8) (hcs : cells ≤ R.cells ∧ slots ≤ R.slots) (hdg : decode cc pc = .ok (.invokevirtual index, 3)) (kk : ∀ (r : Int32) (τ : zSt) (H1 : Heap) (locs1 : List Loc), Q r τ → va_P (dC, dI) vwCl (x_W ad cI cJ τ) H1 → va_D (zAW x_n ad s.heap.size) (x_W ad cI cJ τ) → va_S (zAW x_n ad s.heap.size) s.heap H1 locs1 → W p l e R s m args below meth c H1 locs1 cells slots Q2 (F0 m (pc + 3) ls (.int r :: rest))) : W p l e R s m args below meth c H locs cells slots Q2 (F0 m pc ls (.long x1 :: .ref (ad 10) :: rest)) :=
  zcv_i (T := TX0) (N' := 9) (k := 10) (ci := 0) (fs := x_f10 ad σ) [.long x1] S0 (c_X0_firstTogether N l dC dI ad cI cJ H.size σ x1 Q h) (cw_X0_firstTogether S0.2.2.2.2 hml rfl rfl hR) rfl rfl hK hP hD hS rfl hsz hW rfl hcs hdg kk
end q08
section q08
def b_X0_firstMaker_2 (N : Nat) (k_2 : Int64 → Int32 → zSt → Prop) (Q : Int32 → zSt → Prop) (x1 : Int64) (x3 : Int32) (σ : zSt) : Prop :=
  ((σ.1 1) ≤ x3 → Q (-1 : Int32) σ) ∧ (¬ (σ.1 1) ≤ x3 → ((lg_cmp x1 (0 : Int64)) = 0 → Q (-1 : Int32) σ) ∧ (¬ (lg_cmp x1 (0 : Int64)) = 0 → (vp_in x3 10) ∧ (((lg_cmp (x1 &&& (σ.2.2.2 2 x3.toNatClampNeg)) (0 : Int64)) = 0 → ∀ v1 : Int32, v1 = x3 + (1 : Int32) → k_2 x1 v1 σ) ∧ (¬ (lg_cmp (x1 &&& (σ.2.2.2 2 x3.toNatClampNeg)) (0 : Int64)) = 0 → Q x3 σ))))
def w_X0_firstMaker_2 (N : Nat) (Q : Int32 → zSt → Prop) : Nat → Int64 → Int32 → zSt → Prop
  | 0 => fun _ _ _ => False
  | f + 1 => b_X0_firstMaker_2 N (w_X0_firstMaker_2 N  Q f) Q
def w_X0_firstMaker (N : Nat) (x1 : Int64) (σ : zSt) (Q : Int32 → zSt → Prop) : Prop :=
  w_X0_firstMaker_2 N Q N x1 (0 : Int32) σ
variable {p : Program} {l : Launch} {e : Env} {s : State} {m : MethodId} {args : Array Value} {below : List Frame} {meth : Method} {c : Code} {dC : Nat → ClassId} {dI : Nat → Nat → Nat} {ad : Nat → Nat} {cI cJ : ClassId}
set_option maxHeartbeats 4000000 in
set_option maxRecDepth 100000 in
theorem tb_X0_firstMaker_2 (C0 : zCx p s m meth c args RX0 cX0_firstMaker 4 (some .int) vs_X0_firstMaker) (hK : va_K (dC, dI) vwCl (x_ty cI cJ) s) (N : Nat) {Q : Int32 → zSt → Prop} {k_2 : Int64 → Int32 → zSt → Prop} (hk_2 : ∀ (x1 : Int64) (x3 : Int32) (σ : zSt) (H : Heap) (locs : List Loc) (ls : Array Slot), k_2 x1 x3 σ → va_P (dC, dI) vwCl (x_W ad cI cJ σ) H → va_D (zAW x_n ad s.heap.size) (x_W ad cI cJ σ) → va_S (zAW x_n ad s.heap.size) s.heap H locs → lv_has ls 4 [(0, .ref (ad 10)), (1, .long x1), (3, .int x3)] → W p l e rm_X0_firstMaker s m args below meth c H locs 0 0 (MQ below (zQi (dC, dI) (x_ty cI cJ) (x_W ad cI cJ) (zAW x_n ad s.heap.size) Q) args s 0 0 (zAW x_n ad s.heap.size)) (F0 m 2 ls [])) : ∀ (x1 : Int64) (x3 : Int32) (σ : zSt) (H : Heap) (locs : List Loc) (ls : Array Slot), b_X0_firstMaker_2 N k_2 Q x1 x3 σ → va_P (dC, dI) vwCl (x_W ad cI cJ σ) H → va_D (zAW x_n ad s.heap.size) (x_W ad cI cJ σ) → va_S (zAW x_n ad s.heap.size) s.heap H locs → lv_has ls 4 [(0, .ref (ad 10)), (1, .long x1), (3, .int x3)] → W p l e rm_X0_firstMaker s m args below meth c H locs 0 0 (MQ below (zQi (dC, dI) (x_ty cI cJ) (x_W ad cI cJ) (zAW x_n ad s.heap.size) Q) args s 0 0 (zAW x_n ad s.heap.size)) (F0 m 2 ls []) := by
  obtain ⟨hx, hb, hml, hr, hown, hts, hlocks⟩ := id C0
  intro x1 x3 σ H locs ls h hP hD hS hl
  unfold b_X0_firstMaker_2 at h
  refine lv_iload_n hx hb dX0_firstMaker_2 rfl (lv_at hl 2 rfl) ?_
  refine lv_aload_n hx hb dX0_firstMaker_3 rfl (lv_at hl 0 rfl) ?_
  refine xg_10_0 hx hb hts hown hK hP mw_220 dX0_firstMaker_4 ?_
  refine xg_3_4 hx hb hts hown hK hP mw_76 dX0_firstMaker_7 ?_
  refine lv_icmp_ge (tgt := 43) hx hb dX0_firstMaker_10 (by decide) (fun hc => ?_) (fun hc => ?_)
  · have h := h.1 hc
    refine lv_iconst (v := (-1 : Int32)) hx hb dX0_firstMaker_43 (by decide) ?_
    exact zret_i hx hb hr hlocks hK hP hD hS h dX0_firstMaker_44
  · have h := h.2 hc
    refine lv_lload_n hx hb dX0_firstMaker_13 rfl (lv_at hl 1 rfl) ?_
    refine lv_lconst (v := (0 : Int64)) hx hb dX0_firstMaker_14 (by decide) ?_
    refine W.lcmp hx hb dX0_firstMaker_15 ?_
    refine lv_if_eq (tgt := 43) hx hb dX0_firstMaker_16 (by decide) (fun hc => ?_) (fun hc => ?_)
    · have h := h.1 hc
      refine lv_iconst (v := (-1 : Int32)) hx hb dX0_firstMaker_43 (by decide) ?_
      exact zret_i hx hb hr hlocks hK hP hD hS h dX0_firstMaker_44
    · have h := h.2 hc
      refine lv_lload_n hx hb dX0_firstMaker_19 rfl (lv_at hl 1 rfl) ?_
      refine lv_aload_n hx hb dX0_firstMaker_20 rfl (lv_at hl 0 rfl) ?_
      refine xg_10_1 hx hb hts hown hK hP mw_221 dX0_firstMaker_21 ?_
      refine xg_2_2 hx hb hts hown hK hP mw_56 dX0_firstMaker_24 ?_
      refine lv_iload_n hx hb dX0_firstMaker_27 rfl (lv_at hl 2 rfl) ?_
      refine xa_22 hx hb hK hP h.1 rfl dX0_firstMaker_28 ?_
      have h := h.2
      refine lv_land hx hb dX0_firstMaker_29 ?_
      refine lv_lconst (v := (0 : Int64)) hx hb dX0_firstMaker_30 (by decide) ?_
      refine W.lcmp hx hb dX0_firstMaker_31 ?_
      refine lv_if_eq (tgt := 37) hx hb dX0_firstMaker_32 (by decide) (fun hc => ?_) (fun hc => ?_)
      · have h := h.1 hc
        obtain ⟨v1, ev1⟩ : ∃ z : Int32, z = x3 + (1 : Int32) := ⟨_, rfl⟩
        have h := h v1 ev1
        refine lv_iinc (v := v1) (lv' := [(3, .int v1), (0, .ref (ad 10)), (1, .long x1)]) hx hb dX0_firstMaker_37 hl (k := 2) rfl (by rw [ev1]; rfl) (by decide) rfl (fun ls hl => ?_)
        refine lv_goto (tgt := 2) hx hb dX0_firstMaker_40 (by decide) ?_
        exact hk_2 x1 v1 σ _ _ _ h hP hD hS (lv_sub hl [1, 2, 0] rfl)
      · have h := h.2 hc
        refine lv_iload_n hx hb dX0_firstMaker_35 rfl (lv_at hl 2 rfl) ?_
        exact zret_i hx hb hr hlocks hK hP hD hS h dX0_firstMaker_36
set_option maxHeartbeats 4000000 in
set_option maxRecDepth 100000 in
theorem t_X0_firstMaker_2 (C0 : zCx p s m meth c args RX0 cX0_firstMaker 4 (some .int) vs_X0_firstMaker) (hK : va_K (dC, dI) vwCl (x_ty cI cJ) s) (N : Nat) {Q : Int32 → zSt → Prop} : ∀ (f : Nat) (x1 : Int64) (x3 : Int32) (σ : zSt) (H : Heap) (locs : List Loc) (ls : Array Slot), w_X0_firstMaker_2 N  Q f x1 x3 σ → va_P (dC, dI) vwCl (x_W ad cI cJ σ) H → va_D (zAW x_n ad s.heap.size) (x_W ad cI cJ σ) → va_S (zAW x_n ad s.heap.size) s.heap H locs → lv_has ls 4 [(0, .ref (ad 10)), (1, .long x1), (3, .int x3)] → W p l e rm_X0_firstMaker s m args below meth c H locs 0 0 (MQ below (zQi (dC, dI) (x_ty cI cJ) (x_W ad cI cJ) (zAW x_n ad s.heap.size) Q) args s 0 0 (zAW x_n ad s.heap.size)) (F0 m 2 ls []) := by
  intro f
  induction f with
  | zero => intro x1 x3 σ H locs ls h; exact h.elim
  | succ f ih =>
    intro x1 x3 σ H locs ls h hP hD hS hl
    exact tb_X0_firstMaker_2 C0 hK N  (k_2 := w_X0_firstMaker_2 N  Q f) ih x1 x3 σ H locs ls h hP hD hS hl
set_option maxHeartbeats 4000000 in
set_option maxRecDepth 100000 in
theorem t_X0_firstMaker_0 (C0 : zCx p s m meth c args RX0 cX0_firstMaker 4 (some .int) vs_X0_firstMaker) (hK : va_K (dC, dI) vwCl (x_ty cI cJ) s) (N : Nat) {Q : Int32 → zSt → Prop} : ∀ (x1 : Int64) (σ : zSt) (H : Heap) (locs : List Loc) (ls : Array Slot), w_X0_firstMaker N x1 σ Q → va_P (dC, dI) vwCl (x_W ad cI cJ σ) H → va_D (zAW x_n ad s.heap.size) (x_W ad cI cJ σ) → va_S (zAW x_n ad s.heap.size) s.heap H locs → lv_has ls 4 [(0, .ref (ad 10)), (1, .long x1)] → W p l e rm_X0_firstMaker s m args below meth c H locs 0 0 (MQ below (zQi (dC, dI) (x_ty cI cJ) (x_W ad cI cJ) (zAW x_n ad s.heap.size) Q) args s 0 0 (zAW x_n ad s.heap.size)) (F0 m 0 ls []) := by
  obtain ⟨hx, hb, hml, hr, hown, hts, hlocks⟩ := id C0
  intro x1 σ H locs ls h hP hD hS hl
  unfold w_X0_firstMaker at h
  refine lv_iconst (v := (0 : Int32)) hx hb dX0_firstMaker_0 (by decide) ?_
  refine lv_istore_n (lv' := [(3, .int (0 : Int32)), (0, .ref (ad 10)), (1, .long x1)]) hx hb dX0_firstMaker_1 rfl hl (by decide) rfl (fun ls hl => ?_)
  exact t_X0_firstMaker_2 C0 hK N  N x1 (0 : Int32) σ _ _ _ h hP hD hS (lv_sub hl [1, 2, 0] rfl)
set_option maxHeartbeats 4000000 in
set_option maxRecDepth 100000 in
theorem c_X0_firstMaker (N : Nat) (l : Launch) (dC : Nat → ClassId) (dI : Nat → Nat → Nat) (ad : Nat → Nat) (cI cJ : ClassId) (sz : Nat) (σ : zSt) (x1 : Int64) (Q : Int32 → zSt → Prop) (h : w_X0_firstMaker N x1 σ Q) : Met l yX0_firstMaker vs_X0_firstMaker rm_X0_firstMaker (va_Pc [.ref (ad 10), .long x1] (zPc (dC, dI) (x_ty cI cJ) (x_W ad cI cJ) sz σ)) (zQi (dC, dI) (x_ty cI cJ) (x_W ad cI cJ) (zAW x_n ad sz) Q) 0 0 (zAW x_n ad sz) := by
  refine Met.ofW (cc := cX0_firstMaker) (maxL := 4) (ret := (some .int)) (by decide) rfl ?_
  intro p e s m args below meth c s₁ B hml hv
  obtain ⟨rfl, hsz, hP, hK, hD0⟩ := hv
  subst hsz
  have C0 : zCx p s m meth c _ RX0 cX0_firstMaker 4 (some .int) vs_X0_firstMaker := ⟨B.exec, B.bytes, hml, B.returns, findClass_of_methodNamed B.named, atoms_spec (ws := vs_X0_firstMaker) B.pre, B.notSynchronized⟩
  have hD := x_D0 (n0 := s.heap.size) hD0
  have hl := lv_entry ([.ref (ad 10), .long x1]) (n := 4) (Nat.le_of_ble_eq_true rfl)
  rw [lg_entry_eq]
  generalize (lg_sl ([.ref (ad 10), .long x1]) ++ List.replicate (4 - (lg_sl ([.ref (ad 10), .long x1])).length) Slot.unset).toArray = ls at hl ⊢
  exact t_X0_firstMaker_0 C0 hK N x1 σ _ _ ls h hP hD va_S.rf hl
theorem k_X0_firstMaker (N : Nat) {R : Room} {H : Heap} {locs : List Loc} {cells slots : Nat} {Q2 : State → Prop} {cc : ByteArray} {nL pc index : Nat} {ls : Array Slot} {rest : List Value} {own : String} {c0 : Cond} {σ : zSt} {x1 : Int64} {Q : Int32 → zSt → Prop} (S0 : CallFix p m c cc nL s args (c0 :: zT) own) (hml : Cond.methodLink own index yX0_firstMaker ∈ zT) (hR : rm_X0_firstMaker.frames + 1 ≤ R.frames ∧ 8 + (4 + 11) + rm_X0_firstMaker.locals ≤ R.locals) (h : w_X0_firstMaker N x1 σ Q) (hK : va_K (dC, dI) vwCl (x_ty cI cJ) s) (hP : va_P (dC, dI) vwCl (x_W ad cI cJ σ) H) (hD : va_D (zAW x_n ad s.heap.size) (x_W ad cI cJ σ)) (hS : va_S (zAW x_n ad s.heap.size) s.heap H locs) (hsz : ls.size = nL) (hW : (rest.map fun v => v.category).sum ≤ 8) (hcs : cells ≤ R.cells ∧ slots ≤ R.slots) (hdg : decode cc pc = .ok (.invokevirtual index, 3)) (kk : ∀ (r : Int32) (τ : zSt) (H1 : Heap) (locs1 : List Loc), Q r τ → va_P (dC, dI) vwCl (x_W ad cI cJ τ) H1 → va_D (zAW x_n ad s.heap.size) (x_W ad cI cJ τ) → va_S (zAW x_n ad s.heap.size) s.heap H1 locs1 → W p l e R s m args below meth c H1 locs1 cells slots Q2 (F0 m (pc + 3) ls (.int r :: rest))) : W p l e R s m args below meth c H locs cells slots Q2 (F0 m pc ls (.long x1 :: .ref (ad 10) :: rest)) :=
  zcv_i (T := TX0) (N' := 9) (k := 10) (ci := 0) (fs := x_f10 ad σ) [.long x1] S0 (c_X0_firstMaker N l dC dI ad cI cJ H.size σ x1 Q h) (cw_X0_firstMaker S0.2.2.2.2 hml rfl rfl hR) rfl rfl hK hP hD hS rfl hsz hW rfl hcs hdg kk
end q08
section q08
def b_X0_gainers_5 (N : Nat) (k_5 : Int64 → Int32 → Int32 → zSt → Prop) (Q : Int32 → zSt → Prop) (x1 : Int64) (x3 : Int32) (x4 : Int32) (σ : zSt) : Prop :=
  ((σ.1 1) ≤ x4 → Q x3 σ) ∧ (¬ (σ.1 1) ≤ x4 → w_X10_of N x1 x4 σ (fun r1 τ2 => (vp_in x4 10) ∧ (((lg_cmp r1 (τ2.2.2.2 9 x4.toNatClampNeg)) ≤ 0 → ∀ v3 : Int32, v3 = x3 ||| (0 : Int32) → ∀ v4 : Int32, v4 = x4 + (1 : Int32) → k_5 x1 v3 v4 τ2) ∧ (¬ (lg_cmp r1 (τ2.2.2.2 9 x4.toNatClampNeg)) ≤ 0 → ∀ v5 : Int32, v5 = x3 ||| ((1 : Int32) <<< (x4 &&& 31)) → ∀ v6 : Int32, v6 = x4 + (1 : Int32) → k_5 x1 v5 v6 τ2))))
def w_X0_gainers_5 (N : Nat) (Q : Int32 → zSt → Prop) : Nat → Int64 → Int32 → Int32 → zSt → Prop
  | 0 => fun _ _ _ _ => False
  | f + 1 => b_X0_gainers_5 N (w_X0_gainers_5 N  Q f) Q
def w_X0_gainers (N : Nat) (x1 : Int64) (σ : zSt) (Q : Int32 → zSt → Prop) : Prop :=
  w_X0_gainers_5 N Q N x1 (0 : Int32) (0 : Int32) σ
variable {p : Program} {l : Launch} {e : Env} {s : State} {m : MethodId} {args : Array Value} {below : List Frame} {meth : Method} {c : Code} {dC : Nat → ClassId} {dI : Nat → Nat → Nat} {ad : Nat → Nat} {cI cJ : ClassId}
set_option maxHeartbeats 4000000 in
set_option maxRecDepth 100000 in
theorem tb_X0_gainers_5 (C0 : zCx p s m meth c args RX0 cX0_gainers 5 (some .int) vs_X0_gainers) (hK : va_K (dC, dI) vwCl (x_ty cI cJ) s) (N : Nat) {Q : Int32 → zSt → Prop} {k_5 : Int64 → Int32 → Int32 → zSt → Prop} (hk_5 : ∀ (x1 : Int64) (x3 : Int32) (x4 : Int32) (σ : zSt) (H : Heap) (locs : List Loc) (ls : Array Slot), k_5 x1 x3 x4 σ → va_P (dC, dI) vwCl (x_W ad cI cJ σ) H → va_D (zAW x_n ad s.heap.size) (x_W ad cI cJ σ) → va_S (zAW x_n ad s.heap.size) s.heap H locs → lv_has ls 5 [(0, .ref (ad 10)), (1, .long x1), (3, .int x3), (4, .int x4)] → W p l e rm_X0_gainers s m args below meth c H locs 0 0 (MQ below (zQi (dC, dI) (x_ty cI cJ) (x_W ad cI cJ) (zAW x_n ad s.heap.size) Q) args s 0 0 (zAW x_n ad s.heap.size)) (F0 m 5 ls [])) : ∀ (x1 : Int64) (x3 : Int32) (x4 : Int32) (σ : zSt) (H : Heap) (locs : List Loc) (ls : Array Slot), b_X0_gainers_5 N k_5 Q x1 x3 x4 σ → va_P (dC, dI) vwCl (x_W ad cI cJ σ) H → va_D (zAW x_n ad s.heap.size) (x_W ad cI cJ σ) → va_S (zAW x_n ad s.heap.size) s.heap H locs → lv_has ls 5 [(0, .ref (ad 10)), (1, .long x1), (3, .int x3), (4, .int x4)] → W p l e rm_X0_gainers s m args below meth c H locs 0 0 (MQ below (zQi (dC, dI) (x_ty cI cJ) (x_W ad cI cJ) (zAW x_n ad s.heap.size) Q) args s 0 0 (zAW x_n ad s.heap.size)) (F0 m 5 ls []) := by
  obtain ⟨hx, hb, hml, hr, hown, hts, hlocks⟩ := id C0
  intro x1 x3 x4 σ H locs ls h hP hD hS hl
  unfold b_X0_gainers_5 at h
  refine lv_iload hx hb dX0_gainers_5 (lv_at hl 3 rfl) ?_
  refine lv_aload_n hx hb dX0_gainers_7 rfl (lv_at hl 0 rfl) ?_
  refine xg_10_0 hx hb hts hown hK hP mw_220 dX0_gainers_8 ?_
  refine xg_3_4 hx hb hts hown hK hP mw_76 dX0_gainers_11 ?_
  refine lv_icmp_ge (tgt := 55) hx hb dX0_gainers_14 (by decide) (fun hc => ?_) (fun hc => ?_)
  · have h := h.1 hc
    refine lv_iload_n hx hb dX0_gainers_55 rfl (lv_at hl 2 rfl) ?_
    exact zret_i hx hb hr hlocks hK hP hD hS h dX0_gainers_56
  · have h := h.2 hc
    refine lv_iload_n hx hb dX0_gainers_17 rfl (lv_at hl 2 rfl) ?_
    refine lv_aload_n hx hb dX0_gainers_18 rfl (lv_at hl 0 rfl) ?_
    refine xg_10_2 hx hb hts hown hK hP mw_222 dX0_gainers_19 ?_
    refine lv_lload_n hx hb dX0_gainers_22 rfl (lv_at hl 1 rfl) ?_
    refine lv_iload hx hb dX0_gainers_23 (lv_at hl 3 rfl) ?_
    refine k_X10_of N ⟨hx, hb, hml, hown, hts⟩ mw_605 ⟨Nat.le_of_ble_eq_true rfl, Nat.le_of_ble_eq_true rfl⟩ h hK hP hD hS hl.1 (rest := [.int x3]) (Nat.le_of_ble_eq_true rfl) ⟨Nat.le_of_ble_eq_true rfl, Nat.le_of_ble_eq_true rfl⟩ dX0_gainers_25 (fun r1 τ2 H locs h hP hD hS => ?_)
    refine lv_aload_n hx hb dX0_gainers_28 rfl (lv_at hl 0 rfl) ?_
    refine xg_10_5 hx hb hts hown hK hP mw_225 dX0_gainers_29 ?_
    refine lv_iload hx hb dX0_gainers_32 (lv_at hl 3 rfl) ?_
    refine xa_54 hx hb hK hP h.1 rfl dX0_gainers_34 ?_
    have h := h.2
    refine W.lcmp hx hb dX0_gainers_35 ?_
    refine lv_if_le (tgt := 46) hx hb dX0_gainers_36 (by decide) (fun hc => ?_) (fun hc => ?_)
    · have h := h.1 hc
      refine lv_iconst (v := (0 : Int32)) hx hb dX0_gainers_46 (by decide) ?_
      refine lv_ior hx hb dX0_gainers_47 ?_
      refine lv_topi (fun v3 ev3 => ?_)
      have h := h v3 ev3
      refine lv_istore_n (lv' := [(3, .int v3), (0, .ref (ad 10)), (1, .long x1), (4, .int x4)]) hx hb dX0_gainers_48 rfl hl (by decide) rfl (fun ls hl => ?_)
      obtain ⟨v4, ev4⟩ : ∃ z : Int32, z = x4 + (1 : Int32) := ⟨_, rfl⟩
      have h := h v4 ev4
      refine lv_iinc (v := v4) (lv' := [(4, .int v4), (3, .int v3), (0, .ref (ad 10)), (1, .long x1)]) hx hb dX0_gainers_49 hl (k := 3) rfl (by rw [ev4]; rfl) (by decide) rfl (fun ls hl => ?_)
      refine lv_goto (tgt := 5) hx hb dX0_gainers_52 (by decide) ?_
      exact hk_5 x1 v3 v4 τ2 _ _ _ h hP hD hS (lv_sub hl [2, 3, 1, 0] rfl)
    · have h := h.2 hc
      refine lv_iconst (v := (1 : Int32)) hx hb dX0_gainers_39 (by decide) ?_
      refine lv_iload hx hb dX0_gainers_40 (lv_at hl 3 rfl) ?_
      refine lv_ishl hx hb dX0_gainers_42 ?_
      refine lv_goto (tgt := 47) hx hb dX0_gainers_43 (by decide) ?_
      refine lv_ior hx hb dX0_gainers_47 ?_
      refine lv_topi (fun v5 ev5 => ?_)
      have h := h v5 ev5
      refine lv_istore_n (lv' := [(3, .int v5), (0, .ref (ad 10)), (1, .long x1), (4, .int x4)]) hx hb dX0_gainers_48 rfl hl (by decide) rfl (fun ls hl => ?_)
      obtain ⟨v6, ev6⟩ : ∃ z : Int32, z = x4 + (1 : Int32) := ⟨_, rfl⟩
      have h := h v6 ev6
      refine lv_iinc (v := v6) (lv' := [(4, .int v6), (3, .int v5), (0, .ref (ad 10)), (1, .long x1)]) hx hb dX0_gainers_49 hl (k := 3) rfl (by rw [ev6]; rfl) (by decide) rfl (fun ls hl => ?_)
      refine lv_goto (tgt := 5) hx hb dX0_gainers_52 (by decide) ?_
      exact hk_5 x1 v5 v6 τ2 _ _ _ h hP hD hS (lv_sub hl [2, 3, 1, 0] rfl)
set_option maxHeartbeats 4000000 in
set_option maxRecDepth 100000 in
theorem t_X0_gainers_5 (C0 : zCx p s m meth c args RX0 cX0_gainers 5 (some .int) vs_X0_gainers) (hK : va_K (dC, dI) vwCl (x_ty cI cJ) s) (N : Nat) {Q : Int32 → zSt → Prop} : ∀ (f : Nat) (x1 : Int64) (x3 : Int32) (x4 : Int32) (σ : zSt) (H : Heap) (locs : List Loc) (ls : Array Slot), w_X0_gainers_5 N  Q f x1 x3 x4 σ → va_P (dC, dI) vwCl (x_W ad cI cJ σ) H → va_D (zAW x_n ad s.heap.size) (x_W ad cI cJ σ) → va_S (zAW x_n ad s.heap.size) s.heap H locs → lv_has ls 5 [(0, .ref (ad 10)), (1, .long x1), (3, .int x3), (4, .int x4)] → W p l e rm_X0_gainers s m args below meth c H locs 0 0 (MQ below (zQi (dC, dI) (x_ty cI cJ) (x_W ad cI cJ) (zAW x_n ad s.heap.size) Q) args s 0 0 (zAW x_n ad s.heap.size)) (F0 m 5 ls []) := by
  intro f
  induction f with
  | zero => intro x1 x3 x4 σ H locs ls h; exact h.elim
  | succ f ih =>
    intro x1 x3 x4 σ H locs ls h hP hD hS hl
    exact tb_X0_gainers_5 C0 hK N  (k_5 := w_X0_gainers_5 N  Q f) ih x1 x3 x4 σ H locs ls h hP hD hS hl
set_option maxHeartbeats 4000000 in
set_option maxRecDepth 100000 in
theorem t_X0_gainers_0 (C0 : zCx p s m meth c args RX0 cX0_gainers 5 (some .int) vs_X0_gainers) (hK : va_K (dC, dI) vwCl (x_ty cI cJ) s) (N : Nat) {Q : Int32 → zSt → Prop} : ∀ (x1 : Int64) (σ : zSt) (H : Heap) (locs : List Loc) (ls : Array Slot), w_X0_gainers N x1 σ Q → va_P (dC, dI) vwCl (x_W ad cI cJ σ) H → va_D (zAW x_n ad s.heap.size) (x_W ad cI cJ σ) → va_S (zAW x_n ad s.heap.size) s.heap H locs → lv_has ls 5 [(0, .ref (ad 10)), (1, .long x1)] → W p l e rm_X0_gainers s m args below meth c H locs 0 0 (MQ below (zQi (dC, dI) (x_ty cI cJ) (x_W ad cI cJ) (zAW x_n ad s.heap.size) Q) args s 0 0 (zAW x_n ad s.heap.size)) (F0 m 0 ls []) := by
  obtain ⟨hx, hb, hml, hr, hown, hts, hlocks⟩ := id C0
  intro x1 σ H locs ls h hP hD hS hl
  unfold w_X0_gainers at h
  refine lv_iconst (v := (0 : Int32)) hx hb dX0_gainers_0 (by decide) ?_
  refine lv_istore_n (lv' := [(3, .int (0 : Int32)), (0, .ref (ad 10)), (1, .long x1)]) hx hb dX0_gainers_1 rfl hl (by decide) rfl (fun ls hl => ?_)
  refine lv_iconst (v := (0 : Int32)) hx hb dX0_gainers_2 (by decide) ?_
  refine lv_istore (lv' := [(4, .int (0 : Int32)), (3, .int (0 : Int32)), (0, .ref (ad 10)), (1, .long x1)]) hx hb dX0_gainers_3 hl (by decide) rfl (fun ls hl => ?_)
  exact t_X0_gainers_5 C0 hK N  N x1 (0 : Int32) (0 : Int32) σ _ _ _ h hP hD hS (lv_sub hl [2, 3, 1, 0] rfl)
set_option maxHeartbeats 4000000 in
set_option maxRecDepth 100000 in
theorem c_X0_gainers (N : Nat) (l : Launch) (dC : Nat → ClassId) (dI : Nat → Nat → Nat) (ad : Nat → Nat) (cI cJ : ClassId) (sz : Nat) (σ : zSt) (x1 : Int64) (Q : Int32 → zSt → Prop) (h : w_X0_gainers N x1 σ Q) : Met l yX0_gainers vs_X0_gainers rm_X0_gainers (va_Pc [.ref (ad 10), .long x1] (zPc (dC, dI) (x_ty cI cJ) (x_W ad cI cJ) sz σ)) (zQi (dC, dI) (x_ty cI cJ) (x_W ad cI cJ) (zAW x_n ad sz) Q) 0 0 (zAW x_n ad sz) := by
  refine Met.ofW (cc := cX0_gainers) (maxL := 5) (ret := (some .int)) (by decide) rfl ?_
  intro p e s m args below meth c s₁ B hml hv
  obtain ⟨rfl, hsz, hP, hK, hD0⟩ := hv
  subst hsz
  have C0 : zCx p s m meth c _ RX0 cX0_gainers 5 (some .int) vs_X0_gainers := ⟨B.exec, B.bytes, hml, B.returns, findClass_of_methodNamed B.named, atoms_spec (ws := vs_X0_gainers) B.pre, B.notSynchronized⟩
  have hD := x_D0 (n0 := s.heap.size) hD0
  have hl := lv_entry ([.ref (ad 10), .long x1]) (n := 5) (Nat.le_of_ble_eq_true rfl)
  rw [lg_entry_eq]
  generalize (lg_sl ([.ref (ad 10), .long x1]) ++ List.replicate (5 - (lg_sl ([.ref (ad 10), .long x1])).length) Slot.unset).toArray = ls at hl ⊢
  exact t_X0_gainers_0 C0 hK N x1 σ _ _ ls h hP hD va_S.rf hl
theorem k_X0_gainers (N : Nat) {R : Room} {H : Heap} {locs : List Loc} {cells slots : Nat} {Q2 : State → Prop} {cc : ByteArray} {nL pc index : Nat} {ls : Array Slot} {rest : List Value} {own : String} {c0 : Cond} {σ : zSt} {x1 : Int64} {Q : Int32 → zSt → Prop} (S0 : CallFix p m c cc nL s args (c0 :: zT) own) (hml : Cond.methodLink own index yX0_gainers ∈ zT) (hR : rm_X0_gainers.frames + 1 ≤ R.frames ∧ 8 + (5 + 11) + rm_X0_gainers.locals ≤ R.locals) (h : w_X0_gainers N x1 σ Q) (hK : va_K (dC, dI) vwCl (x_ty cI cJ) s) (hP : va_P (dC, dI) vwCl (x_W ad cI cJ σ) H) (hD : va_D (zAW x_n ad s.heap.size) (x_W ad cI cJ σ)) (hS : va_S (zAW x_n ad s.heap.size) s.heap H locs) (hsz : ls.size = nL) (hW : (rest.map fun v => v.category).sum ≤ 8) (hcs : cells ≤ R.cells ∧ slots ≤ R.slots) (hdg : decode cc pc = .ok (.invokevirtual index, 3)) (kk : ∀ (r : Int32) (τ : zSt) (H1 : Heap) (locs1 : List Loc), Q r τ → va_P (dC, dI) vwCl (x_W ad cI cJ τ) H1 → va_D (zAW x_n ad s.heap.size) (x_W ad cI cJ τ) → va_S (zAW x_n ad s.heap.size) s.heap H1 locs1 → W p l e R s m args below meth c H1 locs1 cells slots Q2 (F0 m (pc + 3) ls (.int r :: rest))) : W p l e R s m args below meth c H locs cells slots Q2 (F0 m pc ls (.long x1 :: .ref (ad 10) :: rest)) :=
  zcv_i (T := TX0) (N' := 9) (k := 10) (ci := 0) (fs := x_f10 ad σ) [.long x1] S0 (c_X0_gainers N l dC dI ad cI cJ H.size σ x1 Q h) (cw_X0_gainers S0.2.2.2.2 hml rfl rfl hR) rfl rfl hK hP hD hS rfl hsz hW rfl hcs hdg kk
end q08
section q08
def b_X0_leastSet_3 (N : Nat) (k_3 : Int32 → Int64 → Int64 → Int32 → zSt → Prop) (Q : Int32 → zSt → Prop) (x1 : Int32) (x2 : Int64) (x4 : Int64) (x6 : Int32) (σ : zSt) : Prop :=
  ((32 : Int32) ≤ x6 → Q (0 : Int32) σ) ∧ (¬ (32 : Int32) ≤ x6 → (x1 < x6 → Q (0 : Int32) σ) ∧ (¬ x1 < x6 → ((x6 &&& (x1 ^^^ (-1 : Int32))) = 0 → (vp_in x6 32) ∧ (((lg_cmp (x2 &&& ((σ.2.2.2 7 x6.toNatClampNeg) ^^^ (-1 : Int64))) (0 : Int64)) = 0 → (vp_in x6 32) ∧ (((lg_cmp (x4 &&& ((σ.2.2.2 8 x6.toNatClampNeg) ^^^ (-1 : Int64))) (0 : Int64)) = 0 → Q x6 σ) ∧ (¬ (lg_cmp (x4 &&& ((σ.2.2.2 8 x6.toNatClampNeg) ^^^ (-1 : Int64))) (0 : Int64)) = 0 → ∀ v3 : Int32, v3 = x6 + (1 : Int32) → k_3 x1 x2 x4 v3 σ))) ∧ (¬ (lg_cmp (x2 &&& ((σ.2.2.2 7 x6.toNatClampNeg) ^^^ (-1 : Int64))) (0 : Int64)) = 0 → ∀ v2 : Int32, v2 = x6 + (1 : Int32) → k_3 x1 x2 x4 v2 σ))) ∧ (¬ (x6 &&& (x1 ^^^ (-1 : Int32))) = 0 → ∀ v1 : Int32, v1 = x6 + (1 : Int32) → k_3 x1 x2 x4 v1 σ)))
def w_X0_leastSet_3 (N : Nat) (Q : Int32 → zSt → Prop) : Nat → Int32 → Int64 → Int64 → Int32 → zSt → Prop
  | 0 => fun _ _ _ _ _ => False
  | f + 1 => b_X0_leastSet_3 N (w_X0_leastSet_3 N  Q f) Q
def w_X0_leastSet (N : Nat) (x1 : Int32) (x2 : Int64) (x4 : Int64) (σ : zSt) (Q : Int32 → zSt → Prop) : Prop :=
  w_X0_leastSet_3 N Q N x1 x2 x4 (1 : Int32) σ
variable {p : Program} {l : Launch} {e : Env} {s : State} {m : MethodId} {args : Array Value} {below : List Frame} {meth : Method} {c : Code} {dC : Nat → ClassId} {dI : Nat → Nat → Nat} {ad : Nat → Nat} {cI cJ : ClassId}
set_option maxHeartbeats 4000000 in
set_option maxRecDepth 100000 in
theorem tb_X0_leastSet_3 (C0 : zCx p s m meth c args RX0 cX0_leastSet 7 (some .int) vs_X0_leastSet) (hK : va_K (dC, dI) vwCl (x_ty cI cJ) s) (N : Nat) {Q : Int32 → zSt → Prop} {k_3 : Int32 → Int64 → Int64 → Int32 → zSt → Prop} (hk_3 : ∀ (x1 : Int32) (x2 : Int64) (x4 : Int64) (x6 : Int32) (σ : zSt) (H : Heap) (locs : List Loc) (ls : Array Slot), k_3 x1 x2 x4 x6 σ → va_P (dC, dI) vwCl (x_W ad cI cJ σ) H → va_D (zAW x_n ad s.heap.size) (x_W ad cI cJ σ) → va_S (zAW x_n ad s.heap.size) s.heap H locs → lv_has ls 7 [(0, .ref (ad 10)), (1, .int x1), (2, .long x2), (4, .long x4), (6, .int x6)] → W p l e rm_X0_leastSet s m args below meth c H locs 0 0 (MQ below (zQi (dC, dI) (x_ty cI cJ) (x_W ad cI cJ) (zAW x_n ad s.heap.size) Q) args s 0 0 (zAW x_n ad s.heap.size)) (F0 m 3 ls [])) : ∀ (x1 : Int32) (x2 : Int64) (x4 : Int64) (x6 : Int32) (σ : zSt) (H : Heap) (locs : List Loc) (ls : Array Slot), b_X0_leastSet_3 N k_3 Q x1 x2 x4 x6 σ → va_P (dC, dI) vwCl (x_W ad cI cJ σ) H → va_D (zAW x_n ad s.heap.size) (x_W ad cI cJ σ) → va_S (zAW x_n ad s.heap.size) s.heap H locs → lv_has ls 7 [(0, .ref (ad 10)), (1, .int x1), (2, .long x2), (4, .long x4), (6, .int x6)] → W p l e rm_X0_leastSet s m args below meth c H locs 0 0 (MQ below (zQi (dC, dI) (x_ty cI cJ) (x_W ad cI cJ) (zAW x_n ad s.heap.size) Q) args s 0 0 (zAW x_n ad s.heap.size)) (F0 m 3 ls []) := by
  obtain ⟨hx, hb, hml, hr, hown, hts, hlocks⟩ := id C0
  intro x1 x2 x4 x6 σ H locs ls h hP hD hS hl
  unfold b_X0_leastSet_3 at h
  refine lv_iload hx hb dX0_leastSet_3 (lv_at hl 4 rfl) ?_
  refine lv_bipush (v := (32 : Int32)) hx hb dX0_leastSet_5 (by decide) ?_
  refine lv_icmp_ge (tgt := 71) hx hb dX0_leastSet_7 (by decide) (fun hc => ?_) (fun hc => ?_)
  · have h := h.1 hc
    refine lv_iconst (v := (0 : Int32)) hx hb dX0_leastSet_71 (by decide) ?_
    exact zret_i hx hb hr hlocks hK hP hD hS h dX0_leastSet_72
  · have h := h.2 hc
    refine lv_iload hx hb dX0_leastSet_10 (lv_at hl 4 rfl) ?_
    refine lv_iload_n hx hb dX0_leastSet_12 rfl (lv_at hl 1 rfl) ?_
    refine lv_icmp_gt (tgt := 71) hx hb dX0_leastSet_13 (by decide) (fun hc => ?_) (fun hc => ?_)
    · have h := h.1 hc
      refine lv_iconst (v := (0 : Int32)) hx hb dX0_leastSet_71 (by decide) ?_
      exact zret_i hx hb hr hlocks hK hP hD hS h dX0_leastSet_72
    · have h := h.2 hc
      refine lv_iload hx hb dX0_leastSet_16 (lv_at hl 4 rfl) ?_
      refine lv_iload_n hx hb dX0_leastSet_18 rfl (lv_at hl 1 rfl) ?_
      refine lv_iconst (v := (-1 : Int32)) hx hb dX0_leastSet_19 (by decide) ?_
      refine lv_ixor hx hb dX0_leastSet_20 ?_
      refine lv_iand hx hb dX0_leastSet_21 ?_
      refine lv_if_ne (tgt := 65) hx hb dX0_leastSet_22 (by decide) (fun hc => ?_) (fun hc => ?_)
      · have h := h.2 hc
        obtain ⟨v1, ev1⟩ : ∃ z : Int32, z = x6 + (1 : Int32) := ⟨_, rfl⟩
        have h := h v1 ev1
        refine lv_iinc (v := v1) (lv' := [(6, .int v1), (0, .ref (ad 10)), (1, .int x1), (2, .long x2), (4, .long x4)]) hx hb dX0_leastSet_65 hl (k := 4) rfl (by rw [ev1]; rfl) (by decide) rfl (fun ls hl => ?_)
        refine lv_goto (tgt := 3) hx hb dX0_leastSet_68 (by decide) ?_
        exact hk_3 x1 x2 x4 v1 σ _ _ _ h hP hD hS (lv_sub hl [1, 2, 3, 4, 0] rfl)
      · have h := h.1 hc
        refine lv_lload_n hx hb dX0_leastSet_25 rfl (lv_at hl 2 rfl) ?_
        refine lv_aload_n hx hb dX0_leastSet_26 rfl (lv_at hl 0 rfl) ?_
        refine xg_10_3 hx hb hts hown hK hP mw_223 dX0_leastSet_27 ?_
        refine lv_iload hx hb dX0_leastSet_30 (lv_at hl 4 rfl) ?_
        refine xa_52 hx hb hK hP h.1 rfl dX0_leastSet_32 ?_
        have h := h.2
        refine lv_ldc2 (v := (-1 : Int64)) hx hb hown (hts _ (List.mem_cons_of_mem _ mw_601)) dX0_leastSet_33 ?_
        refine lv_lxor hx hb dX0_leastSet_36 ?_
        refine lv_land hx hb dX0_leastSet_37 ?_
        refine lv_lconst (v := (0 : Int64)) hx hb dX0_leastSet_38 (by decide) ?_
        refine W.lcmp hx hb dX0_leastSet_39 ?_
        refine lv_if_ne (tgt := 65) hx hb dX0_leastSet_40 (by decide) (fun hc => ?_) (fun hc => ?_)
        · have h := h.2 hc
          obtain ⟨v2, ev2⟩ : ∃ z : Int32, z = x6 + (1 : Int32) := ⟨_, rfl⟩
          have h := h v2 ev2
          refine lv_iinc (v := v2) (lv' := [(6, .int v2), (0, .ref (ad 10)), (1, .int x1), (2, .long x2), (4, .long x4)]) hx hb dX0_leastSet_65 hl (k := 4) rfl (by rw [ev2]; rfl) (by decide) rfl (fun ls hl => ?_)
          refine lv_goto (tgt := 3) hx hb dX0_leastSet_68 (by decide) ?_
          exact hk_3 x1 x2 x4 v2 σ _ _ _ h hP hD hS (lv_sub hl [1, 2, 3, 4, 0] rfl)
        · have h := h.1 hc
          refine lv_lload hx hb dX0_leastSet_43 (lv_at hl 3 rfl) ?_
          refine lv_aload_n hx hb dX0_leastSet_45 rfl (lv_at hl 0 rfl) ?_
          refine xg_10_4 hx hb hts hown hK hP mw_224 dX0_leastSet_46 ?_
          refine lv_iload hx hb dX0_leastSet_49 (lv_at hl 4 rfl) ?_
          refine xa_53 hx hb hK hP h.1 rfl dX0_leastSet_51 ?_
          have h := h.2
          refine lv_ldc2 (v := (-1 : Int64)) hx hb hown (hts _ (List.mem_cons_of_mem _ mw_601)) dX0_leastSet_52 ?_
          refine lv_lxor hx hb dX0_leastSet_55 ?_
          refine lv_land hx hb dX0_leastSet_56 ?_
          refine lv_lconst (v := (0 : Int64)) hx hb dX0_leastSet_57 (by decide) ?_
          refine W.lcmp hx hb dX0_leastSet_58 ?_
          refine lv_if_ne (tgt := 65) hx hb dX0_leastSet_59 (by decide) (fun hc => ?_) (fun hc => ?_)
          · have h := h.2 hc
            obtain ⟨v3, ev3⟩ : ∃ z : Int32, z = x6 + (1 : Int32) := ⟨_, rfl⟩
            have h := h v3 ev3
            refine lv_iinc (v := v3) (lv' := [(6, .int v3), (0, .ref (ad 10)), (1, .int x1), (2, .long x2), (4, .long x4)]) hx hb dX0_leastSet_65 hl (k := 4) rfl (by rw [ev3]; rfl) (by decide) rfl (fun ls hl => ?_)
            refine lv_goto (tgt := 3) hx hb dX0_leastSet_68 (by decide) ?_
            exact hk_3 x1 x2 x4 v3 σ _ _ _ h hP hD hS (lv_sub hl [1, 2, 3, 4, 0] rfl)
          · have h := h.1 hc
            refine lv_iload hx hb dX0_leastSet_62 (lv_at hl 4 rfl) ?_
            exact zret_i hx hb hr hlocks hK hP hD hS h dX0_leastSet_64
set_option maxHeartbeats 4000000 in
set_option maxRecDepth 100000 in
theorem t_X0_leastSet_3 (C0 : zCx p s m meth c args RX0 cX0_leastSet 7 (some .int) vs_X0_leastSet) (hK : va_K (dC, dI) vwCl (x_ty cI cJ) s) (N : Nat) {Q : Int32 → zSt → Prop} : ∀ (f : Nat) (x1 : Int32) (x2 : Int64) (x4 : Int64) (x6 : Int32) (σ : zSt) (H : Heap) (locs : List Loc) (ls : Array Slot), w_X0_leastSet_3 N  Q f x1 x2 x4 x6 σ → va_P (dC, dI) vwCl (x_W ad cI cJ σ) H → va_D (zAW x_n ad s.heap.size) (x_W ad cI cJ σ) → va_S (zAW x_n ad s.heap.size) s.heap H locs → lv_has ls 7 [(0, .ref (ad 10)), (1, .int x1), (2, .long x2), (4, .long x4), (6, .int x6)] → W p l e rm_X0_leastSet s m args below meth c H locs 0 0 (MQ below (zQi (dC, dI) (x_ty cI cJ) (x_W ad cI cJ) (zAW x_n ad s.heap.size) Q) args s 0 0 (zAW x_n ad s.heap.size)) (F0 m 3 ls []) := by
  intro f
  induction f with
  | zero => intro x1 x2 x4 x6 σ H locs ls h; exact h.elim
  | succ f ih =>
    intro x1 x2 x4 x6 σ H locs ls h hP hD hS hl
    exact tb_X0_leastSet_3 C0 hK N  (k_3 := w_X0_leastSet_3 N  Q f) ih x1 x2 x4 x6 σ H locs ls h hP hD hS hl
set_option maxHeartbeats 4000000 in
set_option maxRecDepth 100000 in
theorem t_X0_leastSet_0 (C0 : zCx p s m meth c args RX0 cX0_leastSet 7 (some .int) vs_X0_leastSet) (hK : va_K (dC, dI) vwCl (x_ty cI cJ) s) (N : Nat) {Q : Int32 → zSt → Prop} : ∀ (x1 : Int32) (x2 : Int64) (x4 : Int64) (σ : zSt) (H : Heap) (locs : List Loc) (ls : Array Slot), w_X0_leastSet N x1 x2 x4 σ Q → va_P (dC, dI) vwCl (x_W ad cI cJ σ) H → va_D (zAW x_n ad s.heap.size) (x_W ad cI cJ σ) → va_S (zAW x_n ad s.heap.size) s.heap H locs → lv_has ls 7 [(0, .ref (ad 10)), (1, .int x1), (2, .long x2), (4, .long x4)] → W p l e rm_X0_leastSet s m args below meth c H locs 0 0 (MQ below (zQi (dC, dI) (x_ty cI cJ) (x_W ad cI cJ) (zAW x_n ad s.heap.size) Q) args s 0 0 (zAW x_n ad s.heap.size)) (F0 m 0 ls []) := by
  obtain ⟨hx, hb, hml, hr, hown, hts, hlocks⟩ := id C0
  intro x1 x2 x4 σ H locs ls h hP hD hS hl
  unfold w_X0_leastSet at h
  refine lv_iconst (v := (1 : Int32)) hx hb dX0_leastSet_0 (by decide) ?_
  refine lv_istore (lv' := [(6, .int (1 : Int32)), (0, .ref (ad 10)), (1, .int x1), (2, .long x2), (4, .long x4)]) hx hb dX0_leastSet_1 hl (by decide) rfl (fun ls hl => ?_)
  exact t_X0_leastSet_3 C0 hK N  N x1 x2 x4 (1 : Int32) σ _ _ _ h hP hD hS (lv_sub hl [1, 2, 3, 4, 0] rfl)
set_option maxHeartbeats 4000000 in
set_option maxRecDepth 100000 in
theorem c_X0_leastSet (N : Nat) (l : Launch) (dC : Nat → ClassId) (dI : Nat → Nat → Nat) (ad : Nat → Nat) (cI cJ : ClassId) (sz : Nat) (σ : zSt) (x1 : Int32) (x2 : Int64) (x4 : Int64) (Q : Int32 → zSt → Prop) (h : w_X0_leastSet N x1 x2 x4 σ Q) : Met l yX0_leastSet vs_X0_leastSet rm_X0_leastSet (va_Pc [.ref (ad 10), .int x1, .long x2, .long x4] (zPc (dC, dI) (x_ty cI cJ) (x_W ad cI cJ) sz σ)) (zQi (dC, dI) (x_ty cI cJ) (x_W ad cI cJ) (zAW x_n ad sz) Q) 0 0 (zAW x_n ad sz) := by
  refine Met.ofW (cc := cX0_leastSet) (maxL := 7) (ret := (some .int)) (by decide) rfl ?_
  intro p e s m args below meth c s₁ B hml hv
  obtain ⟨rfl, hsz, hP, hK, hD0⟩ := hv
  subst hsz
  have C0 : zCx p s m meth c _ RX0 cX0_leastSet 7 (some .int) vs_X0_leastSet := ⟨B.exec, B.bytes, hml, B.returns, findClass_of_methodNamed B.named, atoms_spec (ws := vs_X0_leastSet) B.pre, B.notSynchronized⟩
  have hD := x_D0 (n0 := s.heap.size) hD0
  have hl := lv_entry ([.ref (ad 10), .int x1, .long x2, .long x4]) (n := 7) (Nat.le_of_ble_eq_true rfl)
  rw [lg_entry_eq]
  generalize (lg_sl ([.ref (ad 10), .int x1, .long x2, .long x4]) ++ List.replicate (7 - (lg_sl ([.ref (ad 10), .int x1, .long x2, .long x4])).length) Slot.unset).toArray = ls at hl ⊢
  exact t_X0_leastSet_0 C0 hK N x1 x2 x4 σ _ _ ls h hP hD va_S.rf hl
theorem k_X0_leastSet (N : Nat) {R : Room} {H : Heap} {locs : List Loc} {cells slots : Nat} {Q2 : State → Prop} {cc : ByteArray} {nL pc index : Nat} {ls : Array Slot} {rest : List Value} {own : String} {c0 : Cond} {σ : zSt} {x1 : Int32} {x2 : Int64} {x4 : Int64} {Q : Int32 → zSt → Prop} (S0 : CallFix p m c cc nL s args (c0 :: zT) own) (hml : Cond.methodLink own index yX0_leastSet ∈ zT) (hR : rm_X0_leastSet.frames + 1 ≤ R.frames ∧ 8 + (7 + 11) + rm_X0_leastSet.locals ≤ R.locals) (h : w_X0_leastSet N x1 x2 x4 σ Q) (hK : va_K (dC, dI) vwCl (x_ty cI cJ) s) (hP : va_P (dC, dI) vwCl (x_W ad cI cJ σ) H) (hD : va_D (zAW x_n ad s.heap.size) (x_W ad cI cJ σ)) (hS : va_S (zAW x_n ad s.heap.size) s.heap H locs) (hsz : ls.size = nL) (hW : (rest.map fun v => v.category).sum ≤ 8) (hcs : cells ≤ R.cells ∧ slots ≤ R.slots) (hdg : decode cc pc = .ok (.invokevirtual index, 3)) (kk : ∀ (r : Int32) (τ : zSt) (H1 : Heap) (locs1 : List Loc), Q r τ → va_P (dC, dI) vwCl (x_W ad cI cJ τ) H1 → va_D (zAW x_n ad s.heap.size) (x_W ad cI cJ τ) → va_S (zAW x_n ad s.heap.size) s.heap H1 locs1 → W p l e R s m args below meth c H1 locs1 cells slots Q2 (F0 m (pc + 3) ls (.int r :: rest))) : W p l e R s m args below meth c H locs cells slots Q2 (F0 m pc ls (.long x4 :: .long x2 :: .int x1 :: .ref (ad 10) :: rest)) :=
  zcv_i (T := TX0) (N' := 9) (k := 10) (ci := 0) (fs := x_f10 ad σ) [.int x1, .long x2, .long x4] S0 (c_X0_leastSet N l dC dI ad cI cJ H.size σ x1 x2 x4 Q h) (cw_X0_leastSet S0.2.2.2.2 hml rfl rfl hR) rfl rfl hK hP hD hS rfl hsz hW rfl hcs hdg kk
end q08
