section q13
end q13
section q13
def b_X7_number_5 (N : Nat) (k_5 : Int32 → Int64 → Int32 → zSt → Prop) (Q : Int64 → zSt → Prop) (x2 : Int32) (x3 : Int64) (x5 : Int32) (σ : zSt) : Prop :=
  (x2 ≤ x5 → Q x3 σ) ∧ (¬ x2 ≤ x5 → ((σ.1 0) ≤ x5 → Q x3 σ) ∧ (¬ (σ.1 0) ≤ x5 → ((800 : Int32) ≤ x5 → Q x3 σ) ∧ (¬ (800 : Int32) ≤ x5 → (vp_in x5 800) ∧ (∀ v1 : Int64, v1 = (x3 * (256 : Int64)) + (σ.2.2.1 2 x5.toNatClampNeg).toInt64 → ∀ v2 : Int32, v2 = x5 + (1 : Int32) → k_5 x2 v1 v2 σ))))
def w_X7_number_5 (N : Nat) (Q : Int64 → zSt → Prop) : Nat → Int32 → Int64 → Int32 → zSt → Prop
  | 0 => fun _ _ _ _ => False
  | f + 1 => b_X7_number_5 N (w_X7_number_5 N  Q f) Q
def w_X7_number (N : Nat) (x1 : Int32) (x2 : Int32) (σ : zSt) (Q : Int64 → zSt → Prop) : Prop :=
  w_X7_number_5 N Q N x2 (0 : Int64) x1 σ
variable {p : Program} {l : Launch} {e : Env} {s : State} {m : MethodId} {args : Array Value} {below : List Frame} {meth : Method} {c : Code} {dC : Nat → ClassId} {dI : Nat → Nat → Nat} {ad : Nat → Nat} {cI cJ : ClassId}
set_option maxHeartbeats 4000000 in
set_option maxRecDepth 100000 in
theorem tb_X7_number_5 (C0 : zCx p s m meth c args RX7 cX7_number 6 (some .long) vs_X7_number) (hK : va_K (dC, dI) vwCl (x_ty cI cJ) s) (N : Nat) {Q : Int64 → zSt → Prop} {k_5 : Int32 → Int64 → Int32 → zSt → Prop} (hk_5 : ∀ (x2 : Int32) (x3 : Int64) (x5 : Int32) (σ : zSt) (H : Heap) (locs : List Loc) (ls : Array Slot), k_5 x2 x3 x5 σ → va_P (dC, dI) vwCl (x_W ad cI cJ σ) H → va_D (zAW x_n ad s.heap.size) (x_W ad cI cJ σ) → va_S (zAW x_n ad s.heap.size) s.heap H locs → lv_has ls 6 [(0, .ref (ad 1)), (2, .int x2), (3, .long x3), (5, .int x5)] → W p l e rm_X7_number s m args below meth c H locs 0 0 (MQ below (zQl (dC, dI) (x_ty cI cJ) (x_W ad cI cJ) (zAW x_n ad s.heap.size) Q) args s 0 0 (zAW x_n ad s.heap.size)) (F0 m 5 ls [])) : ∀ (x2 : Int32) (x3 : Int64) (x5 : Int32) (σ : zSt) (H : Heap) (locs : List Loc) (ls : Array Slot), b_X7_number_5 N k_5 Q x2 x3 x5 σ → va_P (dC, dI) vwCl (x_W ad cI cJ σ) H → va_D (zAW x_n ad s.heap.size) (x_W ad cI cJ σ) → va_S (zAW x_n ad s.heap.size) s.heap H locs → lv_has ls 6 [(0, .ref (ad 1)), (2, .int x2), (3, .long x3), (5, .int x5)] → W p l e rm_X7_number s m args below meth c H locs 0 0 (MQ below (zQl (dC, dI) (x_ty cI cJ) (x_W ad cI cJ) (zAW x_n ad s.heap.size) Q) args s 0 0 (zAW x_n ad s.heap.size)) (F0 m 5 ls []) := by
  obtain ⟨hx, hb, hml, hr, hown, hts, hlocks⟩ := id C0
  intro x2 x3 x5 σ H locs ls h hP hD hS hl
  unfold b_X7_number_5 at h
  refine lv_iload hx hb dX7_number_5 (lv_at hl 3 rfl) ?_
  refine lv_iload_n hx hb dX7_number_7 rfl (lv_at hl 1 rfl) ?_
  refine lv_icmp_ge (tgt := 51) hx hb dX7_number_8 (by decide) (fun hc => ?_) (fun hc => ?_)
  · have h := h.1 hc
    refine lv_lload_n hx hb dX7_number_51 rfl (lv_at hl 2 rfl) ?_
    exact zret_l hx hb hr hlocks hK hP hD hS h dX7_number_52
  · have h := h.2 hc
    refine lv_iload hx hb dX7_number_11 (lv_at hl 3 rfl) ?_
    refine lv_aload_n hx hb dX7_number_13 rfl (lv_at hl 0 rfl) ?_
    refine xg_1_1 hx hb hts hown hK hP mw_37 dX7_number_14 ?_
    refine lv_icmp_ge (tgt := 51) hx hb dX7_number_17 (by decide) (fun hc => ?_) (fun hc => ?_)
    · have h := h.1 hc
      refine lv_lload_n hx hb dX7_number_51 rfl (lv_at hl 2 rfl) ?_
      exact zret_l hx hb hr hlocks hK hP hD hS h dX7_number_52
    · have h := h.2 hc
      refine lv_iload hx hb dX7_number_20 (lv_at hl 3 rfl) ?_
      refine lv_aload_n hx hb dX7_number_22 rfl (lv_at hl 0 rfl) ?_
      refine xg_1_0 hx hb hts hown hK hP mw_35 dX7_number_23 ?_
      refine xl_19 hx hb hK hP dX7_number_26 ?_
      refine lv_icmp_ge (tgt := 51) hx hb dX7_number_27 (by decide) (fun hc => ?_) (fun hc => ?_)
      · have h := h.1 hc
        refine lv_lload_n hx hb dX7_number_51 rfl (lv_at hl 2 rfl) ?_
        exact zret_l hx hb hr hlocks hK hP hD hS h dX7_number_52
      · have h := h.2 hc
        refine lv_lload_n hx hb dX7_number_30 rfl (lv_at hl 2 rfl) ?_
        refine lv_ldc2 (v := (256 : Int64)) hx hb hown (hts _ (List.mem_cons_of_mem _ mw_811)) dX7_number_31 ?_
        refine lv_lmul hx hb dX7_number_34 ?_
        refine lv_aload_n hx hb dX7_number_35 rfl (lv_at hl 0 rfl) ?_
        refine xg_1_0 hx hb hts hown hK hP mw_35 dX7_number_36 ?_
        refine lv_iload hx hb dX7_number_39 (lv_at hl 3 rfl) ?_
        refine xa_19 hx hb hK hP h.1 rfl dX7_number_41 ?_
        have h := h.2
        refine lv_i2l hx hb dX7_number_42 rfl ?_
        refine lv_ladd hx hb dX7_number_43 ?_
        refine lv_topl (fun v1 ev1 => ?_)
        have h := h v1 ev1
        refine lv_lstore_n (lv' := [(3, .long v1), (0, .ref (ad 1)), (2, .int x2), (5, .int x5)]) hx hb dX7_number_44 rfl hl (by decide) rfl (fun ls hl => ?_)
        obtain ⟨v2, ev2⟩ : ∃ z : Int32, z = x5 + (1 : Int32) := ⟨_, rfl⟩
        have h := h v2 ev2
        refine lv_iinc (v := v2) (lv' := [(5, .int v2), (3, .long v1), (0, .ref (ad 1)), (2, .int x2)]) hx hb dX7_number_45 hl (k := 3) rfl (by rw [ev2]; rfl) (by decide) rfl (fun ls hl => ?_)
        refine lv_goto (tgt := 5) hx hb dX7_number_48 (by decide) ?_
        exact hk_5 x2 v1 v2 σ _ _ _ h hP hD hS (lv_sub hl [2, 3, 1, 0] rfl)
set_option maxHeartbeats 4000000 in
set_option maxRecDepth 100000 in
theorem t_X7_number_5 (C0 : zCx p s m meth c args RX7 cX7_number 6 (some .long) vs_X7_number) (hK : va_K (dC, dI) vwCl (x_ty cI cJ) s) (N : Nat) {Q : Int64 → zSt → Prop} : ∀ (f : Nat) (x2 : Int32) (x3 : Int64) (x5 : Int32) (σ : zSt) (H : Heap) (locs : List Loc) (ls : Array Slot), w_X7_number_5 N  Q f x2 x3 x5 σ → va_P (dC, dI) vwCl (x_W ad cI cJ σ) H → va_D (zAW x_n ad s.heap.size) (x_W ad cI cJ σ) → va_S (zAW x_n ad s.heap.size) s.heap H locs → lv_has ls 6 [(0, .ref (ad 1)), (2, .int x2), (3, .long x3), (5, .int x5)] → W p l e rm_X7_number s m args below meth c H locs 0 0 (MQ below (zQl (dC, dI) (x_ty cI cJ) (x_W ad cI cJ) (zAW x_n ad s.heap.size) Q) args s 0 0 (zAW x_n ad s.heap.size)) (F0 m 5 ls []) := by
  intro f
  induction f with
  | zero => intro x2 x3 x5 σ H locs ls h; exact h.elim
  | succ f ih =>
    intro x2 x3 x5 σ H locs ls h hP hD hS hl
    exact tb_X7_number_5 C0 hK N  (k_5 := w_X7_number_5 N  Q f) ih x2 x3 x5 σ H locs ls h hP hD hS hl
set_option maxHeartbeats 4000000 in
set_option maxRecDepth 100000 in
theorem t_X7_number_0 (C0 : zCx p s m meth c args RX7 cX7_number 6 (some .long) vs_X7_number) (hK : va_K (dC, dI) vwCl (x_ty cI cJ) s) (N : Nat) {Q : Int64 → zSt → Prop} : ∀ (x1 : Int32) (x2 : Int32) (σ : zSt) (H : Heap) (locs : List Loc) (ls : Array Slot), w_X7_number N x1 x2 σ Q → va_P (dC, dI) vwCl (x_W ad cI cJ σ) H → va_D (zAW x_n ad s.heap.size) (x_W ad cI cJ σ) → va_S (zAW x_n ad s.heap.size) s.heap H locs → lv_has ls 6 [(0, .ref (ad 1)), (1, .int x1), (2, .int x2)] → W p l e rm_X7_number s m args below meth c H locs 0 0 (MQ below (zQl (dC, dI) (x_ty cI cJ) (x_W ad cI cJ) (zAW x_n ad s.heap.size) Q) args s 0 0 (zAW x_n ad s.heap.size)) (F0 m 0 ls []) := by
  obtain ⟨hx, hb, hml, hr, hown, hts, hlocks⟩ := id C0
  intro x1 x2 σ H locs ls h hP hD hS hl
  unfold w_X7_number at h
  refine lv_lconst (v := (0 : Int64)) hx hb dX7_number_0 (by decide) ?_
  refine lv_lstore_n (lv' := [(3, .long (0 : Int64)), (0, .ref (ad 1)), (1, .int x1), (2, .int x2)]) hx hb dX7_number_1 rfl hl (by decide) rfl (fun ls hl => ?_)
  refine lv_iload_n hx hb dX7_number_2 rfl (lv_at hl 2 rfl) ?_
  refine lv_istore (lv' := [(5, .int x1), (3, .long (0 : Int64)), (0, .ref (ad 1)), (1, .int x1), (2, .int x2)]) hx hb dX7_number_3 hl (by decide) rfl (fun ls hl => ?_)
  exact t_X7_number_5 C0 hK N  N x2 (0 : Int64) x1 σ _ _ _ h hP hD hS (lv_sub hl [2, 4, 1, 0] rfl)
set_option maxHeartbeats 4000000 in
set_option maxRecDepth 100000 in
theorem c_X7_number (N : Nat) (l : Launch) (dC : Nat → ClassId) (dI : Nat → Nat → Nat) (ad : Nat → Nat) (cI cJ : ClassId) (sz : Nat) (σ : zSt) (x1 : Int32) (x2 : Int32) (Q : Int64 → zSt → Prop) (h : w_X7_number N x1 x2 σ Q) : Met l yX7_number vs_X7_number rm_X7_number (va_Pc [.ref (ad 1), .int x1, .int x2] (zPc (dC, dI) (x_ty cI cJ) (x_W ad cI cJ) sz σ)) (zQl (dC, dI) (x_ty cI cJ) (x_W ad cI cJ) (zAW x_n ad sz) Q) 0 0 (zAW x_n ad sz) := by
  refine Met.ofW (cc := cX7_number) (maxL := 6) (ret := (some .long)) (by decide) rfl ?_
  intro p e s m args below meth c s₁ B hml hv
  obtain ⟨rfl, hsz, hP, hK, hD0⟩ := hv
  subst hsz
  have C0 : zCx p s m meth c _ RX7 cX7_number 6 (some .long) vs_X7_number := ⟨B.exec, B.bytes, hml, B.returns, findClass_of_methodNamed B.named, atoms_spec (ws := vs_X7_number) B.pre, B.notSynchronized⟩
  have hD := x_D0 (n0 := s.heap.size) hD0
  have hl := lv_entry ([.ref (ad 1), .int x1, .int x2]) (n := 6) (Nat.le_of_ble_eq_true rfl)
  rw [lg_entry_eq]
  generalize (lg_sl ([.ref (ad 1), .int x1, .int x2]) ++ List.replicate (6 - (lg_sl ([.ref (ad 1), .int x1, .int x2])).length) Slot.unset).toArray = ls at hl ⊢
  exact t_X7_number_0 C0 hK N x1 x2 σ _ _ ls h hP hD va_S.rf hl
theorem k_X7_number (N : Nat) {R : Room} {H : Heap} {locs : List Loc} {cells slots : Nat} {Q2 : State → Prop} {cc : ByteArray} {nL pc index : Nat} {ls : Array Slot} {rest : List Value} {own : String} {c0 : Cond} {σ : zSt} {x1 : Int32} {x2 : Int32} {Q : Int64 → zSt → Prop} (S0 : CallFix p m c cc nL s args (c0 :: zT) own) (hml : Cond.methodLink own index yX7_number ∈ zT) (hR : rm_X7_number.frames + 1 ≤ R.frames ∧ 8 + (6 + 11) + rm_X7_number.locals ≤ R.locals) (h : w_X7_number N x1 x2 σ Q) (hK : va_K (dC, dI) vwCl (x_ty cI cJ) s) (hP : va_P (dC, dI) vwCl (x_W ad cI cJ σ) H) (hD : va_D (zAW x_n ad s.heap.size) (x_W ad cI cJ σ)) (hS : va_S (zAW x_n ad s.heap.size) s.heap H locs) (hsz : ls.size = nL) (hW : (rest.map fun v => v.category).sum ≤ 8) (hcs : cells ≤ R.cells ∧ slots ≤ R.slots) (hdg : decode cc pc = .ok (.invokevirtual index, 3)) (kk : ∀ (r : Int64) (τ : zSt) (H1 : Heap) (locs1 : List Loc), Q r τ → va_P (dC, dI) vwCl (x_W ad cI cJ τ) H1 → va_D (zAW x_n ad s.heap.size) (x_W ad cI cJ τ) → va_S (zAW x_n ad s.heap.size) s.heap H1 locs1 → W p l e R s m args below meth c H1 locs1 cells slots Q2 (F0 m (pc + 3) ls (.long r :: rest))) : W p l e R s m args below meth c H locs cells slots Q2 (F0 m pc ls (.int x2 :: .int x1 :: .ref (ad 1) :: rest)) :=
  zcv_l (T := TX7) (N' := 2) (k := 1) (ci := 7) (fs := x_f1 ad σ) [.int x1, .int x2] S0 (c_X7_number N l dC dI ad cI cJ H.size σ x1 x2 Q h) (cw_X7_number S0.2.2.2.2 hml rfl rfl hR) rfl rfl hK hP hD hS rfl hsz hW rfl hcs hdg kk
end q13
section q13
def w_X11_takeImage (N : Nat) (x1 : Int64) (x3 : Int64) (σ : zSt) (Q : Int32 → zSt → Prop) : Prop :=
  (0 < (lg_cmp x3 (1000 : Int64)) → Q (0 : Int32) σ) ∧ (¬ 0 < (lg_cmp x3 (1000 : Int64)) → w_X4_isNet N x1 σ (fun r1 τ2 => (r1 = 0 → Q (0 : Int32) τ2) ∧ (¬ r1 = 0 → w_X4_may N x1 τ2 (fun r3 τ4 => (r3 = 0 → Q (0 : Int32) τ4) ∧ (¬ r3 = 0 → ∀ τ5 : zSt, τ5 = zJ τ4 0 x1 → ∀ τ6 : zSt, τ6 = zI τ5 25 x3.toInt32 → Q (1 : Int32) τ6)))))
variable {p : Program} {l : Launch} {e : Env} {s : State} {m : MethodId} {args : Array Value} {below : List Frame} {meth : Method} {c : Code} {dC : Nat → ClassId} {dI : Nat → Nat → Nat} {ad : Nat → Nat} {cI cJ : ClassId}
set_option maxHeartbeats 4000000 in
set_option maxRecDepth 100000 in
theorem t_X11_takeImage_0 (C0 : zCx p s m meth c args RX11 cX11_takeImage 5 (some .boolean) vs_X11_takeImage) (hK : va_K (dC, dI) vwCl (x_ty cI cJ) s) (N : Nat) {Q : Int32 → zSt → Prop} : ∀ (x1 : Int64) (x3 : Int64) (σ : zSt) (H : Heap) (locs : List Loc) (ls : Array Slot), w_X11_takeImage N x1 x3 σ Q → va_P (dC, dI) vwCl (x_W ad cI cJ σ) H → va_D (zAW x_n ad s.heap.size) (x_W ad cI cJ σ) → va_S (zAW x_n ad s.heap.size) s.heap H locs → lv_has ls 5 [(0, .ref (ad 0)), (1, .long x1), (3, .long x3)] → W p l e rm_X11_takeImage s m args below meth c H locs 0 0 (MQ below (zQi (dC, dI) (x_ty cI cJ) (x_W ad cI cJ) (zAW x_n ad s.heap.size) Q) args s 0 0 (zAW x_n ad s.heap.size)) (F0 m 0 ls []) := by
  obtain ⟨hx, hb, hml, hr, hown, hts, hlocks⟩ := id C0
  intro x1 x3 σ H locs ls h hP hD hS hl
  unfold w_X11_takeImage at h
  refine lv_lload_n hx hb dX11_takeImage_0 rfl (lv_at hl 2 rfl) ?_
  refine lv_ldc2 (v := (1000 : Int64)) hx hb hown (hts _ (List.mem_cons_of_mem _ mw_812)) dX11_takeImage_1 ?_
  refine W.lcmp hx hb dX11_takeImage_4 ?_
  refine lv_if_gt (tgt := 30) hx hb dX11_takeImage_5 (by decide) (fun hc => ?_) (fun hc => ?_)
  · have h := h.1 hc
    refine lv_iconst (v := (0 : Int32)) hx hb dX11_takeImage_30 (by decide) ?_
    exact zret_z hx hb hr hlocks hK hP hD hS zb_0 h dX11_takeImage_31
  · have h := h.2 hc
    refine lv_aload_n hx hb dX11_takeImage_8 rfl (lv_at hl 0 rfl) ?_
    refine xg_0_2 hx hb hts hown hK hP mw_291 dX11_takeImage_9 ?_
    refine lv_lload_n hx hb dX11_takeImage_12 rfl (lv_at hl 1 rfl) ?_
    refine k_X4_isNet N ⟨hx, hb, hml, hown, hts⟩ mw_496 ⟨Nat.le_of_ble_eq_true rfl, Nat.le_of_ble_eq_true rfl⟩ h hK hP hD hS hl.1 (rest := []) (Nat.le_of_ble_eq_true rfl) ⟨Nat.le_of_ble_eq_true rfl, Nat.le_of_ble_eq_true rfl⟩ dX11_takeImage_13 (fun r1 τ2 H locs h hP hD hS => ?_)
    refine lv_if_eq (tgt := 30) hx hb dX11_takeImage_16 (by decide) (fun hc => ?_) (fun hc => ?_)
    · have h := h.1 hc
      refine lv_iconst (v := (0 : Int32)) hx hb dX11_takeImage_30 (by decide) ?_
      exact zret_z hx hb hr hlocks hK hP hD hS zb_0 h dX11_takeImage_31
    · have h := h.2 hc
      refine lv_aload_n hx hb dX11_takeImage_19 rfl (lv_at hl 0 rfl) ?_
      refine xg_0_2 hx hb hts hown hK hP mw_291 dX11_takeImage_20 ?_
      refine lv_lload_n hx hb dX11_takeImage_23 rfl (lv_at hl 1 rfl) ?_
      refine k_X4_may N ⟨hx, hb, hml, hown, hts⟩ mw_500 ⟨Nat.le_of_ble_eq_true rfl, Nat.le_of_ble_eq_true rfl⟩ h hK hP hD hS hl.1 (rest := []) (Nat.le_of_ble_eq_true rfl) ⟨Nat.le_of_ble_eq_true rfl, Nat.le_of_ble_eq_true rfl⟩ dX11_takeImage_24 (fun r3 τ4 H locs h hP hD hS => ?_)
      refine lv_if_ne (tgt := 32) hx hb dX11_takeImage_27 (by decide) (fun hc => ?_) (fun hc => ?_)
      · have h := h.2 hc
        refine lv_aload_n hx hb dX11_takeImage_32 rfl (lv_at hl 0 rfl) ?_
        refine lv_lload_n hx hb dX11_takeImage_33 rfl (lv_at hl 1 rfl) ?_
        refine xp_0_15 hx hb hts hown hK hP hD hS mw_304 dX11_takeImage_34 (fun τ5 H locs eτ5 hP hD hS => ?_)
        have h := h τ5 eτ5
        refine lv_aload_n hx hb dX11_takeImage_37 rfl (lv_at hl 0 rfl) ?_
        refine xg_0_5 hx hb hts hown hK hP mw_294 dX11_takeImage_38 ?_
        refine lv_lload_n hx hb dX11_takeImage_41 rfl (lv_at hl 2 rfl) ?_
        refine lv_l2i hx hb dX11_takeImage_42 rfl ?_
        refine xp_9_6 hx hb hts hown hK hP hD hS mw_207 dX11_takeImage_43 (fun τ6 H locs eτ6 hP hD hS => ?_)
        have h := h τ6 eτ6
        refine lv_iconst (v := (1 : Int32)) hx hb dX11_takeImage_46 (by decide) ?_
        exact zret_z hx hb hr hlocks hK hP hD hS zb_1 h dX11_takeImage_47
      · have h := h.1 hc
        refine lv_iconst (v := (0 : Int32)) hx hb dX11_takeImage_30 (by decide) ?_
        exact zret_z hx hb hr hlocks hK hP hD hS zb_0 h dX11_takeImage_31
set_option maxHeartbeats 4000000 in
set_option maxRecDepth 100000 in
theorem c_X11_takeImage (N : Nat) (l : Launch) (dC : Nat → ClassId) (dI : Nat → Nat → Nat) (ad : Nat → Nat) (cI cJ : ClassId) (sz : Nat) (σ : zSt) (x1 : Int64) (x3 : Int64) (Q : Int32 → zSt → Prop) (h : w_X11_takeImage N x1 x3 σ Q) : Met l yX11_takeImage vs_X11_takeImage rm_X11_takeImage (va_Pc [.ref (ad 0), .long x1, .long x3] (zPc (dC, dI) (x_ty cI cJ) (x_W ad cI cJ) sz σ)) (zQi (dC, dI) (x_ty cI cJ) (x_W ad cI cJ) (zAW x_n ad sz) Q) 0 0 (zAW x_n ad sz) := by
  refine Met.ofW (cc := cX11_takeImage) (maxL := 5) (ret := (some .boolean)) (by decide) rfl ?_
  intro p e s m args below meth c s₁ B hml hv
  obtain ⟨rfl, hsz, hP, hK, hD0⟩ := hv
  subst hsz
  have C0 : zCx p s m meth c _ RX11 cX11_takeImage 5 (some .boolean) vs_X11_takeImage := ⟨B.exec, B.bytes, hml, B.returns, findClass_of_methodNamed B.named, atoms_spec (ws := vs_X11_takeImage) B.pre, B.notSynchronized⟩
  have hD := x_D0 (n0 := s.heap.size) hD0
  have hl := lv_entry ([.ref (ad 0), .long x1, .long x3]) (n := 5) (Nat.le_of_ble_eq_true rfl)
  rw [lg_entry_eq]
  generalize (lg_sl ([.ref (ad 0), .long x1, .long x3]) ++ List.replicate (5 - (lg_sl ([.ref (ad 0), .long x1, .long x3])).length) Slot.unset).toArray = ls at hl ⊢
  exact t_X11_takeImage_0 C0 hK N x1 x3 σ _ _ ls h hP hD va_S.rf hl
theorem k_X11_takeImage (N : Nat) {R : Room} {H : Heap} {locs : List Loc} {cells slots : Nat} {Q2 : State → Prop} {cc : ByteArray} {nL pc index : Nat} {ls : Array Slot} {rest : List Value} {own : String} {c0 : Cond} {σ : zSt} {x1 : Int64} {x3 : Int64} {Q : Int32 → zSt → Prop} (S0 : CallFix p m c cc nL s args (c0 :: zT) own) (hml : Cond.methodLink own index yX11_takeImage ∈ zT) (hR : rm_X11_takeImage.frames + 1 ≤ R.frames ∧ 8 + (5 + 11) + rm_X11_takeImage.locals ≤ R.locals) (h : w_X11_takeImage N x1 x3 σ Q) (hK : va_K (dC, dI) vwCl (x_ty cI cJ) s) (hP : va_P (dC, dI) vwCl (x_W ad cI cJ σ) H) (hD : va_D (zAW x_n ad s.heap.size) (x_W ad cI cJ σ)) (hS : va_S (zAW x_n ad s.heap.size) s.heap H locs) (hsz : ls.size = nL) (hW : (rest.map fun v => v.category).sum ≤ 8) (hcs : cells ≤ R.cells ∧ slots ≤ R.slots) (hdg : decode cc pc = .ok (.invokevirtual index, 3)) (kk : ∀ (r : Int32) (τ : zSt) (H1 : Heap) (locs1 : List Loc), Q r τ → va_P (dC, dI) vwCl (x_W ad cI cJ τ) H1 → va_D (zAW x_n ad s.heap.size) (x_W ad cI cJ τ) → va_S (zAW x_n ad s.heap.size) s.heap H1 locs1 → W p l e R s m args below meth c H1 locs1 cells slots Q2 (F0 m (pc + 3) ls (.int r :: rest))) : W p l e R s m args below meth c H locs cells slots Q2 (F0 m pc ls (.long x3 :: .long x1 :: .ref (ad 0) :: rest)) :=
  zcv_i (T := TX11) (N' := 17) (k := 0) (ci := 11) (fs := x_f0 ad σ) [.long x1, .long x3] S0 (c_X11_takeImage N l dC dI ad cI cJ H.size σ x1 x3 Q h) (cw_X11_takeImage S0.2.2.2.2 hml rfl rfl hR) rfl rfl hK hP hD hS rfl hsz hW rfl hcs hdg kk
end q13
section q13
def b_X11_on_79 (N : Nat) (Q : Int32 → zSt → Prop)  (σ : zSt) : Prop :=
  ∀ τ1 : zSt, τ1 = zI σ 0 (0 : Int32) → Q (0 : Int32) τ1
def w_X11_on (N : Nat)  (σ : zSt) (Q : Int32 → zSt → Prop) : Prop :=
  ((σ.1 0) = (10 : Int32) → w_X7_xorOfAll N σ (fun r1 τ2 => (r1 = 0 → w_X7_number N (0 : Int32) (1 : Int32) τ2 (fun r3 τ4 => ((lg_cmp r3 (τ4.1 1).toInt64) = 0 → w_X7_number N (1 : Int32) (7 : Int32) τ4 (fun r5 τ6 => w_X7_number N (7 : Int32) (9 : Int32) τ6 (fun r7 τ8 => w_X11_takeImage N r5 (r7 - (1000 : Int64)) τ8 (fun r9 τ10 => (r9 = 0 → b_X11_on_79 N Q τ10) ∧ (¬ r9 = 0 → ∀ τ11 : zSt, τ11 = zI τ10 0 (0 : Int32) → Q (1 : Int32) τ11))))) ∧ (¬ (lg_cmp r3 (τ4.1 1).toInt64) = 0 → b_X11_on_79 N Q τ4))) ∧ (¬ r1 = 0 → b_X11_on_79 N Q τ2))) ∧ (¬ (σ.1 0) = (10 : Int32) → b_X11_on_79 N Q σ)
variable {p : Program} {l : Launch} {e : Env} {s : State} {m : MethodId} {args : Array Value} {below : List Frame} {meth : Method} {c : Code} {dC : Nat → ClassId} {dI : Nat → Nat → Nat} {ad : Nat → Nat} {cI cJ : ClassId}
set_option maxHeartbeats 4000000 in
set_option maxRecDepth 100000 in
theorem t_X11_on_79 (C0 : zCx p s m meth c args RX11 cX11_on 2 (some .boolean) vs_X11_on) (hK : va_K (dC, dI) vwCl (x_ty cI cJ) s) (N : Nat) {Q : Int32 → zSt → Prop} : ∀  (σ : zSt) (H : Heap) (locs : List Loc) (ls : Array Slot), b_X11_on_79 N  Q  σ → va_P (dC, dI) vwCl (x_W ad cI cJ σ) H → va_D (zAW x_n ad s.heap.size) (x_W ad cI cJ σ) → va_S (zAW x_n ad s.heap.size) s.heap H locs → lv_has ls 2 [(0, .ref (ad 0))] → W p l e rm_X11_on s m args below meth c H locs 0 0 (MQ below (zQi (dC, dI) (x_ty cI cJ) (x_W ad cI cJ) (zAW x_n ad s.heap.size) Q) args s 0 0 (zAW x_n ad s.heap.size)) (F0 m 79 ls []) := by
  obtain ⟨hx, hb, hml, hr, hown, hts, hlocks⟩ := id C0
  intro  σ H locs ls h hP hD hS hl
  unfold b_X11_on_79 at h
  refine lv_iconst (v := (0 : Int32)) hx hb dX11_on_79 (by decide) ?_
  refine lv_istore_n (lv' := [(1, .int (0 : Int32)), (0, .ref (ad 0))]) hx hb dX11_on_80 rfl hl (by decide) rfl (fun ls hl => ?_)
  refine lv_aload_n hx hb dX11_on_81 rfl (lv_at hl 1 rfl) ?_
  refine xg_0_0 hx hb hts hown hK hP mw_289 dX11_on_82 ?_
  refine lv_iconst (v := (0 : Int32)) hx hb dX11_on_85 (by decide) ?_
  refine xp_1_1 hx hb hts hown hK hP hD hS mw_36 dX11_on_86 (fun τ1 H locs eτ1 hP hD hS => ?_)
  have h := h τ1 eτ1
  refine lv_iload_n hx hb dX11_on_89 rfl (lv_at hl 0 rfl) ?_
  exact zret_z hx hb hr hlocks hK hP hD hS zb_0 h dX11_on_90
set_option maxHeartbeats 4000000 in
set_option maxRecDepth 100000 in
theorem t_X11_on_0 (C0 : zCx p s m meth c args RX11 cX11_on 2 (some .boolean) vs_X11_on) (hK : va_K (dC, dI) vwCl (x_ty cI cJ) s) (N : Nat) {Q : Int32 → zSt → Prop} : ∀  (σ : zSt) (H : Heap) (locs : List Loc) (ls : Array Slot), w_X11_on N  σ Q → va_P (dC, dI) vwCl (x_W ad cI cJ σ) H → va_D (zAW x_n ad s.heap.size) (x_W ad cI cJ σ) → va_S (zAW x_n ad s.heap.size) s.heap H locs → lv_has ls 2 [(0, .ref (ad 0))] → W p l e rm_X11_on s m args below meth c H locs 0 0 (MQ below (zQi (dC, dI) (x_ty cI cJ) (x_W ad cI cJ) (zAW x_n ad s.heap.size) Q) args s 0 0 (zAW x_n ad s.heap.size)) (F0 m 0 ls []) := by
  obtain ⟨hx, hb, hml, hr, hown, hts, hlocks⟩ := id C0
  intro  σ H locs ls h hP hD hS hl
  unfold w_X11_on at h
  refine lv_aload_n hx hb dX11_on_0 rfl (lv_at hl 0 rfl) ?_
  refine xg_0_0 hx hb hts hown hK hP mw_289 dX11_on_1 ?_
  refine xg_1_1 hx hb hts hown hK hP mw_36 dX11_on_4 ?_
  refine lv_bipush (v := (10 : Int32)) hx hb dX11_on_7 (by decide) ?_
  refine lv_icmp_ne (tgt := 79) hx hb dX11_on_9 (by decide) (fun hc => ?_) (fun hc => ?_)
  · have h := h.2 hc
    exact t_X11_on_79 C0 hK N  σ _ _ _ h hP hD hS (lv_sub hl [0] rfl)
  · have h := h.1 hc
    refine lv_aload_n hx hb dX11_on_12 rfl (lv_at hl 0 rfl) ?_
    refine xg_0_0 hx hb hts hown hK hP mw_289 dX11_on_13 ?_
    refine k_X7_xorOfAll N ⟨hx, hb, hml, hown, hts⟩ mw_803 ⟨Nat.le_of_ble_eq_true rfl, Nat.le_of_ble_eq_true rfl⟩ h hK hP hD hS hl.1 (rest := []) (Nat.le_of_ble_eq_true rfl) ⟨Nat.le_of_ble_eq_true rfl, Nat.le_of_ble_eq_true rfl⟩ dX11_on_16 (fun r1 τ2 H locs h hP hD hS => ?_)
    refine lv_if_ne (tgt := 79) hx hb dX11_on_19 (by decide) (fun hc => ?_) (fun hc => ?_)
    · have h := h.2 hc
      exact t_X11_on_79 C0 hK N  τ2 _ _ _ h hP hD hS (lv_sub hl [0] rfl)
    · have h := h.1 hc
      refine lv_aload_n hx hb dX11_on_22 rfl (lv_at hl 0 rfl) ?_
      refine xg_0_0 hx hb hts hown hK hP mw_289 dX11_on_23 ?_
      refine lv_iconst (v := (0 : Int32)) hx hb dX11_on_26 (by decide) ?_
      refine lv_iconst (v := (1 : Int32)) hx hb dX11_on_27 (by decide) ?_
      refine k_X7_number N ⟨hx, hb, hml, hown, hts⟩ mw_807 ⟨Nat.le_of_ble_eq_true rfl, Nat.le_of_ble_eq_true rfl⟩ h hK hP hD hS hl.1 (rest := []) (Nat.le_of_ble_eq_true rfl) ⟨Nat.le_of_ble_eq_true rfl, Nat.le_of_ble_eq_true rfl⟩ dX11_on_28 (fun r3 τ4 H locs h hP hD hS => ?_)
      refine lv_aload_n hx hb dX11_on_31 rfl (lv_at hl 0 rfl) ?_
      refine xg_0_2 hx hb hts hown hK hP mw_291 dX11_on_32 ?_
      refine xg_3_4 hx hb hts hown hK hP mw_75 dX11_on_35 ?_
      refine lv_i2l hx hb dX11_on_38 rfl ?_
      refine W.lcmp hx hb dX11_on_39 ?_
      refine lv_if_ne (tgt := 79) hx hb dX11_on_40 (by decide) (fun hc => ?_) (fun hc => ?_)
      · have h := h.2 hc
        exact t_X11_on_79 C0 hK N  τ4 _ _ _ h hP hD hS (lv_sub hl [0] rfl)
      · have h := h.1 hc
        refine lv_aload_n hx hb dX11_on_43 rfl (lv_at hl 0 rfl) ?_
        refine lv_aload_n hx hb dX11_on_44 rfl (lv_at hl 0 rfl) ?_
        refine xg_0_0 hx hb hts hown hK hP mw_289 dX11_on_45 ?_
        refine lv_iconst (v := (1 : Int32)) hx hb dX11_on_48 (by decide) ?_
        refine lv_bipush (v := (7 : Int32)) hx hb dX11_on_49 (by decide) ?_
        refine k_X7_number N ⟨hx, hb, hml, hown, hts⟩ mw_807 ⟨Nat.le_of_ble_eq_true rfl, Nat.le_of_ble_eq_true rfl⟩ h hK hP hD hS hl.1 (rest := [.ref (ad 0)]) (Nat.le_of_ble_eq_true rfl) ⟨Nat.le_of_ble_eq_true rfl, Nat.le_of_ble_eq_true rfl⟩ dX11_on_51 (fun r5 τ6 H locs h hP hD hS => ?_)
        refine lv_aload_n hx hb dX11_on_54 rfl (lv_at hl 0 rfl) ?_
        refine xg_0_0 hx hb hts hown hK hP mw_289 dX11_on_55 ?_
        refine lv_bipush (v := (7 : Int32)) hx hb dX11_on_58 (by decide) ?_
        refine lv_bipush (v := (9 : Int32)) hx hb dX11_on_60 (by decide) ?_
        refine k_X7_number N ⟨hx, hb, hml, hown, hts⟩ mw_807 ⟨Nat.le_of_ble_eq_true rfl, Nat.le_of_ble_eq_true rfl⟩ h hK hP hD hS hl.1 (rest := [.long r5, .ref (ad 0)]) (Nat.le_of_ble_eq_true rfl) ⟨Nat.le_of_ble_eq_true rfl, Nat.le_of_ble_eq_true rfl⟩ dX11_on_62 (fun r7 τ8 H locs h hP hD hS => ?_)
        refine lv_ldc2 (v := (1000 : Int64)) hx hb hown (hts _ (List.mem_cons_of_mem _ mw_812)) dX11_on_65 ?_
        refine lv_lsub hx hb dX11_on_68 ?_
        refine k_X11_takeImage N ⟨hx, hb, hml, hown, hts⟩ mw_813 ⟨Nat.le_of_ble_eq_true rfl, Nat.le_of_ble_eq_true rfl⟩ h hK hP hD hS hl.1 (rest := []) (Nat.le_of_ble_eq_true rfl) ⟨Nat.le_of_ble_eq_true rfl, Nat.le_of_ble_eq_true rfl⟩ dX11_on_69 (fun r9 τ10 H locs h hP hD hS => ?_)
        refine lv_if_eq (tgt := 79) hx hb dX11_on_72 (by decide) (fun hc => ?_) (fun hc => ?_)
        · have h := h.1 hc
          exact t_X11_on_79 C0 hK N  τ10 _ _ _ h hP hD hS (lv_sub hl [0] rfl)
        · have h := h.2 hc
          refine lv_iconst (v := (1 : Int32)) hx hb dX11_on_75 (by decide) ?_
          refine lv_goto (tgt := 80) hx hb dX11_on_76 (by decide) ?_
          refine lv_istore_n (lv' := [(1, .int (1 : Int32)), (0, .ref (ad 0))]) hx hb dX11_on_80 rfl hl (by decide) rfl (fun ls hl => ?_)
          refine lv_aload_n hx hb dX11_on_81 rfl (lv_at hl 1 rfl) ?_
          refine xg_0_0 hx hb hts hown hK hP mw_289 dX11_on_82 ?_
          refine lv_iconst (v := (0 : Int32)) hx hb dX11_on_85 (by decide) ?_
          refine xp_1_1 hx hb hts hown hK hP hD hS mw_36 dX11_on_86 (fun τ11 H locs eτ11 hP hD hS => ?_)
          have h := h τ11 eτ11
          refine lv_iload_n hx hb dX11_on_89 rfl (lv_at hl 0 rfl) ?_
          exact zret_z hx hb hr hlocks hK hP hD hS zb_1 h dX11_on_90
set_option maxHeartbeats 4000000 in
set_option maxRecDepth 100000 in
theorem c_X11_on (N : Nat) (l : Launch) (dC : Nat → ClassId) (dI : Nat → Nat → Nat) (ad : Nat → Nat) (cI cJ : ClassId) (sz : Nat) (σ : zSt)  (Q : Int32 → zSt → Prop) (h : w_X11_on N  σ Q) : Met l yX11_on vs_X11_on rm_X11_on (va_Pc [.ref (ad 0)] (zPc (dC, dI) (x_ty cI cJ) (x_W ad cI cJ) sz σ)) (zQi (dC, dI) (x_ty cI cJ) (x_W ad cI cJ) (zAW x_n ad sz) Q) 0 0 (zAW x_n ad sz) := by
  refine Met.ofW (cc := cX11_on) (maxL := 2) (ret := (some .boolean)) (by decide) rfl ?_
  intro p e s m args below meth c s₁ B hml hv
  obtain ⟨rfl, hsz, hP, hK, hD0⟩ := hv
  subst hsz
  have C0 : zCx p s m meth c _ RX11 cX11_on 2 (some .boolean) vs_X11_on := ⟨B.exec, B.bytes, hml, B.returns, findClass_of_methodNamed B.named, atoms_spec (ws := vs_X11_on) B.pre, B.notSynchronized⟩
  have hD := x_D0 (n0 := s.heap.size) hD0
  have hl := lv_entry ([.ref (ad 0)]) (n := 2) (Nat.le_of_ble_eq_true rfl)
  rw [lg_entry_eq]
  generalize (lg_sl ([.ref (ad 0)]) ++ List.replicate (2 - (lg_sl ([.ref (ad 0)])).length) Slot.unset).toArray = ls at hl ⊢
  exact t_X11_on_0 C0 hK N  σ _ _ ls h hP hD va_S.rf hl
theorem k_X11_on (N : Nat) {R : Room} {H : Heap} {locs : List Loc} {cells slots : Nat} {Q2 : State → Prop} {cc : ByteArray} {nL pc index : Nat} {ls : Array Slot} {rest : List Value} {own : String} {c0 : Cond} {σ : zSt}  {Q : Int32 → zSt → Prop} (S0 : CallFix p m c cc nL s args (c0 :: zT) own) (hml : Cond.methodLink own index yX11_on ∈ zT) (hR : rm_X11_on.frames + 1 ≤ R.frames ∧ 8 + (2 + 11) + rm_X11_on.locals ≤ R.locals) (h : w_X11_on N  σ Q) (hK : va_K (dC, dI) vwCl (x_ty cI cJ) s) (hP : va_P (dC, dI) vwCl (x_W ad cI cJ σ) H) (hD : va_D (zAW x_n ad s.heap.size) (x_W ad cI cJ σ)) (hS : va_S (zAW x_n ad s.heap.size) s.heap H locs) (hsz : ls.size = nL) (hW : (rest.map fun v => v.category).sum ≤ 8) (hcs : cells ≤ R.cells ∧ slots ≤ R.slots) (hdg : decode cc pc = .ok (.invokevirtual index, 3)) (kk : ∀ (r : Int32) (τ : zSt) (H1 : Heap) (locs1 : List Loc), Q r τ → va_P (dC, dI) vwCl (x_W ad cI cJ τ) H1 → va_D (zAW x_n ad s.heap.size) (x_W ad cI cJ τ) → va_S (zAW x_n ad s.heap.size) s.heap H1 locs1 → W p l e R s m args below meth c H1 locs1 cells slots Q2 (F0 m (pc + 3) ls (.int r :: rest))) : W p l e R s m args below meth c H locs cells slots Q2 (F0 m pc ls (.ref (ad 0) :: rest)) :=
  zcv_i (T := TX11) (N' := 17) (k := 0) (ci := 11) (fs := x_f0 ad σ) [] S0 (c_X11_on N l dC dI ad cI cJ H.size σ  Q h) (cw_X11_on S0.2.2.2.2 hml rfl rfl hR) rfl rfl hK hP hD hS rfl hsz hW rfl hcs hdg kk
end q13
