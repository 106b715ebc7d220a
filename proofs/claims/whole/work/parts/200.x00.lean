section q00
end q00
section q00
def b_X7_add_3 (N : Nat) (k_3 : Int32 → Int32 → zSt → Prop) (Q : zSt → Prop) (x1 : Int32) (x2 : Int32) (σ : zSt) : Prop :=
  (x2 < 0 → Q σ) ∧ (¬ x2 < 0 → ((σ.1 0) < 0 → ∀ v1 : Int32, v1 = x2 + (-8 : Int32) → k_3 x1 v1 σ) ∧ (¬ (σ.1 0) < 0 → ((800 : Int32) ≤ (σ.1 0) → ∀ v2 : Int32, v2 = x2 + (-8 : Int32) → k_3 x1 v2 σ) ∧ (¬ (800 : Int32) ≤ (σ.1 0) → (vp_in (σ.1 0) 800) ∧ (∀ τ3 : zSt, τ3 = zA σ 2 (upd (σ.2.2.1 2) ((σ.1 0).toNatClampNeg) ((x1 >>> (x2 &&& 31)) &&& (255 : Int32))) → ∀ τ4 : zSt, τ4 = zI τ3 0 ((τ3.1 0) + (1 : Int32)) → ∀ v5 : Int32, v5 = x2 + (-8 : Int32) → k_3 x1 v5 τ4))))
def w_X7_add_3 (N : Nat) (Q : zSt → Prop) : Nat → Int32 → Int32 → zSt → Prop
  | 0 => fun _ _ _ => False
  | f + 1 => b_X7_add_3 N (w_X7_add_3 N  Q f) Q
def w_X7_add (N : Nat) (x1 : Int32) (σ : zSt) (Q : zSt → Prop) : Prop :=
  w_X7_add_3 N Q N x1 (24 : Int32) σ
variable {p : Program} {l : Launch} {e : Env} {s : State} {m : MethodId} {args : Array Value} {below : List Frame} {meth : Method} {c : Code} {dC : Nat → ClassId} {dI : Nat → Nat → Nat} {ad : Nat → Nat} {cI cJ : ClassId}
set_option maxHeartbeats 4000000 in
set_option maxRecDepth 100000 in
theorem tb_X7_add_3 (C0 : zCx p s m meth c args RX7 cX7_add 3 none vs_X7_add) (hK : va_K (dC, dI) vwCl (x_ty cI cJ) s) (N : Nat) {Q : zSt → Prop} {k_3 : Int32 → Int32 → zSt → Prop} (hk_3 : ∀ (x1 : Int32) (x2 : Int32) (σ : zSt) (H : Heap) (locs : List Loc) (ls : Array Slot), k_3 x1 x2 σ → va_P (dC, dI) vwCl (x_W ad cI cJ σ) H → va_D (zAW x_n ad s.heap.size) (x_W ad cI cJ σ) → va_S (zAW x_n ad s.heap.size) s.heap H locs → lv_has ls 3 [(0, .ref (ad 1)), (1, .int x1), (2, .int x2)] → W p l e rm_X7_add s m args below meth c H locs 0 0 (MQ below (zQv (dC, dI) (x_ty cI cJ) (x_W ad cI cJ) (zAW x_n ad s.heap.size) Q) args s 0 0 (zAW x_n ad s.heap.size)) (F0 m 3 ls [])) : ∀ (x1 : Int32) (x2 : Int32) (σ : zSt) (H : Heap) (locs : List Loc) (ls : Array Slot), b_X7_add_3 N k_3 Q x1 x2 σ → va_P (dC, dI) vwCl (x_W ad cI cJ σ) H → va_D (zAW x_n ad s.heap.size) (x_W ad cI cJ σ) → va_S (zAW x_n ad s.heap.size) s.heap H locs → lv_has ls 3 [(0, .ref (ad 1)), (1, .int x1), (2, .int x2)] → W p l e rm_X7_add s m args below meth c H locs 0 0 (MQ below (zQv (dC, dI) (x_ty cI cJ) (x_W ad cI cJ) (zAW x_n ad s.heap.size) Q) args s 0 0 (zAW x_n ad s.heap.size)) (F0 m 3 ls []) := by
  obtain ⟨hx, hb, hml, hr, hown, hts, hlocks⟩ := id C0
  intro x1 x2 σ H locs ls h hP hD hS hl
  unfold b_X7_add_3 at h
  refine lv_iload_n hx hb dX7_add_3 rfl (lv_at hl 2 rfl) ?_
  refine lv_if_lt (tgt := 58) hx hb dX7_add_4 (by decide) (fun hc => ?_) (fun hc => ?_)
  · have h := h.1 hc
    exact zret_v hx hb hr hlocks hK hP hD hS h dX7_add_58
  · have h := h.2 hc
    refine lv_aload_n hx hb dX7_add_7 rfl (lv_at hl 0 rfl) ?_
    refine xg_1_1 hx hb hts hown hK hP mw_37 dX7_add_8 ?_
    refine lv_if_lt (tgt := 52) hx hb dX7_add_11 (by decide) (fun hc => ?_) (fun hc => ?_)
    · have h := h.1 hc
      obtain ⟨v1, ev1⟩ : ∃ z : Int32, z = x2 + (-8 : Int32) := ⟨_, rfl⟩
      have h := h v1 ev1
      refine lv_iinc (v := v1) (lv' := [(2, .int v1), (0, .ref (ad 1)), (1, .int x1)]) hx hb dX7_add_52 hl (k := 2) rfl (by rw [ev1]; rfl) (by decide) rfl (fun ls hl => ?_)
      refine lv_goto (tgt := 3) hx hb dX7_add_55 (by decide) ?_
      exact hk_3 x1 v1 σ _ _ _ h hP hD hS (lv_sub hl [1, 2, 0] rfl)
    · have h := h.2 hc
      refine lv_aload_n hx hb dX7_add_14 rfl (lv_at hl 0 rfl) ?_
      refine xg_1_1 hx hb hts hown hK hP mw_37 dX7_add_15 ?_
      refine lv_aload_n hx hb dX7_add_18 rfl (lv_at hl 0 rfl) ?_
      refine xg_1_0 hx hb hts hown hK hP mw_35 dX7_add_19 ?_
      refine xl_19 hx hb hK hP dX7_add_22 ?_
      refine lv_icmp_ge (tgt := 52) hx hb dX7_add_23 (by decide) (fun hc => ?_) (fun hc => ?_)
      · have h := h.1 hc
        obtain ⟨v2, ev2⟩ : ∃ z : Int32, z = x2 + (-8 : Int32) := ⟨_, rfl⟩
        have h := h v2 ev2
        refine lv_iinc (v := v2) (lv' := [(2, .int v2), (0, .ref (ad 1)), (1, .int x1)]) hx hb dX7_add_52 hl (k := 2) rfl (by rw [ev2]; rfl) (by decide) rfl (fun ls hl => ?_)
        refine lv_goto (tgt := 3) hx hb dX7_add_55 (by decide) ?_
        exact hk_3 x1 v2 σ _ _ _ h hP hD hS (lv_sub hl [1, 2, 0] rfl)
      · have h := h.2 hc
        refine lv_aload_n hx hb dX7_add_26 rfl (lv_at hl 0 rfl) ?_
        refine xg_1_0 hx hb hts hown hK hP mw_35 dX7_add_27 ?_
        refine lv_aload_n hx hb dX7_add_30 rfl (lv_at hl 0 rfl) ?_
        refine xg_1_1 hx hb hts hown hK hP mw_37 dX7_add_31 ?_
        refine lv_iload_n hx hb dX7_add_34 rfl (lv_at hl 1 rfl) ?_
        refine lv_iload_n hx hb dX7_add_35 rfl (lv_at hl 2 rfl) ?_
        refine lv_ishr hx hb dX7_add_36 ?_
        refine lv_sipush (v := (255 : Int32)) hx hb dX7_add_37 (by decide) ?_
        refine lv_iand hx hb dX7_add_40 ?_
        refine xs_19 hx hb hK hP hD hS h.1 rfl dX7_add_41 (fun τ3 H locs eτ3 hP hD hS => ?_)
        have h := h.2
        have h := h τ3 eτ3
        refine lv_aload_n hx hb dX7_add_42 rfl (lv_at hl 0 rfl) ?_
        refine lv_dup hx hb dX7_add_43 rfl ?_
        refine xg_1_1 hx hb hts hown hK hP mw_37 dX7_add_44 ?_
        refine lv_iconst (v := (1 : Int32)) hx hb dX7_add_47 (by decide) ?_
        refine lv_iadd hx hb dX7_add_48 ?_
        refine xp_1_1 hx hb hts hown hK hP hD hS mw_37 dX7_add_49 (fun τ4 H locs eτ4 hP hD hS => ?_)
        have h := h τ4 eτ4
        obtain ⟨v5, ev5⟩ : ∃ z : Int32, z = x2 + (-8 : Int32) := ⟨_, rfl⟩
        have h := h v5 ev5
        refine lv_iinc (v := v5) (lv' := [(2, .int v5), (0, .ref (ad 1)), (1, .int x1)]) hx hb dX7_add_52 hl (k := 2) rfl (by rw [ev5]; rfl) (by decide) rfl (fun ls hl => ?_)
        refine lv_goto (tgt := 3) hx hb dX7_add_55 (by decide) ?_
        exact hk_3 x1 v5 τ4 _ _ _ h hP hD hS (lv_sub hl [1, 2, 0] rfl)
set_option maxHeartbeats 4000000 in
set_option maxRecDepth 100000 in
theorem t_X7_add_3 (C0 : zCx p s m meth c args RX7 cX7_add 3 none vs_X7_add) (hK : va_K (dC, dI) vwCl (x_ty cI cJ) s) (N : Nat) {Q : zSt → Prop} : ∀ (f : Nat) (x1 : Int32) (x2 : Int32) (σ : zSt) (H : Heap) (locs : List Loc) (ls : Array Slot), w_X7_add_3 N  Q f x1 x2 σ → va_P (dC, dI) vwCl (x_W ad cI cJ σ) H → va_D (zAW x_n ad s.heap.size) (x_W ad cI cJ σ) → va_S (zAW x_n ad s.heap.size) s.heap H locs → lv_has ls 3 [(0, .ref (ad 1)), (1, .int x1), (2, .int x2)] → W p l e rm_X7_add s m args below meth c H locs 0 0 (MQ below (zQv (dC, dI) (x_ty cI cJ) (x_W ad cI cJ) (zAW x_n ad s.heap.size) Q) args s 0 0 (zAW x_n ad s.heap.size)) (F0 m 3 ls []) := by
  intro f
  induction f with
  | zero => intro x1 x2 σ H locs ls h; exact h.elim
  | succ f ih =>
    intro x1 x2 σ H locs ls h hP hD hS hl
    exact tb_X7_add_3 C0 hK N  (k_3 := w_X7_add_3 N  Q f) ih x1 x2 σ H locs ls h hP hD hS hl
set_option maxHeartbeats 4000000 in
set_option maxRecDepth 100000 in
theorem t_X7_add_0 (C0 : zCx p s m meth c args RX7 cX7_add 3 none vs_X7_add) (hK : va_K (dC, dI) vwCl (x_ty cI cJ) s) (N : Nat) {Q : zSt → Prop} : ∀ (x1 : Int32) (σ : zSt) (H : Heap) (locs : List Loc) (ls : Array Slot), w_X7_add N x1 σ Q → va_P (dC, dI) vwCl (x_W ad cI cJ σ) H → va_D (zAW x_n ad s.heap.size) (x_W ad cI cJ σ) → va_S (zAW x_n ad s.heap.size) s.heap H locs → lv_has ls 3 [(0, .ref (ad 1)), (1, .int x1)] → W p l e rm_X7_add s m args below meth c H locs 0 0 (MQ below (zQv (dC, dI) (x_ty cI cJ) (x_W ad cI cJ) (zAW x_n ad s.heap.size) Q) args s 0 0 (zAW x_n ad s.heap.size)) (F0 m 0 ls []) := by
  obtain ⟨hx, hb, hml, hr, hown, hts, hlocks⟩ := id C0
  intro x1 σ H locs ls h hP hD hS hl
  unfold w_X7_add at h
  refine lv_bipush (v := (24 : Int32)) hx hb dX7_add_0 (by decide) ?_
  refine lv_istore_n (lv' := [(2, .int (24 : Int32)), (0, .ref (ad 1)), (1, .int x1)]) hx hb dX7_add_2 rfl hl (by decide) rfl (fun ls hl => ?_)
  exact t_X7_add_3 C0 hK N  N x1 (24 : Int32) σ _ _ _ h hP hD hS (lv_sub hl [1, 2, 0] rfl)
set_option maxHeartbeats 4000000 in
set_option maxRecDepth 100000 in
theorem c_X7_add (N : Nat) (l : Launch) (dC : Nat → ClassId) (dI : Nat → Nat → Nat) (ad : Nat → Nat) (cI cJ : ClassId) (sz : Nat) (σ : zSt) (x1 : Int32) (Q : zSt → Prop) (h : w_X7_add N x1 σ Q) : Met l yX7_add vs_X7_add rm_X7_add (va_Pc [.ref (ad 1), .int x1] (zPc (dC, dI) (x_ty cI cJ) (x_W ad cI cJ) sz σ)) (zQv (dC, dI) (x_ty cI cJ) (x_W ad cI cJ) (zAW x_n ad sz) Q) 0 0 (zAW x_n ad sz) := by
  refine Met.ofW (cc := cX7_add) (maxL := 3) (ret := none) (by decide) rfl ?_
  intro p e s m args below meth c s₁ B hml hv
  obtain ⟨rfl, hsz, hP, hK, hD0⟩ := hv
  subst hsz
  have C0 : zCx p s m meth c _ RX7 cX7_add 3 none vs_X7_add := ⟨B.exec, B.bytes, hml, B.returns, findClass_of_methodNamed B.named, atoms_spec (ws := vs_X7_add) B.pre, B.notSynchronized⟩
  have hD := x_D0 (n0 := s.heap.size) hD0
  have hl := lv_entry ([.ref (ad 1), .int x1]) (n := 3) (Nat.le_of_ble_eq_true rfl)
  rw [lg_entry_eq]
  generalize (lg_sl ([.ref (ad 1), .int x1]) ++ List.replicate (3 - (lg_sl ([.ref (ad 1), .int x1])).length) Slot.unset).toArray = ls at hl ⊢
  exact t_X7_add_0 C0 hK N x1 σ _ _ ls h hP hD va_S.rf hl
theorem k_X7_add (N : Nat) {R : Room} {H : Heap} {locs : List Loc} {cells slots : Nat} {Q2 : State → Prop} {cc : ByteArray} {nL pc index : Nat} {ls : Array Slot} {rest : List Value} {own : String} {c0 : Cond} {σ : zSt} {x1 : Int32} {Q : zSt → Prop} (S0 : CallFix p m c cc nL s args (c0 :: zT) own) (hml : Cond.methodLink own index yX7_add ∈ zT) (hR : rm_X7_add.frames + 1 ≤ R.frames ∧ 8 + (3 + 11) + rm_X7_add.locals ≤ R.locals) (h : w_X7_add N x1 σ Q) (hK : va_K (dC, dI) vwCl (x_ty cI cJ) s) (hP : va_P (dC, dI) vwCl (x_W ad cI cJ σ) H) (hD : va_D (zAW x_n ad s.heap.size) (x_W ad cI cJ σ)) (hS : va_S (zAW x_n ad s.heap.size) s.heap H locs) (hsz : ls.size = nL) (hW : (rest.map fun v => v.category).sum ≤ 8) (hcs : cells ≤ R.cells ∧ slots ≤ R.slots) (hdg : decode cc pc = .ok (.invokevirtual index, 3)) (kk : ∀ (τ : zSt) (H1 : Heap) (locs1 : List Loc), Q τ → va_P (dC, dI) vwCl (x_W ad cI cJ τ) H1 → va_D (zAW x_n ad s.heap.size) (x_W ad cI cJ τ) → va_S (zAW x_n ad s.heap.size) s.heap H1 locs1 → W p l e R s m args below meth c H1 locs1 cells slots Q2 (F0 m (pc + 3) ls (rest))) : W p l e R s m args below meth c H locs cells slots Q2 (F0 m pc ls (.int x1 :: .ref (ad 1) :: rest)) :=
  zcv_v (T := TX7) (N' := 2) (k := 1) (ci := 7) (fs := x_f1 ad σ) [.int x1] S0 (c_X7_add N l dC dI ad cI cJ H.size σ x1 Q h) (cw_X7_add S0.2.2.2.2 hml rfl rfl hR) rfl rfl hK hP hD hS rfl hsz hW rfl hcs hdg kk
end q00
section q00
def w_X11_feed (N : Nat) (x1 : Int32) (x2 : Int32) (x3 : Int32) (x4 : Int32) (x5 : Int32) (σ : zSt) (Q : Int32 → zSt → Prop) : Prop :=
  ((σ.1 0) ≤ (780 : Int32) → w_X7_add N x1 σ (fun τ2 => w_X7_add N x2 τ2 (fun τ4 => w_X7_add N x3 τ4 (fun τ6 => w_X7_add N x4 τ6 (fun τ8 => w_X7_add N x5 τ8 (fun τ10 => Q (τ10.1 0) τ10)))))) ∧ (¬ (σ.1 0) ≤ (780 : Int32) → Q (-1 : Int32) σ)
variable {p : Program} {l : Launch} {e : Env} {s : State} {m : MethodId} {args : Array Value} {below : List Frame} {meth : Method} {c : Code} {dC : Nat → ClassId} {dI : Nat → Nat → Nat} {ad : Nat → Nat} {cI cJ : ClassId}
set_option maxHeartbeats 4000000 in
set_option maxRecDepth 100000 in
theorem t_X11_feed_0 (C0 : zCx p s m meth c args RX11 cX11_feed 6 (some .int) vs_X11_feed) (hK : va_K (dC, dI) vwCl (x_ty cI cJ) s) (N : Nat) {Q : Int32 → zSt → Prop} : ∀ (x1 : Int32) (x2 : Int32) (x3 : Int32) (x4 : Int32) (x5 : Int32) (σ : zSt) (H : Heap) (locs : List Loc) (ls : Array Slot), w_X11_feed N x1 x2 x3 x4 x5 σ Q → va_P (dC, dI) vwCl (x_W ad cI cJ σ) H → va_D (zAW x_n ad s.heap.size) (x_W ad cI cJ σ) → va_S (zAW x_n ad s.heap.size) s.heap H locs → lv_has ls 6 [(0, .ref (ad 0)), (1, .int x1), (2, .int x2), (3, .int x3), (4, .int x4), (5, .int x5)] → W p l e rm_X11_feed s m args below meth c H locs 0 0 (MQ below (zQi (dC, dI) (x_ty cI cJ) (x_W ad cI cJ) (zAW x_n ad s.heap.size) Q) args s 0 0 (zAW x_n ad s.heap.size)) (F0 m 0 ls []) := by
  obtain ⟨hx, hb, hml, hr, hown, hts, hlocks⟩ := id C0
  intro x1 x2 x3 x4 x5 σ H locs ls h hP hD hS hl
  unfold w_X11_feed at h
  refine lv_aload_n hx hb dX11_feed_0 rfl (lv_at hl 0 rfl) ?_
  refine xg_0_0 hx hb hts hown hK hP mw_289 dX11_feed_1 ?_
  refine xg_1_1 hx hb hts hown hK hP mw_36 dX11_feed_4 ?_
  refine lv_sipush (v := (780 : Int32)) hx hb dX11_feed_7 (by decide) ?_
  refine lv_icmp_le (tgt := 15) hx hb dX11_feed_10 (by decide) (fun hc => ?_) (fun hc => ?_)
  · have h := h.1 hc
    refine lv_aload_n hx hb dX11_feed_15 rfl (lv_at hl 0 rfl) ?_
    refine xg_0_0 hx hb hts hown hK hP mw_289 dX11_feed_16 ?_
    refine lv_iload_n hx hb dX11_feed_19 rfl (lv_at hl 1 rfl) ?_
    refine k_X7_add N ⟨hx, hb, hml, hown, hts⟩ mw_310 ⟨Nat.le_of_ble_eq_true rfl, Nat.le_of_ble_eq_true rfl⟩ h hK hP hD hS hl.1 (rest := []) (Nat.le_of_ble_eq_true rfl) ⟨Nat.le_of_ble_eq_true rfl, Nat.le_of_ble_eq_true rfl⟩ dX11_feed_20 (fun τ2 H locs h hP hD hS => ?_)
    refine lv_aload_n hx hb dX11_feed_23 rfl (lv_at hl 0 rfl) ?_
    refine xg_0_0 hx hb hts hown hK hP mw_289 dX11_feed_24 ?_
    refine lv_iload_n hx hb dX11_feed_27 rfl (lv_at hl 2 rfl) ?_
    refine k_X7_add N ⟨hx, hb, hml, hown, hts⟩ mw_310 ⟨Nat.le_of_ble_eq_true rfl, Nat.le_of_ble_eq_true rfl⟩ h hK hP hD hS hl.1 (rest := []) (Nat.le_of_ble_eq_true rfl) ⟨Nat.le_of_ble_eq_true rfl, Nat.le_of_ble_eq_true rfl⟩ dX11_feed_28 (fun τ4 H locs h hP hD hS => ?_)
    refine lv_aload_n hx hb dX11_feed_31 rfl (lv_at hl 0 rfl) ?_
    refine xg_0_0 hx hb hts hown hK hP mw_289 dX11_feed_32 ?_
    refine lv_iload_n hx hb dX11_feed_35 rfl (lv_at hl 3 rfl) ?_
    refine k_X7_add N ⟨hx, hb, hml, hown, hts⟩ mw_310 ⟨Nat.le_of_ble_eq_true rfl, Nat.le_of_ble_eq_true rfl⟩ h hK hP hD hS hl.1 (rest := []) (Nat.le_of_ble_eq_true rfl) ⟨Nat.le_of_ble_eq_true rfl, Nat.le_of_ble_eq_true rfl⟩ dX11_feed_36 (fun τ6 H locs h hP hD hS => ?_)
    refine lv_aload_n hx hb dX11_feed_39 rfl (lv_at hl 0 rfl) ?_
    refine xg_0_0 hx hb hts hown hK hP mw_289 dX11_feed_40 ?_
    refine lv_iload hx hb dX11_feed_43 (lv_at hl 4 rfl) ?_
    refine k_X7_add N ⟨hx, hb, hml, hown, hts⟩ mw_310 ⟨Nat.le_of_ble_eq_true rfl, Nat.le_of_ble_eq_true rfl⟩ h hK hP hD hS hl.1 (rest := []) (Nat.le_of_ble_eq_true rfl) ⟨Nat.le_of_ble_eq_true rfl, Nat.le_of_ble_eq_true rfl⟩ dX11_feed_45 (fun τ8 H locs h hP hD hS => ?_)
    refine lv_aload_n hx hb dX11_feed_48 rfl (lv_at hl 0 rfl) ?_
    refine xg_0_0 hx hb hts hown hK hP mw_289 dX11_feed_49 ?_
    refine lv_iload hx hb dX11_feed_52 (lv_at hl 5 rfl) ?_
    refine k_X7_add N ⟨hx, hb, hml, hown, hts⟩ mw_310 ⟨Nat.le_of_ble_eq_true rfl, Nat.le_of_ble_eq_true rfl⟩ h hK hP hD hS hl.1 (rest := []) (Nat.le_of_ble_eq_true rfl) ⟨Nat.le_of_ble_eq_true rfl, Nat.le_of_ble_eq_true rfl⟩ dX11_feed_54 (fun τ10 H locs h hP hD hS => ?_)
    refine lv_aload_n hx hb dX11_feed_57 rfl (lv_at hl 0 rfl) ?_
    refine xg_0_0 hx hb hts hown hK hP mw_289 dX11_feed_58 ?_
    refine xg_1_1 hx hb hts hown hK hP mw_36 dX11_feed_61 ?_
    exact zret_i hx hb hr hlocks hK hP hD hS h dX11_feed_64
  · have h := h.2 hc
    refine lv_iconst (v := (-1 : Int32)) hx hb dX11_feed_13 (by decide) ?_
    exact zret_i hx hb hr hlocks hK hP hD hS h dX11_feed_14
set_option maxHeartbeats 4000000 in
set_option maxRecDepth 100000 in
theorem c_X11_feed (N : Nat) (l : Launch) (dC : Nat → ClassId) (dI : Nat → Nat → Nat) (ad : Nat → Nat) (cI cJ : ClassId) (sz : Nat) (σ : zSt) (x1 : Int32) (x2 : Int32) (x3 : Int32) (x4 : Int32) (x5 : Int32) (Q : Int32 → zSt → Prop) (h : w_X11_feed N x1 x2 x3 x4 x5 σ Q) : Met l yX11_feed vs_X11_feed rm_X11_feed (va_Pc [.ref (ad 0), .int x1, .int x2, .int x3, .int x4, .int x5] (zPc (dC, dI) (x_ty cI cJ) (x_W ad cI cJ) sz σ)) (zQi (dC, dI) (x_ty cI cJ) (x_W ad cI cJ) (zAW x_n ad sz) Q) 0 0 (zAW x_n ad sz) := by
  refine Met.ofW (cc := cX11_feed) (maxL := 6) (ret := (some .int)) (by decide) rfl ?_
  intro p e s m args below meth c s₁ B hml hv
  obtain ⟨rfl, hsz, hP, hK, hD0⟩ := hv
  subst hsz
  have C0 : zCx p s m meth c _ RX11 cX11_feed 6 (some .int) vs_X11_feed := ⟨B.exec, B.bytes, hml, B.returns, findClass_of_methodNamed B.named, atoms_spec (ws := vs_X11_feed) B.pre, B.notSynchronized⟩
  have hD := x_D0 (n0 := s.heap.size) hD0
  have hl := lv_entry ([.ref (ad 0), .int x1, .int x2, .int x3, .int x4, .int x5]) (n := 6) (Nat.le_of_ble_eq_true rfl)
  rw [lg_entry_eq]
  generalize (lg_sl ([.ref (ad 0), .int x1, .int x2, .int x3, .int x4, .int x5]) ++ List.replicate (6 - (lg_sl ([.ref (ad 0), .int x1, .int x2, .int x3, .int x4, .int x5])).length) Slot.unset).toArray = ls at hl ⊢
  exact t_X11_feed_0 C0 hK N x1 x2 x3 x4 x5 σ _ _ ls h hP hD va_S.rf hl
theorem k_X11_feed (N : Nat) {R : Room} {H : Heap} {locs : List Loc} {cells slots : Nat} {Q2 : State → Prop} {cc : ByteArray} {nL pc index : Nat} {ls : Array Slot} {rest : List Value} {own : String} {c0 : Cond} {σ : zSt} {x1 : Int32} {x2 : Int32} {x3 : Int32} {x4 : Int32} {x5 : Int32} {Q : Int32 → zSt → Prop} (S0 : CallFix p m c cc nL s args (c0 :: zT) own) (hml : Cond.methodLink own index yX11_feed ∈ zT) (hR : rm_X11_feed.frames + 1 ≤ R.frames ∧ 8 + (6 + 11) + rm_X11_feed.locals ≤ R.locals) (h : w_X11_feed N x1 x2 x3 x4 x5 σ Q) (hK : va_K (dC, dI) vwCl (x_ty cI cJ) s) (hP : va_P (dC, dI) vwCl (x_W ad cI cJ σ) H) (hD : va_D (zAW x_n ad s.heap.size) (x_W ad cI cJ σ)) (hS : va_S (zAW x_n ad s.heap.size) s.heap H locs) (hsz : ls.size = nL) (hW : (rest.map fun v => v.category).sum ≤ 8) (hcs : cells ≤ R.cells ∧ slots ≤ R.slots) (hdg : decode cc pc = .ok (.invokevirtual index, 3)) (kk : ∀ (r : Int32) (τ : zSt) (H1 : Heap) (locs1 : List Loc), Q r τ → va_P (dC, dI) vwCl (x_W ad cI cJ τ) H1 → va_D (zAW x_n ad s.heap.size) (x_W ad cI cJ τ) → va_S (zAW x_n ad s.heap.size) s.heap H1 locs1 → W p l e R s m args below meth c H1 locs1 cells slots Q2 (F0 m (pc + 3) ls (.int r :: rest))) : W p l e R s m args below meth c H locs cells slots Q2 (F0 m pc ls (.int x5 :: .int x4 :: .int x3 :: .int x2 :: .int x1 :: .ref (ad 0) :: rest)) :=
  zcv_i (T := TX11) (N' := 17) (k := 0) (ci := 11) (fs := x_f0 ad σ) [.int x1, .int x2, .int x3, .int x4, .int x5] S0 (c_X11_feed N l dC dI ad cI cJ H.size σ x1 x2 x3 x4 x5 Q h) (cw_X11_feed S0.2.2.2.2 hml rfl rfl hR) rfl rfl hK hP hD hS rfl hsz hW rfl hcs hdg kk
end q00
section q00
def w_X11_end (N : Nat) (x1 : Int32) (σ : zSt) (Q : Int32 → zSt → Prop) : Prop :=
  (x1 < 0 → Q (0 : Int32) σ) ∧ (¬ x1 < 0 → (x1 ≤ (σ.1 0) → ∀ τ1 : zSt, τ1 = zI σ 0 x1 → Q (1 : Int32) τ1) ∧ (¬ x1 ≤ (σ.1 0) → Q (0 : Int32) σ))
variable {p : Program} {l : Launch} {e : Env} {s : State} {m : MethodId} {args : Array Value} {below : List Frame} {meth : Method} {c : Code} {dC : Nat → ClassId} {dI : Nat → Nat → Nat} {ad : Nat → Nat} {cI cJ : ClassId}
set_option maxHeartbeats 4000000 in
set_option maxRecDepth 100000 in
theorem t_X11_end_0 (C0 : zCx p s m meth c args RX11 cX11_end 2 (some .boolean) vs_X11_end) (hK : va_K (dC, dI) vwCl (x_ty cI cJ) s) (N : Nat) {Q : Int32 → zSt → Prop} : ∀ (x1 : Int32) (σ : zSt) (H : Heap) (locs : List Loc) (ls : Array Slot), w_X11_end N x1 σ Q → va_P (dC, dI) vwCl (x_W ad cI cJ σ) H → va_D (zAW x_n ad s.heap.size) (x_W ad cI cJ σ) → va_S (zAW x_n ad s.heap.size) s.heap H locs → lv_has ls 2 [(0, .ref (ad 0)), (1, .int x1)] → W p l e rm_X11_end s m args below meth c H locs 0 0 (MQ below (zQi (dC, dI) (x_ty cI cJ) (x_W ad cI cJ) (zAW x_n ad s.heap.size) Q) args s 0 0 (zAW x_n ad s.heap.size)) (F0 m 0 ls []) := by
  obtain ⟨hx, hb, hml, hr, hown, hts, hlocks⟩ := id C0
  intro x1 σ H locs ls h hP hD hS hl
  unfold w_X11_end at h
  refine lv_iload_n hx hb dX11_end_0 rfl (lv_at hl 1 rfl) ?_
  refine lv_if_lt (tgt := 15) hx hb dX11_end_1 (by decide) (fun hc => ?_) (fun hc => ?_)
  · have h := h.1 hc
    refine lv_iconst (v := (0 : Int32)) hx hb dX11_end_15 (by decide) ?_
    exact zret_z hx hb hr hlocks hK hP hD hS zb_0 h dX11_end_16
  · have h := h.2 hc
    refine lv_iload_n hx hb dX11_end_4 rfl (lv_at hl 1 rfl) ?_
    refine lv_aload_n hx hb dX11_end_5 rfl (lv_at hl 0 rfl) ?_
    refine xg_0_0 hx hb hts hown hK hP mw_289 dX11_end_6 ?_
    refine xg_1_1 hx hb hts hown hK hP mw_36 dX11_end_9 ?_
    refine lv_icmp_le (tgt := 17) hx hb dX11_end_12 (by decide) (fun hc => ?_) (fun hc => ?_)
    · have h := h.1 hc
      refine lv_aload_n hx hb dX11_end_17 rfl (lv_at hl 0 rfl) ?_
      refine xg_0_0 hx hb hts hown hK hP mw_289 dX11_end_18 ?_
      refine lv_iload_n hx hb dX11_end_21 rfl (lv_at hl 1 rfl) ?_
      refine xp_1_1 hx hb hts hown hK hP hD hS mw_36 dX11_end_22 (fun τ1 H locs eτ1 hP hD hS => ?_)
      have h := h τ1 eτ1
      refine lv_iconst (v := (1 : Int32)) hx hb dX11_end_25 (by decide) ?_
      exact zret_z hx hb hr hlocks hK hP hD hS zb_1 h dX11_end_26
    · have h := h.2 hc
      refine lv_iconst (v := (0 : Int32)) hx hb dX11_end_15 (by decide) ?_
      exact zret_z hx hb hr hlocks hK hP hD hS zb_0 h dX11_end_16
set_option maxHeartbeats 4000000 in
set_option maxRecDepth 100000 in
theorem c_X11_end (N : Nat) (l : Launch) (dC : Nat → ClassId) (dI : Nat → Nat → Nat) (ad : Nat → Nat) (cI cJ : ClassId) (sz : Nat) (σ : zSt) (x1 : Int32) (Q : Int32 → zSt → Prop) (h : w_X11_end N x1 σ Q) : Met l yX11_end vs_X11_end rm_X11_end (va_Pc [.ref (ad 0), .int x1] (zPc (dC, dI) (x_ty cI cJ) (x_W ad cI cJ) sz σ)) (zQi (dC, dI) (x_ty cI cJ) (x_W ad cI cJ) (zAW x_n ad sz) Q) 0 0 (zAW x_n ad sz) := by
  refine Met.ofW (cc := cX11_end) (maxL := 2) (ret := (some .boolean)) (by decide) rfl ?_
  intro p e s m args below meth c s₁ B hml hv
  obtain ⟨rfl, hsz, hP, hK, hD0⟩ := hv
  subst hsz
  have C0 : zCx p s m meth c _ RX11 cX11_end 2 (some .boolean) vs_X11_end := ⟨B.exec, B.bytes, hml, B.returns, findClass_of_methodNamed B.named, atoms_spec (ws := vs_X11_end) B.pre, B.notSynchronized⟩
  have hD := x_D0 (n0 := s.heap.size) hD0
  have hl := lv_entry ([.ref (ad 0), .int x1]) (n := 2) (Nat.le_of_ble_eq_true rfl)
  rw [lg_entry_eq]
  generalize (lg_sl ([.ref (ad 0), .int x1]) ++ List.replicate (2 - (lg_sl ([.ref (ad 0), .int x1])).length) Slot.unset).toArray = ls at hl ⊢
  exact t_X11_end_0 C0 hK N x1 σ _ _ ls h hP hD va_S.rf hl
theorem k_X11_end (N : Nat) {R : Room} {H : Heap} {locs : List Loc} {cells slots : Nat} {Q2 : State → Prop} {cc : ByteArray} {nL pc index : Nat} {ls : Array Slot} {rest : List Value} {own : String} {c0 : Cond} {σ : zSt} {x1 : Int32} {Q : Int32 → zSt → Prop} (S0 : CallFix p m c cc nL s args (c0 :: zT) own) (hml : Cond.methodLink own index yX11_end ∈ zT) (hR : rm_X11_end.frames + 1 ≤ R.frames ∧ 8 + (2 + 11) + rm_X11_end.locals ≤ R.locals) (h : w_X11_end N x1 σ Q) (hK : va_K (dC, dI) vwCl (x_ty cI cJ) s) (hP : va_P (dC, dI) vwCl (x_W ad cI cJ σ) H) (hD : va_D (zAW x_n ad s.heap.size) (x_W ad cI cJ σ)) (hS : va_S (zAW x_n ad s.heap.size) s.heap H locs) (hsz : ls.size = nL) (hW : (rest.map fun v => v.category).sum ≤ 8) (hcs : cells ≤ R.cells ∧ slots ≤ R.slots) (hdg : decode cc pc = .ok (.invokevirtual index, 3)) (kk : ∀ (r : Int32) (τ : zSt) (H1 : Heap) (locs1 : List Loc), Q r τ → va_P (dC, dI) vwCl (x_W ad cI cJ τ) H1 → va_D (zAW x_n ad s.heap.size) (x_W ad cI cJ τ) → va_S (zAW x_n ad s.heap.size) s.heap H1 locs1 → W p l e R s m args below meth c H1 locs1 cells slots Q2 (F0 m (pc + 3) ls (.int r :: rest))) : W p l e R s m args below meth c H locs cells slots Q2 (F0 m pc ls (.int x1 :: .ref (ad 0) :: rest)) :=
  zcv_i (T := TX11) (N' := 17) (k := 0) (ci := 11) (fs := x_f0 ad σ) [.int x1] S0 (c_X11_end N l dC dI ad cI cJ H.size σ x1 Q h) (cw_X11_end S0.2.2.2.2 hml rfl rfl hR) rfl rfl hK hP hD hS rfl hsz hW rfl hcs hdg kk
end q00
section q00
def w_X4_clear (N : Nat)  (σ : zSt) (Q : zSt → Prop) : Prop :=
  ∀ τ1 : zSt, τ1 = zI σ 17 (0 : Int32) → ∀ τ2 : zSt, τ2 = zI τ1 18 (0 : Int32) → ∀ τ3 : zSt, τ3 = zI τ2 19 (0 : Int32) → ∀ τ4 : zSt, τ4 = zJ τ3 3 (0 : Int64) → Q τ4
variable {p : Program} {l : Launch} {e : Env} {s : State} {m : MethodId} {args : Array Value} {below : List Frame} {meth : Method} {c : Code} {dC : Nat → ClassId} {dI : Nat → Nat → Nat} {ad : Nat → Nat} {cI cJ : ClassId}
set_option maxHeartbeats 4000000 in
set_option maxRecDepth 100000 in
theorem t_X4_clear_0 (C0 : zCx p s m meth c args RX4 cX4_clear 1 none vs_X4_clear) (hK : va_K (dC, dI) vwCl (x_ty cI cJ) s) (N : Nat) {Q : zSt → Prop} : ∀  (σ : zSt) (H : Heap) (locs : List Loc) (ls : Array Slot), w_X4_clear N  σ Q → va_P (dC, dI) vwCl (x_W ad cI cJ σ) H → va_D (zAW x_n ad s.heap.size) (x_W ad cI cJ σ) → va_S (zAW x_n ad s.heap.size) s.heap H locs → lv_has ls 1 [(0, .ref (ad 6))] → W p l e rm_X4_clear s m args below meth c H locs 0 0 (MQ below (zQv (dC, dI) (x_ty cI cJ) (x_W ad cI cJ) (zAW x_n ad s.heap.size) Q) args s 0 0 (zAW x_n ad s.heap.size)) (F0 m 0 ls []) := by
  obtain ⟨hx, hb, hml, hr, hown, hts, hlocks⟩ := id C0
  intro  σ H locs ls h hP hD hS hl
  unfold w_X4_clear at h
  refine lv_aload_n hx hb dX4_clear_0 rfl (lv_at hl 0 rfl) ?_
  refine lv_iconst (v := (0 : Int32)) hx hb dX4_clear_1 (by decide) ?_
  refine xp_6_4 hx hb hts hown hK hP hD hS mw_73 dX4_clear_2 (fun τ1 H locs eτ1 hP hD hS => ?_)
  have h := h τ1 eτ1
  refine lv_aload_n hx hb dX4_clear_5 rfl (lv_at hl 0 rfl) ?_
  refine lv_iconst (v := (0 : Int32)) hx hb dX4_clear_6 (by decide) ?_
  refine xp_6_5 hx hb hts hown hK hP hD hS mw_78 dX4_clear_7 (fun τ2 H locs eτ2 hP hD hS => ?_)
  have h := h τ2 eτ2
  refine lv_aload_n hx hb dX4_clear_10 rfl (lv_at hl 0 rfl) ?_
  refine lv_iconst (v := (0 : Int32)) hx hb dX4_clear_11 (by decide) ?_
  refine xp_6_6 hx hb hts hown hK hP hD hS mw_83 dX4_clear_12 (fun τ3 H locs eτ3 hP hD hS => ?_)
  have h := h τ3 eτ3
  refine lv_aload_n hx hb dX4_clear_15 rfl (lv_at hl 0 rfl) ?_
  refine lv_lconst (v := (0 : Int64)) hx hb dX4_clear_16 (by decide) ?_
  refine xp_6_7 hx hb hts hown hK hP hD hS mw_85 dX4_clear_17 (fun τ4 H locs eτ4 hP hD hS => ?_)
  have h := h τ4 eτ4
  exact zret_v hx hb hr hlocks hK hP hD hS h dX4_clear_20
set_option maxHeartbeats 4000000 in
set_option maxRecDepth 100000 in
theorem c_X4_clear (N : Nat) (l : Launch) (dC : Nat → ClassId) (dI : Nat → Nat → Nat) (ad : Nat → Nat) (cI cJ : ClassId) (sz : Nat) (σ : zSt)  (Q : zSt → Prop) (h : w_X4_clear N  σ Q) : Met l yX4_clear vs_X4_clear rm_X4_clear (va_Pc [.ref (ad 6)] (zPc (dC, dI) (x_ty cI cJ) (x_W ad cI cJ) sz σ)) (zQv (dC, dI) (x_ty cI cJ) (x_W ad cI cJ) (zAW x_n ad sz) Q) 0 0 (zAW x_n ad sz) := by
  refine Met.ofW (cc := cX4_clear) (maxL := 1) (ret := none) (by decide) rfl ?_
  intro p e s m args below meth c s₁ B hml hv
  obtain ⟨rfl, hsz, hP, hK, hD0⟩ := hv
  subst hsz
  have C0 : zCx p s m meth c _ RX4 cX4_clear 1 none vs_X4_clear := ⟨B.exec, B.bytes, hml, B.returns, findClass_of_methodNamed B.named, atoms_spec (ws := vs_X4_clear) B.pre, B.notSynchronized⟩
  have hD := x_D0 (n0 := s.heap.size) hD0
  have hl := lv_entry ([.ref (ad 6)]) (n := 1) (Nat.le_of_ble_eq_true rfl)
  rw [lg_entry_eq]
  generalize (lg_sl ([.ref (ad 6)]) ++ List.replicate (1 - (lg_sl ([.ref (ad 6)])).length) Slot.unset).toArray = ls at hl ⊢
  exact t_X4_clear_0 C0 hK N  σ _ _ ls h hP hD va_S.rf hl
theorem k_X4_clear (N : Nat) {R : Room} {H : Heap} {locs : List Loc} {cells slots : Nat} {Q2 : State → Prop} {cc : ByteArray} {nL pc index : Nat} {ls : Array Slot} {rest : List Value} {own : String} {c0 : Cond} {σ : zSt}  {Q : zSt → Prop} (S0 : CallFix p m c cc nL s args (c0 :: zT) own) (hml : Cond.methodLink own index yX4_clear ∈ zT) (hR : rm_X4_clear.frames + 1 ≤ R.frames ∧ 8 + (1 + 11) + rm_X4_clear.locals ≤ R.locals) (h : w_X4_clear N  σ Q) (hK : va_K (dC, dI) vwCl (x_ty cI cJ) s) (hP : va_P (dC, dI) vwCl (x_W ad cI cJ σ) H) (hD : va_D (zAW x_n ad s.heap.size) (x_W ad cI cJ σ)) (hS : va_S (zAW x_n ad s.heap.size) s.heap H locs) (hsz : ls.size = nL) (hW : (rest.map fun v => v.category).sum ≤ 8) (hcs : cells ≤ R.cells ∧ slots ≤ R.slots) (hdg : decode cc pc = .ok (.invokevirtual index, 3)) (kk : ∀ (τ : zSt) (H1 : Heap) (locs1 : List Loc), Q τ → va_P (dC, dI) vwCl (x_W ad cI cJ τ) H1 → va_D (zAW x_n ad s.heap.size) (x_W ad cI cJ τ) → va_S (zAW x_n ad s.heap.size) s.heap H1 locs1 → W p l e R s m args below meth c H1 locs1 cells slots Q2 (F0 m (pc + 3) ls (rest))) : W p l e R s m args below meth c H locs cells slots Q2 (F0 m pc ls (.ref (ad 6) :: rest)) :=
  zcv_v (T := TX4) (N' := 8) (k := 6) (ci := 4) (fs := x_f6 ad σ) [] S0 (c_X4_clear N l dC dI ad cI cJ H.size σ  Q h) (cw_X4_clear S0.2.2.2.2 hml rfl rfl hR) rfl rfl hK hP hD hS rfl hsz hW rfl hcs hdg kk
end q00
section q00
def w_X6_clear (N : Nat)  (σ : zSt) (Q : zSt → Prop) : Prop :=
  ∀ τ1 : zSt, τ1 = zI σ 20 (0 : Int32) → ∀ τ2 : zSt, τ2 = zI τ1 21 (0 : Int32) → Q τ2
variable {p : Program} {l : Launch} {e : Env} {s : State} {m : MethodId} {args : Array Value} {below : List Frame} {meth : Method} {c : Code} {dC : Nat → ClassId} {dI : Nat → Nat → Nat} {ad : Nat → Nat} {cI cJ : ClassId}
set_option maxHeartbeats 4000000 in
set_option maxRecDepth 100000 in
theorem t_X6_clear_0 (C0 : zCx p s m meth c args RX6 cX6_clear 1 none vs_X6_clear) (hK : va_K (dC, dI) vwCl (x_ty cI cJ) s) (N : Nat) {Q : zSt → Prop} : ∀  (σ : zSt) (H : Heap) (locs : List Loc) (ls : Array Slot), w_X6_clear N  σ Q → va_P (dC, dI) vwCl (x_W ad cI cJ σ) H → va_D (zAW x_n ad s.heap.size) (x_W ad cI cJ σ) → va_S (zAW x_n ad s.heap.size) s.heap H locs → lv_has ls 1 [(0, .ref (ad 7))] → W p l e rm_X6_clear s m args below meth c H locs 0 0 (MQ below (zQv (dC, dI) (x_ty cI cJ) (x_W ad cI cJ) (zAW x_n ad s.heap.size) Q) args s 0 0 (zAW x_n ad s.heap.size)) (F0 m 0 ls []) := by
  obtain ⟨hx, hb, hml, hr, hown, hts, hlocks⟩ := id C0
  intro  σ H locs ls h hP hD hS hl
  unfold w_X6_clear at h
  refine lv_aload_n hx hb dX6_clear_0 rfl (lv_at hl 0 rfl) ?_
  refine lv_iconst (v := (0 : Int32)) hx hb dX6_clear_1 (by decide) ?_
  refine xp_7_7 hx hb hts hown hK hP hD hS mw_100 dX6_clear_2 (fun τ1 H locs eτ1 hP hD hS => ?_)
  have h := h τ1 eτ1
  refine lv_aload_n hx hb dX6_clear_5 rfl (lv_at hl 0 rfl) ?_
  refine lv_iconst (v := (0 : Int32)) hx hb dX6_clear_6 (by decide) ?_
  refine xp_7_8 hx hb hts hown hK hP hD hS mw_102 dX6_clear_7 (fun τ2 H locs eτ2 hP hD hS => ?_)
  have h := h τ2 eτ2
  exact zret_v hx hb hr hlocks hK hP hD hS h dX6_clear_10
set_option maxHeartbeats 4000000 in
set_option maxRecDepth 100000 in
theorem c_X6_clear (N : Nat) (l : Launch) (dC : Nat → ClassId) (dI : Nat → Nat → Nat) (ad : Nat → Nat) (cI cJ : ClassId) (sz : Nat) (σ : zSt)  (Q : zSt → Prop) (h : w_X6_clear N  σ Q) : Met l yX6_clear vs_X6_clear rm_X6_clear (va_Pc [.ref (ad 7)] (zPc (dC, dI) (x_ty cI cJ) (x_W ad cI cJ) sz σ)) (zQv (dC, dI) (x_ty cI cJ) (x_W ad cI cJ) (zAW x_n ad sz) Q) 0 0 (zAW x_n ad sz) := by
  refine Met.ofW (cc := cX6_clear) (maxL := 1) (ret := none) (by decide) rfl ?_
  intro p e s m args below meth c s₁ B hml hv
  obtain ⟨rfl, hsz, hP, hK, hD0⟩ := hv
  subst hsz
  have C0 : zCx p s m meth c _ RX6 cX6_clear 1 none vs_X6_clear := ⟨B.exec, B.bytes, hml, B.returns, findClass_of_methodNamed B.named, atoms_spec (ws := vs_X6_clear) B.pre, B.notSynchronized⟩
  have hD := x_D0 (n0 := s.heap.size) hD0
  have hl := lv_entry ([.ref (ad 7)]) (n := 1) (Nat.le_of_ble_eq_true rfl)
  rw [lg_entry_eq]
  generalize (lg_sl ([.ref (ad 7)]) ++ List.replicate (1 - (lg_sl ([.ref (ad 7)])).length) Slot.unset).toArray = ls at hl ⊢
  exact t_X6_clear_0 C0 hK N  σ _ _ ls h hP hD va_S.rf hl
theorem k_X6_clear (N : Nat) {R : Room} {H : Heap} {locs : List Loc} {cells slots : Nat} {Q2 : State → Prop} {cc : ByteArray} {nL pc index : Nat} {ls : Array Slot} {rest : List Value} {own : String} {c0 : Cond} {σ : zSt}  {Q : zSt → Prop} (S0 : CallFix p m c cc nL s args (c0 :: zT) own) (hml : Cond.methodLink own index yX6_clear ∈ zT) (hR : rm_X6_clear.frames + 1 ≤ R.frames ∧ 8 + (1 + 11) + rm_X6_clear.locals ≤ R.locals) (h : w_X6_clear N  σ Q) (hK : va_K (dC, dI) vwCl (x_ty cI cJ) s) (hP : va_P (dC, dI) vwCl (x_W ad cI cJ σ) H) (hD : va_D (zAW x_n ad s.heap.size) (x_W ad cI cJ σ)) (hS : va_S (zAW x_n ad s.heap.size) s.heap H locs) (hsz : ls.size = nL) (hW : (rest.map fun v => v.category).sum ≤ 8) (hcs : cells ≤ R.cells ∧ slots ≤ R.slots) (hdg : decode cc pc = .ok (.invokevirtual index, 3)) (kk : ∀ (τ : zSt) (H1 : Heap) (locs1 : List Loc), Q τ → va_P (dC, dI) vwCl (x_W ad cI cJ τ) H1 → va_D (zAW x_n ad s.heap.size) (x_W ad cI cJ τ) → va_S (zAW x_n ad s.heap.size) s.heap H1 locs1 → W p l e R s m args below meth c H1 locs1 cells slots Q2 (F0 m (pc + 3) ls (rest))) : W p l e R s m args below meth c H locs cells slots Q2 (F0 m pc ls (.ref (ad 7) :: rest)) :=
  zcv_v (T := TX6) (N' := 10) (k := 7) (ci := 6) (fs := x_f7 ad σ) [] S0 (c_X6_clear N l dC dI ad cI cJ H.size σ  Q h) (cw_X6_clear S0.2.2.2.2 hml rfl rfl hR) rfl rfl hK hP hD hS rfl hsz hW rfl hcs hdg kk
end q00
section q00
def w_X7_at (N : Nat) (x1 : Int32) (σ : zSt) (Q : Int32 → zSt → Prop) : Prop :=
  (x1 < 0 → Q (-1 : Int32) σ) ∧ (¬ x1 < 0 → ((σ.1 0) ≤ x1 → Q (-1 : Int32) σ) ∧ (¬ (σ.1 0) ≤ x1 → ((800 : Int32) ≤ x1 → Q (-1 : Int32) σ) ∧ (¬ (800 : Int32) ≤ x1 → (vp_in x1 800) ∧ (Q (σ.2.2.1 2 x1.toNatClampNeg) σ))))
variable {p : Program} {l : Launch} {e : Env} {s : State} {m : MethodId} {args : Array Value} {below : List Frame} {meth : Method} {c : Code} {dC : Nat → ClassId} {dI : Nat → Nat → Nat} {ad : Nat → Nat} {cI cJ : ClassId}
set_option maxHeartbeats 4000000 in
set_option maxRecDepth 100000 in
theorem t_X7_at_0 (C0 : zCx p s m meth c args RX7 cX7_at 2 (some .int) vs_X7_at) (hK : va_K (dC, dI) vwCl (x_ty cI cJ) s) (N : Nat) {Q : Int32 → zSt → Prop} : ∀ (x1 : Int32) (σ : zSt) (H : Heap) (locs : List Loc) (ls : Array Slot), w_X7_at N x1 σ Q → va_P (dC, dI) vwCl (x_W ad cI cJ σ) H → va_D (zAW x_n ad s.heap.size) (x_W ad cI cJ σ) → va_S (zAW x_n ad s.heap.size) s.heap H locs → lv_has ls 2 [(0, .ref (ad 1)), (1, .int x1)] → W p l e rm_X7_at s m args below meth c H locs 0 0 (MQ below (zQi (dC, dI) (x_ty cI cJ) (x_W ad cI cJ) (zAW x_n ad s.heap.size) Q) args s 0 0 (zAW x_n ad s.heap.size)) (F0 m 0 ls []) := by
  obtain ⟨hx, hb, hml, hr, hown, hts, hlocks⟩ := id C0
  intro x1 σ H locs ls h hP hD hS hl
  unfold w_X7_at at h
  refine lv_iload_n hx hb dX7_at_0 rfl (lv_at hl 1 rfl) ?_
  refine lv_if_lt (tgt := 30) hx hb dX7_at_1 (by decide) (fun hc => ?_) (fun hc => ?_)
  · have h := h.1 hc
    refine lv_iconst (v := (-1 : Int32)) hx hb dX7_at_30 (by decide) ?_
    exact zret_i hx hb hr hlocks hK hP hD hS h dX7_at_31
  · have h := h.2 hc
    refine lv_iload_n hx hb dX7_at_4 rfl (lv_at hl 1 rfl) ?_
    refine lv_aload_n hx hb dX7_at_5 rfl (lv_at hl 0 rfl) ?_
    refine xg_1_1 hx hb hts hown hK hP mw_37 dX7_at_6 ?_
    refine lv_icmp_ge (tgt := 30) hx hb dX7_at_9 (by decide) (fun hc => ?_) (fun hc => ?_)
    · have h := h.1 hc
      refine lv_iconst (v := (-1 : Int32)) hx hb dX7_at_30 (by decide) ?_
      exact zret_i hx hb hr hlocks hK hP hD hS h dX7_at_31
    · have h := h.2 hc
      refine lv_iload_n hx hb dX7_at_12 rfl (lv_at hl 1 rfl) ?_
      refine lv_aload_n hx hb dX7_at_13 rfl (lv_at hl 0 rfl) ?_
      refine xg_1_0 hx hb hts hown hK hP mw_35 dX7_at_14 ?_
      refine xl_19 hx hb hK hP dX7_at_17 ?_
      refine lv_icmp_ge (tgt := 30) hx hb dX7_at_18 (by decide) (fun hc => ?_) (fun hc => ?_)
      · have h := h.1 hc
        refine lv_iconst (v := (-1 : Int32)) hx hb dX7_at_30 (by decide) ?_
        exact zret_i hx hb hr hlocks hK hP hD hS h dX7_at_31
      · have h := h.2 hc
        refine lv_aload_n hx hb dX7_at_21 rfl (lv_at hl 0 rfl) ?_
        refine xg_1_0 hx hb hts hown hK hP mw_35 dX7_at_22 ?_
        refine lv_iload_n hx hb dX7_at_25 rfl (lv_at hl 1 rfl) ?_
        refine xa_19 hx hb hK hP h.1 rfl dX7_at_26 ?_
        have h := h.2
        refine lv_goto (tgt := 31) hx hb dX7_at_27 (by decide) ?_
        exact zret_i hx hb hr hlocks hK hP hD hS h dX7_at_31
set_option maxHeartbeats 4000000 in
set_option maxRecDepth 100000 in
theorem c_X7_at (N : Nat) (l : Launch) (dC : Nat → ClassId) (dI : Nat → Nat → Nat) (ad : Nat → Nat) (cI cJ : ClassId) (sz : Nat) (σ : zSt) (x1 : Int32) (Q : Int32 → zSt → Prop) (h : w_X7_at N x1 σ Q) : Met l yX7_at vs_X7_at rm_X7_at (va_Pc [.ref (ad 1), .int x1] (zPc (dC, dI) (x_ty cI cJ) (x_W ad cI cJ) sz σ)) (zQi (dC, dI) (x_ty cI cJ) (x_W ad cI cJ) (zAW x_n ad sz) Q) 0 0 (zAW x_n ad sz) := by
  refine Met.ofW (cc := cX7_at) (maxL := 2) (ret := (some .int)) (by decide) rfl ?_
  intro p e s m args below meth c s₁ B hml hv
  obtain ⟨rfl, hsz, hP, hK, hD0⟩ := hv
  subst hsz
  have C0 : zCx p s m meth c _ RX7 cX7_at 2 (some .int) vs_X7_at := ⟨B.exec, B.bytes, hml, B.returns, findClass_of_methodNamed B.named, atoms_spec (ws := vs_X7_at) B.pre, B.notSynchronized⟩
  have hD := x_D0 (n0 := s.heap.size) hD0
  have hl := lv_entry ([.ref (ad 1), .int x1]) (n := 2) (Nat.le_of_ble_eq_true rfl)
  rw [lg_entry_eq]
  generalize (lg_sl ([.ref (ad 1), .int x1]) ++ List.replicate (2 - (lg_sl ([.ref (ad 1), .int x1])).length) Slot.unset).toArray = ls at hl ⊢
  exact t_X7_at_0 C0 hK N x1 σ _ _ ls h hP hD va_S.rf hl
theorem k_X7_at (N : Nat) {R : Room} {H : Heap} {locs : List Loc} {cells slots : Nat} {Q2 : State → Prop} {cc : ByteArray} {nL pc index : Nat} {ls : Array Slot} {rest : List Value} {own : String} {c0 : Cond} {σ : zSt} {x1 : Int32} {Q : Int32 → zSt → Prop} (S0 : CallFix p m c cc nL s args (c0 :: zT) own) (hml : Cond.methodLink own index yX7_at ∈ zT) (hR : rm_X7_at.frames + 1 ≤ R.frames ∧ 8 + (2 + 11) + rm_X7_at.locals ≤ R.locals) (h : w_X7_at N x1 σ Q) (hK : va_K (dC, dI) vwCl (x_ty cI cJ) s) (hP : va_P (dC, dI) vwCl (x_W ad cI cJ σ) H) (hD : va_D (zAW x_n ad s.heap.size) (x_W ad cI cJ σ)) (hS : va_S (zAW x_n ad s.heap.size) s.heap H locs) (hsz : ls.size = nL) (hW : (rest.map fun v => v.category).sum ≤ 8) (hcs : cells ≤ R.cells ∧ slots ≤ R.slots) (hdg : decode cc pc = .ok (.invokevirtual index, 3)) (kk : ∀ (r : Int32) (τ : zSt) (H1 : Heap) (locs1 : List Loc), Q r τ → va_P (dC, dI) vwCl (x_W ad cI cJ τ) H1 → va_D (zAW x_n ad s.heap.size) (x_W ad cI cJ τ) → va_S (zAW x_n ad s.heap.size) s.heap H1 locs1 → W p l e R s m args below meth c H1 locs1 cells slots Q2 (F0 m (pc + 3) ls (.int r :: rest))) : W p l e R s m args below meth c H locs cells slots Q2 (F0 m pc ls (.int x1 :: .ref (ad 1) :: rest)) :=
  zcv_i (T := TX7) (N' := 2) (k := 1) (ci := 7) (fs := x_f1 ad σ) [.int x1] S0 (c_X7_at N l dC dI ad cI cJ H.size σ x1 Q h) (cw_X7_at S0.2.2.2.2 hml rfl rfl hR) rfl rfl hK hP hD hS rfl hsz hW rfl hcs hdg kk
end q00
section q00
def w_X8_isBlank (N : Nat) (x0 : Int32) (σ : zSt) (Q : Int32 → zSt → Prop) : Prop :=
  (x0 = (10 : Int32) → Q (1 : Int32) σ) ∧ (¬ x0 = (10 : Int32) → (x0 = (32 : Int32) → Q (1 : Int32) σ) ∧ (¬ x0 = (32 : Int32) → Q (0 : Int32) σ))
variable {p : Program} {l : Launch} {e : Env} {s : State} {m : MethodId} {args : Array Value} {below : List Frame} {meth : Method} {c : Code} {dC : Nat → ClassId} {dI : Nat → Nat → Nat} {ad : Nat → Nat} {cI cJ : ClassId}
set_option maxHeartbeats 4000000 in
set_option maxRecDepth 100000 in
theorem t_X8_isBlank_0 (C0 : zCx p s m meth c args RX8 cX8_isBlank 1 (some .boolean) vs_X8_isBlank) (hK : va_K (dC, dI) vwCl (x_ty cI cJ) s) (N : Nat) {Q : Int32 → zSt → Prop} : ∀ (x0 : Int32) (σ : zSt) (H : Heap) (locs : List Loc) (ls : Array Slot), w_X8_isBlank N x0 σ Q → va_P (dC, dI) vwCl (x_W ad cI cJ σ) H → va_D (zAW x_n ad s.heap.size) (x_W ad cI cJ σ) → va_S (zAW x_n ad s.heap.size) s.heap H locs → lv_has ls 1 [(0, .int x0)] → W p l e rm_X8_isBlank s m args below meth c H locs 0 0 (MQ below (zQi (dC, dI) (x_ty cI cJ) (x_W ad cI cJ) (zAW x_n ad s.heap.size) Q) args s 0 0 (zAW x_n ad s.heap.size)) (F0 m 0 ls []) := by
  obtain ⟨hx, hb, hml, hr, hown, hts, hlocks⟩ := id C0
  intro x0 σ H locs ls h hP hD hS hl
  unfold w_X8_isBlank at h
  refine lv_iload_n hx hb dX8_isBlank_0 rfl (lv_at hl 0 rfl) ?_
  refine lv_bipush (v := (10 : Int32)) hx hb dX8_isBlank_1 (by decide) ?_
  refine lv_icmp_eq (tgt := 12) hx hb dX8_isBlank_3 (by decide) (fun hc => ?_) (fun hc => ?_)
  · have h := h.1 hc
    refine lv_iconst (v := (1 : Int32)) hx hb dX8_isBlank_12 (by decide) ?_
    refine lv_goto (tgt := 17) hx hb dX8_isBlank_13 (by decide) ?_
    exact zret_z hx hb hr hlocks hK hP hD hS zb_1 h dX8_isBlank_17
  · have h := h.2 hc
    refine lv_iload_n hx hb dX8_isBlank_6 rfl (lv_at hl 0 rfl) ?_
    refine lv_bipush (v := (32 : Int32)) hx hb dX8_isBlank_7 (by decide) ?_
    refine lv_icmp_ne (tgt := 16) hx hb dX8_isBlank_9 (by decide) (fun hc => ?_) (fun hc => ?_)
    · have h := h.2 hc
      refine lv_iconst (v := (0 : Int32)) hx hb dX8_isBlank_16 (by decide) ?_
      exact zret_z hx hb hr hlocks hK hP hD hS zb_0 h dX8_isBlank_17
    · have h := h.1 hc
      refine lv_iconst (v := (1 : Int32)) hx hb dX8_isBlank_12 (by decide) ?_
      refine lv_goto (tgt := 17) hx hb dX8_isBlank_13 (by decide) ?_
      exact zret_z hx hb hr hlocks hK hP hD hS zb_1 h dX8_isBlank_17
set_option maxHeartbeats 4000000 in
set_option maxRecDepth 100000 in
theorem c_X8_isBlank (N : Nat) (l : Launch) (dC : Nat → ClassId) (dI : Nat → Nat → Nat) (ad : Nat → Nat) (cI cJ : ClassId) (sz : Nat) (σ : zSt) (x0 : Int32) (Q : Int32 → zSt → Prop) (h : w_X8_isBlank N x0 σ Q) : Met l yX8_isBlank vs_X8_isBlank rm_X8_isBlank (va_Pc [.int x0] (zPc (dC, dI) (x_ty cI cJ) (x_W ad cI cJ) sz σ)) (zQi (dC, dI) (x_ty cI cJ) (x_W ad cI cJ) (zAW x_n ad sz) Q) 0 0 (zAW x_n ad sz) := by
  refine Met.ofW (cc := cX8_isBlank) (maxL := 1) (ret := (some .boolean)) (by decide) rfl ?_
  intro p e s m args below meth c s₁ B hml hv
  obtain ⟨rfl, hsz, hP, hK, hD0⟩ := hv
  subst hsz
  have C0 : zCx p s m meth c _ RX8 cX8_isBlank 1 (some .boolean) vs_X8_isBlank := ⟨B.exec, B.bytes, hml, B.returns, findClass_of_methodNamed B.named, atoms_spec (ws := vs_X8_isBlank) B.pre, B.notSynchronized⟩
  have hD := x_D0 (n0 := s.heap.size) hD0
  have hl := lv_entry ([.int x0]) (n := 1) (Nat.le_of_ble_eq_true rfl)
  rw [lg_entry_eq]
  generalize (lg_sl ([.int x0]) ++ List.replicate (1 - (lg_sl ([.int x0])).length) Slot.unset).toArray = ls at hl ⊢
  exact t_X8_isBlank_0 C0 hK N x0 σ _ _ ls h hP hD va_S.rf hl
theorem k_X8_isBlank (N : Nat) {R : Room} {H : Heap} {locs : List Loc} {cells slots : Nat} {Q2 : State → Prop} {cc : ByteArray} {nL pc index : Nat} {ls : Array Slot} {rest : List Value} {own : String} {c0 : Cond} {σ : zSt} {x0 : Int32} {Q : Int32 → zSt → Prop} (S0 : CallFix p m c cc nL s args (c0 :: zT) own) (hml : Cond.methodLink own index yX8_isBlank ∈ zT) (hR : rm_X8_isBlank.frames + 1 ≤ R.frames ∧ 8 + (1 + 11) + rm_X8_isBlank.locals ≤ R.locals) (h : w_X8_isBlank N x0 σ Q) (hK : va_K (dC, dI) vwCl (x_ty cI cJ) s) (hP : va_P (dC, dI) vwCl (x_W ad cI cJ σ) H) (hD : va_D (zAW x_n ad s.heap.size) (x_W ad cI cJ σ)) (hS : va_S (zAW x_n ad s.heap.size) s.heap H locs) (hsz : ls.size = nL) (hW : (rest.map fun v => v.category).sum ≤ 8) (hcs : cells ≤ R.cells ∧ slots ≤ R.slots) (hdg : decode cc pc = .ok (.invokestatic index, 3)) (kk : ∀ (r : Int32) (τ : zSt) (H1 : Heap) (locs1 : List Loc), Q r τ → va_P (dC, dI) vwCl (x_W ad cI cJ τ) H1 → va_D (zAW x_n ad s.heap.size) (x_W ad cI cJ τ) → va_S (zAW x_n ad s.heap.size) s.heap H1 locs1 → W p l e R s m args below meth c H1 locs1 cells slots Q2 (F0 m (pc + 3) ls (.int r :: rest))) : W p l e R s m args below meth c H locs cells slots Q2 (F0 m pc ls (.int x0 :: rest)) :=
  zcs_i [.int x0] S0 (c_X8_isBlank N l dC dI ad cI cJ H.size σ x0 Q h) (cw_X8_isBlank S0.2.2.2.2 hml hR) hK hP hD hS rfl hsz hW rfl hcs hdg kk
end q00
section q00
def b_X8_skipBlanks_2 (N : Nat) (k_2 : Int32 → zSt → Prop) (Q : zSt → Prop) (x1 : Int32) (σ : zSt) : Prop :=
  ((800 : Int32) ≤ x1 → Q σ) ∧ (¬ (800 : Int32) ≤ x1 → w_X7_at N (σ.1 24) σ (fun r1 τ2 => w_X8_isBlank N r1 τ2 (fun r3 τ4 => (r3 = 0 → Q τ4) ∧ (¬ r3 = 0 → ∀ τ5 : zSt, τ5 = zI τ4 24 ((τ4.1 24) + (1 : Int32)) → ∀ v6 : Int32, v6 = x1 + (1 : Int32) → k_2 v6 τ5))))
def w_X8_skipBlanks_2 (N : Nat) (Q : zSt → Prop) : Nat → Int32 → zSt → Prop
  | 0 => fun _ _ => False
  | f + 1 => b_X8_skipBlanks_2 N (w_X8_skipBlanks_2 N  Q f) Q
def w_X8_skipBlanks (N : Nat)  (σ : zSt) (Q : zSt → Prop) : Prop :=
  w_X8_skipBlanks_2 N Q N (0 : Int32) σ
variable {p : Program} {l : Launch} {e : Env} {s : State} {m : MethodId} {args : Array Value} {below : List Frame} {meth : Method} {c : Code} {dC : Nat → ClassId} {dI : Nat → Nat → Nat} {ad : Nat → Nat} {cI cJ : ClassId}
set_option maxHeartbeats 4000000 in
set_option maxRecDepth 100000 in
theorem tb_X8_skipBlanks_2 (C0 : zCx p s m meth c args RX8 cX8_skipBlanks 2 none vs_X8_skipBlanks) (hK : va_K (dC, dI) vwCl (x_ty cI cJ) s) (N : Nat) {Q : zSt → Prop} {k_2 : Int32 → zSt → Prop} (hk_2 : ∀ (x1 : Int32) (σ : zSt) (H : Heap) (locs : List Loc) (ls : Array Slot), k_2 x1 σ → va_P (dC, dI) vwCl (x_W ad cI cJ σ) H → va_D (zAW x_n ad s.heap.size) (x_W ad cI cJ σ) → va_S (zAW x_n ad s.heap.size) s.heap H locs → lv_has ls 2 [(0, .ref (ad 8)), (1, .int x1)] → W p l e rm_X8_skipBlanks s m args below meth c H locs 0 0 (MQ below (zQv (dC, dI) (x_ty cI cJ) (x_W ad cI cJ) (zAW x_n ad s.heap.size) Q) args s 0 0 (zAW x_n ad s.heap.size)) (F0 m 2 ls [])) : ∀ (x1 : Int32) (σ : zSt) (H : Heap) (locs : List Loc) (ls : Array Slot), b_X8_skipBlanks_2 N k_2 Q x1 σ → va_P (dC, dI) vwCl (x_W ad cI cJ σ) H → va_D (zAW x_n ad s.heap.size) (x_W ad cI cJ σ) → va_S (zAW x_n ad s.heap.size) s.heap H locs → lv_has ls 2 [(0, .ref (ad 8)), (1, .int x1)] → W p l e rm_X8_skipBlanks s m args below meth c H locs 0 0 (MQ below (zQv (dC, dI) (x_ty cI cJ) (x_W ad cI cJ) (zAW x_n ad s.heap.size) Q) args s 0 0 (zAW x_n ad s.heap.size)) (F0 m 2 ls []) := by
  obtain ⟨hx, hb, hml, hr, hown, hts, hlocks⟩ := id C0
  intro x1 σ H locs ls h hP hD hS hl
  unfold b_X8_skipBlanks_2 at h
  refine lv_iload_n hx hb dX8_skipBlanks_2 rfl (lv_at hl 1 rfl) ?_
  refine lv_sipush (v := (800 : Int32)) hx hb dX8_skipBlanks_3 (by decide) ?_
  refine lv_icmp_ge (tgt := 42) hx hb dX8_skipBlanks_6 (by decide) (fun hc => ?_) (fun hc => ?_)
  · have h := h.1 hc
    exact zret_v hx hb hr hlocks hK hP hD hS h dX8_skipBlanks_42
  · have h := h.2 hc
    refine lv_aload_n hx hb dX8_skipBlanks_9 rfl (lv_at hl 0 rfl) ?_
    refine xg_8_0 hx hb hts hown hK hP mw_118 dX8_skipBlanks_10 ?_
    refine lv_aload_n hx hb dX8_skipBlanks_13 rfl (lv_at hl 0 rfl) ?_
    refine xg_8_6 hx hb hts hown hK hP mw_129 dX8_skipBlanks_14 ?_
    refine k_X7_at N ⟨hx, hb, hml, hown, hts⟩ mw_341 ⟨Nat.le_of_ble_eq_true rfl, Nat.le_of_ble_eq_true rfl⟩ h hK hP hD hS hl.1 (rest := []) (Nat.le_of_ble_eq_true rfl) ⟨Nat.le_of_ble_eq_true rfl, Nat.le_of_ble_eq_true rfl⟩ dX8_skipBlanks_17 (fun r1 τ2 H locs h hP hD hS => ?_)
    refine k_X8_isBlank N ⟨hx, hb, hml, hown, hts⟩ mw_345 ⟨Nat.le_of_ble_eq_true rfl, Nat.le_of_ble_eq_true rfl⟩ h hK hP hD hS hl.1 (rest := []) (Nat.le_of_ble_eq_true rfl) ⟨Nat.le_of_ble_eq_true rfl, Nat.le_of_ble_eq_true rfl⟩ dX8_skipBlanks_20 (fun r3 τ4 H locs h hP hD hS => ?_)
    refine lv_if_eq (tgt := 42) hx hb dX8_skipBlanks_23 (by decide) (fun hc => ?_) (fun hc => ?_)
    · have h := h.1 hc
      exact zret_v hx hb hr hlocks hK hP hD hS h dX8_skipBlanks_42
    · have h := h.2 hc
      refine lv_aload_n hx hb dX8_skipBlanks_26 rfl (lv_at hl 0 rfl) ?_
      refine lv_dup hx hb dX8_skipBlanks_27 rfl ?_
      refine xg_8_6 hx hb hts hown hK hP mw_129 dX8_skipBlanks_28 ?_
      refine lv_iconst (v := (1 : Int32)) hx hb dX8_skipBlanks_31 (by decide) ?_
      refine lv_iadd hx hb dX8_skipBlanks_32 ?_
      refine xp_8_6 hx hb hts hown hK hP hD hS mw_129 dX8_skipBlanks_33 (fun τ5 H locs eτ5 hP hD hS => ?_)
      have h := h τ5 eτ5
      obtain ⟨v6, ev6⟩ : ∃ z : Int32, z = x1 + (1 : Int32) := ⟨_, rfl⟩
      have h := h v6 ev6
      refine lv_iinc (v := v6) (lv' := [(1, .int v6), (0, .ref (ad 8))]) hx hb dX8_skipBlanks_36 hl (k := 1) rfl (by rw [ev6]; rfl) (by decide) rfl (fun ls hl => ?_)
      refine lv_goto (tgt := 2) hx hb dX8_skipBlanks_39 (by decide) ?_
      exact hk_2 v6 τ5 _ _ _ h hP hD hS (lv_sub hl [1, 0] rfl)
set_option maxHeartbeats 4000000 in
set_option maxRecDepth 100000 in
theorem t_X8_skipBlanks_2 (C0 : zCx p s m meth c args RX8 cX8_skipBlanks 2 none vs_X8_skipBlanks) (hK : va_K (dC, dI) vwCl (x_ty cI cJ) s) (N : Nat) {Q : zSt → Prop} : ∀ (f : Nat) (x1 : Int32) (σ : zSt) (H : Heap) (locs : List Loc) (ls : Array Slot), w_X8_skipBlanks_2 N  Q f x1 σ → va_P (dC, dI) vwCl (x_W ad cI cJ σ) H → va_D (zAW x_n ad s.heap.size) (x_W ad cI cJ σ) → va_S (zAW x_n ad s.heap.size) s.heap H locs → lv_has ls 2 [(0, .ref (ad 8)), (1, .int x1)] → W p l e rm_X8_skipBlanks s m args below meth c H locs 0 0 (MQ below (zQv (dC, dI) (x_ty cI cJ) (x_W ad cI cJ) (zAW x_n ad s.heap.size) Q) args s 0 0 (zAW x_n ad s.heap.size)) (F0 m 2 ls []) := by
  intro f
  induction f with
  | zero => intro x1 σ H locs ls h; exact h.elim
  | succ f ih =>
    intro x1 σ H locs ls h hP hD hS hl
    exact tb_X8_skipBlanks_2 C0 hK N  (k_2 := w_X8_skipBlanks_2 N  Q f) ih x1 σ H locs ls h hP hD hS hl
set_option maxHeartbeats 4000000 in
set_option maxRecDepth 100000 in
theorem t_X8_skipBlanks_0 (C0 : zCx p s m meth c args RX8 cX8_skipBlanks 2 none vs_X8_skipBlanks) (hK : va_K (dC, dI) vwCl (x_ty cI cJ) s) (N : Nat) {Q : zSt → Prop} : ∀  (σ : zSt) (H : Heap) (locs : List Loc) (ls : Array Slot), w_X8_skipBlanks N  σ Q → va_P (dC, dI) vwCl (x_W ad cI cJ σ) H → va_D (zAW x_n ad s.heap.size) (x_W ad cI cJ σ) → va_S (zAW x_n ad s.heap.size) s.heap H locs → lv_has ls 2 [(0, .ref (ad 8))] → W p l e rm_X8_skipBlanks s m args below meth c H locs 0 0 (MQ below (zQv (dC, dI) (x_ty cI cJ) (x_W ad cI cJ) (zAW x_n ad s.heap.size) Q) args s 0 0 (zAW x_n ad s.heap.size)) (F0 m 0 ls []) := by
  obtain ⟨hx, hb, hml, hr, hown, hts, hlocks⟩ := id C0
  intro  σ H locs ls h hP hD hS hl
  unfold w_X8_skipBlanks at h
  refine lv_iconst (v := (0 : Int32)) hx hb dX8_skipBlanks_0 (by decide) ?_
  refine lv_istore_n (lv' := [(1, .int (0 : Int32)), (0, .ref (ad 8))]) hx hb dX8_skipBlanks_1 rfl hl (by decide) rfl (fun ls hl => ?_)
  exact t_X8_skipBlanks_2 C0 hK N  N (0 : Int32) σ _ _ _ h hP hD hS (lv_sub hl [1, 0] rfl)
set_option maxHeartbeats 4000000 in
set_option maxRecDepth 100000 in
theorem c_X8_skipBlanks (N : Nat) (l : Launch) (dC : Nat → ClassId) (dI : Nat → Nat → Nat) (ad : Nat → Nat) (cI cJ : ClassId) (sz : Nat) (σ : zSt)  (Q : zSt → Prop) (h : w_X8_skipBlanks N  σ Q) : Met l yX8_skipBlanks vs_X8_skipBlanks rm_X8_skipBlanks (va_Pc [.ref (ad 8)] (zPc (dC, dI) (x_ty cI cJ) (x_W ad cI cJ) sz σ)) (zQv (dC, dI) (x_ty cI cJ) (x_W ad cI cJ) (zAW x_n ad sz) Q) 0 0 (zAW x_n ad sz) := by
  refine Met.ofW (cc := cX8_skipBlanks) (maxL := 2) (ret := none) (by decide) rfl ?_
  intro p e s m args below meth c s₁ B hml hv
  obtain ⟨rfl, hsz, hP, hK, hD0⟩ := hv
  subst hsz
  have C0 : zCx p s m meth c _ RX8 cX8_skipBlanks 2 none vs_X8_skipBlanks := ⟨B.exec, B.bytes, hml, B.returns, findClass_of_methodNamed B.named, atoms_spec (ws := vs_X8_skipBlanks) B.pre, B.notSynchronized⟩
  have hD := x_D0 (n0 := s.heap.size) hD0
  have hl := lv_entry ([.ref (ad 8)]) (n := 2) (Nat.le_of_ble_eq_true rfl)
  rw [lg_entry_eq]
  generalize (lg_sl ([.ref (ad 8)]) ++ List.replicate (2 - (lg_sl ([.ref (ad 8)])).length) Slot.unset).toArray = ls at hl ⊢
  exact t_X8_skipBlanks_0 C0 hK N  σ _ _ ls h hP hD va_S.rf hl
theorem k_X8_skipBlanks (N : Nat) {R : Room} {H : Heap} {locs : List Loc} {cells slots : Nat} {Q2 : State → Prop} {cc : ByteArray} {nL pc index : Nat} {ls : Array Slot} {rest : List Value} {own : String} {c0 : Cond} {σ : zSt}  {Q : zSt → Prop} (S0 : CallFix p m c cc nL s args (c0 :: zT) own) (hml : Cond.methodLink own index yX8_skipBlanks ∈ zT) (hR : rm_X8_skipBlanks.frames + 1 ≤ R.frames ∧ 8 + (2 + 11) + rm_X8_skipBlanks.locals ≤ R.locals) (h : w_X8_skipBlanks N  σ Q) (hK : va_K (dC, dI) vwCl (x_ty cI cJ) s) (hP : va_P (dC, dI) vwCl (x_W ad cI cJ σ) H) (hD : va_D (zAW x_n ad s.heap.size) (x_W ad cI cJ σ)) (hS : va_S (zAW x_n ad s.heap.size) s.heap H locs) (hsz : ls.size = nL) (hW : (rest.map fun v => v.category).sum ≤ 8) (hcs : cells ≤ R.cells ∧ slots ≤ R.slots) (hdg : decode cc pc = .ok (.invokevirtual index, 3)) (kk : ∀ (τ : zSt) (H1 : Heap) (locs1 : List Loc), Q τ → va_P (dC, dI) vwCl (x_W ad cI cJ τ) H1 → va_D (zAW x_n ad s.heap.size) (x_W ad cI cJ τ) → va_S (zAW x_n ad s.heap.size) s.heap H1 locs1 → W p l e R s m args below meth c H1 locs1 cells slots Q2 (F0 m (pc + 3) ls (rest))) : W p l e R s m args below meth c H locs cells slots Q2 (F0 m pc ls (.ref (ad 8) :: rest)) :=
  zcv_v (T := TX8) (N' := 7) (k := 8) (ci := 8) (fs := x_f8 ad σ) [] S0 (c_X8_skipBlanks N l dC dI ad cI cJ H.size σ  Q h) (cw_X8_skipBlanks S0.2.2.2.2 hml rfl rfl hR) rfl rfl hK hP hD hS rfl hsz hW rfl hcs hdg kk
end q00
section q00
def w_X8_isLetter (N : Nat) (x0 : Int32) (σ : zSt) (Q : Int32 → zSt → Prop) : Prop :=
  (x0 < (97 : Int32) → Q (0 : Int32) σ) ∧ (¬ x0 < (97 : Int32) → ((122 : Int32) < x0 → Q (0 : Int32) σ) ∧ (¬ (122 : Int32) < x0 → Q (1 : Int32) σ))
variable {p : Program} {l : Launch} {e : Env} {s : State} {m : MethodId} {args : Array Value} {below : List Frame} {meth : Method} {c : Code} {dC : Nat → ClassId} {dI : Nat → Nat → Nat} {ad : Nat → Nat} {cI cJ : ClassId}
set_option maxHeartbeats 4000000 in
set_option maxRecDepth 100000 in
theorem t_X8_isLetter_0 (C0 : zCx p s m meth c args RX8 cX8_isLetter 1 (some .boolean) vs_X8_isLetter) (hK : va_K (dC, dI) vwCl (x_ty cI cJ) s) (N : Nat) {Q : Int32 → zSt → Prop} : ∀ (x0 : Int32) (σ : zSt) (H : Heap) (locs : List Loc) (ls : Array Slot), w_X8_isLetter N x0 σ Q → va_P (dC, dI) vwCl (x_W ad cI cJ σ) H → va_D (zAW x_n ad s.heap.size) (x_W ad cI cJ σ) → va_S (zAW x_n ad s.heap.size) s.heap H locs → lv_has ls 1 [(0, .int x0)] → W p l e rm_X8_isLetter s m args below meth c H locs 0 0 (MQ below (zQi (dC, dI) (x_ty cI cJ) (x_W ad cI cJ) (zAW x_n ad s.heap.size) Q) args s 0 0 (zAW x_n ad s.heap.size)) (F0 m 0 ls []) := by
  obtain ⟨hx, hb, hml, hr, hown, hts, hlocks⟩ := id C0
  intro x0 σ H locs ls h hP hD hS hl
  unfold w_X8_isLetter at h
  refine lv_iload_n hx hb dX8_isLetter_0 rfl (lv_at hl 0 rfl) ?_
  refine lv_bipush (v := (97 : Int32)) hx hb dX8_isLetter_1 (by decide) ?_
  refine lv_icmp_lt (tgt := 16) hx hb dX8_isLetter_3 (by decide) (fun hc => ?_) (fun hc => ?_)
  · have h := h.1 hc
    refine lv_iconst (v := (0 : Int32)) hx hb dX8_isLetter_16 (by decide) ?_
    exact zret_z hx hb hr hlocks hK hP hD hS zb_0 h dX8_isLetter_17
  · have h := h.2 hc
    refine lv_iload_n hx hb dX8_isLetter_6 rfl (lv_at hl 0 rfl) ?_
    refine lv_bipush (v := (122 : Int32)) hx hb dX8_isLetter_7 (by decide) ?_
    refine lv_icmp_gt (tgt := 16) hx hb dX8_isLetter_9 (by decide) (fun hc => ?_) (fun hc => ?_)
    · have h := h.1 hc
      refine lv_iconst (v := (0 : Int32)) hx hb dX8_isLetter_16 (by decide) ?_
      exact zret_z hx hb hr hlocks hK hP hD hS zb_0 h dX8_isLetter_17
    · have h := h.2 hc
      refine lv_iconst (v := (1 : Int32)) hx hb dX8_isLetter_12 (by decide) ?_
      refine lv_goto (tgt := 17) hx hb dX8_isLetter_13 (by decide) ?_
      exact zret_z hx hb hr hlocks hK hP hD hS zb_1 h dX8_isLetter_17
set_option maxHeartbeats 4000000 in
set_option maxRecDepth 100000 in
theorem c_X8_isLetter (N : Nat) (l : Launch) (dC : Nat → ClassId) (dI : Nat → Nat → Nat) (ad : Nat → Nat) (cI cJ : ClassId) (sz : Nat) (σ : zSt) (x0 : Int32) (Q : Int32 → zSt → Prop) (h : w_X8_isLetter N x0 σ Q) : Met l yX8_isLetter vs_X8_isLetter rm_X8_isLetter (va_Pc [.int x0] (zPc (dC, dI) (x_ty cI cJ) (x_W ad cI cJ) sz σ)) (zQi (dC, dI) (x_ty cI cJ) (x_W ad cI cJ) (zAW x_n ad sz) Q) 0 0 (zAW x_n ad sz) := by
  refine Met.ofW (cc := cX8_isLetter) (maxL := 1) (ret := (some .boolean)) (by decide) rfl ?_
  intro p e s m args below meth c s₁ B hml hv
  obtain ⟨rfl, hsz, hP, hK, hD0⟩ := hv
  subst hsz
  have C0 : zCx p s m meth c _ RX8 cX8_isLetter 1 (some .boolean) vs_X8_isLetter := ⟨B.exec, B.bytes, hml, B.returns, findClass_of_methodNamed B.named, atoms_spec (ws := vs_X8_isLetter) B.pre, B.notSynchronized⟩
  have hD := x_D0 (n0 := s.heap.size) hD0
  have hl := lv_entry ([.int x0]) (n := 1) (Nat.le_of_ble_eq_true rfl)
  rw [lg_entry_eq]
  generalize (lg_sl ([.int x0]) ++ List.replicate (1 - (lg_sl ([.int x0])).length) Slot.unset).toArray = ls at hl ⊢
  exact t_X8_isLetter_0 C0 hK N x0 σ _ _ ls h hP hD va_S.rf hl
theorem k_X8_isLetter (N : Nat) {R : Room} {H : Heap} {locs : List Loc} {cells slots : Nat} {Q2 : State → Prop} {cc : ByteArray} {nL pc index : Nat} {ls : Array Slot} {rest : List Value} {own : String} {c0 : Cond} {σ : zSt} {x0 : Int32} {Q : Int32 → zSt → Prop} (S0 : CallFix p m c cc nL s args (c0 :: zT) own) (hml : Cond.methodLink own index yX8_isLetter ∈ zT) (hR : rm_X8_isLetter.frames + 1 ≤ R.frames ∧ 8 + (1 + 11) + rm_X8_isLetter.locals ≤ R.locals) (h : w_X8_isLetter N x0 σ Q) (hK : va_K (dC, dI) vwCl (x_ty cI cJ) s) (hP : va_P (dC, dI) vwCl (x_W ad cI cJ σ) H) (hD : va_D (zAW x_n ad s.heap.size) (x_W ad cI cJ σ)) (hS : va_S (zAW x_n ad s.heap.size) s.heap H locs) (hsz : ls.size = nL) (hW : (rest.map fun v => v.category).sum ≤ 8) (hcs : cells ≤ R.cells ∧ slots ≤ R.slots) (hdg : decode cc pc = .ok (.invokestatic index, 3)) (kk : ∀ (r : Int32) (τ : zSt) (H1 : Heap) (locs1 : List Loc), Q r τ → va_P (dC, dI) vwCl (x_W ad cI cJ τ) H1 → va_D (zAW x_n ad s.heap.size) (x_W ad cI cJ τ) → va_S (zAW x_n ad s.heap.size) s.heap H1 locs1 → W p l e R s m args below meth c H1 locs1 cells slots Q2 (F0 m (pc + 3) ls (.int r :: rest))) : W p l e R s m args below meth c H locs cells slots Q2 (F0 m pc ls (.int x0 :: rest)) :=
  zcs_i [.int x0] S0 (c_X8_isLetter N l dC dI ad cI cJ H.size σ x0 Q h) (cw_X8_isLetter S0.2.2.2.2 hml hR) hK hP hD hS rfl hsz hW rfl hcs hdg kk
end q00
section q00
def w_X8_isDigit (N : Nat) (x0 : Int32) (σ : zSt) (Q : Int32 → zSt → Prop) : Prop :=
  (x0 < (48 : Int32) → Q (0 : Int32) σ) ∧ (¬ x0 < (48 : Int32) → ((57 : Int32) < x0 → Q (0 : Int32) σ) ∧ (¬ (57 : Int32) < x0 → Q (1 : Int32) σ))
variable {p : Program} {l : Launch} {e : Env} {s : State} {m : MethodId} {args : Array Value} {below : List Frame} {meth : Method} {c : Code} {dC : Nat → ClassId} {dI : Nat → Nat → Nat} {ad : Nat → Nat} {cI cJ : ClassId}
set_option maxHeartbeats 4000000 in
set_option maxRecDepth 100000 in
theorem t_X8_isDigit_0 (C0 : zCx p s m meth c args RX8 cX8_isDigit 1 (some .boolean) vs_X8_isDigit) (hK : va_K (dC, dI) vwCl (x_ty cI cJ) s) (N : Nat) {Q : Int32 → zSt → Prop} : ∀ (x0 : Int32) (σ : zSt) (H : Heap) (locs : List Loc) (ls : Array Slot), w_X8_isDigit N x0 σ Q → va_P (dC, dI) vwCl (x_W ad cI cJ σ) H → va_D (zAW x_n ad s.heap.size) (x_W ad cI cJ σ) → va_S (zAW x_n ad s.heap.size) s.heap H locs → lv_has ls 1 [(0, .int x0)] → W p l e rm_X8_isDigit s m args below meth c H locs 0 0 (MQ below (zQi (dC, dI) (x_ty cI cJ) (x_W ad cI cJ) (zAW x_n ad s.heap.size) Q) args s 0 0 (zAW x_n ad s.heap.size)) (F0 m 0 ls []) := by
  obtain ⟨hx, hb, hml, hr, hown, hts, hlocks⟩ := id C0
  intro x0 σ H locs ls h hP hD hS hl
  unfold w_X8_isDigit at h
  refine lv_iload_n hx hb dX8_isDigit_0 rfl (lv_at hl 0 rfl) ?_
  refine lv_bipush (v := (48 : Int32)) hx hb dX8_isDigit_1 (by decide) ?_
  refine lv_icmp_lt (tgt := 16) hx hb dX8_isDigit_3 (by decide) (fun hc => ?_) (fun hc => ?_)
  · have h := h.1 hc
    refine lv_iconst (v := (0 : Int32)) hx hb dX8_isDigit_16 (by decide) ?_
    exact zret_z hx hb hr hlocks hK hP hD hS zb_0 h dX8_isDigit_17
  · have h := h.2 hc
    refine lv_iload_n hx hb dX8_isDigit_6 rfl (lv_at hl 0 rfl) ?_
    refine lv_bipush (v := (57 : Int32)) hx hb dX8_isDigit_7 (by decide) ?_
    refine lv_icmp_gt (tgt := 16) hx hb dX8_isDigit_9 (by decide) (fun hc => ?_) (fun hc => ?_)
    · have h := h.1 hc
      refine lv_iconst (v := (0 : Int32)) hx hb dX8_isDigit_16 (by decide) ?_
      exact zret_z hx hb hr hlocks hK hP hD hS zb_0 h dX8_isDigit_17
    · have h := h.2 hc
      refine lv_iconst (v := (1 : Int32)) hx hb dX8_isDigit_12 (by decide) ?_
      refine lv_goto (tgt := 17) hx hb dX8_isDigit_13 (by decide) ?_
      exact zret_z hx hb hr hlocks hK hP hD hS zb_1 h dX8_isDigit_17
set_option maxHeartbeats 4000000 in
set_option maxRecDepth 100000 in
theorem c_X8_isDigit (N : Nat) (l : Launch) (dC : Nat → ClassId) (dI : Nat → Nat → Nat) (ad : Nat → Nat) (cI cJ : ClassId) (sz : Nat) (σ : zSt) (x0 : Int32) (Q : Int32 → zSt → Prop) (h : w_X8_isDigit N x0 σ Q) : Met l yX8_isDigit vs_X8_isDigit rm_X8_isDigit (va_Pc [.int x0] (zPc (dC, dI) (x_ty cI cJ) (x_W ad cI cJ) sz σ)) (zQi (dC, dI) (x_ty cI cJ) (x_W ad cI cJ) (zAW x_n ad sz) Q) 0 0 (zAW x_n ad sz) := by
  refine Met.ofW (cc := cX8_isDigit) (maxL := 1) (ret := (some .boolean)) (by decide) rfl ?_
  intro p e s m args below meth c s₁ B hml hv
  obtain ⟨rfl, hsz, hP, hK, hD0⟩ := hv
  subst hsz
  have C0 : zCx p s m meth c _ RX8 cX8_isDigit 1 (some .boolean) vs_X8_isDigit := ⟨B.exec, B.bytes, hml, B.returns, findClass_of_methodNamed B.named, atoms_spec (ws := vs_X8_isDigit) B.pre, B.notSynchronized⟩
  have hD := x_D0 (n0 := s.heap.size) hD0
  have hl := lv_entry ([.int x0]) (n := 1) (Nat.le_of_ble_eq_true rfl)
  rw [lg_entry_eq]
  generalize (lg_sl ([.int x0]) ++ List.replicate (1 - (lg_sl ([.int x0])).length) Slot.unset).toArray = ls at hl ⊢
  exact t_X8_isDigit_0 C0 hK N x0 σ _ _ ls h hP hD va_S.rf hl
theorem k_X8_isDigit (N : Nat) {R : Room} {H : Heap} {locs : List Loc} {cells slots : Nat} {Q2 : State → Prop} {cc : ByteArray} {nL pc index : Nat} {ls : Array Slot} {rest : List Value} {own : String} {c0 : Cond} {σ : zSt} {x0 : Int32} {Q : Int32 → zSt → Prop} (S0 : CallFix p m c cc nL s args (c0 :: zT) own) (hml : Cond.methodLink own index yX8_isDigit ∈ zT) (hR : rm_X8_isDigit.frames + 1 ≤ R.frames ∧ 8 + (1 + 11) + rm_X8_isDigit.locals ≤ R.locals) (h : w_X8_isDigit N x0 σ Q) (hK : va_K (dC, dI) vwCl (x_ty cI cJ) s) (hP : va_P (dC, dI) vwCl (x_W ad cI cJ σ) H) (hD : va_D (zAW x_n ad s.heap.size) (x_W ad cI cJ σ)) (hS : va_S (zAW x_n ad s.heap.size) s.heap H locs) (hsz : ls.size = nL) (hW : (rest.map fun v => v.category).sum ≤ 8) (hcs : cells ≤ R.cells ∧ slots ≤ R.slots) (hdg : decode cc pc = .ok (.invokestatic index, 3)) (kk : ∀ (r : Int32) (τ : zSt) (H1 : Heap) (locs1 : List Loc), Q r τ → va_P (dC, dI) vwCl (x_W ad cI cJ τ) H1 → va_D (zAW x_n ad s.heap.size) (x_W ad cI cJ τ) → va_S (zAW x_n ad s.heap.size) s.heap H1 locs1 → W p l e R s m args below meth c H1 locs1 cells slots Q2 (F0 m (pc + 3) ls (.int r :: rest))) : W p l e R s m args below meth c H locs cells slots Q2 (F0 m pc ls (.int x0 :: rest)) :=
  zcs_i [.int x0] S0 (c_X8_isDigit N l dC dI ad cI cJ H.size σ x0 Q h) (cw_X8_isDigit S0.2.2.2.2 hml hR) hK hP hD hS rfl hsz hW rfl hcs hdg kk
end q00
section q00
def b_X8_number_53 (N : Nat) (k_4 : Int32 → Int32 → zSt → Prop) (Q : Int32 → zSt → Prop) (x1 : Int32) (x2 : Int32) (σ : zSt) : Prop :=
  ∀ τ1 : zSt, τ1 = zI σ 24 ((σ.1 24) + (1 : Int32)) → ∀ v2 : Int32, v2 = x2 + (1 : Int32) → k_4 x1 v2 τ1
def b_X8_number_4 (N : Nat) (k_4 : Int32 → Int32 → zSt → Prop) (Q : Int32 → zSt → Prop) (x1 : Int32) (x2 : Int32) (σ : zSt) : Prop :=
  ((800 : Int32) ≤ x2 → Q x1 σ) ∧ (¬ (800 : Int32) ≤ x2 → w_X7_at N (σ.1 24) σ (fun r1 τ2 => w_X8_isDigit N r1 τ2 (fun r3 τ4 => (r3 = 0 → Q x1 τ4) ∧ (¬ r3 = 0 → ((4 : Int32) ≤ x2 → b_X8_number_53 N k_4 Q x1 x2 τ4) ∧ (¬ (4 : Int32) ≤ x2 → w_X7_at N (τ4.1 24) τ4 (fun r5 τ6 => ∀ v7 : Int32, v7 = ((x1 * (10 : Int32)) + r5) - (48 : Int32) → b_X8_number_53 N k_4 Q v7 x2 τ6))))))
def w_X8_number_4 (N : Nat) (Q : Int32 → zSt → Prop) : Nat → Int32 → Int32 → zSt → Prop
  | 0 => fun _ _ _ => False
  | f + 1 => b_X8_number_4 N (w_X8_number_4 N  Q f) Q
def w_X8_number (N : Nat)  (σ : zSt) (Q : Int32 → zSt → Prop) : Prop :=
  w_X8_number_4 N Q N (0 : Int32) (0 : Int32) σ
variable {p : Program} {l : Launch} {e : Env} {s : State} {m : MethodId} {args : Array Value} {below : List Frame} {meth : Method} {c : Code} {dC : Nat → ClassId} {dI : Nat → Nat → Nat} {ad : Nat → Nat} {cI cJ : ClassId}
set_option maxHeartbeats 4000000 in
set_option maxRecDepth 100000 in
theorem t_X8_number_53 (C0 : zCx p s m meth c args RX8 cX8_number 3 (some .int) vs_X8_number) (hK : va_K (dC, dI) vwCl (x_ty cI cJ) s) (N : Nat) {Q : Int32 → zSt → Prop} {k_4 : Int32 → Int32 → zSt → Prop} (hk_4 : ∀ (x1 : Int32) (x2 : Int32) (σ : zSt) (H : Heap) (locs : List Loc) (ls : Array Slot), k_4 x1 x2 σ → va_P (dC, dI) vwCl (x_W ad cI cJ σ) H → va_D (zAW x_n ad s.heap.size) (x_W ad cI cJ σ) → va_S (zAW x_n ad s.heap.size) s.heap H locs → lv_has ls 3 [(0, .ref (ad 8)), (1, .int x1), (2, .int x2)] → W p l e rm_X8_number s m args below meth c H locs 0 0 (MQ below (zQi (dC, dI) (x_ty cI cJ) (x_W ad cI cJ) (zAW x_n ad s.heap.size) Q) args s 0 0 (zAW x_n ad s.heap.size)) (F0 m 4 ls [])) : ∀ (x1 : Int32) (x2 : Int32) (σ : zSt) (H : Heap) (locs : List Loc) (ls : Array Slot), b_X8_number_53 N k_4 Q x1 x2 σ → va_P (dC, dI) vwCl (x_W ad cI cJ σ) H → va_D (zAW x_n ad s.heap.size) (x_W ad cI cJ σ) → va_S (zAW x_n ad s.heap.size) s.heap H locs → lv_has ls 3 [(0, .ref (ad 8)), (1, .int x1), (2, .int x2)] → W p l e rm_X8_number s m args below meth c H locs 0 0 (MQ below (zQi (dC, dI) (x_ty cI cJ) (x_W ad cI cJ) (zAW x_n ad s.heap.size) Q) args s 0 0 (zAW x_n ad s.heap.size)) (F0 m 53 ls []) := by
  obtain ⟨hx, hb, hml, hr, hown, hts, hlocks⟩ := id C0
  intro x1 x2 σ H locs ls h hP hD hS hl
  unfold b_X8_number_53 at h
  refine lv_aload_n hx hb dX8_number_53 rfl (lv_at hl 0 rfl) ?_
  refine lv_dup hx hb dX8_number_54 rfl ?_
  refine xg_8_6 hx hb hts hown hK hP mw_129 dX8_number_55 ?_
  refine lv_iconst (v := (1 : Int32)) hx hb dX8_number_58 (by decide) ?_
  refine lv_iadd hx hb dX8_number_59 ?_
  refine xp_8_6 hx hb hts hown hK hP hD hS mw_129 dX8_number_60 (fun τ1 H locs eτ1 hP hD hS => ?_)
  have h := h τ1 eτ1
  obtain ⟨v2, ev2⟩ : ∃ z : Int32, z = x2 + (1 : Int32) := ⟨_, rfl⟩
  have h := h v2 ev2
  refine lv_iinc (v := v2) (lv' := [(2, .int v2), (0, .ref (ad 8)), (1, .int x1)]) hx hb dX8_number_63 hl (k := 2) rfl (by rw [ev2]; rfl) (by decide) rfl (fun ls hl => ?_)
  refine lv_goto (tgt := 4) hx hb dX8_number_66 (by decide) ?_
  exact hk_4 x1 v2 τ1 _ _ _ h hP hD hS (lv_sub hl [1, 2, 0] rfl)
set_option maxHeartbeats 4000000 in
set_option maxRecDepth 100000 in
theorem tb_X8_number_4 (C0 : zCx p s m meth c args RX8 cX8_number 3 (some .int) vs_X8_number) (hK : va_K (dC, dI) vwCl (x_ty cI cJ) s) (N : Nat) {Q : Int32 → zSt → Prop} {k_4 : Int32 → Int32 → zSt → Prop} (hk_4 : ∀ (x1 : Int32) (x2 : Int32) (σ : zSt) (H : Heap) (locs : List Loc) (ls : Array Slot), k_4 x1 x2 σ → va_P (dC, dI) vwCl (x_W ad cI cJ σ) H → va_D (zAW x_n ad s.heap.size) (x_W ad cI cJ σ) → va_S (zAW x_n ad s.heap.size) s.heap H locs → lv_has ls 3 [(0, .ref (ad 8)), (1, .int x1), (2, .int x2)] → W p l e rm_X8_number s m args below meth c H locs 0 0 (MQ below (zQi (dC, dI) (x_ty cI cJ) (x_W ad cI cJ) (zAW x_n ad s.heap.size) Q) args s 0 0 (zAW x_n ad s.heap.size)) (F0 m 4 ls [])) : ∀ (x1 : Int32) (x2 : Int32) (σ : zSt) (H : Heap) (locs : List Loc) (ls : Array Slot), b_X8_number_4 N k_4 Q x1 x2 σ → va_P (dC, dI) vwCl (x_W ad cI cJ σ) H → va_D (zAW x_n ad s.heap.size) (x_W ad cI cJ σ) → va_S (zAW x_n ad s.heap.size) s.heap H locs → lv_has ls 3 [(0, .ref (ad 8)), (1, .int x1), (2, .int x2)] → W p l e rm_X8_number s m args below meth c H locs 0 0 (MQ below (zQi (dC, dI) (x_ty cI cJ) (x_W ad cI cJ) (zAW x_n ad s.heap.size) Q) args s 0 0 (zAW x_n ad s.heap.size)) (F0 m 4 ls []) := by
  obtain ⟨hx, hb, hml, hr, hown, hts, hlocks⟩ := id C0
  intro x1 x2 σ H locs ls h hP hD hS hl
  unfold b_X8_number_4 at h
  refine lv_iload_n hx hb dX8_number_4 rfl (lv_at hl 2 rfl) ?_
  refine lv_sipush (v := (800 : Int32)) hx hb dX8_number_5 (by decide) ?_
  refine lv_icmp_ge (tgt := 69) hx hb dX8_number_8 (by decide) (fun hc => ?_) (fun hc => ?_)
  · have h := h.1 hc
    refine lv_iload_n hx hb dX8_number_69 rfl (lv_at hl 1 rfl) ?_
    exact zret_i hx hb hr hlocks hK hP hD hS h dX8_number_70
  · have h := h.2 hc
    refine lv_aload_n hx hb dX8_number_11 rfl (lv_at hl 0 rfl) ?_
    refine xg_8_0 hx hb hts hown hK hP mw_118 dX8_number_12 ?_
    refine lv_aload_n hx hb dX8_number_15 rfl (lv_at hl 0 rfl) ?_
    refine xg_8_6 hx hb hts hown hK hP mw_129 dX8_number_16 ?_
    refine k_X7_at N ⟨hx, hb, hml, hown, hts⟩ mw_341 ⟨Nat.le_of_ble_eq_true rfl, Nat.le_of_ble_eq_true rfl⟩ h hK hP hD hS hl.1 (rest := []) (Nat.le_of_ble_eq_true rfl) ⟨Nat.le_of_ble_eq_true rfl, Nat.le_of_ble_eq_true rfl⟩ dX8_number_19 (fun r1 τ2 H locs h hP hD hS => ?_)
    refine k_X8_isDigit N ⟨hx, hb, hml, hown, hts⟩ mw_354 ⟨Nat.le_of_ble_eq_true rfl, Nat.le_of_ble_eq_true rfl⟩ h hK hP hD hS hl.1 (rest := []) (Nat.le_of_ble_eq_true rfl) ⟨Nat.le_of_ble_eq_true rfl, Nat.le_of_ble_eq_true rfl⟩ dX8_number_22 (fun r3 τ4 H locs h hP hD hS => ?_)
    refine lv_if_eq (tgt := 69) hx hb dX8_number_25 (by decide) (fun hc => ?_) (fun hc => ?_)
    · have h := h.1 hc
      refine lv_iload_n hx hb dX8_number_69 rfl (lv_at hl 1 rfl) ?_
      exact zret_i hx hb hr hlocks hK hP hD hS h dX8_number_70
    · have h := h.2 hc
      refine lv_iload_n hx hb dX8_number_28 rfl (lv_at hl 2 rfl) ?_
      refine lv_iconst (v := (4 : Int32)) hx hb dX8_number_29 (by decide) ?_
      refine lv_icmp_ge (tgt := 53) hx hb dX8_number_30 (by decide) (fun hc => ?_) (fun hc => ?_)
      · have h := h.1 hc
        exact t_X8_number_53 C0 hK N hk_4 x1 x2 τ4 _ _ _ h hP hD hS (lv_sub hl [0, 1, 2] rfl)
      · have h := h.2 hc
        refine lv_iload_n hx hb dX8_number_33 rfl (lv_at hl 1 rfl) ?_
        refine lv_bipush (v := (10 : Int32)) hx hb dX8_number_34 (by decide) ?_
        refine lv_imul hx hb dX8_number_36 ?_
        refine lv_aload_n hx hb dX8_number_37 rfl (lv_at hl 0 rfl) ?_
        refine xg_8_0 hx hb hts hown hK hP mw_118 dX8_number_38 ?_
        refine lv_aload_n hx hb dX8_number_41 rfl (lv_at hl 0 rfl) ?_
        refine xg_8_6 hx hb hts hown hK hP mw_129 dX8_number_42 ?_
        refine k_X7_at N ⟨hx, hb, hml, hown, hts⟩ mw_341 ⟨Nat.le_of_ble_eq_true rfl, Nat.le_of_ble_eq_true rfl⟩ h hK hP hD hS hl.1 (rest := [.int (x1 * (10 : Int32))]) (Nat.le_of_ble_eq_true rfl) ⟨Nat.le_of_ble_eq_true rfl, Nat.le_of_ble_eq_true rfl⟩ dX8_number_45 (fun r5 τ6 H locs h hP hD hS => ?_)
        refine lv_iadd hx hb dX8_number_48 ?_
        refine lv_bipush (v := (48 : Int32)) hx hb dX8_number_49 (by decide) ?_
        refine lv_isub hx hb dX8_number_51 ?_
        refine lv_topi (fun v7 ev7 => ?_)
        have h := h v7 ev7
        refine lv_istore_n (lv' := [(1, .int v7), (0, .ref (ad 8)), (2, .int x2)]) hx hb dX8_number_52 rfl hl (by decide) rfl (fun ls hl => ?_)
        exact t_X8_number_53 C0 hK N hk_4 v7 x2 τ6 _ _ _ h hP hD hS (lv_sub hl [1, 0, 2] rfl)
set_option maxHeartbeats 4000000 in
set_option maxRecDepth 100000 in
theorem t_X8_number_4 (C0 : zCx p s m meth c args RX8 cX8_number 3 (some .int) vs_X8_number) (hK : va_K (dC, dI) vwCl (x_ty cI cJ) s) (N : Nat) {Q : Int32 → zSt → Prop} : ∀ (f : Nat) (x1 : Int32) (x2 : Int32) (σ : zSt) (H : Heap) (locs : List Loc) (ls : Array Slot), w_X8_number_4 N  Q f x1 x2 σ → va_P (dC, dI) vwCl (x_W ad cI cJ σ) H → va_D (zAW x_n ad s.heap.size) (x_W ad cI cJ σ) → va_S (zAW x_n ad s.heap.size) s.heap H locs → lv_has ls 3 [(0, .ref (ad 8)), (1, .int x1), (2, .int x2)] → W p l e rm_X8_number s m args below meth c H locs 0 0 (MQ below (zQi (dC, dI) (x_ty cI cJ) (x_W ad cI cJ) (zAW x_n ad s.heap.size) Q) args s 0 0 (zAW x_n ad s.heap.size)) (F0 m 4 ls []) := by
  intro f
  induction f with
  | zero => intro x1 x2 σ H locs ls h; exact h.elim
  | succ f ih =>
    intro x1 x2 σ H locs ls h hP hD hS hl
    exact tb_X8_number_4 C0 hK N  (k_4 := w_X8_number_4 N  Q f) ih x1 x2 σ H locs ls h hP hD hS hl
set_option maxHeartbeats 4000000 in
set_option maxRecDepth 100000 in
theorem t_X8_number_0 (C0 : zCx p s m meth c args RX8 cX8_number 3 (some .int) vs_X8_number) (hK : va_K (dC, dI) vwCl (x_ty cI cJ) s) (N : Nat) {Q : Int32 → zSt → Prop} : ∀  (σ : zSt) (H : Heap) (locs : List Loc) (ls : Array Slot), w_X8_number N  σ Q → va_P (dC, dI) vwCl (x_W ad cI cJ σ) H → va_D (zAW x_n ad s.heap.size) (x_W ad cI cJ σ) → va_S (zAW x_n ad s.heap.size) s.heap H locs → lv_has ls 3 [(0, .ref (ad 8))] → W p l e rm_X8_number s m args below meth c H locs 0 0 (MQ below (zQi (dC, dI) (x_ty cI cJ) (x_W ad cI cJ) (zAW x_n ad s.heap.size) Q) args s 0 0 (zAW x_n ad s.heap.size)) (F0 m 0 ls []) := by
  obtain ⟨hx, hb, hml, hr, hown, hts, hlocks⟩ := id C0
  intro  σ H locs ls h hP hD hS hl
  unfold w_X8_number at h
  refine lv_iconst (v := (0 : Int32)) hx hb dX8_number_0 (by decide) ?_
  refine lv_istore_n (lv' := [(1, .int (0 : Int32)), (0, .ref (ad 8))]) hx hb dX8_number_1 rfl hl (by decide) rfl (fun ls hl => ?_)
  refine lv_iconst (v := (0 : Int32)) hx hb dX8_number_2 (by decide) ?_
  refine lv_istore_n (lv' := [(2, .int (0 : Int32)), (1, .int (0 : Int32)), (0, .ref (ad 8))]) hx hb dX8_number_3 rfl hl (by decide) rfl (fun ls hl => ?_)
  exact t_X8_number_4 C0 hK N  N (0 : Int32) (0 : Int32) σ _ _ _ h hP hD hS (lv_sub hl [2, 1, 0] rfl)
set_option maxHeartbeats 4000000 in
set_option maxRecDepth 100000 in
theorem c_X8_number (N : Nat) (l : Launch) (dC : Nat → ClassId) (dI : Nat → Nat → Nat) (ad : Nat → Nat) (cI cJ : ClassId) (sz : Nat) (σ : zSt)  (Q : Int32 → zSt → Prop) (h : w_X8_number N  σ Q) : Met l yX8_number vs_X8_number rm_X8_number (va_Pc [.ref (ad 8)] (zPc (dC, dI) (x_ty cI cJ) (x_W ad cI cJ) sz σ)) (zQi (dC, dI) (x_ty cI cJ) (x_W ad cI cJ) (zAW x_n ad sz) Q) 0 0 (zAW x_n ad sz) := by
  refine Met.ofW (cc := cX8_number) (maxL := 3) (ret := (some .int)) (by decide) rfl ?_
  intro p e s m args below meth c s₁ B hml hv
  obtain ⟨rfl, hsz, hP, hK, hD0⟩ := hv
  subst hsz
  have C0 : zCx p s m meth c _ RX8 cX8_number 3 (some .int) vs_X8_number := ⟨B.exec, B.bytes, hml, B.returns, findClass_of_methodNamed B.named, atoms_spec (ws := vs_X8_number) B.pre, B.notSynchronized⟩
  have hD := x_D0 (n0 := s.heap.size) hD0
  have hl := lv_entry ([.ref (ad 8)]) (n := 3) (Nat.le_of_ble_eq_true rfl)
  rw [lg_entry_eq]
  generalize (lg_sl ([.ref (ad 8)]) ++ List.replicate (3 - (lg_sl ([.ref (ad 8)])).length) Slot.unset).toArray = ls at hl ⊢
  exact t_X8_number_0 C0 hK N  σ _ _ ls h hP hD va_S.rf hl
theorem k_X8_number (N : Nat) {R : Room} {H : Heap} {locs : List Loc} {cells slots : Nat} {Q2 : State → Prop} {cc : ByteArray} {nL pc index : Nat} {ls : Array Slot} {rest : List Value} {own : String} {c0 : Cond} {σ : zSt}  {Q : Int32 → zSt → Prop} (S0 : CallFix p m c cc nL s args (c0 :: zT) own) (hml : Cond.methodLink own index yX8_number ∈ zT) (hR : rm_X8_number.frames + 1 ≤ R.frames ∧ 8 + (3 + 11) + rm_X8_number.locals ≤ R.locals) (h : w_X8_number N  σ Q) (hK : va_K (dC, dI) vwCl (x_ty cI cJ) s) (hP : va_P (dC, dI) vwCl (x_W ad cI cJ σ) H) (hD : va_D (zAW x_n ad s.heap.size) (x_W ad cI cJ σ)) (hS : va_S (zAW x_n ad s.heap.size) s.heap H locs) (hsz : ls.size = nL) (hW : (rest.map fun v => v.category).sum ≤ 8) (hcs : cells ≤ R.cells ∧ slots ≤ R.slots) (hdg : decode cc pc = .ok (.invokevirtual index, 3)) (kk : ∀ (r : Int32) (τ : zSt) (H1 : Heap) (locs1 : List Loc), Q r τ → va_P (dC, dI) vwCl (x_W ad cI cJ τ) H1 → va_D (zAW x_n ad s.heap.size) (x_W ad cI cJ τ) → va_S (zAW x_n ad s.heap.size) s.heap H1 locs1 → W p l e R s m args below meth c H1 locs1 cells slots Q2 (F0 m (pc + 3) ls (.int r :: rest))) : W p l e R s m args below meth c H locs cells slots Q2 (F0 m pc ls (.ref (ad 8) :: rest)) :=
  zcv_i (T := TX8) (N' := 7) (k := 8) (ci := 8) (fs := x_f8 ad σ) [] S0 (c_X8_number N l dC dI ad cI cJ H.size σ  Q h) (cw_X8_number S0.2.2.2.2 hml rfl rfl hR) rfl rfl hK hP hD hS rfl hsz hW rfl hcs hdg kk
end q00
section q00
def b_X8_word_59 (N : Nat) (k_4 : Int32 → Int32 → zSt → Prop) (Q : Int32 → zSt → Prop) (x1 : Int32) (x2 : Int32) (σ : zSt) : Prop :=
  ∀ τ1 : zSt, τ1 = zI σ 24 ((σ.1 24) + (1 : Int32)) → ∀ v2 : Int32, v2 = x2 + (1 : Int32) → k_4 x1 v2 τ1
def b_X8_word_4 (N : Nat) (k_4 : Int32 → Int32 → zSt → Prop) (Q : Int32 → zSt → Prop) (x1 : Int32) (x2 : Int32) (σ : zSt) : Prop :=
  ((800 : Int32) ≤ x2 → Q x1 σ) ∧ (¬ (800 : Int32) ≤ x2 → w_X7_at N (σ.1 24) σ (fun r1 τ2 => w_X8_isLetter N r1 τ2 (fun r3 τ4 => (r3 = 0 → Q x1 τ4) ∧ (¬ r3 = 0 → ((6 : Int32) ≤ x2 → b_X8_word_59 N k_4 Q x1 x2 τ4) ∧ (¬ (6 : Int32) ≤ x2 → w_X7_at N (τ4.1 24) τ4 (fun r5 τ6 => ∀ v7 : Int32, v7 = x1 ||| (((r5 - (97 : Int32)) + (1 : Int32)) <<< (((5 : Int32) * ((5 : Int32) - x2)) &&& 31)) → b_X8_word_59 N k_4 Q v7 x2 τ6))))))
def w_X8_word_4 (N : Nat) (Q : Int32 → zSt → Prop) : Nat → Int32 → Int32 → zSt → Prop
  | 0 => fun _ _ _ => False
  | f + 1 => b_X8_word_4 N (w_X8_word_4 N  Q f) Q
def w_X8_word (N : Nat)  (σ : zSt) (Q : Int32 → zSt → Prop) : Prop :=
  w_X8_word_4 N Q N (0 : Int32) (0 : Int32) σ
variable {p : Program} {l : Launch} {e : Env} {s : State} {m : MethodId} {args : Array Value} {below : List Frame} {meth : Method} {c : Code} {dC : Nat → ClassId} {dI : Nat → Nat → Nat} {ad : Nat → Nat} {cI cJ : ClassId}
set_option maxHeartbeats 4000000 in
set_option maxRecDepth 100000 in
theorem t_X8_word_59 (C0 : zCx p s m meth c args RX8 cX8_word 3 (some .int) vs_X8_word) (hK : va_K (dC, dI) vwCl (x_ty cI cJ) s) (N : Nat) {Q : Int32 → zSt → Prop} {k_4 : Int32 → Int32 → zSt → Prop} (hk_4 : ∀ (x1 : Int32) (x2 : Int32) (σ : zSt) (H : Heap) (locs : List Loc) (ls : Array Slot), k_4 x1 x2 σ → va_P (dC, dI) vwCl (x_W ad cI cJ σ) H → va_D (zAW x_n ad s.heap.size) (x_W ad cI cJ σ) → va_S (zAW x_n ad s.heap.size) s.heap H locs → lv_has ls 3 [(0, .ref (ad 8)), (1, .int x1), (2, .int x2)] → W p l e rm_X8_word s m args below meth c H locs 0 0 (MQ below (zQi (dC, dI) (x_ty cI cJ) (x_W ad cI cJ) (zAW x_n ad s.heap.size) Q) args s 0 0 (zAW x_n ad s.heap.size)) (F0 m 4 ls [])) : ∀ (x1 : Int32) (x2 : Int32) (σ : zSt) (H : Heap) (locs : List Loc) (ls : Array Slot), b_X8_word_59 N k_4 Q x1 x2 σ → va_P (dC, dI) vwCl (x_W ad cI cJ σ) H → va_D (zAW x_n ad s.heap.size) (x_W ad cI cJ σ) → va_S (zAW x_n ad s.heap.size) s.heap H locs → lv_has ls 3 [(0, .ref (ad 8)), (1, .int x1), (2, .int x2)] → W p l e rm_X8_word s m args below meth c H locs 0 0 (MQ below (zQi (dC, dI) (x_ty cI cJ) (x_W ad cI cJ) (zAW x_n ad s.heap.size) Q) args s 0 0 (zAW x_n ad s.heap.size)) (F0 m 59 ls []) := by
  obtain ⟨hx, hb, hml, hr, hown, hts, hlocks⟩ := id C0
  intro x1 x2 σ H locs ls h hP hD hS hl
  unfold b_X8_word_59 at h
  refine lv_aload_n hx hb dX8_word_59 rfl (lv_at hl 0 rfl) ?_
  refine lv_dup hx hb dX8_word_60 rfl ?_
  refine xg_8_6 hx hb hts hown hK hP mw_129 dX8_word_61 ?_
  refine lv_iconst (v := (1 : Int32)) hx hb dX8_word_64 (by decide) ?_
  refine lv_iadd hx hb dX8_word_65 ?_
  refine xp_8_6 hx hb hts hown hK hP hD hS mw_129 dX8_word_66 (fun τ1 H locs eτ1 hP hD hS => ?_)
  have h := h τ1 eτ1
  obtain ⟨v2, ev2⟩ : ∃ z : Int32, z = x2 + (1 : Int32) := ⟨_, rfl⟩
  have h := h v2 ev2
  refine lv_iinc (v := v2) (lv' := [(2, .int v2), (0, .ref (ad 8)), (1, .int x1)]) hx hb dX8_word_69 hl (k := 2) rfl (by rw [ev2]; rfl) (by decide) rfl (fun ls hl => ?_)
  refine lv_goto (tgt := 4) hx hb dX8_word_72 (by decide) ?_
  exact hk_4 x1 v2 τ1 _ _ _ h hP hD hS (lv_sub hl [1, 2, 0] rfl)
set_option maxHeartbeats 4000000 in
set_option maxRecDepth 100000 in
theorem tb_X8_word_4 (C0 : zCx p s m meth c args RX8 cX8_word 3 (some .int) vs_X8_word) (hK : va_K (dC, dI) vwCl (x_ty cI cJ) s) (N : Nat) {Q : Int32 → zSt → Prop} {k_4 : Int32 → Int32 → zSt → Prop} (hk_4 : ∀ (x1 : Int32) (x2 : Int32) (σ : zSt) (H : Heap) (locs : List Loc) (ls : Array Slot), k_4 x1 x2 σ → va_P (dC, dI) vwCl (x_W ad cI cJ σ) H → va_D (zAW x_n ad s.heap.size) (x_W ad cI cJ σ) → va_S (zAW x_n ad s.heap.size) s.heap H locs → lv_has ls 3 [(0, .ref (ad 8)), (1, .int x1), (2, .int x2)] → W p l e rm_X8_word s m args below meth c H locs 0 0 (MQ below (zQi (dC, dI) (x_ty cI cJ) (x_W ad cI cJ) (zAW x_n ad s.heap.size) Q) args s 0 0 (zAW x_n ad s.heap.size)) (F0 m 4 ls [])) : ∀ (x1 : Int32) (x2 : Int32) (σ : zSt) (H : Heap) (locs : List Loc) (ls : Array Slot), b_X8_word_4 N k_4 Q x1 x2 σ → va_P (dC, dI) vwCl (x_W ad cI cJ σ) H → va_D (zAW x_n ad s.heap.size) (x_W ad cI cJ σ) → va_S (zAW x_n ad s.heap.size) s.heap H locs → lv_has ls 3 [(0, .ref (ad 8)), (1, .int x1), (2, .int x2)] → W p l e rm_X8_word s m args below meth c H locs 0 0 (MQ below (zQi (dC, dI) (x_ty cI cJ) (x_W ad cI cJ) (zAW x_n ad s.heap.size) Q) args s 0 0 (zAW x_n ad s.heap.size)) (F0 m 4 ls []) := by
  obtain ⟨hx, hb, hml, hr, hown, hts, hlocks⟩ := id C0
  intro x1 x2 σ H locs ls h hP hD hS hl
  unfold b_X8_word_4 at h
  refine lv_iload_n hx hb dX8_word_4 rfl (lv_at hl 2 rfl) ?_
  refine lv_sipush (v := (800 : Int32)) hx hb dX8_word_5 (by decide) ?_
  refine lv_icmp_ge (tgt := 75) hx hb dX8_word_8 (by decide) (fun hc => ?_) (fun hc => ?_)
  · have h := h.1 hc
    refine lv_iload_n hx hb dX8_word_75 rfl (lv_at hl 1 rfl) ?_
    exact zret_i hx hb hr hlocks hK hP hD hS h dX8_word_76
  · have h := h.2 hc
    refine lv_aload_n hx hb dX8_word_11 rfl (lv_at hl 0 rfl) ?_
    refine xg_8_0 hx hb hts hown hK hP mw_118 dX8_word_12 ?_
    refine lv_aload_n hx hb dX8_word_15 rfl (lv_at hl 0 rfl) ?_
    refine xg_8_6 hx hb hts hown hK hP mw_129 dX8_word_16 ?_
    refine k_X7_at N ⟨hx, hb, hml, hown, hts⟩ mw_341 ⟨Nat.le_of_ble_eq_true rfl, Nat.le_of_ble_eq_true rfl⟩ h hK hP hD hS hl.1 (rest := []) (Nat.le_of_ble_eq_true rfl) ⟨Nat.le_of_ble_eq_true rfl, Nat.le_of_ble_eq_true rfl⟩ dX8_word_19 (fun r1 τ2 H locs h hP hD hS => ?_)
    refine k_X8_isLetter N ⟨hx, hb, hml, hown, hts⟩ mw_351 ⟨Nat.le_of_ble_eq_true rfl, Nat.le_of_ble_eq_true rfl⟩ h hK hP hD hS hl.1 (rest := []) (Nat.le_of_ble_eq_true rfl) ⟨Nat.le_of_ble_eq_true rfl, Nat.le_of_ble_eq_true rfl⟩ dX8_word_22 (fun r3 τ4 H locs h hP hD hS => ?_)
    refine lv_if_eq (tgt := 75) hx hb dX8_word_25 (by decide) (fun hc => ?_) (fun hc => ?_)
    · have h := h.1 hc
      refine lv_iload_n hx hb dX8_word_75 rfl (lv_at hl 1 rfl) ?_
      exact zret_i hx hb hr hlocks hK hP hD hS h dX8_word_76
    · have h := h.2 hc
      refine lv_iload_n hx hb dX8_word_28 rfl (lv_at hl 2 rfl) ?_
      refine lv_bipush (v := (6 : Int32)) hx hb dX8_word_29 (by decide) ?_
      refine lv_icmp_ge (tgt := 59) hx hb dX8_word_31 (by decide) (fun hc => ?_) (fun hc => ?_)
      · have h := h.1 hc
        exact t_X8_word_59 C0 hK N hk_4 x1 x2 τ4 _ _ _ h hP hD hS (lv_sub hl [0, 1, 2] rfl)
      · have h := h.2 hc
        refine lv_iload_n hx hb dX8_word_34 rfl (lv_at hl 1 rfl) ?_
        refine lv_aload_n hx hb dX8_word_35 rfl (lv_at hl 0 rfl) ?_
        refine xg_8_0 hx hb hts hown hK hP mw_118 dX8_word_36 ?_
        refine lv_aload_n hx hb dX8_word_39 rfl (lv_at hl 0 rfl) ?_
        refine xg_8_6 hx hb hts hown hK hP mw_129 dX8_word_40 ?_
        refine k_X7_at N ⟨hx, hb, hml, hown, hts⟩ mw_341 ⟨Nat.le_of_ble_eq_true rfl, Nat.le_of_ble_eq_true rfl⟩ h hK hP hD hS hl.1 (rest := [.int x1]) (Nat.le_of_ble_eq_true rfl) ⟨Nat.le_of_ble_eq_true rfl, Nat.le_of_ble_eq_true rfl⟩ dX8_word_43 (fun r5 τ6 H locs h hP hD hS => ?_)
        refine lv_bipush (v := (97 : Int32)) hx hb dX8_word_46 (by decide) ?_
        refine lv_isub hx hb dX8_word_48 ?_
        refine lv_iconst (v := (1 : Int32)) hx hb dX8_word_49 (by decide) ?_
        refine lv_iadd hx hb dX8_word_50 ?_
        refine lv_iconst (v := (5 : Int32)) hx hb dX8_word_51 (by decide) ?_
        refine lv_iconst (v := (5 : Int32)) hx hb dX8_word_52 (by decide) ?_
        refine lv_iload_n hx hb dX8_word_53 rfl (lv_at hl 2 rfl) ?_
        refine lv_isub hx hb dX8_word_54 ?_
        refine lv_imul hx hb dX8_word_55 ?_
        refine lv_ishl hx hb dX8_word_56 ?_
        refine lv_ior hx hb dX8_word_57 ?_
        refine lv_topi (fun v7 ev7 => ?_)
        have h := h v7 ev7
        refine lv_istore_n (lv' := [(1, .int v7), (0, .ref (ad 8)), (2, .int x2)]) hx hb dX8_word_58 rfl hl (by decide) rfl (fun ls hl => ?_)
        exact t_X8_word_59 C0 hK N hk_4 v7 x2 τ6 _ _ _ h hP hD hS (lv_sub hl [1, 0, 2] rfl)
set_option maxHeartbeats 4000000 in
set_option maxRecDepth 100000 in
theorem t_X8_word_4 (C0 : zCx p s m meth c args RX8 cX8_word 3 (some .int) vs_X8_word) (hK : va_K (dC, dI) vwCl (x_ty cI cJ) s) (N : Nat) {Q : Int32 → zSt → Prop} : ∀ (f : Nat) (x1 : Int32) (x2 : Int32) (σ : zSt) (H : Heap) (locs : List Loc) (ls : Array Slot), w_X8_word_4 N  Q f x1 x2 σ → va_P (dC, dI) vwCl (x_W ad cI cJ σ) H → va_D (zAW x_n ad s.heap.size) (x_W ad cI cJ σ) → va_S (zAW x_n ad s.heap.size) s.heap H locs → lv_has ls 3 [(0, .ref (ad 8)), (1, .int x1), (2, .int x2)] → W p l e rm_X8_word s m args below meth c H locs 0 0 (MQ below (zQi (dC, dI) (x_ty cI cJ) (x_W ad cI cJ) (zAW x_n ad s.heap.size) Q) args s 0 0 (zAW x_n ad s.heap.size)) (F0 m 4 ls []) := by
  intro f
  induction f with
  | zero => intro x1 x2 σ H locs ls h; exact h.elim
  | succ f ih =>
    intro x1 x2 σ H locs ls h hP hD hS hl
    exact tb_X8_word_4 C0 hK N  (k_4 := w_X8_word_4 N  Q f) ih x1 x2 σ H locs ls h hP hD hS hl
set_option maxHeartbeats 4000000 in
set_option maxRecDepth 100000 in
theorem t_X8_word_0 (C0 : zCx p s m meth c args RX8 cX8_word 3 (some .int) vs_X8_word) (hK : va_K (dC, dI) vwCl (x_ty cI cJ) s) (N : Nat) {Q : Int32 → zSt → Prop} : ∀  (σ : zSt) (H : Heap) (locs : List Loc) (ls : Array Slot), w_X8_word N  σ Q → va_P (dC, dI) vwCl (x_W ad cI cJ σ) H → va_D (zAW x_n ad s.heap.size) (x_W ad cI cJ σ) → va_S (zAW x_n ad s.heap.size) s.heap H locs → lv_has ls 3 [(0, .ref (ad 8))] → W p l e rm_X8_word s m args below meth c H locs 0 0 (MQ below (zQi (dC, dI) (x_ty cI cJ) (x_W ad cI cJ) (zAW x_n ad s.heap.size) Q) args s 0 0 (zAW x_n ad s.heap.size)) (F0 m 0 ls []) := by
  obtain ⟨hx, hb, hml, hr, hown, hts, hlocks⟩ := id C0
  intro  σ H locs ls h hP hD hS hl
  unfold w_X8_word at h
  refine lv_iconst (v := (0 : Int32)) hx hb dX8_word_0 (by decide) ?_
  refine lv_istore_n (lv' := [(1, .int (0 : Int32)), (0, .ref (ad 8))]) hx hb dX8_word_1 rfl hl (by decide) rfl (fun ls hl => ?_)
  refine lv_iconst (v := (0 : Int32)) hx hb dX8_word_2 (by decide) ?_
  refine lv_istore_n (lv' := [(2, .int (0 : Int32)), (1, .int (0 : Int32)), (0, .ref (ad 8))]) hx hb dX8_word_3 rfl hl (by decide) rfl (fun ls hl => ?_)
  exact t_X8_word_4 C0 hK N  N (0 : Int32) (0 : Int32) σ _ _ _ h hP hD hS (lv_sub hl [2, 1, 0] rfl)
set_option maxHeartbeats 4000000 in
set_option maxRecDepth 100000 in
theorem c_X8_word (N : Nat) (l : Launch) (dC : Nat → ClassId) (dI : Nat → Nat → Nat) (ad : Nat → Nat) (cI cJ : ClassId) (sz : Nat) (σ : zSt)  (Q : Int32 → zSt → Prop) (h : w_X8_word N  σ Q) : Met l yX8_word vs_X8_word rm_X8_word (va_Pc [.ref (ad 8)] (zPc (dC, dI) (x_ty cI cJ) (x_W ad cI cJ) sz σ)) (zQi (dC, dI) (x_ty cI cJ) (x_W ad cI cJ) (zAW x_n ad sz) Q) 0 0 (zAW x_n ad sz) := by
  refine Met.ofW (cc := cX8_word) (maxL := 3) (ret := (some .int)) (by decide) rfl ?_
  intro p e s m args below meth c s₁ B hml hv
  obtain ⟨rfl, hsz, hP, hK, hD0⟩ := hv
  subst hsz
  have C0 : zCx p s m meth c _ RX8 cX8_word 3 (some .int) vs_X8_word := ⟨B.exec, B.bytes, hml, B.returns, findClass_of_methodNamed B.named, atoms_spec (ws := vs_X8_word) B.pre, B.notSynchronized⟩
  have hD := x_D0 (n0 := s.heap.size) hD0
  have hl := lv_entry ([.ref (ad 8)]) (n := 3) (Nat.le_of_ble_eq_true rfl)
  rw [lg_entry_eq]
  generalize (lg_sl ([.ref (ad 8)]) ++ List.replicate (3 - (lg_sl ([.ref (ad 8)])).length) Slot.unset).toArray = ls at hl ⊢
  exact t_X8_word_0 C0 hK N  σ _ _ ls h hP hD va_S.rf hl
theorem k_X8_word (N : Nat) {R : Room} {H : Heap} {locs : List Loc} {cells slots : Nat} {Q2 : State → Prop} {cc : ByteArray} {nL pc index : Nat} {ls : Array Slot} {rest : List Value} {own : String} {c0 : Cond} {σ : zSt}  {Q : Int32 → zSt → Prop} (S0 : CallFix p m c cc nL s args (c0 :: zT) own) (hml : Cond.methodLink own index yX8_word ∈ zT) (hR : rm_X8_word.frames + 1 ≤ R.frames ∧ 8 + (3 + 11) + rm_X8_word.locals ≤ R.locals) (h : w_X8_word N  σ Q) (hK : va_K (dC, dI) vwCl (x_ty cI cJ) s) (hP : va_P (dC, dI) vwCl (x_W ad cI cJ σ) H) (hD : va_D (zAW x_n ad s.heap.size) (x_W ad cI cJ σ)) (hS : va_S (zAW x_n ad s.heap.size) s.heap H locs) (hsz : ls.size = nL) (hW : (rest.map fun v => v.category).sum ≤ 8) (hcs : cells ≤ R.cells ∧ slots ≤ R.slots) (hdg : decode cc pc = .ok (.invokevirtual index, 3)) (kk : ∀ (r : Int32) (τ : zSt) (H1 : Heap) (locs1 : List Loc), Q r τ → va_P (dC, dI) vwCl (x_W ad cI cJ τ) H1 → va_D (zAW x_n ad s.heap.size) (x_W ad cI cJ τ) → va_S (zAW x_n ad s.heap.size) s.heap H1 locs1 → W p l e R s m args below meth c H1 locs1 cells slots Q2 (F0 m (pc + 3) ls (.int r :: rest))) : W p l e R s m args below meth c H locs cells slots Q2 (F0 m pc ls (.ref (ad 8) :: rest)) :=
  zcv_i (T := TX8) (N' := 7) (k := 8) (ci := 8) (fs := x_f8 ad σ) [] S0 (c_X8_word N l dC dI ad cI cJ H.size σ  Q h) (cw_X8_word S0.2.2.2.2 hml rfl rfl hR) rfl rfl hK hP hD hS rfl hsz hW rfl hcs hdg kk
end q00
section q00
def b_X8_cutOne_171 (N : Nat) (Q : Int32 → zSt → Prop)  (σ : zSt) : Prop :=
  (vp_in (σ.1 23) 801) ∧ ((vp_in (σ.1 23) 801) ∧ (∀ τ1 : zSt, τ1 = zA σ 26 (upd (σ.2.2.1 26) ((σ.1 23).toNatClampNeg) ((σ.1 24) - (σ.2.2.1 25 (σ.1 23).toNatClampNeg))) → (vp_in (τ1.1 23) 801) ∧ (Q (τ1.2.2.1 24 (τ1.1 23).toNatClampNeg) τ1)))
def b_X8_cutOne_79 (N : Nat) (Q : Int32 → zSt → Prop) (x1 : Int32) (s0 : Int32) (s1 : Int32) (σ : zSt) : Prop :=
  (vp_in s1 801) ∧ (∀ τ1 : zSt, τ1 = zA σ 24 (upd (σ.2.2.1 24) (s1.toNatClampNeg) s0) → (vp_in (τ1.1 23) 801) ∧ (∀ τ2 : zSt, τ2 = zA τ1 27 (upd (τ1.2.2.1 27) ((τ1.1 23).toNatClampNeg) x1) → (vp_in (τ2.1 23) 801) ∧ (((τ2.2.2.1 24 (τ2.1 23).toNatClampNeg) = (1 : Int32) → w_X8_word N τ2 (fun r7 τ8 => (vp_in (τ2.1 23) 801) ∧ (∀ τ9 : zSt, τ9 = zA τ8 27 (upd (τ8.2.2.1 27) ((τ2.1 23).toNatClampNeg) r7) → b_X8_cutOne_171 N Q τ9))) ∧ (¬ (τ2.2.2.1 24 (τ2.1 23).toNatClampNeg) = (1 : Int32) → (vp_in (τ2.1 23) 801) ∧ (((τ2.2.2.1 24 (τ2.1 23).toNatClampNeg) = (2 : Int32) → w_X8_number N τ2 (fun r4 τ5 => (vp_in (τ2.1 23) 801) ∧ (∀ τ6 : zSt, τ6 = zA τ5 27 (upd (τ5.2.2.1 27) ((τ2.1 23).toNatClampNeg) r4) → b_X8_cutOne_171 N Q τ6))) ∧ (¬ (τ2.2.2.1 24 (τ2.1 23).toNatClampNeg) = (2 : Int32) → (vp_in (τ2.1 23) 801) ∧ (((τ2.2.2.1 24 (τ2.1 23).toNatClampNeg) = (3 : Int32) → ∀ τ3 : zSt, τ3 = zI τ2 24 ((τ2.1 24) + (1 : Int32)) → b_X8_cutOne_171 N Q τ3) ∧ (¬ (τ2.2.2.1 24 (τ2.1 23).toNatClampNeg) = (3 : Int32) → b_X8_cutOne_171 N Q τ2))))))))
def w_X8_cutOne (N : Nat)  (σ : zSt) (Q : Int32 → zSt → Prop) : Prop :=
  ((σ.1 23) < (801 : Int32) → w_X7_at N (σ.1 24) σ (fun r1 τ2 => (vp_in (τ2.1 23) 801) ∧ (∀ τ3 : zSt, τ3 = zA τ2 25 (upd (τ2.2.2.1 25) ((τ2.1 23).toNatClampNeg) (τ2.1 24)) → (r1 = (-1 : Int32) → b_X8_cutOne_79 N Q r1 (0 : Int32) (τ3.1 23) τ3) ∧ (¬ r1 = (-1 : Int32) → w_X8_isLetter N r1 τ3 (fun r4 τ5 => (r4 = 0 → w_X8_isDigit N r1 τ5 (fun r6 τ7 => (r6 = 0 → b_X8_cutOne_79 N Q r1 (3 : Int32) (τ3.1 23) τ7) ∧ (¬ r6 = 0 → b_X8_cutOne_79 N Q r1 (2 : Int32) (τ3.1 23) τ7))) ∧ (¬ r4 = 0 → b_X8_cutOne_79 N Q r1 (1 : Int32) (τ3.1 23) τ5)))))) ∧ (¬ (σ.1 23) < (801 : Int32) → Q (0 : Int32) σ)
variable {p : Program} {l : Launch} {e : Env} {s : State} {m : MethodId} {args : Array Value} {below : List Frame} {meth : Method} {c : Code} {dC : Nat → ClassId} {dI : Nat → Nat → Nat} {ad : Nat → Nat} {cI cJ : ClassId}
set_option maxHeartbeats 4000000 in
set_option maxRecDepth 100000 in
theorem t_X8_cutOne_171 (C0 : zCx p s m meth c args RX8 cX8_cutOne 2 (some .int) vs_X8_cutOne) (hK : va_K (dC, dI) vwCl (x_ty cI cJ) s) (N : Nat) {Q : Int32 → zSt → Prop} : ∀  (σ : zSt) (H : Heap) (locs : List Loc) (ls : Array Slot), b_X8_cutOne_171 N  Q  σ → va_P (dC, dI) vwCl (x_W ad cI cJ σ) H → va_D (zAW x_n ad s.heap.size) (x_W ad cI cJ σ) → va_S (zAW x_n ad s.heap.size) s.heap H locs → lv_has ls 2 [(0, .ref (ad 8))] → W p l e rm_X8_cutOne s m args below meth c H locs 0 0 (MQ below (zQi (dC, dI) (x_ty cI cJ) (x_W ad cI cJ) (zAW x_n ad s.heap.size) Q) args s 0 0 (zAW x_n ad s.heap.size)) (F0 m 171 ls []) := by
  obtain ⟨hx, hb, hml, hr, hown, hts, hlocks⟩ := id C0
  intro  σ H locs ls h hP hD hS hl
  unfold b_X8_cutOne_171 at h
  refine lv_aload_n hx hb dX8_cutOne_171 rfl (lv_at hl 0 rfl) ?_
  refine xg_8_3 hx hb hts hown hK hP mw_123 dX8_cutOne_172 ?_
  refine lv_aload_n hx hb dX8_cutOne_175 rfl (lv_at hl 0 rfl) ?_
  refine xg_8_5 hx hb hts hown hK hP mw_127 dX8_cutOne_176 ?_
  refine lv_aload_n hx hb dX8_cutOne_179 rfl (lv_at hl 0 rfl) ?_
  refine xg_8_6 hx hb hts hown hK hP mw_129 dX8_cutOne_180 ?_
  refine lv_aload_n hx hb dX8_cutOne_183 rfl (lv_at hl 0 rfl) ?_
  refine xg_8_2 hx hb hts hown hK hP mw_121 dX8_cutOne_184 ?_
  refine lv_aload_n hx hb dX8_cutOne_187 rfl (lv_at hl 0 rfl) ?_
  refine xg_8_5 hx hb hts hown hK hP mw_127 dX8_cutOne_188 ?_
  refine xa_45 hx hb hK hP h.1 rfl dX8_cutOne_191 ?_
  have h := h.2
  refine lv_isub hx hb dX8_cutOne_192 ?_
  refine xs_46 hx hb hK hP hD hS h.1 rfl dX8_cutOne_193 (fun τ1 H locs eτ1 hP hD hS => ?_)
  have h := h.2
  have h := h τ1 eτ1
  refine lv_aload_n hx hb dX8_cutOne_194 rfl (lv_at hl 0 rfl) ?_
  refine xg_8_1 hx hb hts hown hK hP mw_119 dX8_cutOne_195 ?_
  refine lv_aload_n hx hb dX8_cutOne_198 rfl (lv_at hl 0 rfl) ?_
  refine xg_8_5 hx hb hts hown hK hP mw_127 dX8_cutOne_199 ?_
  refine xa_44 hx hb hK hP h.1 rfl dX8_cutOne_202 ?_
  have h := h.2
  exact zret_i hx hb hr hlocks hK hP hD hS h dX8_cutOne_203
set_option maxHeartbeats 4000000 in
set_option maxRecDepth 100000 in
theorem t_X8_cutOne_79 (C0 : zCx p s m meth c args RX8 cX8_cutOne 2 (some .int) vs_X8_cutOne) (hK : va_K (dC, dI) vwCl (x_ty cI cJ) s) (N : Nat) {Q : Int32 → zSt → Prop} : ∀ (x1 : Int32) (s0 : Int32) (s1 : Int32) (σ : zSt) (H : Heap) (locs : List Loc) (ls : Array Slot), b_X8_cutOne_79 N  Q x1 s0 s1 σ → va_P (dC, dI) vwCl (x_W ad cI cJ σ) H → va_D (zAW x_n ad s.heap.size) (x_W ad cI cJ σ) → va_S (zAW x_n ad s.heap.size) s.heap H locs → lv_has ls 2 [(0, .ref (ad 8)), (1, .int x1)] → W p l e rm_X8_cutOne s m args below meth c H locs 0 0 (MQ below (zQi (dC, dI) (x_ty cI cJ) (x_W ad cI cJ) (zAW x_n ad s.heap.size) Q) args s 0 0 (zAW x_n ad s.heap.size)) (F0 m 79 ls [.int s0, .int s1, .ref (ad 44)]) := by
  obtain ⟨hx, hb, hml, hr, hown, hts, hlocks⟩ := id C0
  intro x1 s0 s1 σ H locs ls h hP hD hS hl
  unfold b_X8_cutOne_79 at h
  refine xs_44 hx hb hK hP hD hS h.1 rfl dX8_cutOne_79 (fun τ1 H locs eτ1 hP hD hS => ?_)
  have h := h.2
  have h := h τ1 eτ1
  refine lv_aload_n hx hb dX8_cutOne_80 rfl (lv_at hl 0 rfl) ?_
  refine xg_8_4 hx hb hts hown hK hP mw_125 dX8_cutOne_81 ?_
  refine lv_aload_n hx hb dX8_cutOne_84 rfl (lv_at hl 0 rfl) ?_
  refine xg_8_5 hx hb hts hown hK hP mw_127 dX8_cutOne_85 ?_
  refine lv_iload_n hx hb dX8_cutOne_88 rfl (lv_at hl 1 rfl) ?_
  refine xs_47 hx hb hK hP hD hS h.1 rfl dX8_cutOne_89 (fun τ2 H locs eτ2 hP hD hS => ?_)
  have h := h.2
  have h := h τ2 eτ2
  refine lv_aload_n hx hb dX8_cutOne_90 rfl (lv_at hl 0 rfl) ?_
  refine xg_8_1 hx hb hts hown hK hP mw_119 dX8_cutOne_91 ?_
  refine lv_aload_n hx hb dX8_cutOne_94 rfl (lv_at hl 0 rfl) ?_
  refine xg_8_5 hx hb hts hown hK hP mw_127 dX8_cutOne_95 ?_
  refine xa_44 hx hb hK hP h.1 rfl dX8_cutOne_98 ?_
  have h := h.2
  refine lv_iconst (v := (1 : Int32)) hx hb dX8_cutOne_99 (by decide) ?_
  refine lv_icmp_ne (tgt := 119) hx hb dX8_cutOne_100 (by decide) (fun hc => ?_) (fun hc => ?_)
  · have h := h.2 hc
    refine lv_aload_n hx hb dX8_cutOne_119 rfl (lv_at hl 0 rfl) ?_
    refine xg_8_1 hx hb hts hown hK hP mw_119 dX8_cutOne_120 ?_
    refine lv_aload_n hx hb dX8_cutOne_123 rfl (lv_at hl 0 rfl) ?_
    refine xg_8_5 hx hb hts hown hK hP mw_127 dX8_cutOne_124 ?_
    refine xa_44 hx hb hK hP h.1 rfl dX8_cutOne_127 ?_
    have h := h.2
    refine lv_iconst (v := (2 : Int32)) hx hb dX8_cutOne_128 (by decide) ?_
    refine lv_icmp_ne (tgt := 148) hx hb dX8_cutOne_129 (by decide) (fun hc => ?_) (fun hc => ?_)
    · have h := h.2 hc
      refine lv_aload_n hx hb dX8_cutOne_148 rfl (lv_at hl 0 rfl) ?_
      refine xg_8_1 hx hb hts hown hK hP mw_119 dX8_cutOne_149 ?_
      refine lv_aload_n hx hb dX8_cutOne_152 rfl (lv_at hl 0 rfl) ?_
      refine xg_8_5 hx hb hts hown hK hP mw_127 dX8_cutOne_153 ?_
      refine xa_44 hx hb hK hP h.1 rfl dX8_cutOne_156 ?_
      have h := h.2
      refine lv_iconst (v := (3 : Int32)) hx hb dX8_cutOne_157 (by decide) ?_
      refine lv_icmp_ne (tgt := 171) hx hb dX8_cutOne_158 (by decide) (fun hc => ?_) (fun hc => ?_)
      · have h := h.2 hc
        exact t_X8_cutOne_171 C0 hK N  τ2 _ _ _ h hP hD hS (lv_sub hl [0] rfl)
      · have h := h.1 hc
        refine lv_aload_n hx hb dX8_cutOne_161 rfl (lv_at hl 0 rfl) ?_
        refine lv_dup hx hb dX8_cutOne_162 rfl ?_
        refine xg_8_6 hx hb hts hown hK hP mw_129 dX8_cutOne_163 ?_
        refine lv_iconst (v := (1 : Int32)) hx hb dX8_cutOne_166 (by decide) ?_
        refine lv_iadd hx hb dX8_cutOne_167 ?_
        refine xp_8_6 hx hb hts hown hK hP hD hS mw_129 dX8_cutOne_168 (fun τ3 H locs eτ3 hP hD hS => ?_)
        have h := h τ3 eτ3
        exact t_X8_cutOne_171 C0 hK N  τ3 _ _ _ h hP hD hS (lv_sub hl [0] rfl)
    · have h := h.1 hc
      refine lv_aload_n hx hb dX8_cutOne_132 rfl (lv_at hl 0 rfl) ?_
      refine xg_8_4 hx hb hts hown hK hP mw_125 dX8_cutOne_133 ?_
      refine lv_aload_n hx hb dX8_cutOne_136 rfl (lv_at hl 0 rfl) ?_
      refine xg_8_5 hx hb hts hown hK hP mw_127 dX8_cutOne_137 ?_
      refine lv_aload_n hx hb dX8_cutOne_140 rfl (lv_at hl 0 rfl) ?_
      refine k_X8_number N ⟨hx, hb, hml, hown, hts⟩ mw_360 ⟨Nat.le_of_ble_eq_true rfl, Nat.le_of_ble_eq_true rfl⟩ h hK hP hD hS hl.1 (rest := [.int (τ2.1 23), .ref (ad 47)]) (Nat.le_of_ble_eq_true rfl) ⟨Nat.le_of_ble_eq_true rfl, Nat.le_of_ble_eq_true rfl⟩ dX8_cutOne_141 (fun r4 τ5 H locs h hP hD hS => ?_)
      refine xs_47 hx hb hK hP hD hS h.1 rfl dX8_cutOne_144 (fun τ6 H locs eτ6 hP hD hS => ?_)
      have h := h.2
      have h := h τ6 eτ6
      refine lv_goto (tgt := 171) hx hb dX8_cutOne_145 (by decide) ?_
      exact t_X8_cutOne_171 C0 hK N  τ6 _ _ _ h hP hD hS (lv_sub hl [0] rfl)
  · have h := h.1 hc
    refine lv_aload_n hx hb dX8_cutOne_103 rfl (lv_at hl 0 rfl) ?_
    refine xg_8_4 hx hb hts hown hK hP mw_125 dX8_cutOne_104 ?_
    refine lv_aload_n hx hb dX8_cutOne_107 rfl (lv_at hl 0 rfl) ?_
    refine xg_8_5 hx hb hts hown hK hP mw_127 dX8_cutOne_108 ?_
    refine lv_aload_n hx hb dX8_cutOne_111 rfl (lv_at hl 0 rfl) ?_
    refine k_X8_word N ⟨hx, hb, hml, hown, hts⟩ mw_357 ⟨Nat.le_of_ble_eq_true rfl, Nat.le_of_ble_eq_true rfl⟩ h hK hP hD hS hl.1 (rest := [.int (τ2.1 23), .ref (ad 47)]) (Nat.le_of_ble_eq_true rfl) ⟨Nat.le_of_ble_eq_true rfl, Nat.le_of_ble_eq_true rfl⟩ dX8_cutOne_112 (fun r7 τ8 H locs h hP hD hS => ?_)
    refine xs_47 hx hb hK hP hD hS h.1 rfl dX8_cutOne_115 (fun τ9 H locs eτ9 hP hD hS => ?_)
    have h := h.2
    have h := h τ9 eτ9
    refine lv_goto (tgt := 171) hx hb dX8_cutOne_116 (by decide) ?_
    exact t_X8_cutOne_171 C0 hK N  τ9 _ _ _ h hP hD hS (lv_sub hl [0] rfl)
set_option maxHeartbeats 4000000 in
set_option maxRecDepth 100000 in
theorem t_X8_cutOne_0 (C0 : zCx p s m meth c args RX8 cX8_cutOne 2 (some .int) vs_X8_cutOne) (hK : va_K (dC, dI) vwCl (x_ty cI cJ) s) (N : Nat) {Q : Int32 → zSt → Prop} : ∀  (σ : zSt) (H : Heap) (locs : List Loc) (ls : Array Slot), w_X8_cutOne N  σ Q → va_P (dC, dI) vwCl (x_W ad cI cJ σ) H → va_D (zAW x_n ad s.heap.size) (x_W ad cI cJ σ) → va_S (zAW x_n ad s.heap.size) s.heap H locs → lv_has ls 2 [(0, .ref (ad 8))] → W p l e rm_X8_cutOne s m args below meth c H locs 0 0 (MQ below (zQi (dC, dI) (x_ty cI cJ) (x_W ad cI cJ) (zAW x_n ad s.heap.size) Q) args s 0 0 (zAW x_n ad s.heap.size)) (F0 m 0 ls []) := by
  obtain ⟨hx, hb, hml, hr, hown, hts, hlocks⟩ := id C0
  intro  σ H locs ls h hP hD hS hl
  unfold w_X8_cutOne at h
  refine lv_aload_n hx hb dX8_cutOne_0 rfl (lv_at hl 0 rfl) ?_
  refine xg_8_5 hx hb hts hown hK hP mw_127 dX8_cutOne_1 ?_
  refine lv_aload_n hx hb dX8_cutOne_4 rfl (lv_at hl 0 rfl) ?_
  refine xg_8_1 hx hb hts hown hK hP mw_119 dX8_cutOne_5 ?_
  refine xl_44 hx hb hK hP dX8_cutOne_8 ?_
  refine lv_icmp_lt (tgt := 14) hx hb dX8_cutOne_9 (by decide) (fun hc => ?_) (fun hc => ?_)
  · have h := h.1 hc
    refine lv_aload_n hx hb dX8_cutOne_14 rfl (lv_at hl 0 rfl) ?_
    refine xg_8_0 hx hb hts hown hK hP mw_118 dX8_cutOne_15 ?_
    refine lv_aload_n hx hb dX8_cutOne_18 rfl (lv_at hl 0 rfl) ?_
    refine xg_8_6 hx hb hts hown hK hP mw_129 dX8_cutOne_19 ?_
    refine k_X7_at N ⟨hx, hb, hml, hown, hts⟩ mw_341 ⟨Nat.le_of_ble_eq_true rfl, Nat.le_of_ble_eq_true rfl⟩ h hK hP hD hS hl.1 (rest := []) (Nat.le_of_ble_eq_true rfl) ⟨Nat.le_of_ble_eq_true rfl, Nat.le_of_ble_eq_true rfl⟩ dX8_cutOne_22 (fun r1 τ2 H locs h hP hD hS => ?_)
    refine lv_istore_n (lv' := [(1, .int r1), (0, .ref (ad 8))]) hx hb dX8_cutOne_25 rfl hl (by decide) rfl (fun ls hl => ?_)
    refine lv_aload_n hx hb dX8_cutOne_26 rfl (lv_at hl 1 rfl) ?_
    refine xg_8_2 hx hb hts hown hK hP mw_121 dX8_cutOne_27 ?_
    refine lv_aload_n hx hb dX8_cutOne_30 rfl (lv_at hl 1 rfl) ?_
    refine xg_8_5 hx hb hts hown hK hP mw_127 dX8_cutOne_31 ?_
    refine lv_aload_n hx hb dX8_cutOne_34 rfl (lv_at hl 1 rfl) ?_
    refine xg_8_6 hx hb hts hown hK hP mw_129 dX8_cutOne_35 ?_
    refine xs_45 hx hb hK hP hD hS h.1 rfl dX8_cutOne_38 (fun τ3 H locs eτ3 hP hD hS => ?_)
    have h := h.2
    have h := h τ3 eτ3
    refine lv_aload_n hx hb dX8_cutOne_39 rfl (lv_at hl 1 rfl) ?_
    refine xg_8_1 hx hb hts hown hK hP mw_119 dX8_cutOne_40 ?_
    refine lv_aload_n hx hb dX8_cutOne_43 rfl (lv_at hl 1 rfl) ?_
    refine xg_8_5 hx hb hts hown hK hP mw_127 dX8_cutOne_44 ?_
    refine lv_iload_n hx hb dX8_cutOne_47 rfl (lv_at hl 0 rfl) ?_
    refine lv_iconst (v := (-1 : Int32)) hx hb dX8_cutOne_48 (by decide) ?_
    refine lv_icmp_ne (tgt := 56) hx hb dX8_cutOne_49 (by decide) (fun hc => ?_) (fun hc => ?_)
    · have h := h.2 hc
      refine lv_iload_n hx hb dX8_cutOne_56 rfl (lv_at hl 0 rfl) ?_
      refine k_X8_isLetter N ⟨hx, hb, hml, hown, hts⟩ mw_351 ⟨Nat.le_of_ble_eq_true rfl, Nat.le_of_ble_eq_true rfl⟩ h hK hP hD hS hl.1 (rest := [.int (τ3.1 23), .ref (ad 44)]) (Nat.le_of_ble_eq_true rfl) ⟨Nat.le_of_ble_eq_true rfl, Nat.le_of_ble_eq_true rfl⟩ dX8_cutOne_57 (fun r4 τ5 H locs h hP hD hS => ?_)
      refine lv_if_eq (tgt := 67) hx hb dX8_cutOne_60 (by decide) (fun hc => ?_) (fun hc => ?_)
      · have h := h.1 hc
        refine lv_iload_n hx hb dX8_cutOne_67 rfl (lv_at hl 0 rfl) ?_
        refine k_X8_isDigit N ⟨hx, hb, hml, hown, hts⟩ mw_354 ⟨Nat.le_of_ble_eq_true rfl, Nat.le_of_ble_eq_true rfl⟩ h hK hP hD hS hl.1 (rest := [.int (τ3.1 23), .ref (ad 44)]) (Nat.le_of_ble_eq_true rfl) ⟨Nat.le_of_ble_eq_true rfl, Nat.le_of_ble_eq_true rfl⟩ dX8_cutOne_68 (fun r6 τ7 H locs h hP hD hS => ?_)
        refine lv_if_eq (tgt := 78) hx hb dX8_cutOne_71 (by decide) (fun hc => ?_) (fun hc => ?_)
        · have h := h.1 hc
          refine lv_iconst (v := (3 : Int32)) hx hb dX8_cutOne_78 (by decide) ?_
          exact t_X8_cutOne_79 C0 hK N  r1 (3 : Int32) (τ3.1 23) τ7 _ _ _ h hP hD hS (lv_sub hl [1, 0] rfl)
        · have h := h.2 hc
          refine lv_iconst (v := (2 : Int32)) hx hb dX8_cutOne_74 (by decide) ?_
          refine lv_goto (tgt := 79) hx hb dX8_cutOne_75 (by decide) ?_
          exact t_X8_cutOne_79 C0 hK N  r1 (2 : Int32) (τ3.1 23) τ7 _ _ _ h hP hD hS (lv_sub hl [1, 0] rfl)
      · have h := h.2 hc
        refine lv_iconst (v := (1 : Int32)) hx hb dX8_cutOne_63 (by decide) ?_
        refine lv_goto (tgt := 79) hx hb dX8_cutOne_64 (by decide) ?_
        exact t_X8_cutOne_79 C0 hK N  r1 (1 : Int32) (τ3.1 23) τ5 _ _ _ h hP hD hS (lv_sub hl [1, 0] rfl)
    · have h := h.1 hc
      refine lv_iconst (v := (0 : Int32)) hx hb dX8_cutOne_52 (by decide) ?_
      refine lv_goto (tgt := 79) hx hb dX8_cutOne_53 (by decide) ?_
      exact t_X8_cutOne_79 C0 hK N  r1 (0 : Int32) (τ3.1 23) τ3 _ _ _ h hP hD hS (lv_sub hl [1, 0] rfl)
  · have h := h.2 hc
    refine lv_iconst (v := (0 : Int32)) hx hb dX8_cutOne_12 (by decide) ?_
    exact zret_i hx hb hr hlocks hK hP hD hS h dX8_cutOne_13
set_option maxHeartbeats 4000000 in
set_option maxRecDepth 100000 in
theorem c_X8_cutOne (N : Nat) (l : Launch) (dC : Nat → ClassId) (dI : Nat → Nat → Nat) (ad : Nat → Nat) (cI cJ : ClassId) (sz : Nat) (σ : zSt)  (Q : Int32 → zSt → Prop) (h : w_X8_cutOne N  σ Q) : Met l yX8_cutOne vs_X8_cutOne rm_X8_cutOne (va_Pc [.ref (ad 8)] (zPc (dC, dI) (x_ty cI cJ) (x_W ad cI cJ) sz σ)) (zQi (dC, dI) (x_ty cI cJ) (x_W ad cI cJ) (zAW x_n ad sz) Q) 0 0 (zAW x_n ad sz) := by
  refine Met.ofW (cc := cX8_cutOne) (maxL := 2) (ret := (some .int)) (by decide) rfl ?_
  intro p e s m args below meth c s₁ B hml hv
  obtain ⟨rfl, hsz, hP, hK, hD0⟩ := hv
  subst hsz
  have C0 : zCx p s m meth c _ RX8 cX8_cutOne 2 (some .int) vs_X8_cutOne := ⟨B.exec, B.bytes, hml, B.returns, findClass_of_methodNamed B.named, atoms_spec (ws := vs_X8_cutOne) B.pre, B.notSynchronized⟩
  have hD := x_D0 (n0 := s.heap.size) hD0
  have hl := lv_entry ([.ref (ad 8)]) (n := 2) (Nat.le_of_ble_eq_true rfl)
  rw [lg_entry_eq]
  generalize (lg_sl ([.ref (ad 8)]) ++ List.replicate (2 - (lg_sl ([.ref (ad 8)])).length) Slot.unset).toArray = ls at hl ⊢
  exact t_X8_cutOne_0 C0 hK N  σ _ _ ls h hP hD va_S.rf hl
theorem k_X8_cutOne (N : Nat) {R : Room} {H : Heap} {locs : List Loc} {cells slots : Nat} {Q2 : State → Prop} {cc : ByteArray} {nL pc index : Nat} {ls : Array Slot} {rest : List Value} {own : String} {c0 : Cond} {σ : zSt}  {Q : Int32 → zSt → Prop} (S0 : CallFix p m c cc nL s args (c0 :: zT) own) (hml : Cond.methodLink own index yX8_cutOne ∈ zT) (hR : rm_X8_cutOne.frames + 1 ≤ R.frames ∧ 8 + (2 + 11) + rm_X8_cutOne.locals ≤ R.locals) (h : w_X8_cutOne N  σ Q) (hK : va_K (dC, dI) vwCl (x_ty cI cJ) s) (hP : va_P (dC, dI) vwCl (x_W ad cI cJ σ) H) (hD : va_D (zAW x_n ad s.heap.size) (x_W ad cI cJ σ)) (hS : va_S (zAW x_n ad s.heap.size) s.heap H locs) (hsz : ls.size = nL) (hW : (rest.map fun v => v.category).sum ≤ 8) (hcs : cells ≤ R.cells ∧ slots ≤ R.slots) (hdg : decode cc pc = .ok (.invokevirtual index, 3)) (kk : ∀ (r : Int32) (τ : zSt) (H1 : Heap) (locs1 : List Loc), Q r τ → va_P (dC, dI) vwCl (x_W ad cI cJ τ) H1 → va_D (zAW x_n ad s.heap.size) (x_W ad cI cJ τ) → va_S (zAW x_n ad s.heap.size) s.heap H1 locs1 → W p l e R s m args below meth c H1 locs1 cells slots Q2 (F0 m (pc + 3) ls (.int r :: rest))) : W p l e R s m args below meth c H locs cells slots Q2 (F0 m pc ls (.ref (ad 8) :: rest)) :=
  zcv_i (T := TX8) (N' := 7) (k := 8) (ci := 8) (fs := x_f8 ad σ) [] S0 (c_X8_cutOne N l dC dI ad cI cJ H.size σ  Q h) (cw_X8_cutOne S0.2.2.2.2 hml rfl rfl hR) rfl rfl hK hP hD hS rfl hsz hW rfl hcs hdg kk
end q00
section q00
def b_X8_cut_91 (N : Nat) (k_14 : Int32 → Int32 → zSt → Prop) (Q : zSt → Prop) (x1 : Int32) (x2 : Int32) (σ : zSt) : Prop :=
  ∀ τ1 : zSt, τ1 = zI σ 23 ((σ.1 23) + (1 : Int32)) → ∀ v2 : Int32, v2 = x2 + (1 : Int32) → k_14 x1 v2 τ1
def b_X8_cut_81 (N : Nat) (k_14 : Int32 → Int32 → zSt → Prop) (Q : zSt → Prop) (x1 : Int32) (x2 : Int32) (σ : zSt) : Prop :=
  (vp_in (σ.1 23) 801) ∧ (∀ τ1 : zSt, τ1 = zA σ 24 (upd (σ.2.2.1 24) ((σ.1 23).toNatClampNeg) (4 : Int32)) → b_X8_cut_91 N k_14 Q x1 x2 τ1)
def b_X8_cut_59 (N : Nat) (k_14 : Int32 → Int32 → zSt → Prop) (Q : zSt → Prop) (x2 : Int32) (s0 : Int32) (σ : zSt) : Prop :=
  w_X8_cutOne N σ (fun r1 τ2 => (s0 = 0 → b_X8_cut_91 N k_14 Q r1 x2 τ2) ∧ (¬ s0 = 0 → (r1 = (1 : Int32) → b_X8_cut_81 N k_14 Q r1 x2 τ2) ∧ (¬ r1 = (1 : Int32) → (r1 = (2 : Int32) → b_X8_cut_81 N k_14 Q r1 x2 τ2) ∧ (¬ r1 = (2 : Int32) → b_X8_cut_91 N k_14 Q r1 x2 τ2))))
def b_X8_cut_58 (N : Nat) (k_14 : Int32 → Int32 → zSt → Prop) (Q : zSt → Prop) (x2 : Int32) (σ : zSt) : Prop :=
  b_X8_cut_59 N k_14 Q x2 (0 : Int32) σ
def b_X8_cut_54 (N : Nat) (k_14 : Int32 → Int32 → zSt → Prop) (Q : zSt → Prop) (x2 : Int32) (σ : zSt) : Prop :=
  b_X8_cut_59 N k_14 Q x2 (1 : Int32) σ
def b_X8_cut_14 (N : Nat) (k_14 : Int32 → Int32 → zSt → Prop) (Q : zSt → Prop) (x1 : Int32) (x2 : Int32) (σ : zSt) : Prop :=
  ((801 : Int32) ≤ x2 → Q σ) ∧ (¬ (801 : Int32) ≤ x2 → (x1 = 0 → Q σ) ∧ (¬ x1 = 0 → ∀ v1 : Int32, v1 = σ.1 24 → w_X8_skipBlanks N σ (fun τ3 => ((τ3.1 24) = v1 → (x1 = (1 : Int32) → b_X8_cut_54 N k_14 Q x2 τ3) ∧ (¬ x1 = (1 : Int32) → (x1 = (2 : Int32) → b_X8_cut_54 N k_14 Q x2 τ3) ∧ (¬ x1 = (2 : Int32) → b_X8_cut_58 N k_14 Q x2 τ3))) ∧ (¬ (τ3.1 24) = v1 → b_X8_cut_58 N k_14 Q x2 τ3))))
def w_X8_cut_14 (N : Nat) (Q : zSt → Prop) : Nat → Int32 → Int32 → zSt → Prop
  | 0 => fun _ _ _ => False
  | f + 1 => b_X8_cut_14 N (w_X8_cut_14 N  Q f) Q
def w_X8_cut (N : Nat)  (σ : zSt) (Q : zSt → Prop) : Prop :=
  ∀ τ1 : zSt, τ1 = zI σ 23 (0 : Int32) → ∀ τ2 : zSt, τ2 = zI τ1 24 (0 : Int32) → w_X8_cut_14 N Q N (3 : Int32) (0 : Int32) τ2
variable {p : Program} {l : Launch} {e : Env} {s : State} {m : MethodId} {args : Array Value} {below : List Frame} {meth : Method} {c : Code} {dC : Nat → ClassId} {dI : Nat → Nat → Nat} {ad : Nat → Nat} {cI cJ : ClassId}
set_option maxHeartbeats 4000000 in
set_option maxRecDepth 100000 in
theorem t_X8_cut_91 (C0 : zCx p s m meth c args RX8 cX8_cut 5 none vs_X8_cut) (hK : va_K (dC, dI) vwCl (x_ty cI cJ) s) (N : Nat) {Q : zSt → Prop} {k_14 : Int32 → Int32 → zSt → Prop} (hk_14 : ∀ (x1 : Int32) (x2 : Int32) (σ : zSt) (H : Heap) (locs : List Loc) (ls : Array Slot), k_14 x1 x2 σ → va_P (dC, dI) vwCl (x_W ad cI cJ σ) H → va_D (zAW x_n ad s.heap.size) (x_W ad cI cJ σ) → va_S (zAW x_n ad s.heap.size) s.heap H locs → lv_has ls 5 [(0, .ref (ad 8)), (1, .int x1), (2, .int x2)] → W p l e rm_X8_cut s m args below meth c H locs 0 0 (MQ below (zQv (dC, dI) (x_ty cI cJ) (x_W ad cI cJ) (zAW x_n ad s.heap.size) Q) args s 0 0 (zAW x_n ad s.heap.size)) (F0 m 14 ls [])) : ∀ (x1 : Int32) (x2 : Int32) (σ : zSt) (H : Heap) (locs : List Loc) (ls : Array Slot), b_X8_cut_91 N k_14 Q x1 x2 σ → va_P (dC, dI) vwCl (x_W ad cI cJ σ) H → va_D (zAW x_n ad s.heap.size) (x_W ad cI cJ σ) → va_S (zAW x_n ad s.heap.size) s.heap H locs → lv_has ls 5 [(0, .ref (ad 8)), (1, .int x1), (2, .int x2)] → W p l e rm_X8_cut s m args below meth c H locs 0 0 (MQ below (zQv (dC, dI) (x_ty cI cJ) (x_W ad cI cJ) (zAW x_n ad s.heap.size) Q) args s 0 0 (zAW x_n ad s.heap.size)) (F0 m 91 ls []) := by
  obtain ⟨hx, hb, hml, hr, hown, hts, hlocks⟩ := id C0
  intro x1 x2 σ H locs ls h hP hD hS hl
  unfold b_X8_cut_91 at h
  refine lv_aload_n hx hb dX8_cut_91 rfl (lv_at hl 0 rfl) ?_
  refine lv_dup hx hb dX8_cut_92 rfl ?_
  refine xg_8_5 hx hb hts hown hK hP mw_127 dX8_cut_93 ?_
  refine lv_iconst (v := (1 : Int32)) hx hb dX8_cut_96 (by decide) ?_
  refine lv_iadd hx hb dX8_cut_97 ?_
  refine xp_8_5 hx hb hts hown hK hP hD hS mw_127 dX8_cut_98 (fun τ1 H locs eτ1 hP hD hS => ?_)
  have h := h τ1 eτ1
  obtain ⟨v2, ev2⟩ : ∃ z : Int32, z = x2 + (1 : Int32) := ⟨_, rfl⟩
  have h := h v2 ev2
  refine lv_iinc (v := v2) (lv' := [(2, .int v2), (0, .ref (ad 8)), (1, .int x1)]) hx hb dX8_cut_101 hl (k := 2) rfl (by rw [ev2]; rfl) (by decide) rfl (fun ls hl => ?_)
  refine lv_goto (tgt := 14) hx hb dX8_cut_104 (by decide) ?_
  exact hk_14 x1 v2 τ1 _ _ _ h hP hD hS (lv_sub hl [1, 2, 0] rfl)
set_option maxHeartbeats 4000000 in
set_option maxRecDepth 100000 in
theorem t_X8_cut_81 (C0 : zCx p s m meth c args RX8 cX8_cut 5 none vs_X8_cut) (hK : va_K (dC, dI) vwCl (x_ty cI cJ) s) (N : Nat) {Q : zSt → Prop} {k_14 : Int32 → Int32 → zSt → Prop} (hk_14 : ∀ (x1 : Int32) (x2 : Int32) (σ : zSt) (H : Heap) (locs : List Loc) (ls : Array Slot), k_14 x1 x2 σ → va_P (dC, dI) vwCl (x_W ad cI cJ σ) H → va_D (zAW x_n ad s.heap.size) (x_W ad cI cJ σ) → va_S (zAW x_n ad s.heap.size) s.heap H locs → lv_has ls 5 [(0, .ref (ad 8)), (1, .int x1), (2, .int x2)] → W p l e rm_X8_cut s m args below meth c H locs 0 0 (MQ below (zQv (dC, dI) (x_ty cI cJ) (x_W ad cI cJ) (zAW x_n ad s.heap.size) Q) args s 0 0 (zAW x_n ad s.heap.size)) (F0 m 14 ls [])) : ∀ (x1 : Int32) (x2 : Int32) (σ : zSt) (H : Heap) (locs : List Loc) (ls : Array Slot), b_X8_cut_81 N k_14 Q x1 x2 σ → va_P (dC, dI) vwCl (x_W ad cI cJ σ) H → va_D (zAW x_n ad s.heap.size) (x_W ad cI cJ σ) → va_S (zAW x_n ad s.heap.size) s.heap H locs → lv_has ls 5 [(0, .ref (ad 8)), (1, .int x1), (2, .int x2)] → W p l e rm_X8_cut s m args below meth c H locs 0 0 (MQ below (zQv (dC, dI) (x_ty cI cJ) (x_W ad cI cJ) (zAW x_n ad s.heap.size) Q) args s 0 0 (zAW x_n ad s.heap.size)) (F0 m 81 ls []) := by
  obtain ⟨hx, hb, hml, hr, hown, hts, hlocks⟩ := id C0
  intro x1 x2 σ H locs ls h hP hD hS hl
  unfold b_X8_cut_81 at h
  refine lv_aload_n hx hb dX8_cut_81 rfl (lv_at hl 0 rfl) ?_
  refine xg_8_1 hx hb hts hown hK hP mw_119 dX8_cut_82 ?_
  refine lv_aload_n hx hb dX8_cut_85 rfl (lv_at hl 0 rfl) ?_
  refine xg_8_5 hx hb hts hown hK hP mw_127 dX8_cut_86 ?_
  refine lv_iconst (v := (4 : Int32)) hx hb dX8_cut_89 (by decide) ?_
  refine xs_44 hx hb hK hP hD hS h.1 rfl dX8_cut_90 (fun τ1 H locs eτ1 hP hD hS => ?_)
  have h := h.2
  have h := h τ1 eτ1
  exact t_X8_cut_91 C0 hK N hk_14 x1 x2 τ1 _ _ _ h hP hD hS (lv_sub hl [0, 1, 2] rfl)
set_option maxHeartbeats 4000000 in
set_option maxRecDepth 100000 in
theorem t_X8_cut_59 (C0 : zCx p s m meth c args RX8 cX8_cut 5 none vs_X8_cut) (hK : va_K (dC, dI) vwCl (x_ty cI cJ) s) (N : Nat) {Q : zSt → Prop} {k_14 : Int32 → Int32 → zSt → Prop} (hk_14 : ∀ (x1 : Int32) (x2 : Int32) (σ : zSt) (H : Heap) (locs : List Loc) (ls : Array Slot), k_14 x1 x2 σ → va_P (dC, dI) vwCl (x_W ad cI cJ σ) H → va_D (zAW x_n ad s.heap.size) (x_W ad cI cJ σ) → va_S (zAW x_n ad s.heap.size) s.heap H locs → lv_has ls 5 [(0, .ref (ad 8)), (1, .int x1), (2, .int x2)] → W p l e rm_X8_cut s m args below meth c H locs 0 0 (MQ below (zQv (dC, dI) (x_ty cI cJ) (x_W ad cI cJ) (zAW x_n ad s.heap.size) Q) args s 0 0 (zAW x_n ad s.heap.size)) (F0 m 14 ls [])) : ∀ (x2 : Int32) (s0 : Int32) (σ : zSt) (H : Heap) (locs : List Loc) (ls : Array Slot), b_X8_cut_59 N k_14 Q x2 s0 σ → va_P (dC, dI) vwCl (x_W ad cI cJ σ) H → va_D (zAW x_n ad s.heap.size) (x_W ad cI cJ σ) → va_S (zAW x_n ad s.heap.size) s.heap H locs → lv_has ls 5 [(0, .ref (ad 8)), (2, .int x2)] → W p l e rm_X8_cut s m args below meth c H locs 0 0 (MQ below (zQv (dC, dI) (x_ty cI cJ) (x_W ad cI cJ) (zAW x_n ad s.heap.size) Q) args s 0 0 (zAW x_n ad s.heap.size)) (F0 m 59 ls [.int s0]) := by
  obtain ⟨hx, hb, hml, hr, hown, hts, hlocks⟩ := id C0
  intro x2 s0 σ H locs ls h hP hD hS hl
  unfold b_X8_cut_59 at h
  refine lv_istore (lv' := [(4, .int s0), (0, .ref (ad 8)), (2, .int x2)]) hx hb dX8_cut_59 hl (by decide) rfl (fun ls hl => ?_)
  refine lv_aload_n hx hb dX8_cut_61 rfl (lv_at hl 1 rfl) ?_
  refine k_X8_cutOne N ⟨hx, hb, hml, hown, hts⟩ mw_348 ⟨Nat.le_of_ble_eq_true rfl, Nat.le_of_ble_eq_true rfl⟩ h hK hP hD hS hl.1 (rest := []) (Nat.le_of_ble_eq_true rfl) ⟨Nat.le_of_ble_eq_true rfl, Nat.le_of_ble_eq_true rfl⟩ dX8_cut_62 (fun r1 τ2 H locs h hP hD hS => ?_)
  refine lv_istore_n (lv' := [(1, .int r1), (4, .int s0), (0, .ref (ad 8)), (2, .int x2)]) hx hb dX8_cut_65 rfl hl (by decide) rfl (fun ls hl => ?_)
  refine lv_iload hx hb dX8_cut_66 (lv_at hl 1 rfl) ?_
  refine lv_if_eq (tgt := 91) hx hb dX8_cut_68 (by decide) (fun hc => ?_) (fun hc => ?_)
  · have h := h.1 hc
    exact t_X8_cut_91 C0 hK N hk_14 r1 x2 τ2 _ _ _ h hP hD hS (lv_sub hl [2, 0, 3] rfl)
  · have h := h.2 hc
    refine lv_iload_n hx hb dX8_cut_71 rfl (lv_at hl 0 rfl) ?_
    refine lv_iconst (v := (1 : Int32)) hx hb dX8_cut_72 (by decide) ?_
    refine lv_icmp_eq (tgt := 81) hx hb dX8_cut_73 (by decide) (fun hc => ?_) (fun hc => ?_)
    · have h := h.1 hc
      exact t_X8_cut_81 C0 hK N hk_14 r1 x2 τ2 _ _ _ h hP hD hS (lv_sub hl [2, 0, 3] rfl)
    · have h := h.2 hc
      refine lv_iload_n hx hb dX8_cut_76 rfl (lv_at hl 0 rfl) ?_
      refine lv_iconst (v := (2 : Int32)) hx hb dX8_cut_77 (by decide) ?_
      refine lv_icmp_ne (tgt := 91) hx hb dX8_cut_78 (by decide) (fun hc => ?_) (fun hc => ?_)
      · have h := h.2 hc
        exact t_X8_cut_91 C0 hK N hk_14 r1 x2 τ2 _ _ _ h hP hD hS (lv_sub hl [2, 0, 3] rfl)
      · have h := h.1 hc
        exact t_X8_cut_81 C0 hK N hk_14 r1 x2 τ2 _ _ _ h hP hD hS (lv_sub hl [2, 0, 3] rfl)
set_option maxHeartbeats 4000000 in
set_option maxRecDepth 100000 in
theorem t_X8_cut_58 (C0 : zCx p s m meth c args RX8 cX8_cut 5 none vs_X8_cut) (hK : va_K (dC, dI) vwCl (x_ty cI cJ) s) (N : Nat) {Q : zSt → Prop} {k_14 : Int32 → Int32 → zSt → Prop} (hk_14 : ∀ (x1 : Int32) (x2 : Int32) (σ : zSt) (H : Heap) (locs : List Loc) (ls : Array Slot), k_14 x1 x2 σ → va_P (dC, dI) vwCl (x_W ad cI cJ σ) H → va_D (zAW x_n ad s.heap.size) (x_W ad cI cJ σ) → va_S (zAW x_n ad s.heap.size) s.heap H locs → lv_has ls 5 [(0, .ref (ad 8)), (1, .int x1), (2, .int x2)] → W p l e rm_X8_cut s m args below meth c H locs 0 0 (MQ below (zQv (dC, dI) (x_ty cI cJ) (x_W ad cI cJ) (zAW x_n ad s.heap.size) Q) args s 0 0 (zAW x_n ad s.heap.size)) (F0 m 14 ls [])) : ∀ (x2 : Int32) (σ : zSt) (H : Heap) (locs : List Loc) (ls : Array Slot), b_X8_cut_58 N k_14 Q x2 σ → va_P (dC, dI) vwCl (x_W ad cI cJ σ) H → va_D (zAW x_n ad s.heap.size) (x_W ad cI cJ σ) → va_S (zAW x_n ad s.heap.size) s.heap H locs → lv_has ls 5 [(0, .ref (ad 8)), (2, .int x2)] → W p l e rm_X8_cut s m args below meth c H locs 0 0 (MQ below (zQv (dC, dI) (x_ty cI cJ) (x_W ad cI cJ) (zAW x_n ad s.heap.size) Q) args s 0 0 (zAW x_n ad s.heap.size)) (F0 m 58 ls []) := by
  obtain ⟨hx, hb, hml, hr, hown, hts, hlocks⟩ := id C0
  intro x2 σ H locs ls h hP hD hS hl
  unfold b_X8_cut_58 at h
  refine lv_iconst (v := (0 : Int32)) hx hb dX8_cut_58 (by decide) ?_
  exact t_X8_cut_59 C0 hK N hk_14 x2 (0 : Int32) σ _ _ _ h hP hD hS (lv_sub hl [0, 1] rfl)
set_option maxHeartbeats 4000000 in
set_option maxRecDepth 100000 in
theorem t_X8_cut_54 (C0 : zCx p s m meth c args RX8 cX8_cut 5 none vs_X8_cut) (hK : va_K (dC, dI) vwCl (x_ty cI cJ) s) (N : Nat) {Q : zSt → Prop} {k_14 : Int32 → Int32 → zSt → Prop} (hk_14 : ∀ (x1 : Int32) (x2 : Int32) (σ : zSt) (H : Heap) (locs : List Loc) (ls : Array Slot), k_14 x1 x2 σ → va_P (dC, dI) vwCl (x_W ad cI cJ σ) H → va_D (zAW x_n ad s.heap.size) (x_W ad cI cJ σ) → va_S (zAW x_n ad s.heap.size) s.heap H locs → lv_has ls 5 [(0, .ref (ad 8)), (1, .int x1), (2, .int x2)] → W p l e rm_X8_cut s m args below meth c H locs 0 0 (MQ below (zQv (dC, dI) (x_ty cI cJ) (x_W ad cI cJ) (zAW x_n ad s.heap.size) Q) args s 0 0 (zAW x_n ad s.heap.size)) (F0 m 14 ls [])) : ∀ (x2 : Int32) (σ : zSt) (H : Heap) (locs : List Loc) (ls : Array Slot), b_X8_cut_54 N k_14 Q x2 σ → va_P (dC, dI) vwCl (x_W ad cI cJ σ) H → va_D (zAW x_n ad s.heap.size) (x_W ad cI cJ σ) → va_S (zAW x_n ad s.heap.size) s.heap H locs → lv_has ls 5 [(0, .ref (ad 8)), (2, .int x2)] → W p l e rm_X8_cut s m args below meth c H locs 0 0 (MQ below (zQv (dC, dI) (x_ty cI cJ) (x_W ad cI cJ) (zAW x_n ad s.heap.size) Q) args s 0 0 (zAW x_n ad s.heap.size)) (F0 m 54 ls []) := by
  obtain ⟨hx, hb, hml, hr, hown, hts, hlocks⟩ := id C0
  intro x2 σ H locs ls h hP hD hS hl
  unfold b_X8_cut_54 at h
  refine lv_iconst (v := (1 : Int32)) hx hb dX8_cut_54 (by decide) ?_
  refine lv_goto (tgt := 59) hx hb dX8_cut_55 (by decide) ?_
  exact t_X8_cut_59 C0 hK N hk_14 x2 (1 : Int32) σ _ _ _ h hP hD hS (lv_sub hl [0, 1] rfl)
set_option maxHeartbeats 4000000 in
set_option maxRecDepth 100000 in
theorem tb_X8_cut_14 (C0 : zCx p s m meth c args RX8 cX8_cut 5 none vs_X8_cut) (hK : va_K (dC, dI) vwCl (x_ty cI cJ) s) (N : Nat) {Q : zSt → Prop} {k_14 : Int32 → Int32 → zSt → Prop} (hk_14 : ∀ (x1 : Int32) (x2 : Int32) (σ : zSt) (H : Heap) (locs : List Loc) (ls : Array Slot), k_14 x1 x2 σ → va_P (dC, dI) vwCl (x_W ad cI cJ σ) H → va_D (zAW x_n ad s.heap.size) (x_W ad cI cJ σ) → va_S (zAW x_n ad s.heap.size) s.heap H locs → lv_has ls 5 [(0, .ref (ad 8)), (1, .int x1), (2, .int x2)] → W p l e rm_X8_cut s m args below meth c H locs 0 0 (MQ below (zQv (dC, dI) (x_ty cI cJ) (x_W ad cI cJ) (zAW x_n ad s.heap.size) Q) args s 0 0 (zAW x_n ad s.heap.size)) (F0 m 14 ls [])) : ∀ (x1 : Int32) (x2 : Int32) (σ : zSt) (H : Heap) (locs : List Loc) (ls : Array Slot), b_X8_cut_14 N k_14 Q x1 x2 σ → va_P (dC, dI) vwCl (x_W ad cI cJ σ) H → va_D (zAW x_n ad s.heap.size) (x_W ad cI cJ σ) → va_S (zAW x_n ad s.heap.size) s.heap H locs → lv_has ls 5 [(0, .ref (ad 8)), (1, .int x1), (2, .int x2)] → W p l e rm_X8_cut s m args below meth c H locs 0 0 (MQ below (zQv (dC, dI) (x_ty cI cJ) (x_W ad cI cJ) (zAW x_n ad s.heap.size) Q) args s 0 0 (zAW x_n ad s.heap.size)) (F0 m 14 ls []) := by
  obtain ⟨hx, hb, hml, hr, hown, hts, hlocks⟩ := id C0
  intro x1 x2 σ H locs ls h hP hD hS hl
  unfold b_X8_cut_14 at h
  refine lv_iload_n hx hb dX8_cut_14 rfl (lv_at hl 2 rfl) ?_
  refine lv_aload_n hx hb dX8_cut_15 rfl (lv_at hl 0 rfl) ?_
  refine xg_8_1 hx hb hts hown hK hP mw_119 dX8_cut_16 ?_
  refine xl_44 hx hb hK hP dX8_cut_19 ?_
  refine lv_icmp_ge (tgt := 107) hx hb dX8_cut_20 (by decide) (fun hc => ?_) (fun hc => ?_)
  · have h := h.1 hc
    exact zret_v hx hb hr hlocks hK hP hD hS h dX8_cut_107
  · have h := h.2 hc
    refine lv_iload_n hx hb dX8_cut_23 rfl (lv_at hl 1 rfl) ?_
    refine lv_if_eq (tgt := 107) hx hb dX8_cut_24 (by decide) (fun hc => ?_) (fun hc => ?_)
    · have h := h.1 hc
      exact zret_v hx hb hr hlocks hK hP hD hS h dX8_cut_107
    · have h := h.2 hc
      refine lv_aload_n hx hb dX8_cut_27 rfl (lv_at hl 0 rfl) ?_
      refine xg_8_6 hx hb hts hown hK hP mw_129 dX8_cut_28 ?_
      refine lv_topi (fun v1 ev1 => ?_)
      have h := h v1 ev1
      refine lv_istore_n (lv' := [(3, .int v1), (0, .ref (ad 8)), (1, .int x1), (2, .int x2)]) hx hb dX8_cut_31 rfl hl (by decide) rfl (fun ls hl => ?_)
      refine lv_aload_n hx hb dX8_cut_32 rfl (lv_at hl 1 rfl) ?_
      refine k_X8_skipBlanks N ⟨hx, hb, hml, hown, hts⟩ mw_338 ⟨Nat.le_of_ble_eq_true rfl, Nat.le_of_ble_eq_true rfl⟩ h hK hP hD hS hl.1 (rest := []) (Nat.le_of_ble_eq_true rfl) ⟨Nat.le_of_ble_eq_true rfl, Nat.le_of_ble_eq_true rfl⟩ dX8_cut_33 (fun τ3 H locs h hP hD hS => ?_)
      refine lv_aload_n hx hb dX8_cut_36 rfl (lv_at hl 1 rfl) ?_
      refine xg_8_6 hx hb hts hown hK hP mw_129 dX8_cut_37 ?_
      refine lv_iload_n hx hb dX8_cut_40 rfl (lv_at hl 0 rfl) ?_
      refine lv_icmp_ne (tgt := 58) hx hb dX8_cut_41 (by decide) (fun hc => ?_) (fun hc => ?_)
      · have h := h.2 hc
        exact t_X8_cut_58 C0 hK N hk_14 x2 τ3 _ _ _ h hP hD hS (lv_sub hl [1, 3] rfl)
      · have h := h.1 hc
        refine lv_iload_n hx hb dX8_cut_44 rfl (lv_at hl 2 rfl) ?_
        refine lv_iconst (v := (1 : Int32)) hx hb dX8_cut_45 (by decide) ?_
        refine lv_icmp_eq (tgt := 54) hx hb dX8_cut_46 (by decide) (fun hc => ?_) (fun hc => ?_)
        · have h := h.1 hc
          exact t_X8_cut_54 C0 hK N hk_14 x2 τ3 _ _ _ h hP hD hS (lv_sub hl [1, 3] rfl)
        · have h := h.2 hc
          refine lv_iload_n hx hb dX8_cut_49 rfl (lv_at hl 2 rfl) ?_
          refine lv_iconst (v := (2 : Int32)) hx hb dX8_cut_50 (by decide) ?_
          refine lv_icmp_ne (tgt := 58) hx hb dX8_cut_51 (by decide) (fun hc => ?_) (fun hc => ?_)
          · have h := h.2 hc
            exact t_X8_cut_58 C0 hK N hk_14 x2 τ3 _ _ _ h hP hD hS (lv_sub hl [1, 3] rfl)
          · have h := h.1 hc
            exact t_X8_cut_54 C0 hK N hk_14 x2 τ3 _ _ _ h hP hD hS (lv_sub hl [1, 3] rfl)
set_option maxHeartbeats 4000000 in
set_option maxRecDepth 100000 in
theorem t_X8_cut_14 (C0 : zCx p s m meth c args RX8 cX8_cut 5 none vs_X8_cut) (hK : va_K (dC, dI) vwCl (x_ty cI cJ) s) (N : Nat) {Q : zSt → Prop} : ∀ (f : Nat) (x1 : Int32) (x2 : Int32) (σ : zSt) (H : Heap) (locs : List Loc) (ls : Array Slot), w_X8_cut_14 N  Q f x1 x2 σ → va_P (dC, dI) vwCl (x_W ad cI cJ σ) H → va_D (zAW x_n ad s.heap.size) (x_W ad cI cJ σ) → va_S (zAW x_n ad s.heap.size) s.heap H locs → lv_has ls 5 [(0, .ref (ad 8)), (1, .int x1), (2, .int x2)] → W p l e rm_X8_cut s m args below meth c H locs 0 0 (MQ below (zQv (dC, dI) (x_ty cI cJ) (x_W ad cI cJ) (zAW x_n ad s.heap.size) Q) args s 0 0 (zAW x_n ad s.heap.size)) (F0 m 14 ls []) := by
  intro f
  induction f with
  | zero => intro x1 x2 σ H locs ls h; exact h.elim
  | succ f ih =>
    intro x1 x2 σ H locs ls h hP hD hS hl
    exact tb_X8_cut_14 C0 hK N  (k_14 := w_X8_cut_14 N  Q f) ih x1 x2 σ H locs ls h hP hD hS hl
set_option maxHeartbeats 4000000 in
set_option maxRecDepth 100000 in
theorem t_X8_cut_0 (C0 : zCx p s m meth c args RX8 cX8_cut 5 none vs_X8_cut) (hK : va_K (dC, dI) vwCl (x_ty cI cJ) s) (N : Nat) {Q : zSt → Prop} : ∀  (σ : zSt) (H : Heap) (locs : List Loc) (ls : Array Slot), w_X8_cut N  σ Q → va_P (dC, dI) vwCl (x_W ad cI cJ σ) H → va_D (zAW x_n ad s.heap.size) (x_W ad cI cJ σ) → va_S (zAW x_n ad s.heap.size) s.heap H locs → lv_has ls 5 [(0, .ref (ad 8))] → W p l e rm_X8_cut s m args below meth c H locs 0 0 (MQ below (zQv (dC, dI) (x_ty cI cJ) (x_W ad cI cJ) (zAW x_n ad s.heap.size) Q) args s 0 0 (zAW x_n ad s.heap.size)) (F0 m 0 ls []) := by
  obtain ⟨hx, hb, hml, hr, hown, hts, hlocks⟩ := id C0
  intro  σ H locs ls h hP hD hS hl
  unfold w_X8_cut at h
  refine lv_aload_n hx hb dX8_cut_0 rfl (lv_at hl 0 rfl) ?_
  refine lv_iconst (v := (0 : Int32)) hx hb dX8_cut_1 (by decide) ?_
  refine xp_8_5 hx hb hts hown hK hP hD hS mw_127 dX8_cut_2 (fun τ1 H locs eτ1 hP hD hS => ?_)
  have h := h τ1 eτ1
  refine lv_aload_n hx hb dX8_cut_5 rfl (lv_at hl 0 rfl) ?_
  refine lv_iconst (v := (0 : Int32)) hx hb dX8_cut_6 (by decide) ?_
  refine xp_8_6 hx hb hts hown hK hP hD hS mw_129 dX8_cut_7 (fun τ2 H locs eτ2 hP hD hS => ?_)
  have h := h τ2 eτ2
  refine lv_iconst (v := (3 : Int32)) hx hb dX8_cut_10 (by decide) ?_
  refine lv_istore_n (lv' := [(1, .int (3 : Int32)), (0, .ref (ad 8))]) hx hb dX8_cut_11 rfl hl (by decide) rfl (fun ls hl => ?_)
  refine lv_iconst (v := (0 : Int32)) hx hb dX8_cut_12 (by decide) ?_
  refine lv_istore_n (lv' := [(2, .int (0 : Int32)), (1, .int (3 : Int32)), (0, .ref (ad 8))]) hx hb dX8_cut_13 rfl hl (by decide) rfl (fun ls hl => ?_)
  exact t_X8_cut_14 C0 hK N  N (3 : Int32) (0 : Int32) τ2 _ _ _ h hP hD hS (lv_sub hl [2, 1, 0] rfl)
set_option maxHeartbeats 4000000 in
set_option maxRecDepth 100000 in
theorem c_X8_cut (N : Nat) (l : Launch) (dC : Nat → ClassId) (dI : Nat → Nat → Nat) (ad : Nat → Nat) (cI cJ : ClassId) (sz : Nat) (σ : zSt)  (Q : zSt → Prop) (h : w_X8_cut N  σ Q) : Met l yX8_cut vs_X8_cut rm_X8_cut (va_Pc [.ref (ad 8)] (zPc (dC, dI) (x_ty cI cJ) (x_W ad cI cJ) sz σ)) (zQv (dC, dI) (x_ty cI cJ) (x_W ad cI cJ) (zAW x_n ad sz) Q) 0 0 (zAW x_n ad sz) := by
  refine Met.ofW (cc := cX8_cut) (maxL := 5) (ret := none) (by decide) rfl ?_
  intro p e s m args below meth c s₁ B hml hv
  obtain ⟨rfl, hsz, hP, hK, hD0⟩ := hv
  subst hsz
  have C0 : zCx p s m meth c _ RX8 cX8_cut 5 none vs_X8_cut := ⟨B.exec, B.bytes, hml, B.returns, findClass_of_methodNamed B.named, atoms_spec (ws := vs_X8_cut) B.pre, B.notSynchronized⟩
  have hD := x_D0 (n0 := s.heap.size) hD0
  have hl := lv_entry ([.ref (ad 8)]) (n := 5) (Nat.le_of_ble_eq_true rfl)
  rw [lg_entry_eq]
  generalize (lg_sl ([.ref (ad 8)]) ++ List.replicate (5 - (lg_sl ([.ref (ad 8)])).length) Slot.unset).toArray = ls at hl ⊢
  exact t_X8_cut_0 C0 hK N  σ _ _ ls h hP hD va_S.rf hl
theorem k_X8_cut (N : Nat) {R : Room} {H : Heap} {locs : List Loc} {cells slots : Nat} {Q2 : State → Prop} {cc : ByteArray} {nL pc index : Nat} {ls : Array Slot} {rest : List Value} {own : String} {c0 : Cond} {σ : zSt}  {Q : zSt → Prop} (S0 : CallFix p m c cc nL s args (c0 :: zT) own) (hml : Cond.methodLink own index yX8_cut ∈ zT) (hR : rm_X8_cut.frames + 1 ≤ R.frames ∧ 8 + (5 + 11) + rm_X8_cut.locals ≤ R.locals) (h : w_X8_cut N  σ Q) (hK : va_K (dC, dI) vwCl (x_ty cI cJ) s) (hP : va_P (dC, dI) vwCl (x_W ad cI cJ σ) H) (hD : va_D (zAW x_n ad s.heap.size) (x_W ad cI cJ σ)) (hS : va_S (zAW x_n ad s.heap.size) s.heap H locs) (hsz : ls.size = nL) (hW : (rest.map fun v => v.category).sum ≤ 8) (hcs : cells ≤ R.cells ∧ slots ≤ R.slots) (hdg : decode cc pc = .ok (.invokevirtual index, 3)) (kk : ∀ (τ : zSt) (H1 : Heap) (locs1 : List Loc), Q τ → va_P (dC, dI) vwCl (x_W ad cI cJ τ) H1 → va_D (zAW x_n ad s.heap.size) (x_W ad cI cJ τ) → va_S (zAW x_n ad s.heap.size) s.heap H1 locs1 → W p l e R s m args below meth c H1 locs1 cells slots Q2 (F0 m (pc + 3) ls (rest))) : W p l e R s m args below meth c H locs cells slots Q2 (F0 m pc ls (.ref (ad 8) :: rest)) :=
  zcv_v (T := TX8) (N' := 7) (k := 8) (ci := 8) (fs := x_f8 ad σ) [] S0 (c_X8_cut N l dC dI ad cI cJ H.size σ  Q h) (cw_X8_cut S0.2.2.2.2 hml rfl rfl hR) rfl rfl hK hP hD hS rfl hsz hW rfl hcs hdg kk
end q00
