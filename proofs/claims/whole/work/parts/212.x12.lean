section q12
end q12
section q12
def b_X11_coming_35 (N : Nat) (k_35 : Int32 → Int32 → zSt → Prop) (Q : Int32 → zSt → Prop) (x1 : Int32) (x2 : Int32) (σ : zSt) : Prop :=
  ((120 : Int32) ≤ x2 → Q (σ.1 35) σ) ∧ (¬ (120 : Int32) ≤ x2 → (x1 = 0 → Q (σ.1 35) σ) ∧ (¬ x1 = 0 → w_X11_netOfOrder N σ (fun r1 τ2 => w_X1_note_2 N r1 τ2 (fun τ4 => w_X2_advance N τ4 (fun r5 τ6 => ∀ v7 : Int32, v7 = x2 + (1 : Int32) → k_35 r5 v7 τ6)))))
def w_X11_coming_35 (N : Nat) (Q : Int32 → zSt → Prop) : Nat → Int32 → Int32 → zSt → Prop
  | 0 => fun _ _ _ => False
  | f + 1 => b_X11_coming_35 N (w_X11_coming_35 N  Q f) Q
def w_X11_coming (N : Nat)  (σ : zSt) (Q : Int32 → zSt → Prop) : Prop :=
  w_X11_areFew N σ (fun r1 τ2 => (r1 = 0 → Q (-1 : Int32) τ2) ∧ (¬ r1 = 0 → ∀ τ3 : zSt, τ3 = zI τ2 35 (0 : Int32) → w_X2_start N (τ3.1 1) τ3 (fun τ5 => w_X11_coming_35 N Q N (1 : Int32) (0 : Int32) τ5)))
variable {p : Program} {l : Launch} {e : Env} {s : State} {m : MethodId} {args : Array Value} {below : List Frame} {meth : Method} {c : Code} {dC : Nat → ClassId} {dI : Nat → Nat → Nat} {ad : Nat → Nat} {cI cJ : ClassId}
set_option maxHeartbeats 4000000 in
set_option maxRecDepth 100000 in
theorem tb_X11_coming_35 (C0 : zCx p s m meth c args RX11 cX11_coming 3 (some .int) vs_X11_coming) (hK : va_K (dC, dI) vwCl (x_ty cI cJ) s) (N : Nat) {Q : Int32 → zSt → Prop} {k_35 : Int32 → Int32 → zSt → Prop} (hk_35 : ∀ (x1 : Int32) (x2 : Int32) (σ : zSt) (H : Heap) (locs : List Loc) (ls : Array Slot), k_35 x1 x2 σ → va_P (dC, dI) vwCl (x_W ad cI cJ σ) H → va_D (zAW x_n ad s.heap.size) (x_W ad cI cJ σ) → va_S (zAW x_n ad s.heap.size) s.heap H locs → lv_has ls 3 [(0, .ref (ad 0)), (1, .int x1), (2, .int x2)] → W p l e rm_X11_coming s m args below meth c H locs 0 0 (MQ below (zQi (dC, dI) (x_ty cI cJ) (x_W ad cI cJ) (zAW x_n ad s.heap.size) Q) args s 0 0 (zAW x_n ad s.heap.size)) (F0 m 35 ls [])) : ∀ (x1 : Int32) (x2 : Int32) (σ : zSt) (H : Heap) (locs : List Loc) (ls : Array Slot), b_X11_coming_35 N k_35 Q x1 x2 σ → va_P (dC, dI) vwCl (x_W ad cI cJ σ) H → va_D (zAW x_n ad s.heap.size) (x_W ad cI cJ σ) → va_S (zAW x_n ad s.heap.size) s.heap H locs → lv_has ls 3 [(0, .ref (ad 0)), (1, .int x1), (2, .int x2)] → W p l e rm_X11_coming s m args below meth c H locs 0 0 (MQ below (zQi (dC, dI) (x_ty cI cJ) (x_W ad cI cJ) (zAW x_n ad s.heap.size) Q) args s 0 0 (zAW x_n ad s.heap.size)) (F0 m 35 ls []) := by
  obtain ⟨hx, hb, hml, hr, hown, hts, hlocks⟩ := id C0
  intro x1 x2 σ H locs ls h hP hD hS hl
  unfold b_X11_coming_35 at h
  refine lv_iload_n hx hb dX11_coming_35 rfl (lv_at hl 2 rfl) ?_
  refine lv_bipush (v := (120 : Int32)) hx hb dX11_coming_36 (by decide) ?_
  refine lv_icmp_ge (tgt := 70) hx hb dX11_coming_38 (by decide) (fun hc => ?_) (fun hc => ?_)
  · have h := h.1 hc
    refine lv_aload_n hx hb dX11_coming_70 rfl (lv_at hl 0 rfl) ?_
    refine xg_0_10 hx hb hts hown hK hP mw_299 dX11_coming_71 ?_
    refine xg_14_2 hx hb hts hown hK hP mw_267 dX11_coming_74 ?_
    exact zret_i hx hb hr hlocks hK hP hD hS h dX11_coming_77
  · have h := h.2 hc
    refine lv_iload_n hx hb dX11_coming_41 rfl (lv_at hl 1 rfl) ?_
    refine lv_if_eq (tgt := 70) hx hb dX11_coming_42 (by decide) (fun hc => ?_) (fun hc => ?_)
    · have h := h.1 hc
      refine lv_aload_n hx hb dX11_coming_70 rfl (lv_at hl 0 rfl) ?_
      refine xg_0_10 hx hb hts hown hK hP mw_299 dX11_coming_71 ?_
      refine xg_14_2 hx hb hts hown hK hP mw_267 dX11_coming_74 ?_
      exact zret_i hx hb hr hlocks hK hP hD hS h dX11_coming_77
    · have h := h.2 hc
      refine lv_aload_n hx hb dX11_coming_45 rfl (lv_at hl 0 rfl) ?_
      refine xg_0_10 hx hb hts hown hK hP mw_299 dX11_coming_46 ?_
      refine lv_aload_n hx hb dX11_coming_49 rfl (lv_at hl 0 rfl) ?_
      refine k_X11_netOfOrder N ⟨hx, hb, hml, hown, hts⟩ mw_754 ⟨Nat.le_of_ble_eq_true rfl, Nat.le_of_ble_eq_true rfl⟩ h hK hP hD hS hl.1 (rest := [.ref (ad 14)]) (Nat.le_of_ble_eq_true rfl) ⟨Nat.le_of_ble_eq_true rfl, Nat.le_of_ble_eq_true rfl⟩ dX11_coming_50 (fun r1 τ2 H locs h hP hD hS => ?_)
      refine k_X1_note_2 N ⟨hx, hb, hml, hown, hts⟩ mw_703 ⟨Nat.le_of_ble_eq_true rfl, Nat.le_of_ble_eq_true rfl⟩ h hK hP hD hS hl.1 (rest := []) (Nat.le_of_ble_eq_true rfl) ⟨Nat.le_of_ble_eq_true rfl, Nat.le_of_ble_eq_true rfl⟩ dX11_coming_53 (fun τ4 H locs h hP hD hS => ?_)
      refine lv_aload_n hx hb dX11_coming_56 rfl (lv_at hl 0 rfl) ?_
      refine xg_0_8 hx hb hts hown hK hP mw_297 dX11_coming_57 ?_
      refine k_X2_advance N ⟨hx, hb, hml, hown, hts⟩ mw_759 ⟨Nat.le_of_ble_eq_true rfl, Nat.le_of_ble_eq_true rfl⟩ h hK hP hD hS hl.1 (rest := []) (Nat.le_of_ble_eq_true rfl) ⟨Nat.le_of_ble_eq_true rfl, Nat.le_of_ble_eq_true rfl⟩ dX11_coming_60 (fun r5 τ6 H locs h hP hD hS => ?_)
      refine lv_istore_n (lv' := [(1, .int r5), (0, .ref (ad 0)), (2, .int x2)]) hx hb dX11_coming_63 rfl hl (by decide) rfl (fun ls hl => ?_)
      obtain ⟨v7, ev7⟩ : ∃ z : Int32, z = x2 + (1 : Int32) := ⟨_, rfl⟩
      have h := h v7 ev7
      refine lv_iinc (v := v7) (lv' := [(2, .int v7), (1, .int r5), (0, .ref (ad 0))]) hx hb dX11_coming_64 hl (k := 2) rfl (by rw [ev7]; rfl) (by decide) rfl (fun ls hl => ?_)
      refine lv_goto (tgt := 35) hx hb dX11_coming_67 (by decide) ?_
      exact hk_35 r5 v7 τ6 _ _ _ h hP hD hS (lv_sub hl [2, 1, 0] rfl)
set_option maxHeartbeats 4000000 in
set_option maxRecDepth 100000 in
theorem t_X11_coming_35 (C0 : zCx p s m meth c args RX11 cX11_coming 3 (some .int) vs_X11_coming) (hK : va_K (dC, dI) vwCl (x_ty cI cJ) s) (N : Nat) {Q : Int32 → zSt → Prop} : ∀ (f : Nat) (x1 : Int32) (x2 : Int32) (σ : zSt) (H : Heap) (locs : List Loc) (ls : Array Slot), w_X11_coming_35 N  Q f x1 x2 σ → va_P (dC, dI) vwCl (x_W ad cI cJ σ) H → va_D (zAW x_n ad s.heap.size) (x_W ad cI cJ σ) → va_S (zAW x_n ad s.heap.size) s.heap H locs → lv_has ls 3 [(0, .ref (ad 0)), (1, .int x1), (2, .int x2)] → W p l e rm_X11_coming s m args below meth c H locs 0 0 (MQ below (zQi (dC, dI) (x_ty cI cJ) (x_W ad cI cJ) (zAW x_n ad s.heap.size) Q) args s 0 0 (zAW x_n ad s.heap.size)) (F0 m 35 ls []) := by
  intro f
  induction f with
  | zero => intro x1 x2 σ H locs ls h; exact h.elim
  | succ f ih =>
    intro x1 x2 σ H locs ls h hP hD hS hl
    exact tb_X11_coming_35 C0 hK N  (k_35 := w_X11_coming_35 N  Q f) ih x1 x2 σ H locs ls h hP hD hS hl
set_option maxHeartbeats 4000000 in
set_option maxRecDepth 100000 in
theorem t_X11_coming_0 (C0 : zCx p s m meth c args RX11 cX11_coming 3 (some .int) vs_X11_coming) (hK : va_K (dC, dI) vwCl (x_ty cI cJ) s) (N : Nat) {Q : Int32 → zSt → Prop} : ∀  (σ : zSt) (H : Heap) (locs : List Loc) (ls : Array Slot), w_X11_coming N  σ Q → va_P (dC, dI) vwCl (x_W ad cI cJ σ) H → va_D (zAW x_n ad s.heap.size) (x_W ad cI cJ σ) → va_S (zAW x_n ad s.heap.size) s.heap H locs → lv_has ls 3 [(0, .ref (ad 0))] → W p l e rm_X11_coming s m args below meth c H locs 0 0 (MQ below (zQi (dC, dI) (x_ty cI cJ) (x_W ad cI cJ) (zAW x_n ad s.heap.size) Q) args s 0 0 (zAW x_n ad s.heap.size)) (F0 m 0 ls []) := by
  obtain ⟨hx, hb, hml, hr, hown, hts, hlocks⟩ := id C0
  intro  σ H locs ls h hP hD hS hl
  unfold w_X11_coming at h
  refine lv_aload_n hx hb dX11_coming_0 rfl (lv_at hl 0 rfl) ?_
  refine k_X11_areFew N ⟨hx, hb, hml, hown, hts⟩ mw_700 ⟨Nat.le_of_ble_eq_true rfl, Nat.le_of_ble_eq_true rfl⟩ h hK hP hD hS hl.1 (rest := []) (Nat.le_of_ble_eq_true rfl) ⟨Nat.le_of_ble_eq_true rfl, Nat.le_of_ble_eq_true rfl⟩ dX11_coming_1 (fun r1 τ2 H locs h hP hD hS => ?_)
  refine lv_if_ne (tgt := 9) hx hb dX11_coming_4 (by decide) (fun hc => ?_) (fun hc => ?_)
  · have h := h.2 hc
    refine lv_aload_n hx hb dX11_coming_9 rfl (lv_at hl 0 rfl) ?_
    refine xg_0_10 hx hb hts hown hK hP mw_299 dX11_coming_10 ?_
    refine lv_iconst (v := (0 : Int32)) hx hb dX11_coming_13 (by decide) ?_
    refine xp_14_2 hx hb hts hown hK hP hD hS mw_267 dX11_coming_14 (fun τ3 H locs eτ3 hP hD hS => ?_)
    have h := h τ3 eτ3
    refine lv_aload_n hx hb dX11_coming_17 rfl (lv_at hl 0 rfl) ?_
    refine xg_0_8 hx hb hts hown hK hP mw_297 dX11_coming_18 ?_
    refine lv_aload_n hx hb dX11_coming_21 rfl (lv_at hl 0 rfl) ?_
    refine xg_0_2 hx hb hts hown hK hP mw_291 dX11_coming_22 ?_
    refine xg_3_4 hx hb hts hown hK hP mw_75 dX11_coming_25 ?_
    refine k_X2_start N ⟨hx, hb, hml, hown, hts⟩ mw_753 ⟨Nat.le_of_ble_eq_true rfl, Nat.le_of_ble_eq_true rfl⟩ h hK hP hD hS hl.1 (rest := []) (Nat.le_of_ble_eq_true rfl) ⟨Nat.le_of_ble_eq_true rfl, Nat.le_of_ble_eq_true rfl⟩ dX11_coming_28 (fun τ5 H locs h hP hD hS => ?_)
    refine lv_iconst (v := (1 : Int32)) hx hb dX11_coming_31 (by decide) ?_
    refine lv_istore_n (lv' := [(1, .int (1 : Int32)), (0, .ref (ad 0))]) hx hb dX11_coming_32 rfl hl (by decide) rfl (fun ls hl => ?_)
    refine lv_iconst (v := (0 : Int32)) hx hb dX11_coming_33 (by decide) ?_
    refine lv_istore_n (lv' := [(2, .int (0 : Int32)), (1, .int (1 : Int32)), (0, .ref (ad 0))]) hx hb dX11_coming_34 rfl hl (by decide) rfl (fun ls hl => ?_)
    exact t_X11_coming_35 C0 hK N  N (1 : Int32) (0 : Int32) τ5 _ _ _ h hP hD hS (lv_sub hl [2, 1, 0] rfl)
  · have h := h.1 hc
    refine lv_iconst (v := (-1 : Int32)) hx hb dX11_coming_7 (by decide) ?_
    exact zret_i hx hb hr hlocks hK hP hD hS h dX11_coming_8
set_option maxHeartbeats 4000000 in
set_option maxRecDepth 100000 in
theorem c_X11_coming (N : Nat) (l : Launch) (dC : Nat → ClassId) (dI : Nat → Nat → Nat) (ad : Nat → Nat) (cI cJ : ClassId) (sz : Nat) (σ : zSt)  (Q : Int32 → zSt → Prop) (h : w_X11_coming N  σ Q) : Met l yX11_coming vs_X11_coming rm_X11_coming (va_Pc [.ref (ad 0)] (zPc (dC, dI) (x_ty cI cJ) (x_W ad cI cJ) sz σ)) (zQi (dC, dI) (x_ty cI cJ) (x_W ad cI cJ) (zAW x_n ad sz) Q) 0 0 (zAW x_n ad sz) := by
  refine Met.ofW (cc := cX11_coming) (maxL := 3) (ret := (some .int)) (by decide) rfl ?_
  intro p e s m args below meth c s₁ B hml hv
  obtain ⟨rfl, hsz, hP, hK, hD0⟩ := hv
  subst hsz
  have C0 : zCx p s m meth c _ RX11 cX11_coming 3 (some .int) vs_X11_coming := ⟨B.exec, B.bytes, hml, B.returns, findClass_of_methodNamed B.named, atoms_spec (ws := vs_X11_coming) B.pre, B.notSynchronized⟩
  have hD := x_D0 (n0 := s.heap.size) hD0
  have hl := lv_entry ([.ref (ad 0)]) (n := 3) (Nat.le_of_ble_eq_true rfl)
  rw [lg_entry_eq]
  generalize (lg_sl ([.ref (ad 0)]) ++ List.replicate (3 - (lg_sl ([.ref (ad 0)])).length) Slot.unset).toArray = ls at hl ⊢
  exact t_X11_coming_0 C0 hK N  σ _ _ ls h hP hD va_S.rf hl
theorem k_X11_coming (N : Nat) {R : Room} {H : Heap} {locs : List Loc} {cells slots : Nat} {Q2 : State → Prop} {cc : ByteArray} {nL pc index : Nat} {ls : Array Slot} {rest : List Value} {own : String} {c0 : Cond} {σ : zSt}  {Q : Int32 → zSt → Prop} (S0 : CallFix p m c cc nL s args (c0 :: zT) own) (hml : Cond.methodLink own index yX11_coming ∈ zT) (hR : rm_X11_coming.frames + 1 ≤ R.frames ∧ 8 + (3 + 11) + rm_X11_coming.locals ≤ R.locals) (h : w_X11_coming N  σ Q) (hK : va_K (dC, dI) vwCl (x_ty cI cJ) s) (hP : va_P (dC, dI) vwCl (x_W ad cI cJ σ) H) (hD : va_D (zAW x_n ad s.heap.size) (x_W ad cI cJ σ)) (hS : va_S (zAW x_n ad s.heap.size) s.heap H locs) (hsz : ls.size = nL) (hW : (rest.map fun v => v.category).sum ≤ 8) (hcs : cells ≤ R.cells ∧ slots ≤ R.slots) (hdg : decode cc pc = .ok (.invokevirtual index, 3)) (kk : ∀ (r : Int32) (τ : zSt) (H1 : Heap) (locs1 : List Loc), Q r τ → va_P (dC, dI) vwCl (x_W ad cI cJ τ) H1 → va_D (zAW x_n ad s.heap.size) (x_W ad cI cJ τ) → va_S (zAW x_n ad s.heap.size) s.heap H1 locs1 → W p l e R s m args below meth c H1 locs1 cells slots Q2 (F0 m (pc + 3) ls (.int r :: rest))) : W p l e R s m args below meth c H locs cells slots Q2 (F0 m pc ls (.ref (ad 0) :: rest)) :=
  zcv_i (T := TX11) (N' := 17) (k := 0) (ci := 11) (fs := x_f0 ad σ) [] S0 (c_X11_coming N l dC dI ad cI cJ H.size σ  Q h) (cw_X11_coming S0.2.2.2.2 hml rfl rfl hR) rfl rfl hK hP hD hS rfl hsz hW rfl hcs hdg kk
end q12
section q12
def w_X1_isPlace_2 (N : Nat) (x1 : Int32) (σ : zSt) (Q : Int32 → zSt → Prop) : Prop :=
  (x1 < 0 → Q (0 : Int32) σ) ∧ (¬ x1 < 0 → ((σ.1 35) ≤ x1 → Q (0 : Int32) σ) ∧ (¬ (σ.1 35) ≤ x1 → Q (1 : Int32) σ))
variable {p : Program} {l : Launch} {e : Env} {s : State} {m : MethodId} {args : Array Value} {below : List Frame} {meth : Method} {c : Code} {dC : Nat → ClassId} {dI : Nat → Nat → Nat} {ad : Nat → Nat} {cI cJ : ClassId}
set_option maxHeartbeats 4000000 in
set_option maxRecDepth 100000 in
theorem t_X1_isPlace_2_0 (C0 : zCx p s m meth c args RX1 cX1_isPlace 2 (some .boolean) vs_X1_isPlace) (hK : va_K (dC, dI) vwCl (x_ty cI cJ) s) (N : Nat) {Q : Int32 → zSt → Prop} : ∀ (x1 : Int32) (σ : zSt) (H : Heap) (locs : List Loc) (ls : Array Slot), w_X1_isPlace_2 N x1 σ Q → va_P (dC, dI) vwCl (x_W ad cI cJ σ) H → va_D (zAW x_n ad s.heap.size) (x_W ad cI cJ σ) → va_S (zAW x_n ad s.heap.size) s.heap H locs → lv_has ls 2 [(0, .ref (ad 14)), (1, .int x1)] → W p l e rm_X1_isPlace s m args below meth c H locs 0 0 (MQ below (zQi (dC, dI) (x_ty cI cJ) (x_W ad cI cJ) (zAW x_n ad s.heap.size) Q) args s 0 0 (zAW x_n ad s.heap.size)) (F0 m 0 ls []) := by
  obtain ⟨hx, hb, hml, hr, hown, hts, hlocks⟩ := id C0
  intro x1 σ H locs ls h hP hD hS hl
  unfold w_X1_isPlace_2 at h
  refine lv_iload_n hx hb dX1_isPlace_0 rfl (lv_at hl 1 rfl) ?_
  refine lv_if_lt (tgt := 16) hx hb dX1_isPlace_1 (by decide) (fun hc => ?_) (fun hc => ?_)
  · have h := h.1 hc
    refine lv_iconst (v := (0 : Int32)) hx hb dX1_isPlace_16 (by decide) ?_
    exact zret_z hx hb hr hlocks hK hP hD hS zb_0 h dX1_isPlace_17
  · have h := h.2 hc
    refine lv_iload_n hx hb dX1_isPlace_4 rfl (lv_at hl 1 rfl) ?_
    refine lv_aload_n hx hb dX1_isPlace_5 rfl (lv_at hl 0 rfl) ?_
    refine xg_14_2 hx hb hts hown hK hP mw_266 dX1_isPlace_6 ?_
    refine lv_icmp_ge (tgt := 16) hx hb dX1_isPlace_9 (by decide) (fun hc => ?_) (fun hc => ?_)
    · have h := h.1 hc
      refine lv_iconst (v := (0 : Int32)) hx hb dX1_isPlace_16 (by decide) ?_
      exact zret_z hx hb hr hlocks hK hP hD hS zb_0 h dX1_isPlace_17
    · have h := h.2 hc
      refine lv_iconst (v := (1 : Int32)) hx hb dX1_isPlace_12 (by decide) ?_
      refine lv_goto (tgt := 17) hx hb dX1_isPlace_13 (by decide) ?_
      exact zret_z hx hb hr hlocks hK hP hD hS zb_1 h dX1_isPlace_17
set_option maxHeartbeats 4000000 in
set_option maxRecDepth 100000 in
theorem c_X1_isPlace_2 (N : Nat) (l : Launch) (dC : Nat → ClassId) (dI : Nat → Nat → Nat) (ad : Nat → Nat) (cI cJ : ClassId) (sz : Nat) (σ : zSt) (x1 : Int32) (Q : Int32 → zSt → Prop) (h : w_X1_isPlace_2 N x1 σ Q) : Met l yX1_isPlace vs_X1_isPlace rm_X1_isPlace (va_Pc [.ref (ad 14), .int x1] (zPc (dC, dI) (x_ty cI cJ) (x_W ad cI cJ) sz σ)) (zQi (dC, dI) (x_ty cI cJ) (x_W ad cI cJ) (zAW x_n ad sz) Q) 0 0 (zAW x_n ad sz) := by
  refine Met.ofW (cc := cX1_isPlace) (maxL := 2) (ret := (some .boolean)) (by decide) rfl ?_
  intro p e s m args below meth c s₁ B hml hv
  obtain ⟨rfl, hsz, hP, hK, hD0⟩ := hv
  subst hsz
  have C0 : zCx p s m meth c _ RX1 cX1_isPlace 2 (some .boolean) vs_X1_isPlace := ⟨B.exec, B.bytes, hml, B.returns, findClass_of_methodNamed B.named, atoms_spec (ws := vs_X1_isPlace) B.pre, B.notSynchronized⟩
  have hD := x_D0 (n0 := s.heap.size) hD0
  have hl := lv_entry ([.ref (ad 14), .int x1]) (n := 2) (Nat.le_of_ble_eq_true rfl)
  rw [lg_entry_eq]
  generalize (lg_sl ([.ref (ad 14), .int x1]) ++ List.replicate (2 - (lg_sl ([.ref (ad 14), .int x1])).length) Slot.unset).toArray = ls at hl ⊢
  exact t_X1_isPlace_2_0 C0 hK N x1 σ _ _ ls h hP hD va_S.rf hl
theorem k_X1_isPlace_2 (N : Nat) {R : Room} {H : Heap} {locs : List Loc} {cells slots : Nat} {Q2 : State → Prop} {cc : ByteArray} {nL pc index : Nat} {ls : Array Slot} {rest : List Value} {own : String} {c0 : Cond} {σ : zSt} {x1 : Int32} {Q : Int32 → zSt → Prop} (S0 : CallFix p m c cc nL s args (c0 :: zT) own) (hml : Cond.methodLink own index yX1_isPlace ∈ zT) (hR : rm_X1_isPlace.frames + 1 ≤ R.frames ∧ 8 + (2 + 11) + rm_X1_isPlace.locals ≤ R.locals) (h : w_X1_isPlace_2 N x1 σ Q) (hK : va_K (dC, dI) vwCl (x_ty cI cJ) s) (hP : va_P (dC, dI) vwCl (x_W ad cI cJ σ) H) (hD : va_D (zAW x_n ad s.heap.size) (x_W ad cI cJ σ)) (hS : va_S (zAW x_n ad s.heap.size) s.heap H locs) (hsz : ls.size = nL) (hW : (rest.map fun v => v.category).sum ≤ 8) (hcs : cells ≤ R.cells ∧ slots ≤ R.slots) (hdg : decode cc pc = .ok (.invokevirtual index, 3)) (kk : ∀ (r : Int32) (τ : zSt) (H1 : Heap) (locs1 : List Loc), Q r τ → va_P (dC, dI) vwCl (x_W ad cI cJ τ) H1 → va_D (zAW x_n ad s.heap.size) (x_W ad cI cJ τ) → va_S (zAW x_n ad s.heap.size) s.heap H1 locs1 → W p l e R s m args below meth c H1 locs1 cells slots Q2 (F0 m (pc + 3) ls (.int r :: rest))) : W p l e R s m args below meth c H locs cells slots Q2 (F0 m pc ls (.int x1 :: .ref (ad 14) :: rest)) :=
  zcv_i (T := TX1) (N' := 3) (k := 14) (ci := 1) (fs := x_f14 ad σ) [.int x1] S0 (c_X1_isPlace_2 N l dC dI ad cI cJ H.size σ x1 Q h) (cw_X1_isPlace S0.2.2.2.2 hml rfl rfl hR) rfl rfl hK hP hD hS rfl hsz hW rfl hcs hdg kk
end q12
section q12
def w_X11_comes (N : Nat) (x1 : Int32) (x2 : Int32) (σ : zSt) (Q : Int64 → zSt → Prop) : Prop :=
  w_X1_isPlace_2 N x1 σ (fun r1 τ2 => (r1 = 0 → Q (-1 : Int64) τ2) ∧ (¬ r1 = 0 → (x2 = 0 → (vp_in x1 120) ∧ (Q (τ2.2.2.2 12 x1.toNatClampNeg) τ2)) ∧ (¬ x2 = 0 → (vp_in x1 120) ∧ (Q (τ2.2.2.1 33 x1.toNatClampNeg).toInt64 τ2))))
variable {p : Program} {l : Launch} {e : Env} {s : State} {m : MethodId} {args : Array Value} {below : List Frame} {meth : Method} {c : Code} {dC : Nat → ClassId} {dI : Nat → Nat → Nat} {ad : Nat → Nat} {cI cJ : ClassId}
set_option maxHeartbeats 4000000 in
set_option maxRecDepth 100000 in
theorem t_X11_comes_0 (C0 : zCx p s m meth c args RX11 cX11_comes 3 (some .long) vs_X11_comes) (hK : va_K (dC, dI) vwCl (x_ty cI cJ) s) (N : Nat) {Q : Int64 → zSt → Prop} : ∀ (x1 : Int32) (x2 : Int32) (σ : zSt) (H : Heap) (locs : List Loc) (ls : Array Slot), w_X11_comes N x1 x2 σ Q → va_P (dC, dI) vwCl (x_W ad cI cJ σ) H → va_D (zAW x_n ad s.heap.size) (x_W ad cI cJ σ) → va_S (zAW x_n ad s.heap.size) s.heap H locs → lv_has ls 3 [(0, .ref (ad 0)), (1, .int x1), (2, .int x2)] → W p l e rm_X11_comes s m args below meth c H locs 0 0 (MQ below (zQl (dC, dI) (x_ty cI cJ) (x_W ad cI cJ) (zAW x_n ad s.heap.size) Q) args s 0 0 (zAW x_n ad s.heap.size)) (F0 m 0 ls []) := by
  obtain ⟨hx, hb, hml, hr, hown, hts, hlocks⟩ := id C0
  intro x1 x2 σ H locs ls h hP hD hS hl
  unfold w_X11_comes at h
  refine lv_aload_n hx hb dX11_comes_0 rfl (lv_at hl 0 rfl) ?_
  refine xg_0_10 hx hb hts hown hK hP mw_299 dX11_comes_1 ?_
  refine lv_iload_n hx hb dX11_comes_4 rfl (lv_at hl 1 rfl) ?_
  refine k_X1_isPlace_2 N ⟨hx, hb, hml, hown, hts⟩ mw_734 ⟨Nat.le_of_ble_eq_true rfl, Nat.le_of_ble_eq_true rfl⟩ h hK hP hD hS hl.1 (rest := []) (Nat.le_of_ble_eq_true rfl) ⟨Nat.le_of_ble_eq_true rfl, Nat.le_of_ble_eq_true rfl⟩ dX11_comes_5 (fun r1 τ2 H locs h hP hD hS => ?_)
  refine lv_if_ne (tgt := 15) hx hb dX11_comes_8 (by decide) (fun hc => ?_) (fun hc => ?_)
  · have h := h.2 hc
    refine lv_iload_n hx hb dX11_comes_15 rfl (lv_at hl 2 rfl) ?_
    refine lv_if_eq (tgt := 32) hx hb dX11_comes_16 (by decide) (fun hc => ?_) (fun hc => ?_)
    · have h := h.1 hc
      refine lv_aload_n hx hb dX11_comes_32 rfl (lv_at hl 0 rfl) ?_
      refine xg_0_10 hx hb hts hown hK hP mw_299 dX11_comes_33 ?_
      refine xg_14_0 hx hb hts hown hK hP mw_263 dX11_comes_36 ?_
      refine lv_iload_n hx hb dX11_comes_39 rfl (lv_at hl 1 rfl) ?_
      refine xa_60 hx hb hK hP h.1 rfl dX11_comes_40 ?_
      have h := h.2
      exact zret_l hx hb hr hlocks hK hP hD hS h dX11_comes_41
    · have h := h.2 hc
      refine lv_aload_n hx hb dX11_comes_19 rfl (lv_at hl 0 rfl) ?_
      refine xg_0_10 hx hb hts hown hK hP mw_299 dX11_comes_20 ?_
      refine xg_14_1 hx hb hts hown hK hP mw_265 dX11_comes_23 ?_
      refine lv_iload_n hx hb dX11_comes_26 rfl (lv_at hl 1 rfl) ?_
      refine xa_61 hx hb hK hP h.1 rfl dX11_comes_27 ?_
      have h := h.2
      refine lv_i2l hx hb dX11_comes_28 rfl ?_
      refine lv_goto (tgt := 41) hx hb dX11_comes_29 (by decide) ?_
      exact zret_l hx hb hr hlocks hK hP hD hS h dX11_comes_41
  · have h := h.1 hc
    refine lv_ldc2 (v := (-1 : Int64)) hx hb hown (hts _ (List.mem_cons_of_mem _ mw_275)) dX11_comes_11 ?_
    exact zret_l hx hb hr hlocks hK hP hD hS h dX11_comes_14
set_option maxHeartbeats 4000000 in
set_option maxRecDepth 100000 in
theorem c_X11_comes (N : Nat) (l : Launch) (dC : Nat → ClassId) (dI : Nat → Nat → Nat) (ad : Nat → Nat) (cI cJ : ClassId) (sz : Nat) (σ : zSt) (x1 : Int32) (x2 : Int32) (Q : Int64 → zSt → Prop) (h : w_X11_comes N x1 x2 σ Q) : Met l yX11_comes vs_X11_comes rm_X11_comes (va_Pc [.ref (ad 0), .int x1, .int x2] (zPc (dC, dI) (x_ty cI cJ) (x_W ad cI cJ) sz σ)) (zQl (dC, dI) (x_ty cI cJ) (x_W ad cI cJ) (zAW x_n ad sz) Q) 0 0 (zAW x_n ad sz) := by
  refine Met.ofW (cc := cX11_comes) (maxL := 3) (ret := (some .long)) (by decide) rfl ?_
  intro p e s m args below meth c s₁ B hml hv
  obtain ⟨rfl, hsz, hP, hK, hD0⟩ := hv
  subst hsz
  have C0 : zCx p s m meth c _ RX11 cX11_comes 3 (some .long) vs_X11_comes := ⟨B.exec, B.bytes, hml, B.returns, findClass_of_methodNamed B.named, atoms_spec (ws := vs_X11_comes) B.pre, B.notSynchronized⟩
  have hD := x_D0 (n0 := s.heap.size) hD0
  have hl := lv_entry ([.ref (ad 0), .int x1, .int x2]) (n := 3) (Nat.le_of_ble_eq_true rfl)
  rw [lg_entry_eq]
  generalize (lg_sl ([.ref (ad 0), .int x1, .int x2]) ++ List.replicate (3 - (lg_sl ([.ref (ad 0), .int x1, .int x2])).length) Slot.unset).toArray = ls at hl ⊢
  exact t_X11_comes_0 C0 hK N x1 x2 σ _ _ ls h hP hD va_S.rf hl
theorem k_X11_comes (N : Nat) {R : Room} {H : Heap} {locs : List Loc} {cells slots : Nat} {Q2 : State → Prop} {cc : ByteArray} {nL pc index : Nat} {ls : Array Slot} {rest : List Value} {own : String} {c0 : Cond} {σ : zSt} {x1 : Int32} {x2 : Int32} {Q : Int64 → zSt → Prop} (S0 : CallFix p m c cc nL s args (c0 :: zT) own) (hml : Cond.methodLink own index yX11_comes ∈ zT) (hR : rm_X11_comes.frames + 1 ≤ R.frames ∧ 8 + (3 + 11) + rm_X11_comes.locals ≤ R.locals) (h : w_X11_comes N x1 x2 σ Q) (hK : va_K (dC, dI) vwCl (x_ty cI cJ) s) (hP : va_P (dC, dI) vwCl (x_W ad cI cJ σ) H) (hD : va_D (zAW x_n ad s.heap.size) (x_W ad cI cJ σ)) (hS : va_S (zAW x_n ad s.heap.size) s.heap H locs) (hsz : ls.size = nL) (hW : (rest.map fun v => v.category).sum ≤ 8) (hcs : cells ≤ R.cells ∧ slots ≤ R.slots) (hdg : decode cc pc = .ok (.invokevirtual index, 3)) (kk : ∀ (r : Int64) (τ : zSt) (H1 : Heap) (locs1 : List Loc), Q r τ → va_P (dC, dI) vwCl (x_W ad cI cJ τ) H1 → va_D (zAW x_n ad s.heap.size) (x_W ad cI cJ τ) → va_S (zAW x_n ad s.heap.size) s.heap H1 locs1 → W p l e R s m args below meth c H1 locs1 cells slots Q2 (F0 m (pc + 3) ls (.long r :: rest))) : W p l e R s m args below meth c H locs cells slots Q2 (F0 m pc ls (.int x2 :: .int x1 :: .ref (ad 0) :: rest)) :=
  zcv_l (T := TX11) (N' := 17) (k := 0) (ci := 11) (fs := x_f0 ad σ) [.int x1, .int x2] S0 (c_X11_comes N l dC dI ad cI cJ H.size σ x1 x2 Q h) (cw_X11_comes S0.2.2.2.2 hml rfl rfl hR) rfl rfl hK hP hD hS rfl hsz hW rfl hcs hdg kk
end q12
section q12
def b_X11_giftOf_48 (N : Nat) (Q : Int64 → zSt → Prop) (x1 : Int32) (x3 : Int32) (x4 : Int64) (s0 : Int32) (σ : zSt) : Prop :=
  w_X10_of N x4 x1 σ (fun r1 τ2 => w_X10_of N (τ2.2.1 0) x1 τ2 (fun r3 τ4 => ∀ v5 : Int64, v5 = (if (r1 - r3) < (0 : Int64) then (0 : Int64) else (r1 - r3)) → w_X10_of N (τ4.2.1 0) s0 τ4 (fun r6 τ7 => w_X10_of N x4 s0 τ7 (fun r8 τ9 => ∀ v10 : Int64, v10 = (if (r6 - r8) < (0 : Int64) then (0 : Int64) else (r6 - r8)) → ∀ v11 : Int64, v11 = (if v10 < v5 then v10 else v5) → (x3 = 0 → Q v11 τ9) ∧ (¬ x3 = 0 → Q (v5 - v11) τ9)))))
def w_X11_giftOf (N : Nat) (x1 : Int32) (x2 : Int32) (x3 : Int32) (σ : zSt) (Q : Int64 → zSt → Prop) : Prop :=
  ∀ v1 : Int64, v1 = (σ.2.1 0) &&& (((1 : Int64) <<< (x2.toInt64 &&& 63)) ^^^ (-1 : Int64)) → (vp_in x2 45) ∧ (((σ.2.2.1 3 x2.toNatClampNeg) = x1 → (vp_in x2 45) ∧ (b_X11_giftOf_48 N Q x1 x3 v1 (σ.2.2.1 4 x2.toNatClampNeg) σ)) ∧ (¬ (σ.2.2.1 3 x2.toNatClampNeg) = x1 → (vp_in x2 45) ∧ (b_X11_giftOf_48 N Q x1 x3 v1 (σ.2.2.1 3 x2.toNatClampNeg) σ)))
variable {p : Program} {l : Launch} {e : Env} {s : State} {m : MethodId} {args : Array Value} {below : List Frame} {meth : Method} {c : Code} {dC : Nat → ClassId} {dI : Nat → Nat → Nat} {ad : Nat → Nat} {cI cJ : ClassId}
set_option maxHeartbeats 4000000 in
set_option maxRecDepth 100000 in
theorem t_X11_giftOf_48 (C0 : zCx p s m meth c args RX11 cX11_giftOf 13 (some .long) vs_X11_giftOf) (hK : va_K (dC, dI) vwCl (x_ty cI cJ) s) (N : Nat) {Q : Int64 → zSt → Prop} : ∀ (x1 : Int32) (x3 : Int32) (x4 : Int64) (s0 : Int32) (σ : zSt) (H : Heap) (locs : List Loc) (ls : Array Slot), b_X11_giftOf_48 N  Q x1 x3 x4 s0 σ → va_P (dC, dI) vwCl (x_W ad cI cJ σ) H → va_D (zAW x_n ad s.heap.size) (x_W ad cI cJ σ) → va_S (zAW x_n ad s.heap.size) s.heap H locs → lv_has ls 13 [(0, .ref (ad 0)), (1, .int x1), (3, .int x3), (4, .long x4)] → W p l e rm_X11_giftOf s m args below meth c H locs 0 0 (MQ below (zQl (dC, dI) (x_ty cI cJ) (x_W ad cI cJ) (zAW x_n ad s.heap.size) Q) args s 0 0 (zAW x_n ad s.heap.size)) (F0 m 48 ls [.int s0]) := by
  obtain ⟨hx, hb, hml, hr, hown, hts, hlocks⟩ := id C0
  intro x1 x3 x4 s0 σ H locs ls h hP hD hS hl
  unfold b_X11_giftOf_48 at h
  refine lv_istore (lv' := [(6, .int s0), (0, .ref (ad 0)), (1, .int x1), (3, .int x3), (4, .long x4)]) hx hb dX11_giftOf_48 hl (by decide) rfl (fun ls hl => ?_)
  refine lv_lconst (v := (0 : Int64)) hx hb dX11_giftOf_50 (by decide) ?_
  refine lv_aload_n hx hb dX11_giftOf_51 rfl (lv_at hl 1 rfl) ?_
  refine xg_0_5 hx hb hts hown hK hP mw_294 dX11_giftOf_52 ?_
  refine lv_lload hx hb dX11_giftOf_55 (lv_at hl 4 rfl) ?_
  refine lv_iload_n hx hb dX11_giftOf_57 rfl (lv_at hl 2 rfl) ?_
  refine k_X10_of N ⟨hx, hb, hml, hown, hts⟩ mw_580 ⟨Nat.le_of_ble_eq_true rfl, Nat.le_of_ble_eq_true rfl⟩ h hK hP hD hS hl.1 (rest := [.long (0 : Int64)]) (Nat.le_of_ble_eq_true rfl) ⟨Nat.le_of_ble_eq_true rfl, Nat.le_of_ble_eq_true rfl⟩ dX11_giftOf_58 (fun r1 τ2 H locs h hP hD hS => ?_)
  refine lv_aload_n hx hb dX11_giftOf_61 rfl (lv_at hl 1 rfl) ?_
  refine xg_0_5 hx hb hts hown hK hP mw_294 dX11_giftOf_62 ?_
  refine lv_aload_n hx hb dX11_giftOf_65 rfl (lv_at hl 1 rfl) ?_
  refine xg_0_15 hx hb hts hown hK hP mw_304 dX11_giftOf_66 ?_
  refine lv_iload_n hx hb dX11_giftOf_69 rfl (lv_at hl 2 rfl) ?_
  refine k_X10_of N ⟨hx, hb, hml, hown, hts⟩ mw_580 ⟨Nat.le_of_ble_eq_true rfl, Nat.le_of_ble_eq_true rfl⟩ h hK hP hD hS hl.1 (rest := [.long r1, .long (0 : Int64)]) (Nat.le_of_ble_eq_true rfl) ⟨Nat.le_of_ble_eq_true rfl, Nat.le_of_ble_eq_true rfl⟩ dX11_giftOf_70 (fun r3 τ4 H locs h hP hD hS => ?_)
  refine lv_lsub hx hb dX11_giftOf_73 ?_
  refine va_mmax_long hx hb (hml.trans hl.1.symm) hown (hts _ (List.mem_cons_of_mem _ mw_772)) (hts _ (List.mem_cons_of_mem _ mw_773)) (hts _ (List.mem_cons_of_mem _ mw_19)) (hts _ (List.mem_cons_of_mem _ mw_774)) (Nat.le_of_ble_eq_true rfl) (Nat.le_of_ble_eq_true rfl) (Nat.zero_le _) (Nat.zero_le _) dX11_giftOf_74 ?_
  refine lv_topl (fun v5 ev5 => ?_)
  have h := h v5 ev5
  refine lv_lstore (lv' := [(7, .long v5), (6, .int s0), (0, .ref (ad 0)), (1, .int x1), (3, .int x3), (4, .long x4)]) hx hb dX11_giftOf_77 hl (by decide) rfl (fun ls hl => ?_)
  refine lv_lconst (v := (0 : Int64)) hx hb dX11_giftOf_79 (by decide) ?_
  refine lv_aload_n hx hb dX11_giftOf_80 rfl (lv_at hl 2 rfl) ?_
  refine xg_0_5 hx hb hts hown hK hP mw_294 dX11_giftOf_81 ?_
  refine lv_aload_n hx hb dX11_giftOf_84 rfl (lv_at hl 2 rfl) ?_
  refine xg_0_15 hx hb hts hown hK hP mw_304 dX11_giftOf_85 ?_
  refine lv_iload hx hb dX11_giftOf_88 (lv_at hl 1 rfl) ?_
  refine k_X10_of N ⟨hx, hb, hml, hown, hts⟩ mw_580 ⟨Nat.le_of_ble_eq_true rfl, Nat.le_of_ble_eq_true rfl⟩ h hK hP hD hS hl.1 (rest := [.long (0 : Int64)]) (Nat.le_of_ble_eq_true rfl) ⟨Nat.le_of_ble_eq_true rfl, Nat.le_of_ble_eq_true rfl⟩ dX11_giftOf_90 (fun r6 τ7 H locs h hP hD hS => ?_)
  refine lv_aload_n hx hb dX11_giftOf_93 rfl (lv_at hl 2 rfl) ?_
  refine xg_0_5 hx hb hts hown hK hP mw_294 dX11_giftOf_94 ?_
  refine lv_lload hx hb dX11_giftOf_97 (lv_at hl 5 rfl) ?_
  refine lv_iload hx hb dX11_giftOf_99 (lv_at hl 1 rfl) ?_
  refine k_X10_of N ⟨hx, hb, hml, hown, hts⟩ mw_580 ⟨Nat.le_of_ble_eq_true rfl, Nat.le_of_ble_eq_true rfl⟩ h hK hP hD hS hl.1 (rest := [.long r6, .long (0 : Int64)]) (Nat.le_of_ble_eq_true rfl) ⟨Nat.le_of_ble_eq_true rfl, Nat.le_of_ble_eq_true rfl⟩ dX11_giftOf_101 (fun r8 τ9 H locs h hP hD hS => ?_)
  refine lv_lsub hx hb dX11_giftOf_104 ?_
  refine va_mmax_long hx hb (hml.trans hl.1.symm) hown (hts _ (List.mem_cons_of_mem _ mw_772)) (hts _ (List.mem_cons_of_mem _ mw_773)) (hts _ (List.mem_cons_of_mem _ mw_19)) (hts _ (List.mem_cons_of_mem _ mw_774)) (Nat.le_of_ble_eq_true rfl) (Nat.le_of_ble_eq_true rfl) (Nat.zero_le _) (Nat.zero_le _) dX11_giftOf_105 ?_
  refine lv_topl (fun v10 ev10 => ?_)
  have h := h v10 ev10
  refine lv_lstore (lv' := [(9, .long v10), (7, .long v5), (6, .int s0), (0, .ref (ad 0)), (1, .int x1), (3, .int x3), (4, .long x4)]) hx hb dX11_giftOf_108 hl (by decide) rfl (fun ls hl => ?_)
  refine lv_lload hx hb dX11_giftOf_110 (lv_at hl 1 rfl) ?_
  refine lv_lload hx hb dX11_giftOf_112 (lv_at hl 0 rfl) ?_
  refine va_mmin_long hx hb (hml.trans hl.1.symm) hown (hts _ (List.mem_cons_of_mem _ mw_775)) (hts _ (List.mem_cons_of_mem _ mw_776)) (hts _ (List.mem_cons_of_mem _ mw_19)) (hts _ (List.mem_cons_of_mem _ mw_777)) (Nat.le_of_ble_eq_true rfl) (Nat.le_of_ble_eq_true rfl) (Nat.zero_le _) (Nat.zero_le _) dX11_giftOf_114 ?_
  refine lv_topl (fun v11 ev11 => ?_)
  have h := h v11 ev11
  refine lv_lstore (lv' := [(11, .long v11), (9, .long v10), (7, .long v5), (6, .int s0), (0, .ref (ad 0)), (1, .int x1), (3, .int x3), (4, .long x4)]) hx hb dX11_giftOf_117 hl (by decide) rfl (fun ls hl => ?_)
  refine lv_iload_n hx hb dX11_giftOf_119 rfl (lv_at hl 6 rfl) ?_
  refine lv_if_eq (tgt := 131) hx hb dX11_giftOf_120 (by decide) (fun hc => ?_) (fun hc => ?_)
  · have h := h.1 hc
    refine lv_lload hx hb dX11_giftOf_131 (lv_at hl 0 rfl) ?_
    exact zret_l hx hb hr hlocks hK hP hD hS h dX11_giftOf_133
  · have h := h.2 hc
    refine lv_lload hx hb dX11_giftOf_123 (lv_at hl 2 rfl) ?_
    refine lv_lload hx hb dX11_giftOf_125 (lv_at hl 0 rfl) ?_
    refine lv_lsub hx hb dX11_giftOf_127 ?_
    refine lv_goto (tgt := 133) hx hb dX11_giftOf_128 (by decide) ?_
    exact zret_l hx hb hr hlocks hK hP hD hS h dX11_giftOf_133
set_option maxHeartbeats 4000000 in
set_option maxRecDepth 100000 in
theorem t_X11_giftOf_0 (C0 : zCx p s m meth c args RX11 cX11_giftOf 13 (some .long) vs_X11_giftOf) (hK : va_K (dC, dI) vwCl (x_ty cI cJ) s) (N : Nat) {Q : Int64 → zSt → Prop} : ∀ (x1 : Int32) (x2 : Int32) (x3 : Int32) (σ : zSt) (H : Heap) (locs : List Loc) (ls : Array Slot), w_X11_giftOf N x1 x2 x3 σ Q → va_P (dC, dI) vwCl (x_W ad cI cJ σ) H → va_D (zAW x_n ad s.heap.size) (x_W ad cI cJ σ) → va_S (zAW x_n ad s.heap.size) s.heap H locs → lv_has ls 13 [(0, .ref (ad 0)), (1, .int x1), (2, .int x2), (3, .int x3)] → W p l e rm_X11_giftOf s m args below meth c H locs 0 0 (MQ below (zQl (dC, dI) (x_ty cI cJ) (x_W ad cI cJ) (zAW x_n ad s.heap.size) Q) args s 0 0 (zAW x_n ad s.heap.size)) (F0 m 0 ls []) := by
  obtain ⟨hx, hb, hml, hr, hown, hts, hlocks⟩ := id C0
  intro x1 x2 x3 σ H locs ls h hP hD hS hl
  unfold w_X11_giftOf at h
  refine lv_aload_n hx hb dX11_giftOf_0 rfl (lv_at hl 0 rfl) ?_
  refine xg_0_15 hx hb hts hown hK hP mw_304 dX11_giftOf_1 ?_
  refine lv_lconst (v := (1 : Int64)) hx hb dX11_giftOf_4 (by decide) ?_
  refine lv_iload_n hx hb dX11_giftOf_5 rfl (lv_at hl 2 rfl) ?_
  refine lv_lshl hx hb dX11_giftOf_6 rfl ?_
  refine lv_ldc2 (v := (-1 : Int64)) hx hb hown (hts _ (List.mem_cons_of_mem _ mw_275)) dX11_giftOf_7 ?_
  refine lv_lxor hx hb dX11_giftOf_10 ?_
  refine lv_land hx hb dX11_giftOf_11 ?_
  refine lv_topl (fun v1 ev1 => ?_)
  have h := h v1 ev1
  refine lv_lstore (lv' := [(4, .long v1), (0, .ref (ad 0)), (1, .int x1), (2, .int x2), (3, .int x3)]) hx hb dX11_giftOf_12 hl (by decide) rfl (fun ls hl => ?_)
  refine lv_aload_n hx hb dX11_giftOf_14 rfl (lv_at hl 1 rfl) ?_
  refine xg_0_1 hx hb hts hown hK hP mw_290 dX11_giftOf_15 ?_
  refine xg_2_0 hx hb hts hown hK hP mw_48 dX11_giftOf_18 ?_
  refine lv_iload_n hx hb dX11_giftOf_21 rfl (lv_at hl 3 rfl) ?_
  refine xa_20 hx hb hK hP h.1 rfl dX11_giftOf_22 ?_
  have h := h.2
  refine lv_iload_n hx hb dX11_giftOf_23 rfl (lv_at hl 2 rfl) ?_
  refine lv_icmp_ne (tgt := 39) hx hb dX11_giftOf_24 (by decide) (fun hc => ?_) (fun hc => ?_)
  · have h := h.2 hc
    refine lv_aload_n hx hb dX11_giftOf_39 rfl (lv_at hl 1 rfl) ?_
    refine xg_0_1 hx hb hts hown hK hP mw_290 dX11_giftOf_40 ?_
    refine xg_2_0 hx hb hts hown hK hP mw_48 dX11_giftOf_43 ?_
    refine lv_iload_n hx hb dX11_giftOf_46 rfl (lv_at hl 3 rfl) ?_
    refine xa_20 hx hb hK hP h.1 rfl dX11_giftOf_47 ?_
    have h := h.2
    exact t_X11_giftOf_48 C0 hK N  x1 x3 v1 (σ.2.2.1 3 x2.toNatClampNeg) σ _ _ _ h hP hD hS (lv_sub hl [1, 2, 4, 0] rfl)
  · have h := h.1 hc
    refine lv_aload_n hx hb dX11_giftOf_27 rfl (lv_at hl 1 rfl) ?_
    refine xg_0_1 hx hb hts hown hK hP mw_290 dX11_giftOf_28 ?_
    refine xg_2_1 hx hb hts hown hK hP mw_52 dX11_giftOf_31 ?_
    refine lv_iload_n hx hb dX11_giftOf_34 rfl (lv_at hl 3 rfl) ?_
    refine xa_21 hx hb hK hP h.1 rfl dX11_giftOf_35 ?_
    have h := h.2
    refine lv_goto (tgt := 48) hx hb dX11_giftOf_36 (by decide) ?_
    exact t_X11_giftOf_48 C0 hK N  x1 x3 v1 (σ.2.2.1 4 x2.toNatClampNeg) σ _ _ _ h hP hD hS (lv_sub hl [1, 2, 4, 0] rfl)
set_option maxHeartbeats 4000000 in
set_option maxRecDepth 100000 in
theorem c_X11_giftOf (N : Nat) (l : Launch) (dC : Nat → ClassId) (dI : Nat → Nat → Nat) (ad : Nat → Nat) (cI cJ : ClassId) (sz : Nat) (σ : zSt) (x1 : Int32) (x2 : Int32) (x3 : Int32) (Q : Int64 → zSt → Prop) (h : w_X11_giftOf N x1 x2 x3 σ Q) : Met l yX11_giftOf vs_X11_giftOf rm_X11_giftOf (va_Pc [.ref (ad 0), .int x1, .int x2, .int x3] (zPc (dC, dI) (x_ty cI cJ) (x_W ad cI cJ) sz σ)) (zQl (dC, dI) (x_ty cI cJ) (x_W ad cI cJ) (zAW x_n ad sz) Q) 0 0 (zAW x_n ad sz) := by
  refine Met.ofW (cc := cX11_giftOf) (maxL := 13) (ret := (some .long)) (by decide) rfl ?_
  intro p e s m args below meth c s₁ B hml hv
  obtain ⟨rfl, hsz, hP, hK, hD0⟩ := hv
  subst hsz
  have C0 : zCx p s m meth c _ RX11 cX11_giftOf 13 (some .long) vs_X11_giftOf := ⟨B.exec, B.bytes, hml, B.returns, findClass_of_methodNamed B.named, atoms_spec (ws := vs_X11_giftOf) B.pre, B.notSynchronized⟩
  have hD := x_D0 (n0 := s.heap.size) hD0
  have hl := lv_entry ([.ref (ad 0), .int x1, .int x2, .int x3]) (n := 13) (Nat.le_of_ble_eq_true rfl)
  rw [lg_entry_eq]
  generalize (lg_sl ([.ref (ad 0), .int x1, .int x2, .int x3]) ++ List.replicate (13 - (lg_sl ([.ref (ad 0), .int x1, .int x2, .int x3])).length) Slot.unset).toArray = ls at hl ⊢
  exact t_X11_giftOf_0 C0 hK N x1 x2 x3 σ _ _ ls h hP hD va_S.rf hl
theorem k_X11_giftOf (N : Nat) {R : Room} {H : Heap} {locs : List Loc} {cells slots : Nat} {Q2 : State → Prop} {cc : ByteArray} {nL pc index : Nat} {ls : Array Slot} {rest : List Value} {own : String} {c0 : Cond} {σ : zSt} {x1 : Int32} {x2 : Int32} {x3 : Int32} {Q : Int64 → zSt → Prop} (S0 : CallFix p m c cc nL s args (c0 :: zT) own) (hml : Cond.methodLink own index yX11_giftOf ∈ zT) (hR : rm_X11_giftOf.frames + 1 ≤ R.frames ∧ 8 + (13 + 11) + rm_X11_giftOf.locals ≤ R.locals) (h : w_X11_giftOf N x1 x2 x3 σ Q) (hK : va_K (dC, dI) vwCl (x_ty cI cJ) s) (hP : va_P (dC, dI) vwCl (x_W ad cI cJ σ) H) (hD : va_D (zAW x_n ad s.heap.size) (x_W ad cI cJ σ)) (hS : va_S (zAW x_n ad s.heap.size) s.heap H locs) (hsz : ls.size = nL) (hW : (rest.map fun v => v.category).sum ≤ 8) (hcs : cells ≤ R.cells ∧ slots ≤ R.slots) (hdg : decode cc pc = .ok (.invokevirtual index, 3)) (kk : ∀ (r : Int64) (τ : zSt) (H1 : Heap) (locs1 : List Loc), Q r τ → va_P (dC, dI) vwCl (x_W ad cI cJ τ) H1 → va_D (zAW x_n ad s.heap.size) (x_W ad cI cJ τ) → va_S (zAW x_n ad s.heap.size) s.heap H1 locs1 → W p l e R s m args below meth c H1 locs1 cells slots Q2 (F0 m (pc + 3) ls (.long r :: rest))) : W p l e R s m args below meth c H locs cells slots Q2 (F0 m pc ls (.int x3 :: .int x2 :: .int x1 :: .ref (ad 0) :: rest)) :=
  zcv_l (T := TX11) (N' := 17) (k := 0) (ci := 11) (fs := x_f0 ad σ) [.int x1, .int x2, .int x3] S0 (c_X11_giftOf N l dC dI ad cI cJ H.size σ x1 x2 x3 Q h) (cw_X11_giftOf S0.2.2.2.2 hml rfl rfl hR) rfl rfl hK hP hD hS rfl hsz hW rfl hcs hdg kk
end q12
section q12
def b_X11_gifts_119 (N : Nat) (k_43 : Int32 → Int64 → Int32 → zSt → Prop) (Q : Int64 → zSt → Prop) (x1 : Int32) (x4 : Int32) (s0 : Int32) (s1 : Int32) (s2 : Int32) (s4 : Int64) (s5 : Int64) (σ : zSt) : Prop :=
  w_X11_giftOf N s2 s1 s0 σ (fun r1 τ2 => ∀ v3 : Int64, v3 = s5 + (s4 + r1) → ∀ v4 : Int32, v4 = x4 + (1 : Int32) → k_43 x1 v3 v4 τ2)
def b_X11_gifts_93 (N : Nat) (k_43 : Int32 → Int64 → Int32 → zSt → Prop) (Q : Int64 → zSt → Prop) (x1 : Int32) (x4 : Int32) (s0 : Int32) (s1 : Int32) (s2 : Int32) (s4 : Int64) (σ : zSt) : Prop :=
  w_X11_giftOf N s2 s1 s0 σ (fun r1 τ2 => (vp_in x4 45) ∧ ((x1 = (1 : Int32) → b_X11_gifts_119 N k_43 Q x1 x4 (1 : Int32) x4 (τ2.2.2.1 4 x4.toNatClampNeg) r1 s4 τ2) ∧ (¬ x1 = (1 : Int32) → b_X11_gifts_119 N k_43 Q x1 x4 (0 : Int32) x4 (τ2.2.2.1 4 x4.toNatClampNeg) r1 s4 τ2)))
def b_X11_gifts_43 (N : Nat) (k_43 : Int32 → Int64 → Int32 → zSt → Prop) (Q : Int64 → zSt → Prop) (x1 : Int32) (x2 : Int64) (x4 : Int32) (σ : zSt) : Prop :=
  ((σ.1 2) ≤ x4 → Q x2 σ) ∧ (¬ (σ.1 2) ≤ x4 → ((lg_cmp (((σ.2.1 0) >>> (x4.toInt64 &&& 63)) &&& (1 : Int64)) (0 : Int64)) = 0 → ∀ v1 : Int32, v1 = x4 + (1 : Int32) → k_43 x1 x2 v1 σ) ∧ (¬ (lg_cmp (((σ.2.1 0) >>> (x4.toInt64 &&& 63)) &&& (1 : Int64)) (0 : Int64)) = 0 → (vp_in x4 45) ∧ ((x1 = (1 : Int32) → b_X11_gifts_93 N k_43 Q x1 x4 (1 : Int32) x4 (σ.2.2.1 3 x4.toNatClampNeg) x2 σ) ∧ (¬ x1 = (1 : Int32) → b_X11_gifts_93 N k_43 Q x1 x4 (0 : Int32) x4 (σ.2.2.1 3 x4.toNatClampNeg) x2 σ))))
def w_X11_gifts_43 (N : Nat) (Q : Int64 → zSt → Prop) : Nat → Int32 → Int64 → Int32 → zSt → Prop
  | 0 => fun _ _ _ _ => False
  | f + 1 => b_X11_gifts_43 N (w_X11_gifts_43 N  Q f) Q
def w_X11_gifts (N : Nat) (x1 : Int32) (σ : zSt) (Q : Int64 → zSt → Prop) : Prop :=
  (x1 = (2 : Int32) → w_X0_firstAdd N (σ.2.1 0) σ (fun r1 τ2 => (r1 = 0 → Q (1 : Int64) τ2) ∧ (¬ r1 = 0 → Q (0 : Int64) τ2))) ∧ (¬ x1 = (2 : Int32) → (x1 = 0 → w_X11_gifts_43 N Q N x1 (0 : Int64) (0 : Int32) σ) ∧ (¬ x1 = 0 → (x1 = (1 : Int32) → w_X11_gifts_43 N Q N x1 (0 : Int64) (0 : Int32) σ) ∧ (¬ x1 = (1 : Int32) → Q (-1 : Int64) σ)))
variable {p : Program} {l : Launch} {e : Env} {s : State} {m : MethodId} {args : Array Value} {below : List Frame} {meth : Method} {c : Code} {dC : Nat → ClassId} {dI : Nat → Nat → Nat} {ad : Nat → Nat} {cI cJ : ClassId}
set_option maxHeartbeats 4000000 in
set_option maxRecDepth 100000 in
theorem t_X11_gifts_119 (C0 : zCx p s m meth c args RX11 cX11_gifts 5 (some .long) vs_X11_gifts) (hK : va_K (dC, dI) vwCl (x_ty cI cJ) s) (N : Nat) {Q : Int64 → zSt → Prop} {k_43 : Int32 → Int64 → Int32 → zSt → Prop} (hk_43 : ∀ (x1 : Int32) (x2 : Int64) (x4 : Int32) (σ : zSt) (H : Heap) (locs : List Loc) (ls : Array Slot), k_43 x1 x2 x4 σ → va_P (dC, dI) vwCl (x_W ad cI cJ σ) H → va_D (zAW x_n ad s.heap.size) (x_W ad cI cJ σ) → va_S (zAW x_n ad s.heap.size) s.heap H locs → lv_has ls 5 [(0, .ref (ad 0)), (1, .int x1), (2, .long x2), (4, .int x4)] → W p l e rm_X11_gifts s m args below meth c H locs 0 0 (MQ below (zQl (dC, dI) (x_ty cI cJ) (x_W ad cI cJ) (zAW x_n ad s.heap.size) Q) args s 0 0 (zAW x_n ad s.heap.size)) (F0 m 43 ls [])) : ∀ (x1 : Int32) (x4 : Int32) (s0 : Int32) (s1 : Int32) (s2 : Int32) (s4 : Int64) (s5 : Int64) (σ : zSt) (H : Heap) (locs : List Loc) (ls : Array Slot), b_X11_gifts_119 N k_43 Q x1 x4 s0 s1 s2 s4 s5 σ → va_P (dC, dI) vwCl (x_W ad cI cJ σ) H → va_D (zAW x_n ad s.heap.size) (x_W ad cI cJ σ) → va_S (zAW x_n ad s.heap.size) s.heap H locs → lv_has ls 5 [(0, .ref (ad 0)), (1, .int x1), (4, .int x4)] → W p l e rm_X11_gifts s m args below meth c H locs 0 0 (MQ below (zQl (dC, dI) (x_ty cI cJ) (x_W ad cI cJ) (zAW x_n ad s.heap.size) Q) args s 0 0 (zAW x_n ad s.heap.size)) (F0 m 119 ls [.int s0, .int s1, .int s2, .ref (ad 0), .long s4, .long s5]) := by
  obtain ⟨hx, hb, hml, hr, hown, hts, hlocks⟩ := id C0
  intro x1 x4 s0 s1 s2 s4 s5 σ H locs ls h hP hD hS hl
  unfold b_X11_gifts_119 at h
  refine k_X11_giftOf N ⟨hx, hb, hml, hown, hts⟩ mw_769 ⟨Nat.le_of_ble_eq_true rfl, Nat.le_of_ble_eq_true rfl⟩ h hK hP hD hS hl.1 (rest := [.long s4, .long s5]) (Nat.le_of_ble_eq_true rfl) ⟨Nat.le_of_ble_eq_true rfl, Nat.le_of_ble_eq_true rfl⟩ dX11_gifts_119 (fun r1 τ2 H locs h hP hD hS => ?_)
  refine lv_ladd hx hb dX11_gifts_122 ?_
  refine lv_ladd hx hb dX11_gifts_123 ?_
  refine lv_topl (fun v3 ev3 => ?_)
  have h := h v3 ev3
  refine lv_lstore_n (lv' := [(2, .long v3), (0, .ref (ad 0)), (1, .int x1), (4, .int x4)]) hx hb dX11_gifts_124 rfl hl (by decide) rfl (fun ls hl => ?_)
  obtain ⟨v4, ev4⟩ : ∃ z : Int32, z = x4 + (1 : Int32) := ⟨_, rfl⟩
  have h := h v4 ev4
  refine lv_iinc (v := v4) (lv' := [(4, .int v4), (2, .long v3), (0, .ref (ad 0)), (1, .int x1)]) hx hb dX11_gifts_125 hl (k := 3) rfl (by rw [ev4]; rfl) (by decide) rfl (fun ls hl => ?_)
  refine lv_goto (tgt := 43) hx hb dX11_gifts_128 (by decide) ?_
  exact hk_43 x1 v3 v4 τ2 _ _ _ h hP hD hS (lv_sub hl [2, 3, 1, 0] rfl)
set_option maxHeartbeats 4000000 in
set_option maxRecDepth 100000 in
theorem t_X11_gifts_93 (C0 : zCx p s m meth c args RX11 cX11_gifts 5 (some .long) vs_X11_gifts) (hK : va_K (dC, dI) vwCl (x_ty cI cJ) s) (N : Nat) {Q : Int64 → zSt → Prop} {k_43 : Int32 → Int64 → Int32 → zSt → Prop} (hk_43 : ∀ (x1 : Int32) (x2 : Int64) (x4 : Int32) (σ : zSt) (H : Heap) (locs : List Loc) (ls : Array Slot), k_43 x1 x2 x4 σ → va_P (dC, dI) vwCl (x_W ad cI cJ σ) H → va_D (zAW x_n ad s.heap.size) (x_W ad cI cJ σ) → va_S (zAW x_n ad s.heap.size) s.heap H locs → lv_has ls 5 [(0, .ref (ad 0)), (1, .int x1), (2, .long x2), (4, .int x4)] → W p l e rm_X11_gifts s m args below meth c H locs 0 0 (MQ below (zQl (dC, dI) (x_ty cI cJ) (x_W ad cI cJ) (zAW x_n ad s.heap.size) Q) args s 0 0 (zAW x_n ad s.heap.size)) (F0 m 43 ls [])) : ∀ (x1 : Int32) (x4 : Int32) (s0 : Int32) (s1 : Int32) (s2 : Int32) (s4 : Int64) (σ : zSt) (H : Heap) (locs : List Loc) (ls : Array Slot), b_X11_gifts_93 N k_43 Q x1 x4 s0 s1 s2 s4 σ → va_P (dC, dI) vwCl (x_W ad cI cJ σ) H → va_D (zAW x_n ad s.heap.size) (x_W ad cI cJ σ) → va_S (zAW x_n ad s.heap.size) s.heap H locs → lv_has ls 5 [(0, .ref (ad 0)), (1, .int x1), (4, .int x4)] → W p l e rm_X11_gifts s m args below meth c H locs 0 0 (MQ below (zQl (dC, dI) (x_ty cI cJ) (x_W ad cI cJ) (zAW x_n ad s.heap.size) Q) args s 0 0 (zAW x_n ad s.heap.size)) (F0 m 93 ls [.int s0, .int s1, .int s2, .ref (ad 0), .long s4]) := by
  obtain ⟨hx, hb, hml, hr, hown, hts, hlocks⟩ := id C0
  intro x1 x4 s0 s1 s2 s4 σ H locs ls h hP hD hS hl
  unfold b_X11_gifts_93 at h
  refine k_X11_giftOf N ⟨hx, hb, hml, hown, hts⟩ mw_769 ⟨Nat.le_of_ble_eq_true rfl, Nat.le_of_ble_eq_true rfl⟩ h hK hP hD hS hl.1 (rest := [.long s4]) (Nat.le_of_ble_eq_true rfl) ⟨Nat.le_of_ble_eq_true rfl, Nat.le_of_ble_eq_true rfl⟩ dX11_gifts_93 (fun r1 τ2 H locs h hP hD hS => ?_)
  refine lv_aload_n hx hb dX11_gifts_96 rfl (lv_at hl 0 rfl) ?_
  refine lv_aload_n hx hb dX11_gifts_97 rfl (lv_at hl 0 rfl) ?_
  refine xg_0_1 hx hb hts hown hK hP mw_290 dX11_gifts_98 ?_
  refine xg_2_1 hx hb hts hown hK hP mw_52 dX11_gifts_101 ?_
  refine lv_iload hx hb dX11_gifts_104 (lv_at hl 2 rfl) ?_
  refine xa_21 hx hb hK hP h.1 rfl dX11_gifts_106 ?_
  have h := h.2
  refine lv_iload hx hb dX11_gifts_107 (lv_at hl 2 rfl) ?_
  refine lv_iload_n hx hb dX11_gifts_109 rfl (lv_at hl 1 rfl) ?_
  refine lv_iconst (v := (1 : Int32)) hx hb dX11_gifts_110 (by decide) ?_
  refine lv_icmp_ne (tgt := 118) hx hb dX11_gifts_111 (by decide) (fun hc => ?_) (fun hc => ?_)
  · have h := h.2 hc
    refine lv_iconst (v := (0 : Int32)) hx hb dX11_gifts_118 (by decide) ?_
    exact t_X11_gifts_119 C0 hK N hk_43 x1 x4 (0 : Int32) x4 (τ2.2.2.1 4 x4.toNatClampNeg) r1 s4 τ2 _ _ _ h hP hD hS (lv_sub hl [0, 1, 2] rfl)
  · have h := h.1 hc
    refine lv_iconst (v := (1 : Int32)) hx hb dX11_gifts_114 (by decide) ?_
    refine lv_goto (tgt := 119) hx hb dX11_gifts_115 (by decide) ?_
    exact t_X11_gifts_119 C0 hK N hk_43 x1 x4 (1 : Int32) x4 (τ2.2.2.1 4 x4.toNatClampNeg) r1 s4 τ2 _ _ _ h hP hD hS (lv_sub hl [0, 1, 2] rfl)
set_option maxHeartbeats 4000000 in
set_option maxRecDepth 100000 in
theorem tb_X11_gifts_43 (C0 : zCx p s m meth c args RX11 cX11_gifts 5 (some .long) vs_X11_gifts) (hK : va_K (dC, dI) vwCl (x_ty cI cJ) s) (N : Nat) {Q : Int64 → zSt → Prop} {k_43 : Int32 → Int64 → Int32 → zSt → Prop} (hk_43 : ∀ (x1 : Int32) (x2 : Int64) (x4 : Int32) (σ : zSt) (H : Heap) (locs : List Loc) (ls : Array Slot), k_43 x1 x2 x4 σ → va_P (dC, dI) vwCl (x_W ad cI cJ σ) H → va_D (zAW x_n ad s.heap.size) (x_W ad cI cJ σ) → va_S (zAW x_n ad s.heap.size) s.heap H locs → lv_has ls 5 [(0, .ref (ad 0)), (1, .int x1), (2, .long x2), (4, .int x4)] → W p l e rm_X11_gifts s m args below meth c H locs 0 0 (MQ below (zQl (dC, dI) (x_ty cI cJ) (x_W ad cI cJ) (zAW x_n ad s.heap.size) Q) args s 0 0 (zAW x_n ad s.heap.size)) (F0 m 43 ls [])) : ∀ (x1 : Int32) (x2 : Int64) (x4 : Int32) (σ : zSt) (H : Heap) (locs : List Loc) (ls : Array Slot), b_X11_gifts_43 N k_43 Q x1 x2 x4 σ → va_P (dC, dI) vwCl (x_W ad cI cJ σ) H → va_D (zAW x_n ad s.heap.size) (x_W ad cI cJ σ) → va_S (zAW x_n ad s.heap.size) s.heap H locs → lv_has ls 5 [(0, .ref (ad 0)), (1, .int x1), (2, .long x2), (4, .int x4)] → W p l e rm_X11_gifts s m args below meth c H locs 0 0 (MQ below (zQl (dC, dI) (x_ty cI cJ) (x_W ad cI cJ) (zAW x_n ad s.heap.size) Q) args s 0 0 (zAW x_n ad s.heap.size)) (F0 m 43 ls []) := by
  obtain ⟨hx, hb, hml, hr, hown, hts, hlocks⟩ := id C0
  intro x1 x2 x4 σ H locs ls h hP hD hS hl
  unfold b_X11_gifts_43 at h
  refine lv_iload hx hb dX11_gifts_43 (lv_at hl 3 rfl) ?_
  refine lv_aload_n hx hb dX11_gifts_45 rfl (lv_at hl 0 rfl) ?_
  refine xg_0_2 hx hb hts hown hK hP mw_291 dX11_gifts_46 ?_
  refine xg_3_5 hx hb hts hown hK hP mw_81 dX11_gifts_49 ?_
  refine lv_icmp_ge (tgt := 131) hx hb dX11_gifts_52 (by decide) (fun hc => ?_) (fun hc => ?_)
  · have h := h.1 hc
    refine lv_lload_n hx hb dX11_gifts_131 rfl (lv_at hl 2 rfl) ?_
    exact zret_l hx hb hr hlocks hK hP hD hS h dX11_gifts_132
  · have h := h.2 hc
    refine lv_aload_n hx hb dX11_gifts_55 rfl (lv_at hl 0 rfl) ?_
    refine xg_0_15 hx hb hts hown hK hP mw_304 dX11_gifts_56 ?_
    refine lv_iload hx hb dX11_gifts_59 (lv_at hl 3 rfl) ?_
    refine lv_lshr hx hb dX11_gifts_61 rfl ?_
    refine lv_lconst (v := (1 : Int64)) hx hb dX11_gifts_62 (by decide) ?_
    refine lv_land hx hb dX11_gifts_63 ?_
    refine lv_lconst (v := (0 : Int64)) hx hb dX11_gifts_64 (by decide) ?_
    refine W.lcmp hx hb dX11_gifts_65 ?_
    refine lv_if_eq (tgt := 125) hx hb dX11_gifts_66 (by decide) (fun hc => ?_) (fun hc => ?_)
    · have h := h.1 hc
      obtain ⟨v1, ev1⟩ : ∃ z : Int32, z = x4 + (1 : Int32) := ⟨_, rfl⟩
      have h := h v1 ev1
      refine lv_iinc (v := v1) (lv' := [(4, .int v1), (0, .ref (ad 0)), (1, .int x1), (2, .long x2)]) hx hb dX11_gifts_125 hl (k := 3) rfl (by rw [ev1]; rfl) (by decide) rfl (fun ls hl => ?_)
      refine lv_goto (tgt := 43) hx hb dX11_gifts_128 (by decide) ?_
      exact hk_43 x1 x2 v1 σ _ _ _ h hP hD hS (lv_sub hl [1, 2, 3, 0] rfl)
    · have h := h.2 hc
      refine lv_lload_n hx hb dX11_gifts_69 rfl (lv_at hl 2 rfl) ?_
      refine lv_aload_n hx hb dX11_gifts_70 rfl (lv_at hl 0 rfl) ?_
      refine lv_aload_n hx hb dX11_gifts_71 rfl (lv_at hl 0 rfl) ?_
      refine xg_0_1 hx hb hts hown hK hP mw_290 dX11_gifts_72 ?_
      refine xg_2_0 hx hb hts hown hK hP mw_48 dX11_gifts_75 ?_
      refine lv_iload hx hb dX11_gifts_78 (lv_at hl 3 rfl) ?_
      refine xa_20 hx hb hK hP h.1 rfl dX11_gifts_80 ?_
      have h := h.2
      refine lv_iload hx hb dX11_gifts_81 (lv_at hl 3 rfl) ?_
      refine lv_iload_n hx hb dX11_gifts_83 rfl (lv_at hl 1 rfl) ?_
      refine lv_iconst (v := (1 : Int32)) hx hb dX11_gifts_84 (by decide) ?_
      refine lv_icmp_ne (tgt := 92) hx hb dX11_gifts_85 (by decide) (fun hc => ?_) (fun hc => ?_)
      · have h := h.2 hc
        refine lv_iconst (v := (0 : Int32)) hx hb dX11_gifts_92 (by decide) ?_
        exact t_X11_gifts_93 C0 hK N hk_43 x1 x4 (0 : Int32) x4 (σ.2.2.1 3 x4.toNatClampNeg) x2 σ _ _ _ h hP hD hS (lv_sub hl [0, 1, 3] rfl)
      · have h := h.1 hc
        refine lv_iconst (v := (1 : Int32)) hx hb dX11_gifts_88 (by decide) ?_
        refine lv_goto (tgt := 93) hx hb dX11_gifts_89 (by decide) ?_
        exact t_X11_gifts_93 C0 hK N hk_43 x1 x4 (1 : Int32) x4 (σ.2.2.1 3 x4.toNatClampNeg) x2 σ _ _ _ h hP hD hS (lv_sub hl [0, 1, 3] rfl)
set_option maxHeartbeats 4000000 in
set_option maxRecDepth 100000 in
theorem t_X11_gifts_43 (C0 : zCx p s m meth c args RX11 cX11_gifts 5 (some .long) vs_X11_gifts) (hK : va_K (dC, dI) vwCl (x_ty cI cJ) s) (N : Nat) {Q : Int64 → zSt → Prop} : ∀ (f : Nat) (x1 : Int32) (x2 : Int64) (x4 : Int32) (σ : zSt) (H : Heap) (locs : List Loc) (ls : Array Slot), w_X11_gifts_43 N  Q f x1 x2 x4 σ → va_P (dC, dI) vwCl (x_W ad cI cJ σ) H → va_D (zAW x_n ad s.heap.size) (x_W ad cI cJ σ) → va_S (zAW x_n ad s.heap.size) s.heap H locs → lv_has ls 5 [(0, .ref (ad 0)), (1, .int x1), (2, .long x2), (4, .int x4)] → W p l e rm_X11_gifts s m args below meth c H locs 0 0 (MQ below (zQl (dC, dI) (x_ty cI cJ) (x_W ad cI cJ) (zAW x_n ad s.heap.size) Q) args s 0 0 (zAW x_n ad s.heap.size)) (F0 m 43 ls []) := by
  intro f
  induction f with
  | zero => intro x1 x2 x4 σ H locs ls h; exact h.elim
  | succ f ih =>
    intro x1 x2 x4 σ H locs ls h hP hD hS hl
    exact tb_X11_gifts_43 C0 hK N  (k_43 := w_X11_gifts_43 N  Q f) ih x1 x2 x4 σ H locs ls h hP hD hS hl
set_option maxHeartbeats 4000000 in
set_option maxRecDepth 100000 in
theorem t_X11_gifts_0 (C0 : zCx p s m meth c args RX11 cX11_gifts 5 (some .long) vs_X11_gifts) (hK : va_K (dC, dI) vwCl (x_ty cI cJ) s) (N : Nat) {Q : Int64 → zSt → Prop} : ∀ (x1 : Int32) (σ : zSt) (H : Heap) (locs : List Loc) (ls : Array Slot), w_X11_gifts N x1 σ Q → va_P (dC, dI) vwCl (x_W ad cI cJ σ) H → va_D (zAW x_n ad s.heap.size) (x_W ad cI cJ σ) → va_S (zAW x_n ad s.heap.size) s.heap H locs → lv_has ls 5 [(0, .ref (ad 0)), (1, .int x1)] → W p l e rm_X11_gifts s m args below meth c H locs 0 0 (MQ below (zQl (dC, dI) (x_ty cI cJ) (x_W ad cI cJ) (zAW x_n ad s.heap.size) Q) args s 0 0 (zAW x_n ad s.heap.size)) (F0 m 0 ls []) := by
  obtain ⟨hx, hb, hml, hr, hown, hts, hlocks⟩ := id C0
  intro x1 σ H locs ls h hP hD hS hl
  unfold w_X11_gifts at h
  refine lv_iload_n hx hb dX11_gifts_0 rfl (lv_at hl 1 rfl) ?_
  refine lv_iconst (v := (2 : Int32)) hx hb dX11_gifts_1 (by decide) ?_
  refine lv_icmp_ne (tgt := 25) hx hb dX11_gifts_2 (by decide) (fun hc => ?_) (fun hc => ?_)
  · have h := h.2 hc
    refine lv_iload_n hx hb dX11_gifts_25 rfl (lv_at hl 1 rfl) ?_
    refine lv_if_eq (tgt := 38) hx hb dX11_gifts_26 (by decide) (fun hc => ?_) (fun hc => ?_)
    · have h := h.1 hc
      refine lv_lconst (v := (0 : Int64)) hx hb dX11_gifts_38 (by decide) ?_
      refine lv_lstore_n (lv' := [(2, .long (0 : Int64)), (0, .ref (ad 0)), (1, .int x1)]) hx hb dX11_gifts_39 rfl hl (by decide) rfl (fun ls hl => ?_)
      refine lv_iconst (v := (0 : Int32)) hx hb dX11_gifts_40 (by decide) ?_
      refine lv_istore (lv' := [(4, .int (0 : Int32)), (2, .long (0 : Int64)), (0, .ref (ad 0)), (1, .int x1)]) hx hb dX11_gifts_41 hl (by decide) rfl (fun ls hl => ?_)
      exact t_X11_gifts_43 C0 hK N  N x1 (0 : Int64) (0 : Int32) σ _ _ _ h hP hD hS (lv_sub hl [2, 3, 1, 0] rfl)
    · have h := h.2 hc
      refine lv_iload_n hx hb dX11_gifts_29 rfl (lv_at hl 1 rfl) ?_
      refine lv_iconst (v := (1 : Int32)) hx hb dX11_gifts_30 (by decide) ?_
      refine lv_icmp_eq (tgt := 38) hx hb dX11_gifts_31 (by decide) (fun hc => ?_) (fun hc => ?_)
      · have h := h.1 hc
        refine lv_lconst (v := (0 : Int64)) hx hb dX11_gifts_38 (by decide) ?_
        refine lv_lstore_n (lv' := [(2, .long (0 : Int64)), (0, .ref (ad 0)), (1, .int x1)]) hx hb dX11_gifts_39 rfl hl (by decide) rfl (fun ls hl => ?_)
        refine lv_iconst (v := (0 : Int32)) hx hb dX11_gifts_40 (by decide) ?_
        refine lv_istore (lv' := [(4, .int (0 : Int32)), (2, .long (0 : Int64)), (0, .ref (ad 0)), (1, .int x1)]) hx hb dX11_gifts_41 hl (by decide) rfl (fun ls hl => ?_)
        exact t_X11_gifts_43 C0 hK N  N x1 (0 : Int64) (0 : Int32) σ _ _ _ h hP hD hS (lv_sub hl [2, 3, 1, 0] rfl)
      · have h := h.2 hc
        refine lv_ldc2 (v := (-1 : Int64)) hx hb hown (hts _ (List.mem_cons_of_mem _ mw_275)) dX11_gifts_34 ?_
        exact zret_l hx hb hr hlocks hK hP hD hS h dX11_gifts_37
  · have h := h.1 hc
    refine lv_aload_n hx hb dX11_gifts_5 rfl (lv_at hl 0 rfl) ?_
    refine xg_0_6 hx hb hts hown hK hP mw_295 dX11_gifts_6 ?_
    refine lv_aload_n hx hb dX11_gifts_9 rfl (lv_at hl 0 rfl) ?_
    refine xg_0_15 hx hb hts hown hK hP mw_304 dX11_gifts_10 ?_
    refine k_X0_firstAdd N ⟨hx, hb, hml, hown, hts⟩ mw_768 ⟨Nat.le_of_ble_eq_true rfl, Nat.le_of_ble_eq_true rfl⟩ h hK hP hD hS hl.1 (rest := []) (Nat.le_of_ble_eq_true rfl) ⟨Nat.le_of_ble_eq_true rfl, Nat.le_of_ble_eq_true rfl⟩ dX11_gifts_13 (fun r1 τ2 H locs h hP hD hS => ?_)
    refine lv_if_eq (tgt := 23) hx hb dX11_gifts_16 (by decide) (fun hc => ?_) (fun hc => ?_)
    · have h := h.1 hc
      refine lv_lconst (v := (1 : Int64)) hx hb dX11_gifts_23 (by decide) ?_
      exact zret_l hx hb hr hlocks hK hP hD hS h dX11_gifts_24
    · have h := h.2 hc
      refine lv_lconst (v := (0 : Int64)) hx hb dX11_gifts_19 (by decide) ?_
      refine lv_goto (tgt := 24) hx hb dX11_gifts_20 (by decide) ?_
      exact zret_l hx hb hr hlocks hK hP hD hS h dX11_gifts_24
set_option maxHeartbeats 4000000 in
set_option maxRecDepth 100000 in
theorem c_X11_gifts (N : Nat) (l : Launch) (dC : Nat → ClassId) (dI : Nat → Nat → Nat) (ad : Nat → Nat) (cI cJ : ClassId) (sz : Nat) (σ : zSt) (x1 : Int32) (Q : Int64 → zSt → Prop) (h : w_X11_gifts N x1 σ Q) : Met l yX11_gifts vs_X11_gifts rm_X11_gifts (va_Pc [.ref (ad 0), .int x1] (zPc (dC, dI) (x_ty cI cJ) (x_W ad cI cJ) sz σ)) (zQl (dC, dI) (x_ty cI cJ) (x_W ad cI cJ) (zAW x_n ad sz) Q) 0 0 (zAW x_n ad sz) := by
  refine Met.ofW (cc := cX11_gifts) (maxL := 5) (ret := (some .long)) (by decide) rfl ?_
  intro p e s m args below meth c s₁ B hml hv
  obtain ⟨rfl, hsz, hP, hK, hD0⟩ := hv
  subst hsz
  have C0 : zCx p s m meth c _ RX11 cX11_gifts 5 (some .long) vs_X11_gifts := ⟨B.exec, B.bytes, hml, B.returns, findClass_of_methodNamed B.named, atoms_spec (ws := vs_X11_gifts) B.pre, B.notSynchronized⟩
  have hD := x_D0 (n0 := s.heap.size) hD0
  have hl := lv_entry ([.ref (ad 0), .int x1]) (n := 5) (Nat.le_of_ble_eq_true rfl)
  rw [lg_entry_eq]
  generalize (lg_sl ([.ref (ad 0), .int x1]) ++ List.replicate (5 - (lg_sl ([.ref (ad 0), .int x1])).length) Slot.unset).toArray = ls at hl ⊢
  exact t_X11_gifts_0 C0 hK N x1 σ _ _ ls h hP hD va_S.rf hl
theorem k_X11_gifts (N : Nat) {R : Room} {H : Heap} {locs : List Loc} {cells slots : Nat} {Q2 : State → Prop} {cc : ByteArray} {nL pc index : Nat} {ls : Array Slot} {rest : List Value} {own : String} {c0 : Cond} {σ : zSt} {x1 : Int32} {Q : Int64 → zSt → Prop} (S0 : CallFix p m c cc nL s args (c0 :: zT) own) (hml : Cond.methodLink own index yX11_gifts ∈ zT) (hR : rm_X11_gifts.frames + 1 ≤ R.frames ∧ 8 + (5 + 11) + rm_X11_gifts.locals ≤ R.locals) (h : w_X11_gifts N x1 σ Q) (hK : va_K (dC, dI) vwCl (x_ty cI cJ) s) (hP : va_P (dC, dI) vwCl (x_W ad cI cJ σ) H) (hD : va_D (zAW x_n ad s.heap.size) (x_W ad cI cJ σ)) (hS : va_S (zAW x_n ad s.heap.size) s.heap H locs) (hsz : ls.size = nL) (hW : (rest.map fun v => v.category).sum ≤ 8) (hcs : cells ≤ R.cells ∧ slots ≤ R.slots) (hdg : decode cc pc = .ok (.invokevirtual index, 3)) (kk : ∀ (r : Int64) (τ : zSt) (H1 : Heap) (locs1 : List Loc), Q r τ → va_P (dC, dI) vwCl (x_W ad cI cJ τ) H1 → va_D (zAW x_n ad s.heap.size) (x_W ad cI cJ τ) → va_S (zAW x_n ad s.heap.size) s.heap H1 locs1 → W p l e R s m args below meth c H1 locs1 cells slots Q2 (F0 m (pc + 3) ls (.long r :: rest))) : W p l e R s m args below meth c H locs cells slots Q2 (F0 m pc ls (.int x1 :: .ref (ad 0) :: rest)) :=
  zcv_l (T := TX11) (N' := 17) (k := 0) (ci := 11) (fs := x_f0 ad σ) [.int x1] S0 (c_X11_gifts N l dC dI ad cI cJ H.size σ x1 Q h) (cw_X11_gifts S0.2.2.2.2 hml rfl rfl hR) rfl rfl hK hP hD hS rfl hsz hW rfl hcs hdg kk
end q12
section q12
def b_X11_gift_62 (N : Nat) (Q : Int64 → zSt → Prop) (x1 : Int32) (x2 : Int32) (x3 : Int32) (σ : zSt) : Prop :=
  w_X11_giftOf N x1 x2 x3 σ (fun r1 τ2 => Q r1 τ2)
def w_X11_gift (N : Nat) (x1 : Int32) (x2 : Int32) (x3 : Int32) (σ : zSt) (Q : Int64 → zSt → Prop) : Prop :=
  (x2 < 0 → Q (-1 : Int64) σ) ∧ (¬ x2 < 0 → ((σ.1 2) ≤ x2 → Q (-1 : Int64) σ) ∧ (¬ (σ.1 2) ≤ x2 → ((lg_cmp (((σ.2.1 0) >>> (x2.toInt64 &&& 63)) &&& (1 : Int64)) (0 : Int64)) = 0 → Q (-1 : Int64) σ) ∧ (¬ (lg_cmp (((σ.2.1 0) >>> (x2.toInt64 &&& 63)) &&& (1 : Int64)) (0 : Int64)) = 0 → (vp_in x2 45) ∧ ((x1 = (σ.2.2.1 3 x2.toNatClampNeg) → b_X11_gift_62 N Q x1 x2 x3 σ) ∧ (¬ x1 = (σ.2.2.1 3 x2.toNatClampNeg) → (vp_in x2 45) ∧ ((x1 = (σ.2.2.1 4 x2.toNatClampNeg) → b_X11_gift_62 N Q x1 x2 x3 σ) ∧ (¬ x1 = (σ.2.2.1 4 x2.toNatClampNeg) → Q (-1 : Int64) σ)))))))
variable {p : Program} {l : Launch} {e : Env} {s : State} {m : MethodId} {args : Array Value} {below : List Frame} {meth : Method} {c : Code} {dC : Nat → ClassId} {dI : Nat → Nat → Nat} {ad : Nat → Nat} {cI cJ : ClassId}
set_option maxHeartbeats 4000000 in
set_option maxRecDepth 100000 in
theorem t_X11_gift_62 (C0 : zCx p s m meth c args RX11 cX11_gift 4 (some .long) vs_X11_gift) (hK : va_K (dC, dI) vwCl (x_ty cI cJ) s) (N : Nat) {Q : Int64 → zSt → Prop} : ∀ (x1 : Int32) (x2 : Int32) (x3 : Int32) (σ : zSt) (H : Heap) (locs : List Loc) (ls : Array Slot), b_X11_gift_62 N  Q x1 x2 x3 σ → va_P (dC, dI) vwCl (x_W ad cI cJ σ) H → va_D (zAW x_n ad s.heap.size) (x_W ad cI cJ σ) → va_S (zAW x_n ad s.heap.size) s.heap H locs → lv_has ls 4 [(0, .ref (ad 0)), (1, .int x1), (2, .int x2), (3, .int x3)] → W p l e rm_X11_gift s m args below meth c H locs 0 0 (MQ below (zQl (dC, dI) (x_ty cI cJ) (x_W ad cI cJ) (zAW x_n ad s.heap.size) Q) args s 0 0 (zAW x_n ad s.heap.size)) (F0 m 62 ls []) := by
  obtain ⟨hx, hb, hml, hr, hown, hts, hlocks⟩ := id C0
  intro x1 x2 x3 σ H locs ls h hP hD hS hl
  unfold b_X11_gift_62 at h
  refine lv_aload_n hx hb dX11_gift_62 rfl (lv_at hl 0 rfl) ?_
  refine lv_iload_n hx hb dX11_gift_63 rfl (lv_at hl 1 rfl) ?_
  refine lv_iload_n hx hb dX11_gift_64 rfl (lv_at hl 2 rfl) ?_
  refine lv_iload_n hx hb dX11_gift_65 rfl (lv_at hl 3 rfl) ?_
  refine k_X11_giftOf N ⟨hx, hb, hml, hown, hts⟩ mw_769 ⟨Nat.le_of_ble_eq_true rfl, Nat.le_of_ble_eq_true rfl⟩ h hK hP hD hS hl.1 (rest := []) (Nat.le_of_ble_eq_true rfl) ⟨Nat.le_of_ble_eq_true rfl, Nat.le_of_ble_eq_true rfl⟩ dX11_gift_66 (fun r1 τ2 H locs h hP hD hS => ?_)
  exact zret_l hx hb hr hlocks hK hP hD hS h dX11_gift_69
set_option maxHeartbeats 4000000 in
set_option maxRecDepth 100000 in
theorem t_X11_gift_0 (C0 : zCx p s m meth c args RX11 cX11_gift 4 (some .long) vs_X11_gift) (hK : va_K (dC, dI) vwCl (x_ty cI cJ) s) (N : Nat) {Q : Int64 → zSt → Prop} : ∀ (x1 : Int32) (x2 : Int32) (x3 : Int32) (σ : zSt) (H : Heap) (locs : List Loc) (ls : Array Slot), w_X11_gift N x1 x2 x3 σ Q → va_P (dC, dI) vwCl (x_W ad cI cJ σ) H → va_D (zAW x_n ad s.heap.size) (x_W ad cI cJ σ) → va_S (zAW x_n ad s.heap.size) s.heap H locs → lv_has ls 4 [(0, .ref (ad 0)), (1, .int x1), (2, .int x2), (3, .int x3)] → W p l e rm_X11_gift s m args below meth c H locs 0 0 (MQ below (zQl (dC, dI) (x_ty cI cJ) (x_W ad cI cJ) (zAW x_n ad s.heap.size) Q) args s 0 0 (zAW x_n ad s.heap.size)) (F0 m 0 ls []) := by
  obtain ⟨hx, hb, hml, hr, hown, hts, hlocks⟩ := id C0
  intro x1 x2 x3 σ H locs ls h hP hD hS hl
  unfold w_X11_gift at h
  refine lv_iload_n hx hb dX11_gift_0 rfl (lv_at hl 2 rfl) ?_
  refine lv_if_lt (tgt := 28) hx hb dX11_gift_1 (by decide) (fun hc => ?_) (fun hc => ?_)
  · have h := h.1 hc
    refine lv_ldc2 (v := (-1 : Int64)) hx hb hown (hts _ (List.mem_cons_of_mem _ mw_275)) dX11_gift_28 ?_
    exact zret_l hx hb hr hlocks hK hP hD hS h dX11_gift_31
  · have h := h.2 hc
    refine lv_iload_n hx hb dX11_gift_4 rfl (lv_at hl 2 rfl) ?_
    refine lv_aload_n hx hb dX11_gift_5 rfl (lv_at hl 0 rfl) ?_
    refine xg_0_2 hx hb hts hown hK hP mw_291 dX11_gift_6 ?_
    refine xg_3_5 hx hb hts hown hK hP mw_81 dX11_gift_9 ?_
    refine lv_icmp_ge (tgt := 28) hx hb dX11_gift_12 (by decide) (fun hc => ?_) (fun hc => ?_)
    · have h := h.1 hc
      refine lv_ldc2 (v := (-1 : Int64)) hx hb hown (hts _ (List.mem_cons_of_mem _ mw_275)) dX11_gift_28 ?_
      exact zret_l hx hb hr hlocks hK hP hD hS h dX11_gift_31
    · have h := h.2 hc
      refine lv_aload_n hx hb dX11_gift_15 rfl (lv_at hl 0 rfl) ?_
      refine xg_0_15 hx hb hts hown hK hP mw_304 dX11_gift_16 ?_
      refine lv_iload_n hx hb dX11_gift_19 rfl (lv_at hl 2 rfl) ?_
      refine lv_lshr hx hb dX11_gift_20 rfl ?_
      refine lv_lconst (v := (1 : Int64)) hx hb dX11_gift_21 (by decide) ?_
      refine lv_land hx hb dX11_gift_22 ?_
      refine lv_lconst (v := (0 : Int64)) hx hb dX11_gift_23 (by decide) ?_
      refine W.lcmp hx hb dX11_gift_24 ?_
      refine lv_if_ne (tgt := 32) hx hb dX11_gift_25 (by decide) (fun hc => ?_) (fun hc => ?_)
      · have h := h.2 hc
        refine lv_iload_n hx hb dX11_gift_32 rfl (lv_at hl 1 rfl) ?_
        refine lv_aload_n hx hb dX11_gift_33 rfl (lv_at hl 0 rfl) ?_
        refine xg_0_1 hx hb hts hown hK hP mw_290 dX11_gift_34 ?_
        refine xg_2_0 hx hb hts hown hK hP mw_48 dX11_gift_37 ?_
        refine lv_iload_n hx hb dX11_gift_40 rfl (lv_at hl 2 rfl) ?_
        refine xa_20 hx hb hK hP h.1 rfl dX11_gift_41 ?_
        have h := h.2
        refine lv_icmp_eq (tgt := 62) hx hb dX11_gift_42 (by decide) (fun hc => ?_) (fun hc => ?_)
        · have h := h.1 hc
          exact t_X11_gift_62 C0 hK N  x1 x2 x3 σ _ _ _ h hP hD hS (lv_sub hl [0, 1, 2, 3] rfl)
        · have h := h.2 hc
          refine lv_iload_n hx hb dX11_gift_45 rfl (lv_at hl 1 rfl) ?_
          refine lv_aload_n hx hb dX11_gift_46 rfl (lv_at hl 0 rfl) ?_
          refine xg_0_1 hx hb hts hown hK hP mw_290 dX11_gift_47 ?_
          refine xg_2_1 hx hb hts hown hK hP mw_52 dX11_gift_50 ?_
          refine lv_iload_n hx hb dX11_gift_53 rfl (lv_at hl 2 rfl) ?_
          refine xa_21 hx hb hK hP h.1 rfl dX11_gift_54 ?_
          have h := h.2
          refine lv_icmp_eq (tgt := 62) hx hb dX11_gift_55 (by decide) (fun hc => ?_) (fun hc => ?_)
          · have h := h.1 hc
            exact t_X11_gift_62 C0 hK N  x1 x2 x3 σ _ _ _ h hP hD hS (lv_sub hl [0, 1, 2, 3] rfl)
          · have h := h.2 hc
            refine lv_ldc2 (v := (-1 : Int64)) hx hb hown (hts _ (List.mem_cons_of_mem _ mw_275)) dX11_gift_58 ?_
            exact zret_l hx hb hr hlocks hK hP hD hS h dX11_gift_61
      · have h := h.1 hc
        refine lv_ldc2 (v := (-1 : Int64)) hx hb hown (hts _ (List.mem_cons_of_mem _ mw_275)) dX11_gift_28 ?_
        exact zret_l hx hb hr hlocks hK hP hD hS h dX11_gift_31
set_option maxHeartbeats 4000000 in
set_option maxRecDepth 100000 in
theorem c_X11_gift (N : Nat) (l : Launch) (dC : Nat → ClassId) (dI : Nat → Nat → Nat) (ad : Nat → Nat) (cI cJ : ClassId) (sz : Nat) (σ : zSt) (x1 : Int32) (x2 : Int32) (x3 : Int32) (Q : Int64 → zSt → Prop) (h : w_X11_gift N x1 x2 x3 σ Q) : Met l yX11_gift vs_X11_gift rm_X11_gift (va_Pc [.ref (ad 0), .int x1, .int x2, .int x3] (zPc (dC, dI) (x_ty cI cJ) (x_W ad cI cJ) sz σ)) (zQl (dC, dI) (x_ty cI cJ) (x_W ad cI cJ) (zAW x_n ad sz) Q) 0 0 (zAW x_n ad sz) := by
  refine Met.ofW (cc := cX11_gift) (maxL := 4) (ret := (some .long)) (by decide) rfl ?_
  intro p e s m args below meth c s₁ B hml hv
  obtain ⟨rfl, hsz, hP, hK, hD0⟩ := hv
  subst hsz
  have C0 : zCx p s m meth c _ RX11 cX11_gift 4 (some .long) vs_X11_gift := ⟨B.exec, B.bytes, hml, B.returns, findClass_of_methodNamed B.named, atoms_spec (ws := vs_X11_gift) B.pre, B.notSynchronized⟩
  have hD := x_D0 (n0 := s.heap.size) hD0
  have hl := lv_entry ([.ref (ad 0), .int x1, .int x2, .int x3]) (n := 4) (Nat.le_of_ble_eq_true rfl)
  rw [lg_entry_eq]
  generalize (lg_sl ([.ref (ad 0), .int x1, .int x2, .int x3]) ++ List.replicate (4 - (lg_sl ([.ref (ad 0), .int x1, .int x2, .int x3])).length) Slot.unset).toArray = ls at hl ⊢
  exact t_X11_gift_0 C0 hK N x1 x2 x3 σ _ _ ls h hP hD va_S.rf hl
theorem k_X11_gift (N : Nat) {R : Room} {H : Heap} {locs : List Loc} {cells slots : Nat} {Q2 : State → Prop} {cc : ByteArray} {nL pc index : Nat} {ls : Array Slot} {rest : List Value} {own : String} {c0 : Cond} {σ : zSt} {x1 : Int32} {x2 : Int32} {x3 : Int32} {Q : Int64 → zSt → Prop} (S0 : CallFix p m c cc nL s args (c0 :: zT) own) (hml : Cond.methodLink own index yX11_gift ∈ zT) (hR : rm_X11_gift.frames + 1 ≤ R.frames ∧ 8 + (4 + 11) + rm_X11_gift.locals ≤ R.locals) (h : w_X11_gift N x1 x2 x3 σ Q) (hK : va_K (dC, dI) vwCl (x_ty cI cJ) s) (hP : va_P (dC, dI) vwCl (x_W ad cI cJ σ) H) (hD : va_D (zAW x_n ad s.heap.size) (x_W ad cI cJ σ)) (hS : va_S (zAW x_n ad s.heap.size) s.heap H locs) (hsz : ls.size = nL) (hW : (rest.map fun v => v.category).sum ≤ 8) (hcs : cells ≤ R.cells ∧ slots ≤ R.slots) (hdg : decode cc pc = .ok (.invokevirtual index, 3)) (kk : ∀ (r : Int64) (τ : zSt) (H1 : Heap) (locs1 : List Loc), Q r τ → va_P (dC, dI) vwCl (x_W ad cI cJ τ) H1 → va_D (zAW x_n ad s.heap.size) (x_W ad cI cJ τ) → va_S (zAW x_n ad s.heap.size) s.heap H1 locs1 → W p l e R s m args below meth c H1 locs1 cells slots Q2 (F0 m (pc + 3) ls (.long r :: rest))) : W p l e R s m args below meth c H locs cells slots Q2 (F0 m pc ls (.int x3 :: .int x2 :: .int x1 :: .ref (ad 0) :: rest)) :=
  zcv_l (T := TX11) (N' := 17) (k := 0) (ci := 11) (fs := x_f0 ad σ) [.int x1, .int x2, .int x3] S0 (c_X11_gift N l dC dI ad cI cJ H.size σ x1 x2 x3 Q h) (cw_X11_gift S0.2.2.2.2 hml rfl rfl hR) rfl rfl hK hP hD hS rfl hsz hW rfl hcs hdg kk
end q12
section q12
def b_X11_good_53 (N : Nat) (k_18 : Int32 → Int64 → Int64 → Int32 → zSt → Prop) (Q : Int64 → zSt → Prop) (x1 : Int32) (x2 : Int64) (x4 : Int64) (x6 : Int32) (x7 : Int64) (s0 : Int32) (σ : zSt) : Prop :=
  (s0 = x1 → w_X4_may N ((σ.2.1 0) ^^^ x7) σ (fun r2 τ3 => (r2 = 0 → ∀ v4 : Int32, v4 = x6 + (1 : Int32) → k_18 x1 x2 x4 v4 τ3) ∧ (¬ r2 = 0 → w_X10_inAll N ((τ3.2.1 0) ^^^ x7) τ3 (fun r5 τ6 => ((lg_cmp r5 x4) ≤ 0 → ∀ v7 : Int32, v7 = x6 + (1 : Int32) → k_18 x1 x2 x4 v7 τ6) ∧ (¬ (lg_cmp r5 x4) ≤ 0 → w_X0_moves N (τ6.2.1 0) x6 τ6 (fun r8 τ9 => (r8 = 0 → ∀ v11 : Int64, v11 = x2 ||| x7 → ∀ v12 : Int32, v12 = x6 + (1 : Int32) → k_18 x1 v11 x4 v12 τ9) ∧ (¬ r8 = 0 → ∀ v10 : Int32, v10 = x6 + (1 : Int32) → k_18 x1 x2 x4 v10 τ9))))))) ∧ (¬ s0 = x1 → ∀ v1 : Int32, v1 = x6 + (1 : Int32) → k_18 x1 x2 x4 v1 σ)
def b_X11_good_18 (N : Nat) (k_18 : Int32 → Int64 → Int64 → Int32 → zSt → Prop) (Q : Int64 → zSt → Prop) (x1 : Int32) (x2 : Int64) (x4 : Int64) (x6 : Int32) (σ : zSt) : Prop :=
  ((σ.1 2) ≤ x6 → Q x2 σ) ∧ (¬ (σ.1 2) ≤ x6 → ∀ v1 : Int64, v1 = (1 : Int64) <<< (x6.toInt64 &&& 63) → ((lg_cmp ((σ.2.1 0) &&& v1) (0 : Int64)) = 0 → b_X11_good_53 N k_18 Q x1 x2 x4 x6 v1 (0 : Int32) σ) ∧ (¬ (lg_cmp ((σ.2.1 0) &&& v1) (0 : Int64)) = 0 → b_X11_good_53 N k_18 Q x1 x2 x4 x6 v1 (1 : Int32) σ))
def w_X11_good_18 (N : Nat) (Q : Int64 → zSt → Prop) : Nat → Int32 → Int64 → Int64 → Int32 → zSt → Prop
  | 0 => fun _ _ _ _ _ => False
  | f + 1 => b_X11_good_18 N (w_X11_good_18 N  Q f) Q
def w_X11_good (N : Nat) (x1 : Int32) (σ : zSt) (Q : Int64 → zSt → Prop) : Prop :=
  w_X10_inAll N (σ.2.1 0) σ (fun r1 τ2 => w_X11_good_18 N Q N x1 (0 : Int64) r1 (0 : Int32) τ2)
variable {p : Program} {l : Launch} {e : Env} {s : State} {m : MethodId} {args : Array Value} {below : List Frame} {meth : Method} {c : Code} {dC : Nat → ClassId} {dI : Nat → Nat → Nat} {ad : Nat → Nat} {cI cJ : ClassId}
set_option maxHeartbeats 4000000 in
set_option maxRecDepth 100000 in
theorem t_X11_good_53 (C0 : zCx p s m meth c args RX11 cX11_good 10 (some .long) vs_X11_good) (hK : va_K (dC, dI) vwCl (x_ty cI cJ) s) (N : Nat) {Q : Int64 → zSt → Prop} {k_18 : Int32 → Int64 → Int64 → Int32 → zSt → Prop} (hk_18 : ∀ (x1 : Int32) (x2 : Int64) (x4 : Int64) (x6 : Int32) (σ : zSt) (H : Heap) (locs : List Loc) (ls : Array Slot), k_18 x1 x2 x4 x6 σ → va_P (dC, dI) vwCl (x_W ad cI cJ σ) H → va_D (zAW x_n ad s.heap.size) (x_W ad cI cJ σ) → va_S (zAW x_n ad s.heap.size) s.heap H locs → lv_has ls 10 [(0, .ref (ad 0)), (1, .int x1), (2, .long x2), (4, .long x4), (6, .int x6)] → W p l e rm_X11_good s m args below meth c H locs 0 0 (MQ below (zQl (dC, dI) (x_ty cI cJ) (x_W ad cI cJ) (zAW x_n ad s.heap.size) Q) args s 0 0 (zAW x_n ad s.heap.size)) (F0 m 18 ls [])) : ∀ (x1 : Int32) (x2 : Int64) (x4 : Int64) (x6 : Int32) (x7 : Int64) (s0 : Int32) (σ : zSt) (H : Heap) (locs : List Loc) (ls : Array Slot), b_X11_good_53 N k_18 Q x1 x2 x4 x6 x7 s0 σ → va_P (dC, dI) vwCl (x_W ad cI cJ σ) H → va_D (zAW x_n ad s.heap.size) (x_W ad cI cJ σ) → va_S (zAW x_n ad s.heap.size) s.heap H locs → lv_has ls 10 [(0, .ref (ad 0)), (1, .int x1), (2, .long x2), (4, .long x4), (6, .int x6), (7, .long x7)] → W p l e rm_X11_good s m args below meth c H locs 0 0 (MQ below (zQl (dC, dI) (x_ty cI cJ) (x_W ad cI cJ) (zAW x_n ad s.heap.size) Q) args s 0 0 (zAW x_n ad s.heap.size)) (F0 m 53 ls [.int s0]) := by
  obtain ⟨hx, hb, hml, hr, hown, hts, hlocks⟩ := id C0
  intro x1 x2 x4 x6 x7 s0 σ H locs ls h hP hD hS hl
  unfold b_X11_good_53 at h
  refine lv_istore (lv' := [(9, .int s0), (0, .ref (ad 0)), (1, .int x1), (2, .long x2), (4, .long x4), (6, .int x6), (7, .long x7)]) hx hb dX11_good_53 hl (by decide) rfl (fun ls hl => ?_)
  refine lv_iload hx hb dX11_good_55 (lv_at hl 0 rfl) ?_
  refine lv_iload_n hx hb dX11_good_57 rfl (lv_at hl 2 rfl) ?_
  refine lv_icmp_ne (tgt := 119) hx hb dX11_good_58 (by decide) (fun hc => ?_) (fun hc => ?_)
  · have h := h.2 hc
    obtain ⟨v1, ev1⟩ : ∃ z : Int32, z = x6 + (1 : Int32) := ⟨_, rfl⟩
    have h := h v1 ev1
    refine lv_iinc (v := v1) (lv' := [(6, .int v1), (9, .int s0), (0, .ref (ad 0)), (1, .int x1), (2, .long x2), (4, .long x4), (7, .long x7)]) hx hb dX11_good_119 hl (k := 5) rfl (by rw [ev1]; rfl) (by decide) rfl (fun ls hl => ?_)
    refine lv_goto (tgt := 18) hx hb dX11_good_122 (by decide) ?_
    exact hk_18 x1 x2 x4 v1 σ _ _ _ h hP hD hS (lv_sub hl [2, 3, 4, 5, 0] rfl)
  · have h := h.1 hc
    refine lv_aload_n hx hb dX11_good_61 rfl (lv_at hl 1 rfl) ?_
    refine xg_0_2 hx hb hts hown hK hP mw_291 dX11_good_62 ?_
    refine lv_aload_n hx hb dX11_good_65 rfl (lv_at hl 1 rfl) ?_
    refine xg_0_15 hx hb hts hown hK hP mw_304 dX11_good_66 ?_
    refine lv_lload hx hb dX11_good_69 (lv_at hl 6 rfl) ?_
    refine lv_lxor hx hb dX11_good_71 ?_
    refine k_X4_may N ⟨hx, hb, hml, hown, hts⟩ mw_500 ⟨Nat.le_of_ble_eq_true rfl, Nat.le_of_ble_eq_true rfl⟩ h hK hP hD hS hl.1 (rest := []) (Nat.le_of_ble_eq_true rfl) ⟨Nat.le_of_ble_eq_true rfl, Nat.le_of_ble_eq_true rfl⟩ dX11_good_72 (fun r2 τ3 H locs h hP hD hS => ?_)
    refine lv_if_eq (tgt := 119) hx hb dX11_good_75 (by decide) (fun hc => ?_) (fun hc => ?_)
    · have h := h.1 hc
      obtain ⟨v4, ev4⟩ : ∃ z : Int32, z = x6 + (1 : Int32) := ⟨_, rfl⟩
      have h := h v4 ev4
      refine lv_iinc (v := v4) (lv' := [(6, .int v4), (9, .int s0), (0, .ref (ad 0)), (1, .int x1), (2, .long x2), (4, .long x4), (7, .long x7)]) hx hb dX11_good_119 hl (k := 5) rfl (by rw [ev4]; rfl) (by decide) rfl (fun ls hl => ?_)
      refine lv_goto (tgt := 18) hx hb dX11_good_122 (by decide) ?_
      exact hk_18 x1 x2 x4 v4 τ3 _ _ _ h hP hD hS (lv_sub hl [2, 3, 4, 5, 0] rfl)
    · have h := h.2 hc
      refine lv_aload_n hx hb dX11_good_78 rfl (lv_at hl 1 rfl) ?_
      refine xg_0_5 hx hb hts hown hK hP mw_294 dX11_good_79 ?_
      refine lv_aload_n hx hb dX11_good_82 rfl (lv_at hl 1 rfl) ?_
      refine xg_0_15 hx hb hts hown hK hP mw_304 dX11_good_83 ?_
      refine lv_lload hx hb dX11_good_86 (lv_at hl 6 rfl) ?_
      refine lv_lxor hx hb dX11_good_88 ?_
      refine k_X10_inAll N ⟨hx, hb, hml, hown, hts⟩ mw_538 ⟨Nat.le_of_ble_eq_true rfl, Nat.le_of_ble_eq_true rfl⟩ h hK hP hD hS hl.1 (rest := []) (Nat.le_of_ble_eq_true rfl) ⟨Nat.le_of_ble_eq_true rfl, Nat.le_of_ble_eq_true rfl⟩ dX11_good_89 (fun r5 τ6 H locs h hP hD hS => ?_)
      refine lv_lload hx hb dX11_good_92 (lv_at hl 4 rfl) ?_
      refine W.lcmp hx hb dX11_good_94 ?_
      refine lv_if_le (tgt := 119) hx hb dX11_good_95 (by decide) (fun hc => ?_) (fun hc => ?_)
      · have h := h.1 hc
        obtain ⟨v7, ev7⟩ : ∃ z : Int32, z = x6 + (1 : Int32) := ⟨_, rfl⟩
        have h := h v7 ev7
        refine lv_iinc (v := v7) (lv' := [(6, .int v7), (9, .int s0), (0, .ref (ad 0)), (1, .int x1), (2, .long x2), (4, .long x4), (7, .long x7)]) hx hb dX11_good_119 hl (k := 5) rfl (by rw [ev7]; rfl) (by decide) rfl (fun ls hl => ?_)
        refine lv_goto (tgt := 18) hx hb dX11_good_122 (by decide) ?_
        exact hk_18 x1 x2 x4 v7 τ6 _ _ _ h hP hD hS (lv_sub hl [2, 3, 4, 5, 0] rfl)
      · have h := h.2 hc
        refine lv_aload_n hx hb dX11_good_98 rfl (lv_at hl 1 rfl) ?_
        refine xg_0_6 hx hb hts hown hK hP mw_295 dX11_good_99 ?_
        refine lv_aload_n hx hb dX11_good_102 rfl (lv_at hl 1 rfl) ?_
        refine xg_0_15 hx hb hts hown hK hP mw_304 dX11_good_103 ?_
        refine lv_iload hx hb dX11_good_106 (lv_at hl 5 rfl) ?_
        refine k_X0_moves N ⟨hx, hb, hml, hown, hts⟩ mw_758 ⟨Nat.le_of_ble_eq_true rfl, Nat.le_of_ble_eq_true rfl⟩ h hK hP hD hS hl.1 (rest := []) (Nat.le_of_ble_eq_true rfl) ⟨Nat.le_of_ble_eq_true rfl, Nat.le_of_ble_eq_true rfl⟩ dX11_good_108 (fun r8 τ9 H locs h hP hD hS => ?_)
        refine lv_if_ne (tgt := 119) hx hb dX11_good_111 (by decide) (fun hc => ?_) (fun hc => ?_)
        · have h := h.2 hc
          obtain ⟨v10, ev10⟩ : ∃ z : Int32, z = x6 + (1 : Int32) := ⟨_, rfl⟩
          have h := h v10 ev10
          refine lv_iinc (v := v10) (lv' := [(6, .int v10), (9, .int s0), (0, .ref (ad 0)), (1, .int x1), (2, .long x2), (4, .long x4), (7, .long x7)]) hx hb dX11_good_119 hl (k := 5) rfl (by rw [ev10]; rfl) (by decide) rfl (fun ls hl => ?_)
          refine lv_goto (tgt := 18) hx hb dX11_good_122 (by decide) ?_
          exact hk_18 x1 x2 x4 v10 τ9 _ _ _ h hP hD hS (lv_sub hl [2, 3, 4, 5, 0] rfl)
        · have h := h.1 hc
          refine lv_lload_n hx hb dX11_good_114 rfl (lv_at hl 3 rfl) ?_
          refine lv_lload hx hb dX11_good_115 (lv_at hl 6 rfl) ?_
          refine lv_lor hx hb dX11_good_117 ?_
          refine lv_topl (fun v11 ev11 => ?_)
          have h := h v11 ev11
          refine lv_lstore_n (lv' := [(2, .long v11), (9, .int s0), (0, .ref (ad 0)), (1, .int x1), (4, .long x4), (6, .int x6), (7, .long x7)]) hx hb dX11_good_118 rfl hl (by decide) rfl (fun ls hl => ?_)
          obtain ⟨v12, ev12⟩ : ∃ z : Int32, z = x6 + (1 : Int32) := ⟨_, rfl⟩
          have h := h v12 ev12
          refine lv_iinc (v := v12) (lv' := [(6, .int v12), (2, .long v11), (9, .int s0), (0, .ref (ad 0)), (1, .int x1), (4, .long x4), (7, .long x7)]) hx hb dX11_good_119 hl (k := 5) rfl (by rw [ev12]; rfl) (by decide) rfl (fun ls hl => ?_)
          refine lv_goto (tgt := 18) hx hb dX11_good_122 (by decide) ?_
          exact hk_18 x1 v11 x4 v12 τ9 _ _ _ h hP hD hS (lv_sub hl [3, 4, 1, 5, 0] rfl)
set_option maxHeartbeats 4000000 in
set_option maxRecDepth 100000 in
theorem tb_X11_good_18 (C0 : zCx p s m meth c args RX11 cX11_good 10 (some .long) vs_X11_good) (hK : va_K (dC, dI) vwCl (x_ty cI cJ) s) (N : Nat) {Q : Int64 → zSt → Prop} {k_18 : Int32 → Int64 → Int64 → Int32 → zSt → Prop} (hk_18 : ∀ (x1 : Int32) (x2 : Int64) (x4 : Int64) (x6 : Int32) (σ : zSt) (H : Heap) (locs : List Loc) (ls : Array Slot), k_18 x1 x2 x4 x6 σ → va_P (dC, dI) vwCl (x_W ad cI cJ σ) H → va_D (zAW x_n ad s.heap.size) (x_W ad cI cJ σ) → va_S (zAW x_n ad s.heap.size) s.heap H locs → lv_has ls 10 [(0, .ref (ad 0)), (1, .int x1), (2, .long x2), (4, .long x4), (6, .int x6)] → W p l e rm_X11_good s m args below meth c H locs 0 0 (MQ below (zQl (dC, dI) (x_ty cI cJ) (x_W ad cI cJ) (zAW x_n ad s.heap.size) Q) args s 0 0 (zAW x_n ad s.heap.size)) (F0 m 18 ls [])) : ∀ (x1 : Int32) (x2 : Int64) (x4 : Int64) (x6 : Int32) (σ : zSt) (H : Heap) (locs : List Loc) (ls : Array Slot), b_X11_good_18 N k_18 Q x1 x2 x4 x6 σ → va_P (dC, dI) vwCl (x_W ad cI cJ σ) H → va_D (zAW x_n ad s.heap.size) (x_W ad cI cJ σ) → va_S (zAW x_n ad s.heap.size) s.heap H locs → lv_has ls 10 [(0, .ref (ad 0)), (1, .int x1), (2, .long x2), (4, .long x4), (6, .int x6)] → W p l e rm_X11_good s m args below meth c H locs 0 0 (MQ below (zQl (dC, dI) (x_ty cI cJ) (x_W ad cI cJ) (zAW x_n ad s.heap.size) Q) args s 0 0 (zAW x_n ad s.heap.size)) (F0 m 18 ls []) := by
  obtain ⟨hx, hb, hml, hr, hown, hts, hlocks⟩ := id C0
  intro x1 x2 x4 x6 σ H locs ls h hP hD hS hl
  unfold b_X11_good_18 at h
  refine lv_iload hx hb dX11_good_18 (lv_at hl 4 rfl) ?_
  refine lv_aload_n hx hb dX11_good_20 rfl (lv_at hl 0 rfl) ?_
  refine xg_0_2 hx hb hts hown hK hP mw_291 dX11_good_21 ?_
  refine xg_3_5 hx hb hts hown hK hP mw_81 dX11_good_24 ?_
  refine lv_icmp_ge (tgt := 125) hx hb dX11_good_27 (by decide) (fun hc => ?_) (fun hc => ?_)
  · have h := h.1 hc
    refine lv_lload_n hx hb dX11_good_125 rfl (lv_at hl 2 rfl) ?_
    exact zret_l hx hb hr hlocks hK hP hD hS h dX11_good_126
  · have h := h.2 hc
    refine lv_lconst (v := (1 : Int64)) hx hb dX11_good_30 (by decide) ?_
    refine lv_iload hx hb dX11_good_31 (lv_at hl 4 rfl) ?_
    refine lv_lshl hx hb dX11_good_33 rfl ?_
    refine lv_topl (fun v1 ev1 => ?_)
    have h := h v1 ev1
    refine lv_lstore (lv' := [(7, .long v1), (0, .ref (ad 0)), (1, .int x1), (2, .long x2), (4, .long x4), (6, .int x6)]) hx hb dX11_good_34 hl (by decide) rfl (fun ls hl => ?_)
    refine lv_aload_n hx hb dX11_good_36 rfl (lv_at hl 1 rfl) ?_
    refine xg_0_15 hx hb hts hown hK hP mw_304 dX11_good_37 ?_
    refine lv_lload hx hb dX11_good_40 (lv_at hl 0 rfl) ?_
    refine lv_land hx hb dX11_good_42 ?_
    refine lv_lconst (v := (0 : Int64)) hx hb dX11_good_43 (by decide) ?_
    refine W.lcmp hx hb dX11_good_44 ?_
    refine lv_if_eq (tgt := 52) hx hb dX11_good_45 (by decide) (fun hc => ?_) (fun hc => ?_)
    · have h := h.1 hc
      refine lv_iconst (v := (0 : Int32)) hx hb dX11_good_52 (by decide) ?_
      exact t_X11_good_53 C0 hK N hk_18 x1 x2 x4 x6 v1 (0 : Int32) σ _ _ _ h hP hD hS (lv_sub hl [1, 2, 3, 4, 5, 0] rfl)
    · have h := h.2 hc
      refine lv_iconst (v := (1 : Int32)) hx hb dX11_good_48 (by decide) ?_
      refine lv_goto (tgt := 53) hx hb dX11_good_49 (by decide) ?_
      exact t_X11_good_53 C0 hK N hk_18 x1 x2 x4 x6 v1 (1 : Int32) σ _ _ _ h hP hD hS (lv_sub hl [1, 2, 3, 4, 5, 0] rfl)
set_option maxHeartbeats 4000000 in
set_option maxRecDepth 100000 in
theorem t_X11_good_18 (C0 : zCx p s m meth c args RX11 cX11_good 10 (some .long) vs_X11_good) (hK : va_K (dC, dI) vwCl (x_ty cI cJ) s) (N : Nat) {Q : Int64 → zSt → Prop} : ∀ (f : Nat) (x1 : Int32) (x2 : Int64) (x4 : Int64) (x6 : Int32) (σ : zSt) (H : Heap) (locs : List Loc) (ls : Array Slot), w_X11_good_18 N  Q f x1 x2 x4 x6 σ → va_P (dC, dI) vwCl (x_W ad cI cJ σ) H → va_D (zAW x_n ad s.heap.size) (x_W ad cI cJ σ) → va_S (zAW x_n ad s.heap.size) s.heap H locs → lv_has ls 10 [(0, .ref (ad 0)), (1, .int x1), (2, .long x2), (4, .long x4), (6, .int x6)] → W p l e rm_X11_good s m args below meth c H locs 0 0 (MQ below (zQl (dC, dI) (x_ty cI cJ) (x_W ad cI cJ) (zAW x_n ad s.heap.size) Q) args s 0 0 (zAW x_n ad s.heap.size)) (F0 m 18 ls []) := by
  intro f
  induction f with
  | zero => intro x1 x2 x4 x6 σ H locs ls h; exact h.elim
  | succ f ih =>
    intro x1 x2 x4 x6 σ H locs ls h hP hD hS hl
    exact tb_X11_good_18 C0 hK N  (k_18 := w_X11_good_18 N  Q f) ih x1 x2 x4 x6 σ H locs ls h hP hD hS hl
set_option maxHeartbeats 4000000 in
set_option maxRecDepth 100000 in
theorem t_X11_good_0 (C0 : zCx p s m meth c args RX11 cX11_good 10 (some .long) vs_X11_good) (hK : va_K (dC, dI) vwCl (x_ty cI cJ) s) (N : Nat) {Q : Int64 → zSt → Prop} : ∀ (x1 : Int32) (σ : zSt) (H : Heap) (locs : List Loc) (ls : Array Slot), w_X11_good N x1 σ Q → va_P (dC, dI) vwCl (x_W ad cI cJ σ) H → va_D (zAW x_n ad s.heap.size) (x_W ad cI cJ σ) → va_S (zAW x_n ad s.heap.size) s.heap H locs → lv_has ls 10 [(0, .ref (ad 0)), (1, .int x1)] → W p l e rm_X11_good s m args below meth c H locs 0 0 (MQ below (zQl (dC, dI) (x_ty cI cJ) (x_W ad cI cJ) (zAW x_n ad s.heap.size) Q) args s 0 0 (zAW x_n ad s.heap.size)) (F0 m 0 ls []) := by
  obtain ⟨hx, hb, hml, hr, hown, hts, hlocks⟩ := id C0
  intro x1 σ H locs ls h hP hD hS hl
  unfold w_X11_good at h
  refine lv_lconst (v := (0 : Int64)) hx hb dX11_good_0 (by decide) ?_
  refine lv_lstore_n (lv' := [(2, .long (0 : Int64)), (0, .ref (ad 0)), (1, .int x1)]) hx hb dX11_good_1 rfl hl (by decide) rfl (fun ls hl => ?_)
  refine lv_aload_n hx hb dX11_good_2 rfl (lv_at hl 1 rfl) ?_
  refine xg_0_5 hx hb hts hown hK hP mw_294 dX11_good_3 ?_
  refine lv_aload_n hx hb dX11_good_6 rfl (lv_at hl 1 rfl) ?_
  refine xg_0_15 hx hb hts hown hK hP mw_304 dX11_good_7 ?_
  refine k_X10_inAll N ⟨hx, hb, hml, hown, hts⟩ mw_538 ⟨Nat.le_of_ble_eq_true rfl, Nat.le_of_ble_eq_true rfl⟩ h hK hP hD hS hl.1 (rest := []) (Nat.le_of_ble_eq_true rfl) ⟨Nat.le_of_ble_eq_true rfl, Nat.le_of_ble_eq_true rfl⟩ dX11_good_10 (fun r1 τ2 H locs h hP hD hS => ?_)
  refine lv_lstore (lv' := [(4, .long r1), (2, .long (0 : Int64)), (0, .ref (ad 0)), (1, .int x1)]) hx hb dX11_good_13 hl (by decide) rfl (fun ls hl => ?_)
  refine lv_iconst (v := (0 : Int32)) hx hb dX11_good_15 (by decide) ?_
  refine lv_istore (lv' := [(6, .int (0 : Int32)), (4, .long r1), (2, .long (0 : Int64)), (0, .ref (ad 0)), (1, .int x1)]) hx hb dX11_good_16 hl (by decide) rfl (fun ls hl => ?_)
  exact t_X11_good_18 C0 hK N  N x1 (0 : Int64) r1 (0 : Int32) τ2 _ _ _ h hP hD hS (lv_sub hl [3, 4, 2, 1, 0] rfl)
set_option maxHeartbeats 4000000 in
set_option maxRecDepth 100000 in
theorem c_X11_good (N : Nat) (l : Launch) (dC : Nat → ClassId) (dI : Nat → Nat → Nat) (ad : Nat → Nat) (cI cJ : ClassId) (sz : Nat) (σ : zSt) (x1 : Int32) (Q : Int64 → zSt → Prop) (h : w_X11_good N x1 σ Q) : Met l yX11_good vs_X11_good rm_X11_good (va_Pc [.ref (ad 0), .int x1] (zPc (dC, dI) (x_ty cI cJ) (x_W ad cI cJ) sz σ)) (zQl (dC, dI) (x_ty cI cJ) (x_W ad cI cJ) (zAW x_n ad sz) Q) 0 0 (zAW x_n ad sz) := by
  refine Met.ofW (cc := cX11_good) (maxL := 10) (ret := (some .long)) (by decide) rfl ?_
  intro p e s m args below meth c s₁ B hml hv
  obtain ⟨rfl, hsz, hP, hK, hD0⟩ := hv
  subst hsz
  have C0 : zCx p s m meth c _ RX11 cX11_good 10 (some .long) vs_X11_good := ⟨B.exec, B.bytes, hml, B.returns, findClass_of_methodNamed B.named, atoms_spec (ws := vs_X11_good) B.pre, B.notSynchronized⟩
  have hD := x_D0 (n0 := s.heap.size) hD0
  have hl := lv_entry ([.ref (ad 0), .int x1]) (n := 10) (Nat.le_of_ble_eq_true rfl)
  rw [lg_entry_eq]
  generalize (lg_sl ([.ref (ad 0), .int x1]) ++ List.replicate (10 - (lg_sl ([.ref (ad 0), .int x1])).length) Slot.unset).toArray = ls at hl ⊢
  exact t_X11_good_0 C0 hK N x1 σ _ _ ls h hP hD va_S.rf hl
theorem k_X11_good (N : Nat) {R : Room} {H : Heap} {locs : List Loc} {cells slots : Nat} {Q2 : State → Prop} {cc : ByteArray} {nL pc index : Nat} {ls : Array Slot} {rest : List Value} {own : String} {c0 : Cond} {σ : zSt} {x1 : Int32} {Q : Int64 → zSt → Prop} (S0 : CallFix p m c cc nL s args (c0 :: zT) own) (hml : Cond.methodLink own index yX11_good ∈ zT) (hR : rm_X11_good.frames + 1 ≤ R.frames ∧ 8 + (10 + 11) + rm_X11_good.locals ≤ R.locals) (h : w_X11_good N x1 σ Q) (hK : va_K (dC, dI) vwCl (x_ty cI cJ) s) (hP : va_P (dC, dI) vwCl (x_W ad cI cJ σ) H) (hD : va_D (zAW x_n ad s.heap.size) (x_W ad cI cJ σ)) (hS : va_S (zAW x_n ad s.heap.size) s.heap H locs) (hsz : ls.size = nL) (hW : (rest.map fun v => v.category).sum ≤ 8) (hcs : cells ≤ R.cells ∧ slots ≤ R.slots) (hdg : decode cc pc = .ok (.invokevirtual index, 3)) (kk : ∀ (r : Int64) (τ : zSt) (H1 : Heap) (locs1 : List Loc), Q r τ → va_P (dC, dI) vwCl (x_W ad cI cJ τ) H1 → va_D (zAW x_n ad s.heap.size) (x_W ad cI cJ τ) → va_S (zAW x_n ad s.heap.size) s.heap H1 locs1 → W p l e R s m args below meth c H1 locs1 cells slots Q2 (F0 m (pc + 3) ls (.long r :: rest))) : W p l e R s m args below meth c H locs cells slots Q2 (F0 m pc ls (.int x1 :: .ref (ad 0) :: rest)) :=
  zcv_l (T := TX11) (N' := 17) (k := 0) (ci := 11) (fs := x_f0 ad σ) [.int x1] S0 (c_X11_good N l dC dI ad cI cJ H.size σ x1 Q h) (cw_X11_good S0.2.2.2.2 hml rfl rfl hR) rfl rfl hK hP hD hS rfl hsz hW rfl hcs hdg kk
end q12
section q12
def b_X11_edge_105 (N : Nat) (k_73 : Int32 → Int32 → Int32 → Int32 → Int32 → Int32 → Int32 → zSt → Prop) (Q : Int32 → zSt → Prop) (x1 : Int32) (x2 : Int32) (x3 : Int32) (x4 : Int32) (x5 : Int32) (x6 : Int32) (x7 : Int32) (s0 : Int32) (σ : zSt) : Prop :=
  ∀ τ1 : zSt, τ1 = zI σ 25 s0 → w_X0_endRest N (τ1.2.1 0) x1 (0 : Int32) τ1 (fun r2 τ3 => (r2 = 0 → ∀ v5 : Int32, v5 = x7 + (1 : Int32) → k_73 x1 x2 x3 x4 x5 s0 v5 τ3) ∧ (¬ r2 = 0 → ∀ v4 : Int32, v4 = x7 + (1 : Int32) → k_73 x1 x2 x3 x4 x5 x6 v4 τ3))
def b_X11_edge_73 (N : Nat) (k_73 : Int32 → Int32 → Int32 → Int32 → Int32 → Int32 → Int32 → zSt → Prop) (Q : Int32 → zSt → Prop) (x1 : Int32) (x2 : Int32) (x3 : Int32) (x4 : Int32) (x5 : Int32) (x6 : Int32) (x7 : Int32) (σ : zSt) : Prop :=
  ((x3 - x2) < x7 → ∀ τ1 : zSt, τ1 = zI σ 25 x5 → Q x6 τ1) ∧ (¬ (x3 - x2) < x7 → (x6 = (-1000000000 : Int32) → (x4 = 0 → b_X11_edge_105 N k_73 Q x1 x2 x3 x4 x5 x6 x7 (x2 + x7) σ) ∧ (¬ x4 = 0 → b_X11_edge_105 N k_73 Q x1 x2 x3 x4 x5 x6 x7 (x3 - x7) σ)) ∧ (¬ x6 = (-1000000000 : Int32) → ∀ τ2 : zSt, τ2 = zI σ 25 x5 → Q x6 τ2))
def w_X11_edge_73 (N : Nat) (Q : Int32 → zSt → Prop) : Nat → Int32 → Int32 → Int32 → Int32 → Int32 → Int32 → Int32 → zSt → Prop
  | 0 => fun _ _ _ _ _ _ _ _ => False
  | f + 1 => b_X11_edge_73 N (w_X11_edge_73 N  Q f) Q
def w_X11_edge (N : Nat) (x1 : Int32) (x2 : Int32) (x3 : Int32) (x4 : Int32) (σ : zSt) (Q : Int32 → zSt → Prop) : Prop :=
  w_X11_isKind N x1 σ (fun r1 τ2 => (r1 = 0 → Q (-1000000001 : Int32) τ2) ∧ (¬ r1 = 0 → (x1 = (5 : Int32) → Q (-1000000001 : Int32) τ2) ∧ (¬ x1 = (5 : Int32) → ((6 : Int32) < (τ2.1 1) → Q (-1000000001 : Int32) τ2) ∧ (¬ (6 : Int32) < (τ2.1 1) → w_X11_canBeExtra N x2 τ2 (fun r3 τ4 => (r3 = 0 → Q (-1000000001 : Int32) τ4) ∧ (¬ r3 = 0 → w_X11_canBeExtra N x3 τ4 (fun r5 τ6 => (r5 = 0 → Q (-1000000001 : Int32) τ6) ∧ (¬ r5 = 0 → (x3 < x2 → Q (-1000000001 : Int32) τ6) ∧ (¬ x3 < x2 → ((x3 - x2) ≤ (200 : Int32) → ∀ v7 : Int32, v7 = τ6.1 25 → w_X11_edge_73 N Q N x1 x2 x3 x4 v7 (-1000000000 : Int32) (0 : Int32) τ6) ∧ (¬ (x3 - x2) ≤ (200 : Int32) → Q (-1000000001 : Int32) τ6))))))))))
variable {p : Program} {l : Launch} {e : Env} {s : State} {m : MethodId} {args : Array Value} {below : List Frame} {meth : Method} {c : Code} {dC : Nat → ClassId} {dI : Nat → Nat → Nat} {ad : Nat → Nat} {cI cJ : ClassId}
set_option maxHeartbeats 4000000 in
set_option maxRecDepth 100000 in
theorem t_X11_edge_105 (C0 : zCx p s m meth c args RX11 cX11_edge 9 (some .int) vs_X11_edge) (hK : va_K (dC, dI) vwCl (x_ty cI cJ) s) (N : Nat) {Q : Int32 → zSt → Prop} {k_73 : Int32 → Int32 → Int32 → Int32 → Int32 → Int32 → Int32 → zSt → Prop} (hk_73 : ∀ (x1 : Int32) (x2 : Int32) (x3 : Int32) (x4 : Int32) (x5 : Int32) (x6 : Int32) (x7 : Int32) (σ : zSt) (H : Heap) (locs : List Loc) (ls : Array Slot), k_73 x1 x2 x3 x4 x5 x6 x7 σ → va_P (dC, dI) vwCl (x_W ad cI cJ σ) H → va_D (zAW x_n ad s.heap.size) (x_W ad cI cJ σ) → va_S (zAW x_n ad s.heap.size) s.heap H locs → lv_has ls 9 [(0, .ref (ad 0)), (1, .int x1), (2, .int x2), (3, .int x3), (4, .int x4), (5, .int x5), (6, .int x6), (7, .int x7)] → W p l e rm_X11_edge s m args below meth c H locs 0 0 (MQ below (zQi (dC, dI) (x_ty cI cJ) (x_W ad cI cJ) (zAW x_n ad s.heap.size) Q) args s 0 0 (zAW x_n ad s.heap.size)) (F0 m 73 ls [])) : ∀ (x1 : Int32) (x2 : Int32) (x3 : Int32) (x4 : Int32) (x5 : Int32) (x6 : Int32) (x7 : Int32) (s0 : Int32) (σ : zSt) (H : Heap) (locs : List Loc) (ls : Array Slot), b_X11_edge_105 N k_73 Q x1 x2 x3 x4 x5 x6 x7 s0 σ → va_P (dC, dI) vwCl (x_W ad cI cJ σ) H → va_D (zAW x_n ad s.heap.size) (x_W ad cI cJ σ) → va_S (zAW x_n ad s.heap.size) s.heap H locs → lv_has ls 9 [(0, .ref (ad 0)), (1, .int x1), (2, .int x2), (3, .int x3), (4, .int x4), (5, .int x5), (6, .int x6), (7, .int x7)] → W p l e rm_X11_edge s m args below meth c H locs 0 0 (MQ below (zQi (dC, dI) (x_ty cI cJ) (x_W ad cI cJ) (zAW x_n ad s.heap.size) Q) args s 0 0 (zAW x_n ad s.heap.size)) (F0 m 105 ls [.int s0]) := by
  obtain ⟨hx, hb, hml, hr, hown, hts, hlocks⟩ := id C0
  intro x1 x2 x3 x4 x5 x6 x7 s0 σ H locs ls h hP hD hS hl
  unfold b_X11_edge_105 at h
  refine lv_istore (lv' := [(8, .int s0), (0, .ref (ad 0)), (1, .int x1), (2, .int x2), (3, .int x3), (4, .int x4), (5, .int x5), (6, .int x6), (7, .int x7)]) hx hb dX11_edge_105 hl (by decide) rfl (fun ls hl => ?_)
  refine lv_aload_n hx hb dX11_edge_107 rfl (lv_at hl 1 rfl) ?_
  refine xg_0_5 hx hb hts hown hK hP mw_294 dX11_edge_108 ?_
  refine lv_iload hx hb dX11_edge_111 (lv_at hl 0 rfl) ?_
  refine xp_9_6 hx hb hts hown hK hP hD hS mw_207 dX11_edge_113 (fun τ1 H locs eτ1 hP hD hS => ?_)
  have h := h τ1 eτ1
  refine lv_aload_n hx hb dX11_edge_116 rfl (lv_at hl 1 rfl) ?_
  refine xg_0_6 hx hb hts hown hK hP mw_295 dX11_edge_117 ?_
  refine lv_aload_n hx hb dX11_edge_120 rfl (lv_at hl 1 rfl) ?_
  refine xg_0_15 hx hb hts hown hK hP mw_304 dX11_edge_121 ?_
  refine lv_iload_n hx hb dX11_edge_124 rfl (lv_at hl 2 rfl) ?_
  refine lv_iconst (v := (0 : Int32)) hx hb dX11_edge_125 (by decide) ?_
  refine k_X0_endRest N ⟨hx, hb, hml, hown, hts⟩ mw_594 ⟨Nat.le_of_ble_eq_true rfl, Nat.le_of_ble_eq_true rfl⟩ h hK hP hD hS hl.1 (rest := []) (Nat.le_of_ble_eq_true rfl) ⟨Nat.le_of_ble_eq_true rfl, Nat.le_of_ble_eq_true rfl⟩ dX11_edge_126 (fun r2 τ3 H locs h hP hD hS => ?_)
  refine lv_if_ne (tgt := 136) hx hb dX11_edge_129 (by decide) (fun hc => ?_) (fun hc => ?_)
  · have h := h.2 hc
    obtain ⟨v4, ev4⟩ : ∃ z : Int32, z = x7 + (1 : Int32) := ⟨_, rfl⟩
    have h := h v4 ev4
    refine lv_iinc (v := v4) (lv' := [(7, .int v4), (8, .int s0), (0, .ref (ad 0)), (1, .int x1), (2, .int x2), (3, .int x3), (4, .int x4), (5, .int x5), (6, .int x6)]) hx hb dX11_edge_136 hl (k := 8) rfl (by rw [ev4]; rfl) (by decide) rfl (fun ls hl => ?_)
    refine lv_goto (tgt := 73) hx hb dX11_edge_139 (by decide) ?_
    exact hk_73 x1 x2 x3 x4 x5 x6 v4 τ3 _ _ _ h hP hD hS (lv_sub hl [2, 3, 4, 5, 6, 7, 8, 0] rfl)
  · have h := h.1 hc
    refine lv_iload hx hb dX11_edge_132 (lv_at hl 0 rfl) ?_
    refine lv_istore (lv' := [(6, .int s0), (8, .int s0), (0, .ref (ad 0)), (1, .int x1), (2, .int x2), (3, .int x3), (4, .int x4), (5, .int x5), (7, .int x7)]) hx hb dX11_edge_134 hl (by decide) rfl (fun ls hl => ?_)
    obtain ⟨v5, ev5⟩ : ∃ z : Int32, z = x7 + (1 : Int32) := ⟨_, rfl⟩
    have h := h v5 ev5
    refine lv_iinc (v := v5) (lv' := [(7, .int v5), (6, .int s0), (8, .int s0), (0, .ref (ad 0)), (1, .int x1), (2, .int x2), (3, .int x3), (4, .int x4), (5, .int x5)]) hx hb dX11_edge_136 hl (k := 8) rfl (by rw [ev5]; rfl) (by decide) rfl (fun ls hl => ?_)
    refine lv_goto (tgt := 73) hx hb dX11_edge_139 (by decide) ?_
    exact hk_73 x1 x2 x3 x4 x5 s0 v5 τ3 _ _ _ h hP hD hS (lv_sub hl [3, 4, 5, 6, 7, 8, 1, 0] rfl)
set_option maxHeartbeats 4000000 in
set_option maxRecDepth 100000 in
theorem tb_X11_edge_73 (C0 : zCx p s m meth c args RX11 cX11_edge 9 (some .int) vs_X11_edge) (hK : va_K (dC, dI) vwCl (x_ty cI cJ) s) (N : Nat) {Q : Int32 → zSt → Prop} {k_73 : Int32 → Int32 → Int32 → Int32 → Int32 → Int32 → Int32 → zSt → Prop} (hk_73 : ∀ (x1 : Int32) (x2 : Int32) (x3 : Int32) (x4 : Int32) (x5 : Int32) (x6 : Int32) (x7 : Int32) (σ : zSt) (H : Heap) (locs : List Loc) (ls : Array Slot), k_73 x1 x2 x3 x4 x5 x6 x7 σ → va_P (dC, dI) vwCl (x_W ad cI cJ σ) H → va_D (zAW x_n ad s.heap.size) (x_W ad cI cJ σ) → va_S (zAW x_n ad s.heap.size) s.heap H locs → lv_has ls 9 [(0, .ref (ad 0)), (1, .int x1), (2, .int x2), (3, .int x3), (4, .int x4), (5, .int x5), (6, .int x6), (7, .int x7)] → W p l e rm_X11_edge s m args below meth c H locs 0 0 (MQ below (zQi (dC, dI) (x_ty cI cJ) (x_W ad cI cJ) (zAW x_n ad s.heap.size) Q) args s 0 0 (zAW x_n ad s.heap.size)) (F0 m 73 ls [])) : ∀ (x1 : Int32) (x2 : Int32) (x3 : Int32) (x4 : Int32) (x5 : Int32) (x6 : Int32) (x7 : Int32) (σ : zSt) (H : Heap) (locs : List Loc) (ls : Array Slot), b_X11_edge_73 N k_73 Q x1 x2 x3 x4 x5 x6 x7 σ → va_P (dC, dI) vwCl (x_W ad cI cJ σ) H → va_D (zAW x_n ad s.heap.size) (x_W ad cI cJ σ) → va_S (zAW x_n ad s.heap.size) s.heap H locs → lv_has ls 9 [(0, .ref (ad 0)), (1, .int x1), (2, .int x2), (3, .int x3), (4, .int x4), (5, .int x5), (6, .int x6), (7, .int x7)] → W p l e rm_X11_edge s m args below meth c H locs 0 0 (MQ below (zQi (dC, dI) (x_ty cI cJ) (x_W ad cI cJ) (zAW x_n ad s.heap.size) Q) args s 0 0 (zAW x_n ad s.heap.size)) (F0 m 73 ls []) := by
  obtain ⟨hx, hb, hml, hr, hown, hts, hlocks⟩ := id C0
  intro x1 x2 x3 x4 x5 x6 x7 σ H locs ls h hP hD hS hl
  unfold b_X11_edge_73 at h
  refine lv_iload hx hb dX11_edge_73 (lv_at hl 7 rfl) ?_
  refine lv_iload_n hx hb dX11_edge_75 rfl (lv_at hl 3 rfl) ?_
  refine lv_iload_n hx hb dX11_edge_76 rfl (lv_at hl 2 rfl) ?_
  refine lv_isub hx hb dX11_edge_77 ?_
  refine lv_icmp_gt (tgt := 142) hx hb dX11_edge_78 (by decide) (fun hc => ?_) (fun hc => ?_)
  · have h := h.1 hc
    refine lv_aload_n hx hb dX11_edge_142 rfl (lv_at hl 0 rfl) ?_
    refine xg_0_5 hx hb hts hown hK hP mw_294 dX11_edge_143 ?_
    refine lv_iload hx hb dX11_edge_146 (lv_at hl 5 rfl) ?_
    refine xp_9_6 hx hb hts hown hK hP hD hS mw_207 dX11_edge_148 (fun τ1 H locs eτ1 hP hD hS => ?_)
    have h := h τ1 eτ1
    refine lv_iload hx hb dX11_edge_151 (lv_at hl 6 rfl) ?_
    exact zret_i hx hb hr hlocks hK hP hD hS h dX11_edge_153
  · have h := h.2 hc
    refine lv_iload hx hb dX11_edge_81 (lv_at hl 6 rfl) ?_
    refine lv_ldcw (v := (-1000000000 : Int32)) hx hb hown (hts _ (List.mem_cons_of_mem _ mw_791)) dX11_edge_83 ?_
    refine lv_icmp_ne (tgt := 142) hx hb dX11_edge_86 (by decide) (fun hc => ?_) (fun hc => ?_)
    · have h := h.2 hc
      refine lv_aload_n hx hb dX11_edge_142 rfl (lv_at hl 0 rfl) ?_
      refine xg_0_5 hx hb hts hown hK hP mw_294 dX11_edge_143 ?_
      refine lv_iload hx hb dX11_edge_146 (lv_at hl 5 rfl) ?_
      refine xp_9_6 hx hb hts hown hK hP hD hS mw_207 dX11_edge_148 (fun τ2 H locs eτ2 hP hD hS => ?_)
      have h := h τ2 eτ2
      refine lv_iload hx hb dX11_edge_151 (lv_at hl 6 rfl) ?_
      exact zret_i hx hb hr hlocks hK hP hD hS h dX11_edge_153
    · have h := h.1 hc
      refine lv_iload hx hb dX11_edge_89 (lv_at hl 4 rfl) ?_
      refine lv_if_eq (tgt := 101) hx hb dX11_edge_91 (by decide) (fun hc => ?_) (fun hc => ?_)
      · have h := h.1 hc
        refine lv_iload_n hx hb dX11_edge_101 rfl (lv_at hl 2 rfl) ?_
        refine lv_iload hx hb dX11_edge_102 (lv_at hl 7 rfl) ?_
        refine lv_iadd hx hb dX11_edge_104 ?_
        exact t_X11_edge_105 C0 hK N hk_73 x1 x2 x3 x4 x5 x6 x7 (x2 + x7) σ _ _ _ h hP hD hS (lv_sub hl [0, 1, 2, 3, 4, 5, 6, 7] rfl)
      · have h := h.2 hc
        refine lv_iload_n hx hb dX11_edge_94 rfl (lv_at hl 3 rfl) ?_
        refine lv_iload hx hb dX11_edge_95 (lv_at hl 7 rfl) ?_
        refine lv_isub hx hb dX11_edge_97 ?_
        refine lv_goto (tgt := 105) hx hb dX11_edge_98 (by decide) ?_
        exact t_X11_edge_105 C0 hK N hk_73 x1 x2 x3 x4 x5 x6 x7 (x3 - x7) σ _ _ _ h hP hD hS (lv_sub hl [0, 1, 2, 3, 4, 5, 6, 7] rfl)
set_option maxHeartbeats 4000000 in
set_option maxRecDepth 100000 in
theorem t_X11_edge_73 (C0 : zCx p s m meth c args RX11 cX11_edge 9 (some .int) vs_X11_edge) (hK : va_K (dC, dI) vwCl (x_ty cI cJ) s) (N : Nat) {Q : Int32 → zSt → Prop} : ∀ (f : Nat) (x1 : Int32) (x2 : Int32) (x3 : Int32) (x4 : Int32) (x5 : Int32) (x6 : Int32) (x7 : Int32) (σ : zSt) (H : Heap) (locs : List Loc) (ls : Array Slot), w_X11_edge_73 N  Q f x1 x2 x3 x4 x5 x6 x7 σ → va_P (dC, dI) vwCl (x_W ad cI cJ σ) H → va_D (zAW x_n ad s.heap.size) (x_W ad cI cJ σ) → va_S (zAW x_n ad s.heap.size) s.heap H locs → lv_has ls 9 [(0, .ref (ad 0)), (1, .int x1), (2, .int x2), (3, .int x3), (4, .int x4), (5, .int x5), (6, .int x6), (7, .int x7)] → W p l e rm_X11_edge s m args below meth c H locs 0 0 (MQ below (zQi (dC, dI) (x_ty cI cJ) (x_W ad cI cJ) (zAW x_n ad s.heap.size) Q) args s 0 0 (zAW x_n ad s.heap.size)) (F0 m 73 ls []) := by
  intro f
  induction f with
  | zero => intro x1 x2 x3 x4 x5 x6 x7 σ H locs ls h; exact h.elim
  | succ f ih =>
    intro x1 x2 x3 x4 x5 x6 x7 σ H locs ls h hP hD hS hl
    exact tb_X11_edge_73 C0 hK N  (k_73 := w_X11_edge_73 N  Q f) ih x1 x2 x3 x4 x5 x6 x7 σ H locs ls h hP hD hS hl
set_option maxHeartbeats 4000000 in
set_option maxRecDepth 100000 in
theorem t_X11_edge_0 (C0 : zCx p s m meth c args RX11 cX11_edge 9 (some .int) vs_X11_edge) (hK : va_K (dC, dI) vwCl (x_ty cI cJ) s) (N : Nat) {Q : Int32 → zSt → Prop} : ∀ (x1 : Int32) (x2 : Int32) (x3 : Int32) (x4 : Int32) (σ : zSt) (H : Heap) (locs : List Loc) (ls : Array Slot), w_X11_edge N x1 x2 x3 x4 σ Q → va_P (dC, dI) vwCl (x_W ad cI cJ σ) H → va_D (zAW x_n ad s.heap.size) (x_W ad cI cJ σ) → va_S (zAW x_n ad s.heap.size) s.heap H locs → lv_has ls 9 [(0, .ref (ad 0)), (1, .int x1), (2, .int x2), (3, .int x3), (4, .int x4)] → W p l e rm_X11_edge s m args below meth c H locs 0 0 (MQ below (zQi (dC, dI) (x_ty cI cJ) (x_W ad cI cJ) (zAW x_n ad s.heap.size) Q) args s 0 0 (zAW x_n ad s.heap.size)) (F0 m 0 ls []) := by
  obtain ⟨hx, hb, hml, hr, hown, hts, hlocks⟩ := id C0
  intro x1 x2 x3 x4 σ H locs ls h hP hD hS hl
  unfold w_X11_edge at h
  refine lv_iload_n hx hb dX11_edge_0 rfl (lv_at hl 1 rfl) ?_
  refine k_X11_isKind N ⟨hx, hb, hml, hown, hts⟩ mw_591 ⟨Nat.le_of_ble_eq_true rfl, Nat.le_of_ble_eq_true rfl⟩ h hK hP hD hS hl.1 (rest := []) (Nat.le_of_ble_eq_true rfl) ⟨Nat.le_of_ble_eq_true rfl, Nat.le_of_ble_eq_true rfl⟩ dX11_edge_1 (fun r1 τ2 H locs h hP hD hS => ?_)
  refine lv_if_eq (tgt := 52) hx hb dX11_edge_4 (by decide) (fun hc => ?_) (fun hc => ?_)
  · have h := h.1 hc
    refine lv_ldcw (v := (-1000000001 : Int32)) hx hb hown (hts _ (List.mem_cons_of_mem _ mw_790)) dX11_edge_52 ?_
    exact zret_i hx hb hr hlocks hK hP hD hS h dX11_edge_55
  · have h := h.2 hc
    refine lv_iload_n hx hb dX11_edge_7 rfl (lv_at hl 1 rfl) ?_
    refine lv_iconst (v := (5 : Int32)) hx hb dX11_edge_8 (by decide) ?_
    refine lv_icmp_eq (tgt := 52) hx hb dX11_edge_9 (by decide) (fun hc => ?_) (fun hc => ?_)
    · have h := h.1 hc
      refine lv_ldcw (v := (-1000000001 : Int32)) hx hb hown (hts _ (List.mem_cons_of_mem _ mw_790)) dX11_edge_52 ?_
      exact zret_i hx hb hr hlocks hK hP hD hS h dX11_edge_55
    · have h := h.2 hc
      refine lv_aload_n hx hb dX11_edge_12 rfl (lv_at hl 0 rfl) ?_
      refine xg_0_2 hx hb hts hown hK hP mw_291 dX11_edge_13 ?_
      refine xg_3_4 hx hb hts hown hK hP mw_75 dX11_edge_16 ?_
      refine lv_bipush (v := (6 : Int32)) hx hb dX11_edge_19 (by decide) ?_
      refine lv_icmp_gt (tgt := 52) hx hb dX11_edge_21 (by decide) (fun hc => ?_) (fun hc => ?_)
      · have h := h.1 hc
        refine lv_ldcw (v := (-1000000001 : Int32)) hx hb hown (hts _ (List.mem_cons_of_mem _ mw_790)) dX11_edge_52 ?_
        exact zret_i hx hb hr hlocks hK hP hD hS h dX11_edge_55
      · have h := h.2 hc
        refine lv_iload_n hx hb dX11_edge_24 rfl (lv_at hl 2 rfl) ?_
        refine k_X11_canBeExtra N ⟨hx, hb, hml, hown, hts⟩ mw_531 ⟨Nat.le_of_ble_eq_true rfl, Nat.le_of_ble_eq_true rfl⟩ h hK hP hD hS hl.1 (rest := []) (Nat.le_of_ble_eq_true rfl) ⟨Nat.le_of_ble_eq_true rfl, Nat.le_of_ble_eq_true rfl⟩ dX11_edge_25 (fun r3 τ4 H locs h hP hD hS => ?_)
        refine lv_if_eq (tgt := 52) hx hb dX11_edge_28 (by decide) (fun hc => ?_) (fun hc => ?_)
        · have h := h.1 hc
          refine lv_ldcw (v := (-1000000001 : Int32)) hx hb hown (hts _ (List.mem_cons_of_mem _ mw_790)) dX11_edge_52 ?_
          exact zret_i hx hb hr hlocks hK hP hD hS h dX11_edge_55
        · have h := h.2 hc
          refine lv_iload_n hx hb dX11_edge_31 rfl (lv_at hl 3 rfl) ?_
          refine k_X11_canBeExtra N ⟨hx, hb, hml, hown, hts⟩ mw_531 ⟨Nat.le_of_ble_eq_true rfl, Nat.le_of_ble_eq_true rfl⟩ h hK hP hD hS hl.1 (rest := []) (Nat.le_of_ble_eq_true rfl) ⟨Nat.le_of_ble_eq_true rfl, Nat.le_of_ble_eq_true rfl⟩ dX11_edge_32 (fun r5 τ6 H locs h hP hD hS => ?_)
          refine lv_if_eq (tgt := 52) hx hb dX11_edge_35 (by decide) (fun hc => ?_) (fun hc => ?_)
          · have h := h.1 hc
            refine lv_ldcw (v := (-1000000001 : Int32)) hx hb hown (hts _ (List.mem_cons_of_mem _ mw_790)) dX11_edge_52 ?_
            exact zret_i hx hb hr hlocks hK hP hD hS h dX11_edge_55
          · have h := h.2 hc
            refine lv_iload_n hx hb dX11_edge_38 rfl (lv_at hl 2 rfl) ?_
            refine lv_iload_n hx hb dX11_edge_39 rfl (lv_at hl 3 rfl) ?_
            refine lv_icmp_gt (tgt := 52) hx hb dX11_edge_40 (by decide) (fun hc => ?_) (fun hc => ?_)
            · have h := h.1 hc
              refine lv_ldcw (v := (-1000000001 : Int32)) hx hb hown (hts _ (List.mem_cons_of_mem _ mw_790)) dX11_edge_52 ?_
              exact zret_i hx hb hr hlocks hK hP hD hS h dX11_edge_55
            · have h := h.2 hc
              refine lv_iload_n hx hb dX11_edge_43 rfl (lv_at hl 3 rfl) ?_
              refine lv_iload_n hx hb dX11_edge_44 rfl (lv_at hl 2 rfl) ?_
              refine lv_isub hx hb dX11_edge_45 ?_
              refine lv_sipush (v := (200 : Int32)) hx hb dX11_edge_46 (by decide) ?_
              refine lv_icmp_le (tgt := 56) hx hb dX11_edge_49 (by decide) (fun hc => ?_) (fun hc => ?_)
              · have h := h.1 hc
                refine lv_aload_n hx hb dX11_edge_56 rfl (lv_at hl 0 rfl) ?_
                refine xg_0_5 hx hb hts hown hK hP mw_294 dX11_edge_57 ?_
                refine xg_9_6 hx hb hts hown hK hP mw_207 dX11_edge_60 ?_
                refine lv_topi (fun v7 ev7 => ?_)
                have h := h v7 ev7
                refine lv_istore (lv' := [(5, .int v7), (0, .ref (ad 0)), (1, .int x1), (2, .int x2), (3, .int x3), (4, .int x4)]) hx hb dX11_edge_63 hl (by decide) rfl (fun ls hl => ?_)
                refine lv_ldcw (v := (-1000000000 : Int32)) hx hb hown (hts _ (List.mem_cons_of_mem _ mw_791)) dX11_edge_65 ?_
                refine lv_istore (lv' := [(6, .int (-1000000000 : Int32)), (5, .int v7), (0, .ref (ad 0)), (1, .int x1), (2, .int x2), (3, .int x3), (4, .int x4)]) hx hb dX11_edge_68 hl (by decide) rfl (fun ls hl => ?_)
                refine lv_iconst (v := (0 : Int32)) hx hb dX11_edge_70 (by decide) ?_
                refine lv_istore (lv' := [(7, .int (0 : Int32)), (6, .int (-1000000000 : Int32)), (5, .int v7), (0, .ref (ad 0)), (1, .int x1), (2, .int x2), (3, .int x3), (4, .int x4)]) hx hb dX11_edge_71 hl (by decide) rfl (fun ls hl => ?_)
                exact t_X11_edge_73 C0 hK N  N x1 x2 x3 x4 v7 (-1000000000 : Int32) (0 : Int32) τ6 _ _ _ h hP hD hS (lv_sub hl [3, 4, 5, 6, 7, 2, 1, 0] rfl)
              · have h := h.2 hc
                refine lv_ldcw (v := (-1000000001 : Int32)) hx hb hown (hts _ (List.mem_cons_of_mem _ mw_790)) dX11_edge_52 ?_
                exact zret_i hx hb hr hlocks hK hP hD hS h dX11_edge_55
set_option maxHeartbeats 4000000 in
set_option maxRecDepth 100000 in
theorem c_X11_edge (N : Nat) (l : Launch) (dC : Nat → ClassId) (dI : Nat → Nat → Nat) (ad : Nat → Nat) (cI cJ : ClassId) (sz : Nat) (σ : zSt) (x1 : Int32) (x2 : Int32) (x3 : Int32) (x4 : Int32) (Q : Int32 → zSt → Prop) (h : w_X11_edge N x1 x2 x3 x4 σ Q) : Met l yX11_edge vs_X11_edge rm_X11_edge (va_Pc [.ref (ad 0), .int x1, .int x2, .int x3, .int x4] (zPc (dC, dI) (x_ty cI cJ) (x_W ad cI cJ) sz σ)) (zQi (dC, dI) (x_ty cI cJ) (x_W ad cI cJ) (zAW x_n ad sz) Q) 0 0 (zAW x_n ad sz) := by
  refine Met.ofW (cc := cX11_edge) (maxL := 9) (ret := (some .int)) (by decide) rfl ?_
  intro p e s m args below meth c s₁ B hml hv
  obtain ⟨rfl, hsz, hP, hK, hD0⟩ := hv
  subst hsz
  have C0 : zCx p s m meth c _ RX11 cX11_edge 9 (some .int) vs_X11_edge := ⟨B.exec, B.bytes, hml, B.returns, findClass_of_methodNamed B.named, atoms_spec (ws := vs_X11_edge) B.pre, B.notSynchronized⟩
  have hD := x_D0 (n0 := s.heap.size) hD0
  have hl := lv_entry ([.ref (ad 0), .int x1, .int x2, .int x3, .int x4]) (n := 9) (Nat.le_of_ble_eq_true rfl)
  rw [lg_entry_eq]
  generalize (lg_sl ([.ref (ad 0), .int x1, .int x2, .int x3, .int x4]) ++ List.replicate (9 - (lg_sl ([.ref (ad 0), .int x1, .int x2, .int x3, .int x4])).length) Slot.unset).toArray = ls at hl ⊢
  exact t_X11_edge_0 C0 hK N x1 x2 x3 x4 σ _ _ ls h hP hD va_S.rf hl
theorem k_X11_edge (N : Nat) {R : Room} {H : Heap} {locs : List Loc} {cells slots : Nat} {Q2 : State → Prop} {cc : ByteArray} {nL pc index : Nat} {ls : Array Slot} {rest : List Value} {own : String} {c0 : Cond} {σ : zSt} {x1 : Int32} {x2 : Int32} {x3 : Int32} {x4 : Int32} {Q : Int32 → zSt → Prop} (S0 : CallFix p m c cc nL s args (c0 :: zT) own) (hml : Cond.methodLink own index yX11_edge ∈ zT) (hR : rm_X11_edge.frames + 1 ≤ R.frames ∧ 8 + (9 + 11) + rm_X11_edge.locals ≤ R.locals) (h : w_X11_edge N x1 x2 x3 x4 σ Q) (hK : va_K (dC, dI) vwCl (x_ty cI cJ) s) (hP : va_P (dC, dI) vwCl (x_W ad cI cJ σ) H) (hD : va_D (zAW x_n ad s.heap.size) (x_W ad cI cJ σ)) (hS : va_S (zAW x_n ad s.heap.size) s.heap H locs) (hsz : ls.size = nL) (hW : (rest.map fun v => v.category).sum ≤ 8) (hcs : cells ≤ R.cells ∧ slots ≤ R.slots) (hdg : decode cc pc = .ok (.invokevirtual index, 3)) (kk : ∀ (r : Int32) (τ : zSt) (H1 : Heap) (locs1 : List Loc), Q r τ → va_P (dC, dI) vwCl (x_W ad cI cJ τ) H1 → va_D (zAW x_n ad s.heap.size) (x_W ad cI cJ τ) → va_S (zAW x_n ad s.heap.size) s.heap H1 locs1 → W p l e R s m args below meth c H1 locs1 cells slots Q2 (F0 m (pc + 3) ls (.int r :: rest))) : W p l e R s m args below meth c H locs cells slots Q2 (F0 m pc ls (.int x4 :: .int x3 :: .int x2 :: .int x1 :: .ref (ad 0) :: rest)) :=
  zcv_i (T := TX11) (N' := 17) (k := 0) (ci := 11) (fs := x_f0 ad σ) [.int x1, .int x2, .int x3, .int x4] S0 (c_X11_edge N l dC dI ad cI cJ H.size σ x1 x2 x3 x4 Q h) (cw_X11_edge S0.2.2.2.2 hml rfl rfl hR) rfl rfl hK hP hD hS rfl hsz hW rfl hcs hdg kk
end q12
