section q04
end q04
section q04
def w_X11_forget (N : Nat)  (σ : zSt) (Q : zSt → Prop) : Prop :=
  ∀ τ1 : zSt, τ1 = zJ σ 0 (0 : Int64) → ∀ τ2 : zSt, τ2 = zJ τ1 1 (-1000000000000 : Int64) → w_J7_fill_d0a16 N (-1 : Int64) τ2 (fun τ4 => w_J7_fill_d0a16_2 N (-1 : Int64) τ4 (fun τ6 => ∀ τ7 : zSt, τ7 = zI τ6 34 (0 : Int32) → ∀ τ8 : zSt, τ8 = zI τ7 35 (0 : Int32) → w_X10_startAnew N τ8 (fun τ10 => Q τ10)))
variable {p : Program} {l : Launch} {e : Env} {s : State} {m : MethodId} {args : Array Value} {below : List Frame} {meth : Method} {c : Code} {dC : Nat → ClassId} {dI : Nat → Nat → Nat} {ad : Nat → Nat} {cI cJ : ClassId}
set_option maxHeartbeats 4000000 in
set_option maxRecDepth 100000 in
theorem t_X11_forget_0 (C0 : zCx p s m meth c args RX11 cX11_forget 1 none vs_X11_forget) (hK : va_K (dC, dI) vwCl (x_ty cI cJ) s) (N : Nat) {Q : zSt → Prop} : ∀  (σ : zSt) (H : Heap) (locs : List Loc) (ls : Array Slot), w_X11_forget N  σ Q → va_P (dC, dI) vwCl (x_W ad cI cJ σ) H → va_D (zAW x_n ad s.heap.size) (x_W ad cI cJ σ) → va_S (zAW x_n ad s.heap.size) s.heap H locs → lv_has ls 1 [(0, .ref (ad 0))] → W p l e rm_X11_forget s m args below meth c H locs 0 0 (MQ below (zQv (dC, dI) (x_ty cI cJ) (x_W ad cI cJ) (zAW x_n ad s.heap.size) Q) args s 0 0 (zAW x_n ad s.heap.size)) (F0 m 0 ls []) := by
  obtain ⟨hx, hb, hml, hr, hown, hts, hlocks⟩ := id C0
  intro  σ H locs ls h hP hD hS hl
  unfold w_X11_forget at h
  refine lv_aload_n hx hb dX11_forget_0 rfl (lv_at hl 0 rfl) ?_
  refine lv_lconst (v := (0 : Int64)) hx hb dX11_forget_1 (by decide) ?_
  refine xp_0_15 hx hb hts hown hK hP hD hS mw_304 dX11_forget_2 (fun τ1 H locs eτ1 hP hD hS => ?_)
  have h := h τ1 eτ1
  refine lv_aload_n hx hb dX11_forget_5 rfl (lv_at hl 0 rfl) ?_
  refine lv_ldc2 (v := (-1000000000000 : Int64)) hx hb hown (hts _ (List.mem_cons_of_mem _ mw_274)) dX11_forget_6 ?_
  refine xp_0_16 hx hb hts hown hK hP hD hS mw_305 dX11_forget_9 (fun τ2 H locs eτ2 hP hD hS => ?_)
  have h := h τ2 eτ2
  refine lv_aload_n hx hb dX11_forget_12 rfl (lv_at hl 0 rfl) ?_
  refine xg_0_13 hx hb hts hown hK hP mw_302 dX11_forget_13 ?_
  refine lv_ldc2 (v := (-1 : Int64)) hx hb hown (hts _ (List.mem_cons_of_mem _ mw_275)) dX11_forget_16 ?_
  refine k_J7_fill_d0a16 N ⟨hx, hb, hml, hown, hts⟩ mw_276 ⟨Nat.le_of_ble_eq_true rfl, Nat.le_of_ble_eq_true rfl⟩ h hK hP hD hS hl.1 (rest := []) (Nat.le_of_ble_eq_true rfl) ⟨Nat.le_of_ble_eq_true rfl, Nat.le_of_ble_eq_true rfl⟩ dX11_forget_19 (fun τ4 H locs h hP hD hS => ?_)
  refine lv_aload_n hx hb dX11_forget_22 rfl (lv_at hl 0 rfl) ?_
  refine xg_0_14 hx hb hts hown hK hP mw_303 dX11_forget_23 ?_
  refine lv_ldc2 (v := (-1 : Int64)) hx hb hown (hts _ (List.mem_cons_of_mem _ mw_275)) dX11_forget_26 ?_
  refine k_J7_fill_d0a16_2 N ⟨hx, hb, hml, hown, hts⟩ mw_276 ⟨Nat.le_of_ble_eq_true rfl, Nat.le_of_ble_eq_true rfl⟩ h hK hP hD hS hl.1 (rest := []) (Nat.le_of_ble_eq_true rfl) ⟨Nat.le_of_ble_eq_true rfl, Nat.le_of_ble_eq_true rfl⟩ dX11_forget_29 (fun τ6 H locs h hP hD hS => ?_)
  refine lv_aload_n hx hb dX11_forget_32 rfl (lv_at hl 0 rfl) ?_
  refine xg_0_9 hx hb hts hown hK hP mw_298 dX11_forget_33 ?_
  refine lv_iconst (v := (0 : Int32)) hx hb dX11_forget_36 (by decide) ?_
  refine xp_13_2 hx hb hts hown hK hP hD hS mw_267 dX11_forget_37 (fun τ7 H locs eτ7 hP hD hS => ?_)
  have h := h τ7 eτ7
  refine lv_aload_n hx hb dX11_forget_40 rfl (lv_at hl 0 rfl) ?_
  refine xg_0_10 hx hb hts hown hK hP mw_299 dX11_forget_41 ?_
  refine lv_iconst (v := (0 : Int32)) hx hb dX11_forget_44 (by decide) ?_
  refine xp_14_2 hx hb hts hown hK hP hD hS mw_267 dX11_forget_45 (fun τ8 H locs eτ8 hP hD hS => ?_)
  have h := h τ8 eτ8
  refine lv_aload_n hx hb dX11_forget_48 rfl (lv_at hl 0 rfl) ?_
  refine xg_0_5 hx hb hts hown hK hP mw_294 dX11_forget_49 ?_
  refine k_X10_startAnew N ⟨hx, hb, hml, hown, hts⟩ mw_279 ⟨Nat.le_of_ble_eq_true rfl, Nat.le_of_ble_eq_true rfl⟩ h hK hP hD hS hl.1 (rest := []) (Nat.le_of_ble_eq_true rfl) ⟨Nat.le_of_ble_eq_true rfl, Nat.le_of_ble_eq_true rfl⟩ dX11_forget_52 (fun τ10 H locs h hP hD hS => ?_)
  exact zret_v hx hb hr hlocks hK hP hD hS h dX11_forget_55
set_option maxHeartbeats 4000000 in
set_option maxRecDepth 100000 in
theorem c_X11_forget (N : Nat) (l : Launch) (dC : Nat → ClassId) (dI : Nat → Nat → Nat) (ad : Nat → Nat) (cI cJ : ClassId) (sz : Nat) (σ : zSt)  (Q : zSt → Prop) (h : w_X11_forget N  σ Q) : Met l yX11_forget vs_X11_forget rm_X11_forget (va_Pc [.ref (ad 0)] (zPc (dC, dI) (x_ty cI cJ) (x_W ad cI cJ) sz σ)) (zQv (dC, dI) (x_ty cI cJ) (x_W ad cI cJ) (zAW x_n ad sz) Q) 0 0 (zAW x_n ad sz) := by
  refine Met.ofW (cc := cX11_forget) (maxL := 1) (ret := none) (by decide) rfl ?_
  intro p e s m args below meth c s₁ B hml hv
  obtain ⟨rfl, hsz, hP, hK, hD0⟩ := hv
  subst hsz
  have C0 : zCx p s m meth c _ RX11 cX11_forget 1 none vs_X11_forget := ⟨B.exec, B.bytes, hml, B.returns, findClass_of_methodNamed B.named, atoms_spec (ws := vs_X11_forget) B.pre, B.notSynchronized⟩
  have hD := x_D0 (n0 := s.heap.size) hD0
  have hl := lv_entry ([.ref (ad 0)]) (n := 1) (Nat.le_of_ble_eq_true rfl)
  rw [lg_entry_eq]
  generalize (lg_sl ([.ref (ad 0)]) ++ List.replicate (1 - (lg_sl ([.ref (ad 0)])).length) Slot.unset).toArray = ls at hl ⊢
  exact t_X11_forget_0 C0 hK N  σ _ _ ls h hP hD va_S.rf hl
theorem k_X11_forget (N : Nat) {R : Room} {H : Heap} {locs : List Loc} {cells slots : Nat} {Q2 : State → Prop} {cc : ByteArray} {nL pc index : Nat} {ls : Array Slot} {rest : List Value} {own : String} {c0 : Cond} {σ : zSt}  {Q : zSt → Prop} (S0 : CallFix p m c cc nL s args (c0 :: zT) own) (hml : Cond.methodLink own index yX11_forget ∈ zT) (hR : rm_X11_forget.frames + 1 ≤ R.frames ∧ 8 + (1 + 11) + rm_X11_forget.locals ≤ R.locals) (h : w_X11_forget N  σ Q) (hK : va_K (dC, dI) vwCl (x_ty cI cJ) s) (hP : va_P (dC, dI) vwCl (x_W ad cI cJ σ) H) (hD : va_D (zAW x_n ad s.heap.size) (x_W ad cI cJ σ)) (hS : va_S (zAW x_n ad s.heap.size) s.heap H locs) (hsz : ls.size = nL) (hW : (rest.map fun v => v.category).sum ≤ 8) (hcs : cells ≤ R.cells ∧ slots ≤ R.slots) (hdg : decode cc pc = .ok (.invokevirtual index, 3)) (kk : ∀ (τ : zSt) (H1 : Heap) (locs1 : List Loc), Q τ → va_P (dC, dI) vwCl (x_W ad cI cJ τ) H1 → va_D (zAW x_n ad s.heap.size) (x_W ad cI cJ τ) → va_S (zAW x_n ad s.heap.size) s.heap H1 locs1 → W p l e R s m args below meth c H1 locs1 cells slots Q2 (F0 m (pc + 3) ls (rest))) : W p l e R s m args below meth c H locs cells slots Q2 (F0 m pc ls (.ref (ad 0) :: rest)) :=
  zcv_v (T := TX11) (N' := 17) (k := 0) (ci := 11) (fs := x_f0 ad σ) [] S0 (c_X11_forget N l dC dI ad cI cJ H.size σ  Q h) (cw_X11_forget S0.2.2.2.2 hml rfl rfl hR) rfl rfl hK hP hD hS rfl hsz hW rfl hcs hdg kk
end q04
section q04
def w_X11_land (N : Nat)  (σ : zSt) (Q : Int32 → zSt → Prop) : Prop :=
  w_X5_read N σ (fun r1 τ2 => ∀ τ3 : zSt, τ3 = zI τ2 0 (0 : Int32) → (r1 = 0 → Q (-1 : Int32) τ3) ∧ (¬ r1 = 0 → w_X4_copy N τ3 (fun τ5 => w_X6_copy N τ5 (fun τ7 => w_X11_forget N τ7 (fun τ9 => Q (τ9.1 7) τ9)))))
variable {p : Program} {l : Launch} {e : Env} {s : State} {m : MethodId} {args : Array Value} {below : List Frame} {meth : Method} {c : Code} {dC : Nat → ClassId} {dI : Nat → Nat → Nat} {ad : Nat → Nat} {cI cJ : ClassId}
set_option maxHeartbeats 4000000 in
set_option maxRecDepth 100000 in
theorem t_X11_land_0 (C0 : zCx p s m meth c args RX11 cX11_land 2 (some .int) vs_X11_land) (hK : va_K (dC, dI) vwCl (x_ty cI cJ) s) (N : Nat) {Q : Int32 → zSt → Prop} : ∀  (σ : zSt) (H : Heap) (locs : List Loc) (ls : Array Slot), w_X11_land N  σ Q → va_P (dC, dI) vwCl (x_W ad cI cJ σ) H → va_D (zAW x_n ad s.heap.size) (x_W ad cI cJ σ) → va_S (zAW x_n ad s.heap.size) s.heap H locs → lv_has ls 2 [(0, .ref (ad 0))] → W p l e rm_X11_land s m args below meth c H locs 0 0 (MQ below (zQi (dC, dI) (x_ty cI cJ) (x_W ad cI cJ) (zAW x_n ad s.heap.size) Q) args s 0 0 (zAW x_n ad s.heap.size)) (F0 m 0 ls []) := by
  obtain ⟨hx, hb, hml, hr, hown, hts, hlocks⟩ := id C0
  intro  σ H locs ls h hP hD hS hl
  unfold w_X11_land at h
  refine lv_aload_n hx hb dX11_land_0 rfl (lv_at hl 0 rfl) ?_
  refine xg_0_4 hx hb hts hown hK hP mw_293 dX11_land_1 ?_
  refine k_X5_read N ⟨hx, hb, hml, hown, hts⟩ mw_322 ⟨Nat.le_of_ble_eq_true rfl, Nat.le_of_ble_eq_true rfl⟩ h hK hP hD hS hl.1 (rest := []) (Nat.le_of_ble_eq_true rfl) ⟨Nat.le_of_ble_eq_true rfl, Nat.le_of_ble_eq_true rfl⟩ dX11_land_4 (fun r1 τ2 H locs h hP hD hS => ?_)
  refine lv_istore_n (lv' := [(1, .int r1), (0, .ref (ad 0))]) hx hb dX11_land_7 rfl hl (by decide) rfl (fun ls hl => ?_)
  refine lv_aload_n hx hb dX11_land_8 rfl (lv_at hl 1 rfl) ?_
  refine xg_0_0 hx hb hts hown hK hP mw_289 dX11_land_9 ?_
  refine lv_iconst (v := (0 : Int32)) hx hb dX11_land_12 (by decide) ?_
  refine xp_1_1 hx hb hts hown hK hP hD hS mw_36 dX11_land_13 (fun τ3 H locs eτ3 hP hD hS => ?_)
  have h := h τ3 eτ3
  refine lv_iload_n hx hb dX11_land_16 rfl (lv_at hl 0 rfl) ?_
  refine lv_if_ne (tgt := 22) hx hb dX11_land_17 (by decide) (fun hc => ?_) (fun hc => ?_)
  · have h := h.2 hc
    refine lv_aload_n hx hb dX11_land_22 rfl (lv_at hl 1 rfl) ?_
    refine xg_0_2 hx hb hts hown hK hP mw_291 dX11_land_23 ?_
    refine lv_aload_n hx hb dX11_land_26 rfl (lv_at hl 1 rfl) ?_
    refine xg_0_4 hx hb hts hown hK hP mw_293 dX11_land_27 ?_
    refine xg_5_1 hx hb hts hown hK hP mw_175 dX11_land_30 ?_
    refine k_X4_copy N ⟨hx, hb, hml, hown, hts⟩ mw_457 ⟨Nat.le_of_ble_eq_true rfl, Nat.le_of_ble_eq_true rfl⟩ h hK hP hD hS hl.1 (rest := []) (Nat.le_of_ble_eq_true rfl) ⟨Nat.le_of_ble_eq_true rfl, Nat.le_of_ble_eq_true rfl⟩ dX11_land_33 (fun τ5 H locs h hP hD hS => ?_)
    refine lv_aload_n hx hb dX11_land_36 rfl (lv_at hl 1 rfl) ?_
    refine xg_0_3 hx hb hts hown hK hP mw_292 dX11_land_37 ?_
    refine lv_aload_n hx hb dX11_land_40 rfl (lv_at hl 1 rfl) ?_
    refine xg_0_4 hx hb hts hown hK hP mw_293 dX11_land_41 ?_
    refine xg_5_2 hx hb hts hown hK hP mw_177 dX11_land_44 ?_
    refine k_X6_copy N ⟨hx, hb, hml, hown, hts⟩ mw_464 ⟨Nat.le_of_ble_eq_true rfl, Nat.le_of_ble_eq_true rfl⟩ h hK hP hD hS hl.1 (rest := []) (Nat.le_of_ble_eq_true rfl) ⟨Nat.le_of_ble_eq_true rfl, Nat.le_of_ble_eq_true rfl⟩ dX11_land_47 (fun τ7 H locs h hP hD hS => ?_)
    refine lv_aload_n hx hb dX11_land_50 rfl (lv_at hl 1 rfl) ?_
    refine k_X11_forget N ⟨hx, hb, hml, hown, hts⟩ mw_271 ⟨Nat.le_of_ble_eq_true rfl, Nat.le_of_ble_eq_true rfl⟩ h hK hP hD hS hl.1 (rest := []) (Nat.le_of_ble_eq_true rfl) ⟨Nat.le_of_ble_eq_true rfl, Nat.le_of_ble_eq_true rfl⟩ dX11_land_51 (fun τ9 H locs h hP hD hS => ?_)
    refine lv_aload_n hx hb dX11_land_54 rfl (lv_at hl 1 rfl) ?_
    refine xg_0_4 hx hb hts hown hK hP mw_293 dX11_land_55 ?_
    refine xg_5_4 hx hb hts hown hK hP mw_180 dX11_land_58 ?_
    exact zret_i hx hb hr hlocks hK hP hD hS h dX11_land_61
  · have h := h.1 hc
    refine lv_iconst (v := (-1 : Int32)) hx hb dX11_land_20 (by decide) ?_
    exact zret_i hx hb hr hlocks hK hP hD hS h dX11_land_21
set_option maxHeartbeats 4000000 in
set_option maxRecDepth 100000 in
theorem c_X11_land (N : Nat) (l : Launch) (dC : Nat → ClassId) (dI : Nat → Nat → Nat) (ad : Nat → Nat) (cI cJ : ClassId) (sz : Nat) (σ : zSt)  (Q : Int32 → zSt → Prop) (h : w_X11_land N  σ Q) : Met l yX11_land vs_X11_land rm_X11_land (va_Pc [.ref (ad 0)] (zPc (dC, dI) (x_ty cI cJ) (x_W ad cI cJ) sz σ)) (zQi (dC, dI) (x_ty cI cJ) (x_W ad cI cJ) (zAW x_n ad sz) Q) 0 0 (zAW x_n ad sz) := by
  refine Met.ofW (cc := cX11_land) (maxL := 2) (ret := (some .int)) (by decide) rfl ?_
  intro p e s m args below meth c s₁ B hml hv
  obtain ⟨rfl, hsz, hP, hK, hD0⟩ := hv
  subst hsz
  have C0 : zCx p s m meth c _ RX11 cX11_land 2 (some .int) vs_X11_land := ⟨B.exec, B.bytes, hml, B.returns, findClass_of_methodNamed B.named, atoms_spec (ws := vs_X11_land) B.pre, B.notSynchronized⟩
  have hD := x_D0 (n0 := s.heap.size) hD0
  have hl := lv_entry ([.ref (ad 0)]) (n := 2) (Nat.le_of_ble_eq_true rfl)
  rw [lg_entry_eq]
  generalize (lg_sl ([.ref (ad 0)]) ++ List.replicate (2 - (lg_sl ([.ref (ad 0)])).length) Slot.unset).toArray = ls at hl ⊢
  exact t_X11_land_0 C0 hK N  σ _ _ ls h hP hD va_S.rf hl
theorem k_X11_land (N : Nat) {R : Room} {H : Heap} {locs : List Loc} {cells slots : Nat} {Q2 : State → Prop} {cc : ByteArray} {nL pc index : Nat} {ls : Array Slot} {rest : List Value} {own : String} {c0 : Cond} {σ : zSt}  {Q : Int32 → zSt → Prop} (S0 : CallFix p m c cc nL s args (c0 :: zT) own) (hml : Cond.methodLink own index yX11_land ∈ zT) (hR : rm_X11_land.frames + 1 ≤ R.frames ∧ 8 + (2 + 11) + rm_X11_land.locals ≤ R.locals) (h : w_X11_land N  σ Q) (hK : va_K (dC, dI) vwCl (x_ty cI cJ) s) (hP : va_P (dC, dI) vwCl (x_W ad cI cJ σ) H) (hD : va_D (zAW x_n ad s.heap.size) (x_W ad cI cJ σ)) (hS : va_S (zAW x_n ad s.heap.size) s.heap H locs) (hsz : ls.size = nL) (hW : (rest.map fun v => v.category).sum ≤ 8) (hcs : cells ≤ R.cells ∧ slots ≤ R.slots) (hdg : decode cc pc = .ok (.invokevirtual index, 3)) (kk : ∀ (r : Int32) (τ : zSt) (H1 : Heap) (locs1 : List Loc), Q r τ → va_P (dC, dI) vwCl (x_W ad cI cJ τ) H1 → va_D (zAW x_n ad s.heap.size) (x_W ad cI cJ τ) → va_S (zAW x_n ad s.heap.size) s.heap H1 locs1 → W p l e R s m args below meth c H1 locs1 cells slots Q2 (F0 m (pc + 3) ls (.int r :: rest))) : W p l e R s m args below meth c H locs cells slots Q2 (F0 m pc ls (.ref (ad 0) :: rest)) :=
  zcv_i (T := TX11) (N' := 17) (k := 0) (ci := 11) (fs := x_f0 ad σ) [] S0 (c_X11_land N l dC dI ad cI cJ H.size σ  Q h) (cw_X11_land S0.2.2.2.2 hml rfl rfl hR) rfl rfl hK hP hD hS rfl hsz hW rfl hcs hdg kk
end q04
section q04
def w_X11_fault (N : Nat) (x1 : Int32) (σ : zSt) (Q : Int32 → zSt → Prop) : Prop :=
  (x1 = 0 → Q (σ.1 8) σ) ∧ (¬ x1 = 0 → (x1 = (1 : Int32) → Q (σ.1 9) σ) ∧ (¬ x1 = (1 : Int32) → Q (-1 : Int32) σ))
variable {p : Program} {l : Launch} {e : Env} {s : State} {m : MethodId} {args : Array Value} {below : List Frame} {meth : Method} {c : Code} {dC : Nat → ClassId} {dI : Nat → Nat → Nat} {ad : Nat → Nat} {cI cJ : ClassId}
set_option maxHeartbeats 4000000 in
set_option maxRecDepth 100000 in
theorem t_X11_fault_0 (C0 : zCx p s m meth c args RX11 cX11_fault 2 (some .int) vs_X11_fault) (hK : va_K (dC, dI) vwCl (x_ty cI cJ) s) (N : Nat) {Q : Int32 → zSt → Prop} : ∀ (x1 : Int32) (σ : zSt) (H : Heap) (locs : List Loc) (ls : Array Slot), w_X11_fault N x1 σ Q → va_P (dC, dI) vwCl (x_W ad cI cJ σ) H → va_D (zAW x_n ad s.heap.size) (x_W ad cI cJ σ) → va_S (zAW x_n ad s.heap.size) s.heap H locs → lv_has ls 2 [(0, .ref (ad 0)), (1, .int x1)] → W p l e rm_X11_fault s m args below meth c H locs 0 0 (MQ below (zQi (dC, dI) (x_ty cI cJ) (x_W ad cI cJ) (zAW x_n ad s.heap.size) Q) args s 0 0 (zAW x_n ad s.heap.size)) (F0 m 0 ls []) := by
  obtain ⟨hx, hb, hml, hr, hown, hts, hlocks⟩ := id C0
  intro x1 σ H locs ls h hP hD hS hl
  unfold w_X11_fault at h
  refine lv_iload_n hx hb dX11_fault_0 rfl (lv_at hl 1 rfl) ?_
  refine lv_if_ne (tgt := 12) hx hb dX11_fault_1 (by decide) (fun hc => ?_) (fun hc => ?_)
  · have h := h.2 hc
    refine lv_iload_n hx hb dX11_fault_12 rfl (lv_at hl 1 rfl) ?_
    refine lv_iconst (v := (1 : Int32)) hx hb dX11_fault_13 (by decide) ?_
    refine lv_icmp_ne (tgt := 27) hx hb dX11_fault_14 (by decide) (fun hc => ?_) (fun hc => ?_)
    · have h := h.2 hc
      refine lv_iconst (v := (-1 : Int32)) hx hb dX11_fault_27 (by decide) ?_
      exact zret_i hx hb hr hlocks hK hP hD hS h dX11_fault_28
    · have h := h.1 hc
      refine lv_aload_n hx hb dX11_fault_17 rfl (lv_at hl 0 rfl) ?_
      refine xg_0_4 hx hb hts hown hK hP mw_293 dX11_fault_18 ?_
      refine xg_5_6 hx hb hts hown hK hP mw_184 dX11_fault_21 ?_
      refine lv_goto (tgt := 28) hx hb dX11_fault_24 (by decide) ?_
      exact zret_i hx hb hr hlocks hK hP hD hS h dX11_fault_28
  · have h := h.1 hc
    refine lv_aload_n hx hb dX11_fault_4 rfl (lv_at hl 0 rfl) ?_
    refine xg_0_4 hx hb hts hown hK hP mw_293 dX11_fault_5 ?_
    refine xg_5_5 hx hb hts hown hK hP mw_182 dX11_fault_8 ?_
    exact zret_i hx hb hr hlocks hK hP hD hS h dX11_fault_11
set_option maxHeartbeats 4000000 in
set_option maxRecDepth 100000 in
theorem c_X11_fault (N : Nat) (l : Launch) (dC : Nat → ClassId) (dI : Nat → Nat → Nat) (ad : Nat → Nat) (cI cJ : ClassId) (sz : Nat) (σ : zSt) (x1 : Int32) (Q : Int32 → zSt → Prop) (h : w_X11_fault N x1 σ Q) : Met l yX11_fault vs_X11_fault rm_X11_fault (va_Pc [.ref (ad 0), .int x1] (zPc (dC, dI) (x_ty cI cJ) (x_W ad cI cJ) sz σ)) (zQi (dC, dI) (x_ty cI cJ) (x_W ad cI cJ) (zAW x_n ad sz) Q) 0 0 (zAW x_n ad sz) := by
  refine Met.ofW (cc := cX11_fault) (maxL := 2) (ret := (some .int)) (by decide) rfl ?_
  intro p e s m args below meth c s₁ B hml hv
  obtain ⟨rfl, hsz, hP, hK, hD0⟩ := hv
  subst hsz
  have C0 : zCx p s m meth c _ RX11 cX11_fault 2 (some .int) vs_X11_fault := ⟨B.exec, B.bytes, hml, B.returns, findClass_of_methodNamed B.named, atoms_spec (ws := vs_X11_fault) B.pre, B.notSynchronized⟩
  have hD := x_D0 (n0 := s.heap.size) hD0
  have hl := lv_entry ([.ref (ad 0), .int x1]) (n := 2) (Nat.le_of_ble_eq_true rfl)
  rw [lg_entry_eq]
  generalize (lg_sl ([.ref (ad 0), .int x1]) ++ List.replicate (2 - (lg_sl ([.ref (ad 0), .int x1])).length) Slot.unset).toArray = ls at hl ⊢
  exact t_X11_fault_0 C0 hK N x1 σ _ _ ls h hP hD va_S.rf hl
theorem k_X11_fault (N : Nat) {R : Room} {H : Heap} {locs : List Loc} {cells slots : Nat} {Q2 : State → Prop} {cc : ByteArray} {nL pc index : Nat} {ls : Array Slot} {rest : List Value} {own : String} {c0 : Cond} {σ : zSt} {x1 : Int32} {Q : Int32 → zSt → Prop} (S0 : CallFix p m c cc nL s args (c0 :: zT) own) (hml : Cond.methodLink own index yX11_fault ∈ zT) (hR : rm_X11_fault.frames + 1 ≤ R.frames ∧ 8 + (2 + 11) + rm_X11_fault.locals ≤ R.locals) (h : w_X11_fault N x1 σ Q) (hK : va_K (dC, dI) vwCl (x_ty cI cJ) s) (hP : va_P (dC, dI) vwCl (x_W ad cI cJ σ) H) (hD : va_D (zAW x_n ad s.heap.size) (x_W ad cI cJ σ)) (hS : va_S (zAW x_n ad s.heap.size) s.heap H locs) (hsz : ls.size = nL) (hW : (rest.map fun v => v.category).sum ≤ 8) (hcs : cells ≤ R.cells ∧ slots ≤ R.slots) (hdg : decode cc pc = .ok (.invokevirtual index, 3)) (kk : ∀ (r : Int32) (τ : zSt) (H1 : Heap) (locs1 : List Loc), Q r τ → va_P (dC, dI) vwCl (x_W ad cI cJ τ) H1 → va_D (zAW x_n ad s.heap.size) (x_W ad cI cJ τ) → va_S (zAW x_n ad s.heap.size) s.heap H1 locs1 → W p l e R s m args below meth c H1 locs1 cells slots Q2 (F0 m (pc + 3) ls (.int r :: rest))) : W p l e R s m args below meth c H locs cells slots Q2 (F0 m pc ls (.int x1 :: .ref (ad 0) :: rest)) :=
  zcv_i (T := TX11) (N' := 17) (k := 0) (ci := 11) (fs := x_f0 ad σ) [.int x1] S0 (c_X11_fault N l dC dI ad cI cJ H.size σ x1 Q h) (cw_X11_fault S0.2.2.2.2 hml rfl rfl hR) rfl rfl hK hP hD hS rfl hsz hW rfl hcs hdg kk
end q04
section q04
def b_X6_countOf_4 (N : Nat) (k_4 : Int32 → Int32 → Int32 → zSt → Prop) (Q : Int32 → zSt → Prop) (x1 : Int32) (x2 : Int32) (x3 : Int32) (σ : zSt) : Prop :=
  ((σ.1 4) ≤ x3 → Q x2 σ) ∧ (¬ (σ.1 4) ≤ x3 → (vp_in x3 20) ∧ (((σ.2.2.1 8 x3.toNatClampNeg) = x1 → ∀ v3 : Int32, v3 = x2 + (1 : Int32) → ∀ v4 : Int32, v4 = x3 + (1 : Int32) → k_4 x1 v3 v4 σ) ∧ (¬ (σ.2.2.1 8 x3.toNatClampNeg) = x1 → ∀ v1 : Int32, v1 = x2 + (0 : Int32) → ∀ v2 : Int32, v2 = x3 + (1 : Int32) → k_4 x1 v1 v2 σ)))
def w_X6_countOf_4 (N : Nat) (Q : Int32 → zSt → Prop) : Nat → Int32 → Int32 → Int32 → zSt → Prop
  | 0 => fun _ _ _ _ => False
  | f + 1 => b_X6_countOf_4 N (w_X6_countOf_4 N  Q f) Q
def w_X6_countOf (N : Nat) (x1 : Int32) (σ : zSt) (Q : Int32 → zSt → Prop) : Prop :=
  w_X6_countOf_4 N Q N x1 (0 : Int32) (0 : Int32) σ
variable {p : Program} {l : Launch} {e : Env} {s : State} {m : MethodId} {args : Array Value} {below : List Frame} {meth : Method} {c : Code} {dC : Nat → ClassId} {dI : Nat → Nat → Nat} {ad : Nat → Nat} {cI cJ : ClassId}
set_option maxHeartbeats 4000000 in
set_option maxRecDepth 100000 in
theorem tb_X6_countOf_4 (C0 : zCx p s m meth c args RX6 cX6_countOf 4 (some .int) vs_X6_countOf) (hK : va_K (dC, dI) vwCl (x_ty cI cJ) s) (N : Nat) {Q : Int32 → zSt → Prop} {k_4 : Int32 → Int32 → Int32 → zSt → Prop} (hk_4 : ∀ (x1 : Int32) (x2 : Int32) (x3 : Int32) (σ : zSt) (H : Heap) (locs : List Loc) (ls : Array Slot), k_4 x1 x2 x3 σ → va_P (dC, dI) vwCl (x_W ad cI cJ σ) H → va_D (zAW x_n ad s.heap.size) (x_W ad cI cJ σ) → va_S (zAW x_n ad s.heap.size) s.heap H locs → lv_has ls 4 [(0, .ref (ad 4)), (1, .int x1), (2, .int x2), (3, .int x3)] → W p l e rm_X6_countOf s m args below meth c H locs 0 0 (MQ below (zQi (dC, dI) (x_ty cI cJ) (x_W ad cI cJ) (zAW x_n ad s.heap.size) Q) args s 0 0 (zAW x_n ad s.heap.size)) (F0 m 4 ls [])) : ∀ (x1 : Int32) (x2 : Int32) (x3 : Int32) (σ : zSt) (H : Heap) (locs : List Loc) (ls : Array Slot), b_X6_countOf_4 N k_4 Q x1 x2 x3 σ → va_P (dC, dI) vwCl (x_W ad cI cJ σ) H → va_D (zAW x_n ad s.heap.size) (x_W ad cI cJ σ) → va_S (zAW x_n ad s.heap.size) s.heap H locs → lv_has ls 4 [(0, .ref (ad 4)), (1, .int x1), (2, .int x2), (3, .int x3)] → W p l e rm_X6_countOf s m args below meth c H locs 0 0 (MQ below (zQi (dC, dI) (x_ty cI cJ) (x_W ad cI cJ) (zAW x_n ad s.heap.size) Q) args s 0 0 (zAW x_n ad s.heap.size)) (F0 m 4 ls []) := by
  obtain ⟨hx, hb, hml, hr, hown, hts, hlocks⟩ := id C0
  intro x1 x2 x3 σ H locs ls h hP hD hS hl
  unfold b_X6_countOf_4 at h
  refine lv_iload_n hx hb dX6_countOf_4 rfl (lv_at hl 3 rfl) ?_
  refine lv_aload_n hx hb dX6_countOf_5 rfl (lv_at hl 0 rfl) ?_
  refine xg_4_7 hx hb hts hown hK hP mw_100 dX6_countOf_6 ?_
  refine lv_icmp_ge (tgt := 36) hx hb dX6_countOf_9 (by decide) (fun hc => ?_) (fun hc => ?_)
  · have h := h.1 hc
    refine lv_iload_n hx hb dX6_countOf_36 rfl (lv_at hl 2 rfl) ?_
    exact zret_i hx hb hr hlocks hK hP hD hS h dX6_countOf_37
  · have h := h.2 hc
    refine lv_iload_n hx hb dX6_countOf_12 rfl (lv_at hl 2 rfl) ?_
    refine lv_aload_n hx hb dX6_countOf_13 rfl (lv_at hl 0 rfl) ?_
    refine xg_4_0 hx hb hts hown hK hP mw_92 dX6_countOf_14 ?_
    refine lv_iload_n hx hb dX6_countOf_17 rfl (lv_at hl 3 rfl) ?_
    refine xa_26 hx hb hK hP h.1 rfl dX6_countOf_18 ?_
    have h := h.2
    refine lv_iload_n hx hb dX6_countOf_19 rfl (lv_at hl 1 rfl) ?_
    refine lv_icmp_ne (tgt := 27) hx hb dX6_countOf_20 (by decide) (fun hc => ?_) (fun hc => ?_)
    · have h := h.2 hc
      refine lv_iconst (v := (0 : Int32)) hx hb dX6_countOf_27 (by decide) ?_
      refine lv_iadd hx hb dX6_countOf_28 ?_
      refine lv_topi (fun v1 ev1 => ?_)
      have h := h v1 ev1
      refine lv_istore_n (lv' := [(2, .int v1), (0, .ref (ad 4)), (1, .int x1), (3, .int x3)]) hx hb dX6_countOf_29 rfl hl (by decide) rfl (fun ls hl => ?_)
      obtain ⟨v2, ev2⟩ : ∃ z : Int32, z = x3 + (1 : Int32) := ⟨_, rfl⟩
      have h := h v2 ev2
      refine lv_iinc (v := v2) (lv' := [(3, .int v2), (2, .int v1), (0, .ref (ad 4)), (1, .int x1)]) hx hb dX6_countOf_30 hl (k := 3) rfl (by rw [ev2]; rfl) (by decide) rfl (fun ls hl => ?_)
      refine lv_goto (tgt := 4) hx hb dX6_countOf_33 (by decide) ?_
      exact hk_4 x1 v1 v2 σ _ _ _ h hP hD hS (lv_sub hl [2, 3, 1, 0] rfl)
    · have h := h.1 hc
      refine lv_iconst (v := (1 : Int32)) hx hb dX6_countOf_23 (by decide) ?_
      refine lv_goto (tgt := 28) hx hb dX6_countOf_24 (by decide) ?_
      refine lv_iadd hx hb dX6_countOf_28 ?_
      refine lv_topi (fun v3 ev3 => ?_)
      have h := h v3 ev3
      refine lv_istore_n (lv' := [(2, .int v3), (0, .ref (ad 4)), (1, .int x1), (3, .int x3)]) hx hb dX6_countOf_29 rfl hl (by decide) rfl (fun ls hl => ?_)
      obtain ⟨v4, ev4⟩ : ∃ z : Int32, z = x3 + (1 : Int32) := ⟨_, rfl⟩
      have h := h v4 ev4
      refine lv_iinc (v := v4) (lv' := [(3, .int v4), (2, .int v3), (0, .ref (ad 4)), (1, .int x1)]) hx hb dX6_countOf_30 hl (k := 3) rfl (by rw [ev4]; rfl) (by decide) rfl (fun ls hl => ?_)
      refine lv_goto (tgt := 4) hx hb dX6_countOf_33 (by decide) ?_
      exact hk_4 x1 v3 v4 σ _ _ _ h hP hD hS (lv_sub hl [2, 3, 1, 0] rfl)
set_option maxHeartbeats 4000000 in
set_option maxRecDepth 100000 in
theorem t_X6_countOf_4 (C0 : zCx p s m meth c args RX6 cX6_countOf 4 (some .int) vs_X6_countOf) (hK : va_K (dC, dI) vwCl (x_ty cI cJ) s) (N : Nat) {Q : Int32 → zSt → Prop} : ∀ (f : Nat) (x1 : Int32) (x2 : Int32) (x3 : Int32) (σ : zSt) (H : Heap) (locs : List Loc) (ls : Array Slot), w_X6_countOf_4 N  Q f x1 x2 x3 σ → va_P (dC, dI) vwCl (x_W ad cI cJ σ) H → va_D (zAW x_n ad s.heap.size) (x_W ad cI cJ σ) → va_S (zAW x_n ad s.heap.size) s.heap H locs → lv_has ls 4 [(0, .ref (ad 4)), (1, .int x1), (2, .int x2), (3, .int x3)] → W p l e rm_X6_countOf s m args below meth c H locs 0 0 (MQ below (zQi (dC, dI) (x_ty cI cJ) (x_W ad cI cJ) (zAW x_n ad s.heap.size) Q) args s 0 0 (zAW x_n ad s.heap.size)) (F0 m 4 ls []) := by
  intro f
  induction f with
  | zero => intro x1 x2 x3 σ H locs ls h; exact h.elim
  | succ f ih =>
    intro x1 x2 x3 σ H locs ls h hP hD hS hl
    exact tb_X6_countOf_4 C0 hK N  (k_4 := w_X6_countOf_4 N  Q f) ih x1 x2 x3 σ H locs ls h hP hD hS hl
set_option maxHeartbeats 4000000 in
set_option maxRecDepth 100000 in
theorem t_X6_countOf_0 (C0 : zCx p s m meth c args RX6 cX6_countOf 4 (some .int) vs_X6_countOf) (hK : va_K (dC, dI) vwCl (x_ty cI cJ) s) (N : Nat) {Q : Int32 → zSt → Prop} : ∀ (x1 : Int32) (σ : zSt) (H : Heap) (locs : List Loc) (ls : Array Slot), w_X6_countOf N x1 σ Q → va_P (dC, dI) vwCl (x_W ad cI cJ σ) H → va_D (zAW x_n ad s.heap.size) (x_W ad cI cJ σ) → va_S (zAW x_n ad s.heap.size) s.heap H locs → lv_has ls 4 [(0, .ref (ad 4)), (1, .int x1)] → W p l e rm_X6_countOf s m args below meth c H locs 0 0 (MQ below (zQi (dC, dI) (x_ty cI cJ) (x_W ad cI cJ) (zAW x_n ad s.heap.size) Q) args s 0 0 (zAW x_n ad s.heap.size)) (F0 m 0 ls []) := by
  obtain ⟨hx, hb, hml, hr, hown, hts, hlocks⟩ := id C0
  intro x1 σ H locs ls h hP hD hS hl
  unfold w_X6_countOf at h
  refine lv_iconst (v := (0 : Int32)) hx hb dX6_countOf_0 (by decide) ?_
  refine lv_istore_n (lv' := [(2, .int (0 : Int32)), (0, .ref (ad 4)), (1, .int x1)]) hx hb dX6_countOf_1 rfl hl (by decide) rfl (fun ls hl => ?_)
  refine lv_iconst (v := (0 : Int32)) hx hb dX6_countOf_2 (by decide) ?_
  refine lv_istore_n (lv' := [(3, .int (0 : Int32)), (2, .int (0 : Int32)), (0, .ref (ad 4)), (1, .int x1)]) hx hb dX6_countOf_3 rfl hl (by decide) rfl (fun ls hl => ?_)
  exact t_X6_countOf_4 C0 hK N  N x1 (0 : Int32) (0 : Int32) σ _ _ _ h hP hD hS (lv_sub hl [2, 3, 1, 0] rfl)
set_option maxHeartbeats 4000000 in
set_option maxRecDepth 100000 in
theorem c_X6_countOf (N : Nat) (l : Launch) (dC : Nat → ClassId) (dI : Nat → Nat → Nat) (ad : Nat → Nat) (cI cJ : ClassId) (sz : Nat) (σ : zSt) (x1 : Int32) (Q : Int32 → zSt → Prop) (h : w_X6_countOf N x1 σ Q) : Met l yX6_countOf vs_X6_countOf rm_X6_countOf (va_Pc [.ref (ad 4), .int x1] (zPc (dC, dI) (x_ty cI cJ) (x_W ad cI cJ) sz σ)) (zQi (dC, dI) (x_ty cI cJ) (x_W ad cI cJ) (zAW x_n ad sz) Q) 0 0 (zAW x_n ad sz) := by
  refine Met.ofW (cc := cX6_countOf) (maxL := 4) (ret := (some .int)) (by decide) rfl ?_
  intro p e s m args below meth c s₁ B hml hv
  obtain ⟨rfl, hsz, hP, hK, hD0⟩ := hv
  subst hsz
  have C0 : zCx p s m meth c _ RX6 cX6_countOf 4 (some .int) vs_X6_countOf := ⟨B.exec, B.bytes, hml, B.returns, findClass_of_methodNamed B.named, atoms_spec (ws := vs_X6_countOf) B.pre, B.notSynchronized⟩
  have hD := x_D0 (n0 := s.heap.size) hD0
  have hl := lv_entry ([.ref (ad 4), .int x1]) (n := 4) (Nat.le_of_ble_eq_true rfl)
  rw [lg_entry_eq]
  generalize (lg_sl ([.ref (ad 4), .int x1]) ++ List.replicate (4 - (lg_sl ([.ref (ad 4), .int x1])).length) Slot.unset).toArray = ls at hl ⊢
  exact t_X6_countOf_0 C0 hK N x1 σ _ _ ls h hP hD va_S.rf hl
theorem k_X6_countOf (N : Nat) {R : Room} {H : Heap} {locs : List Loc} {cells slots : Nat} {Q2 : State → Prop} {cc : ByteArray} {nL pc index : Nat} {ls : Array Slot} {rest : List Value} {own : String} {c0 : Cond} {σ : zSt} {x1 : Int32} {Q : Int32 → zSt → Prop} (S0 : CallFix p m c cc nL s args (c0 :: zT) own) (hml : Cond.methodLink own index yX6_countOf ∈ zT) (hR : rm_X6_countOf.frames + 1 ≤ R.frames ∧ 8 + (4 + 11) + rm_X6_countOf.locals ≤ R.locals) (h : w_X6_countOf N x1 σ Q) (hK : va_K (dC, dI) vwCl (x_ty cI cJ) s) (hP : va_P (dC, dI) vwCl (x_W ad cI cJ σ) H) (hD : va_D (zAW x_n ad s.heap.size) (x_W ad cI cJ σ)) (hS : va_S (zAW x_n ad s.heap.size) s.heap H locs) (hsz : ls.size = nL) (hW : (rest.map fun v => v.category).sum ≤ 8) (hcs : cells ≤ R.cells ∧ slots ≤ R.slots) (hdg : decode cc pc = .ok (.invokevirtual index, 3)) (kk : ∀ (r : Int32) (τ : zSt) (H1 : Heap) (locs1 : List Loc), Q r τ → va_P (dC, dI) vwCl (x_W ad cI cJ τ) H1 → va_D (zAW x_n ad s.heap.size) (x_W ad cI cJ τ) → va_S (zAW x_n ad s.heap.size) s.heap H1 locs1 → W p l e R s m args below meth c H1 locs1 cells slots Q2 (F0 m (pc + 3) ls (.int r :: rest))) : W p l e R s m args below meth c H locs cells slots Q2 (F0 m pc ls (.int x1 :: .ref (ad 4) :: rest)) :=
  zcv_i (T := TX6) (N' := 10) (k := 4) (ci := 6) (fs := x_f4 ad σ) [.int x1] S0 (c_X6_countOf N l dC dI ad cI cJ H.size σ x1 Q h) (cw_X6_countOf S0.2.2.2.2 hml rfl rfl hR) rfl rfl hK hP hD hS rfl hsz hW rfl hcs hdg kk
end q04
section q04
def w_J13_bitCount_95d88 (N : Nat) (x0 : Int64) (σ : zSt) (Q : Int32 → zSt → Prop) : Prop :=
  ∀ v1 : Int64, v1 = x0 - (((x0.toUInt64 >>> ((1 : Int32).toInt64.toUInt64 &&& Int64.toUInt64 63)).toInt64) &&& (6148914691236517205 : Int64)) → ∀ v2 : Int64, v2 = (v1 &&& (3689348814741910323 : Int64)) + (((v1.toUInt64 >>> ((2 : Int32).toInt64.toUInt64 &&& Int64.toUInt64 63)).toInt64) &&& (3689348814741910323 : Int64)) → ∀ v3 : Int64, v3 = (v2 + ((v2.toUInt64 >>> ((4 : Int32).toInt64.toUInt64 &&& Int64.toUInt64 63)).toInt64)) &&& (1085102592571150095 : Int64) → ∀ v4 : Int64, v4 = v3 + ((v3.toUInt64 >>> ((8 : Int32).toInt64.toUInt64 &&& Int64.toUInt64 63)).toInt64) → ∀ v5 : Int64, v5 = v4 + ((v4.toUInt64 >>> ((16 : Int32).toInt64.toUInt64 &&& Int64.toUInt64 63)).toInt64) → ∀ v6 : Int64, v6 = v5 + ((v5.toUInt64 >>> ((32 : Int32).toInt64.toUInt64 &&& Int64.toUInt64 63)).toInt64) → Q (v6.toInt32 &&& (127 : Int32)) σ
variable {p : Program} {l : Launch} {e : Env} {s : State} {m : MethodId} {args : Array Value} {below : List Frame} {meth : Method} {c : Code} {dC : Nat → ClassId} {dI : Nat → Nat → Nat} {ad : Nat → Nat} {cI cJ : ClassId}
set_option maxHeartbeats 4000000 in
set_option maxRecDepth 100000 in
theorem t_J13_bitCount_95d88_0 (C0 : zCx p s m meth c args RJ13 cJ13_bitCount_95d88 2 (some .int) vs_J13_bitCount_95d88) (hK : va_K (dC, dI) vwCl (x_ty cI cJ) s) (N : Nat) {Q : Int32 → zSt → Prop} : ∀ (x0 : Int64) (σ : zSt) (H : Heap) (locs : List Loc) (ls : Array Slot), w_J13_bitCount_95d88 N x0 σ Q → va_P (dC, dI) vwCl (x_W ad cI cJ σ) H → va_D (zAW x_n ad s.heap.size) (x_W ad cI cJ σ) → va_S (zAW x_n ad s.heap.size) s.heap H locs → lv_has ls 2 [(0, .long x0)] → W p l e rm_J13_bitCount_95d88 s m args below meth c H locs 0 0 (MQ below (zQi (dC, dI) (x_ty cI cJ) (x_W ad cI cJ) (zAW x_n ad s.heap.size) Q) args s 0 0 (zAW x_n ad s.heap.size)) (F0 m 0 ls []) := by
  obtain ⟨hx, hb, hml, hr, hown, hts, hlocks⟩ := id C0
  intro x0 σ H locs ls h hP hD hS hl
  unfold w_J13_bitCount_95d88 at h
  refine lv_lload_n hx hb dJ13_bitCount_95d88_0 rfl (lv_at hl 0 rfl) ?_
  refine lv_lload_n hx hb dJ13_bitCount_95d88_1 rfl (lv_at hl 0 rfl) ?_
  refine lv_iconst (v := (1 : Int32)) hx hb dJ13_bitCount_95d88_2 (by decide) ?_
  refine lv_lushr hx hb dJ13_bitCount_95d88_3 rfl ?_
  refine lv_ldc2 (v := (6148914691236517205 : Int64)) hx hb hown (hts _ (List.mem_cons_of_mem _ mw_484)) dJ13_bitCount_95d88_4 ?_
  refine lv_land hx hb dJ13_bitCount_95d88_7 ?_
  refine lv_lsub hx hb dJ13_bitCount_95d88_8 ?_
  refine lv_topl (fun v1 ev1 => ?_)
  have h := h v1 ev1
  refine lv_lstore_n (lv' := [(0, .long v1)]) hx hb dJ13_bitCount_95d88_9 rfl hl (by decide) rfl (fun ls hl => ?_)
  refine lv_lload_n hx hb dJ13_bitCount_95d88_10 rfl (lv_at hl 0 rfl) ?_
  refine lv_ldc2 (v := (3689348814741910323 : Int64)) hx hb hown (hts _ (List.mem_cons_of_mem _ mw_485)) dJ13_bitCount_95d88_11 ?_
  refine lv_land hx hb dJ13_bitCount_95d88_14 ?_
  refine lv_lload_n hx hb dJ13_bitCount_95d88_15 rfl (lv_at hl 0 rfl) ?_
  refine lv_iconst (v := (2 : Int32)) hx hb dJ13_bitCount_95d88_16 (by decide) ?_
  refine lv_lushr hx hb dJ13_bitCount_95d88_17 rfl ?_
  refine lv_ldc2 (v := (3689348814741910323 : Int64)) hx hb hown (hts _ (List.mem_cons_of_mem _ mw_485)) dJ13_bitCount_95d88_18 ?_
  refine lv_land hx hb dJ13_bitCount_95d88_21 ?_
  refine lv_ladd hx hb dJ13_bitCount_95d88_22 ?_
  refine lv_topl (fun v2 ev2 => ?_)
  have h := h v2 ev2
  refine lv_lstore_n (lv' := [(0, .long v2)]) hx hb dJ13_bitCount_95d88_23 rfl hl (by decide) rfl (fun ls hl => ?_)
  refine lv_lload_n hx hb dJ13_bitCount_95d88_24 rfl (lv_at hl 0 rfl) ?_
  refine lv_lload_n hx hb dJ13_bitCount_95d88_25 rfl (lv_at hl 0 rfl) ?_
  refine lv_iconst (v := (4 : Int32)) hx hb dJ13_bitCount_95d88_26 (by decide) ?_
  refine lv_lushr hx hb dJ13_bitCount_95d88_27 rfl ?_
  refine lv_ladd hx hb dJ13_bitCount_95d88_28 ?_
  refine lv_ldc2 (v := (1085102592571150095 : Int64)) hx hb hown (hts _ (List.mem_cons_of_mem _ mw_486)) dJ13_bitCount_95d88_29 ?_
  refine lv_land hx hb dJ13_bitCount_95d88_32 ?_
  refine lv_topl (fun v3 ev3 => ?_)
  have h := h v3 ev3
  refine lv_lstore_n (lv' := [(0, .long v3)]) hx hb dJ13_bitCount_95d88_33 rfl hl (by decide) rfl (fun ls hl => ?_)
  refine lv_lload_n hx hb dJ13_bitCount_95d88_34 rfl (lv_at hl 0 rfl) ?_
  refine lv_lload_n hx hb dJ13_bitCount_95d88_35 rfl (lv_at hl 0 rfl) ?_
  refine lv_bipush (v := (8 : Int32)) hx hb dJ13_bitCount_95d88_36 (by decide) ?_
  refine lv_lushr hx hb dJ13_bitCount_95d88_38 rfl ?_
  refine lv_ladd hx hb dJ13_bitCount_95d88_39 ?_
  refine lv_topl (fun v4 ev4 => ?_)
  have h := h v4 ev4
  refine lv_lstore_n (lv' := [(0, .long v4)]) hx hb dJ13_bitCount_95d88_40 rfl hl (by decide) rfl (fun ls hl => ?_)
  refine lv_lload_n hx hb dJ13_bitCount_95d88_41 rfl (lv_at hl 0 rfl) ?_
  refine lv_lload_n hx hb dJ13_bitCount_95d88_42 rfl (lv_at hl 0 rfl) ?_
  refine lv_bipush (v := (16 : Int32)) hx hb dJ13_bitCount_95d88_43 (by decide) ?_
  refine lv_lushr hx hb dJ13_bitCount_95d88_45 rfl ?_
  refine lv_ladd hx hb dJ13_bitCount_95d88_46 ?_
  refine lv_topl (fun v5 ev5 => ?_)
  have h := h v5 ev5
  refine lv_lstore_n (lv' := [(0, .long v5)]) hx hb dJ13_bitCount_95d88_47 rfl hl (by decide) rfl (fun ls hl => ?_)
  refine lv_lload_n hx hb dJ13_bitCount_95d88_48 rfl (lv_at hl 0 rfl) ?_
  refine lv_lload_n hx hb dJ13_bitCount_95d88_49 rfl (lv_at hl 0 rfl) ?_
  refine lv_bipush (v := (32 : Int32)) hx hb dJ13_bitCount_95d88_50 (by decide) ?_
  refine lv_lushr hx hb dJ13_bitCount_95d88_52 rfl ?_
  refine lv_ladd hx hb dJ13_bitCount_95d88_53 ?_
  refine lv_topl (fun v6 ev6 => ?_)
  have h := h v6 ev6
  refine lv_lstore_n (lv' := [(0, .long v6)]) hx hb dJ13_bitCount_95d88_54 rfl hl (by decide) rfl (fun ls hl => ?_)
  refine lv_lload_n hx hb dJ13_bitCount_95d88_55 rfl (lv_at hl 0 rfl) ?_
  refine lv_l2i hx hb dJ13_bitCount_95d88_56 rfl ?_
  refine lv_bipush (v := (127 : Int32)) hx hb dJ13_bitCount_95d88_57 (by decide) ?_
  refine lv_iand hx hb dJ13_bitCount_95d88_59 ?_
  exact zret_i hx hb hr hlocks hK hP hD hS h dJ13_bitCount_95d88_60
set_option maxHeartbeats 4000000 in
set_option maxRecDepth 100000 in
theorem c_J13_bitCount_95d88 (N : Nat) (l : Launch) (dC : Nat → ClassId) (dI : Nat → Nat → Nat) (ad : Nat → Nat) (cI cJ : ClassId) (sz : Nat) (σ : zSt) (x0 : Int64) (Q : Int32 → zSt → Prop) (h : w_J13_bitCount_95d88 N x0 σ Q) : Met l yJ13_bitCount_95d88 vs_J13_bitCount_95d88 rm_J13_bitCount_95d88 (va_Pc [.long x0] (zPc (dC, dI) (x_ty cI cJ) (x_W ad cI cJ) sz σ)) (zQi (dC, dI) (x_ty cI cJ) (x_W ad cI cJ) (zAW x_n ad sz) Q) 0 0 (zAW x_n ad sz) := by
  refine Met.ofW (cc := cJ13_bitCount_95d88) (maxL := 2) (ret := (some .int)) (by decide) rfl ?_
  intro p e s m args below meth c s₁ B hml hv
  obtain ⟨rfl, hsz, hP, hK, hD0⟩ := hv
  subst hsz
  have C0 : zCx p s m meth c _ RJ13 cJ13_bitCount_95d88 2 (some .int) vs_J13_bitCount_95d88 := ⟨B.exec, B.bytes, hml, B.returns, findClass_of_methodNamed B.named, atoms_spec (ws := vs_J13_bitCount_95d88) B.pre, B.notSynchronized⟩
  have hD := x_D0 (n0 := s.heap.size) hD0
  have hl := lv_entry ([.long x0]) (n := 2) (Nat.le_of_ble_eq_true rfl)
  rw [lg_entry_eq]
  generalize (lg_sl ([.long x0]) ++ List.replicate (2 - (lg_sl ([.long x0])).length) Slot.unset).toArray = ls at hl ⊢
  exact t_J13_bitCount_95d88_0 C0 hK N x0 σ _ _ ls h hP hD va_S.rf hl
theorem k_J13_bitCount_95d88 (N : Nat) {R : Room} {H : Heap} {locs : List Loc} {cells slots : Nat} {Q2 : State → Prop} {cc : ByteArray} {nL pc index : Nat} {ls : Array Slot} {rest : List Value} {own : String} {c0 : Cond} {σ : zSt} {x0 : Int64} {Q : Int32 → zSt → Prop} (S0 : CallFix p m c cc nL s args (c0 :: zT) own) (hml : Cond.methodLink own index yJ13_bitCount_95d88 ∈ zT) (hR : rm_J13_bitCount_95d88.frames + 1 ≤ R.frames ∧ 8 + (2 + 11) + rm_J13_bitCount_95d88.locals ≤ R.locals) (h : w_J13_bitCount_95d88 N x0 σ Q) (hK : va_K (dC, dI) vwCl (x_ty cI cJ) s) (hP : va_P (dC, dI) vwCl (x_W ad cI cJ σ) H) (hD : va_D (zAW x_n ad s.heap.size) (x_W ad cI cJ σ)) (hS : va_S (zAW x_n ad s.heap.size) s.heap H locs) (hsz : ls.size = nL) (hW : (rest.map fun v => v.category).sum ≤ 8) (hcs : cells ≤ R.cells ∧ slots ≤ R.slots) (hdg : decode cc pc = .ok (.invokestatic index, 3)) (kk : ∀ (r : Int32) (τ : zSt) (H1 : Heap) (locs1 : List Loc), Q r τ → va_P (dC, dI) vwCl (x_W ad cI cJ τ) H1 → va_D (zAW x_n ad s.heap.size) (x_W ad cI cJ τ) → va_S (zAW x_n ad s.heap.size) s.heap H1 locs1 → W p l e R s m args below meth c H1 locs1 cells slots Q2 (F0 m (pc + 3) ls (.int r :: rest))) : W p l e R s m args below meth c H locs cells slots Q2 (F0 m pc ls (.long x0 :: rest)) :=
  zcs_i [.long x0] S0 (c_J13_bitCount_95d88 N l dC dI ad cI cJ H.size σ x0 Q h) (cw_J13_bitCount_95d88 S0.2.2.2.2 hml hR) hK hP hD hS rfl hsz hW rfl hcs hdg kk
end q04
section q04
def w_X11_has (N : Nat) (x1 : Int32) (σ : zSt) (Q : Int32 → zSt → Prop) : Prop :=
  (x1 = (0 : Int32) → Q (σ.1 1) σ) ∧ (¬ x1 = (0 : Int32) → (x1 = (1 : Int32) → Q (σ.1 2) σ) ∧ (¬ x1 = (1 : Int32) → (x1 = (2 : Int32) → w_X6_countOf N (0 : Int32) σ (fun r1 τ2 => Q r1 τ2)) ∧ (¬ x1 = (2 : Int32) → (x1 = (3 : Int32) → w_X6_countOf N (1 : Int32) σ (fun r3 τ4 => Q r3 τ4)) ∧ (¬ x1 = (3 : Int32) → (x1 = (4 : Int32) → Q (σ.1 25) σ) ∧ (¬ x1 = (4 : Int32) → (x1 = (5 : Int32) → w_J13_bitCount_95d88 N (σ.2.1 0) σ (fun r5 τ6 => Q r5 τ6)) ∧ (¬ x1 = (5 : Int32) → Q (-1 : Int32) σ))))))
variable {p : Program} {l : Launch} {e : Env} {s : State} {m : MethodId} {args : Array Value} {below : List Frame} {meth : Method} {c : Code} {dC : Nat → ClassId} {dI : Nat → Nat → Nat} {ad : Nat → Nat} {cI cJ : ClassId}
set_option maxHeartbeats 4000000 in
set_option maxRecDepth 100000 in
theorem t_X11_has_0 (C0 : zCx p s m meth c args RX11 cX11_has 2 (some .int) vs_X11_has) (hK : va_K (dC, dI) vwCl (x_ty cI cJ) s) (N : Nat) {Q : Int32 → zSt → Prop} : ∀ (x1 : Int32) (σ : zSt) (H : Heap) (locs : List Loc) (ls : Array Slot), w_X11_has N x1 σ Q → va_P (dC, dI) vwCl (x_W ad cI cJ σ) H → va_D (zAW x_n ad s.heap.size) (x_W ad cI cJ σ) → va_S (zAW x_n ad s.heap.size) s.heap H locs → lv_has ls 2 [(0, .ref (ad 0)), (1, .int x1)] → W p l e rm_X11_has s m args below meth c H locs 0 0 (MQ below (zQi (dC, dI) (x_ty cI cJ) (x_W ad cI cJ) (zAW x_n ad s.heap.size) Q) args s 0 0 (zAW x_n ad s.heap.size)) (F0 m 0 ls []) := by
  obtain ⟨hx, hb, hml, hr, hown, hts, hlocks⟩ := id C0
  intro x1 σ H locs ls h hP hD hS hl
  unfold w_X11_has at h
  refine lv_iload_n hx hb dX11_has_0 rfl (lv_at hl 1 rfl) ?_
  by_cases hc0 : x1 = (0 : Int32)
  · have h := h.1 hc0
    refine lv_tableIn (off := 39) (tgt := 40) hx hb dX11_has_1 (by rw [hc0]; decide) (by rw [hc0]; decide) (by rw [hc0]; rfl) (by decide) ?_
    refine lv_aload_n hx hb dX11_has_40 rfl (lv_at hl 0 rfl) ?_
    refine xg_0_2 hx hb hts hown hK hP mw_291 dX11_has_41 ?_
    refine xg_3_4 hx hb hts hown hK hP mw_75 dX11_has_44 ?_
    exact zret_i hx hb hr hlocks hK hP hD hS h dX11_has_47
  · have hn0 := hc0
    have h := h.2 hc0
    by_cases hc1 : x1 = (1 : Int32)
    · have h := h.1 hc1
      refine lv_tableIn (off := 47) (tgt := 48) hx hb dX11_has_1 (by rw [hc1]; decide) (by rw [hc1]; decide) (by rw [hc1]; rfl) (by decide) ?_
      refine lv_aload_n hx hb dX11_has_48 rfl (lv_at hl 0 rfl) ?_
      refine xg_0_2 hx hb hts hown hK hP mw_291 dX11_has_49 ?_
      refine xg_3_5 hx hb hts hown hK hP mw_81 dX11_has_52 ?_
      exact zret_i hx hb hr hlocks hK hP hD hS h dX11_has_55
    · have hn1 := hc1
      have h := h.2 hc1
      by_cases hc2 : x1 = (2 : Int32)
      · have h := h.1 hc2
        refine lv_tableIn (off := 55) (tgt := 56) hx hb dX11_has_1 (by rw [hc2]; decide) (by rw [hc2]; decide) (by rw [hc2]; rfl) (by decide) ?_
        refine lv_aload_n hx hb dX11_has_56 rfl (lv_at hl 0 rfl) ?_
        refine xg_0_3 hx hb hts hown hK hP mw_292 dX11_has_57 ?_
        refine lv_iconst (v := (0 : Int32)) hx hb dX11_has_60 (by decide) ?_
        refine k_X6_countOf N ⟨hx, hb, hml, hown, hts⟩ mw_477 ⟨Nat.le_of_ble_eq_true rfl, Nat.le_of_ble_eq_true rfl⟩ h hK hP hD hS hl.1 (rest := []) (Nat.le_of_ble_eq_true rfl) ⟨Nat.le_of_ble_eq_true rfl, Nat.le_of_ble_eq_true rfl⟩ dX11_has_61 (fun r1 τ2 H locs h hP hD hS => ?_)
        exact zret_i hx hb hr hlocks hK hP hD hS h dX11_has_64
      · have hn2 := hc2
        have h := h.2 hc2
        by_cases hc3 : x1 = (3 : Int32)
        · have h := h.1 hc3
          refine lv_tableIn (off := 64) (tgt := 65) hx hb dX11_has_1 (by rw [hc3]; decide) (by rw [hc3]; decide) (by rw [hc3]; rfl) (by decide) ?_
          refine lv_aload_n hx hb dX11_has_65 rfl (lv_at hl 0 rfl) ?_
          refine xg_0_3 hx hb hts hown hK hP mw_292 dX11_has_66 ?_
          refine lv_iconst (v := (1 : Int32)) hx hb dX11_has_69 (by decide) ?_
          refine k_X6_countOf N ⟨hx, hb, hml, hown, hts⟩ mw_477 ⟨Nat.le_of_ble_eq_true rfl, Nat.le_of_ble_eq_true rfl⟩ h hK hP hD hS hl.1 (rest := []) (Nat.le_of_ble_eq_true rfl) ⟨Nat.le_of_ble_eq_true rfl, Nat.le_of_ble_eq_true rfl⟩ dX11_has_70 (fun r3 τ4 H locs h hP hD hS => ?_)
          exact zret_i hx hb hr hlocks hK hP hD hS h dX11_has_73
        · have hn3 := hc3
          have h := h.2 hc3
          by_cases hc4 : x1 = (4 : Int32)
          · have h := h.1 hc4
            refine lv_tableIn (off := 73) (tgt := 74) hx hb dX11_has_1 (by rw [hc4]; decide) (by rw [hc4]; decide) (by rw [hc4]; rfl) (by decide) ?_
            refine lv_aload_n hx hb dX11_has_74 rfl (lv_at hl 0 rfl) ?_
            refine xg_0_5 hx hb hts hown hK hP mw_294 dX11_has_75 ?_
            refine xg_9_6 hx hb hts hown hK hP mw_207 dX11_has_78 ?_
            exact zret_i hx hb hr hlocks hK hP hD hS h dX11_has_81
          · have hn4 := hc4
            have h := h.2 hc4
            by_cases hc5 : x1 = (5 : Int32)
            · have h := h.1 hc5
              refine lv_tableIn (off := 81) (tgt := 82) hx hb dX11_has_1 (by rw [hc5]; decide) (by rw [hc5]; decide) (by rw [hc5]; rfl) (by decide) ?_
              refine lv_aload_n hx hb dX11_has_82 rfl (lv_at hl 0 rfl) ?_
              refine xg_0_15 hx hb hts hown hK hP mw_304 dX11_has_83 ?_
              refine k_J13_bitCount_95d88 N ⟨hx, hb, hml, hown, hts⟩ mw_481 ⟨Nat.le_of_ble_eq_true rfl, Nat.le_of_ble_eq_true rfl⟩ h hK hP hD hS hl.1 (rest := []) (Nat.le_of_ble_eq_true rfl) ⟨Nat.le_of_ble_eq_true rfl, Nat.le_of_ble_eq_true rfl⟩ dX11_has_86 (fun r5 τ6 H locs h hP hD hS => ?_)
              exact zret_i hx hb hr hlocks hK hP hD hS h dX11_has_89
            · have hn5 := hc5
              have h := h.2 hc5
              refine lv_tableOut (tgt := 90) hx hb dX11_has_1 (by have e0 := zne (k := 0) (by decide) hn0; have e1 := zne (k := 1) (by decide) hn1; have e2 := zne (k := 2) (by decide) hn2; have e3 := zne (k := 3) (by decide) hn3; have e4 := zne (k := 4) (by decide) hn4; have e5 := zne (k := 5) (by decide) hn5; omega) (by decide) ?_
              refine lv_iconst (v := (-1 : Int32)) hx hb dX11_has_90 (by decide) ?_
              exact zret_i hx hb hr hlocks hK hP hD hS h dX11_has_91
set_option maxHeartbeats 4000000 in
set_option maxRecDepth 100000 in
theorem c_X11_has (N : Nat) (l : Launch) (dC : Nat → ClassId) (dI : Nat → Nat → Nat) (ad : Nat → Nat) (cI cJ : ClassId) (sz : Nat) (σ : zSt) (x1 : Int32) (Q : Int32 → zSt → Prop) (h : w_X11_has N x1 σ Q) : Met l yX11_has vs_X11_has rm_X11_has (va_Pc [.ref (ad 0), .int x1] (zPc (dC, dI) (x_ty cI cJ) (x_W ad cI cJ) sz σ)) (zQi (dC, dI) (x_ty cI cJ) (x_W ad cI cJ) (zAW x_n ad sz) Q) 0 0 (zAW x_n ad sz) := by
  refine Met.ofW (cc := cX11_has) (maxL := 2) (ret := (some .int)) (by decide) rfl ?_
  intro p e s m args below meth c s₁ B hml hv
  obtain ⟨rfl, hsz, hP, hK, hD0⟩ := hv
  subst hsz
  have C0 : zCx p s m meth c _ RX11 cX11_has 2 (some .int) vs_X11_has := ⟨B.exec, B.bytes, hml, B.returns, findClass_of_methodNamed B.named, atoms_spec (ws := vs_X11_has) B.pre, B.notSynchronized⟩
  have hD := x_D0 (n0 := s.heap.size) hD0
  have hl := lv_entry ([.ref (ad 0), .int x1]) (n := 2) (Nat.le_of_ble_eq_true rfl)
  rw [lg_entry_eq]
  generalize (lg_sl ([.ref (ad 0), .int x1]) ++ List.replicate (2 - (lg_sl ([.ref (ad 0), .int x1])).length) Slot.unset).toArray = ls at hl ⊢
  exact t_X11_has_0 C0 hK N x1 σ _ _ ls h hP hD va_S.rf hl
theorem k_X11_has (N : Nat) {R : Room} {H : Heap} {locs : List Loc} {cells slots : Nat} {Q2 : State → Prop} {cc : ByteArray} {nL pc index : Nat} {ls : Array Slot} {rest : List Value} {own : String} {c0 : Cond} {σ : zSt} {x1 : Int32} {Q : Int32 → zSt → Prop} (S0 : CallFix p m c cc nL s args (c0 :: zT) own) (hml : Cond.methodLink own index yX11_has ∈ zT) (hR : rm_X11_has.frames + 1 ≤ R.frames ∧ 8 + (2 + 11) + rm_X11_has.locals ≤ R.locals) (h : w_X11_has N x1 σ Q) (hK : va_K (dC, dI) vwCl (x_ty cI cJ) s) (hP : va_P (dC, dI) vwCl (x_W ad cI cJ σ) H) (hD : va_D (zAW x_n ad s.heap.size) (x_W ad cI cJ σ)) (hS : va_S (zAW x_n ad s.heap.size) s.heap H locs) (hsz : ls.size = nL) (hW : (rest.map fun v => v.category).sum ≤ 8) (hcs : cells ≤ R.cells ∧ slots ≤ R.slots) (hdg : decode cc pc = .ok (.invokevirtual index, 3)) (kk : ∀ (r : Int32) (τ : zSt) (H1 : Heap) (locs1 : List Loc), Q r τ → va_P (dC, dI) vwCl (x_W ad cI cJ τ) H1 → va_D (zAW x_n ad s.heap.size) (x_W ad cI cJ τ) → va_S (zAW x_n ad s.heap.size) s.heap H1 locs1 → W p l e R s m args below meth c H1 locs1 cells slots Q2 (F0 m (pc + 3) ls (.int r :: rest))) : W p l e R s m args below meth c H locs cells slots Q2 (F0 m pc ls (.int x1 :: .ref (ad 0) :: rest)) :=
  zcv_i (T := TX11) (N' := 17) (k := 0) (ci := 11) (fs := x_f0 ad σ) [.int x1] S0 (c_X11_has N l dC dI ad cI cJ H.size σ x1 Q h) (cw_X11_has S0.2.2.2.2 hml rfl rfl hR) rfl rfl hK hP hD hS rfl hsz hW rfl hcs hdg kk
end q04
section q04
def w_X4_isPerson_2 (N : Nat) (x1 : Int32) (σ : zSt) (Q : Int32 → zSt → Prop) : Prop :=
  (x1 < 0 → Q (0 : Int32) σ) ∧ (¬ x1 < 0 → ((σ.1 1) ≤ x1 → Q (0 : Int32) σ) ∧ (¬ (σ.1 1) ≤ x1 → Q (1 : Int32) σ))
variable {p : Program} {l : Launch} {e : Env} {s : State} {m : MethodId} {args : Array Value} {below : List Frame} {meth : Method} {c : Code} {dC : Nat → ClassId} {dI : Nat → Nat → Nat} {ad : Nat → Nat} {cI cJ : ClassId}
set_option maxHeartbeats 4000000 in
set_option maxRecDepth 100000 in
theorem t_X4_isPerson_2_0 (C0 : zCx p s m meth c args RX4 cX4_isPerson 2 (some .boolean) vs_X4_isPerson) (hK : va_K (dC, dI) vwCl (x_ty cI cJ) s) (N : Nat) {Q : Int32 → zSt → Prop} : ∀ (x1 : Int32) (σ : zSt) (H : Heap) (locs : List Loc) (ls : Array Slot), w_X4_isPerson_2 N x1 σ Q → va_P (dC, dI) vwCl (x_W ad cI cJ σ) H → va_D (zAW x_n ad s.heap.size) (x_W ad cI cJ σ) → va_S (zAW x_n ad s.heap.size) s.heap H locs → lv_has ls 2 [(0, .ref (ad 3)), (1, .int x1)] → W p l e rm_X4_isPerson s m args below meth c H locs 0 0 (MQ below (zQi (dC, dI) (x_ty cI cJ) (x_W ad cI cJ) (zAW x_n ad s.heap.size) Q) args s 0 0 (zAW x_n ad s.heap.size)) (F0 m 0 ls []) := by
  obtain ⟨hx, hb, hml, hr, hown, hts, hlocks⟩ := id C0
  intro x1 σ H locs ls h hP hD hS hl
  unfold w_X4_isPerson_2 at h
  refine lv_iload_n hx hb dX4_isPerson_0 rfl (lv_at hl 1 rfl) ?_
  refine lv_if_lt (tgt := 16) hx hb dX4_isPerson_1 (by decide) (fun hc => ?_) (fun hc => ?_)
  · have h := h.1 hc
    refine lv_iconst (v := (0 : Int32)) hx hb dX4_isPerson_16 (by decide) ?_
    exact zret_z hx hb hr hlocks hK hP hD hS zb_0 h dX4_isPerson_17
  · have h := h.2 hc
    refine lv_iload_n hx hb dX4_isPerson_4 rfl (lv_at hl 1 rfl) ?_
    refine lv_aload_n hx hb dX4_isPerson_5 rfl (lv_at hl 0 rfl) ?_
    refine xg_3_4 hx hb hts hown hK hP mw_73 dX4_isPerson_6 ?_
    refine lv_icmp_ge (tgt := 16) hx hb dX4_isPerson_9 (by decide) (fun hc => ?_) (fun hc => ?_)
    · have h := h.1 hc
      refine lv_iconst (v := (0 : Int32)) hx hb dX4_isPerson_16 (by decide) ?_
      exact zret_z hx hb hr hlocks hK hP hD hS zb_0 h dX4_isPerson_17
    · have h := h.2 hc
      refine lv_iconst (v := (1 : Int32)) hx hb dX4_isPerson_12 (by decide) ?_
      refine lv_goto (tgt := 17) hx hb dX4_isPerson_13 (by decide) ?_
      exact zret_z hx hb hr hlocks hK hP hD hS zb_1 h dX4_isPerson_17
set_option maxHeartbeats 4000000 in
set_option maxRecDepth 100000 in
theorem c_X4_isPerson_2 (N : Nat) (l : Launch) (dC : Nat → ClassId) (dI : Nat → Nat → Nat) (ad : Nat → Nat) (cI cJ : ClassId) (sz : Nat) (σ : zSt) (x1 : Int32) (Q : Int32 → zSt → Prop) (h : w_X4_isPerson_2 N x1 σ Q) : Met l yX4_isPerson vs_X4_isPerson rm_X4_isPerson (va_Pc [.ref (ad 3), .int x1] (zPc (dC, dI) (x_ty cI cJ) (x_W ad cI cJ) sz σ)) (zQi (dC, dI) (x_ty cI cJ) (x_W ad cI cJ) (zAW x_n ad sz) Q) 0 0 (zAW x_n ad sz) := by
  refine Met.ofW (cc := cX4_isPerson) (maxL := 2) (ret := (some .boolean)) (by decide) rfl ?_
  intro p e s m args below meth c s₁ B hml hv
  obtain ⟨rfl, hsz, hP, hK, hD0⟩ := hv
  subst hsz
  have C0 : zCx p s m meth c _ RX4 cX4_isPerson 2 (some .boolean) vs_X4_isPerson := ⟨B.exec, B.bytes, hml, B.returns, findClass_of_methodNamed B.named, atoms_spec (ws := vs_X4_isPerson) B.pre, B.notSynchronized⟩
  have hD := x_D0 (n0 := s.heap.size) hD0
  have hl := lv_entry ([.ref (ad 3), .int x1]) (n := 2) (Nat.le_of_ble_eq_true rfl)
  rw [lg_entry_eq]
  generalize (lg_sl ([.ref (ad 3), .int x1]) ++ List.replicate (2 - (lg_sl ([.ref (ad 3), .int x1])).length) Slot.unset).toArray = ls at hl ⊢
  exact t_X4_isPerson_2_0 C0 hK N x1 σ _ _ ls h hP hD va_S.rf hl
theorem k_X4_isPerson_2 (N : Nat) {R : Room} {H : Heap} {locs : List Loc} {cells slots : Nat} {Q2 : State → Prop} {cc : ByteArray} {nL pc index : Nat} {ls : Array Slot} {rest : List Value} {own : String} {c0 : Cond} {σ : zSt} {x1 : Int32} {Q : Int32 → zSt → Prop} (S0 : CallFix p m c cc nL s args (c0 :: zT) own) (hml : Cond.methodLink own index yX4_isPerson ∈ zT) (hR : rm_X4_isPerson.frames + 1 ≤ R.frames ∧ 8 + (2 + 11) + rm_X4_isPerson.locals ≤ R.locals) (h : w_X4_isPerson_2 N x1 σ Q) (hK : va_K (dC, dI) vwCl (x_ty cI cJ) s) (hP : va_P (dC, dI) vwCl (x_W ad cI cJ σ) H) (hD : va_D (zAW x_n ad s.heap.size) (x_W ad cI cJ σ)) (hS : va_S (zAW x_n ad s.heap.size) s.heap H locs) (hsz : ls.size = nL) (hW : (rest.map fun v => v.category).sum ≤ 8) (hcs : cells ≤ R.cells ∧ slots ≤ R.slots) (hdg : decode cc pc = .ok (.invokevirtual index, 3)) (kk : ∀ (r : Int32) (τ : zSt) (H1 : Heap) (locs1 : List Loc), Q r τ → va_P (dC, dI) vwCl (x_W ad cI cJ τ) H1 → va_D (zAW x_n ad s.heap.size) (x_W ad cI cJ τ) → va_S (zAW x_n ad s.heap.size) s.heap H1 locs1 → W p l e R s m args below meth c H1 locs1 cells slots Q2 (F0 m (pc + 3) ls (.int r :: rest))) : W p l e R s m args below meth c H locs cells slots Q2 (F0 m pc ls (.int x1 :: .ref (ad 3) :: rest)) :=
  zcv_i (T := TX4) (N' := 8) (k := 3) (ci := 4) (fs := x_f3 ad σ) [.int x1] S0 (c_X4_isPerson_2 N l dC dI ad cI cJ H.size σ x1 Q h) (cw_X4_isPerson S0.2.2.2.2 hml rfl rfl hR) rfl rfl hK hP hD hS rfl hsz hW rfl hcs hdg kk
end q04
section q04
def w_X11_letter (N : Nat) (x1 : Int32) (x2 : Int32) (σ : zSt) (Q : Int32 → zSt → Prop) : Prop :=
  w_X4_isPerson_2 N x1 σ (fun r1 τ2 => (r1 = 0 → Q (-1 : Int32) τ2) ∧ (¬ r1 = 0 → (x2 < 0 → Q (-1 : Int32) τ2) ∧ (¬ x2 < 0 → (x2 < (6 : Int32) → (vp_in x1 10) ∧ (Q (((τ2.2.2.1 5 x1.toNatClampNeg) >>> (((5 : Int32) * ((5 : Int32) - x2)) &&& 31)) &&& (31 : Int32)) τ2)) ∧ (¬ x2 < (6 : Int32) → Q (-1 : Int32) τ2))))
variable {p : Program} {l : Launch} {e : Env} {s : State} {m : MethodId} {args : Array Value} {below : List Frame} {meth : Method} {c : Code} {dC : Nat → ClassId} {dI : Nat → Nat → Nat} {ad : Nat → Nat} {cI cJ : ClassId}
set_option maxHeartbeats 4000000 in
set_option maxRecDepth 100000 in
theorem t_X11_letter_0 (C0 : zCx p s m meth c args RX11 cX11_letter 3 (some .int) vs_X11_letter) (hK : va_K (dC, dI) vwCl (x_ty cI cJ) s) (N : Nat) {Q : Int32 → zSt → Prop} : ∀ (x1 : Int32) (x2 : Int32) (σ : zSt) (H : Heap) (locs : List Loc) (ls : Array Slot), w_X11_letter N x1 x2 σ Q → va_P (dC, dI) vwCl (x_W ad cI cJ σ) H → va_D (zAW x_n ad s.heap.size) (x_W ad cI cJ σ) → va_S (zAW x_n ad s.heap.size) s.heap H locs → lv_has ls 3 [(0, .ref (ad 0)), (1, .int x1), (2, .int x2)] → W p l e rm_X11_letter s m args below meth c H locs 0 0 (MQ below (zQi (dC, dI) (x_ty cI cJ) (x_W ad cI cJ) (zAW x_n ad s.heap.size) Q) args s 0 0 (zAW x_n ad s.heap.size)) (F0 m 0 ls []) := by
  obtain ⟨hx, hb, hml, hr, hown, hts, hlocks⟩ := id C0
  intro x1 x2 σ H locs ls h hP hD hS hl
  unfold w_X11_letter at h
  refine lv_aload_n hx hb dX11_letter_0 rfl (lv_at hl 0 rfl) ?_
  refine xg_0_2 hx hb hts hown hK hP mw_291 dX11_letter_1 ?_
  refine lv_iload_n hx hb dX11_letter_4 rfl (lv_at hl 1 rfl) ?_
  refine k_X4_isPerson_2 N ⟨hx, hb, hml, hown, hts⟩ mw_491 ⟨Nat.le_of_ble_eq_true rfl, Nat.le_of_ble_eq_true rfl⟩ h hK hP hD hS hl.1 (rest := []) (Nat.le_of_ble_eq_true rfl) ⟨Nat.le_of_ble_eq_true rfl, Nat.le_of_ble_eq_true rfl⟩ dX11_letter_5 (fun r1 τ2 H locs h hP hD hS => ?_)
  refine lv_if_eq (tgt := 21) hx hb dX11_letter_8 (by decide) (fun hc => ?_) (fun hc => ?_)
  · have h := h.1 hc
    refine lv_iconst (v := (-1 : Int32)) hx hb dX11_letter_21 (by decide) ?_
    exact zret_i hx hb hr hlocks hK hP hD hS h dX11_letter_22
  · have h := h.2 hc
    refine lv_iload_n hx hb dX11_letter_11 rfl (lv_at hl 2 rfl) ?_
    refine lv_if_lt (tgt := 21) hx hb dX11_letter_12 (by decide) (fun hc => ?_) (fun hc => ?_)
    · have h := h.1 hc
      refine lv_iconst (v := (-1 : Int32)) hx hb dX11_letter_21 (by decide) ?_
      exact zret_i hx hb hr hlocks hK hP hD hS h dX11_letter_22
    · have h := h.2 hc
      refine lv_iload_n hx hb dX11_letter_15 rfl (lv_at hl 2 rfl) ?_
      refine lv_bipush (v := (6 : Int32)) hx hb dX11_letter_16 (by decide) ?_
      refine lv_icmp_lt (tgt := 23) hx hb dX11_letter_18 (by decide) (fun hc => ?_) (fun hc => ?_)
      · have h := h.1 hc
        refine lv_aload_n hx hb dX11_letter_23 rfl (lv_at hl 0 rfl) ?_
        refine xg_0_2 hx hb hts hown hK hP mw_291 dX11_letter_24 ?_
        refine xg_3_1 hx hb hts hown hK hP mw_68 dX11_letter_27 ?_
        refine lv_iload_n hx hb dX11_letter_30 rfl (lv_at hl 1 rfl) ?_
        refine xa_23 hx hb hK hP h.1 rfl dX11_letter_31 ?_
        have h := h.2
        refine lv_iconst (v := (5 : Int32)) hx hb dX11_letter_32 (by decide) ?_
        refine lv_iconst (v := (5 : Int32)) hx hb dX11_letter_33 (by decide) ?_
        refine lv_iload_n hx hb dX11_letter_34 rfl (lv_at hl 2 rfl) ?_
        refine lv_isub hx hb dX11_letter_35 ?_
        refine lv_imul hx hb dX11_letter_36 ?_
        refine lv_ishr hx hb dX11_letter_37 ?_
        refine lv_bipush (v := (31 : Int32)) hx hb dX11_letter_38 (by decide) ?_
        refine lv_iand hx hb dX11_letter_40 ?_
        exact zret_i hx hb hr hlocks hK hP hD hS h dX11_letter_41
      · have h := h.2 hc
        refine lv_iconst (v := (-1 : Int32)) hx hb dX11_letter_21 (by decide) ?_
        exact zret_i hx hb hr hlocks hK hP hD hS h dX11_letter_22
set_option maxHeartbeats 4000000 in
set_option maxRecDepth 100000 in
theorem c_X11_letter (N : Nat) (l : Launch) (dC : Nat → ClassId) (dI : Nat → Nat → Nat) (ad : Nat → Nat) (cI cJ : ClassId) (sz : Nat) (σ : zSt) (x1 : Int32) (x2 : Int32) (Q : Int32 → zSt → Prop) (h : w_X11_letter N x1 x2 σ Q) : Met l yX11_letter vs_X11_letter rm_X11_letter (va_Pc [.ref (ad 0), .int x1, .int x2] (zPc (dC, dI) (x_ty cI cJ) (x_W ad cI cJ) sz σ)) (zQi (dC, dI) (x_ty cI cJ) (x_W ad cI cJ) (zAW x_n ad sz) Q) 0 0 (zAW x_n ad sz) := by
  refine Met.ofW (cc := cX11_letter) (maxL := 3) (ret := (some .int)) (by decide) rfl ?_
  intro p e s m args below meth c s₁ B hml hv
  obtain ⟨rfl, hsz, hP, hK, hD0⟩ := hv
  subst hsz
  have C0 : zCx p s m meth c _ RX11 cX11_letter 3 (some .int) vs_X11_letter := ⟨B.exec, B.bytes, hml, B.returns, findClass_of_methodNamed B.named, atoms_spec (ws := vs_X11_letter) B.pre, B.notSynchronized⟩
  have hD := x_D0 (n0 := s.heap.size) hD0
  have hl := lv_entry ([.ref (ad 0), .int x1, .int x2]) (n := 3) (Nat.le_of_ble_eq_true rfl)
  rw [lg_entry_eq]
  generalize (lg_sl ([.ref (ad 0), .int x1, .int x2]) ++ List.replicate (3 - (lg_sl ([.ref (ad 0), .int x1, .int x2])).length) Slot.unset).toArray = ls at hl ⊢
  exact t_X11_letter_0 C0 hK N x1 x2 σ _ _ ls h hP hD va_S.rf hl
theorem k_X11_letter (N : Nat) {R : Room} {H : Heap} {locs : List Loc} {cells slots : Nat} {Q2 : State → Prop} {cc : ByteArray} {nL pc index : Nat} {ls : Array Slot} {rest : List Value} {own : String} {c0 : Cond} {σ : zSt} {x1 : Int32} {x2 : Int32} {Q : Int32 → zSt → Prop} (S0 : CallFix p m c cc nL s args (c0 :: zT) own) (hml : Cond.methodLink own index yX11_letter ∈ zT) (hR : rm_X11_letter.frames + 1 ≤ R.frames ∧ 8 + (3 + 11) + rm_X11_letter.locals ≤ R.locals) (h : w_X11_letter N x1 x2 σ Q) (hK : va_K (dC, dI) vwCl (x_ty cI cJ) s) (hP : va_P (dC, dI) vwCl (x_W ad cI cJ σ) H) (hD : va_D (zAW x_n ad s.heap.size) (x_W ad cI cJ σ)) (hS : va_S (zAW x_n ad s.heap.size) s.heap H locs) (hsz : ls.size = nL) (hW : (rest.map fun v => v.category).sum ≤ 8) (hcs : cells ≤ R.cells ∧ slots ≤ R.slots) (hdg : decode cc pc = .ok (.invokevirtual index, 3)) (kk : ∀ (r : Int32) (τ : zSt) (H1 : Heap) (locs1 : List Loc), Q r τ → va_P (dC, dI) vwCl (x_W ad cI cJ τ) H1 → va_D (zAW x_n ad s.heap.size) (x_W ad cI cJ τ) → va_S (zAW x_n ad s.heap.size) s.heap H1 locs1 → W p l e R s m args below meth c H1 locs1 cells slots Q2 (F0 m (pc + 3) ls (.int r :: rest))) : W p l e R s m args below meth c H locs cells slots Q2 (F0 m pc ls (.int x2 :: .int x1 :: .ref (ad 0) :: rest)) :=
  zcv_i (T := TX11) (N' := 17) (k := 0) (ci := 11) (fs := x_f0 ad σ) [.int x1, .int x2] S0 (c_X11_letter N l dC dI ad cI cJ H.size σ x1 x2 Q h) (cw_X11_letter S0.2.2.2.2 hml rfl rfl hR) rfl rfl hK hP hD hS rfl hsz hW rfl hcs hdg kk
end q04
section q04
def w_X4_isNet (N : Nat) (x1 : Int64) (σ : zSt) (Q : Int32 → zSt → Prop) : Prop :=
  ((lg_cmp x1 (0 : Int64)) < 0 → Q (0 : Int32) σ) ∧ (¬ (lg_cmp x1 (0 : Int64)) < 0 → (0 ≤ (lg_cmp x1 ((1 : Int64) <<< ((σ.1 2).toInt64 &&& 63))) → Q (0 : Int32) σ) ∧ (¬ 0 ≤ (lg_cmp x1 ((1 : Int64) <<< ((σ.1 2).toInt64 &&& 63))) → Q (1 : Int32) σ))
variable {p : Program} {l : Launch} {e : Env} {s : State} {m : MethodId} {args : Array Value} {below : List Frame} {meth : Method} {c : Code} {dC : Nat → ClassId} {dI : Nat → Nat → Nat} {ad : Nat → Nat} {cI cJ : ClassId}
set_option maxHeartbeats 4000000 in
set_option maxRecDepth 100000 in
theorem t_X4_isNet_0 (C0 : zCx p s m meth c args RX4 cX4_isNet 3 (some .boolean) vs_X4_isNet) (hK : va_K (dC, dI) vwCl (x_ty cI cJ) s) (N : Nat) {Q : Int32 → zSt → Prop} : ∀ (x1 : Int64) (σ : zSt) (H : Heap) (locs : List Loc) (ls : Array Slot), w_X4_isNet N x1 σ Q → va_P (dC, dI) vwCl (x_W ad cI cJ σ) H → va_D (zAW x_n ad s.heap.size) (x_W ad cI cJ σ) → va_S (zAW x_n ad s.heap.size) s.heap H locs → lv_has ls 3 [(0, .ref (ad 3)), (1, .long x1)] → W p l e rm_X4_isNet s m args below meth c H locs 0 0 (MQ below (zQi (dC, dI) (x_ty cI cJ) (x_W ad cI cJ) (zAW x_n ad s.heap.size) Q) args s 0 0 (zAW x_n ad s.heap.size)) (F0 m 0 ls []) := by
  obtain ⟨hx, hb, hml, hr, hown, hts, hlocks⟩ := id C0
  intro x1 σ H locs ls h hP hD hS hl
  unfold w_X4_isNet at h
  refine lv_lload_n hx hb dX4_isNet_0 rfl (lv_at hl 1 rfl) ?_
  refine lv_lconst (v := (0 : Int64)) hx hb dX4_isNet_1 (by decide) ?_
  refine W.lcmp hx hb dX4_isNet_2 ?_
  refine lv_if_lt (tgt := 21) hx hb dX4_isNet_3 (by decide) (fun hc => ?_) (fun hc => ?_)
  · have h := h.1 hc
    refine lv_iconst (v := (0 : Int32)) hx hb dX4_isNet_21 (by decide) ?_
    exact zret_z hx hb hr hlocks hK hP hD hS zb_0 h dX4_isNet_22
  · have h := h.2 hc
    refine lv_lload_n hx hb dX4_isNet_6 rfl (lv_at hl 1 rfl) ?_
    refine lv_lconst (v := (1 : Int64)) hx hb dX4_isNet_7 (by decide) ?_
    refine lv_aload_n hx hb dX4_isNet_8 rfl (lv_at hl 0 rfl) ?_
    refine xg_3_5 hx hb hts hown hK hP mw_78 dX4_isNet_9 ?_
    refine lv_lshl hx hb dX4_isNet_12 rfl ?_
    refine W.lcmp hx hb dX4_isNet_13 ?_
    refine lv_if_ge (tgt := 21) hx hb dX4_isNet_14 (by decide) (fun hc => ?_) (fun hc => ?_)
    · have h := h.1 hc
      refine lv_iconst (v := (0 : Int32)) hx hb dX4_isNet_21 (by decide) ?_
      exact zret_z hx hb hr hlocks hK hP hD hS zb_0 h dX4_isNet_22
    · have h := h.2 hc
      refine lv_iconst (v := (1 : Int32)) hx hb dX4_isNet_17 (by decide) ?_
      refine lv_goto (tgt := 22) hx hb dX4_isNet_18 (by decide) ?_
      exact zret_z hx hb hr hlocks hK hP hD hS zb_1 h dX4_isNet_22
set_option maxHeartbeats 4000000 in
set_option maxRecDepth 100000 in
theorem c_X4_isNet (N : Nat) (l : Launch) (dC : Nat → ClassId) (dI : Nat → Nat → Nat) (ad : Nat → Nat) (cI cJ : ClassId) (sz : Nat) (σ : zSt) (x1 : Int64) (Q : Int32 → zSt → Prop) (h : w_X4_isNet N x1 σ Q) : Met l yX4_isNet vs_X4_isNet rm_X4_isNet (va_Pc [.ref (ad 3), .long x1] (zPc (dC, dI) (x_ty cI cJ) (x_W ad cI cJ) sz σ)) (zQi (dC, dI) (x_ty cI cJ) (x_W ad cI cJ) (zAW x_n ad sz) Q) 0 0 (zAW x_n ad sz) := by
  refine Met.ofW (cc := cX4_isNet) (maxL := 3) (ret := (some .boolean)) (by decide) rfl ?_
  intro p e s m args below meth c s₁ B hml hv
  obtain ⟨rfl, hsz, hP, hK, hD0⟩ := hv
  subst hsz
  have C0 : zCx p s m meth c _ RX4 cX4_isNet 3 (some .boolean) vs_X4_isNet := ⟨B.exec, B.bytes, hml, B.returns, findClass_of_methodNamed B.named, atoms_spec (ws := vs_X4_isNet) B.pre, B.notSynchronized⟩
  have hD := x_D0 (n0 := s.heap.size) hD0
  have hl := lv_entry ([.ref (ad 3), .long x1]) (n := 3) (Nat.le_of_ble_eq_true rfl)
  rw [lg_entry_eq]
  generalize (lg_sl ([.ref (ad 3), .long x1]) ++ List.replicate (3 - (lg_sl ([.ref (ad 3), .long x1])).length) Slot.unset).toArray = ls at hl ⊢
  exact t_X4_isNet_0 C0 hK N x1 σ _ _ ls h hP hD va_S.rf hl
theorem k_X4_isNet (N : Nat) {R : Room} {H : Heap} {locs : List Loc} {cells slots : Nat} {Q2 : State → Prop} {cc : ByteArray} {nL pc index : Nat} {ls : Array Slot} {rest : List Value} {own : String} {c0 : Cond} {σ : zSt} {x1 : Int64} {Q : Int32 → zSt → Prop} (S0 : CallFix p m c cc nL s args (c0 :: zT) own) (hml : Cond.methodLink own index yX4_isNet ∈ zT) (hR : rm_X4_isNet.frames + 1 ≤ R.frames ∧ 8 + (3 + 11) + rm_X4_isNet.locals ≤ R.locals) (h : w_X4_isNet N x1 σ Q) (hK : va_K (dC, dI) vwCl (x_ty cI cJ) s) (hP : va_P (dC, dI) vwCl (x_W ad cI cJ σ) H) (hD : va_D (zAW x_n ad s.heap.size) (x_W ad cI cJ σ)) (hS : va_S (zAW x_n ad s.heap.size) s.heap H locs) (hsz : ls.size = nL) (hW : (rest.map fun v => v.category).sum ≤ 8) (hcs : cells ≤ R.cells ∧ slots ≤ R.slots) (hdg : decode cc pc = .ok (.invokevirtual index, 3)) (kk : ∀ (r : Int32) (τ : zSt) (H1 : Heap) (locs1 : List Loc), Q r τ → va_P (dC, dI) vwCl (x_W ad cI cJ τ) H1 → va_D (zAW x_n ad s.heap.size) (x_W ad cI cJ τ) → va_S (zAW x_n ad s.heap.size) s.heap H1 locs1 → W p l e R s m args below meth c H1 locs1 cells slots Q2 (F0 m (pc + 3) ls (.int r :: rest))) : W p l e R s m args below meth c H locs cells slots Q2 (F0 m pc ls (.long x1 :: .ref (ad 3) :: rest)) :=
  zcv_i (T := TX4) (N' := 8) (k := 3) (ci := 4) (fs := x_f3 ad σ) [.long x1] S0 (c_X4_isNet N l dC dI ad cI cJ H.size σ x1 Q h) (cw_X4_isNet S0.2.2.2.2 hml rfl rfl hR) rfl rfl hK hP hD hS rfl hsz hW rfl hcs hdg kk
end q04
section q04
def b_X4_may_15 (N : Nat) (k_15 : Int64 → Int32 → zSt → Prop) (Q : Int32 → zSt → Prop) (x1 : Int64) (x3 : Int32) (σ : zSt) : Prop :=
  ((σ.1 1) ≤ x3 → Q (1 : Int32) σ) ∧ (¬ (σ.1 1) ≤ x3 → (vp_in x3 10) ∧ (w_J13_bitCount_95d88 N (x1 &&& (σ.2.2.2 2 x3.toNatClampNeg)) σ (fun r1 τ2 => (vp_in x3 10) ∧ ((r1 ≤ (τ2.2.2.1 7 x3.toNatClampNeg) → ∀ v3 : Int32, v3 = x3 + (1 : Int32) → k_15 x1 v3 τ2) ∧ (¬ r1 ≤ (τ2.2.2.1 7 x3.toNatClampNeg) → Q (0 : Int32) τ2)))))
def w_X4_may_15 (N : Nat) (Q : Int32 → zSt → Prop) : Nat → Int64 → Int32 → zSt → Prop
  | 0 => fun _ _ _ => False
  | f + 1 => b_X4_may_15 N (w_X4_may_15 N  Q f) Q
def w_X4_may (N : Nat) (x1 : Int64) (σ : zSt) (Q : Int32 → zSt → Prop) : Prop :=
  ((lg_cmp (x1 &&& (σ.2.1 2)) (0 : Int64)) = 0 → w_X4_may_15 N Q N x1 (0 : Int32) σ) ∧ (¬ (lg_cmp (x1 &&& (σ.2.1 2)) (0 : Int64)) = 0 → Q (0 : Int32) σ)
variable {p : Program} {l : Launch} {e : Env} {s : State} {m : MethodId} {args : Array Value} {below : List Frame} {meth : Method} {c : Code} {dC : Nat → ClassId} {dI : Nat → Nat → Nat} {ad : Nat → Nat} {cI cJ : ClassId}
set_option maxHeartbeats 4000000 in
set_option maxRecDepth 100000 in
theorem tb_X4_may_15 (C0 : zCx p s m meth c args RX4 cX4_may 4 (some .boolean) vs_X4_may) (hK : va_K (dC, dI) vwCl (x_ty cI cJ) s) (N : Nat) {Q : Int32 → zSt → Prop} {k_15 : Int64 → Int32 → zSt → Prop} (hk_15 : ∀ (x1 : Int64) (x3 : Int32) (σ : zSt) (H : Heap) (locs : List Loc) (ls : Array Slot), k_15 x1 x3 σ → va_P (dC, dI) vwCl (x_W ad cI cJ σ) H → va_D (zAW x_n ad s.heap.size) (x_W ad cI cJ σ) → va_S (zAW x_n ad s.heap.size) s.heap H locs → lv_has ls 4 [(0, .ref (ad 3)), (1, .long x1), (3, .int x3)] → W p l e rm_X4_may s m args below meth c H locs 0 0 (MQ below (zQi (dC, dI) (x_ty cI cJ) (x_W ad cI cJ) (zAW x_n ad s.heap.size) Q) args s 0 0 (zAW x_n ad s.heap.size)) (F0 m 15 ls [])) : ∀ (x1 : Int64) (x3 : Int32) (σ : zSt) (H : Heap) (locs : List Loc) (ls : Array Slot), b_X4_may_15 N k_15 Q x1 x3 σ → va_P (dC, dI) vwCl (x_W ad cI cJ σ) H → va_D (zAW x_n ad s.heap.size) (x_W ad cI cJ σ) → va_S (zAW x_n ad s.heap.size) s.heap H locs → lv_has ls 4 [(0, .ref (ad 3)), (1, .long x1), (3, .int x3)] → W p l e rm_X4_may s m args below meth c H locs 0 0 (MQ below (zQi (dC, dI) (x_ty cI cJ) (x_W ad cI cJ) (zAW x_n ad s.heap.size) Q) args s 0 0 (zAW x_n ad s.heap.size)) (F0 m 15 ls []) := by
  obtain ⟨hx, hb, hml, hr, hown, hts, hlocks⟩ := id C0
  intro x1 x3 σ H locs ls h hP hD hS hl
  unfold b_X4_may_15 at h
  refine lv_iload_n hx hb dX4_may_15 rfl (lv_at hl 2 rfl) ?_
  refine lv_aload_n hx hb dX4_may_16 rfl (lv_at hl 0 rfl) ?_
  refine xg_3_4 hx hb hts hown hK hP mw_73 dX4_may_17 ?_
  refine lv_icmp_ge (tgt := 54) hx hb dX4_may_20 (by decide) (fun hc => ?_) (fun hc => ?_)
  · have h := h.1 hc
    refine lv_iconst (v := (1 : Int32)) hx hb dX4_may_54 (by decide) ?_
    exact zret_z hx hb hr hlocks hK hP hD hS zb_1 h dX4_may_55
  · have h := h.2 hc
    refine lv_lload_n hx hb dX4_may_23 rfl (lv_at hl 1 rfl) ?_
    refine lv_aload_n hx hb dX4_may_24 rfl (lv_at hl 0 rfl) ?_
    refine xg_3_0 hx hb hts hown hK hP mw_64 dX4_may_25 ?_
    refine xg_2_2 hx hb hts hown hK hP mw_55 dX4_may_28 ?_
    refine lv_iload_n hx hb dX4_may_31 rfl (lv_at hl 2 rfl) ?_
    refine xa_22 hx hb hK hP h.1 rfl dX4_may_32 ?_
    have h := h.2
    refine lv_land hx hb dX4_may_33 ?_
    refine k_J13_bitCount_95d88 N ⟨hx, hb, hml, hown, hts⟩ mw_504 ⟨Nat.le_of_ble_eq_true rfl, Nat.le_of_ble_eq_true rfl⟩ h hK hP hD hS hl.1 (rest := []) (Nat.le_of_ble_eq_true rfl) ⟨Nat.le_of_ble_eq_true rfl, Nat.le_of_ble_eq_true rfl⟩ dX4_may_34 (fun r1 τ2 H locs h hP hD hS => ?_)
    refine lv_aload_n hx hb dX4_may_37 rfl (lv_at hl 0 rfl) ?_
    refine xg_3_3 hx hb hts hown hK hP mw_71 dX4_may_38 ?_
    refine lv_iload_n hx hb dX4_may_41 rfl (lv_at hl 2 rfl) ?_
    refine xa_25 hx hb hK hP h.1 rfl dX4_may_42 ?_
    have h := h.2
    refine lv_icmp_le (tgt := 48) hx hb dX4_may_43 (by decide) (fun hc => ?_) (fun hc => ?_)
    · have h := h.1 hc
      obtain ⟨v3, ev3⟩ : ∃ z : Int32, z = x3 + (1 : Int32) := ⟨_, rfl⟩
      have h := h v3 ev3
      refine lv_iinc (v := v3) (lv' := [(3, .int v3), (0, .ref (ad 3)), (1, .long x1)]) hx hb dX4_may_48 hl (k := 2) rfl (by rw [ev3]; rfl) (by decide) rfl (fun ls hl => ?_)
      refine lv_goto (tgt := 15) hx hb dX4_may_51 (by decide) ?_
      exact hk_15 x1 v3 τ2 _ _ _ h hP hD hS (lv_sub hl [1, 2, 0] rfl)
    · have h := h.2 hc
      refine lv_iconst (v := (0 : Int32)) hx hb dX4_may_46 (by decide) ?_
      exact zret_z hx hb hr hlocks hK hP hD hS zb_0 h dX4_may_47
set_option maxHeartbeats 4000000 in
set_option maxRecDepth 100000 in
theorem t_X4_may_15 (C0 : zCx p s m meth c args RX4 cX4_may 4 (some .boolean) vs_X4_may) (hK : va_K (dC, dI) vwCl (x_ty cI cJ) s) (N : Nat) {Q : Int32 → zSt → Prop} : ∀ (f : Nat) (x1 : Int64) (x3 : Int32) (σ : zSt) (H : Heap) (locs : List Loc) (ls : Array Slot), w_X4_may_15 N  Q f x1 x3 σ → va_P (dC, dI) vwCl (x_W ad cI cJ σ) H → va_D (zAW x_n ad s.heap.size) (x_W ad cI cJ σ) → va_S (zAW x_n ad s.heap.size) s.heap H locs → lv_has ls 4 [(0, .ref (ad 3)), (1, .long x1), (3, .int x3)] → W p l e rm_X4_may s m args below meth c H locs 0 0 (MQ below (zQi (dC, dI) (x_ty cI cJ) (x_W ad cI cJ) (zAW x_n ad s.heap.size) Q) args s 0 0 (zAW x_n ad s.heap.size)) (F0 m 15 ls []) := by
  intro f
  induction f with
  | zero => intro x1 x3 σ H locs ls h; exact h.elim
  | succ f ih =>
    intro x1 x3 σ H locs ls h hP hD hS hl
    exact tb_X4_may_15 C0 hK N  (k_15 := w_X4_may_15 N  Q f) ih x1 x3 σ H locs ls h hP hD hS hl
set_option maxHeartbeats 4000000 in
set_option maxRecDepth 100000 in
theorem t_X4_may_0 (C0 : zCx p s m meth c args RX4 cX4_may 4 (some .boolean) vs_X4_may) (hK : va_K (dC, dI) vwCl (x_ty cI cJ) s) (N : Nat) {Q : Int32 → zSt → Prop} : ∀ (x1 : Int64) (σ : zSt) (H : Heap) (locs : List Loc) (ls : Array Slot), w_X4_may N x1 σ Q → va_P (dC, dI) vwCl (x_W ad cI cJ σ) H → va_D (zAW x_n ad s.heap.size) (x_W ad cI cJ σ) → va_S (zAW x_n ad s.heap.size) s.heap H locs → lv_has ls 4 [(0, .ref (ad 3)), (1, .long x1)] → W p l e rm_X4_may s m args below meth c H locs 0 0 (MQ below (zQi (dC, dI) (x_ty cI cJ) (x_W ad cI cJ) (zAW x_n ad s.heap.size) Q) args s 0 0 (zAW x_n ad s.heap.size)) (F0 m 0 ls []) := by
  obtain ⟨hx, hb, hml, hr, hown, hts, hlocks⟩ := id C0
  intro x1 σ H locs ls h hP hD hS hl
  unfold w_X4_may at h
  refine lv_lload_n hx hb dX4_may_0 rfl (lv_at hl 1 rfl) ?_
  refine lv_aload_n hx hb dX4_may_1 rfl (lv_at hl 0 rfl) ?_
  refine xg_3_7 hx hb hts hown hK hP mw_85 dX4_may_2 ?_
  refine lv_land hx hb dX4_may_5 ?_
  refine lv_lconst (v := (0 : Int64)) hx hb dX4_may_6 (by decide) ?_
  refine W.lcmp hx hb dX4_may_7 ?_
  refine lv_if_eq (tgt := 13) hx hb dX4_may_8 (by decide) (fun hc => ?_) (fun hc => ?_)
  · have h := h.1 hc
    refine lv_iconst (v := (0 : Int32)) hx hb dX4_may_13 (by decide) ?_
    refine lv_istore_n (lv' := [(3, .int (0 : Int32)), (0, .ref (ad 3)), (1, .long x1)]) hx hb dX4_may_14 rfl hl (by decide) rfl (fun ls hl => ?_)
    exact t_X4_may_15 C0 hK N  N x1 (0 : Int32) σ _ _ _ h hP hD hS (lv_sub hl [1, 2, 0] rfl)
  · have h := h.2 hc
    refine lv_iconst (v := (0 : Int32)) hx hb dX4_may_11 (by decide) ?_
    exact zret_z hx hb hr hlocks hK hP hD hS zb_0 h dX4_may_12
set_option maxHeartbeats 4000000 in
set_option maxRecDepth 100000 in
theorem c_X4_may (N : Nat) (l : Launch) (dC : Nat → ClassId) (dI : Nat → Nat → Nat) (ad : Nat → Nat) (cI cJ : ClassId) (sz : Nat) (σ : zSt) (x1 : Int64) (Q : Int32 → zSt → Prop) (h : w_X4_may N x1 σ Q) : Met l yX4_may vs_X4_may rm_X4_may (va_Pc [.ref (ad 3), .long x1] (zPc (dC, dI) (x_ty cI cJ) (x_W ad cI cJ) sz σ)) (zQi (dC, dI) (x_ty cI cJ) (x_W ad cI cJ) (zAW x_n ad sz) Q) 0 0 (zAW x_n ad sz) := by
  refine Met.ofW (cc := cX4_may) (maxL := 4) (ret := (some .boolean)) (by decide) rfl ?_
  intro p e s m args below meth c s₁ B hml hv
  obtain ⟨rfl, hsz, hP, hK, hD0⟩ := hv
  subst hsz
  have C0 : zCx p s m meth c _ RX4 cX4_may 4 (some .boolean) vs_X4_may := ⟨B.exec, B.bytes, hml, B.returns, findClass_of_methodNamed B.named, atoms_spec (ws := vs_X4_may) B.pre, B.notSynchronized⟩
  have hD := x_D0 (n0 := s.heap.size) hD0
  have hl := lv_entry ([.ref (ad 3), .long x1]) (n := 4) (Nat.le_of_ble_eq_true rfl)
  rw [lg_entry_eq]
  generalize (lg_sl ([.ref (ad 3), .long x1]) ++ List.replicate (4 - (lg_sl ([.ref (ad 3), .long x1])).length) Slot.unset).toArray = ls at hl ⊢
  exact t_X4_may_0 C0 hK N x1 σ _ _ ls h hP hD va_S.rf hl
theorem k_X4_may (N : Nat) {R : Room} {H : Heap} {locs : List Loc} {cells slots : Nat} {Q2 : State → Prop} {cc : ByteArray} {nL pc index : Nat} {ls : Array Slot} {rest : List Value} {own : String} {c0 : Cond} {σ : zSt} {x1 : Int64} {Q : Int32 → zSt → Prop} (S0 : CallFix p m c cc nL s args (c0 :: zT) own) (hml : Cond.methodLink own index yX4_may ∈ zT) (hR : rm_X4_may.frames + 1 ≤ R.frames ∧ 8 + (4 + 11) + rm_X4_may.locals ≤ R.locals) (h : w_X4_may N x1 σ Q) (hK : va_K (dC, dI) vwCl (x_ty cI cJ) s) (hP : va_P (dC, dI) vwCl (x_W ad cI cJ σ) H) (hD : va_D (zAW x_n ad s.heap.size) (x_W ad cI cJ σ)) (hS : va_S (zAW x_n ad s.heap.size) s.heap H locs) (hsz : ls.size = nL) (hW : (rest.map fun v => v.category).sum ≤ 8) (hcs : cells ≤ R.cells ∧ slots ≤ R.slots) (hdg : decode cc pc = .ok (.invokevirtual index, 3)) (kk : ∀ (r : Int32) (τ : zSt) (H1 : Heap) (locs1 : List Loc), Q r τ → va_P (dC, dI) vwCl (x_W ad cI cJ τ) H1 → va_D (zAW x_n ad s.heap.size) (x_W ad cI cJ τ) → va_S (zAW x_n ad s.heap.size) s.heap H1 locs1 → W p l e R s m args below meth c H1 locs1 cells slots Q2 (F0 m (pc + 3) ls (.int r :: rest))) : W p l e R s m args below meth c H locs cells slots Q2 (F0 m pc ls (.long x1 :: .ref (ad 3) :: rest)) :=
  zcv_i (T := TX4) (N' := 8) (k := 3) (ci := 4) (fs := x_f3 ad σ) [.long x1] S0 (c_X4_may N l dC dI ad cI cJ H.size σ x1 Q h) (cw_X4_may S0.2.2.2.2 hml rfl rfl hR) rfl rfl hK hP hD hS rfl hsz hW rfl hcs hdg kk
end q04
section q04
def w_X11_net (N : Nat) (x1 : Int64) (σ : zSt) (Q : Int32 → zSt → Prop) : Prop :=
  w_X4_isNet N x1 σ (fun r1 τ2 => (r1 = 0 → Q (0 : Int32) τ2) ∧ (¬ r1 = 0 → w_X4_may N x1 τ2 (fun r3 τ4 => (r3 = 0 → Q (0 : Int32) τ4) ∧ (¬ r3 = 0 → ∀ τ5 : zSt, τ5 = zJ τ4 0 x1 → Q (1 : Int32) τ5))))
variable {p : Program} {l : Launch} {e : Env} {s : State} {m : MethodId} {args : Array Value} {below : List Frame} {meth : Method} {c : Code} {dC : Nat → ClassId} {dI : Nat → Nat → Nat} {ad : Nat → Nat} {cI cJ : ClassId}
set_option maxHeartbeats 4000000 in
set_option maxRecDepth 100000 in
theorem t_X11_net_0 (C0 : zCx p s m meth c args RX11 cX11_net 3 (some .boolean) vs_X11_net) (hK : va_K (dC, dI) vwCl (x_ty cI cJ) s) (N : Nat) {Q : Int32 → zSt → Prop} : ∀ (x1 : Int64) (σ : zSt) (H : Heap) (locs : List Loc) (ls : Array Slot), w_X11_net N x1 σ Q → va_P (dC, dI) vwCl (x_W ad cI cJ σ) H → va_D (zAW x_n ad s.heap.size) (x_W ad cI cJ σ) → va_S (zAW x_n ad s.heap.size) s.heap H locs → lv_has ls 3 [(0, .ref (ad 0)), (1, .long x1)] → W p l e rm_X11_net s m args below meth c H locs 0 0 (MQ below (zQi (dC, dI) (x_ty cI cJ) (x_W ad cI cJ) (zAW x_n ad s.heap.size) Q) args s 0 0 (zAW x_n ad s.heap.size)) (F0 m 0 ls []) := by
  obtain ⟨hx, hb, hml, hr, hown, hts, hlocks⟩ := id C0
  intro x1 σ H locs ls h hP hD hS hl
  unfold w_X11_net at h
  refine lv_aload_n hx hb dX11_net_0 rfl (lv_at hl 0 rfl) ?_
  refine xg_0_2 hx hb hts hown hK hP mw_291 dX11_net_1 ?_
  refine lv_lload_n hx hb dX11_net_4 rfl (lv_at hl 1 rfl) ?_
  refine k_X4_isNet N ⟨hx, hb, hml, hown, hts⟩ mw_496 ⟨Nat.le_of_ble_eq_true rfl, Nat.le_of_ble_eq_true rfl⟩ h hK hP hD hS hl.1 (rest := []) (Nat.le_of_ble_eq_true rfl) ⟨Nat.le_of_ble_eq_true rfl, Nat.le_of_ble_eq_true rfl⟩ dX11_net_5 (fun r1 τ2 H locs h hP hD hS => ?_)
  refine lv_if_eq (tgt := 22) hx hb dX11_net_8 (by decide) (fun hc => ?_) (fun hc => ?_)
  · have h := h.1 hc
    refine lv_iconst (v := (0 : Int32)) hx hb dX11_net_22 (by decide) ?_
    exact zret_z hx hb hr hlocks hK hP hD hS zb_0 h dX11_net_23
  · have h := h.2 hc
    refine lv_aload_n hx hb dX11_net_11 rfl (lv_at hl 0 rfl) ?_
    refine xg_0_2 hx hb hts hown hK hP mw_291 dX11_net_12 ?_
    refine lv_lload_n hx hb dX11_net_15 rfl (lv_at hl 1 rfl) ?_
    refine k_X4_may N ⟨hx, hb, hml, hown, hts⟩ mw_500 ⟨Nat.le_of_ble_eq_true rfl, Nat.le_of_ble_eq_true rfl⟩ h hK hP hD hS hl.1 (rest := []) (Nat.le_of_ble_eq_true rfl) ⟨Nat.le_of_ble_eq_true rfl, Nat.le_of_ble_eq_true rfl⟩ dX11_net_16 (fun r3 τ4 H locs h hP hD hS => ?_)
    refine lv_if_ne (tgt := 24) hx hb dX11_net_19 (by decide) (fun hc => ?_) (fun hc => ?_)
    · have h := h.2 hc
      refine lv_aload_n hx hb dX11_net_24 rfl (lv_at hl 0 rfl) ?_
      refine lv_lload_n hx hb dX11_net_25 rfl (lv_at hl 1 rfl) ?_
      refine xp_0_15 hx hb hts hown hK hP hD hS mw_304 dX11_net_26 (fun τ5 H locs eτ5 hP hD hS => ?_)
      have h := h τ5 eτ5
      refine lv_iconst (v := (1 : Int32)) hx hb dX11_net_29 (by decide) ?_
      exact zret_z hx hb hr hlocks hK hP hD hS zb_1 h dX11_net_30
    · have h := h.1 hc
      refine lv_iconst (v := (0 : Int32)) hx hb dX11_net_22 (by decide) ?_
      exact zret_z hx hb hr hlocks hK hP hD hS zb_0 h dX11_net_23
set_option maxHeartbeats 4000000 in
set_option maxRecDepth 100000 in
theorem c_X11_net (N : Nat) (l : Launch) (dC : Nat → ClassId) (dI : Nat → Nat → Nat) (ad : Nat → Nat) (cI cJ : ClassId) (sz : Nat) (σ : zSt) (x1 : Int64) (Q : Int32 → zSt → Prop) (h : w_X11_net N x1 σ Q) : Met l yX11_net vs_X11_net rm_X11_net (va_Pc [.ref (ad 0), .long x1] (zPc (dC, dI) (x_ty cI cJ) (x_W ad cI cJ) sz σ)) (zQi (dC, dI) (x_ty cI cJ) (x_W ad cI cJ) (zAW x_n ad sz) Q) 0 0 (zAW x_n ad sz) := by
  refine Met.ofW (cc := cX11_net) (maxL := 3) (ret := (some .boolean)) (by decide) rfl ?_
  intro p e s m args below meth c s₁ B hml hv
  obtain ⟨rfl, hsz, hP, hK, hD0⟩ := hv
  subst hsz
  have C0 : zCx p s m meth c _ RX11 cX11_net 3 (some .boolean) vs_X11_net := ⟨B.exec, B.bytes, hml, B.returns, findClass_of_methodNamed B.named, atoms_spec (ws := vs_X11_net) B.pre, B.notSynchronized⟩
  have hD := x_D0 (n0 := s.heap.size) hD0
  have hl := lv_entry ([.ref (ad 0), .long x1]) (n := 3) (Nat.le_of_ble_eq_true rfl)
  rw [lg_entry_eq]
  generalize (lg_sl ([.ref (ad 0), .long x1]) ++ List.replicate (3 - (lg_sl ([.ref (ad 0), .long x1])).length) Slot.unset).toArray = ls at hl ⊢
  exact t_X11_net_0 C0 hK N x1 σ _ _ ls h hP hD va_S.rf hl
theorem k_X11_net (N : Nat) {R : Room} {H : Heap} {locs : List Loc} {cells slots : Nat} {Q2 : State → Prop} {cc : ByteArray} {nL pc index : Nat} {ls : Array Slot} {rest : List Value} {own : String} {c0 : Cond} {σ : zSt} {x1 : Int64} {Q : Int32 → zSt → Prop} (S0 : CallFix p m c cc nL s args (c0 :: zT) own) (hml : Cond.methodLink own index yX11_net ∈ zT) (hR : rm_X11_net.frames + 1 ≤ R.frames ∧ 8 + (3 + 11) + rm_X11_net.locals ≤ R.locals) (h : w_X11_net N x1 σ Q) (hK : va_K (dC, dI) vwCl (x_ty cI cJ) s) (hP : va_P (dC, dI) vwCl (x_W ad cI cJ σ) H) (hD : va_D (zAW x_n ad s.heap.size) (x_W ad cI cJ σ)) (hS : va_S (zAW x_n ad s.heap.size) s.heap H locs) (hsz : ls.size = nL) (hW : (rest.map fun v => v.category).sum ≤ 8) (hcs : cells ≤ R.cells ∧ slots ≤ R.slots) (hdg : decode cc pc = .ok (.invokevirtual index, 3)) (kk : ∀ (r : Int32) (τ : zSt) (H1 : Heap) (locs1 : List Loc), Q r τ → va_P (dC, dI) vwCl (x_W ad cI cJ τ) H1 → va_D (zAW x_n ad s.heap.size) (x_W ad cI cJ τ) → va_S (zAW x_n ad s.heap.size) s.heap H1 locs1 → W p l e R s m args below meth c H1 locs1 cells slots Q2 (F0 m (pc + 3) ls (.int r :: rest))) : W p l e R s m args below meth c H locs cells slots Q2 (F0 m pc ls (.long x1 :: .ref (ad 0) :: rest)) :=
  zcv_i (T := TX11) (N' := 17) (k := 0) (ci := 11) (fs := x_f0 ad σ) [.long x1] S0 (c_X11_net N l dC dI ad cI cJ H.size σ x1 Q h) (cw_X11_net S0.2.2.2.2 hml rfl rfl hR) rfl rfl hK hP hD hS rfl hsz hW rfl hcs hdg kk
end q04
section q04
def w_X11_net_ (N : Nat)  (σ : zSt) (Q : Int64 → zSt → Prop) : Prop :=
  Q (σ.2.1 0) σ
variable {p : Program} {l : Launch} {e : Env} {s : State} {m : MethodId} {args : Array Value} {below : List Frame} {meth : Method} {c : Code} {dC : Nat → ClassId} {dI : Nat → Nat → Nat} {ad : Nat → Nat} {cI cJ : ClassId}
set_option maxHeartbeats 4000000 in
set_option maxRecDepth 100000 in
theorem t_X11_net__0 (C0 : zCx p s m meth c args RX11 cX11_net_ 1 (some .long) vs_X11_net_) (hK : va_K (dC, dI) vwCl (x_ty cI cJ) s) (N : Nat) {Q : Int64 → zSt → Prop} : ∀  (σ : zSt) (H : Heap) (locs : List Loc) (ls : Array Slot), w_X11_net_ N  σ Q → va_P (dC, dI) vwCl (x_W ad cI cJ σ) H → va_D (zAW x_n ad s.heap.size) (x_W ad cI cJ σ) → va_S (zAW x_n ad s.heap.size) s.heap H locs → lv_has ls 1 [(0, .ref (ad 0))] → W p l e rm_X11_net_ s m args below meth c H locs 0 0 (MQ below (zQl (dC, dI) (x_ty cI cJ) (x_W ad cI cJ) (zAW x_n ad s.heap.size) Q) args s 0 0 (zAW x_n ad s.heap.size)) (F0 m 0 ls []) := by
  obtain ⟨hx, hb, hml, hr, hown, hts, hlocks⟩ := id C0
  intro  σ H locs ls h hP hD hS hl
  unfold w_X11_net_ at h
  refine lv_aload_n hx hb dX11_net__0 rfl (lv_at hl 0 rfl) ?_
  refine xg_0_15 hx hb hts hown hK hP mw_304 dX11_net__1 ?_
  exact zret_l hx hb hr hlocks hK hP hD hS h dX11_net__4
set_option maxHeartbeats 4000000 in
set_option maxRecDepth 100000 in
theorem c_X11_net_ (N : Nat) (l : Launch) (dC : Nat → ClassId) (dI : Nat → Nat → Nat) (ad : Nat → Nat) (cI cJ : ClassId) (sz : Nat) (σ : zSt)  (Q : Int64 → zSt → Prop) (h : w_X11_net_ N  σ Q) : Met l yX11_net_ vs_X11_net_ rm_X11_net_ (va_Pc [.ref (ad 0)] (zPc (dC, dI) (x_ty cI cJ) (x_W ad cI cJ) sz σ)) (zQl (dC, dI) (x_ty cI cJ) (x_W ad cI cJ) (zAW x_n ad sz) Q) 0 0 (zAW x_n ad sz) := by
  refine Met.ofW (cc := cX11_net_) (maxL := 1) (ret := (some .long)) (by decide) rfl ?_
  intro p e s m args below meth c s₁ B hml hv
  obtain ⟨rfl, hsz, hP, hK, hD0⟩ := hv
  subst hsz
  have C0 : zCx p s m meth c _ RX11 cX11_net_ 1 (some .long) vs_X11_net_ := ⟨B.exec, B.bytes, hml, B.returns, findClass_of_methodNamed B.named, atoms_spec (ws := vs_X11_net_) B.pre, B.notSynchronized⟩
  have hD := x_D0 (n0 := s.heap.size) hD0
  have hl := lv_entry ([.ref (ad 0)]) (n := 1) (Nat.le_of_ble_eq_true rfl)
  rw [lg_entry_eq]
  generalize (lg_sl ([.ref (ad 0)]) ++ List.replicate (1 - (lg_sl ([.ref (ad 0)])).length) Slot.unset).toArray = ls at hl ⊢
  exact t_X11_net__0 C0 hK N  σ _ _ ls h hP hD va_S.rf hl
theorem k_X11_net_ (N : Nat) {R : Room} {H : Heap} {locs : List Loc} {cells slots : Nat} {Q2 : State → Prop} {cc : ByteArray} {nL pc index : Nat} {ls : Array Slot} {rest : List Value} {own : String} {c0 : Cond} {σ : zSt}  {Q : Int64 → zSt → Prop} (S0 : CallFix p m c cc nL s args (c0 :: zT) own) (hml : Cond.methodLink own index yX11_net_ ∈ zT) (hR : rm_X11_net_.frames + 1 ≤ R.frames ∧ 8 + (1 + 11) + rm_X11_net_.locals ≤ R.locals) (h : w_X11_net_ N  σ Q) (hK : va_K (dC, dI) vwCl (x_ty cI cJ) s) (hP : va_P (dC, dI) vwCl (x_W ad cI cJ σ) H) (hD : va_D (zAW x_n ad s.heap.size) (x_W ad cI cJ σ)) (hS : va_S (zAW x_n ad s.heap.size) s.heap H locs) (hsz : ls.size = nL) (hW : (rest.map fun v => v.category).sum ≤ 8) (hcs : cells ≤ R.cells ∧ slots ≤ R.slots) (hdg : decode cc pc = .ok (.invokevirtual index, 3)) (kk : ∀ (r : Int64) (τ : zSt) (H1 : Heap) (locs1 : List Loc), Q r τ → va_P (dC, dI) vwCl (x_W ad cI cJ τ) H1 → va_D (zAW x_n ad s.heap.size) (x_W ad cI cJ τ) → va_S (zAW x_n ad s.heap.size) s.heap H1 locs1 → W p l e R s m args below meth c H1 locs1 cells slots Q2 (F0 m (pc + 3) ls (.long r :: rest))) : W p l e R s m args below meth c H locs cells slots Q2 (F0 m pc ls (.ref (ad 0) :: rest)) :=
  zcv_l (T := TX11) (N' := 17) (k := 0) (ci := 11) (fs := x_f0 ad σ) [] S0 (c_X11_net_ N l dC dI ad cI cJ H.size σ  Q h) (cw_X11_net_ S0.2.2.2.2 hml rfl rfl hR) rfl rfl hK hP hD hS rfl hsz hW rfl hcs hdg kk
end q04
section q04
def b_X3_within_16 (N : Nat) (k_7 : Int32 → Int32 → Int64 → Int32 → zSt → Prop) (k_16 : Int32 → Int32 → Int64 → Int32 → Int32 → zSt → Prop) (Q : Int64 → zSt → Prop) (x1 : Int32) (x2 : Int32) (x3 : Int64) (x5 : Int32) (x6 : Int32) (σ : zSt) : Prop :=
  (x5 ≤ x6 → ∀ v1 : Int32, v1 = x5 + (1 : Int32) → k_7 x1 x2 x3 v1 σ) ∧ (¬ x5 ≤ x6 → w_X3_number N x6 x5 σ (fun r2 τ3 => ∀ v4 : Int64, v4 = x3 ||| ((1 : Int64) <<< (r2.toInt64 &&& 63)) → ∀ v5 : Int32, v5 = x6 + (1 : Int32) → k_16 x1 x2 v4 x5 v5 τ3))
def w_X3_within_16 (N : Nat) (k_7 : Int32 → Int32 → Int64 → Int32 → zSt → Prop) (Q : Int64 → zSt → Prop) : Nat → Int32 → Int32 → Int64 → Int32 → Int32 → zSt → Prop
  | 0 => fun _ _ _ _ _ _ => False
  | f + 1 => b_X3_within_16 N k_7 (w_X3_within_16 N k_7 Q f) Q
def b_X3_within_7 (N : Nat) (k_7 : Int32 → Int32 → Int64 → Int32 → zSt → Prop) (Q : Int64 → zSt → Prop) (x1 : Int32) (x2 : Int32) (x3 : Int64) (x5 : Int32) (σ : zSt) : Prop :=
  (x2 ≤ x5 → Q x3 σ) ∧ (¬ x2 ≤ x5 → w_X3_within_16 N k_7 Q N x1 x2 x3 x5 x1 σ)
def w_X3_within_7 (N : Nat) (Q : Int64 → zSt → Prop) : Nat → Int32 → Int32 → Int64 → Int32 → zSt → Prop
  | 0 => fun _ _ _ _ _ => False
  | f + 1 => b_X3_within_7 N (w_X3_within_7 N  Q f) Q
def w_X3_within (N : Nat) (x1 : Int32) (x2 : Int32) (σ : zSt) (Q : Int64 → zSt → Prop) : Prop :=
  ∀ v1 : Int32, v1 = x1 + (1 : Int32) → w_X3_within_7 N Q N x1 x2 (0 : Int64) v1 σ
variable {p : Program} {l : Launch} {e : Env} {s : State} {m : MethodId} {args : Array Value} {below : List Frame} {meth : Method} {c : Code} {dC : Nat → ClassId} {dI : Nat → Nat → Nat} {ad : Nat → Nat} {cI cJ : ClassId}
set_option maxHeartbeats 4000000 in
set_option maxRecDepth 100000 in
theorem tb_X3_within_16 (C0 : zCx p s m meth c args RX3 cX3_within 7 (some .long) vs_X3_within) (hK : va_K (dC, dI) vwCl (x_ty cI cJ) s) (N : Nat) {Q : Int64 → zSt → Prop} {k_7 : Int32 → Int32 → Int64 → Int32 → zSt → Prop} (hk_7 : ∀ (x1 : Int32) (x2 : Int32) (x3 : Int64) (x5 : Int32) (σ : zSt) (H : Heap) (locs : List Loc) (ls : Array Slot), k_7 x1 x2 x3 x5 σ → va_P (dC, dI) vwCl (x_W ad cI cJ σ) H → va_D (zAW x_n ad s.heap.size) (x_W ad cI cJ σ) → va_S (zAW x_n ad s.heap.size) s.heap H locs → lv_has ls 7 [(1, .int x1), (2, .int x2), (3, .long x3), (5, .int x5)] → W p l e rm_X3_within s m args below meth c H locs 0 0 (MQ below (zQl (dC, dI) (x_ty cI cJ) (x_W ad cI cJ) (zAW x_n ad s.heap.size) Q) args s 0 0 (zAW x_n ad s.heap.size)) (F0 m 7 ls [])) {k_16 : Int32 → Int32 → Int64 → Int32 → Int32 → zSt → Prop} (hk_16 : ∀ (x1 : Int32) (x2 : Int32) (x3 : Int64) (x5 : Int32) (x6 : Int32) (σ : zSt) (H : Heap) (locs : List Loc) (ls : Array Slot), k_16 x1 x2 x3 x5 x6 σ → va_P (dC, dI) vwCl (x_W ad cI cJ σ) H → va_D (zAW x_n ad s.heap.size) (x_W ad cI cJ σ) → va_S (zAW x_n ad s.heap.size) s.heap H locs → lv_has ls 7 [(1, .int x1), (2, .int x2), (3, .long x3), (5, .int x5), (6, .int x6)] → W p l e rm_X3_within s m args below meth c H locs 0 0 (MQ below (zQl (dC, dI) (x_ty cI cJ) (x_W ad cI cJ) (zAW x_n ad s.heap.size) Q) args s 0 0 (zAW x_n ad s.heap.size)) (F0 m 16 ls [])) : ∀ (x1 : Int32) (x2 : Int32) (x3 : Int64) (x5 : Int32) (x6 : Int32) (σ : zSt) (H : Heap) (locs : List Loc) (ls : Array Slot), b_X3_within_16 N k_7 k_16 Q x1 x2 x3 x5 x6 σ → va_P (dC, dI) vwCl (x_W ad cI cJ σ) H → va_D (zAW x_n ad s.heap.size) (x_W ad cI cJ σ) → va_S (zAW x_n ad s.heap.size) s.heap H locs → lv_has ls 7 [(1, .int x1), (2, .int x2), (3, .long x3), (5, .int x5), (6, .int x6)] → W p l e rm_X3_within s m args below meth c H locs 0 0 (MQ below (zQl (dC, dI) (x_ty cI cJ) (x_W ad cI cJ) (zAW x_n ad s.heap.size) Q) args s 0 0 (zAW x_n ad s.heap.size)) (F0 m 16 ls []) := by
  obtain ⟨hx, hb, hml, hr, hown, hts, hlocks⟩ := id C0
  intro x1 x2 x3 x5 x6 σ H locs ls h hP hD hS hl
  unfold b_X3_within_16 at h
  refine lv_iload hx hb dX3_within_16 (lv_at hl 4 rfl) ?_
  refine lv_iload hx hb dX3_within_18 (lv_at hl 3 rfl) ?_
  refine lv_icmp_ge (tgt := 41) hx hb dX3_within_20 (by decide) (fun hc => ?_) (fun hc => ?_)
  · have h := h.1 hc
    obtain ⟨v1, ev1⟩ : ∃ z : Int32, z = x5 + (1 : Int32) := ⟨_, rfl⟩
    have h := h v1 ev1
    refine lv_iinc (v := v1) (lv' := [(5, .int v1), (1, .int x1), (2, .int x2), (3, .long x3), (6, .int x6)]) hx hb dX3_within_41 hl (k := 3) rfl (by rw [ev1]; rfl) (by decide) rfl (fun ls hl => ?_)
    refine lv_goto (tgt := 7) hx hb dX3_within_44 (by decide) ?_
    exact hk_7 x1 x2 x3 v1 σ _ _ _ h hP hD hS (lv_sub hl [1, 2, 3, 0] rfl)
  · have h := h.2 hc
    refine lv_lload_n hx hb dX3_within_23 rfl (lv_at hl 2 rfl) ?_
    refine lv_lconst (v := (1 : Int64)) hx hb dX3_within_24 (by decide) ?_
    refine lv_iload hx hb dX3_within_25 (lv_at hl 4 rfl) ?_
    refine lv_iload hx hb dX3_within_27 (lv_at hl 3 rfl) ?_
    refine k_X3_number N ⟨hx, hb, hml, hown, hts⟩ mw_517 ⟨Nat.le_of_ble_eq_true rfl, Nat.le_of_ble_eq_true rfl⟩ h hK hP hD hS hl.1 (rest := [.long (1 : Int64), .long x3]) (Nat.le_of_ble_eq_true rfl) ⟨Nat.le_of_ble_eq_true rfl, Nat.le_of_ble_eq_true rfl⟩ dX3_within_29 (fun r2 τ3 H locs h hP hD hS => ?_)
    refine lv_lshl hx hb dX3_within_32 rfl ?_
    refine lv_lor hx hb dX3_within_33 ?_
    refine lv_topl (fun v4 ev4 => ?_)
    have h := h v4 ev4
    refine lv_lstore_n (lv' := [(3, .long v4), (1, .int x1), (2, .int x2), (5, .int x5), (6, .int x6)]) hx hb dX3_within_34 rfl hl (by decide) rfl (fun ls hl => ?_)
    obtain ⟨v5, ev5⟩ : ∃ z : Int32, z = x6 + (1 : Int32) := ⟨_, rfl⟩
    have h := h v5 ev5
    refine lv_iinc (v := v5) (lv' := [(6, .int v5), (3, .long v4), (1, .int x1), (2, .int x2), (5, .int x5)]) hx hb dX3_within_35 hl (k := 4) rfl (by rw [ev5]; rfl) (by decide) rfl (fun ls hl => ?_)
    refine lv_goto (tgt := 16) hx hb dX3_within_38 (by decide) ?_
    exact hk_16 x1 x2 v4 x5 v5 τ3 _ _ _ h hP hD hS (lv_sub hl [2, 3, 1, 4, 0] rfl)
set_option maxHeartbeats 4000000 in
set_option maxRecDepth 100000 in
theorem t_X3_within_16 (C0 : zCx p s m meth c args RX3 cX3_within 7 (some .long) vs_X3_within) (hK : va_K (dC, dI) vwCl (x_ty cI cJ) s) (N : Nat) {Q : Int64 → zSt → Prop} {k_7 : Int32 → Int32 → Int64 → Int32 → zSt → Prop} (hk_7 : ∀ (x1 : Int32) (x2 : Int32) (x3 : Int64) (x5 : Int32) (σ : zSt) (H : Heap) (locs : List Loc) (ls : Array Slot), k_7 x1 x2 x3 x5 σ → va_P (dC, dI) vwCl (x_W ad cI cJ σ) H → va_D (zAW x_n ad s.heap.size) (x_W ad cI cJ σ) → va_S (zAW x_n ad s.heap.size) s.heap H locs → lv_has ls 7 [(1, .int x1), (2, .int x2), (3, .long x3), (5, .int x5)] → W p l e rm_X3_within s m args below meth c H locs 0 0 (MQ below (zQl (dC, dI) (x_ty cI cJ) (x_W ad cI cJ) (zAW x_n ad s.heap.size) Q) args s 0 0 (zAW x_n ad s.heap.size)) (F0 m 7 ls [])) : ∀ (f : Nat) (x1 : Int32) (x2 : Int32) (x3 : Int64) (x5 : Int32) (x6 : Int32) (σ : zSt) (H : Heap) (locs : List Loc) (ls : Array Slot), w_X3_within_16 N k_7 Q f x1 x2 x3 x5 x6 σ → va_P (dC, dI) vwCl (x_W ad cI cJ σ) H → va_D (zAW x_n ad s.heap.size) (x_W ad cI cJ σ) → va_S (zAW x_n ad s.heap.size) s.heap H locs → lv_has ls 7 [(1, .int x1), (2, .int x2), (3, .long x3), (5, .int x5), (6, .int x6)] → W p l e rm_X3_within s m args below meth c H locs 0 0 (MQ below (zQl (dC, dI) (x_ty cI cJ) (x_W ad cI cJ) (zAW x_n ad s.heap.size) Q) args s 0 0 (zAW x_n ad s.heap.size)) (F0 m 16 ls []) := by
  intro f
  induction f with
  | zero => intro x1 x2 x3 x5 x6 σ H locs ls h; exact h.elim
  | succ f ih =>
    intro x1 x2 x3 x5 x6 σ H locs ls h hP hD hS hl
    exact tb_X3_within_16 C0 hK N hk_7 (k_16 := w_X3_within_16 N k_7 Q f) ih x1 x2 x3 x5 x6 σ H locs ls h hP hD hS hl
set_option maxHeartbeats 4000000 in
set_option maxRecDepth 100000 in
theorem tb_X3_within_7 (C0 : zCx p s m meth c args RX3 cX3_within 7 (some .long) vs_X3_within) (hK : va_K (dC, dI) vwCl (x_ty cI cJ) s) (N : Nat) {Q : Int64 → zSt → Prop} {k_7 : Int32 → Int32 → Int64 → Int32 → zSt → Prop} (hk_7 : ∀ (x1 : Int32) (x2 : Int32) (x3 : Int64) (x5 : Int32) (σ : zSt) (H : Heap) (locs : List Loc) (ls : Array Slot), k_7 x1 x2 x3 x5 σ → va_P (dC, dI) vwCl (x_W ad cI cJ σ) H → va_D (zAW x_n ad s.heap.size) (x_W ad cI cJ σ) → va_S (zAW x_n ad s.heap.size) s.heap H locs → lv_has ls 7 [(1, .int x1), (2, .int x2), (3, .long x3), (5, .int x5)] → W p l e rm_X3_within s m args below meth c H locs 0 0 (MQ below (zQl (dC, dI) (x_ty cI cJ) (x_W ad cI cJ) (zAW x_n ad s.heap.size) Q) args s 0 0 (zAW x_n ad s.heap.size)) (F0 m 7 ls [])) : ∀ (x1 : Int32) (x2 : Int32) (x3 : Int64) (x5 : Int32) (σ : zSt) (H : Heap) (locs : List Loc) (ls : Array Slot), b_X3_within_7 N k_7 Q x1 x2 x3 x5 σ → va_P (dC, dI) vwCl (x_W ad cI cJ σ) H → va_D (zAW x_n ad s.heap.size) (x_W ad cI cJ σ) → va_S (zAW x_n ad s.heap.size) s.heap H locs → lv_has ls 7 [(1, .int x1), (2, .int x2), (3, .long x3), (5, .int x5)] → W p l e rm_X3_within s m args below meth c H locs 0 0 (MQ below (zQl (dC, dI) (x_ty cI cJ) (x_W ad cI cJ) (zAW x_n ad s.heap.size) Q) args s 0 0 (zAW x_n ad s.heap.size)) (F0 m 7 ls []) := by
  obtain ⟨hx, hb, hml, hr, hown, hts, hlocks⟩ := id C0
  intro x1 x2 x3 x5 σ H locs ls h hP hD hS hl
  unfold b_X3_within_7 at h
  refine lv_iload hx hb dX3_within_7 (lv_at hl 3 rfl) ?_
  refine lv_iload_n hx hb dX3_within_9 rfl (lv_at hl 1 rfl) ?_
  refine lv_icmp_ge (tgt := 47) hx hb dX3_within_10 (by decide) (fun hc => ?_) (fun hc => ?_)
  · have h := h.1 hc
    refine lv_lload_n hx hb dX3_within_47 rfl (lv_at hl 2 rfl) ?_
    exact zret_l hx hb hr hlocks hK hP hD hS h dX3_within_48
  · have h := h.2 hc
    refine lv_iload_n hx hb dX3_within_13 rfl (lv_at hl 0 rfl) ?_
    refine lv_istore (lv' := [(6, .int x1), (1, .int x1), (2, .int x2), (3, .long x3), (5, .int x5)]) hx hb dX3_within_14 hl (by decide) rfl (fun ls hl => ?_)
    exact t_X3_within_16 C0 hK N hk_7 N x1 x2 x3 x5 x1 σ _ _ _ h hP hD hS (lv_sub hl [1, 2, 3, 4, 0] rfl)
set_option maxHeartbeats 4000000 in
set_option maxRecDepth 100000 in
theorem t_X3_within_7 (C0 : zCx p s m meth c args RX3 cX3_within 7 (some .long) vs_X3_within) (hK : va_K (dC, dI) vwCl (x_ty cI cJ) s) (N : Nat) {Q : Int64 → zSt → Prop} : ∀ (f : Nat) (x1 : Int32) (x2 : Int32) (x3 : Int64) (x5 : Int32) (σ : zSt) (H : Heap) (locs : List Loc) (ls : Array Slot), w_X3_within_7 N  Q f x1 x2 x3 x5 σ → va_P (dC, dI) vwCl (x_W ad cI cJ σ) H → va_D (zAW x_n ad s.heap.size) (x_W ad cI cJ σ) → va_S (zAW x_n ad s.heap.size) s.heap H locs → lv_has ls 7 [(1, .int x1), (2, .int x2), (3, .long x3), (5, .int x5)] → W p l e rm_X3_within s m args below meth c H locs 0 0 (MQ below (zQl (dC, dI) (x_ty cI cJ) (x_W ad cI cJ) (zAW x_n ad s.heap.size) Q) args s 0 0 (zAW x_n ad s.heap.size)) (F0 m 7 ls []) := by
  intro f
  induction f with
  | zero => intro x1 x2 x3 x5 σ H locs ls h; exact h.elim
  | succ f ih =>
    intro x1 x2 x3 x5 σ H locs ls h hP hD hS hl
    exact tb_X3_within_7 C0 hK N  (k_7 := w_X3_within_7 N  Q f) ih x1 x2 x3 x5 σ H locs ls h hP hD hS hl
set_option maxHeartbeats 4000000 in
set_option maxRecDepth 100000 in
theorem t_X3_within_0 (C0 : zCx p s m meth c args RX3 cX3_within 7 (some .long) vs_X3_within) (hK : va_K (dC, dI) vwCl (x_ty cI cJ) s) (N : Nat) {Q : Int64 → zSt → Prop} : ∀ (x1 : Int32) (x2 : Int32) (σ : zSt) (H : Heap) (locs : List Loc) (ls : Array Slot), w_X3_within N x1 x2 σ Q → va_P (dC, dI) vwCl (x_W ad cI cJ σ) H → va_D (zAW x_n ad s.heap.size) (x_W ad cI cJ σ) → va_S (zAW x_n ad s.heap.size) s.heap H locs → lv_has ls 7 [(0, .ref (ad 2)), (1, .int x1), (2, .int x2)] → W p l e rm_X3_within s m args below meth c H locs 0 0 (MQ below (zQl (dC, dI) (x_ty cI cJ) (x_W ad cI cJ) (zAW x_n ad s.heap.size) Q) args s 0 0 (zAW x_n ad s.heap.size)) (F0 m 0 ls []) := by
  obtain ⟨hx, hb, hml, hr, hown, hts, hlocks⟩ := id C0
  intro x1 x2 σ H locs ls h hP hD hS hl
  unfold w_X3_within at h
  refine lv_lconst (v := (0 : Int64)) hx hb dX3_within_0 (by decide) ?_
  refine lv_lstore_n (lv' := [(3, .long (0 : Int64)), (0, .ref (ad 2)), (1, .int x1), (2, .int x2)]) hx hb dX3_within_1 rfl hl (by decide) rfl (fun ls hl => ?_)
  refine lv_iload_n hx hb dX3_within_2 rfl (lv_at hl 2 rfl) ?_
  refine lv_iconst (v := (1 : Int32)) hx hb dX3_within_3 (by decide) ?_
  refine lv_iadd hx hb dX3_within_4 ?_
  refine lv_topi (fun v1 ev1 => ?_)
  have h := h v1 ev1
  refine lv_istore (lv' := [(5, .int v1), (3, .long (0 : Int64)), (0, .ref (ad 2)), (1, .int x1), (2, .int x2)]) hx hb dX3_within_5 hl (by decide) rfl (fun ls hl => ?_)
  exact t_X3_within_7 C0 hK N  N x1 x2 (0 : Int64) v1 σ _ _ _ h hP hD hS (lv_sub hl [3, 4, 1, 0] rfl)
set_option maxHeartbeats 4000000 in
set_option maxRecDepth 100000 in
theorem c_X3_within (N : Nat) (l : Launch) (dC : Nat → ClassId) (dI : Nat → Nat → Nat) (ad : Nat → Nat) (cI cJ : ClassId) (sz : Nat) (σ : zSt) (x1 : Int32) (x2 : Int32) (Q : Int64 → zSt → Prop) (h : w_X3_within N x1 x2 σ Q) : Met l yX3_within vs_X3_within rm_X3_within (va_Pc [.ref (ad 2), .int x1, .int x2] (zPc (dC, dI) (x_ty cI cJ) (x_W ad cI cJ) sz σ)) (zQl (dC, dI) (x_ty cI cJ) (x_W ad cI cJ) (zAW x_n ad sz) Q) 0 0 (zAW x_n ad sz) := by
  refine Met.ofW (cc := cX3_within) (maxL := 7) (ret := (some .long)) (by decide) rfl ?_
  intro p e s m args below meth c s₁ B hml hv
  obtain ⟨rfl, hsz, hP, hK, hD0⟩ := hv
  subst hsz
  have C0 : zCx p s m meth c _ RX3 cX3_within 7 (some .long) vs_X3_within := ⟨B.exec, B.bytes, hml, B.returns, findClass_of_methodNamed B.named, atoms_spec (ws := vs_X3_within) B.pre, B.notSynchronized⟩
  have hD := x_D0 (n0 := s.heap.size) hD0
  have hl := lv_entry ([.ref (ad 2), .int x1, .int x2]) (n := 7) (Nat.le_of_ble_eq_true rfl)
  rw [lg_entry_eq]
  generalize (lg_sl ([.ref (ad 2), .int x1, .int x2]) ++ List.replicate (7 - (lg_sl ([.ref (ad 2), .int x1, .int x2])).length) Slot.unset).toArray = ls at hl ⊢
  exact t_X3_within_0 C0 hK N x1 x2 σ _ _ ls h hP hD va_S.rf hl
theorem k_X3_within (N : Nat) {R : Room} {H : Heap} {locs : List Loc} {cells slots : Nat} {Q2 : State → Prop} {cc : ByteArray} {nL pc index : Nat} {ls : Array Slot} {rest : List Value} {own : String} {c0 : Cond} {σ : zSt} {x1 : Int32} {x2 : Int32} {Q : Int64 → zSt → Prop} (S0 : CallFix p m c cc nL s args (c0 :: zT) own) (hml : Cond.methodLink own index yX3_within ∈ zT) (hR : rm_X3_within.frames + 1 ≤ R.frames ∧ 8 + (7 + 11) + rm_X3_within.locals ≤ R.locals) (h : w_X3_within N x1 x2 σ Q) (hK : va_K (dC, dI) vwCl (x_ty cI cJ) s) (hP : va_P (dC, dI) vwCl (x_W ad cI cJ σ) H) (hD : va_D (zAW x_n ad s.heap.size) (x_W ad cI cJ σ)) (hS : va_S (zAW x_n ad s.heap.size) s.heap H locs) (hsz : ls.size = nL) (hW : (rest.map fun v => v.category).sum ≤ 8) (hcs : cells ≤ R.cells ∧ slots ≤ R.slots) (hdg : decode cc pc = .ok (.invokevirtual index, 3)) (kk : ∀ (r : Int64) (τ : zSt) (H1 : Heap) (locs1 : List Loc), Q r τ → va_P (dC, dI) vwCl (x_W ad cI cJ τ) H1 → va_D (zAW x_n ad s.heap.size) (x_W ad cI cJ τ) → va_S (zAW x_n ad s.heap.size) s.heap H1 locs1 → W p l e R s m args below meth c H1 locs1 cells slots Q2 (F0 m (pc + 3) ls (.long r :: rest))) : W p l e R s m args below meth c H locs cells slots Q2 (F0 m pc ls (.int x2 :: .int x1 :: .ref (ad 2) :: rest)) :=
  zcv_l (T := TX3) (N' := 3) (k := 2) (ci := 3) (fs := x_f2 ad σ) [.int x1, .int x2] S0 (c_X3_within N l dC dI ad cI cJ H.size σ x1 x2 Q h) (cw_X3_within S0.2.2.2.2 hml rfl rfl hR) rfl rfl hK hP hD hS rfl hsz hW rfl hcs hdg kk
end q04
section q04
def w_X3_star (N : Nat) (x1 : Int32) (x2 : Int32) (σ : zSt) (Q : Int64 → zSt → Prop) : Prop :=
  (vp_in x1 10) ∧ (w_X3_count N x2 σ (fun r1 τ2 => Q ((σ.2.2.2 2 x1.toNatClampNeg) &&& (((1 : Int64) <<< (r1.toInt64 &&& 63)) - (1 : Int64))) τ2))
variable {p : Program} {l : Launch} {e : Env} {s : State} {m : MethodId} {args : Array Value} {below : List Frame} {meth : Method} {c : Code} {dC : Nat → ClassId} {dI : Nat → Nat → Nat} {ad : Nat → Nat} {cI cJ : ClassId}
set_option maxHeartbeats 4000000 in
set_option maxRecDepth 100000 in
theorem t_X3_star_0 (C0 : zCx p s m meth c args RX3 cX3_star 3 (some .long) vs_X3_star) (hK : va_K (dC, dI) vwCl (x_ty cI cJ) s) (N : Nat) {Q : Int64 → zSt → Prop} : ∀ (x1 : Int32) (x2 : Int32) (σ : zSt) (H : Heap) (locs : List Loc) (ls : Array Slot), w_X3_star N x1 x2 σ Q → va_P (dC, dI) vwCl (x_W ad cI cJ σ) H → va_D (zAW x_n ad s.heap.size) (x_W ad cI cJ σ) → va_S (zAW x_n ad s.heap.size) s.heap H locs → lv_has ls 3 [(0, .ref (ad 2)), (1, .int x1), (2, .int x2)] → W p l e rm_X3_star s m args below meth c H locs 0 0 (MQ below (zQl (dC, dI) (x_ty cI cJ) (x_W ad cI cJ) (zAW x_n ad s.heap.size) Q) args s 0 0 (zAW x_n ad s.heap.size)) (F0 m 0 ls []) := by
  obtain ⟨hx, hb, hml, hr, hown, hts, hlocks⟩ := id C0
  intro x1 x2 σ H locs ls h hP hD hS hl
  unfold w_X3_star at h
  refine lv_aload_n hx hb dX3_star_0 rfl (lv_at hl 0 rfl) ?_
  refine xg_2_2 hx hb hts hown hK hP mw_53 dX3_star_1 ?_
  refine lv_iload_n hx hb dX3_star_4 rfl (lv_at hl 1 rfl) ?_
  refine xa_22 hx hb hK hP h.1 rfl dX3_star_5 ?_
  have h := h.2
  refine lv_lconst (v := (1 : Int64)) hx hb dX3_star_6 (by decide) ?_
  refine lv_iload_n hx hb dX3_star_7 rfl (lv_at hl 2 rfl) ?_
  refine k_X3_count N ⟨hx, hb, hml, hown, hts⟩ mw_522 ⟨Nat.le_of_ble_eq_true rfl, Nat.le_of_ble_eq_true rfl⟩ h hK hP hD hS hl.1 (rest := [.long (1 : Int64), .long (σ.2.2.2 2 x1.toNatClampNeg)]) (Nat.le_of_ble_eq_true rfl) ⟨Nat.le_of_ble_eq_true rfl, Nat.le_of_ble_eq_true rfl⟩ dX3_star_8 (fun r1 τ2 H locs h hP hD hS => ?_)
  refine lv_lshl hx hb dX3_star_11 rfl ?_
  refine lv_lconst (v := (1 : Int64)) hx hb dX3_star_12 (by decide) ?_
  refine lv_lsub hx hb dX3_star_13 ?_
  refine lv_land hx hb dX3_star_14 ?_
  exact zret_l hx hb hr hlocks hK hP hD hS h dX3_star_15
set_option maxHeartbeats 4000000 in
set_option maxRecDepth 100000 in
theorem c_X3_star (N : Nat) (l : Launch) (dC : Nat → ClassId) (dI : Nat → Nat → Nat) (ad : Nat → Nat) (cI cJ : ClassId) (sz : Nat) (σ : zSt) (x1 : Int32) (x2 : Int32) (Q : Int64 → zSt → Prop) (h : w_X3_star N x1 x2 σ Q) : Met l yX3_star vs_X3_star rm_X3_star (va_Pc [.ref (ad 2), .int x1, .int x2] (zPc (dC, dI) (x_ty cI cJ) (x_W ad cI cJ) sz σ)) (zQl (dC, dI) (x_ty cI cJ) (x_W ad cI cJ) (zAW x_n ad sz) Q) 0 0 (zAW x_n ad sz) := by
  refine Met.ofW (cc := cX3_star) (maxL := 3) (ret := (some .long)) (by decide) rfl ?_
  intro p e s m args below meth c s₁ B hml hv
  obtain ⟨rfl, hsz, hP, hK, hD0⟩ := hv
  subst hsz
  have C0 : zCx p s m meth c _ RX3 cX3_star 3 (some .long) vs_X3_star := ⟨B.exec, B.bytes, hml, B.returns, findClass_of_methodNamed B.named, atoms_spec (ws := vs_X3_star) B.pre, B.notSynchronized⟩
  have hD := x_D0 (n0 := s.heap.size) hD0
  have hl := lv_entry ([.ref (ad 2), .int x1, .int x2]) (n := 3) (Nat.le_of_ble_eq_true rfl)
  rw [lg_entry_eq]
  generalize (lg_sl ([.ref (ad 2), .int x1, .int x2]) ++ List.replicate (3 - (lg_sl ([.ref (ad 2), .int x1, .int x2])).length) Slot.unset).toArray = ls at hl ⊢
  exact t_X3_star_0 C0 hK N x1 x2 σ _ _ ls h hP hD va_S.rf hl
theorem k_X3_star (N : Nat) {R : Room} {H : Heap} {locs : List Loc} {cells slots : Nat} {Q2 : State → Prop} {cc : ByteArray} {nL pc index : Nat} {ls : Array Slot} {rest : List Value} {own : String} {c0 : Cond} {σ : zSt} {x1 : Int32} {x2 : Int32} {Q : Int64 → zSt → Prop} (S0 : CallFix p m c cc nL s args (c0 :: zT) own) (hml : Cond.methodLink own index yX3_star ∈ zT) (hR : rm_X3_star.frames + 1 ≤ R.frames ∧ 8 + (3 + 11) + rm_X3_star.locals ≤ R.locals) (h : w_X3_star N x1 x2 σ Q) (hK : va_K (dC, dI) vwCl (x_ty cI cJ) s) (hP : va_P (dC, dI) vwCl (x_W ad cI cJ σ) H) (hD : va_D (zAW x_n ad s.heap.size) (x_W ad cI cJ σ)) (hS : va_S (zAW x_n ad s.heap.size) s.heap H locs) (hsz : ls.size = nL) (hW : (rest.map fun v => v.category).sum ≤ 8) (hcs : cells ≤ R.cells ∧ slots ≤ R.slots) (hdg : decode cc pc = .ok (.invokevirtual index, 3)) (kk : ∀ (r : Int64) (τ : zSt) (H1 : Heap) (locs1 : List Loc), Q r τ → va_P (dC, dI) vwCl (x_W ad cI cJ τ) H1 → va_D (zAW x_n ad s.heap.size) (x_W ad cI cJ τ) → va_S (zAW x_n ad s.heap.size) s.heap H1 locs1 → W p l e R s m args below meth c H1 locs1 cells slots Q2 (F0 m (pc + 3) ls (.long r :: rest))) : W p l e R s m args below meth c H locs cells slots Q2 (F0 m pc ls (.int x2 :: .int x1 :: .ref (ad 2) :: rest)) :=
  zcv_l (T := TX3) (N' := 3) (k := 2) (ci := 3) (fs := x_f2 ad σ) [.int x1, .int x2] S0 (c_X3_star N l dC dI ad cI cJ H.size σ x1 x2 Q h) (cw_X3_star S0.2.2.2.2 hml rfl rfl hR) rfl rfl hK hP hD hS rfl hsz hW rfl hcs hdg kk
end q04
section q04
def b_X3_circle_12 (N : Nat) (k_12 : Int32 → Int32 → Int32 → Int64 → Int32 → Int32 → Int32 → zSt → Prop) (Q : Int64 → zSt → Prop) (x1 : Int32) (x2 : Int32) (x3 : Int32) (x4 : Int64) (x6 : Int32) (x7 : Int32) (x8 : Int32) (σ : zSt) : Prop :=
  (x1 ≤ x8 → (x3 = 0 → Q x4 σ) ∧ (¬ x3 = 0 → (x6 = x7 → Q x4 σ) ∧ (¬ x6 = x7 → w_X3_number N x6 x7 σ (fun r1 τ2 => Q (x4 ||| ((1 : Int64) <<< (r1.toInt64 &&& 63))) τ2)))) ∧ (¬ x1 ≤ x8 → (x8 = x2 → ∀ v3 : Int32, v3 = x8 + (1 : Int32) → k_12 x1 x2 x3 x4 x6 x7 v3 σ) ∧ (¬ x8 = x2 → (x7 = (-1 : Int32) → ∀ v8 : Int32, v8 = x8 + (1 : Int32) → k_12 x1 x2 x3 x4 x8 x8 v8 σ) ∧ (¬ x7 = (-1 : Int32) → w_X3_number N x7 x8 σ (fun r4 τ5 => ∀ v6 : Int64, v6 = x4 ||| ((1 : Int64) <<< (r4.toInt64 &&& 63)) → ∀ v7 : Int32, v7 = x8 + (1 : Int32) → k_12 x1 x2 x3 v6 x6 x8 v7 τ5))))
def w_X3_circle_12 (N : Nat) (Q : Int64 → zSt → Prop) : Nat → Int32 → Int32 → Int32 → Int64 → Int32 → Int32 → Int32 → zSt → Prop
  | 0 => fun _ _ _ _ _ _ _ _ => False
  | f + 1 => b_X3_circle_12 N (w_X3_circle_12 N  Q f) Q
def w_X3_circle (N : Nat) (x1 : Int32) (x2 : Int32) (x3 : Int32) (σ : zSt) (Q : Int64 → zSt → Prop) : Prop :=
  w_X3_circle_12 N Q N x1 x2 x3 (0 : Int64) (-1 : Int32) (-1 : Int32) (0 : Int32) σ
variable {p : Program} {l : Launch} {e : Env} {s : State} {m : MethodId} {args : Array Value} {below : List Frame} {meth : Method} {c : Code} {dC : Nat → ClassId} {dI : Nat → Nat → Nat} {ad : Nat → Nat} {cI cJ : ClassId}
set_option maxHeartbeats 4000000 in
set_option maxRecDepth 100000 in
theorem tb_X3_circle_12 (C0 : zCx p s m meth c args RX3 cX3_circle 9 (some .long) vs_X3_circle) (hK : va_K (dC, dI) vwCl (x_ty cI cJ) s) (N : Nat) {Q : Int64 → zSt → Prop} {k_12 : Int32 → Int32 → Int32 → Int64 → Int32 → Int32 → Int32 → zSt → Prop} (hk_12 : ∀ (x1 : Int32) (x2 : Int32) (x3 : Int32) (x4 : Int64) (x6 : Int32) (x7 : Int32) (x8 : Int32) (σ : zSt) (H : Heap) (locs : List Loc) (ls : Array Slot), k_12 x1 x2 x3 x4 x6 x7 x8 σ → va_P (dC, dI) vwCl (x_W ad cI cJ σ) H → va_D (zAW x_n ad s.heap.size) (x_W ad cI cJ σ) → va_S (zAW x_n ad s.heap.size) s.heap H locs → lv_has ls 9 [(1, .int x1), (2, .int x2), (3, .int x3), (4, .long x4), (6, .int x6), (7, .int x7), (8, .int x8)] → W p l e rm_X3_circle s m args below meth c H locs 0 0 (MQ below (zQl (dC, dI) (x_ty cI cJ) (x_W ad cI cJ) (zAW x_n ad s.heap.size) Q) args s 0 0 (zAW x_n ad s.heap.size)) (F0 m 12 ls [])) : ∀ (x1 : Int32) (x2 : Int32) (x3 : Int32) (x4 : Int64) (x6 : Int32) (x7 : Int32) (x8 : Int32) (σ : zSt) (H : Heap) (locs : List Loc) (ls : Array Slot), b_X3_circle_12 N k_12 Q x1 x2 x3 x4 x6 x7 x8 σ → va_P (dC, dI) vwCl (x_W ad cI cJ σ) H → va_D (zAW x_n ad s.heap.size) (x_W ad cI cJ σ) → va_S (zAW x_n ad s.heap.size) s.heap H locs → lv_has ls 9 [(1, .int x1), (2, .int x2), (3, .int x3), (4, .long x4), (6, .int x6), (7, .int x7), (8, .int x8)] → W p l e rm_X3_circle s m args below meth c H locs 0 0 (MQ below (zQl (dC, dI) (x_ty cI cJ) (x_W ad cI cJ) (zAW x_n ad s.heap.size) Q) args s 0 0 (zAW x_n ad s.heap.size)) (F0 m 12 ls []) := by
  obtain ⟨hx, hb, hml, hr, hown, hts, hlocks⟩ := id C0
  intro x1 x2 x3 x4 x6 x7 x8 σ H locs ls h hP hD hS hl
  unfold b_X3_circle_12 at h
  refine lv_iload hx hb dX3_circle_12 (lv_at hl 6 rfl) ?_
  refine lv_iload_n hx hb dX3_circle_14 rfl (lv_at hl 0 rfl) ?_
  refine lv_icmp_ge (tgt := 61) hx hb dX3_circle_15 (by decide) (fun hc => ?_) (fun hc => ?_)
  · have h := h.1 hc
    refine lv_iload_n hx hb dX3_circle_61 rfl (lv_at hl 2 rfl) ?_
    refine lv_if_eq (tgt := 87) hx hb dX3_circle_62 (by decide) (fun hc => ?_) (fun hc => ?_)
    · have h := h.1 hc
      refine lv_lload hx hb dX3_circle_87 (lv_at hl 3 rfl) ?_
      exact zret_l hx hb hr hlocks hK hP hD hS h dX3_circle_89
    · have h := h.2 hc
      refine lv_iload hx hb dX3_circle_65 (lv_at hl 4 rfl) ?_
      refine lv_iload hx hb dX3_circle_67 (lv_at hl 5 rfl) ?_
      refine lv_icmp_eq (tgt := 87) hx hb dX3_circle_69 (by decide) (fun hc => ?_) (fun hc => ?_)
      · have h := h.1 hc
        refine lv_lload hx hb dX3_circle_87 (lv_at hl 3 rfl) ?_
        exact zret_l hx hb hr hlocks hK hP hD hS h dX3_circle_89
      · have h := h.2 hc
        refine lv_lload hx hb dX3_circle_72 (lv_at hl 3 rfl) ?_
        refine lv_lconst (v := (1 : Int64)) hx hb dX3_circle_74 (by decide) ?_
        refine lv_iload hx hb dX3_circle_75 (lv_at hl 4 rfl) ?_
        refine lv_iload hx hb dX3_circle_77 (lv_at hl 5 rfl) ?_
        refine k_X3_number N ⟨hx, hb, hml, hown, hts⟩ mw_517 ⟨Nat.le_of_ble_eq_true rfl, Nat.le_of_ble_eq_true rfl⟩ h hK hP hD hS hl.1 (rest := [.long (1 : Int64), .long x4]) (Nat.le_of_ble_eq_true rfl) ⟨Nat.le_of_ble_eq_true rfl, Nat.le_of_ble_eq_true rfl⟩ dX3_circle_79 (fun r1 τ2 H locs h hP hD hS => ?_)
        refine lv_lshl hx hb dX3_circle_82 rfl ?_
        refine lv_lor hx hb dX3_circle_83 ?_
        refine lv_goto (tgt := 89) hx hb dX3_circle_84 (by decide) ?_
        exact zret_l hx hb hr hlocks hK hP hD hS h dX3_circle_89
  · have h := h.2 hc
    refine lv_iload hx hb dX3_circle_18 (lv_at hl 6 rfl) ?_
    refine lv_iload_n hx hb dX3_circle_20 rfl (lv_at hl 1 rfl) ?_
    refine lv_icmp_eq (tgt := 55) hx hb dX3_circle_21 (by decide) (fun hc => ?_) (fun hc => ?_)
    · have h := h.1 hc
      obtain ⟨v3, ev3⟩ : ∃ z : Int32, z = x8 + (1 : Int32) := ⟨_, rfl⟩
      have h := h v3 ev3
      refine lv_iinc (v := v3) (lv' := [(8, .int v3), (1, .int x1), (2, .int x2), (3, .int x3), (4, .long x4), (6, .int x6), (7, .int x7)]) hx hb dX3_circle_55 hl (k := 6) rfl (by rw [ev3]; rfl) (by decide) rfl (fun ls hl => ?_)
      refine lv_goto (tgt := 12) hx hb dX3_circle_58 (by decide) ?_
      exact hk_12 x1 x2 x3 x4 x6 x7 v3 σ _ _ _ h hP hD hS (lv_sub hl [1, 2, 3, 4, 5, 6, 0] rfl)
    · have h := h.2 hc
      refine lv_iload hx hb dX3_circle_24 (lv_at hl 5 rfl) ?_
      refine lv_iconst (v := (-1 : Int32)) hx hb dX3_circle_26 (by decide) ?_
      refine lv_icmp_ne (tgt := 37) hx hb dX3_circle_27 (by decide) (fun hc => ?_) (fun hc => ?_)
      · have h := h.2 hc
        refine lv_lload hx hb dX3_circle_37 (lv_at hl 3 rfl) ?_
        refine lv_lconst (v := (1 : Int64)) hx hb dX3_circle_39 (by decide) ?_
        refine lv_iload hx hb dX3_circle_40 (lv_at hl 5 rfl) ?_
        refine lv_iload hx hb dX3_circle_42 (lv_at hl 6 rfl) ?_
        refine k_X3_number N ⟨hx, hb, hml, hown, hts⟩ mw_517 ⟨Nat.le_of_ble_eq_true rfl, Nat.le_of_ble_eq_true rfl⟩ h hK hP hD hS hl.1 (rest := [.long (1 : Int64), .long x4]) (Nat.le_of_ble_eq_true rfl) ⟨Nat.le_of_ble_eq_true rfl, Nat.le_of_ble_eq_true rfl⟩ dX3_circle_44 (fun r4 τ5 H locs h hP hD hS => ?_)
        refine lv_lshl hx hb dX3_circle_47 rfl ?_
        refine lv_lor hx hb dX3_circle_48 ?_
        refine lv_topl (fun v6 ev6 => ?_)
        have h := h v6 ev6
        refine lv_lstore (lv' := [(4, .long v6), (1, .int x1), (2, .int x2), (3, .int x3), (6, .int x6), (7, .int x7), (8, .int x8)]) hx hb dX3_circle_49 hl (by decide) rfl (fun ls hl => ?_)
        refine lv_iload hx hb dX3_circle_51 (lv_at hl 6 rfl) ?_
        refine lv_istore (lv' := [(7, .int x8), (4, .long v6), (1, .int x1), (2, .int x2), (3, .int x3), (6, .int x6), (8, .int x8)]) hx hb dX3_circle_53 hl (by decide) rfl (fun ls hl => ?_)
        obtain ⟨v7, ev7⟩ : ∃ z : Int32, z = x8 + (1 : Int32) := ⟨_, rfl⟩
        have h := h v7 ev7
        refine lv_iinc (v := v7) (lv' := [(8, .int v7), (7, .int x8), (4, .long v6), (1, .int x1), (2, .int x2), (3, .int x3), (6, .int x6)]) hx hb dX3_circle_55 hl (k := 6) rfl (by rw [ev7]; rfl) (by decide) rfl (fun ls hl => ?_)
        refine lv_goto (tgt := 12) hx hb dX3_circle_58 (by decide) ?_
        exact hk_12 x1 x2 x3 v6 x6 x8 v7 τ5 _ _ _ h hP hD hS (lv_sub hl [3, 4, 5, 2, 6, 1, 0] rfl)
      · have h := h.1 hc
        refine lv_iload hx hb dX3_circle_30 (lv_at hl 6 rfl) ?_
        refine lv_istore (lv' := [(6, .int x8), (1, .int x1), (2, .int x2), (3, .int x3), (4, .long x4), (7, .int x7), (8, .int x8)]) hx hb dX3_circle_32 hl (by decide) rfl (fun ls hl => ?_)
        refine lv_goto (tgt := 51) hx hb dX3_circle_34 (by decide) ?_
        refine lv_iload hx hb dX3_circle_51 (lv_at hl 6 rfl) ?_
        refine lv_istore (lv' := [(7, .int x8), (6, .int x8), (1, .int x1), (2, .int x2), (3, .int x3), (4, .long x4), (8, .int x8)]) hx hb dX3_circle_53 hl (by decide) rfl (fun ls hl => ?_)
        obtain ⟨v8, ev8⟩ : ∃ z : Int32, z = x8 + (1 : Int32) := ⟨_, rfl⟩
        have h := h v8 ev8
        refine lv_iinc (v := v8) (lv' := [(8, .int v8), (7, .int x8), (6, .int x8), (1, .int x1), (2, .int x2), (3, .int x3), (4, .long x4)]) hx hb dX3_circle_55 hl (k := 6) rfl (by rw [ev8]; rfl) (by decide) rfl (fun ls hl => ?_)
        refine lv_goto (tgt := 12) hx hb dX3_circle_58 (by decide) ?_
        exact hk_12 x1 x2 x3 x4 x8 x8 v8 σ _ _ _ h hP hD hS (lv_sub hl [3, 4, 5, 6, 2, 1, 0] rfl)
set_option maxHeartbeats 4000000 in
set_option maxRecDepth 100000 in
theorem t_X3_circle_12 (C0 : zCx p s m meth c args RX3 cX3_circle 9 (some .long) vs_X3_circle) (hK : va_K (dC, dI) vwCl (x_ty cI cJ) s) (N : Nat) {Q : Int64 → zSt → Prop} : ∀ (f : Nat) (x1 : Int32) (x2 : Int32) (x3 : Int32) (x4 : Int64) (x6 : Int32) (x7 : Int32) (x8 : Int32) (σ : zSt) (H : Heap) (locs : List Loc) (ls : Array Slot), w_X3_circle_12 N  Q f x1 x2 x3 x4 x6 x7 x8 σ → va_P (dC, dI) vwCl (x_W ad cI cJ σ) H → va_D (zAW x_n ad s.heap.size) (x_W ad cI cJ σ) → va_S (zAW x_n ad s.heap.size) s.heap H locs → lv_has ls 9 [(1, .int x1), (2, .int x2), (3, .int x3), (4, .long x4), (6, .int x6), (7, .int x7), (8, .int x8)] → W p l e rm_X3_circle s m args below meth c H locs 0 0 (MQ below (zQl (dC, dI) (x_ty cI cJ) (x_W ad cI cJ) (zAW x_n ad s.heap.size) Q) args s 0 0 (zAW x_n ad s.heap.size)) (F0 m 12 ls []) := by
  intro f
  induction f with
  | zero => intro x1 x2 x3 x4 x6 x7 x8 σ H locs ls h; exact h.elim
  | succ f ih =>
    intro x1 x2 x3 x4 x6 x7 x8 σ H locs ls h hP hD hS hl
    exact tb_X3_circle_12 C0 hK N  (k_12 := w_X3_circle_12 N  Q f) ih x1 x2 x3 x4 x6 x7 x8 σ H locs ls h hP hD hS hl
set_option maxHeartbeats 4000000 in
set_option maxRecDepth 100000 in
theorem t_X3_circle_0 (C0 : zCx p s m meth c args RX3 cX3_circle 9 (some .long) vs_X3_circle) (hK : va_K (dC, dI) vwCl (x_ty cI cJ) s) (N : Nat) {Q : Int64 → zSt → Prop} : ∀ (x1 : Int32) (x2 : Int32) (x3 : Int32) (σ : zSt) (H : Heap) (locs : List Loc) (ls : Array Slot), w_X3_circle N x1 x2 x3 σ Q → va_P (dC, dI) vwCl (x_W ad cI cJ σ) H → va_D (zAW x_n ad s.heap.size) (x_W ad cI cJ σ) → va_S (zAW x_n ad s.heap.size) s.heap H locs → lv_has ls 9 [(0, .ref (ad 2)), (1, .int x1), (2, .int x2), (3, .int x3)] → W p l e rm_X3_circle s m args below meth c H locs 0 0 (MQ below (zQl (dC, dI) (x_ty cI cJ) (x_W ad cI cJ) (zAW x_n ad s.heap.size) Q) args s 0 0 (zAW x_n ad s.heap.size)) (F0 m 0 ls []) := by
  obtain ⟨hx, hb, hml, hr, hown, hts, hlocks⟩ := id C0
  intro x1 x2 x3 σ H locs ls h hP hD hS hl
  unfold w_X3_circle at h
  refine lv_lconst (v := (0 : Int64)) hx hb dX3_circle_0 (by decide) ?_
  refine lv_lstore (lv' := [(4, .long (0 : Int64)), (0, .ref (ad 2)), (1, .int x1), (2, .int x2), (3, .int x3)]) hx hb dX3_circle_1 hl (by decide) rfl (fun ls hl => ?_)
  refine lv_iconst (v := (-1 : Int32)) hx hb dX3_circle_3 (by decide) ?_
  refine lv_istore (lv' := [(6, .int (-1 : Int32)), (4, .long (0 : Int64)), (0, .ref (ad 2)), (1, .int x1), (2, .int x2), (3, .int x3)]) hx hb dX3_circle_4 hl (by decide) rfl (fun ls hl => ?_)
  refine lv_iconst (v := (-1 : Int32)) hx hb dX3_circle_6 (by decide) ?_
  refine lv_istore (lv' := [(7, .int (-1 : Int32)), (6, .int (-1 : Int32)), (4, .long (0 : Int64)), (0, .ref (ad 2)), (1, .int x1), (2, .int x2), (3, .int x3)]) hx hb dX3_circle_7 hl (by decide) rfl (fun ls hl => ?_)
  refine lv_iconst (v := (0 : Int32)) hx hb dX3_circle_9 (by decide) ?_
  refine lv_istore (lv' := [(8, .int (0 : Int32)), (7, .int (-1 : Int32)), (6, .int (-1 : Int32)), (4, .long (0 : Int64)), (0, .ref (ad 2)), (1, .int x1), (2, .int x2), (3, .int x3)]) hx hb dX3_circle_10 hl (by decide) rfl (fun ls hl => ?_)
  exact t_X3_circle_12 C0 hK N  N x1 x2 x3 (0 : Int64) (-1 : Int32) (-1 : Int32) (0 : Int32) σ _ _ _ h hP hD hS (lv_sub hl [5, 6, 7, 3, 2, 1, 0] rfl)
set_option maxHeartbeats 4000000 in
set_option maxRecDepth 100000 in
theorem c_X3_circle (N : Nat) (l : Launch) (dC : Nat → ClassId) (dI : Nat → Nat → Nat) (ad : Nat → Nat) (cI cJ : ClassId) (sz : Nat) (σ : zSt) (x1 : Int32) (x2 : Int32) (x3 : Int32) (Q : Int64 → zSt → Prop) (h : w_X3_circle N x1 x2 x3 σ Q) : Met l yX3_circle vs_X3_circle rm_X3_circle (va_Pc [.ref (ad 2), .int x1, .int x2, .int x3] (zPc (dC, dI) (x_ty cI cJ) (x_W ad cI cJ) sz σ)) (zQl (dC, dI) (x_ty cI cJ) (x_W ad cI cJ) (zAW x_n ad sz) Q) 0 0 (zAW x_n ad sz) := by
  refine Met.ofW (cc := cX3_circle) (maxL := 9) (ret := (some .long)) (by decide) rfl ?_
  intro p e s m args below meth c s₁ B hml hv
  obtain ⟨rfl, hsz, hP, hK, hD0⟩ := hv
  subst hsz
  have C0 : zCx p s m meth c _ RX3 cX3_circle 9 (some .long) vs_X3_circle := ⟨B.exec, B.bytes, hml, B.returns, findClass_of_methodNamed B.named, atoms_spec (ws := vs_X3_circle) B.pre, B.notSynchronized⟩
  have hD := x_D0 (n0 := s.heap.size) hD0
  have hl := lv_entry ([.ref (ad 2), .int x1, .int x2, .int x3]) (n := 9) (Nat.le_of_ble_eq_true rfl)
  rw [lg_entry_eq]
  generalize (lg_sl ([.ref (ad 2), .int x1, .int x2, .int x3]) ++ List.replicate (9 - (lg_sl ([.ref (ad 2), .int x1, .int x2, .int x3])).length) Slot.unset).toArray = ls at hl ⊢
  exact t_X3_circle_0 C0 hK N x1 x2 x3 σ _ _ ls h hP hD va_S.rf hl
theorem k_X3_circle (N : Nat) {R : Room} {H : Heap} {locs : List Loc} {cells slots : Nat} {Q2 : State → Prop} {cc : ByteArray} {nL pc index : Nat} {ls : Array Slot} {rest : List Value} {own : String} {c0 : Cond} {σ : zSt} {x1 : Int32} {x2 : Int32} {x3 : Int32} {Q : Int64 → zSt → Prop} (S0 : CallFix p m c cc nL s args (c0 :: zT) own) (hml : Cond.methodLink own index yX3_circle ∈ zT) (hR : rm_X3_circle.frames + 1 ≤ R.frames ∧ 8 + (9 + 11) + rm_X3_circle.locals ≤ R.locals) (h : w_X3_circle N x1 x2 x3 σ Q) (hK : va_K (dC, dI) vwCl (x_ty cI cJ) s) (hP : va_P (dC, dI) vwCl (x_W ad cI cJ σ) H) (hD : va_D (zAW x_n ad s.heap.size) (x_W ad cI cJ σ)) (hS : va_S (zAW x_n ad s.heap.size) s.heap H locs) (hsz : ls.size = nL) (hW : (rest.map fun v => v.category).sum ≤ 8) (hcs : cells ≤ R.cells ∧ slots ≤ R.slots) (hdg : decode cc pc = .ok (.invokevirtual index, 3)) (kk : ∀ (r : Int64) (τ : zSt) (H1 : Heap) (locs1 : List Loc), Q r τ → va_P (dC, dI) vwCl (x_W ad cI cJ τ) H1 → va_D (zAW x_n ad s.heap.size) (x_W ad cI cJ τ) → va_S (zAW x_n ad s.heap.size) s.heap H1 locs1 → W p l e R s m args below meth c H1 locs1 cells slots Q2 (F0 m (pc + 3) ls (.long r :: rest))) : W p l e R s m args below meth c H locs cells slots Q2 (F0 m pc ls (.int x3 :: .int x2 :: .int x1 :: .ref (ad 2) :: rest)) :=
  zcv_l (T := TX3) (N' := 3) (k := 2) (ci := 3) (fs := x_f2 ad σ) [.int x1, .int x2, .int x3] S0 (c_X3_circle N l dC dI ad cI cJ H.size σ x1 x2 x3 Q h) (cw_X3_circle S0.2.2.2.2 hml rfl rfl hR) rfl rfl hK hP hD hS rfl hsz hW rfl hcs hdg kk
end q04
