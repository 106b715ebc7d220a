section q03
end q03
section q03
def w_X5_readRule (N : Nat) (x1 : Int32) (σ : zSt) (Q : Int32 → zSt → Prop) : Prop :=
  ((σ.1 20) < (20 : Int32) → w_X5_take N σ (fun r1 τ2 => ∀ v3 : Int32, v3 = τ2.1 21 → w_X5_readSum N 9 τ2 (fun r4 τ5 => (r4 = 0 → Q (0 : Int32) τ5) ∧ (¬ r4 = 0 → w_X5_takeWord N (3 : Int32) τ5 (fun r6 τ7 => (r6 = 0 → Q (0 : Int32) τ7) ∧ (¬ r6 = 0 → ∀ v8 : Int32, v8 = τ7.1 21 → w_X5_readTest N (w_X5_readFact N 9) τ7 (fun r9 τ10 => (r9 = 0 → Q (0 : Int32) τ10) ∧ (¬ r9 = 0 → w_X6_add N x1 v3 v8 τ10 (fun τ12 => Q (1 : Int32) τ12))))))))) ∧ (¬ (σ.1 20) < (20 : Int32) → w_X5_fail N (5 : Int32) (σ.1 13) σ (fun r13 τ14 => (zb r13) ∧ Q r13 τ14))
variable {p : Program} {l : Launch} {e : Env} {s : State} {m : MethodId} {args : Array Value} {below : List Frame} {meth : Method} {c : Code} {dC : Nat → ClassId} {dI : Nat → Nat → Nat} {ad : Nat → Nat} {cI cJ : ClassId}
set_option maxHeartbeats 4000000 in
set_option maxRecDepth 100000 in
theorem t_X5_readRule_0 (C0 : zCx p s m meth c args RX5 cX5_readRule 4 (some .boolean) vs_X5_readRule) (hK : va_K (dC, dI) vwCl (x_ty cI cJ) s) (N : Nat) {Q : Int32 → zSt → Prop} : ∀ (x1 : Int32) (σ : zSt) (H : Heap) (locs : List Loc) (ls : Array Slot), w_X5_readRule N x1 σ Q → va_P (dC, dI) vwCl (x_W ad cI cJ σ) H → va_D (zAW x_n ad s.heap.size) (x_W ad cI cJ σ) → va_S (zAW x_n ad s.heap.size) s.heap H locs → lv_has ls 4 [(0, .ref (ad 5)), (1, .int x1)] → W p l e rm_X5_readRule s m args below meth c H locs 0 0 (MQ below (zQi (dC, dI) (x_ty cI cJ) (x_W ad cI cJ) (zAW x_n ad s.heap.size) Q) args s 0 0 (zAW x_n ad s.heap.size)) (F0 m 0 ls []) := by
  obtain ⟨hx, hb, hml, hr, hown, hts, hlocks⟩ := id C0
  intro x1 σ H locs ls h hP hD hS hl
  unfold w_X5_readRule at h
  refine lv_aload_n hx hb dX5_readRule_0 rfl (lv_at hl 0 rfl) ?_
  refine xg_5_2 hx hb hts hown hK hP mw_176 dX5_readRule_1 ?_
  refine xg_7_7 hx hb hts hown hK hP mw_101 dX5_readRule_4 ?_
  refine lv_bipush (v := (20 : Int32)) hx hb dX5_readRule_7 (by decide) ?_
  refine lv_icmp_lt (tgt := 22) hx hb dX5_readRule_9 (by decide) (fun hc => ?_) (fun hc => ?_)
  · have h := h.1 hc
    refine lv_aload_n hx hb dX5_readRule_22 rfl (lv_at hl 0 rfl) ?_
    refine k_X5_take N ⟨hx, hb, hml, hown, hts⟩ mw_363 ⟨Nat.le_of_ble_eq_true rfl, Nat.le_of_ble_eq_true rfl⟩ h hK hP hD hS hl.1 (rest := []) (Nat.le_of_ble_eq_true rfl) ⟨Nat.le_of_ble_eq_true rfl, Nat.le_of_ble_eq_true rfl⟩ dX5_readRule_23 (fun r1 τ2 H locs h hP hD hS => ?_)
    refine lv_pop hx hb dX5_readRule_26 rfl ?_
    refine lv_aload_n hx hb dX5_readRule_27 rfl (lv_at hl 0 rfl) ?_
    refine xg_5_2 hx hb hts hown hK hP mw_176 dX5_readRule_28 ?_
    refine xg_7_8 hx hb hts hown hK hP mw_103 dX5_readRule_31 ?_
    refine lv_topi (fun v3 ev3 => ?_)
    have h := h v3 ev3
    refine lv_istore_n (lv' := [(2, .int v3), (0, .ref (ad 5)), (1, .int x1)]) hx hb dX5_readRule_34 rfl hl (by decide) rfl (fun ls hl => ?_)
    refine lv_aload_n hx hb dX5_readRule_35 rfl (lv_at hl 1 rfl) ?_
    refine k_X5_readSum N (d := 9) ⟨hx, hb, hml, hown, hts⟩ mw_393 ⟨Nat.le_of_ble_eq_true rfl, Nat.le_of_ble_eq_true rfl⟩ h hK hP hD hS hl.1 (rest := []) (Nat.le_of_ble_eq_true rfl) ⟨Nat.le_of_ble_eq_true rfl, Nat.le_of_ble_eq_true rfl⟩ dX5_readRule_36 (fun r4 τ5 H locs h hP hD hS => ?_)
    refine lv_if_eq (tgt := 50) hx hb dX5_readRule_39 (by decide) (fun hc => ?_) (fun hc => ?_)
    · have h := h.1 hc
      refine lv_iconst (v := (0 : Int32)) hx hb dX5_readRule_50 (by decide) ?_
      exact zret_z hx hb hr hlocks hK hP hD hS zb_0 h dX5_readRule_51
    · have h := h.2 hc
      refine lv_aload_n hx hb dX5_readRule_42 rfl (lv_at hl 1 rfl) ?_
      refine lv_iconst (v := (3 : Int32)) hx hb dX5_readRule_43 (by decide) ?_
      refine k_X5_takeWord N ⟨hx, hb, hml, hown, hts⟩ mw_379 ⟨Nat.le_of_ble_eq_true rfl, Nat.le_of_ble_eq_true rfl⟩ h hK hP hD hS hl.1 (rest := []) (Nat.le_of_ble_eq_true rfl) ⟨Nat.le_of_ble_eq_true rfl, Nat.le_of_ble_eq_true rfl⟩ dX5_readRule_44 (fun r6 τ7 H locs h hP hD hS => ?_)
      refine lv_if_ne (tgt := 52) hx hb dX5_readRule_47 (by decide) (fun hc => ?_) (fun hc => ?_)
      · have h := h.2 hc
        refine lv_aload_n hx hb dX5_readRule_52 rfl (lv_at hl 1 rfl) ?_
        refine xg_5_2 hx hb hts hown hK hP mw_176 dX5_readRule_53 ?_
        refine xg_7_8 hx hb hts hown hK hP mw_103 dX5_readRule_56 ?_
        refine lv_topi (fun v8 ev8 => ?_)
        have h := h v8 ev8
        refine lv_istore_n (lv' := [(3, .int v8), (2, .int v3), (0, .ref (ad 5)), (1, .int x1)]) hx hb dX5_readRule_59 rfl hl (by decide) rfl (fun ls hl => ?_)
        refine lv_aload_n hx hb dX5_readRule_60 rfl (lv_at hl 2 rfl) ?_
        refine k_X5_readTest N (d := 9) (fun sz σ Q h => c_X5_readFact N l dC dI ad cI cJ 9 sz σ Q h) ⟨hx, hb, hml, hown, hts⟩ mw_419 ⟨Nat.le_of_ble_eq_true rfl, Nat.le_of_ble_eq_true rfl⟩ h hK hP hD hS hl.1 (rest := []) (Nat.le_of_ble_eq_true rfl) ⟨Nat.le_of_ble_eq_true rfl, Nat.le_of_ble_eq_true rfl⟩ dX5_readRule_61 (fun r9 τ10 H locs h hP hD hS => ?_)
        refine lv_if_ne (tgt := 69) hx hb dX5_readRule_64 (by decide) (fun hc => ?_) (fun hc => ?_)
        · have h := h.2 hc
          refine lv_aload_n hx hb dX5_readRule_69 rfl (lv_at hl 2 rfl) ?_
          refine xg_5_2 hx hb hts hown hK hP mw_176 dX5_readRule_70 ?_
          refine lv_iload_n hx hb dX5_readRule_73 rfl (lv_at hl 3 rfl) ?_
          refine lv_iload_n hx hb dX5_readRule_74 rfl (lv_at hl 1 rfl) ?_
          refine lv_iload_n hx hb dX5_readRule_75 rfl (lv_at hl 0 rfl) ?_
          refine k_X6_add N ⟨hx, hb, hml, hown, hts⟩ mw_434 ⟨Nat.le_of_ble_eq_true rfl, Nat.le_of_ble_eq_true rfl⟩ h hK hP hD hS hl.1 (rest := []) (Nat.le_of_ble_eq_true rfl) ⟨Nat.le_of_ble_eq_true rfl, Nat.le_of_ble_eq_true rfl⟩ dX5_readRule_76 (fun τ12 H locs h hP hD hS => ?_)
          refine lv_iconst (v := (1 : Int32)) hx hb dX5_readRule_79 (by decide) ?_
          exact zret_z hx hb hr hlocks hK hP hD hS zb_1 h dX5_readRule_80
        · have h := h.1 hc
          refine lv_iconst (v := (0 : Int32)) hx hb dX5_readRule_67 (by decide) ?_
          exact zret_z hx hb hr hlocks hK hP hD hS zb_0 h dX5_readRule_68
      · have h := h.1 hc
        refine lv_iconst (v := (0 : Int32)) hx hb dX5_readRule_50 (by decide) ?_
        exact zret_z hx hb hr hlocks hK hP hD hS zb_0 h dX5_readRule_51
  · have h := h.2 hc
    refine lv_aload_n hx hb dX5_readRule_12 rfl (lv_at hl 0 rfl) ?_
    refine lv_iconst (v := (5 : Int32)) hx hb dX5_readRule_13 (by decide) ?_
    refine lv_aload_n hx hb dX5_readRule_14 rfl (lv_at hl 0 rfl) ?_
    refine xg_5_10 hx hb hts hown hK hP mw_188 dX5_readRule_15 ?_
    refine k_X5_fail N ⟨hx, hb, hml, hown, hts⟩ mw_369 ⟨Nat.le_of_ble_eq_true rfl, Nat.le_of_ble_eq_true rfl⟩ h hK hP hD hS hl.1 (rest := []) (Nat.le_of_ble_eq_true rfl) ⟨Nat.le_of_ble_eq_true rfl, Nat.le_of_ble_eq_true rfl⟩ dX5_readRule_18 (fun r13 τ14 H locs h hP hD hS => ?_)
    exact zret_z hx hb hr hlocks hK hP hD hS h.1 h.2 dX5_readRule_21
set_option maxHeartbeats 4000000 in
set_option maxRecDepth 100000 in
theorem c_X5_readRule (N : Nat) (l : Launch) (dC : Nat → ClassId) (dI : Nat → Nat → Nat) (ad : Nat → Nat) (cI cJ : ClassId) (sz : Nat) (σ : zSt) (x1 : Int32) (Q : Int32 → zSt → Prop) (h : w_X5_readRule N x1 σ Q) : Met l yX5_readRule vs_X5_readRule rm_X5_readRule (va_Pc [.ref (ad 5), .int x1] (zPc (dC, dI) (x_ty cI cJ) (x_W ad cI cJ) sz σ)) (zQi (dC, dI) (x_ty cI cJ) (x_W ad cI cJ) (zAW x_n ad sz) Q) 0 0 (zAW x_n ad sz) := by
  refine Met.ofW (cc := cX5_readRule) (maxL := 4) (ret := (some .boolean)) (by decide) rfl ?_
  intro p e s m args below meth c s₁ B hml hv
  obtain ⟨rfl, hsz, hP, hK, hD0⟩ := hv
  subst hsz
  have C0 : zCx p s m meth c _ RX5 cX5_readRule 4 (some .boolean) vs_X5_readRule := ⟨B.exec, B.bytes, hml, B.returns, findClass_of_methodNamed B.named, atoms_spec (ws := vs_X5_readRule) B.pre, B.notSynchronized⟩
  have hD := x_D0 (n0 := s.heap.size) hD0
  have hl := lv_entry ([.ref (ad 5), .int x1]) (n := 4) (Nat.le_of_ble_eq_true rfl)
  rw [lg_entry_eq]
  generalize (lg_sl ([.ref (ad 5), .int x1]) ++ List.replicate (4 - (lg_sl ([.ref (ad 5), .int x1])).length) Slot.unset).toArray = ls at hl ⊢
  exact t_X5_readRule_0 C0 hK N x1 σ _ _ ls h hP hD va_S.rf hl
theorem k_X5_readRule (N : Nat) {R : Room} {H : Heap} {locs : List Loc} {cells slots : Nat} {Q2 : State → Prop} {cc : ByteArray} {nL pc index : Nat} {ls : Array Slot} {rest : List Value} {own : String} {c0 : Cond} {σ : zSt} {x1 : Int32} {Q : Int32 → zSt → Prop} (S0 : CallFix p m c cc nL s args (c0 :: zT) own) (hml : Cond.methodLink own index yX5_readRule ∈ zT) (hR : rm_X5_readRule.frames + 1 ≤ R.frames ∧ 8 + (4 + 11) + rm_X5_readRule.locals ≤ R.locals) (h : w_X5_readRule N x1 σ Q) (hK : va_K (dC, dI) vwCl (x_ty cI cJ) s) (hP : va_P (dC, dI) vwCl (x_W ad cI cJ σ) H) (hD : va_D (zAW x_n ad s.heap.size) (x_W ad cI cJ σ)) (hS : va_S (zAW x_n ad s.heap.size) s.heap H locs) (hsz : ls.size = nL) (hW : (rest.map fun v => v.category).sum ≤ 8) (hcs : cells ≤ R.cells ∧ slots ≤ R.slots) (hdg : decode cc pc = .ok (.invokevirtual index, 3)) (kk : ∀ (r : Int32) (τ : zSt) (H1 : Heap) (locs1 : List Loc), Q r τ → va_P (dC, dI) vwCl (x_W ad cI cJ τ) H1 → va_D (zAW x_n ad s.heap.size) (x_W ad cI cJ τ) → va_S (zAW x_n ad s.heap.size) s.heap H1 locs1 → W p l e R s m args below meth c H1 locs1 cells slots Q2 (F0 m (pc + 3) ls (.int r :: rest))) : W p l e R s m args below meth c H locs cells slots Q2 (F0 m pc ls (.int x1 :: .ref (ad 5) :: rest)) :=
  zcv_i (T := TX5) (N' := 14) (k := 5) (ci := 5) (fs := x_f5 ad σ) [.int x1] S0 (c_X5_readRule N l dC dI ad cI cJ H.size σ x1 Q h) (cw_X5_readRule S0.2.2.2.2 hml rfl rfl hR) rfl rfl hK hP hD hS rfl hsz hW rfl hcs hdg kk
end q03
section q03
def w_X3_number (N : Nat) (x0 : Int32) (x1 : Int32) (σ : zSt) (Q : Int32 → zSt → Prop) : Prop :=
  ∀ v1 : Int32, v1 = (if x1 < x0 then x1 else x0) → ∀ v2 : Int32, v2 = (if x0 < x1 then x1 else x0) → Q (((v2 * (v2 - (1 : Int32))) / (2 : Int32)) + v1) σ
variable {p : Program} {l : Launch} {e : Env} {s : State} {m : MethodId} {args : Array Value} {below : List Frame} {meth : Method} {c : Code} {dC : Nat → ClassId} {dI : Nat → Nat → Nat} {ad : Nat → Nat} {cI cJ : ClassId}
set_option maxHeartbeats 4000000 in
set_option maxRecDepth 100000 in
theorem t_X3_number_0 (C0 : zCx p s m meth c args RX3 cX3_number 4 (some .int) vs_X3_number) (hK : va_K (dC, dI) vwCl (x_ty cI cJ) s) (N : Nat) {Q : Int32 → zSt → Prop} : ∀ (x0 : Int32) (x1 : Int32) (σ : zSt) (H : Heap) (locs : List Loc) (ls : Array Slot), w_X3_number N x0 x1 σ Q → va_P (dC, dI) vwCl (x_W ad cI cJ σ) H → va_D (zAW x_n ad s.heap.size) (x_W ad cI cJ σ) → va_S (zAW x_n ad s.heap.size) s.heap H locs → lv_has ls 4 [(0, .int x0), (1, .int x1)] → W p l e rm_X3_number s m args below meth c H locs 0 0 (MQ below (zQi (dC, dI) (x_ty cI cJ) (x_W ad cI cJ) (zAW x_n ad s.heap.size) Q) args s 0 0 (zAW x_n ad s.heap.size)) (F0 m 0 ls []) := by
  obtain ⟨hx, hb, hml, hr, hown, hts, hlocks⟩ := id C0
  intro x0 x1 σ H locs ls h hP hD hS hl
  unfold w_X3_number at h
  refine lv_iload_n hx hb dX3_number_0 rfl (lv_at hl 0 rfl) ?_
  refine lv_iload_n hx hb dX3_number_1 rfl (lv_at hl 1 rfl) ?_
  refine va_mmin hx hb (hml.trans hl.1.symm) hown (hts _ (List.mem_cons_of_mem _ mw_444)) (hts _ (List.mem_cons_of_mem _ mw_445)) (hts _ (List.mem_cons_of_mem _ mw_19)) (hts _ (List.mem_cons_of_mem _ mw_446)) (Nat.le_of_ble_eq_true rfl) (Nat.le_of_ble_eq_true rfl) (Nat.zero_le _) (Nat.zero_le _) dX3_number_2 ?_
  refine lv_topi (fun v1 ev1 => ?_)
  have h := h v1 ev1
  refine lv_istore_n (lv' := [(2, .int v1), (0, .int x0), (1, .int x1)]) hx hb dX3_number_5 rfl hl (by decide) rfl (fun ls hl => ?_)
  refine lv_iload_n hx hb dX3_number_6 rfl (lv_at hl 1 rfl) ?_
  refine lv_iload_n hx hb dX3_number_7 rfl (lv_at hl 2 rfl) ?_
  refine va_mmax hx hb (hml.trans hl.1.symm) hown (hts _ (List.mem_cons_of_mem _ mw_447)) (hts _ (List.mem_cons_of_mem _ mw_448)) (hts _ (List.mem_cons_of_mem _ mw_19)) (hts _ (List.mem_cons_of_mem _ mw_449)) (Nat.le_of_ble_eq_true rfl) (Nat.le_of_ble_eq_true rfl) (Nat.zero_le _) (Nat.zero_le _) dX3_number_8 ?_
  refine lv_topi (fun v2 ev2 => ?_)
  have h := h v2 ev2
  refine lv_istore_n (lv' := [(3, .int v2), (2, .int v1), (0, .int x0), (1, .int x1)]) hx hb dX3_number_11 rfl hl (by decide) rfl (fun ls hl => ?_)
  refine lv_iload_n hx hb dX3_number_12 rfl (lv_at hl 0 rfl) ?_
  refine lv_iload_n hx hb dX3_number_13 rfl (lv_at hl 0 rfl) ?_
  refine lv_iconst (v := (1 : Int32)) hx hb dX3_number_14 (by decide) ?_
  refine lv_isub hx hb dX3_number_15 ?_
  refine lv_imul hx hb dX3_number_16 ?_
  refine lv_iconst (v := (2 : Int32)) hx hb dX3_number_17 (by decide) ?_
  refine lv_idiv hx hb dX3_number_18 (by decide) ?_
  refine lv_iload_n hx hb dX3_number_19 rfl (lv_at hl 1 rfl) ?_
  refine lv_iadd hx hb dX3_number_20 ?_
  exact zret_i hx hb hr hlocks hK hP hD hS h dX3_number_21
set_option maxHeartbeats 4000000 in
set_option maxRecDepth 100000 in
theorem c_X3_number (N : Nat) (l : Launch) (dC : Nat → ClassId) (dI : Nat → Nat → Nat) (ad : Nat → Nat) (cI cJ : ClassId) (sz : Nat) (σ : zSt) (x0 : Int32) (x1 : Int32) (Q : Int32 → zSt → Prop) (h : w_X3_number N x0 x1 σ Q) : Met l yX3_number vs_X3_number rm_X3_number (va_Pc [.int x0, .int x1] (zPc (dC, dI) (x_ty cI cJ) (x_W ad cI cJ) sz σ)) (zQi (dC, dI) (x_ty cI cJ) (x_W ad cI cJ) (zAW x_n ad sz) Q) 0 0 (zAW x_n ad sz) := by
  refine Met.ofW (cc := cX3_number) (maxL := 4) (ret := (some .int)) (by decide) rfl ?_
  intro p e s m args below meth c s₁ B hml hv
  obtain ⟨rfl, hsz, hP, hK, hD0⟩ := hv
  subst hsz
  have C0 : zCx p s m meth c _ RX3 cX3_number 4 (some .int) vs_X3_number := ⟨B.exec, B.bytes, hml, B.returns, findClass_of_methodNamed B.named, atoms_spec (ws := vs_X3_number) B.pre, B.notSynchronized⟩
  have hD := x_D0 (n0 := s.heap.size) hD0
  have hl := lv_entry ([.int x0, .int x1]) (n := 4) (Nat.le_of_ble_eq_true rfl)
  rw [lg_entry_eq]
  generalize (lg_sl ([.int x0, .int x1]) ++ List.replicate (4 - (lg_sl ([.int x0, .int x1])).length) Slot.unset).toArray = ls at hl ⊢
  exact t_X3_number_0 C0 hK N x0 x1 σ _ _ ls h hP hD va_S.rf hl
theorem k_X3_number (N : Nat) {R : Room} {H : Heap} {locs : List Loc} {cells slots : Nat} {Q2 : State → Prop} {cc : ByteArray} {nL pc index : Nat} {ls : Array Slot} {rest : List Value} {own : String} {c0 : Cond} {σ : zSt} {x0 : Int32} {x1 : Int32} {Q : Int32 → zSt → Prop} (S0 : CallFix p m c cc nL s args (c0 :: zT) own) (hml : Cond.methodLink own index yX3_number ∈ zT) (hR : rm_X3_number.frames + 1 ≤ R.frames ∧ 8 + (4 + 11) + rm_X3_number.locals ≤ R.locals) (h : w_X3_number N x0 x1 σ Q) (hK : va_K (dC, dI) vwCl (x_ty cI cJ) s) (hP : va_P (dC, dI) vwCl (x_W ad cI cJ σ) H) (hD : va_D (zAW x_n ad s.heap.size) (x_W ad cI cJ σ)) (hS : va_S (zAW x_n ad s.heap.size) s.heap H locs) (hsz : ls.size = nL) (hW : (rest.map fun v => v.category).sum ≤ 8) (hcs : cells ≤ R.cells ∧ slots ≤ R.slots) (hdg : decode cc pc = .ok (.invokestatic index, 3)) (kk : ∀ (r : Int32) (τ : zSt) (H1 : Heap) (locs1 : List Loc), Q r τ → va_P (dC, dI) vwCl (x_W ad cI cJ τ) H1 → va_D (zAW x_n ad s.heap.size) (x_W ad cI cJ τ) → va_S (zAW x_n ad s.heap.size) s.heap H1 locs1 → W p l e R s m args below meth c H1 locs1 cells slots Q2 (F0 m (pc + 3) ls (.int r :: rest))) : W p l e R s m args below meth c H locs cells slots Q2 (F0 m pc ls (.int x1 :: .int x0 :: rest)) :=
  zcs_i [.int x0, .int x1] S0 (c_X3_number N l dC dI ad cI cJ H.size σ x0 x1 Q h) (cw_X3_number S0.2.2.2.2 hml hR) hK hP hD hS rfl hsz hW rfl hcs hdg kk
end q03
section q03
def w_X5_readBar (N : Nat)  (σ : zSt) (Q : Int32 → zSt → Prop) : Prop :=
  ((σ.1 19) < (20 : Int32) → w_X5_take N σ (fun r1 τ2 => w_X5_seesPerson N (-1 : Int32) τ2 (fun r3 τ4 => (r3 = 0 → Q (0 : Int32) τ4) ∧ (¬ r3 = 0 → w_X4_numberOf N (τ4.1 15) τ4 (fun r5 τ6 => w_X5_take N τ6 (fun r7 τ8 => w_X5_seesPerson N r5 τ8 (fun r9 τ10 => (r9 = 0 → Q (0 : Int32) τ10) ∧ (¬ r9 = 0 → w_X4_numberOf N (τ10.1 15) τ10 (fun r11 τ12 => w_X3_number N r5 r11 τ12 (fun r13 τ14 => ∀ τ15 : zSt, τ15 = zJ τ14 3 ((τ10.2.1 3) ||| ((1 : Int64) <<< (r13.toInt64 &&& 63))) → ∀ τ16 : zSt, τ16 = zI τ15 19 ((τ15.1 19) + (1 : Int32)) → w_X5_take N τ16 (fun r17 τ18 => (zb r17) ∧ Q r17 τ18))))))))))) ∧ (¬ (σ.1 19) < (20 : Int32) → w_X5_fail N (5 : Int32) (σ.1 13) σ (fun r19 τ20 => (zb r19) ∧ Q r19 τ20))
variable {p : Program} {l : Launch} {e : Env} {s : State} {m : MethodId} {args : Array Value} {below : List Frame} {meth : Method} {c : Code} {dC : Nat → ClassId} {dI : Nat → Nat → Nat} {ad : Nat → Nat} {cI cJ : ClassId}
set_option maxHeartbeats 4000000 in
set_option maxRecDepth 100000 in
theorem t_X5_readBar_0 (C0 : zCx p s m meth c args RX5 cX5_readBar 2 (some .boolean) vs_X5_readBar) (hK : va_K (dC, dI) vwCl (x_ty cI cJ) s) (N : Nat) {Q : Int32 → zSt → Prop} : ∀  (σ : zSt) (H : Heap) (locs : List Loc) (ls : Array Slot), w_X5_readBar N  σ Q → va_P (dC, dI) vwCl (x_W ad cI cJ σ) H → va_D (zAW x_n ad s.heap.size) (x_W ad cI cJ σ) → va_S (zAW x_n ad s.heap.size) s.heap H locs → lv_has ls 2 [(0, .ref (ad 5))] → W p l e rm_X5_readBar s m args below meth c H locs 0 0 (MQ below (zQi (dC, dI) (x_ty cI cJ) (x_W ad cI cJ) (zAW x_n ad s.heap.size) Q) args s 0 0 (zAW x_n ad s.heap.size)) (F0 m 0 ls []) := by
  obtain ⟨hx, hb, hml, hr, hown, hts, hlocks⟩ := id C0
  intro  σ H locs ls h hP hD hS hl
  unfold w_X5_readBar at h
  refine lv_aload_n hx hb dX5_readBar_0 rfl (lv_at hl 0 rfl) ?_
  refine xg_5_1 hx hb hts hown hK hP mw_174 dX5_readBar_1 ?_
  refine xg_6_6 hx hb hts hown hK hP mw_84 dX5_readBar_4 ?_
  refine lv_bipush (v := (20 : Int32)) hx hb dX5_readBar_7 (by decide) ?_
  refine lv_icmp_lt (tgt := 22) hx hb dX5_readBar_9 (by decide) (fun hc => ?_) (fun hc => ?_)
  · have h := h.1 hc
    refine lv_aload_n hx hb dX5_readBar_22 rfl (lv_at hl 0 rfl) ?_
    refine k_X5_take N ⟨hx, hb, hml, hown, hts⟩ mw_363 ⟨Nat.le_of_ble_eq_true rfl, Nat.le_of_ble_eq_true rfl⟩ h hK hP hD hS hl.1 (rest := []) (Nat.le_of_ble_eq_true rfl) ⟨Nat.le_of_ble_eq_true rfl, Nat.le_of_ble_eq_true rfl⟩ dX5_readBar_23 (fun r1 τ2 H locs h hP hD hS => ?_)
    refine lv_pop hx hb dX5_readBar_26 rfl ?_
    refine lv_aload_n hx hb dX5_readBar_27 rfl (lv_at hl 0 rfl) ?_
    refine lv_iconst (v := (-1 : Int32)) hx hb dX5_readBar_28 (by decide) ?_
    refine k_X5_seesPerson N ⟨hx, hb, hml, hown, hts⟩ mw_428 ⟨Nat.le_of_ble_eq_true rfl, Nat.le_of_ble_eq_true rfl⟩ h hK hP hD hS hl.1 (rest := []) (Nat.le_of_ble_eq_true rfl) ⟨Nat.le_of_ble_eq_true rfl, Nat.le_of_ble_eq_true rfl⟩ dX5_readBar_29 (fun r3 τ4 H locs h hP hD hS => ?_)
    refine lv_if_ne (tgt := 37) hx hb dX5_readBar_32 (by decide) (fun hc => ?_) (fun hc => ?_)
    · have h := h.2 hc
      refine lv_aload_n hx hb dX5_readBar_37 rfl (lv_at hl 0 rfl) ?_
      refine xg_5_1 hx hb hts hown hK hP mw_174 dX5_readBar_38 ?_
      refine lv_aload_n hx hb dX5_readBar_41 rfl (lv_at hl 0 rfl) ?_
      refine xg_5_12 hx hb hts hown hK hP mw_190 dX5_readBar_42 ?_
      refine k_X4_numberOf N ⟨hx, hb, hml, hown, hts⟩ mw_375 ⟨Nat.le_of_ble_eq_true rfl, Nat.le_of_ble_eq_true rfl⟩ h hK hP hD hS hl.1 (rest := []) (Nat.le_of_ble_eq_true rfl) ⟨Nat.le_of_ble_eq_true rfl, Nat.le_of_ble_eq_true rfl⟩ dX5_readBar_45 (fun r5 τ6 H locs h hP hD hS => ?_)
      refine lv_istore_n (lv' := [(1, .int r5), (0, .ref (ad 5))]) hx hb dX5_readBar_48 rfl hl (by decide) rfl (fun ls hl => ?_)
      refine lv_aload_n hx hb dX5_readBar_49 rfl (lv_at hl 1 rfl) ?_
      refine k_X5_take N ⟨hx, hb, hml, hown, hts⟩ mw_363 ⟨Nat.le_of_ble_eq_true rfl, Nat.le_of_ble_eq_true rfl⟩ h hK hP hD hS hl.1 (rest := []) (Nat.le_of_ble_eq_true rfl) ⟨Nat.le_of_ble_eq_true rfl, Nat.le_of_ble_eq_true rfl⟩ dX5_readBar_50 (fun r7 τ8 H locs h hP hD hS => ?_)
      refine lv_pop hx hb dX5_readBar_53 rfl ?_
      refine lv_aload_n hx hb dX5_readBar_54 rfl (lv_at hl 1 rfl) ?_
      refine lv_iload_n hx hb dX5_readBar_55 rfl (lv_at hl 0 rfl) ?_
      refine k_X5_seesPerson N ⟨hx, hb, hml, hown, hts⟩ mw_428 ⟨Nat.le_of_ble_eq_true rfl, Nat.le_of_ble_eq_true rfl⟩ h hK hP hD hS hl.1 (rest := []) (Nat.le_of_ble_eq_true rfl) ⟨Nat.le_of_ble_eq_true rfl, Nat.le_of_ble_eq_true rfl⟩ dX5_readBar_56 (fun r9 τ10 H locs h hP hD hS => ?_)
      refine lv_if_ne (tgt := 64) hx hb dX5_readBar_59 (by decide) (fun hc => ?_) (fun hc => ?_)
      · have h := h.2 hc
        refine lv_aload_n hx hb dX5_readBar_64 rfl (lv_at hl 1 rfl) ?_
        refine xg_5_1 hx hb hts hown hK hP mw_174 dX5_readBar_65 ?_
        refine lv_dup hx hb dX5_readBar_68 rfl ?_
        refine xg_6_7 hx hb hts hown hK hP mw_86 dX5_readBar_69 ?_
        refine lv_lconst (v := (1 : Int64)) hx hb dX5_readBar_72 (by decide) ?_
        refine lv_iload_n hx hb dX5_readBar_73 rfl (lv_at hl 0 rfl) ?_
        refine lv_aload_n hx hb dX5_readBar_74 rfl (lv_at hl 1 rfl) ?_
        refine xg_5_1 hx hb hts hown hK hP mw_174 dX5_readBar_75 ?_
        refine lv_aload_n hx hb dX5_readBar_78 rfl (lv_at hl 1 rfl) ?_
        refine xg_5_12 hx hb hts hown hK hP mw_190 dX5_readBar_79 ?_
        refine k_X4_numberOf N ⟨hx, hb, hml, hown, hts⟩ mw_375 ⟨Nat.le_of_ble_eq_true rfl, Nat.le_of_ble_eq_true rfl⟩ h hK hP hD hS hl.1 (rest := [.int r5, .long (1 : Int64), .long (τ10.2.1 3), .ref (ad 6)]) (Nat.le_of_ble_eq_true rfl) ⟨Nat.le_of_ble_eq_true rfl, Nat.le_of_ble_eq_true rfl⟩ dX5_readBar_82 (fun r11 τ12 H locs h hP hD hS => ?_)
        refine k_X3_number N ⟨hx, hb, hml, hown, hts⟩ mw_441 ⟨Nat.le_of_ble_eq_true rfl, Nat.le_of_ble_eq_true rfl⟩ h hK hP hD hS hl.1 (rest := [.long (1 : Int64), .long (τ10.2.1 3), .ref (ad 6)]) (Nat.le_of_ble_eq_true rfl) ⟨Nat.le_of_ble_eq_true rfl, Nat.le_of_ble_eq_true rfl⟩ dX5_readBar_85 (fun r13 τ14 H locs h hP hD hS => ?_)
        refine lv_lshl hx hb dX5_readBar_88 rfl ?_
        refine lv_lor hx hb dX5_readBar_89 ?_
        refine xp_6_7 hx hb hts hown hK hP hD hS mw_86 dX5_readBar_90 (fun τ15 H locs eτ15 hP hD hS => ?_)
        have h := h τ15 eτ15
        refine lv_aload_n hx hb dX5_readBar_93 rfl (lv_at hl 1 rfl) ?_
        refine xg_5_1 hx hb hts hown hK hP mw_174 dX5_readBar_94 ?_
        refine lv_dup hx hb dX5_readBar_97 rfl ?_
        refine xg_6_6 hx hb hts hown hK hP mw_84 dX5_readBar_98 ?_
        refine lv_iconst (v := (1 : Int32)) hx hb dX5_readBar_101 (by decide) ?_
        refine lv_iadd hx hb dX5_readBar_102 ?_
        refine xp_6_6 hx hb hts hown hK hP hD hS mw_84 dX5_readBar_103 (fun τ16 H locs eτ16 hP hD hS => ?_)
        have h := h τ16 eτ16
        refine lv_aload_n hx hb dX5_readBar_106 rfl (lv_at hl 1 rfl) ?_
        refine k_X5_take N ⟨hx, hb, hml, hown, hts⟩ mw_363 ⟨Nat.le_of_ble_eq_true rfl, Nat.le_of_ble_eq_true rfl⟩ h hK hP hD hS hl.1 (rest := []) (Nat.le_of_ble_eq_true rfl) ⟨Nat.le_of_ble_eq_true rfl, Nat.le_of_ble_eq_true rfl⟩ dX5_readBar_107 (fun r17 τ18 H locs h hP hD hS => ?_)
        exact zret_z hx hb hr hlocks hK hP hD hS h.1 h.2 dX5_readBar_110
      · have h := h.1 hc
        refine lv_iconst (v := (0 : Int32)) hx hb dX5_readBar_62 (by decide) ?_
        exact zret_z hx hb hr hlocks hK hP hD hS zb_0 h dX5_readBar_63
    · have h := h.1 hc
      refine lv_iconst (v := (0 : Int32)) hx hb dX5_readBar_35 (by decide) ?_
      exact zret_z hx hb hr hlocks hK hP hD hS zb_0 h dX5_readBar_36
  · have h := h.2 hc
    refine lv_aload_n hx hb dX5_readBar_12 rfl (lv_at hl 0 rfl) ?_
    refine lv_iconst (v := (5 : Int32)) hx hb dX5_readBar_13 (by decide) ?_
    refine lv_aload_n hx hb dX5_readBar_14 rfl (lv_at hl 0 rfl) ?_
    refine xg_5_10 hx hb hts hown hK hP mw_188 dX5_readBar_15 ?_
    refine k_X5_fail N ⟨hx, hb, hml, hown, hts⟩ mw_369 ⟨Nat.le_of_ble_eq_true rfl, Nat.le_of_ble_eq_true rfl⟩ h hK hP hD hS hl.1 (rest := []) (Nat.le_of_ble_eq_true rfl) ⟨Nat.le_of_ble_eq_true rfl, Nat.le_of_ble_eq_true rfl⟩ dX5_readBar_18 (fun r19 τ20 H locs h hP hD hS => ?_)
    exact zret_z hx hb hr hlocks hK hP hD hS h.1 h.2 dX5_readBar_21
set_option maxHeartbeats 4000000 in
set_option maxRecDepth 100000 in
theorem c_X5_readBar (N : Nat) (l : Launch) (dC : Nat → ClassId) (dI : Nat → Nat → Nat) (ad : Nat → Nat) (cI cJ : ClassId) (sz : Nat) (σ : zSt)  (Q : Int32 → zSt → Prop) (h : w_X5_readBar N  σ Q) : Met l yX5_readBar vs_X5_readBar rm_X5_readBar (va_Pc [.ref (ad 5)] (zPc (dC, dI) (x_ty cI cJ) (x_W ad cI cJ) sz σ)) (zQi (dC, dI) (x_ty cI cJ) (x_W ad cI cJ) (zAW x_n ad sz) Q) 0 0 (zAW x_n ad sz) := by
  refine Met.ofW (cc := cX5_readBar) (maxL := 2) (ret := (some .boolean)) (by decide) rfl ?_
  intro p e s m args below meth c s₁ B hml hv
  obtain ⟨rfl, hsz, hP, hK, hD0⟩ := hv
  subst hsz
  have C0 : zCx p s m meth c _ RX5 cX5_readBar 2 (some .boolean) vs_X5_readBar := ⟨B.exec, B.bytes, hml, B.returns, findClass_of_methodNamed B.named, atoms_spec (ws := vs_X5_readBar) B.pre, B.notSynchronized⟩
  have hD := x_D0 (n0 := s.heap.size) hD0
  have hl := lv_entry ([.ref (ad 5)]) (n := 2) (Nat.le_of_ble_eq_true rfl)
  rw [lg_entry_eq]
  generalize (lg_sl ([.ref (ad 5)]) ++ List.replicate (2 - (lg_sl ([.ref (ad 5)])).length) Slot.unset).toArray = ls at hl ⊢
  exact t_X5_readBar_0 C0 hK N  σ _ _ ls h hP hD va_S.rf hl
theorem k_X5_readBar (N : Nat) {R : Room} {H : Heap} {locs : List Loc} {cells slots : Nat} {Q2 : State → Prop} {cc : ByteArray} {nL pc index : Nat} {ls : Array Slot} {rest : List Value} {own : String} {c0 : Cond} {σ : zSt}  {Q : Int32 → zSt → Prop} (S0 : CallFix p m c cc nL s args (c0 :: zT) own) (hml : Cond.methodLink own index yX5_readBar ∈ zT) (hR : rm_X5_readBar.frames + 1 ≤ R.frames ∧ 8 + (2 + 11) + rm_X5_readBar.locals ≤ R.locals) (h : w_X5_readBar N  σ Q) (hK : va_K (dC, dI) vwCl (x_ty cI cJ) s) (hP : va_P (dC, dI) vwCl (x_W ad cI cJ σ) H) (hD : va_D (zAW x_n ad s.heap.size) (x_W ad cI cJ σ)) (hS : va_S (zAW x_n ad s.heap.size) s.heap H locs) (hsz : ls.size = nL) (hW : (rest.map fun v => v.category).sum ≤ 8) (hcs : cells ≤ R.cells ∧ slots ≤ R.slots) (hdg : decode cc pc = .ok (.invokevirtual index, 3)) (kk : ∀ (r : Int32) (τ : zSt) (H1 : Heap) (locs1 : List Loc), Q r τ → va_P (dC, dI) vwCl (x_W ad cI cJ τ) H1 → va_D (zAW x_n ad s.heap.size) (x_W ad cI cJ τ) → va_S (zAW x_n ad s.heap.size) s.heap H1 locs1 → W p l e R s m args below meth c H1 locs1 cells slots Q2 (F0 m (pc + 3) ls (.int r :: rest))) : W p l e R s m args below meth c H locs cells slots Q2 (F0 m pc ls (.ref (ad 5) :: rest)) :=
  zcv_i (T := TX5) (N' := 14) (k := 5) (ci := 5) (fs := x_f5 ad σ) [] S0 (c_X5_readBar N l dC dI ad cI cJ H.size σ  Q h) (cw_X5_readBar S0.2.2.2.2 hml rfl rfl hR) rfl rfl hK hP hD hS rfl hsz hW rfl hcs hdg kk
end q03
section q03
def w_X4_isPerson (N : Nat) (x1 : Int32) (σ : zSt) (Q : Int32 → zSt → Prop) : Prop :=
  (x1 < 0 → Q (0 : Int32) σ) ∧ (¬ x1 < 0 → ((σ.1 17) ≤ x1 → Q (0 : Int32) σ) ∧ (¬ (σ.1 17) ≤ x1 → Q (1 : Int32) σ))
variable {p : Program} {l : Launch} {e : Env} {s : State} {m : MethodId} {args : Array Value} {below : List Frame} {meth : Method} {c : Code} {dC : Nat → ClassId} {dI : Nat → Nat → Nat} {ad : Nat → Nat} {cI cJ : ClassId}
set_option maxHeartbeats 4000000 in
set_option maxRecDepth 100000 in
theorem t_X4_isPerson_0 (C0 : zCx p s m meth c args RX4 cX4_isPerson 2 (some .boolean) vs_X4_isPerson) (hK : va_K (dC, dI) vwCl (x_ty cI cJ) s) (N : Nat) {Q : Int32 → zSt → Prop} : ∀ (x1 : Int32) (σ : zSt) (H : Heap) (locs : List Loc) (ls : Array Slot), w_X4_isPerson N x1 σ Q → va_P (dC, dI) vwCl (x_W ad cI cJ σ) H → va_D (zAW x_n ad s.heap.size) (x_W ad cI cJ σ) → va_S (zAW x_n ad s.heap.size) s.heap H locs → lv_has ls 2 [(0, .ref (ad 6)), (1, .int x1)] → W p l e rm_X4_isPerson s m args below meth c H locs 0 0 (MQ below (zQi (dC, dI) (x_ty cI cJ) (x_W ad cI cJ) (zAW x_n ad s.heap.size) Q) args s 0 0 (zAW x_n ad s.heap.size)) (F0 m 0 ls []) := by
  obtain ⟨hx, hb, hml, hr, hown, hts, hlocks⟩ := id C0
  intro x1 σ H locs ls h hP hD hS hl
  unfold w_X4_isPerson at h
  refine lv_iload_n hx hb dX4_isPerson_0 rfl (lv_at hl 1 rfl) ?_
  refine lv_if_lt (tgt := 16) hx hb dX4_isPerson_1 (by decide) (fun hc => ?_) (fun hc => ?_)
  · have h := h.1 hc
    refine lv_iconst (v := (0 : Int32)) hx hb dX4_isPerson_16 (by decide) ?_
    exact zret_z hx hb hr hlocks hK hP hD hS zb_0 h dX4_isPerson_17
  · have h := h.2 hc
    refine lv_iload_n hx hb dX4_isPerson_4 rfl (lv_at hl 1 rfl) ?_
    refine lv_aload_n hx hb dX4_isPerson_5 rfl (lv_at hl 0 rfl) ?_
    refine xg_6_4 hx hb hts hown hK hP mw_73 dX4_isPerson_6 ?_
    refine lv_icmp_ge (tgt := 16) hx hb dX4_isPerson_9 (by decide) (fun hc => ?_) (fun hc => ?_)
    · have h := h.1 hc
      refine lv_iconst (v := (0 : Int32)) hx hb dX4_isPerson_16 (by decide) ?_
      exact zret_z hx hb hr hlocks hK hP hD hS zb_0 h dX4_isPerson_17
    · have h := h.2 hc
      refine lv_iconst (v := (1 : Int32)) hx hb dX4_isPerson_12 (by decide) ?_
      refine lv_goto (tgt := 17) hx hb dX4_isPerson_13 (by decide) ?_
      exact zret_z hx hb hr hlocks hK hP hD hS zb_1 h dX4_isPerson_17
set_option maxHeartbeats 4000000 in
set_option maxRecDepth 100000 in
theorem c_X4_isPerson (N : Nat) (l : Launch) (dC : Nat → ClassId) (dI : Nat → Nat → Nat) (ad : Nat → Nat) (cI cJ : ClassId) (sz : Nat) (σ : zSt) (x1 : Int32) (Q : Int32 → zSt → Prop) (h : w_X4_isPerson N x1 σ Q) : Met l yX4_isPerson vs_X4_isPerson rm_X4_isPerson (va_Pc [.ref (ad 6), .int x1] (zPc (dC, dI) (x_ty cI cJ) (x_W ad cI cJ) sz σ)) (zQi (dC, dI) (x_ty cI cJ) (x_W ad cI cJ) (zAW x_n ad sz) Q) 0 0 (zAW x_n ad sz) := by
  refine Met.ofW (cc := cX4_isPerson) (maxL := 2) (ret := (some .boolean)) (by decide) rfl ?_
  intro p e s m args below meth c s₁ B hml hv
  obtain ⟨rfl, hsz, hP, hK, hD0⟩ := hv
  subst hsz
  have C0 : zCx p s m meth c _ RX4 cX4_isPerson 2 (some .boolean) vs_X4_isPerson := ⟨B.exec, B.bytes, hml, B.returns, findClass_of_methodNamed B.named, atoms_spec (ws := vs_X4_isPerson) B.pre, B.notSynchronized⟩
  have hD := x_D0 (n0 := s.heap.size) hD0
  have hl := lv_entry ([.ref (ad 6), .int x1]) (n := 2) (Nat.le_of_ble_eq_true rfl)
  rw [lg_entry_eq]
  generalize (lg_sl ([.ref (ad 6), .int x1]) ++ List.replicate (2 - (lg_sl ([.ref (ad 6), .int x1])).length) Slot.unset).toArray = ls at hl ⊢
  exact t_X4_isPerson_0 C0 hK N x1 σ _ _ ls h hP hD va_S.rf hl
theorem k_X4_isPerson (N : Nat) {R : Room} {H : Heap} {locs : List Loc} {cells slots : Nat} {Q2 : State → Prop} {cc : ByteArray} {nL pc index : Nat} {ls : Array Slot} {rest : List Value} {own : String} {c0 : Cond} {σ : zSt} {x1 : Int32} {Q : Int32 → zSt → Prop} (S0 : CallFix p m c cc nL s args (c0 :: zT) own) (hml : Cond.methodLink own index yX4_isPerson ∈ zT) (hR : rm_X4_isPerson.frames + 1 ≤ R.frames ∧ 8 + (2 + 11) + rm_X4_isPerson.locals ≤ R.locals) (h : w_X4_isPerson N x1 σ Q) (hK : va_K (dC, dI) vwCl (x_ty cI cJ) s) (hP : va_P (dC, dI) vwCl (x_W ad cI cJ σ) H) (hD : va_D (zAW x_n ad s.heap.size) (x_W ad cI cJ σ)) (hS : va_S (zAW x_n ad s.heap.size) s.heap H locs) (hsz : ls.size = nL) (hW : (rest.map fun v => v.category).sum ≤ 8) (hcs : cells ≤ R.cells ∧ slots ≤ R.slots) (hdg : decode cc pc = .ok (.invokevirtual index, 3)) (kk : ∀ (r : Int32) (τ : zSt) (H1 : Heap) (locs1 : List Loc), Q r τ → va_P (dC, dI) vwCl (x_W ad cI cJ τ) H1 → va_D (zAW x_n ad s.heap.size) (x_W ad cI cJ τ) → va_S (zAW x_n ad s.heap.size) s.heap H1 locs1 → W p l e R s m args below meth c H1 locs1 cells slots Q2 (F0 m (pc + 3) ls (.int r :: rest))) : W p l e R s m args below meth c H locs cells slots Q2 (F0 m pc ls (.int x1 :: .ref (ad 6) :: rest)) :=
  zcv_i (T := TX4) (N' := 8) (k := 6) (ci := 4) (fs := x_f6 ad σ) [.int x1] S0 (c_X4_isPerson N l dC dI ad cI cJ H.size σ x1 Q h) (cw_X4_isPerson S0.2.2.2.2 hml rfl rfl hR) rfl rfl hK hP hD hS rfl hsz hW rfl hcs hdg kk
end q03
section q03
def b_X5_readMost_67 (N : Nat) (Q : Int32 → zSt → Prop)  (σ : zSt) : Prop :=
  w_X5_take N σ (fun r1 τ2 => (zb r1) ∧ Q r1 τ2)
def w_X5_readMost (N : Nat)  (σ : zSt) (Q : Int32 → zSt → Prop) : Prop :=
  w_X5_take N σ (fun r1 τ2 => w_X5_seesPerson N (-1 : Int32) τ2 (fun r3 τ4 => (r3 = 0 → Q (0 : Int32) τ4) ∧ (¬ r3 = 0 → w_X4_numberOf N (τ4.1 15) τ4 (fun r5 τ6 => w_X5_take N τ6 (fun r7 τ8 => w_X5_seesNumber N (9 : Int32) τ8 (fun r9 τ10 => (r9 = 0 → Q (0 : Int32) τ10) ∧ (¬ r9 = 0 → w_X4_isPerson N r5 τ10 (fun r11 τ12 => (r11 = 0 → b_X5_readMost_67 N Q τ12) ∧ (¬ r11 = 0 → (vp_in r5 10) ∧ (∀ τ13 : zSt, τ13 = zA τ12 17 (upd (τ12.2.2.1 17) (r5.toNatClampNeg) (τ12.1 15)) → b_X5_readMost_67 N Q τ13))))))))))
variable {p : Program} {l : Launch} {e : Env} {s : State} {m : MethodId} {args : Array Value} {below : List Frame} {meth : Method} {c : Code} {dC : Nat → ClassId} {dI : Nat → Nat → Nat} {ad : Nat → Nat} {cI cJ : ClassId}
set_option maxHeartbeats 4000000 in
set_option maxRecDepth 100000 in
theorem t_X5_readMost_67 (C0 : zCx p s m meth c args RX5 cX5_readMost 2 (some .boolean) vs_X5_readMost) (hK : va_K (dC, dI) vwCl (x_ty cI cJ) s) (N : Nat) {Q : Int32 → zSt → Prop} : ∀  (σ : zSt) (H : Heap) (locs : List Loc) (ls : Array Slot), b_X5_readMost_67 N  Q  σ → va_P (dC, dI) vwCl (x_W ad cI cJ σ) H → va_D (zAW x_n ad s.heap.size) (x_W ad cI cJ σ) → va_S (zAW x_n ad s.heap.size) s.heap H locs → lv_has ls 2 [(0, .ref (ad 5))] → W p l e rm_X5_readMost s m args below meth c H locs 0 0 (MQ below (zQi (dC, dI) (x_ty cI cJ) (x_W ad cI cJ) (zAW x_n ad s.heap.size) Q) args s 0 0 (zAW x_n ad s.heap.size)) (F0 m 67 ls []) := by
  obtain ⟨hx, hb, hml, hr, hown, hts, hlocks⟩ := id C0
  intro  σ H locs ls h hP hD hS hl
  unfold b_X5_readMost_67 at h
  refine lv_aload_n hx hb dX5_readMost_67 rfl (lv_at hl 0 rfl) ?_
  refine k_X5_take N ⟨hx, hb, hml, hown, hts⟩ mw_363 ⟨Nat.le_of_ble_eq_true rfl, Nat.le_of_ble_eq_true rfl⟩ h hK hP hD hS hl.1 (rest := []) (Nat.le_of_ble_eq_true rfl) ⟨Nat.le_of_ble_eq_true rfl, Nat.le_of_ble_eq_true rfl⟩ dX5_readMost_68 (fun r1 τ2 H locs h hP hD hS => ?_)
  exact zret_z hx hb hr hlocks hK hP hD hS h.1 h.2 dX5_readMost_71
set_option maxHeartbeats 4000000 in
set_option maxRecDepth 100000 in
theorem t_X5_readMost_0 (C0 : zCx p s m meth c args RX5 cX5_readMost 2 (some .boolean) vs_X5_readMost) (hK : va_K (dC, dI) vwCl (x_ty cI cJ) s) (N : Nat) {Q : Int32 → zSt → Prop} : ∀  (σ : zSt) (H : Heap) (locs : List Loc) (ls : Array Slot), w_X5_readMost N  σ Q → va_P (dC, dI) vwCl (x_W ad cI cJ σ) H → va_D (zAW x_n ad s.heap.size) (x_W ad cI cJ σ) → va_S (zAW x_n ad s.heap.size) s.heap H locs → lv_has ls 2 [(0, .ref (ad 5))] → W p l e rm_X5_readMost s m args below meth c H locs 0 0 (MQ below (zQi (dC, dI) (x_ty cI cJ) (x_W ad cI cJ) (zAW x_n ad s.heap.size) Q) args s 0 0 (zAW x_n ad s.heap.size)) (F0 m 0 ls []) := by
  obtain ⟨hx, hb, hml, hr, hown, hts, hlocks⟩ := id C0
  intro  σ H locs ls h hP hD hS hl
  unfold w_X5_readMost at h
  refine lv_aload_n hx hb dX5_readMost_0 rfl (lv_at hl 0 rfl) ?_
  refine k_X5_take N ⟨hx, hb, hml, hown, hts⟩ mw_363 ⟨Nat.le_of_ble_eq_true rfl, Nat.le_of_ble_eq_true rfl⟩ h hK hP hD hS hl.1 (rest := []) (Nat.le_of_ble_eq_true rfl) ⟨Nat.le_of_ble_eq_true rfl, Nat.le_of_ble_eq_true rfl⟩ dX5_readMost_1 (fun r1 τ2 H locs h hP hD hS => ?_)
  refine lv_pop hx hb dX5_readMost_4 rfl ?_
  refine lv_aload_n hx hb dX5_readMost_5 rfl (lv_at hl 0 rfl) ?_
  refine lv_iconst (v := (-1 : Int32)) hx hb dX5_readMost_6 (by decide) ?_
  refine k_X5_seesPerson N ⟨hx, hb, hml, hown, hts⟩ mw_428 ⟨Nat.le_of_ble_eq_true rfl, Nat.le_of_ble_eq_true rfl⟩ h hK hP hD hS hl.1 (rest := []) (Nat.le_of_ble_eq_true rfl) ⟨Nat.le_of_ble_eq_true rfl, Nat.le_of_ble_eq_true rfl⟩ dX5_readMost_7 (fun r3 τ4 H locs h hP hD hS => ?_)
  refine lv_if_ne (tgt := 15) hx hb dX5_readMost_10 (by decide) (fun hc => ?_) (fun hc => ?_)
  · have h := h.2 hc
    refine lv_aload_n hx hb dX5_readMost_15 rfl (lv_at hl 0 rfl) ?_
    refine xg_5_1 hx hb hts hown hK hP mw_174 dX5_readMost_16 ?_
    refine lv_aload_n hx hb dX5_readMost_19 rfl (lv_at hl 0 rfl) ?_
    refine xg_5_12 hx hb hts hown hK hP mw_190 dX5_readMost_20 ?_
    refine k_X4_numberOf N ⟨hx, hb, hml, hown, hts⟩ mw_375 ⟨Nat.le_of_ble_eq_true rfl, Nat.le_of_ble_eq_true rfl⟩ h hK hP hD hS hl.1 (rest := []) (Nat.le_of_ble_eq_true rfl) ⟨Nat.le_of_ble_eq_true rfl, Nat.le_of_ble_eq_true rfl⟩ dX5_readMost_23 (fun r5 τ6 H locs h hP hD hS => ?_)
    refine lv_istore_n (lv' := [(1, .int r5), (0, .ref (ad 5))]) hx hb dX5_readMost_26 rfl hl (by decide) rfl (fun ls hl => ?_)
    refine lv_aload_n hx hb dX5_readMost_27 rfl (lv_at hl 1 rfl) ?_
    refine k_X5_take N ⟨hx, hb, hml, hown, hts⟩ mw_363 ⟨Nat.le_of_ble_eq_true rfl, Nat.le_of_ble_eq_true rfl⟩ h hK hP hD hS hl.1 (rest := []) (Nat.le_of_ble_eq_true rfl) ⟨Nat.le_of_ble_eq_true rfl, Nat.le_of_ble_eq_true rfl⟩ dX5_readMost_28 (fun r7 τ8 H locs h hP hD hS => ?_)
    refine lv_pop hx hb dX5_readMost_31 rfl ?_
    refine lv_aload_n hx hb dX5_readMost_32 rfl (lv_at hl 1 rfl) ?_
    refine lv_bipush (v := (9 : Int32)) hx hb dX5_readMost_33 (by decide) ?_
    refine k_X5_seesNumber N ⟨hx, hb, hml, hown, hts⟩ mw_382 ⟨Nat.le_of_ble_eq_true rfl, Nat.le_of_ble_eq_true rfl⟩ h hK hP hD hS hl.1 (rest := []) (Nat.le_of_ble_eq_true rfl) ⟨Nat.le_of_ble_eq_true rfl, Nat.le_of_ble_eq_true rfl⟩ dX5_readMost_35 (fun r9 τ10 H locs h hP hD hS => ?_)
    refine lv_if_ne (tgt := 43) hx hb dX5_readMost_38 (by decide) (fun hc => ?_) (fun hc => ?_)
    · have h := h.2 hc
      refine lv_aload_n hx hb dX5_readMost_43 rfl (lv_at hl 1 rfl) ?_
      refine xg_5_1 hx hb hts hown hK hP mw_174 dX5_readMost_44 ?_
      refine lv_iload_n hx hb dX5_readMost_47 rfl (lv_at hl 0 rfl) ?_
      refine k_X4_isPerson N ⟨hx, hb, hml, hown, hts⟩ mw_453 ⟨Nat.le_of_ble_eq_true rfl, Nat.le_of_ble_eq_true rfl⟩ h hK hP hD hS hl.1 (rest := []) (Nat.le_of_ble_eq_true rfl) ⟨Nat.le_of_ble_eq_true rfl, Nat.le_of_ble_eq_true rfl⟩ dX5_readMost_48 (fun r11 τ12 H locs h hP hD hS => ?_)
      refine lv_if_eq (tgt := 67) hx hb dX5_readMost_51 (by decide) (fun hc => ?_) (fun hc => ?_)
      · have h := h.1 hc
        exact t_X5_readMost_67 C0 hK N  τ12 _ _ _ h hP hD hS (lv_sub hl [1] rfl)
      · have h := h.2 hc
        refine lv_aload_n hx hb dX5_readMost_54 rfl (lv_at hl 1 rfl) ?_
        refine xg_5_1 hx hb hts hown hK hP mw_174 dX5_readMost_55 ?_
        refine xg_6_3 hx hb hts hown hK hP mw_72 dX5_readMost_58 ?_
        refine lv_iload_n hx hb dX5_readMost_61 rfl (lv_at hl 0 rfl) ?_
        refine lv_aload_n hx hb dX5_readMost_62 rfl (lv_at hl 1 rfl) ?_
        refine xg_5_12 hx hb hts hown hK hP mw_190 dX5_readMost_63 ?_
        refine xs_36 hx hb hK hP hD hS h.1 rfl dX5_readMost_66 (fun τ13 H locs eτ13 hP hD hS => ?_)
        have h := h.2
        have h := h τ13 eτ13
        exact t_X5_readMost_67 C0 hK N  τ13 _ _ _ h hP hD hS (lv_sub hl [1] rfl)
    · have h := h.1 hc
      refine lv_iconst (v := (0 : Int32)) hx hb dX5_readMost_41 (by decide) ?_
      exact zret_z hx hb hr hlocks hK hP hD hS zb_0 h dX5_readMost_42
  · have h := h.1 hc
    refine lv_iconst (v := (0 : Int32)) hx hb dX5_readMost_13 (by decide) ?_
    exact zret_z hx hb hr hlocks hK hP hD hS zb_0 h dX5_readMost_14
set_option maxHeartbeats 4000000 in
set_option maxRecDepth 100000 in
theorem c_X5_readMost (N : Nat) (l : Launch) (dC : Nat → ClassId) (dI : Nat → Nat → Nat) (ad : Nat → Nat) (cI cJ : ClassId) (sz : Nat) (σ : zSt)  (Q : Int32 → zSt → Prop) (h : w_X5_readMost N  σ Q) : Met l yX5_readMost vs_X5_readMost rm_X5_readMost (va_Pc [.ref (ad 5)] (zPc (dC, dI) (x_ty cI cJ) (x_W ad cI cJ) sz σ)) (zQi (dC, dI) (x_ty cI cJ) (x_W ad cI cJ) (zAW x_n ad sz) Q) 0 0 (zAW x_n ad sz) := by
  refine Met.ofW (cc := cX5_readMost) (maxL := 2) (ret := (some .boolean)) (by decide) rfl ?_
  intro p e s m args below meth c s₁ B hml hv
  obtain ⟨rfl, hsz, hP, hK, hD0⟩ := hv
  subst hsz
  have C0 : zCx p s m meth c _ RX5 cX5_readMost 2 (some .boolean) vs_X5_readMost := ⟨B.exec, B.bytes, hml, B.returns, findClass_of_methodNamed B.named, atoms_spec (ws := vs_X5_readMost) B.pre, B.notSynchronized⟩
  have hD := x_D0 (n0 := s.heap.size) hD0
  have hl := lv_entry ([.ref (ad 5)]) (n := 2) (Nat.le_of_ble_eq_true rfl)
  rw [lg_entry_eq]
  generalize (lg_sl ([.ref (ad 5)]) ++ List.replicate (2 - (lg_sl ([.ref (ad 5)])).length) Slot.unset).toArray = ls at hl ⊢
  exact t_X5_readMost_0 C0 hK N  σ _ _ ls h hP hD va_S.rf hl
theorem k_X5_readMost (N : Nat) {R : Room} {H : Heap} {locs : List Loc} {cells slots : Nat} {Q2 : State → Prop} {cc : ByteArray} {nL pc index : Nat} {ls : Array Slot} {rest : List Value} {own : String} {c0 : Cond} {σ : zSt}  {Q : Int32 → zSt → Prop} (S0 : CallFix p m c cc nL s args (c0 :: zT) own) (hml : Cond.methodLink own index yX5_readMost ∈ zT) (hR : rm_X5_readMost.frames + 1 ≤ R.frames ∧ 8 + (2 + 11) + rm_X5_readMost.locals ≤ R.locals) (h : w_X5_readMost N  σ Q) (hK : va_K (dC, dI) vwCl (x_ty cI cJ) s) (hP : va_P (dC, dI) vwCl (x_W ad cI cJ σ) H) (hD : va_D (zAW x_n ad s.heap.size) (x_W ad cI cJ σ)) (hS : va_S (zAW x_n ad s.heap.size) s.heap H locs) (hsz : ls.size = nL) (hW : (rest.map fun v => v.category).sum ≤ 8) (hcs : cells ≤ R.cells ∧ slots ≤ R.slots) (hdg : decode cc pc = .ok (.invokevirtual index, 3)) (kk : ∀ (r : Int32) (τ : zSt) (H1 : Heap) (locs1 : List Loc), Q r τ → va_P (dC, dI) vwCl (x_W ad cI cJ τ) H1 → va_D (zAW x_n ad s.heap.size) (x_W ad cI cJ τ) → va_S (zAW x_n ad s.heap.size) s.heap H1 locs1 → W p l e R s m args below meth c H1 locs1 cells slots Q2 (F0 m (pc + 3) ls (.int r :: rest))) : W p l e R s m args below meth c H locs cells slots Q2 (F0 m pc ls (.ref (ad 5) :: rest)) :=
  zcv_i (T := TX5) (N' := 14) (k := 5) (ci := 5) (fs := x_f5 ad σ) [] S0 (c_X5_readMost N l dC dI ad cI cJ H.size σ  Q h) (cw_X5_readMost S0.2.2.2.2 hml rfl rfl hR) rfl rfl hK hP hD hS rfl hsz hW rfl hcs hdg kk
end q03
section q03
def b_X5_read_190 (N : Nat) (k_55 : Int32 → Int32 → zSt → Prop) (Q : Int32 → zSt → Prop) (x2 : Int32) (s0 : Int32) (σ : zSt) : Prop :=
  ∀ τ1 : zSt, τ1 = zI σ 7 ((σ.1 7) + (1 : Int32)) → ∀ v2 : Int32, v2 = x2 + (1 : Int32) → k_55 s0 v2 τ1
def b_X5_read_189 (N : Nat) (k_55 : Int32 → Int32 → zSt → Prop) (Q : Int32 → zSt → Prop) (x2 : Int32) (σ : zSt) : Prop :=
  b_X5_read_190 N k_55 Q x2 (0 : Int32) σ
def b_X5_read_172 (N : Nat) (k_55 : Int32 → Int32 → zSt → Prop) (Q : Int32 → zSt → Prop) (x1 : Int32) (x2 : Int32) (σ : zSt) : Prop :=
  (x1 = 0 → b_X5_read_189 N k_55 Q x2 σ) ∧ (¬ x1 = 0 → w_X5_takeSign N (59 : Int32) σ (fun r1 τ2 => (r1 = 0 → b_X5_read_189 N k_55 Q x2 τ2) ∧ (¬ r1 = 0 → b_X5_read_190 N k_55 Q x2 (1 : Int32) τ2)))
def b_X5_read_55 (N : Nat) (k_55 : Int32 → Int32 → zSt → Prop) (Q : Int32 → zSt → Prop) (x1 : Int32) (x2 : Int32) (σ : zSt) : Prop :=
  ((800 : Int32) ≤ x2 → (zb x1) ∧ Q x1 σ) ∧ (¬ (800 : Int32) ≤ x2 → (x1 = 0 → (zb x1) ∧ Q x1 σ) ∧ (¬ x1 = 0 → ((σ.1 12) = 0 → (zb x1) ∧ Q x1 σ) ∧ (¬ (σ.1 12) = 0 → ∀ v1 : Int32, v1 = σ.1 16 → (v1 = (0 : Int32) → w_X5_readWho N σ (fun r2 τ3 => b_X5_read_172 N k_55 Q r2 x2 τ3)) ∧ (¬ v1 = (0 : Int32) → (v1 = (1 : Int32) → w_X5_fail N (1 : Int32) (σ.1 13) σ (fun r4 τ5 => b_X5_read_172 N k_55 Q r4 x2 τ5)) ∧ (¬ v1 = (1 : Int32) → (v1 = (2 : Int32) → w_X5_readRule N (0 : Int32) σ (fun r6 τ7 => b_X5_read_172 N k_55 Q r6 x2 τ7)) ∧ (¬ v1 = (2 : Int32) → (v1 = (3 : Int32) → w_X5_fail N (1 : Int32) (σ.1 13) σ (fun r8 τ9 => b_X5_read_172 N k_55 Q r8 x2 τ9)) ∧ (¬ v1 = (3 : Int32) → (v1 = (4 : Int32) → w_X5_readRule N (1 : Int32) σ (fun r10 τ11 => b_X5_read_172 N k_55 Q r10 x2 τ11)) ∧ (¬ v1 = (4 : Int32) → (v1 = (5 : Int32) → w_X5_readBar N σ (fun r12 τ13 => b_X5_read_172 N k_55 Q r12 x2 τ13)) ∧ (¬ v1 = (5 : Int32) → (v1 = (6 : Int32) → w_X5_readMost N σ (fun r14 τ15 => b_X5_read_172 N k_55 Q r14 x2 τ15)) ∧ (¬ v1 = (6 : Int32) → w_X5_fail N (1 : Int32) (σ.1 13) σ (fun r16 τ17 => b_X5_read_172 N k_55 Q r16 x2 τ17)))))))))))
def w_X5_read_55 (N : Nat) (Q : Int32 → zSt → Prop) : Nat → Int32 → Int32 → zSt → Prop
  | 0 => fun _ _ _ => False
  | f + 1 => b_X5_read_55 N (w_X5_read_55 N  Q f) Q
def w_X5_read (N : Nat)  (σ : zSt) (Q : Int32 → zSt → Prop) : Prop :=
  w_X4_clear N σ (fun τ2 => w_X6_clear N τ2 (fun τ4 => ∀ τ5 : zSt, τ5 = zI τ4 7 (0 : Int32) → ∀ τ6 : zSt, τ6 = zI τ5 8 (0 : Int32) → ∀ τ7 : zSt, τ7 = zI τ6 9 (-1 : Int32) → ∀ τ8 : zSt, τ8 = zI τ7 11 (0 : Int32) → w_X8_cut N τ8 (fun τ10 => ∀ τ11 : zSt, τ11 = zI τ10 10 (-1 : Int32) → w_X5_take N τ11 (fun r12 τ13 => w_X5_read_55 N Q N (1 : Int32) (0 : Int32) τ13))))
variable {p : Program} {l : Launch} {e : Env} {s : State} {m : MethodId} {args : Array Value} {below : List Frame} {meth : Method} {c : Code} {dC : Nat → ClassId} {dI : Nat → Nat → Nat} {ad : Nat → Nat} {cI cJ : ClassId}
set_option maxHeartbeats 4000000 in
set_option maxRecDepth 100000 in
theorem t_X5_read_190 (C0 : zCx p s m meth c args RX5 cX5_read 3 (some .boolean) vs_X5_read) (hK : va_K (dC, dI) vwCl (x_ty cI cJ) s) (N : Nat) {Q : Int32 → zSt → Prop} {k_55 : Int32 → Int32 → zSt → Prop} (hk_55 : ∀ (x1 : Int32) (x2 : Int32) (σ : zSt) (H : Heap) (locs : List Loc) (ls : Array Slot), k_55 x1 x2 σ → va_P (dC, dI) vwCl (x_W ad cI cJ σ) H → va_D (zAW x_n ad s.heap.size) (x_W ad cI cJ σ) → va_S (zAW x_n ad s.heap.size) s.heap H locs → lv_has ls 3 [(0, .ref (ad 5)), (1, .int x1), (2, .int x2)] → W p l e rm_X5_read s m args below meth c H locs 0 0 (MQ below (zQi (dC, dI) (x_ty cI cJ) (x_W ad cI cJ) (zAW x_n ad s.heap.size) Q) args s 0 0 (zAW x_n ad s.heap.size)) (F0 m 55 ls [])) : ∀ (x2 : Int32) (s0 : Int32) (σ : zSt) (H : Heap) (locs : List Loc) (ls : Array Slot), b_X5_read_190 N k_55 Q x2 s0 σ → va_P (dC, dI) vwCl (x_W ad cI cJ σ) H → va_D (zAW x_n ad s.heap.size) (x_W ad cI cJ σ) → va_S (zAW x_n ad s.heap.size) s.heap H locs → lv_has ls 3 [(0, .ref (ad 5)), (2, .int x2)] → W p l e rm_X5_read s m args below meth c H locs 0 0 (MQ below (zQi (dC, dI) (x_ty cI cJ) (x_W ad cI cJ) (zAW x_n ad s.heap.size) Q) args s 0 0 (zAW x_n ad s.heap.size)) (F0 m 190 ls [.int s0]) := by
  obtain ⟨hx, hb, hml, hr, hown, hts, hlocks⟩ := id C0
  intro x2 s0 σ H locs ls h hP hD hS hl
  unfold b_X5_read_190 at h
  refine lv_istore_n (lv' := [(1, .int s0), (0, .ref (ad 5)), (2, .int x2)]) hx hb dX5_read_190 rfl hl (by decide) rfl (fun ls hl => ?_)
  refine lv_aload_n hx hb dX5_read_191 rfl (lv_at hl 1 rfl) ?_
  refine lv_dup hx hb dX5_read_192 rfl ?_
  refine xg_5_4 hx hb hts hown hK hP mw_179 dX5_read_193 ?_
  refine lv_iconst (v := (1 : Int32)) hx hb dX5_read_196 (by decide) ?_
  refine lv_iadd hx hb dX5_read_197 ?_
  refine xp_5_4 hx hb hts hown hK hP hD hS mw_179 dX5_read_198 (fun τ1 H locs eτ1 hP hD hS => ?_)
  have h := h τ1 eτ1
  obtain ⟨v2, ev2⟩ : ∃ z : Int32, z = x2 + (1 : Int32) := ⟨_, rfl⟩
  have h := h v2 ev2
  refine lv_iinc (v := v2) (lv' := [(2, .int v2), (1, .int s0), (0, .ref (ad 5))]) hx hb dX5_read_201 hl (k := 2) rfl (by rw [ev2]; rfl) (by decide) rfl (fun ls hl => ?_)
  refine lv_goto (tgt := 55) hx hb dX5_read_204 (by decide) ?_
  exact hk_55 s0 v2 τ1 _ _ _ h hP hD hS (lv_sub hl [2, 1, 0] rfl)
set_option maxHeartbeats 4000000 in
set_option maxRecDepth 100000 in
theorem t_X5_read_189 (C0 : zCx p s m meth c args RX5 cX5_read 3 (some .boolean) vs_X5_read) (hK : va_K (dC, dI) vwCl (x_ty cI cJ) s) (N : Nat) {Q : Int32 → zSt → Prop} {k_55 : Int32 → Int32 → zSt → Prop} (hk_55 : ∀ (x1 : Int32) (x2 : Int32) (σ : zSt) (H : Heap) (locs : List Loc) (ls : Array Slot), k_55 x1 x2 σ → va_P (dC, dI) vwCl (x_W ad cI cJ σ) H → va_D (zAW x_n ad s.heap.size) (x_W ad cI cJ σ) → va_S (zAW x_n ad s.heap.size) s.heap H locs → lv_has ls 3 [(0, .ref (ad 5)), (1, .int x1), (2, .int x2)] → W p l e rm_X5_read s m args below meth c H locs 0 0 (MQ below (zQi (dC, dI) (x_ty cI cJ) (x_W ad cI cJ) (zAW x_n ad s.heap.size) Q) args s 0 0 (zAW x_n ad s.heap.size)) (F0 m 55 ls [])) : ∀ (x2 : Int32) (σ : zSt) (H : Heap) (locs : List Loc) (ls : Array Slot), b_X5_read_189 N k_55 Q x2 σ → va_P (dC, dI) vwCl (x_W ad cI cJ σ) H → va_D (zAW x_n ad s.heap.size) (x_W ad cI cJ σ) → va_S (zAW x_n ad s.heap.size) s.heap H locs → lv_has ls 3 [(0, .ref (ad 5)), (2, .int x2)] → W p l e rm_X5_read s m args below meth c H locs 0 0 (MQ below (zQi (dC, dI) (x_ty cI cJ) (x_W ad cI cJ) (zAW x_n ad s.heap.size) Q) args s 0 0 (zAW x_n ad s.heap.size)) (F0 m 189 ls []) := by
  obtain ⟨hx, hb, hml, hr, hown, hts, hlocks⟩ := id C0
  intro x2 σ H locs ls h hP hD hS hl
  unfold b_X5_read_189 at h
  refine lv_iconst (v := (0 : Int32)) hx hb dX5_read_189 (by decide) ?_
  exact t_X5_read_190 C0 hK N hk_55 x2 (0 : Int32) σ _ _ _ h hP hD hS (lv_sub hl [0, 1] rfl)
set_option maxHeartbeats 4000000 in
set_option maxRecDepth 100000 in
theorem t_X5_read_172 (C0 : zCx p s m meth c args RX5 cX5_read 3 (some .boolean) vs_X5_read) (hK : va_K (dC, dI) vwCl (x_ty cI cJ) s) (N : Nat) {Q : Int32 → zSt → Prop} {k_55 : Int32 → Int32 → zSt → Prop} (hk_55 : ∀ (x1 : Int32) (x2 : Int32) (σ : zSt) (H : Heap) (locs : List Loc) (ls : Array Slot), k_55 x1 x2 σ → va_P (dC, dI) vwCl (x_W ad cI cJ σ) H → va_D (zAW x_n ad s.heap.size) (x_W ad cI cJ σ) → va_S (zAW x_n ad s.heap.size) s.heap H locs → lv_has ls 3 [(0, .ref (ad 5)), (1, .int x1), (2, .int x2)] → W p l e rm_X5_read s m args below meth c H locs 0 0 (MQ below (zQi (dC, dI) (x_ty cI cJ) (x_W ad cI cJ) (zAW x_n ad s.heap.size) Q) args s 0 0 (zAW x_n ad s.heap.size)) (F0 m 55 ls [])) : ∀ (x1 : Int32) (x2 : Int32) (σ : zSt) (H : Heap) (locs : List Loc) (ls : Array Slot), b_X5_read_172 N k_55 Q x1 x2 σ → va_P (dC, dI) vwCl (x_W ad cI cJ σ) H → va_D (zAW x_n ad s.heap.size) (x_W ad cI cJ σ) → va_S (zAW x_n ad s.heap.size) s.heap H locs → lv_has ls 3 [(0, .ref (ad 5)), (1, .int x1), (2, .int x2)] → W p l e rm_X5_read s m args below meth c H locs 0 0 (MQ below (zQi (dC, dI) (x_ty cI cJ) (x_W ad cI cJ) (zAW x_n ad s.heap.size) Q) args s 0 0 (zAW x_n ad s.heap.size)) (F0 m 172 ls []) := by
  obtain ⟨hx, hb, hml, hr, hown, hts, hlocks⟩ := id C0
  intro x1 x2 σ H locs ls h hP hD hS hl
  unfold b_X5_read_172 at h
  refine lv_iload_n hx hb dX5_read_172 rfl (lv_at hl 1 rfl) ?_
  refine lv_if_eq (tgt := 189) hx hb dX5_read_173 (by decide) (fun hc => ?_) (fun hc => ?_)
  · have h := h.1 hc
    exact t_X5_read_189 C0 hK N hk_55 x2 σ _ _ _ h hP hD hS (lv_sub hl [0, 2] rfl)
  · have h := h.2 hc
    refine lv_aload_n hx hb dX5_read_176 rfl (lv_at hl 0 rfl) ?_
    refine lv_bipush (v := (59 : Int32)) hx hb dX5_read_177 (by decide) ?_
    refine k_X5_takeSign N ⟨hx, hb, hml, hown, hts⟩ mw_413 ⟨Nat.le_of_ble_eq_true rfl, Nat.le_of_ble_eq_true rfl⟩ h hK hP hD hS hl.1 (rest := []) (Nat.le_of_ble_eq_true rfl) ⟨Nat.le_of_ble_eq_true rfl, Nat.le_of_ble_eq_true rfl⟩ dX5_read_179 (fun r1 τ2 H locs h hP hD hS => ?_)
    refine lv_if_eq (tgt := 189) hx hb dX5_read_182 (by decide) (fun hc => ?_) (fun hc => ?_)
    · have h := h.1 hc
      exact t_X5_read_189 C0 hK N hk_55 x2 τ2 _ _ _ h hP hD hS (lv_sub hl [0, 2] rfl)
    · have h := h.2 hc
      refine lv_iconst (v := (1 : Int32)) hx hb dX5_read_185 (by decide) ?_
      refine lv_goto (tgt := 190) hx hb dX5_read_186 (by decide) ?_
      exact t_X5_read_190 C0 hK N hk_55 x2 (1 : Int32) τ2 _ _ _ h hP hD hS (lv_sub hl [0, 2] rfl)
set_option maxHeartbeats 4000000 in
set_option maxRecDepth 100000 in
theorem tb_X5_read_55 (C0 : zCx p s m meth c args RX5 cX5_read 3 (some .boolean) vs_X5_read) (hK : va_K (dC, dI) vwCl (x_ty cI cJ) s) (N : Nat) {Q : Int32 → zSt → Prop} {k_55 : Int32 → Int32 → zSt → Prop} (hk_55 : ∀ (x1 : Int32) (x2 : Int32) (σ : zSt) (H : Heap) (locs : List Loc) (ls : Array Slot), k_55 x1 x2 σ → va_P (dC, dI) vwCl (x_W ad cI cJ σ) H → va_D (zAW x_n ad s.heap.size) (x_W ad cI cJ σ) → va_S (zAW x_n ad s.heap.size) s.heap H locs → lv_has ls 3 [(0, .ref (ad 5)), (1, .int x1), (2, .int x2)] → W p l e rm_X5_read s m args below meth c H locs 0 0 (MQ below (zQi (dC, dI) (x_ty cI cJ) (x_W ad cI cJ) (zAW x_n ad s.heap.size) Q) args s 0 0 (zAW x_n ad s.heap.size)) (F0 m 55 ls [])) : ∀ (x1 : Int32) (x2 : Int32) (σ : zSt) (H : Heap) (locs : List Loc) (ls : Array Slot), b_X5_read_55 N k_55 Q x1 x2 σ → va_P (dC, dI) vwCl (x_W ad cI cJ σ) H → va_D (zAW x_n ad s.heap.size) (x_W ad cI cJ σ) → va_S (zAW x_n ad s.heap.size) s.heap H locs → lv_has ls 3 [(0, .ref (ad 5)), (1, .int x1), (2, .int x2)] → W p l e rm_X5_read s m args below meth c H locs 0 0 (MQ below (zQi (dC, dI) (x_ty cI cJ) (x_W ad cI cJ) (zAW x_n ad s.heap.size) Q) args s 0 0 (zAW x_n ad s.heap.size)) (F0 m 55 ls []) := by
  obtain ⟨hx, hb, hml, hr, hown, hts, hlocks⟩ := id C0
  intro x1 x2 σ H locs ls h hP hD hS hl
  unfold b_X5_read_55 at h
  refine lv_iload_n hx hb dX5_read_55 rfl (lv_at hl 2 rfl) ?_
  refine lv_sipush (v := (800 : Int32)) hx hb dX5_read_56 (by decide) ?_
  refine lv_icmp_ge (tgt := 207) hx hb dX5_read_59 (by decide) (fun hc => ?_) (fun hc => ?_)
  · have h := h.1 hc
    refine lv_iload_n hx hb dX5_read_207 rfl (lv_at hl 1 rfl) ?_
    exact zret_z hx hb hr hlocks hK hP hD hS h.1 h.2 dX5_read_208
  · have h := h.2 hc
    refine lv_iload_n hx hb dX5_read_62 rfl (lv_at hl 1 rfl) ?_
    refine lv_if_eq (tgt := 207) hx hb dX5_read_63 (by decide) (fun hc => ?_) (fun hc => ?_)
    · have h := h.1 hc
      refine lv_iload_n hx hb dX5_read_207 rfl (lv_at hl 1 rfl) ?_
      exact zret_z hx hb hr hlocks hK hP hD hS h.1 h.2 dX5_read_208
    · have h := h.2 hc
      refine lv_aload_n hx hb dX5_read_66 rfl (lv_at hl 0 rfl) ?_
      refine xg_5_9 hx hb hts hown hK hP mw_187 dX5_read_67 ?_
      refine lv_if_eq (tgt := 207) hx hb dX5_read_70 (by decide) (fun hc => ?_) (fun hc => ?_)
      · have h := h.1 hc
        refine lv_iload_n hx hb dX5_read_207 rfl (lv_at hl 1 rfl) ?_
        exact zret_z hx hb hr hlocks hK hP hD hS h.1 h.2 dX5_read_208
      · have h := h.2 hc
        refine lv_aload_n hx hb dX5_read_73 rfl (lv_at hl 0 rfl) ?_
        refine xg_5_13 hx hb hts hown hK hP mw_191 dX5_read_74 ?_
        refine lv_topi (fun v1 ev1 => ?_)
        have h := h v1 ev1
        by_cases hc0 : v1 = (0 : Int32)
        · have h := h.1 hc0
          refine lv_tableIn (off := 43) (tgt := 120) hx hb dX5_read_77 (by rw [hc0]; decide) (by rw [hc0]; decide) (by rw [hc0]; rfl) (by decide) ?_
          refine lv_aload_n hx hb dX5_read_120 rfl (lv_at hl 0 rfl) ?_
          refine k_X5_readWho N ⟨hx, hb, hml, hown, hts⟩ mw_366 ⟨Nat.le_of_ble_eq_true rfl, Nat.le_of_ble_eq_true rfl⟩ h hK hP hD hS hl.1 (rest := []) (Nat.le_of_ble_eq_true rfl) ⟨Nat.le_of_ble_eq_true rfl, Nat.le_of_ble_eq_true rfl⟩ dX5_read_121 (fun r2 τ3 H locs h hP hD hS => ?_)
          refine lv_istore_n (lv' := [(1, .int r2), (0, .ref (ad 5)), (2, .int x2)]) hx hb dX5_read_124 rfl hl (by decide) rfl (fun ls hl => ?_)
          refine lv_goto (tgt := 172) hx hb dX5_read_125 (by decide) ?_
          exact t_X5_read_172 C0 hK N hk_55 r2 x2 τ3 _ _ _ h hP hD hS (lv_sub hl [1, 0, 2] rfl)
        · have hn0 := hc0
          have h := h.2 hc0
          by_cases hc1 : v1 = (1 : Int32)
          · have h := h.1 hc1
            refine lv_tableIn (off := 85) (tgt := 162) hx hb dX5_read_77 (by rw [hc1]; decide) (by rw [hc1]; decide) (by rw [hc1]; rfl) (by decide) ?_
            refine lv_aload_n hx hb dX5_read_162 rfl (lv_at hl 0 rfl) ?_
            refine lv_iconst (v := (1 : Int32)) hx hb dX5_read_163 (by decide) ?_
            refine lv_aload_n hx hb dX5_read_164 rfl (lv_at hl 0 rfl) ?_
            refine xg_5_10 hx hb hts hown hK hP mw_188 dX5_read_165 ?_
            refine k_X5_fail N ⟨hx, hb, hml, hown, hts⟩ mw_369 ⟨Nat.le_of_ble_eq_true rfl, Nat.le_of_ble_eq_true rfl⟩ h hK hP hD hS hl.1 (rest := []) (Nat.le_of_ble_eq_true rfl) ⟨Nat.le_of_ble_eq_true rfl, Nat.le_of_ble_eq_true rfl⟩ dX5_read_168 (fun r4 τ5 H locs h hP hD hS => ?_)
            refine lv_istore_n (lv' := [(1, .int r4), (0, .ref (ad 5)), (2, .int x2)]) hx hb dX5_read_171 rfl hl (by decide) rfl (fun ls hl => ?_)
            exact t_X5_read_172 C0 hK N hk_55 r4 x2 τ5 _ _ _ h hP hD hS (lv_sub hl [1, 0, 2] rfl)
          · have hn1 := hc1
            have h := h.2 hc1
            by_cases hc2 : v1 = (2 : Int32)
            · have h := h.1 hc2
              refine lv_tableIn (off := 51) (tgt := 128) hx hb dX5_read_77 (by rw [hc2]; decide) (by rw [hc2]; decide) (by rw [hc2]; rfl) (by decide) ?_
              refine lv_aload_n hx hb dX5_read_128 rfl (lv_at hl 0 rfl) ?_
              refine lv_iconst (v := (0 : Int32)) hx hb dX5_read_129 (by decide) ?_
              refine k_X5_readRule N ⟨hx, hb, hml, hown, hts⟩ mw_390 ⟨Nat.le_of_ble_eq_true rfl, Nat.le_of_ble_eq_true rfl⟩ h hK hP hD hS hl.1 (rest := []) (Nat.le_of_ble_eq_true rfl) ⟨Nat.le_of_ble_eq_true rfl, Nat.le_of_ble_eq_true rfl⟩ dX5_read_130 (fun r6 τ7 H locs h hP hD hS => ?_)
              refine lv_istore_n (lv' := [(1, .int r6), (0, .ref (ad 5)), (2, .int x2)]) hx hb dX5_read_133 rfl hl (by decide) rfl (fun ls hl => ?_)
              refine lv_goto (tgt := 172) hx hb dX5_read_134 (by decide) ?_
              exact t_X5_read_172 C0 hK N hk_55 r6 x2 τ7 _ _ _ h hP hD hS (lv_sub hl [1, 0, 2] rfl)
            · have hn2 := hc2
              have h := h.2 hc2
              by_cases hc3 : v1 = (3 : Int32)
              · have h := h.1 hc3
                refine lv_tableIn (off := 85) (tgt := 162) hx hb dX5_read_77 (by rw [hc3]; decide) (by rw [hc3]; decide) (by rw [hc3]; rfl) (by decide) ?_
                refine lv_aload_n hx hb dX5_read_162 rfl (lv_at hl 0 rfl) ?_
                refine lv_iconst (v := (1 : Int32)) hx hb dX5_read_163 (by decide) ?_
                refine lv_aload_n hx hb dX5_read_164 rfl (lv_at hl 0 rfl) ?_
                refine xg_5_10 hx hb hts hown hK hP mw_188 dX5_read_165 ?_
                refine k_X5_fail N ⟨hx, hb, hml, hown, hts⟩ mw_369 ⟨Nat.le_of_ble_eq_true rfl, Nat.le_of_ble_eq_true rfl⟩ h hK hP hD hS hl.1 (rest := []) (Nat.le_of_ble_eq_true rfl) ⟨Nat.le_of_ble_eq_true rfl, Nat.le_of_ble_eq_true rfl⟩ dX5_read_168 (fun r8 τ9 H locs h hP hD hS => ?_)
                refine lv_istore_n (lv' := [(1, .int r8), (0, .ref (ad 5)), (2, .int x2)]) hx hb dX5_read_171 rfl hl (by decide) rfl (fun ls hl => ?_)
                exact t_X5_read_172 C0 hK N hk_55 r8 x2 τ9 _ _ _ h hP hD hS (lv_sub hl [1, 0, 2] rfl)
              · have hn3 := hc3
                have h := h.2 hc3
                by_cases hc4 : v1 = (4 : Int32)
                · have h := h.1 hc4
                  refine lv_tableIn (off := 60) (tgt := 137) hx hb dX5_read_77 (by rw [hc4]; decide) (by rw [hc4]; decide) (by rw [hc4]; rfl) (by decide) ?_
                  refine lv_aload_n hx hb dX5_read_137 rfl (lv_at hl 0 rfl) ?_
                  refine lv_iconst (v := (1 : Int32)) hx hb dX5_read_138 (by decide) ?_
                  refine k_X5_readRule N ⟨hx, hb, hml, hown, hts⟩ mw_390 ⟨Nat.le_of_ble_eq_true rfl, Nat.le_of_ble_eq_true rfl⟩ h hK hP hD hS hl.1 (rest := []) (Nat.le_of_ble_eq_true rfl) ⟨Nat.le_of_ble_eq_true rfl, Nat.le_of_ble_eq_true rfl⟩ dX5_read_139 (fun r10 τ11 H locs h hP hD hS => ?_)
                  refine lv_istore_n (lv' := [(1, .int r10), (0, .ref (ad 5)), (2, .int x2)]) hx hb dX5_read_142 rfl hl (by decide) rfl (fun ls hl => ?_)
                  refine lv_goto (tgt := 172) hx hb dX5_read_143 (by decide) ?_
                  exact t_X5_read_172 C0 hK N hk_55 r10 x2 τ11 _ _ _ h hP hD hS (lv_sub hl [1, 0, 2] rfl)
                · have hn4 := hc4
                  have h := h.2 hc4
                  by_cases hc5 : v1 = (5 : Int32)
                  · have h := h.1 hc5
                    refine lv_tableIn (off := 69) (tgt := 146) hx hb dX5_read_77 (by rw [hc5]; decide) (by rw [hc5]; decide) (by rw [hc5]; rfl) (by decide) ?_
                    refine lv_aload_n hx hb dX5_read_146 rfl (lv_at hl 0 rfl) ?_
                    refine k_X5_readBar N ⟨hx, hb, hml, hown, hts⟩ mw_438 ⟨Nat.le_of_ble_eq_true rfl, Nat.le_of_ble_eq_true rfl⟩ h hK hP hD hS hl.1 (rest := []) (Nat.le_of_ble_eq_true rfl) ⟨Nat.le_of_ble_eq_true rfl, Nat.le_of_ble_eq_true rfl⟩ dX5_read_147 (fun r12 τ13 H locs h hP hD hS => ?_)
                    refine lv_istore_n (lv' := [(1, .int r12), (0, .ref (ad 5)), (2, .int x2)]) hx hb dX5_read_150 rfl hl (by decide) rfl (fun ls hl => ?_)
                    refine lv_goto (tgt := 172) hx hb dX5_read_151 (by decide) ?_
                    exact t_X5_read_172 C0 hK N hk_55 r12 x2 τ13 _ _ _ h hP hD hS (lv_sub hl [1, 0, 2] rfl)
                  · have hn5 := hc5
                    have h := h.2 hc5
                    by_cases hc6 : v1 = (6 : Int32)
                    · have h := h.1 hc6
                      refine lv_tableIn (off := 77) (tgt := 154) hx hb dX5_read_77 (by rw [hc6]; decide) (by rw [hc6]; decide) (by rw [hc6]; rfl) (by decide) ?_
                      refine lv_aload_n hx hb dX5_read_154 rfl (lv_at hl 0 rfl) ?_
                      refine k_X5_readMost N ⟨hx, hb, hml, hown, hts⟩ mw_450 ⟨Nat.le_of_ble_eq_true rfl, Nat.le_of_ble_eq_true rfl⟩ h hK hP hD hS hl.1 (rest := []) (Nat.le_of_ble_eq_true rfl) ⟨Nat.le_of_ble_eq_true rfl, Nat.le_of_ble_eq_true rfl⟩ dX5_read_155 (fun r14 τ15 H locs h hP hD hS => ?_)
                      refine lv_istore_n (lv' := [(1, .int r14), (0, .ref (ad 5)), (2, .int x2)]) hx hb dX5_read_158 rfl hl (by decide) rfl (fun ls hl => ?_)
                      refine lv_goto (tgt := 172) hx hb dX5_read_159 (by decide) ?_
                      exact t_X5_read_172 C0 hK N hk_55 r14 x2 τ15 _ _ _ h hP hD hS (lv_sub hl [1, 0, 2] rfl)
                    · have hn6 := hc6
                      have h := h.2 hc6
                      refine lv_tableOut (tgt := 162) hx hb dX5_read_77 (by have e0 := zne (k := 0) (by decide) hn0; have e1 := zne (k := 1) (by decide) hn1; have e2 := zne (k := 2) (by decide) hn2; have e3 := zne (k := 3) (by decide) hn3; have e4 := zne (k := 4) (by decide) hn4; have e5 := zne (k := 5) (by decide) hn5; have e6 := zne (k := 6) (by decide) hn6; omega) (by decide) ?_
                      refine lv_aload_n hx hb dX5_read_162 rfl (lv_at hl 0 rfl) ?_
                      refine lv_iconst (v := (1 : Int32)) hx hb dX5_read_163 (by decide) ?_
                      refine lv_aload_n hx hb dX5_read_164 rfl (lv_at hl 0 rfl) ?_
                      refine xg_5_10 hx hb hts hown hK hP mw_188 dX5_read_165 ?_
                      refine k_X5_fail N ⟨hx, hb, hml, hown, hts⟩ mw_369 ⟨Nat.le_of_ble_eq_true rfl, Nat.le_of_ble_eq_true rfl⟩ h hK hP hD hS hl.1 (rest := []) (Nat.le_of_ble_eq_true rfl) ⟨Nat.le_of_ble_eq_true rfl, Nat.le_of_ble_eq_true rfl⟩ dX5_read_168 (fun r16 τ17 H locs h hP hD hS => ?_)
                      refine lv_istore_n (lv' := [(1, .int r16), (0, .ref (ad 5)), (2, .int x2)]) hx hb dX5_read_171 rfl hl (by decide) rfl (fun ls hl => ?_)
                      exact t_X5_read_172 C0 hK N hk_55 r16 x2 τ17 _ _ _ h hP hD hS (lv_sub hl [1, 0, 2] rfl)
set_option maxHeartbeats 4000000 in
set_option maxRecDepth 100000 in
theorem t_X5_read_55 (C0 : zCx p s m meth c args RX5 cX5_read 3 (some .boolean) vs_X5_read) (hK : va_K (dC, dI) vwCl (x_ty cI cJ) s) (N : Nat) {Q : Int32 → zSt → Prop} : ∀ (f : Nat) (x1 : Int32) (x2 : Int32) (σ : zSt) (H : Heap) (locs : List Loc) (ls : Array Slot), w_X5_read_55 N  Q f x1 x2 σ → va_P (dC, dI) vwCl (x_W ad cI cJ σ) H → va_D (zAW x_n ad s.heap.size) (x_W ad cI cJ σ) → va_S (zAW x_n ad s.heap.size) s.heap H locs → lv_has ls 3 [(0, .ref (ad 5)), (1, .int x1), (2, .int x2)] → W p l e rm_X5_read s m args below meth c H locs 0 0 (MQ below (zQi (dC, dI) (x_ty cI cJ) (x_W ad cI cJ) (zAW x_n ad s.heap.size) Q) args s 0 0 (zAW x_n ad s.heap.size)) (F0 m 55 ls []) := by
  intro f
  induction f with
  | zero => intro x1 x2 σ H locs ls h; exact h.elim
  | succ f ih =>
    intro x1 x2 σ H locs ls h hP hD hS hl
    exact tb_X5_read_55 C0 hK N  (k_55 := w_X5_read_55 N  Q f) ih x1 x2 σ H locs ls h hP hD hS hl
set_option maxHeartbeats 4000000 in
set_option maxRecDepth 100000 in
theorem t_X5_read_0 (C0 : zCx p s m meth c args RX5 cX5_read 3 (some .boolean) vs_X5_read) (hK : va_K (dC, dI) vwCl (x_ty cI cJ) s) (N : Nat) {Q : Int32 → zSt → Prop} : ∀  (σ : zSt) (H : Heap) (locs : List Loc) (ls : Array Slot), w_X5_read N  σ Q → va_P (dC, dI) vwCl (x_W ad cI cJ σ) H → va_D (zAW x_n ad s.heap.size) (x_W ad cI cJ σ) → va_S (zAW x_n ad s.heap.size) s.heap H locs → lv_has ls 3 [(0, .ref (ad 5))] → W p l e rm_X5_read s m args below meth c H locs 0 0 (MQ below (zQi (dC, dI) (x_ty cI cJ) (x_W ad cI cJ) (zAW x_n ad s.heap.size) Q) args s 0 0 (zAW x_n ad s.heap.size)) (F0 m 0 ls []) := by
  obtain ⟨hx, hb, hml, hr, hown, hts, hlocks⟩ := id C0
  intro  σ H locs ls h hP hD hS hl
  unfold w_X5_read at h
  refine lv_aload_n hx hb dX5_read_0 rfl (lv_at hl 0 rfl) ?_
  refine xg_5_1 hx hb hts hown hK hP mw_174 dX5_read_1 ?_
  refine k_X4_clear N ⟨hx, hb, hml, hown, hts⟩ mw_326 ⟨Nat.le_of_ble_eq_true rfl, Nat.le_of_ble_eq_true rfl⟩ h hK hP hD hS hl.1 (rest := []) (Nat.le_of_ble_eq_true rfl) ⟨Nat.le_of_ble_eq_true rfl, Nat.le_of_ble_eq_true rfl⟩ dX5_read_4 (fun τ2 H locs h hP hD hS => ?_)
  refine lv_aload_n hx hb dX5_read_7 rfl (lv_at hl 0 rfl) ?_
  refine xg_5_2 hx hb hts hown hK hP mw_176 dX5_read_8 ?_
  refine k_X6_clear N ⟨hx, hb, hml, hown, hts⟩ mw_330 ⟨Nat.le_of_ble_eq_true rfl, Nat.le_of_ble_eq_true rfl⟩ h hK hP hD hS hl.1 (rest := []) (Nat.le_of_ble_eq_true rfl) ⟨Nat.le_of_ble_eq_true rfl, Nat.le_of_ble_eq_true rfl⟩ dX5_read_11 (fun τ4 H locs h hP hD hS => ?_)
  refine lv_aload_n hx hb dX5_read_14 rfl (lv_at hl 0 rfl) ?_
  refine lv_iconst (v := (0 : Int32)) hx hb dX5_read_15 (by decide) ?_
  refine xp_5_4 hx hb hts hown hK hP hD hS mw_179 dX5_read_16 (fun τ5 H locs eτ5 hP hD hS => ?_)
  have h := h τ5 eτ5
  refine lv_aload_n hx hb dX5_read_19 rfl (lv_at hl 0 rfl) ?_
  refine lv_iconst (v := (0 : Int32)) hx hb dX5_read_20 (by decide) ?_
  refine xp_5_5 hx hb hts hown hK hP hD hS mw_181 dX5_read_21 (fun τ6 H locs eτ6 hP hD hS => ?_)
  have h := h τ6 eτ6
  refine lv_aload_n hx hb dX5_read_24 rfl (lv_at hl 0 rfl) ?_
  refine lv_iconst (v := (-1 : Int32)) hx hb dX5_read_25 (by decide) ?_
  refine xp_5_6 hx hb hts hown hK hP hD hS mw_183 dX5_read_26 (fun τ7 H locs eτ7 hP hD hS => ?_)
  have h := h τ7 eτ7
  refine lv_aload_n hx hb dX5_read_29 rfl (lv_at hl 0 rfl) ?_
  refine lv_iconst (v := (0 : Int32)) hx hb dX5_read_30 (by decide) ?_
  refine xp_5_8 hx hb hts hown hK hP hD hS mw_186 dX5_read_31 (fun τ8 H locs eτ8 hP hD hS => ?_)
  have h := h τ8 eτ8
  refine lv_aload_n hx hb dX5_read_34 rfl (lv_at hl 0 rfl) ?_
  refine xg_5_0 hx hb hts hown hK hP mw_173 dX5_read_35 ?_
  refine k_X8_cut N ⟨hx, hb, hml, hown, hts⟩ mw_334 ⟨Nat.le_of_ble_eq_true rfl, Nat.le_of_ble_eq_true rfl⟩ h hK hP hD hS hl.1 (rest := []) (Nat.le_of_ble_eq_true rfl) ⟨Nat.le_of_ble_eq_true rfl, Nat.le_of_ble_eq_true rfl⟩ dX5_read_38 (fun τ10 H locs h hP hD hS => ?_)
  refine lv_aload_n hx hb dX5_read_41 rfl (lv_at hl 0 rfl) ?_
  refine lv_iconst (v := (-1 : Int32)) hx hb dX5_read_42 (by decide) ?_
  refine xp_5_7 hx hb hts hown hK hP hD hS mw_185 dX5_read_43 (fun τ11 H locs eτ11 hP hD hS => ?_)
  have h := h τ11 eτ11
  refine lv_aload_n hx hb dX5_read_46 rfl (lv_at hl 0 rfl) ?_
  refine k_X5_take N ⟨hx, hb, hml, hown, hts⟩ mw_363 ⟨Nat.le_of_ble_eq_true rfl, Nat.le_of_ble_eq_true rfl⟩ h hK hP hD hS hl.1 (rest := []) (Nat.le_of_ble_eq_true rfl) ⟨Nat.le_of_ble_eq_true rfl, Nat.le_of_ble_eq_true rfl⟩ dX5_read_47 (fun r12 τ13 H locs h hP hD hS => ?_)
  refine lv_pop hx hb dX5_read_50 rfl ?_
  refine lv_iconst (v := (1 : Int32)) hx hb dX5_read_51 (by decide) ?_
  refine lv_istore_n (lv' := [(1, .int (1 : Int32)), (0, .ref (ad 5))]) hx hb dX5_read_52 rfl hl (by decide) rfl (fun ls hl => ?_)
  refine lv_iconst (v := (0 : Int32)) hx hb dX5_read_53 (by decide) ?_
  refine lv_istore_n (lv' := [(2, .int (0 : Int32)), (1, .int (1 : Int32)), (0, .ref (ad 5))]) hx hb dX5_read_54 rfl hl (by decide) rfl (fun ls hl => ?_)
  exact t_X5_read_55 C0 hK N  N (1 : Int32) (0 : Int32) τ13 _ _ _ h hP hD hS (lv_sub hl [2, 1, 0] rfl)
set_option maxHeartbeats 4000000 in
set_option maxRecDepth 100000 in
theorem c_X5_read (N : Nat) (l : Launch) (dC : Nat → ClassId) (dI : Nat → Nat → Nat) (ad : Nat → Nat) (cI cJ : ClassId) (sz : Nat) (σ : zSt)  (Q : Int32 → zSt → Prop) (h : w_X5_read N  σ Q) : Met l yX5_read vs_X5_read rm_X5_read (va_Pc [.ref (ad 5)] (zPc (dC, dI) (x_ty cI cJ) (x_W ad cI cJ) sz σ)) (zQi (dC, dI) (x_ty cI cJ) (x_W ad cI cJ) (zAW x_n ad sz) Q) 0 0 (zAW x_n ad sz) := by
  refine Met.ofW (cc := cX5_read) (maxL := 3) (ret := (some .boolean)) (by decide) rfl ?_
  intro p e s m args below meth c s₁ B hml hv
  obtain ⟨rfl, hsz, hP, hK, hD0⟩ := hv
  subst hsz
  have C0 : zCx p s m meth c _ RX5 cX5_read 3 (some .boolean) vs_X5_read := ⟨B.exec, B.bytes, hml, B.returns, findClass_of_methodNamed B.named, atoms_spec (ws := vs_X5_read) B.pre, B.notSynchronized⟩
  have hD := x_D0 (n0 := s.heap.size) hD0
  have hl := lv_entry ([.ref (ad 5)]) (n := 3) (Nat.le_of_ble_eq_true rfl)
  rw [lg_entry_eq]
  generalize (lg_sl ([.ref (ad 5)]) ++ List.replicate (3 - (lg_sl ([.ref (ad 5)])).length) Slot.unset).toArray = ls at hl ⊢
  exact t_X5_read_0 C0 hK N  σ _ _ ls h hP hD va_S.rf hl
theorem k_X5_read (N : Nat) {R : Room} {H : Heap} {locs : List Loc} {cells slots : Nat} {Q2 : State → Prop} {cc : ByteArray} {nL pc index : Nat} {ls : Array Slot} {rest : List Value} {own : String} {c0 : Cond} {σ : zSt}  {Q : Int32 → zSt → Prop} (S0 : CallFix p m c cc nL s args (c0 :: zT) own) (hml : Cond.methodLink own index yX5_read ∈ zT) (hR : rm_X5_read.frames + 1 ≤ R.frames ∧ 8 + (3 + 11) + rm_X5_read.locals ≤ R.locals) (h : w_X5_read N  σ Q) (hK : va_K (dC, dI) vwCl (x_ty cI cJ) s) (hP : va_P (dC, dI) vwCl (x_W ad cI cJ σ) H) (hD : va_D (zAW x_n ad s.heap.size) (x_W ad cI cJ σ)) (hS : va_S (zAW x_n ad s.heap.size) s.heap H locs) (hsz : ls.size = nL) (hW : (rest.map fun v => v.category).sum ≤ 8) (hcs : cells ≤ R.cells ∧ slots ≤ R.slots) (hdg : decode cc pc = .ok (.invokevirtual index, 3)) (kk : ∀ (r : Int32) (τ : zSt) (H1 : Heap) (locs1 : List Loc), Q r τ → va_P (dC, dI) vwCl (x_W ad cI cJ τ) H1 → va_D (zAW x_n ad s.heap.size) (x_W ad cI cJ τ) → va_S (zAW x_n ad s.heap.size) s.heap H1 locs1 → W p l e R s m args below meth c H1 locs1 cells slots Q2 (F0 m (pc + 3) ls (.int r :: rest))) : W p l e R s m args below meth c H locs cells slots Q2 (F0 m pc ls (.ref (ad 5) :: rest)) :=
  zcv_i (T := TX5) (N' := 14) (k := 5) (ci := 5) (fs := x_f5 ad σ) [] S0 (c_X5_read N l dC dI ad cI cJ H.size σ  Q h) (cw_X5_read S0.2.2.2.2 hml rfl rfl hR) rfl rfl hK hP hD hS rfl hsz hW rfl hcs hdg kk
end q03
section q03
def w_X4_copy (N : Nat)  (σ : zSt) (Q : zSt → Prop) : Prop :=
  ∀ τ1 : zSt, τ1 = zI σ 1 (σ.1 17) → ∀ τ2 : zSt, τ2 = zI τ1 2 (τ1.1 18) → ∀ τ3 : zSt, τ3 = zI τ2 3 (τ2.1 19) → ∀ τ4 : zSt, τ4 = zJ τ3 2 (τ3.2.1 3) → ∀ τ5 : zSt, τ5 = zA τ4 5 (va_cpy (τ4.2.2.1 15) (τ4.2.2.1 5) 0 0 10) → ∀ τ6 : zSt, τ6 = zA τ5 6 (va_cpy (τ5.2.2.1 16) (τ5.2.2.1 6) 0 0 10) → ∀ τ7 : zSt, τ7 = zA τ6 7 (va_cpy (τ6.2.2.1 17) (τ6.2.2.1 7) 0 0 10) → Q τ7
variable {p : Program} {l : Launch} {e : Env} {s : State} {m : MethodId} {args : Array Value} {below : List Frame} {meth : Method} {c : Code} {dC : Nat → ClassId} {dI : Nat → Nat → Nat} {ad : Nat → Nat} {cI cJ : ClassId}
set_option maxHeartbeats 4000000 in
set_option maxRecDepth 100000 in
theorem t_X4_copy_0 (C0 : zCx p s m meth c args RX4 cX4_copy 2 none vs_X4_copy) (hK : va_K (dC, dI) vwCl (x_ty cI cJ) s) (N : Nat) {Q : zSt → Prop} : ∀  (σ : zSt) (H : Heap) (locs : List Loc) (ls : Array Slot), w_X4_copy N  σ Q → va_P (dC, dI) vwCl (x_W ad cI cJ σ) H → va_D (zAW x_n ad s.heap.size) (x_W ad cI cJ σ) → va_S (zAW x_n ad s.heap.size) s.heap H locs → lv_has ls 2 [(0, .ref (ad 3)), (1, .ref (ad 6))] → W p l e rm_X4_copy s m args below meth c H locs 0 0 (MQ below (zQv (dC, dI) (x_ty cI cJ) (x_W ad cI cJ) (zAW x_n ad s.heap.size) Q) args s 0 0 (zAW x_n ad s.heap.size)) (F0 m 0 ls []) := by
  obtain ⟨hx, hb, hml, hr, hown, hts, hlocks⟩ := id C0
  intro  σ H locs ls h hP hD hS hl
  unfold w_X4_copy at h
  refine lv_aload_n hx hb dX4_copy_0 rfl (lv_at hl 0 rfl) ?_
  refine lv_aload_n hx hb dX4_copy_1 rfl (lv_at hl 1 rfl) ?_
  refine xg_6_4 hx hb hts hown hK hP mw_73 dX4_copy_2 ?_
  refine xp_3_4 hx hb hts hown hK hP hD hS mw_73 dX4_copy_5 (fun τ1 H locs eτ1 hP hD hS => ?_)
  have h := h τ1 eτ1
  refine lv_aload_n hx hb dX4_copy_8 rfl (lv_at hl 0 rfl) ?_
  refine lv_aload_n hx hb dX4_copy_9 rfl (lv_at hl 1 rfl) ?_
  refine xg_6_5 hx hb hts hown hK hP mw_78 dX4_copy_10 ?_
  refine xp_3_5 hx hb hts hown hK hP hD hS mw_78 dX4_copy_13 (fun τ2 H locs eτ2 hP hD hS => ?_)
  have h := h τ2 eτ2
  refine lv_aload_n hx hb dX4_copy_16 rfl (lv_at hl 0 rfl) ?_
  refine lv_aload_n hx hb dX4_copy_17 rfl (lv_at hl 1 rfl) ?_
  refine xg_6_6 hx hb hts hown hK hP mw_83 dX4_copy_18 ?_
  refine xp_3_6 hx hb hts hown hK hP hD hS mw_83 dX4_copy_21 (fun τ3 H locs eτ3 hP hD hS => ?_)
  have h := h τ3 eτ3
  refine lv_aload_n hx hb dX4_copy_24 rfl (lv_at hl 0 rfl) ?_
  refine lv_aload_n hx hb dX4_copy_25 rfl (lv_at hl 1 rfl) ?_
  refine xg_6_7 hx hb hts hown hK hP mw_85 dX4_copy_26 ?_
  refine xp_3_7 hx hb hts hown hK hP hD hS mw_85 dX4_copy_29 (fun τ4 H locs eτ4 hP hD hS => ?_)
  have h := h τ4 eτ4
  refine lv_aload_n hx hb dX4_copy_32 rfl (lv_at hl 1 rfl) ?_
  refine xg_6_1 hx hb hts hown hK hP mw_67 dX4_copy_33 ?_
  refine lv_iconst (v := (0 : Int32)) hx hb dX4_copy_36 (by decide) ?_
  refine lv_aload_n hx hb dX4_copy_37 rfl (lv_at hl 0 rfl) ?_
  refine xg_3_1 hx hb hts hown hK hP mw_67 dX4_copy_38 ?_
  refine lv_iconst (v := (0 : Int32)) hx hb dX4_copy_41 (by decide) ?_
  refine lv_aload_n hx hb dX4_copy_42 rfl (lv_at hl 0 rfl) ?_
  refine xg_3_1 hx hb hts hown hK hP mw_67 dX4_copy_43 ?_
  refine xl_23 hx hb hK hP dX4_copy_46 ?_
  refine zcopy_x_34_23 hx hb (hml.trans hl.1.symm) hown (hts _ (List.mem_cons_of_mem _ mw_461)) (hts _ (List.mem_cons_of_mem _ mw_463)) (hts _ (List.mem_cons_of_mem _ mw_462)) (hts _ (List.mem_cons_of_mem _ mw_20)) hK hP hD hS (Nat.le_of_ble_eq_true rfl) (Nat.le_of_ble_eq_true rfl) dX4_copy_47 (fun τ5 H locs eτ5 hP hD hS => ?_)
  have h := h τ5 eτ5
  refine lv_aload_n hx hb dX4_copy_50 rfl (lv_at hl 1 rfl) ?_
  refine xg_6_2 hx hb hts hown hK hP mw_69 dX4_copy_51 ?_
  refine lv_iconst (v := (0 : Int32)) hx hb dX4_copy_54 (by decide) ?_
  refine lv_aload_n hx hb dX4_copy_55 rfl (lv_at hl 0 rfl) ?_
  refine xg_3_2 hx hb hts hown hK hP mw_69 dX4_copy_56 ?_
  refine lv_iconst (v := (0 : Int32)) hx hb dX4_copy_59 (by decide) ?_
  refine lv_aload_n hx hb dX4_copy_60 rfl (lv_at hl 0 rfl) ?_
  refine xg_3_2 hx hb hts hown hK hP mw_69 dX4_copy_61 ?_
  refine xl_24 hx hb hK hP dX4_copy_64 ?_
  refine zcopy_x_35_24 hx hb (hml.trans hl.1.symm) hown (hts _ (List.mem_cons_of_mem _ mw_461)) (hts _ (List.mem_cons_of_mem _ mw_463)) (hts _ (List.mem_cons_of_mem _ mw_462)) (hts _ (List.mem_cons_of_mem _ mw_20)) hK hP hD hS (Nat.le_of_ble_eq_true rfl) (Nat.le_of_ble_eq_true rfl) dX4_copy_65 (fun τ6 H locs eτ6 hP hD hS => ?_)
  have h := h τ6 eτ6
  refine lv_aload_n hx hb dX4_copy_68 rfl (lv_at hl 1 rfl) ?_
  refine xg_6_3 hx hb hts hown hK hP mw_71 dX4_copy_69 ?_
  refine lv_iconst (v := (0 : Int32)) hx hb dX4_copy_72 (by decide) ?_
  refine lv_aload_n hx hb dX4_copy_73 rfl (lv_at hl 0 rfl) ?_
  refine xg_3_3 hx hb hts hown hK hP mw_71 dX4_copy_74 ?_
  refine lv_iconst (v := (0 : Int32)) hx hb dX4_copy_77 (by decide) ?_
  refine lv_aload_n hx hb dX4_copy_78 rfl (lv_at hl 0 rfl) ?_
  refine xg_3_3 hx hb hts hown hK hP mw_71 dX4_copy_79 ?_
  refine xl_25 hx hb hK hP dX4_copy_82 ?_
  refine zcopy_x_36_25 hx hb (hml.trans hl.1.symm) hown (hts _ (List.mem_cons_of_mem _ mw_461)) (hts _ (List.mem_cons_of_mem _ mw_463)) (hts _ (List.mem_cons_of_mem _ mw_462)) (hts _ (List.mem_cons_of_mem _ mw_20)) hK hP hD hS (Nat.le_of_ble_eq_true rfl) (Nat.le_of_ble_eq_true rfl) dX4_copy_83 (fun τ7 H locs eτ7 hP hD hS => ?_)
  have h := h τ7 eτ7
  exact zret_v hx hb hr hlocks hK hP hD hS h dX4_copy_86
set_option maxHeartbeats 4000000 in
set_option maxRecDepth 100000 in
theorem c_X4_copy (N : Nat) (l : Launch) (dC : Nat → ClassId) (dI : Nat → Nat → Nat) (ad : Nat → Nat) (cI cJ : ClassId) (sz : Nat) (σ : zSt)  (Q : zSt → Prop) (h : w_X4_copy N  σ Q) : Met l yX4_copy vs_X4_copy rm_X4_copy (va_Pc [.ref (ad 3), .ref (ad 6)] (zPc (dC, dI) (x_ty cI cJ) (x_W ad cI cJ) sz σ)) (zQv (dC, dI) (x_ty cI cJ) (x_W ad cI cJ) (zAW x_n ad sz) Q) 0 0 (zAW x_n ad sz) := by
  refine Met.ofW (cc := cX4_copy) (maxL := 2) (ret := none) (by decide) rfl ?_
  intro p e s m args below meth c s₁ B hml hv
  obtain ⟨rfl, hsz, hP, hK, hD0⟩ := hv
  subst hsz
  have C0 : zCx p s m meth c _ RX4 cX4_copy 2 none vs_X4_copy := ⟨B.exec, B.bytes, hml, B.returns, findClass_of_methodNamed B.named, atoms_spec (ws := vs_X4_copy) B.pre, B.notSynchronized⟩
  have hD := x_D0 (n0 := s.heap.size) hD0
  have hl := lv_entry ([.ref (ad 3), .ref (ad 6)]) (n := 2) (Nat.le_of_ble_eq_true rfl)
  rw [lg_entry_eq]
  generalize (lg_sl ([.ref (ad 3), .ref (ad 6)]) ++ List.replicate (2 - (lg_sl ([.ref (ad 3), .ref (ad 6)])).length) Slot.unset).toArray = ls at hl ⊢
  exact t_X4_copy_0 C0 hK N  σ _ _ ls h hP hD va_S.rf hl
theorem k_X4_copy (N : Nat) {R : Room} {H : Heap} {locs : List Loc} {cells slots : Nat} {Q2 : State → Prop} {cc : ByteArray} {nL pc index : Nat} {ls : Array Slot} {rest : List Value} {own : String} {c0 : Cond} {σ : zSt}  {Q : zSt → Prop} (S0 : CallFix p m c cc nL s args (c0 :: zT) own) (hml : Cond.methodLink own index yX4_copy ∈ zT) (hR : rm_X4_copy.frames + 1 ≤ R.frames ∧ 8 + (2 + 11) + rm_X4_copy.locals ≤ R.locals) (h : w_X4_copy N  σ Q) (hK : va_K (dC, dI) vwCl (x_ty cI cJ) s) (hP : va_P (dC, dI) vwCl (x_W ad cI cJ σ) H) (hD : va_D (zAW x_n ad s.heap.size) (x_W ad cI cJ σ)) (hS : va_S (zAW x_n ad s.heap.size) s.heap H locs) (hsz : ls.size = nL) (hW : (rest.map fun v => v.category).sum ≤ 8) (hcs : cells ≤ R.cells ∧ slots ≤ R.slots) (hdg : decode cc pc = .ok (.invokevirtual index, 3)) (kk : ∀ (τ : zSt) (H1 : Heap) (locs1 : List Loc), Q τ → va_P (dC, dI) vwCl (x_W ad cI cJ τ) H1 → va_D (zAW x_n ad s.heap.size) (x_W ad cI cJ τ) → va_S (zAW x_n ad s.heap.size) s.heap H1 locs1 → W p l e R s m args below meth c H1 locs1 cells slots Q2 (F0 m (pc + 3) ls (rest))) : W p l e R s m args below meth c H locs cells slots Q2 (F0 m pc ls (.ref (ad 6) :: .ref (ad 3) :: rest)) :=
  zcv_v (T := TX4) (N' := 8) (k := 3) (ci := 4) (fs := x_f3 ad σ) [.ref (ad 6)] S0 (c_X4_copy N l dC dI ad cI cJ H.size σ  Q h) (cw_X4_copy S0.2.2.2.2 hml rfl rfl hR) rfl rfl hK hP hD hS rfl hsz hW rfl hcs hdg kk
end q03
section q03
def w_X6_copy (N : Nat)  (σ : zSt) (Q : zSt → Prop) : Prop :=
  ∀ τ1 : zSt, τ1 = zI σ 4 (σ.1 20) → ∀ τ2 : zSt, τ2 = zI τ1 5 (τ1.1 21) → ∀ τ3 : zSt, τ3 = zA τ2 8 (va_cpy (τ2.2.2.1 18) (τ2.2.2.1 8) 0 0 20) → ∀ τ4 : zSt, τ4 = zA τ3 9 (va_cpy (τ3.2.2.1 19) (τ3.2.2.1 9) 0 0 20) → ∀ τ5 : zSt, τ5 = zA τ4 10 (va_cpy (τ4.2.2.1 20) (τ4.2.2.1 10) 0 0 20) → ∀ τ6 : zSt, τ6 = zA τ5 11 (va_cpy (τ5.2.2.1 21) (τ5.2.2.1 11) 0 0 20) → ∀ τ7 : zSt, τ7 = zA τ6 12 (va_cpy (τ6.2.2.1 22) (τ6.2.2.1 12) 0 0 800) → Q τ7
variable {p : Program} {l : Launch} {e : Env} {s : State} {m : MethodId} {args : Array Value} {below : List Frame} {meth : Method} {c : Code} {dC : Nat → ClassId} {dI : Nat → Nat → Nat} {ad : Nat → Nat} {cI cJ : ClassId}
set_option maxHeartbeats 4000000 in
set_option maxRecDepth 100000 in
theorem t_X6_copy_0 (C0 : zCx p s m meth c args RX6 cX6_copy 2 none vs_X6_copy) (hK : va_K (dC, dI) vwCl (x_ty cI cJ) s) (N : Nat) {Q : zSt → Prop} : ∀  (σ : zSt) (H : Heap) (locs : List Loc) (ls : Array Slot), w_X6_copy N  σ Q → va_P (dC, dI) vwCl (x_W ad cI cJ σ) H → va_D (zAW x_n ad s.heap.size) (x_W ad cI cJ σ) → va_S (zAW x_n ad s.heap.size) s.heap H locs → lv_has ls 2 [(0, .ref (ad 4)), (1, .ref (ad 7))] → W p l e rm_X6_copy s m args below meth c H locs 0 0 (MQ below (zQv (dC, dI) (x_ty cI cJ) (x_W ad cI cJ) (zAW x_n ad s.heap.size) Q) args s 0 0 (zAW x_n ad s.heap.size)) (F0 m 0 ls []) := by
  obtain ⟨hx, hb, hml, hr, hown, hts, hlocks⟩ := id C0
  intro  σ H locs ls h hP hD hS hl
  unfold w_X6_copy at h
  refine lv_aload_n hx hb dX6_copy_0 rfl (lv_at hl 0 rfl) ?_
  refine lv_aload_n hx hb dX6_copy_1 rfl (lv_at hl 1 rfl) ?_
  refine xg_7_7 hx hb hts hown hK hP mw_100 dX6_copy_2 ?_
  refine xp_4_7 hx hb hts hown hK hP hD hS mw_100 dX6_copy_5 (fun τ1 H locs eτ1 hP hD hS => ?_)
  have h := h τ1 eτ1
  refine lv_aload_n hx hb dX6_copy_8 rfl (lv_at hl 0 rfl) ?_
  refine lv_aload_n hx hb dX6_copy_9 rfl (lv_at hl 1 rfl) ?_
  refine xg_7_8 hx hb hts hown hK hP mw_102 dX6_copy_10 ?_
  refine xp_4_8 hx hb hts hown hK hP hD hS mw_102 dX6_copy_13 (fun τ2 H locs eτ2 hP hD hS => ?_)
  have h := h τ2 eτ2
  refine lv_aload_n hx hb dX6_copy_16 rfl (lv_at hl 1 rfl) ?_
  refine xg_7_0 hx hb hts hown hK hP mw_92 dX6_copy_17 ?_
  refine lv_iconst (v := (0 : Int32)) hx hb dX6_copy_20 (by decide) ?_
  refine lv_aload_n hx hb dX6_copy_21 rfl (lv_at hl 0 rfl) ?_
  refine xg_4_0 hx hb hts hown hK hP mw_92 dX6_copy_22 ?_
  refine lv_iconst (v := (0 : Int32)) hx hb dX6_copy_25 (by decide) ?_
  refine lv_aload_n hx hb dX6_copy_26 rfl (lv_at hl 0 rfl) ?_
  refine xg_4_0 hx hb hts hown hK hP mw_92 dX6_copy_27 ?_
  refine xl_26 hx hb hK hP dX6_copy_30 ?_
  refine zcopy_x_37_26 hx hb (hml.trans hl.1.symm) hown (hts _ (List.mem_cons_of_mem _ mw_468)) (hts _ (List.mem_cons_of_mem _ mw_463)) (hts _ (List.mem_cons_of_mem _ mw_462)) (hts _ (List.mem_cons_of_mem _ mw_20)) hK hP hD hS (Nat.le_of_ble_eq_true rfl) (Nat.le_of_ble_eq_true rfl) dX6_copy_31 (fun τ3 H locs eτ3 hP hD hS => ?_)
  have h := h τ3 eτ3
  refine lv_aload_n hx hb dX6_copy_34 rfl (lv_at hl 1 rfl) ?_
  refine xg_7_1 hx hb hts hown hK hP mw_93 dX6_copy_35 ?_
  refine lv_iconst (v := (0 : Int32)) hx hb dX6_copy_38 (by decide) ?_
  refine lv_aload_n hx hb dX6_copy_39 rfl (lv_at hl 0 rfl) ?_
  refine xg_4_1 hx hb hts hown hK hP mw_93 dX6_copy_40 ?_
  refine lv_iconst (v := (0 : Int32)) hx hb dX6_copy_43 (by decide) ?_
  refine lv_aload_n hx hb dX6_copy_44 rfl (lv_at hl 0 rfl) ?_
  refine xg_4_1 hx hb hts hown hK hP mw_93 dX6_copy_45 ?_
  refine xl_27 hx hb hK hP dX6_copy_48 ?_
  refine zcopy_x_38_27 hx hb (hml.trans hl.1.symm) hown (hts _ (List.mem_cons_of_mem _ mw_468)) (hts _ (List.mem_cons_of_mem _ mw_463)) (hts _ (List.mem_cons_of_mem _ mw_462)) (hts _ (List.mem_cons_of_mem _ mw_20)) hK hP hD hS (Nat.le_of_ble_eq_true rfl) (Nat.le_of_ble_eq_true rfl) dX6_copy_49 (fun τ4 H locs eτ4 hP hD hS => ?_)
  have h := h τ4 eτ4
  refine lv_aload_n hx hb dX6_copy_52 rfl (lv_at hl 1 rfl) ?_
  refine xg_7_2 hx hb hts hown hK hP mw_94 dX6_copy_53 ?_
  refine lv_iconst (v := (0 : Int32)) hx hb dX6_copy_56 (by decide) ?_
  refine lv_aload_n hx hb dX6_copy_57 rfl (lv_at hl 0 rfl) ?_
  refine xg_4_2 hx hb hts hown hK hP mw_94 dX6_copy_58 ?_
  refine lv_iconst (v := (0 : Int32)) hx hb dX6_copy_61 (by decide) ?_
  refine lv_aload_n hx hb dX6_copy_62 rfl (lv_at hl 0 rfl) ?_
  refine xg_4_2 hx hb hts hown hK hP mw_94 dX6_copy_63 ?_
  refine xl_28 hx hb hK hP dX6_copy_66 ?_
  refine zcopy_x_39_28 hx hb (hml.trans hl.1.symm) hown (hts _ (List.mem_cons_of_mem _ mw_468)) (hts _ (List.mem_cons_of_mem _ mw_463)) (hts _ (List.mem_cons_of_mem _ mw_462)) (hts _ (List.mem_cons_of_mem _ mw_20)) hK hP hD hS (Nat.le_of_ble_eq_true rfl) (Nat.le_of_ble_eq_true rfl) dX6_copy_67 (fun τ5 H locs eτ5 hP hD hS => ?_)
  have h := h τ5 eτ5
  refine lv_aload_n hx hb dX6_copy_70 rfl (lv_at hl 1 rfl) ?_
  refine xg_7_3 hx hb hts hown hK hP mw_95 dX6_copy_71 ?_
  refine lv_iconst (v := (0 : Int32)) hx hb dX6_copy_74 (by decide) ?_
  refine lv_aload_n hx hb dX6_copy_75 rfl (lv_at hl 0 rfl) ?_
  refine xg_4_3 hx hb hts hown hK hP mw_95 dX6_copy_76 ?_
  refine lv_iconst (v := (0 : Int32)) hx hb dX6_copy_79 (by decide) ?_
  refine lv_aload_n hx hb dX6_copy_80 rfl (lv_at hl 0 rfl) ?_
  refine xg_4_3 hx hb hts hown hK hP mw_95 dX6_copy_81 ?_
  refine xl_29 hx hb hK hP dX6_copy_84 ?_
  refine zcopy_x_40_29 hx hb (hml.trans hl.1.symm) hown (hts _ (List.mem_cons_of_mem _ mw_468)) (hts _ (List.mem_cons_of_mem _ mw_463)) (hts _ (List.mem_cons_of_mem _ mw_462)) (hts _ (List.mem_cons_of_mem _ mw_20)) hK hP hD hS (Nat.le_of_ble_eq_true rfl) (Nat.le_of_ble_eq_true rfl) dX6_copy_85 (fun τ6 H locs eτ6 hP hD hS => ?_)
  have h := h τ6 eτ6
  refine lv_aload_n hx hb dX6_copy_88 rfl (lv_at hl 1 rfl) ?_
  refine xg_7_4 hx hb hts hown hK hP mw_96 dX6_copy_89 ?_
  refine lv_iconst (v := (0 : Int32)) hx hb dX6_copy_92 (by decide) ?_
  refine lv_aload_n hx hb dX6_copy_93 rfl (lv_at hl 0 rfl) ?_
  refine xg_4_4 hx hb hts hown hK hP mw_96 dX6_copy_94 ?_
  refine lv_iconst (v := (0 : Int32)) hx hb dX6_copy_97 (by decide) ?_
  refine lv_aload_n hx hb dX6_copy_98 rfl (lv_at hl 0 rfl) ?_
  refine xg_4_4 hx hb hts hown hK hP mw_96 dX6_copy_99 ?_
  refine xl_30 hx hb hK hP dX6_copy_102 ?_
  refine zcopy_x_41_30 hx hb (hml.trans hl.1.symm) hown (hts _ (List.mem_cons_of_mem _ mw_468)) (hts _ (List.mem_cons_of_mem _ mw_463)) (hts _ (List.mem_cons_of_mem _ mw_462)) (hts _ (List.mem_cons_of_mem _ mw_20)) hK hP hD hS (Nat.le_of_ble_eq_true rfl) (Nat.le_of_ble_eq_true rfl) dX6_copy_103 (fun τ7 H locs eτ7 hP hD hS => ?_)
  have h := h τ7 eτ7
  exact zret_v hx hb hr hlocks hK hP hD hS h dX6_copy_106
set_option maxHeartbeats 4000000 in
set_option maxRecDepth 100000 in
theorem c_X6_copy (N : Nat) (l : Launch) (dC : Nat → ClassId) (dI : Nat → Nat → Nat) (ad : Nat → Nat) (cI cJ : ClassId) (sz : Nat) (σ : zSt)  (Q : zSt → Prop) (h : w_X6_copy N  σ Q) : Met l yX6_copy vs_X6_copy rm_X6_copy (va_Pc [.ref (ad 4), .ref (ad 7)] (zPc (dC, dI) (x_ty cI cJ) (x_W ad cI cJ) sz σ)) (zQv (dC, dI) (x_ty cI cJ) (x_W ad cI cJ) (zAW x_n ad sz) Q) 0 0 (zAW x_n ad sz) := by
  refine Met.ofW (cc := cX6_copy) (maxL := 2) (ret := none) (by decide) rfl ?_
  intro p e s m args below meth c s₁ B hml hv
  obtain ⟨rfl, hsz, hP, hK, hD0⟩ := hv
  subst hsz
  have C0 : zCx p s m meth c _ RX6 cX6_copy 2 none vs_X6_copy := ⟨B.exec, B.bytes, hml, B.returns, findClass_of_methodNamed B.named, atoms_spec (ws := vs_X6_copy) B.pre, B.notSynchronized⟩
  have hD := x_D0 (n0 := s.heap.size) hD0
  have hl := lv_entry ([.ref (ad 4), .ref (ad 7)]) (n := 2) (Nat.le_of_ble_eq_true rfl)
  rw [lg_entry_eq]
  generalize (lg_sl ([.ref (ad 4), .ref (ad 7)]) ++ List.replicate (2 - (lg_sl ([.ref (ad 4), .ref (ad 7)])).length) Slot.unset).toArray = ls at hl ⊢
  exact t_X6_copy_0 C0 hK N  σ _ _ ls h hP hD va_S.rf hl
theorem k_X6_copy (N : Nat) {R : Room} {H : Heap} {locs : List Loc} {cells slots : Nat} {Q2 : State → Prop} {cc : ByteArray} {nL pc index : Nat} {ls : Array Slot} {rest : List Value} {own : String} {c0 : Cond} {σ : zSt}  {Q : zSt → Prop} (S0 : CallFix p m c cc nL s args (c0 :: zT) own) (hml : Cond.methodLink own index yX6_copy ∈ zT) (hR : rm_X6_copy.frames + 1 ≤ R.frames ∧ 8 + (2 + 11) + rm_X6_copy.locals ≤ R.locals) (h : w_X6_copy N  σ Q) (hK : va_K (dC, dI) vwCl (x_ty cI cJ) s) (hP : va_P (dC, dI) vwCl (x_W ad cI cJ σ) H) (hD : va_D (zAW x_n ad s.heap.size) (x_W ad cI cJ σ)) (hS : va_S (zAW x_n ad s.heap.size) s.heap H locs) (hsz : ls.size = nL) (hW : (rest.map fun v => v.category).sum ≤ 8) (hcs : cells ≤ R.cells ∧ slots ≤ R.slots) (hdg : decode cc pc = .ok (.invokevirtual index, 3)) (kk : ∀ (τ : zSt) (H1 : Heap) (locs1 : List Loc), Q τ → va_P (dC, dI) vwCl (x_W ad cI cJ τ) H1 → va_D (zAW x_n ad s.heap.size) (x_W ad cI cJ τ) → va_S (zAW x_n ad s.heap.size) s.heap H1 locs1 → W p l e R s m args below meth c H1 locs1 cells slots Q2 (F0 m (pc + 3) ls (rest))) : W p l e R s m args below meth c H locs cells slots Q2 (F0 m pc ls (.ref (ad 7) :: .ref (ad 4) :: rest)) :=
  zcv_v (T := TX6) (N' := 10) (k := 4) (ci := 6) (fs := x_f4 ad σ) [.ref (ad 7)] S0 (c_X6_copy N l dC dI ad cI cJ H.size σ  Q h) (cw_X6_copy S0.2.2.2.2 hml rfl rfl hR) rfl rfl hK hP hD hS rfl hsz hW rfl hcs hdg kk
end q03
section q03
def b_J7_fill_d0a16_6 (N : Nat) (k_6 : Int64 → Int32 → Int32 → zSt → Prop) (Q : zSt → Prop) (x1 : Int64) (x3 : Int32) (x4 : Int32) (σ : zSt) : Prop :=
  (x4 ≤ x3 → Q σ) ∧ (¬ x4 ≤ x3 → (vp_in x3 3) ∧ (∀ τ1 : zSt, τ1 = zB σ 0 (vp_updL (σ.2.2.2 0) (x3.toNatClampNeg) x1) → ∀ v2 : Int32, v2 = x3 + (1 : Int32) → k_6 x1 v2 x4 τ1))
def w_J7_fill_d0a16_6 (N : Nat) (Q : zSt → Prop) : Nat → Int64 → Int32 → Int32 → zSt → Prop
  | 0 => fun _ _ _ _ => False
  | f + 1 => b_J7_fill_d0a16_6 N (w_J7_fill_d0a16_6 N  Q f) Q
def w_J7_fill_d0a16 (N : Nat) (x1 : Int64) (σ : zSt) (Q : zSt → Prop) : Prop :=
  w_J7_fill_d0a16_6 N Q N x1 (0 : Int32) (3 : Int32) σ
variable {p : Program} {l : Launch} {e : Env} {s : State} {m : MethodId} {args : Array Value} {below : List Frame} {meth : Method} {c : Code} {dC : Nat → ClassId} {dI : Nat → Nat → Nat} {ad : Nat → Nat} {cI cJ : ClassId}
set_option maxHeartbeats 4000000 in
set_option maxRecDepth 100000 in
theorem tb_J7_fill_d0a16_6 (C0 : zCx p s m meth c args RJ7 cJ7_fill_d0a16 5 none vs_J7_fill_d0a16) (hK : va_K (dC, dI) vwCl (x_ty cI cJ) s) (N : Nat) {Q : zSt → Prop} {k_6 : Int64 → Int32 → Int32 → zSt → Prop} (hk_6 : ∀ (x1 : Int64) (x3 : Int32) (x4 : Int32) (σ : zSt) (H : Heap) (locs : List Loc) (ls : Array Slot), k_6 x1 x3 x4 σ → va_P (dC, dI) vwCl (x_W ad cI cJ σ) H → va_D (zAW x_n ad s.heap.size) (x_W ad cI cJ σ) → va_S (zAW x_n ad s.heap.size) s.heap H locs → lv_has ls 5 [(0, .ref (ad 17)), (1, .long x1), (3, .int x3), (4, .int x4)] → W p l e rm_J7_fill_d0a16 s m args below meth c H locs 0 0 (MQ below (zQv (dC, dI) (x_ty cI cJ) (x_W ad cI cJ) (zAW x_n ad s.heap.size) Q) args s 0 0 (zAW x_n ad s.heap.size)) (F0 m 6 ls [])) : ∀ (x1 : Int64) (x3 : Int32) (x4 : Int32) (σ : zSt) (H : Heap) (locs : List Loc) (ls : Array Slot), b_J7_fill_d0a16_6 N k_6 Q x1 x3 x4 σ → va_P (dC, dI) vwCl (x_W ad cI cJ σ) H → va_D (zAW x_n ad s.heap.size) (x_W ad cI cJ σ) → va_S (zAW x_n ad s.heap.size) s.heap H locs → lv_has ls 5 [(0, .ref (ad 17)), (1, .long x1), (3, .int x3), (4, .int x4)] → W p l e rm_J7_fill_d0a16 s m args below meth c H locs 0 0 (MQ below (zQv (dC, dI) (x_ty cI cJ) (x_W ad cI cJ) (zAW x_n ad s.heap.size) Q) args s 0 0 (zAW x_n ad s.heap.size)) (F0 m 6 ls []) := by
  obtain ⟨hx, hb, hml, hr, hown, hts, hlocks⟩ := id C0
  intro x1 x3 x4 σ H locs ls h hP hD hS hl
  unfold b_J7_fill_d0a16_6 at h
  refine lv_iload_n hx hb dJ7_fill_d0a16_6 rfl (lv_at hl 2 rfl) ?_
  refine lv_iload hx hb dJ7_fill_d0a16_7 (lv_at hl 3 rfl) ?_
  refine lv_icmp_ge (tgt := 22) hx hb dJ7_fill_d0a16_9 (by decide) (fun hc => ?_) (fun hc => ?_)
  · have h := h.1 hc
    exact zret_v hx hb hr hlocks hK hP hD hS h dJ7_fill_d0a16_22
  · have h := h.2 hc
    refine lv_aload_n hx hb dJ7_fill_d0a16_12 rfl (lv_at hl 0 rfl) ?_
    refine lv_iload_n hx hb dJ7_fill_d0a16_13 rfl (lv_at hl 2 rfl) ?_
    refine lv_lload_n hx hb dJ7_fill_d0a16_14 rfl (lv_at hl 1 rfl) ?_
    refine xs_17 hx hb hK hP hD hS h.1 rfl dJ7_fill_d0a16_15 (fun τ1 H locs eτ1 hP hD hS => ?_)
    have h := h.2
    have h := h τ1 eτ1
    obtain ⟨v2, ev2⟩ : ∃ z : Int32, z = x3 + (1 : Int32) := ⟨_, rfl⟩
    have h := h v2 ev2
    refine lv_iinc (v := v2) (lv' := [(3, .int v2), (0, .ref (ad 17)), (1, .long x1), (4, .int x4)]) hx hb dJ7_fill_d0a16_16 hl (k := 2) rfl (by rw [ev2]; rfl) (by decide) rfl (fun ls hl => ?_)
    refine lv_goto (tgt := 6) hx hb dJ7_fill_d0a16_19 (by decide) ?_
    exact hk_6 x1 v2 x4 τ1 _ _ _ h hP hD hS (lv_sub hl [1, 2, 0, 3] rfl)
set_option maxHeartbeats 4000000 in
set_option maxRecDepth 100000 in
theorem t_J7_fill_d0a16_6 (C0 : zCx p s m meth c args RJ7 cJ7_fill_d0a16 5 none vs_J7_fill_d0a16) (hK : va_K (dC, dI) vwCl (x_ty cI cJ) s) (N : Nat) {Q : zSt → Prop} : ∀ (f : Nat) (x1 : Int64) (x3 : Int32) (x4 : Int32) (σ : zSt) (H : Heap) (locs : List Loc) (ls : Array Slot), w_J7_fill_d0a16_6 N  Q f x1 x3 x4 σ → va_P (dC, dI) vwCl (x_W ad cI cJ σ) H → va_D (zAW x_n ad s.heap.size) (x_W ad cI cJ σ) → va_S (zAW x_n ad s.heap.size) s.heap H locs → lv_has ls 5 [(0, .ref (ad 17)), (1, .long x1), (3, .int x3), (4, .int x4)] → W p l e rm_J7_fill_d0a16 s m args below meth c H locs 0 0 (MQ below (zQv (dC, dI) (x_ty cI cJ) (x_W ad cI cJ) (zAW x_n ad s.heap.size) Q) args s 0 0 (zAW x_n ad s.heap.size)) (F0 m 6 ls []) := by
  intro f
  induction f with
  | zero => intro x1 x3 x4 σ H locs ls h; exact h.elim
  | succ f ih =>
    intro x1 x3 x4 σ H locs ls h hP hD hS hl
    exact tb_J7_fill_d0a16_6 C0 hK N  (k_6 := w_J7_fill_d0a16_6 N  Q f) ih x1 x3 x4 σ H locs ls h hP hD hS hl
set_option maxHeartbeats 4000000 in
set_option maxRecDepth 100000 in
theorem t_J7_fill_d0a16_0 (C0 : zCx p s m meth c args RJ7 cJ7_fill_d0a16 5 none vs_J7_fill_d0a16) (hK : va_K (dC, dI) vwCl (x_ty cI cJ) s) (N : Nat) {Q : zSt → Prop} : ∀ (x1 : Int64) (σ : zSt) (H : Heap) (locs : List Loc) (ls : Array Slot), w_J7_fill_d0a16 N x1 σ Q → va_P (dC, dI) vwCl (x_W ad cI cJ σ) H → va_D (zAW x_n ad s.heap.size) (x_W ad cI cJ σ) → va_S (zAW x_n ad s.heap.size) s.heap H locs → lv_has ls 5 [(0, .ref (ad 17)), (1, .long x1)] → W p l e rm_J7_fill_d0a16 s m args below meth c H locs 0 0 (MQ below (zQv (dC, dI) (x_ty cI cJ) (x_W ad cI cJ) (zAW x_n ad s.heap.size) Q) args s 0 0 (zAW x_n ad s.heap.size)) (F0 m 0 ls []) := by
  obtain ⟨hx, hb, hml, hr, hown, hts, hlocks⟩ := id C0
  intro x1 σ H locs ls h hP hD hS hl
  unfold w_J7_fill_d0a16 at h
  refine lv_iconst (v := (0 : Int32)) hx hb dJ7_fill_d0a16_0 (by decide) ?_
  refine lv_istore_n (lv' := [(3, .int (0 : Int32)), (0, .ref (ad 17)), (1, .long x1)]) hx hb dJ7_fill_d0a16_1 rfl hl (by decide) rfl (fun ls hl => ?_)
  refine lv_aload_n hx hb dJ7_fill_d0a16_2 rfl (lv_at hl 1 rfl) ?_
  refine xl_17 hx hb hK hP dJ7_fill_d0a16_3 ?_
  refine lv_istore (lv' := [(4, .int (3 : Int32)), (3, .int (0 : Int32)), (0, .ref (ad 17)), (1, .long x1)]) hx hb dJ7_fill_d0a16_4 hl (by decide) rfl (fun ls hl => ?_)
  exact t_J7_fill_d0a16_6 C0 hK N  N x1 (0 : Int32) (3 : Int32) σ _ _ _ h hP hD hS (lv_sub hl [2, 3, 1, 0] rfl)
set_option maxHeartbeats 4000000 in
set_option maxRecDepth 100000 in
theorem c_J7_fill_d0a16 (N : Nat) (l : Launch) (dC : Nat → ClassId) (dI : Nat → Nat → Nat) (ad : Nat → Nat) (cI cJ : ClassId) (sz : Nat) (σ : zSt) (x1 : Int64) (Q : zSt → Prop) (h : w_J7_fill_d0a16 N x1 σ Q) : Met l yJ7_fill_d0a16 vs_J7_fill_d0a16 rm_J7_fill_d0a16 (va_Pc [.ref (ad 17), .long x1] (zPc (dC, dI) (x_ty cI cJ) (x_W ad cI cJ) sz σ)) (zQv (dC, dI) (x_ty cI cJ) (x_W ad cI cJ) (zAW x_n ad sz) Q) 0 0 (zAW x_n ad sz) := by
  refine Met.ofW (cc := cJ7_fill_d0a16) (maxL := 5) (ret := none) (by decide) rfl ?_
  intro p e s m args below meth c s₁ B hml hv
  obtain ⟨rfl, hsz, hP, hK, hD0⟩ := hv
  subst hsz
  have C0 : zCx p s m meth c _ RJ7 cJ7_fill_d0a16 5 none vs_J7_fill_d0a16 := ⟨B.exec, B.bytes, hml, B.returns, findClass_of_methodNamed B.named, atoms_spec (ws := vs_J7_fill_d0a16) B.pre, B.notSynchronized⟩
  have hD := x_D0 (n0 := s.heap.size) hD0
  have hl := lv_entry ([.ref (ad 17), .long x1]) (n := 5) (Nat.le_of_ble_eq_true rfl)
  rw [lg_entry_eq]
  generalize (lg_sl ([.ref (ad 17), .long x1]) ++ List.replicate (5 - (lg_sl ([.ref (ad 17), .long x1])).length) Slot.unset).toArray = ls at hl ⊢
  exact t_J7_fill_d0a16_0 C0 hK N x1 σ _ _ ls h hP hD va_S.rf hl
theorem k_J7_fill_d0a16 (N : Nat) {R : Room} {H : Heap} {locs : List Loc} {cells slots : Nat} {Q2 : State → Prop} {cc : ByteArray} {nL pc index : Nat} {ls : Array Slot} {rest : List Value} {own : String} {c0 : Cond} {σ : zSt} {x1 : Int64} {Q : zSt → Prop} (S0 : CallFix p m c cc nL s args (c0 :: zT) own) (hml : Cond.methodLink own index yJ7_fill_d0a16 ∈ zT) (hR : rm_J7_fill_d0a16.frames + 1 ≤ R.frames ∧ 8 + (5 + 11) + rm_J7_fill_d0a16.locals ≤ R.locals) (h : w_J7_fill_d0a16 N x1 σ Q) (hK : va_K (dC, dI) vwCl (x_ty cI cJ) s) (hP : va_P (dC, dI) vwCl (x_W ad cI cJ σ) H) (hD : va_D (zAW x_n ad s.heap.size) (x_W ad cI cJ σ)) (hS : va_S (zAW x_n ad s.heap.size) s.heap H locs) (hsz : ls.size = nL) (hW : (rest.map fun v => v.category).sum ≤ 8) (hcs : cells ≤ R.cells ∧ slots ≤ R.slots) (hdg : decode cc pc = .ok (.invokestatic index, 3)) (kk : ∀ (τ : zSt) (H1 : Heap) (locs1 : List Loc), Q τ → va_P (dC, dI) vwCl (x_W ad cI cJ τ) H1 → va_D (zAW x_n ad s.heap.size) (x_W ad cI cJ τ) → va_S (zAW x_n ad s.heap.size) s.heap H1 locs1 → W p l e R s m args below meth c H1 locs1 cells slots Q2 (F0 m (pc + 3) ls (rest))) : W p l e R s m args below meth c H locs cells slots Q2 (F0 m pc ls (.long x1 :: .ref (ad 17) :: rest)) :=
  zcs_v [.ref (ad 17), .long x1] S0 (c_J7_fill_d0a16 N l dC dI ad cI cJ H.size σ x1 Q h) (cw_J7_fill_d0a16 S0.2.2.2.2 hml hR) hK hP hD hS rfl hsz hW rfl hcs hdg kk
end q03
section q03
def b_J7_fill_d0a16_2_6 (N : Nat) (k_6 : Int64 → Int32 → Int32 → zSt → Prop) (Q : zSt → Prop) (x1 : Int64) (x3 : Int32) (x4 : Int32) (σ : zSt) : Prop :=
  (x4 ≤ x3 → Q σ) ∧ (¬ x4 ≤ x3 → (vp_in x3 2) ∧ (∀ τ1 : zSt, τ1 = zB σ 1 (vp_updL (σ.2.2.2 1) (x3.toNatClampNeg) x1) → ∀ v2 : Int32, v2 = x3 + (1 : Int32) → k_6 x1 v2 x4 τ1))
def w_J7_fill_d0a16_2_6 (N : Nat) (Q : zSt → Prop) : Nat → Int64 → Int32 → Int32 → zSt → Prop
  | 0 => fun _ _ _ _ => False
  | f + 1 => b_J7_fill_d0a16_2_6 N (w_J7_fill_d0a16_2_6 N  Q f) Q
def w_J7_fill_d0a16_2 (N : Nat) (x1 : Int64) (σ : zSt) (Q : zSt → Prop) : Prop :=
  w_J7_fill_d0a16_2_6 N Q N x1 (0 : Int32) (2 : Int32) σ
variable {p : Program} {l : Launch} {e : Env} {s : State} {m : MethodId} {args : Array Value} {below : List Frame} {meth : Method} {c : Code} {dC : Nat → ClassId} {dI : Nat → Nat → Nat} {ad : Nat → Nat} {cI cJ : ClassId}
set_option maxHeartbeats 4000000 in
set_option maxRecDepth 100000 in
theorem tb_J7_fill_d0a16_2_6 (C0 : zCx p s m meth c args RJ7 cJ7_fill_d0a16 5 none vs_J7_fill_d0a16) (hK : va_K (dC, dI) vwCl (x_ty cI cJ) s) (N : Nat) {Q : zSt → Prop} {k_6 : Int64 → Int32 → Int32 → zSt → Prop} (hk_6 : ∀ (x1 : Int64) (x3 : Int32) (x4 : Int32) (σ : zSt) (H : Heap) (locs : List Loc) (ls : Array Slot), k_6 x1 x3 x4 σ → va_P (dC, dI) vwCl (x_W ad cI cJ σ) H → va_D (zAW x_n ad s.heap.size) (x_W ad cI cJ σ) → va_S (zAW x_n ad s.heap.size) s.heap H locs → lv_has ls 5 [(0, .ref (ad 18)), (1, .long x1), (3, .int x3), (4, .int x4)] → W p l e rm_J7_fill_d0a16 s m args below meth c H locs 0 0 (MQ below (zQv (dC, dI) (x_ty cI cJ) (x_W ad cI cJ) (zAW x_n ad s.heap.size) Q) args s 0 0 (zAW x_n ad s.heap.size)) (F0 m 6 ls [])) : ∀ (x1 : Int64) (x3 : Int32) (x4 : Int32) (σ : zSt) (H : Heap) (locs : List Loc) (ls : Array Slot), b_J7_fill_d0a16_2_6 N k_6 Q x1 x3 x4 σ → va_P (dC, dI) vwCl (x_W ad cI cJ σ) H → va_D (zAW x_n ad s.heap.size) (x_W ad cI cJ σ) → va_S (zAW x_n ad s.heap.size) s.heap H locs → lv_has ls 5 [(0, .ref (ad 18)), (1, .long x1), (3, .int x3), (4, .int x4)] → W p l e rm_J7_fill_d0a16 s m args below meth c H locs 0 0 (MQ below (zQv (dC, dI) (x_ty cI cJ) (x_W ad cI cJ) (zAW x_n ad s.heap.size) Q) args s 0 0 (zAW x_n ad s.heap.size)) (F0 m 6 ls []) := by
  obtain ⟨hx, hb, hml, hr, hown, hts, hlocks⟩ := id C0
  intro x1 x3 x4 σ H locs ls h hP hD hS hl
  unfold b_J7_fill_d0a16_2_6 at h
  refine lv_iload_n hx hb dJ7_fill_d0a16_6 rfl (lv_at hl 2 rfl) ?_
  refine lv_iload hx hb dJ7_fill_d0a16_7 (lv_at hl 3 rfl) ?_
  refine lv_icmp_ge (tgt := 22) hx hb dJ7_fill_d0a16_9 (by decide) (fun hc => ?_) (fun hc => ?_)
  · have h := h.1 hc
    exact zret_v hx hb hr hlocks hK hP hD hS h dJ7_fill_d0a16_22
  · have h := h.2 hc
    refine lv_aload_n hx hb dJ7_fill_d0a16_12 rfl (lv_at hl 0 rfl) ?_
    refine lv_iload_n hx hb dJ7_fill_d0a16_13 rfl (lv_at hl 2 rfl) ?_
    refine lv_lload_n hx hb dJ7_fill_d0a16_14 rfl (lv_at hl 1 rfl) ?_
    refine xs_18 hx hb hK hP hD hS h.1 rfl dJ7_fill_d0a16_15 (fun τ1 H locs eτ1 hP hD hS => ?_)
    have h := h.2
    have h := h τ1 eτ1
    obtain ⟨v2, ev2⟩ : ∃ z : Int32, z = x3 + (1 : Int32) := ⟨_, rfl⟩
    have h := h v2 ev2
    refine lv_iinc (v := v2) (lv' := [(3, .int v2), (0, .ref (ad 18)), (1, .long x1), (4, .int x4)]) hx hb dJ7_fill_d0a16_16 hl (k := 2) rfl (by rw [ev2]; rfl) (by decide) rfl (fun ls hl => ?_)
    refine lv_goto (tgt := 6) hx hb dJ7_fill_d0a16_19 (by decide) ?_
    exact hk_6 x1 v2 x4 τ1 _ _ _ h hP hD hS (lv_sub hl [1, 2, 0, 3] rfl)
set_option maxHeartbeats 4000000 in
set_option maxRecDepth 100000 in
theorem t_J7_fill_d0a16_2_6 (C0 : zCx p s m meth c args RJ7 cJ7_fill_d0a16 5 none vs_J7_fill_d0a16) (hK : va_K (dC, dI) vwCl (x_ty cI cJ) s) (N : Nat) {Q : zSt → Prop} : ∀ (f : Nat) (x1 : Int64) (x3 : Int32) (x4 : Int32) (σ : zSt) (H : Heap) (locs : List Loc) (ls : Array Slot), w_J7_fill_d0a16_2_6 N  Q f x1 x3 x4 σ → va_P (dC, dI) vwCl (x_W ad cI cJ σ) H → va_D (zAW x_n ad s.heap.size) (x_W ad cI cJ σ) → va_S (zAW x_n ad s.heap.size) s.heap H locs → lv_has ls 5 [(0, .ref (ad 18)), (1, .long x1), (3, .int x3), (4, .int x4)] → W p l e rm_J7_fill_d0a16 s m args below meth c H locs 0 0 (MQ below (zQv (dC, dI) (x_ty cI cJ) (x_W ad cI cJ) (zAW x_n ad s.heap.size) Q) args s 0 0 (zAW x_n ad s.heap.size)) (F0 m 6 ls []) := by
  intro f
  induction f with
  | zero => intro x1 x3 x4 σ H locs ls h; exact h.elim
  | succ f ih =>
    intro x1 x3 x4 σ H locs ls h hP hD hS hl
    exact tb_J7_fill_d0a16_2_6 C0 hK N  (k_6 := w_J7_fill_d0a16_2_6 N  Q f) ih x1 x3 x4 σ H locs ls h hP hD hS hl
set_option maxHeartbeats 4000000 in
set_option maxRecDepth 100000 in
theorem t_J7_fill_d0a16_2_0 (C0 : zCx p s m meth c args RJ7 cJ7_fill_d0a16 5 none vs_J7_fill_d0a16) (hK : va_K (dC, dI) vwCl (x_ty cI cJ) s) (N : Nat) {Q : zSt → Prop} : ∀ (x1 : Int64) (σ : zSt) (H : Heap) (locs : List Loc) (ls : Array Slot), w_J7_fill_d0a16_2 N x1 σ Q → va_P (dC, dI) vwCl (x_W ad cI cJ σ) H → va_D (zAW x_n ad s.heap.size) (x_W ad cI cJ σ) → va_S (zAW x_n ad s.heap.size) s.heap H locs → lv_has ls 5 [(0, .ref (ad 18)), (1, .long x1)] → W p l e rm_J7_fill_d0a16 s m args below meth c H locs 0 0 (MQ below (zQv (dC, dI) (x_ty cI cJ) (x_W ad cI cJ) (zAW x_n ad s.heap.size) Q) args s 0 0 (zAW x_n ad s.heap.size)) (F0 m 0 ls []) := by
  obtain ⟨hx, hb, hml, hr, hown, hts, hlocks⟩ := id C0
  intro x1 σ H locs ls h hP hD hS hl
  unfold w_J7_fill_d0a16_2 at h
  refine lv_iconst (v := (0 : Int32)) hx hb dJ7_fill_d0a16_0 (by decide) ?_
  refine lv_istore_n (lv' := [(3, .int (0 : Int32)), (0, .ref (ad 18)), (1, .long x1)]) hx hb dJ7_fill_d0a16_1 rfl hl (by decide) rfl (fun ls hl => ?_)
  refine lv_aload_n hx hb dJ7_fill_d0a16_2 rfl (lv_at hl 1 rfl) ?_
  refine xl_18 hx hb hK hP dJ7_fill_d0a16_3 ?_
  refine lv_istore (lv' := [(4, .int (2 : Int32)), (3, .int (0 : Int32)), (0, .ref (ad 18)), (1, .long x1)]) hx hb dJ7_fill_d0a16_4 hl (by decide) rfl (fun ls hl => ?_)
  exact t_J7_fill_d0a16_2_6 C0 hK N  N x1 (0 : Int32) (2 : Int32) σ _ _ _ h hP hD hS (lv_sub hl [2, 3, 1, 0] rfl)
set_option maxHeartbeats 4000000 in
set_option maxRecDepth 100000 in
theorem c_J7_fill_d0a16_2 (N : Nat) (l : Launch) (dC : Nat → ClassId) (dI : Nat → Nat → Nat) (ad : Nat → Nat) (cI cJ : ClassId) (sz : Nat) (σ : zSt) (x1 : Int64) (Q : zSt → Prop) (h : w_J7_fill_d0a16_2 N x1 σ Q) : Met l yJ7_fill_d0a16 vs_J7_fill_d0a16 rm_J7_fill_d0a16 (va_Pc [.ref (ad 18), .long x1] (zPc (dC, dI) (x_ty cI cJ) (x_W ad cI cJ) sz σ)) (zQv (dC, dI) (x_ty cI cJ) (x_W ad cI cJ) (zAW x_n ad sz) Q) 0 0 (zAW x_n ad sz) := by
  refine Met.ofW (cc := cJ7_fill_d0a16) (maxL := 5) (ret := none) (by decide) rfl ?_
  intro p e s m args below meth c s₁ B hml hv
  obtain ⟨rfl, hsz, hP, hK, hD0⟩ := hv
  subst hsz
  have C0 : zCx p s m meth c _ RJ7 cJ7_fill_d0a16 5 none vs_J7_fill_d0a16 := ⟨B.exec, B.bytes, hml, B.returns, findClass_of_methodNamed B.named, atoms_spec (ws := vs_J7_fill_d0a16) B.pre, B.notSynchronized⟩
  have hD := x_D0 (n0 := s.heap.size) hD0
  have hl := lv_entry ([.ref (ad 18), .long x1]) (n := 5) (Nat.le_of_ble_eq_true rfl)
  rw [lg_entry_eq]
  generalize (lg_sl ([.ref (ad 18), .long x1]) ++ List.replicate (5 - (lg_sl ([.ref (ad 18), .long x1])).length) Slot.unset).toArray = ls at hl ⊢
  exact t_J7_fill_d0a16_2_0 C0 hK N x1 σ _ _ ls h hP hD va_S.rf hl
theorem k_J7_fill_d0a16_2 (N : Nat) {R : Room} {H : Heap} {locs : List Loc} {cells slots : Nat} {Q2 : State → Prop} {cc : ByteArray} {nL pc index : Nat} {ls : Array Slot} {rest : List Value} {own : String} {c0 : Cond} {σ : zSt} {x1 : Int64} {Q : zSt → Prop} (S0 : CallFix p m c cc nL s args (c0 :: zT) own) (hml : Cond.methodLink own index yJ7_fill_d0a16 ∈ zT) (hR : rm_J7_fill_d0a16.frames + 1 ≤ R.frames ∧ 8 + (5 + 11) + rm_J7_fill_d0a16.locals ≤ R.locals) (h : w_J7_fill_d0a16_2 N x1 σ Q) (hK : va_K (dC, dI) vwCl (x_ty cI cJ) s) (hP : va_P (dC, dI) vwCl (x_W ad cI cJ σ) H) (hD : va_D (zAW x_n ad s.heap.size) (x_W ad cI cJ σ)) (hS : va_S (zAW x_n ad s.heap.size) s.heap H locs) (hsz : ls.size = nL) (hW : (rest.map fun v => v.category).sum ≤ 8) (hcs : cells ≤ R.cells ∧ slots ≤ R.slots) (hdg : decode cc pc = .ok (.invokestatic index, 3)) (kk : ∀ (τ : zSt) (H1 : Heap) (locs1 : List Loc), Q τ → va_P (dC, dI) vwCl (x_W ad cI cJ τ) H1 → va_D (zAW x_n ad s.heap.size) (x_W ad cI cJ τ) → va_S (zAW x_n ad s.heap.size) s.heap H1 locs1 → W p l e R s m args below meth c H1 locs1 cells slots Q2 (F0 m (pc + 3) ls (rest))) : W p l e R s m args below meth c H locs cells slots Q2 (F0 m pc ls (.long x1 :: .ref (ad 18) :: rest)) :=
  zcs_v [.ref (ad 18), .long x1] S0 (c_J7_fill_d0a16_2 N l dC dI ad cI cJ H.size σ x1 Q h) (cw_J7_fill_d0a16 S0.2.2.2.2 hml hR) hK hP hD hS rfl hsz hW rfl hcs hdg kk
end q03
section q03
def w_X10_pretend (N : Nat) (x1 : Int32) (x2 : Int32) (σ : zSt) (Q : zSt → Prop) : Prop :=
  ∀ τ1 : zSt, τ1 = zI σ 26 x1 → ∀ τ2 : zSt, τ2 = zI τ1 27 x2 → Q τ2
variable {p : Program} {l : Launch} {e : Env} {s : State} {m : MethodId} {args : Array Value} {below : List Frame} {meth : Method} {c : Code} {dC : Nat → ClassId} {dI : Nat → Nat → Nat} {ad : Nat → Nat} {cI cJ : ClassId}
set_option maxHeartbeats 4000000 in
set_option maxRecDepth 100000 in
theorem t_X10_pretend_0 (C0 : zCx p s m meth c args RX10 cX10_pretend 3 none vs_X10_pretend) (hK : va_K (dC, dI) vwCl (x_ty cI cJ) s) (N : Nat) {Q : zSt → Prop} : ∀ (x1 : Int32) (x2 : Int32) (σ : zSt) (H : Heap) (locs : List Loc) (ls : Array Slot), w_X10_pretend N x1 x2 σ Q → va_P (dC, dI) vwCl (x_W ad cI cJ σ) H → va_D (zAW x_n ad s.heap.size) (x_W ad cI cJ σ) → va_S (zAW x_n ad s.heap.size) s.heap H locs → lv_has ls 3 [(0, .ref (ad 9)), (1, .int x1), (2, .int x2)] → W p l e rm_X10_pretend s m args below meth c H locs 0 0 (MQ below (zQv (dC, dI) (x_ty cI cJ) (x_W ad cI cJ) (zAW x_n ad s.heap.size) Q) args s 0 0 (zAW x_n ad s.heap.size)) (F0 m 0 ls []) := by
  obtain ⟨hx, hb, hml, hr, hown, hts, hlocks⟩ := id C0
  intro x1 x2 σ H locs ls h hP hD hS hl
  unfold w_X10_pretend at h
  refine lv_aload_n hx hb dX10_pretend_0 rfl (lv_at hl 0 rfl) ?_
  refine lv_iload_n hx hb dX10_pretend_1 rfl (lv_at hl 1 rfl) ?_
  refine xp_9_7 hx hb hts hown hK hP hD hS mw_208 dX10_pretend_2 (fun τ1 H locs eτ1 hP hD hS => ?_)
  have h := h τ1 eτ1
  refine lv_aload_n hx hb dX10_pretend_5 rfl (lv_at hl 0 rfl) ?_
  refine lv_iload_n hx hb dX10_pretend_6 rfl (lv_at hl 2 rfl) ?_
  refine xp_9_8 hx hb hts hown hK hP hD hS mw_209 dX10_pretend_7 (fun τ2 H locs eτ2 hP hD hS => ?_)
  have h := h τ2 eτ2
  exact zret_v hx hb hr hlocks hK hP hD hS h dX10_pretend_10
set_option maxHeartbeats 4000000 in
set_option maxRecDepth 100000 in
theorem c_X10_pretend (N : Nat) (l : Launch) (dC : Nat → ClassId) (dI : Nat → Nat → Nat) (ad : Nat → Nat) (cI cJ : ClassId) (sz : Nat) (σ : zSt) (x1 : Int32) (x2 : Int32) (Q : zSt → Prop) (h : w_X10_pretend N x1 x2 σ Q) : Met l yX10_pretend vs_X10_pretend rm_X10_pretend (va_Pc [.ref (ad 9), .int x1, .int x2] (zPc (dC, dI) (x_ty cI cJ) (x_W ad cI cJ) sz σ)) (zQv (dC, dI) (x_ty cI cJ) (x_W ad cI cJ) (zAW x_n ad sz) Q) 0 0 (zAW x_n ad sz) := by
  refine Met.ofW (cc := cX10_pretend) (maxL := 3) (ret := none) (by decide) rfl ?_
  intro p e s m args below meth c s₁ B hml hv
  obtain ⟨rfl, hsz, hP, hK, hD0⟩ := hv
  subst hsz
  have C0 : zCx p s m meth c _ RX10 cX10_pretend 3 none vs_X10_pretend := ⟨B.exec, B.bytes, hml, B.returns, findClass_of_methodNamed B.named, atoms_spec (ws := vs_X10_pretend) B.pre, B.notSynchronized⟩
  have hD := x_D0 (n0 := s.heap.size) hD0
  have hl := lv_entry ([.ref (ad 9), .int x1, .int x2]) (n := 3) (Nat.le_of_ble_eq_true rfl)
  rw [lg_entry_eq]
  generalize (lg_sl ([.ref (ad 9), .int x1, .int x2]) ++ List.replicate (3 - (lg_sl ([.ref (ad 9), .int x1, .int x2])).length) Slot.unset).toArray = ls at hl ⊢
  exact t_X10_pretend_0 C0 hK N x1 x2 σ _ _ ls h hP hD va_S.rf hl
theorem k_X10_pretend (N : Nat) {R : Room} {H : Heap} {locs : List Loc} {cells slots : Nat} {Q2 : State → Prop} {cc : ByteArray} {nL pc index : Nat} {ls : Array Slot} {rest : List Value} {own : String} {c0 : Cond} {σ : zSt} {x1 : Int32} {x2 : Int32} {Q : zSt → Prop} (S0 : CallFix p m c cc nL s args (c0 :: zT) own) (hml : Cond.methodLink own index yX10_pretend ∈ zT) (hR : rm_X10_pretend.frames + 1 ≤ R.frames ∧ 8 + (3 + 11) + rm_X10_pretend.locals ≤ R.locals) (h : w_X10_pretend N x1 x2 σ Q) (hK : va_K (dC, dI) vwCl (x_ty cI cJ) s) (hP : va_P (dC, dI) vwCl (x_W ad cI cJ σ) H) (hD : va_D (zAW x_n ad s.heap.size) (x_W ad cI cJ σ)) (hS : va_S (zAW x_n ad s.heap.size) s.heap H locs) (hsz : ls.size = nL) (hW : (rest.map fun v => v.category).sum ≤ 8) (hcs : cells ≤ R.cells ∧ slots ≤ R.slots) (hdg : decode cc pc = .ok (.invokevirtual index, 3)) (kk : ∀ (τ : zSt) (H1 : Heap) (locs1 : List Loc), Q τ → va_P (dC, dI) vwCl (x_W ad cI cJ τ) H1 → va_D (zAW x_n ad s.heap.size) (x_W ad cI cJ τ) → va_S (zAW x_n ad s.heap.size) s.heap H1 locs1 → W p l e R s m args below meth c H1 locs1 cells slots Q2 (F0 m (pc + 3) ls (rest))) : W p l e R s m args below meth c H locs cells slots Q2 (F0 m pc ls (.int x2 :: .int x1 :: .ref (ad 9) :: rest)) :=
  zcv_v (T := TX10) (N' := 10) (k := 9) (ci := 10) (fs := x_f9 ad σ) [.int x1, .int x2] S0 (c_X10_pretend N l dC dI ad cI cJ H.size σ x1 x2 Q h) (cw_X10_pretend S0.2.2.2.2 hml rfl rfl hR) rfl rfl hK hP hD hS rfl hsz hW rfl hcs hdg kk
end q03
section q03
def b_J7_fill_d0a16_3_6 (N : Nat) (k_6 : Int64 → Int32 → Int32 → zSt → Prop) (Q : zSt → Prop) (x1 : Int64) (x3 : Int32) (x4 : Int32) (σ : zSt) : Prop :=
  (x4 ≤ x3 → Q σ) ∧ (¬ x4 ≤ x3 → (vp_in x3 8192) ∧ (∀ τ1 : zSt, τ1 = zB σ 5 (vp_updL (σ.2.2.2 5) (x3.toNatClampNeg) x1) → ∀ v2 : Int32, v2 = x3 + (1 : Int32) → k_6 x1 v2 x4 τ1))
def w_J7_fill_d0a16_3_6 (N : Nat) (Q : zSt → Prop) : Nat → Int64 → Int32 → Int32 → zSt → Prop
  | 0 => fun _ _ _ _ => False
  | f + 1 => b_J7_fill_d0a16_3_6 N (w_J7_fill_d0a16_3_6 N  Q f) Q
def w_J7_fill_d0a16_3 (N : Nat) (x1 : Int64) (σ : zSt) (Q : zSt → Prop) : Prop :=
  w_J7_fill_d0a16_3_6 N Q N x1 (0 : Int32) (8192 : Int32) σ
variable {p : Program} {l : Launch} {e : Env} {s : State} {m : MethodId} {args : Array Value} {below : List Frame} {meth : Method} {c : Code} {dC : Nat → ClassId} {dI : Nat → Nat → Nat} {ad : Nat → Nat} {cI cJ : ClassId}
set_option maxHeartbeats 4000000 in
set_option maxRecDepth 100000 in
theorem tb_J7_fill_d0a16_3_6 (C0 : zCx p s m meth c args RJ7 cJ7_fill_d0a16 5 none vs_J7_fill_d0a16) (hK : va_K (dC, dI) vwCl (x_ty cI cJ) s) (N : Nat) {Q : zSt → Prop} {k_6 : Int64 → Int32 → Int32 → zSt → Prop} (hk_6 : ∀ (x1 : Int64) (x3 : Int32) (x4 : Int32) (σ : zSt) (H : Heap) (locs : List Loc) (ls : Array Slot), k_6 x1 x3 x4 σ → va_P (dC, dI) vwCl (x_W ad cI cJ σ) H → va_D (zAW x_n ad s.heap.size) (x_W ad cI cJ σ) → va_S (zAW x_n ad s.heap.size) s.heap H locs → lv_has ls 5 [(0, .ref (ad 48)), (1, .long x1), (3, .int x3), (4, .int x4)] → W p l e rm_J7_fill_d0a16 s m args below meth c H locs 0 0 (MQ below (zQv (dC, dI) (x_ty cI cJ) (x_W ad cI cJ) (zAW x_n ad s.heap.size) Q) args s 0 0 (zAW x_n ad s.heap.size)) (F0 m 6 ls [])) : ∀ (x1 : Int64) (x3 : Int32) (x4 : Int32) (σ : zSt) (H : Heap) (locs : List Loc) (ls : Array Slot), b_J7_fill_d0a16_3_6 N k_6 Q x1 x3 x4 σ → va_P (dC, dI) vwCl (x_W ad cI cJ σ) H → va_D (zAW x_n ad s.heap.size) (x_W ad cI cJ σ) → va_S (zAW x_n ad s.heap.size) s.heap H locs → lv_has ls 5 [(0, .ref (ad 48)), (1, .long x1), (3, .int x3), (4, .int x4)] → W p l e rm_J7_fill_d0a16 s m args below meth c H locs 0 0 (MQ below (zQv (dC, dI) (x_ty cI cJ) (x_W ad cI cJ) (zAW x_n ad s.heap.size) Q) args s 0 0 (zAW x_n ad s.heap.size)) (F0 m 6 ls []) := by
  obtain ⟨hx, hb, hml, hr, hown, hts, hlocks⟩ := id C0
  intro x1 x3 x4 σ H locs ls h hP hD hS hl
  unfold b_J7_fill_d0a16_3_6 at h
  refine lv_iload_n hx hb dJ7_fill_d0a16_6 rfl (lv_at hl 2 rfl) ?_
  refine lv_iload hx hb dJ7_fill_d0a16_7 (lv_at hl 3 rfl) ?_
  refine lv_icmp_ge (tgt := 22) hx hb dJ7_fill_d0a16_9 (by decide) (fun hc => ?_) (fun hc => ?_)
  · have h := h.1 hc
    exact zret_v hx hb hr hlocks hK hP hD hS h dJ7_fill_d0a16_22
  · have h := h.2 hc
    refine lv_aload_n hx hb dJ7_fill_d0a16_12 rfl (lv_at hl 0 rfl) ?_
    refine lv_iload_n hx hb dJ7_fill_d0a16_13 rfl (lv_at hl 2 rfl) ?_
    refine lv_lload_n hx hb dJ7_fill_d0a16_14 rfl (lv_at hl 1 rfl) ?_
    refine xs_48 hx hb hK hP hD hS h.1 rfl dJ7_fill_d0a16_15 (fun τ1 H locs eτ1 hP hD hS => ?_)
    have h := h.2
    have h := h τ1 eτ1
    obtain ⟨v2, ev2⟩ : ∃ z : Int32, z = x3 + (1 : Int32) := ⟨_, rfl⟩
    have h := h v2 ev2
    refine lv_iinc (v := v2) (lv' := [(3, .int v2), (0, .ref (ad 48)), (1, .long x1), (4, .int x4)]) hx hb dJ7_fill_d0a16_16 hl (k := 2) rfl (by rw [ev2]; rfl) (by decide) rfl (fun ls hl => ?_)
    refine lv_goto (tgt := 6) hx hb dJ7_fill_d0a16_19 (by decide) ?_
    exact hk_6 x1 v2 x4 τ1 _ _ _ h hP hD hS (lv_sub hl [1, 2, 0, 3] rfl)
set_option maxHeartbeats 4000000 in
set_option maxRecDepth 100000 in
theorem t_J7_fill_d0a16_3_6 (C0 : zCx p s m meth c args RJ7 cJ7_fill_d0a16 5 none vs_J7_fill_d0a16) (hK : va_K (dC, dI) vwCl (x_ty cI cJ) s) (N : Nat) {Q : zSt → Prop} : ∀ (f : Nat) (x1 : Int64) (x3 : Int32) (x4 : Int32) (σ : zSt) (H : Heap) (locs : List Loc) (ls : Array Slot), w_J7_fill_d0a16_3_6 N  Q f x1 x3 x4 σ → va_P (dC, dI) vwCl (x_W ad cI cJ σ) H → va_D (zAW x_n ad s.heap.size) (x_W ad cI cJ σ) → va_S (zAW x_n ad s.heap.size) s.heap H locs → lv_has ls 5 [(0, .ref (ad 48)), (1, .long x1), (3, .int x3), (4, .int x4)] → W p l e rm_J7_fill_d0a16 s m args below meth c H locs 0 0 (MQ below (zQv (dC, dI) (x_ty cI cJ) (x_W ad cI cJ) (zAW x_n ad s.heap.size) Q) args s 0 0 (zAW x_n ad s.heap.size)) (F0 m 6 ls []) := by
  intro f
  induction f with
  | zero => intro x1 x3 x4 σ H locs ls h; exact h.elim
  | succ f ih =>
    intro x1 x3 x4 σ H locs ls h hP hD hS hl
    exact tb_J7_fill_d0a16_3_6 C0 hK N  (k_6 := w_J7_fill_d0a16_3_6 N  Q f) ih x1 x3 x4 σ H locs ls h hP hD hS hl
set_option maxHeartbeats 4000000 in
set_option maxRecDepth 100000 in
theorem t_J7_fill_d0a16_3_0 (C0 : zCx p s m meth c args RJ7 cJ7_fill_d0a16 5 none vs_J7_fill_d0a16) (hK : va_K (dC, dI) vwCl (x_ty cI cJ) s) (N : Nat) {Q : zSt → Prop} : ∀ (x1 : Int64) (σ : zSt) (H : Heap) (locs : List Loc) (ls : Array Slot), w_J7_fill_d0a16_3 N x1 σ Q → va_P (dC, dI) vwCl (x_W ad cI cJ σ) H → va_D (zAW x_n ad s.heap.size) (x_W ad cI cJ σ) → va_S (zAW x_n ad s.heap.size) s.heap H locs → lv_has ls 5 [(0, .ref (ad 48)), (1, .long x1)] → W p l e rm_J7_fill_d0a16 s m args below meth c H locs 0 0 (MQ below (zQv (dC, dI) (x_ty cI cJ) (x_W ad cI cJ) (zAW x_n ad s.heap.size) Q) args s 0 0 (zAW x_n ad s.heap.size)) (F0 m 0 ls []) := by
  obtain ⟨hx, hb, hml, hr, hown, hts, hlocks⟩ := id C0
  intro x1 σ H locs ls h hP hD hS hl
  unfold w_J7_fill_d0a16_3 at h
  refine lv_iconst (v := (0 : Int32)) hx hb dJ7_fill_d0a16_0 (by decide) ?_
  refine lv_istore_n (lv' := [(3, .int (0 : Int32)), (0, .ref (ad 48)), (1, .long x1)]) hx hb dJ7_fill_d0a16_1 rfl hl (by decide) rfl (fun ls hl => ?_)
  refine lv_aload_n hx hb dJ7_fill_d0a16_2 rfl (lv_at hl 1 rfl) ?_
  refine xl_48 hx hb hK hP dJ7_fill_d0a16_3 ?_
  refine lv_istore (lv' := [(4, .int (8192 : Int32)), (3, .int (0 : Int32)), (0, .ref (ad 48)), (1, .long x1)]) hx hb dJ7_fill_d0a16_4 hl (by decide) rfl (fun ls hl => ?_)
  exact t_J7_fill_d0a16_3_6 C0 hK N  N x1 (0 : Int32) (8192 : Int32) σ _ _ _ h hP hD hS (lv_sub hl [2, 3, 1, 0] rfl)
set_option maxHeartbeats 4000000 in
set_option maxRecDepth 100000 in
theorem c_J7_fill_d0a16_3 (N : Nat) (l : Launch) (dC : Nat → ClassId) (dI : Nat → Nat → Nat) (ad : Nat → Nat) (cI cJ : ClassId) (sz : Nat) (σ : zSt) (x1 : Int64) (Q : zSt → Prop) (h : w_J7_fill_d0a16_3 N x1 σ Q) : Met l yJ7_fill_d0a16 vs_J7_fill_d0a16 rm_J7_fill_d0a16 (va_Pc [.ref (ad 48), .long x1] (zPc (dC, dI) (x_ty cI cJ) (x_W ad cI cJ) sz σ)) (zQv (dC, dI) (x_ty cI cJ) (x_W ad cI cJ) (zAW x_n ad sz) Q) 0 0 (zAW x_n ad sz) := by
  refine Met.ofW (cc := cJ7_fill_d0a16) (maxL := 5) (ret := none) (by decide) rfl ?_
  intro p e s m args below meth c s₁ B hml hv
  obtain ⟨rfl, hsz, hP, hK, hD0⟩ := hv
  subst hsz
  have C0 : zCx p s m meth c _ RJ7 cJ7_fill_d0a16 5 none vs_J7_fill_d0a16 := ⟨B.exec, B.bytes, hml, B.returns, findClass_of_methodNamed B.named, atoms_spec (ws := vs_J7_fill_d0a16) B.pre, B.notSynchronized⟩
  have hD := x_D0 (n0 := s.heap.size) hD0
  have hl := lv_entry ([.ref (ad 48), .long x1]) (n := 5) (Nat.le_of_ble_eq_true rfl)
  rw [lg_entry_eq]
  generalize (lg_sl ([.ref (ad 48), .long x1]) ++ List.replicate (5 - (lg_sl ([.ref (ad 48), .long x1])).length) Slot.unset).toArray = ls at hl ⊢
  exact t_J7_fill_d0a16_3_0 C0 hK N x1 σ _ _ ls h hP hD va_S.rf hl
theorem k_J7_fill_d0a16_3 (N : Nat) {R : Room} {H : Heap} {locs : List Loc} {cells slots : Nat} {Q2 : State → Prop} {cc : ByteArray} {nL pc index : Nat} {ls : Array Slot} {rest : List Value} {own : String} {c0 : Cond} {σ : zSt} {x1 : Int64} {Q : zSt → Prop} (S0 : CallFix p m c cc nL s args (c0 :: zT) own) (hml : Cond.methodLink own index yJ7_fill_d0a16 ∈ zT) (hR : rm_J7_fill_d0a16.frames + 1 ≤ R.frames ∧ 8 + (5 + 11) + rm_J7_fill_d0a16.locals ≤ R.locals) (h : w_J7_fill_d0a16_3 N x1 σ Q) (hK : va_K (dC, dI) vwCl (x_ty cI cJ) s) (hP : va_P (dC, dI) vwCl (x_W ad cI cJ σ) H) (hD : va_D (zAW x_n ad s.heap.size) (x_W ad cI cJ σ)) (hS : va_S (zAW x_n ad s.heap.size) s.heap H locs) (hsz : ls.size = nL) (hW : (rest.map fun v => v.category).sum ≤ 8) (hcs : cells ≤ R.cells ∧ slots ≤ R.slots) (hdg : decode cc pc = .ok (.invokestatic index, 3)) (kk : ∀ (τ : zSt) (H1 : Heap) (locs1 : List Loc), Q τ → va_P (dC, dI) vwCl (x_W ad cI cJ τ) H1 → va_D (zAW x_n ad s.heap.size) (x_W ad cI cJ τ) → va_S (zAW x_n ad s.heap.size) s.heap H1 locs1 → W p l e R s m args below meth c H1 locs1 cells slots Q2 (F0 m (pc + 3) ls (rest))) : W p l e R s m args below meth c H locs cells slots Q2 (F0 m pc ls (.long x1 :: .ref (ad 48) :: rest)) :=
  zcs_v [.ref (ad 48), .long x1] S0 (c_J7_fill_d0a16_3 N l dC dI ad cI cJ H.size σ x1 Q h) (cw_J7_fill_d0a16 S0.2.2.2.2 hml hR) hK hP hD hS rfl hsz hW rfl hcs hdg kk
end q03
section q03
def w_X10_startAnew (N : Nat)  (σ : zSt) (Q : zSt → Prop) : Prop :=
  ∀ τ1 : zSt, τ1 = zI σ 25 (0 : Int32) → ∀ τ2 : zSt, τ2 = zJ τ1 4 (-1 : Int64) → w_X10_pretend N (-1 : Int32) (0 : Int32) τ2 (fun τ4 => w_J7_fill_d0a16_3 N (-1 : Int64) τ4 (fun τ6 => Q τ6))
variable {p : Program} {l : Launch} {e : Env} {s : State} {m : MethodId} {args : Array Value} {below : List Frame} {meth : Method} {c : Code} {dC : Nat → ClassId} {dI : Nat → Nat → Nat} {ad : Nat → Nat} {cI cJ : ClassId}
set_option maxHeartbeats 4000000 in
set_option maxRecDepth 100000 in
theorem t_X10_startAnew_0 (C0 : zCx p s m meth c args RX10 cX10_startAnew 1 none vs_X10_startAnew) (hK : va_K (dC, dI) vwCl (x_ty cI cJ) s) (N : Nat) {Q : zSt → Prop} : ∀  (σ : zSt) (H : Heap) (locs : List Loc) (ls : Array Slot), w_X10_startAnew N  σ Q → va_P (dC, dI) vwCl (x_W ad cI cJ σ) H → va_D (zAW x_n ad s.heap.size) (x_W ad cI cJ σ) → va_S (zAW x_n ad s.heap.size) s.heap H locs → lv_has ls 1 [(0, .ref (ad 9))] → W p l e rm_X10_startAnew s m args below meth c H locs 0 0 (MQ below (zQv (dC, dI) (x_ty cI cJ) (x_W ad cI cJ) (zAW x_n ad s.heap.size) Q) args s 0 0 (zAW x_n ad s.heap.size)) (F0 m 0 ls []) := by
  obtain ⟨hx, hb, hml, hr, hown, hts, hlocks⟩ := id C0
  intro  σ H locs ls h hP hD hS hl
  unfold w_X10_startAnew at h
  refine lv_aload_n hx hb dX10_startAnew_0 rfl (lv_at hl 0 rfl) ?_
  refine lv_iconst (v := (0 : Int32)) hx hb dX10_startAnew_1 (by decide) ?_
  refine xp_9_6 hx hb hts hown hK hP hD hS mw_206 dX10_startAnew_2 (fun τ1 H locs eτ1 hP hD hS => ?_)
  have h := h τ1 eτ1
  refine lv_aload_n hx hb dX10_startAnew_5 rfl (lv_at hl 0 rfl) ?_
  refine lv_ldc2 (v := (-1 : Int64)) hx hb hown (hts _ (List.mem_cons_of_mem _ mw_283)) dX10_startAnew_6 ?_
  refine xp_9_9 hx hb hts hown hK hP hD hS mw_210 dX10_startAnew_9 (fun τ2 H locs eτ2 hP hD hS => ?_)
  have h := h τ2 eτ2
  refine lv_aload_n hx hb dX10_startAnew_12 rfl (lv_at hl 0 rfl) ?_
  refine lv_iconst (v := (-1 : Int32)) hx hb dX10_startAnew_13 (by decide) ?_
  refine lv_iconst (v := (0 : Int32)) hx hb dX10_startAnew_14 (by decide) ?_
  refine k_X10_pretend N ⟨hx, hb, hml, hown, hts⟩ mw_284 ⟨Nat.le_of_ble_eq_true rfl, Nat.le_of_ble_eq_true rfl⟩ h hK hP hD hS hl.1 (rest := []) (Nat.le_of_ble_eq_true rfl) ⟨Nat.le_of_ble_eq_true rfl, Nat.le_of_ble_eq_true rfl⟩ dX10_startAnew_15 (fun τ4 H locs h hP hD hS => ?_)
  refine lv_aload_n hx hb dX10_startAnew_18 rfl (lv_at hl 0 rfl) ?_
  refine xg_9_2 hx hb hts hown hK hP mw_201 dX10_startAnew_19 ?_
  refine lv_ldc2 (v := (-1 : Int64)) hx hb hown (hts _ (List.mem_cons_of_mem _ mw_283)) dX10_startAnew_22 ?_
  refine k_J7_fill_d0a16_3 N ⟨hx, hb, hml, hown, hts⟩ mw_288 ⟨Nat.le_of_ble_eq_true rfl, Nat.le_of_ble_eq_true rfl⟩ h hK hP hD hS hl.1 (rest := []) (Nat.le_of_ble_eq_true rfl) ⟨Nat.le_of_ble_eq_true rfl, Nat.le_of_ble_eq_true rfl⟩ dX10_startAnew_25 (fun τ6 H locs h hP hD hS => ?_)
  exact zret_v hx hb hr hlocks hK hP hD hS h dX10_startAnew_28
set_option maxHeartbeats 4000000 in
set_option maxRecDepth 100000 in
theorem c_X10_startAnew (N : Nat) (l : Launch) (dC : Nat → ClassId) (dI : Nat → Nat → Nat) (ad : Nat → Nat) (cI cJ : ClassId) (sz : Nat) (σ : zSt)  (Q : zSt → Prop) (h : w_X10_startAnew N  σ Q) : Met l yX10_startAnew vs_X10_startAnew rm_X10_startAnew (va_Pc [.ref (ad 9)] (zPc (dC, dI) (x_ty cI cJ) (x_W ad cI cJ) sz σ)) (zQv (dC, dI) (x_ty cI cJ) (x_W ad cI cJ) (zAW x_n ad sz) Q) 0 0 (zAW x_n ad sz) := by
  refine Met.ofW (cc := cX10_startAnew) (maxL := 1) (ret := none) (by decide) rfl ?_
  intro p e s m args below meth c s₁ B hml hv
  obtain ⟨rfl, hsz, hP, hK, hD0⟩ := hv
  subst hsz
  have C0 : zCx p s m meth c _ RX10 cX10_startAnew 1 none vs_X10_startAnew := ⟨B.exec, B.bytes, hml, B.returns, findClass_of_methodNamed B.named, atoms_spec (ws := vs_X10_startAnew) B.pre, B.notSynchronized⟩
  have hD := x_D0 (n0 := s.heap.size) hD0
  have hl := lv_entry ([.ref (ad 9)]) (n := 1) (Nat.le_of_ble_eq_true rfl)
  rw [lg_entry_eq]
  generalize (lg_sl ([.ref (ad 9)]) ++ List.replicate (1 - (lg_sl ([.ref (ad 9)])).length) Slot.unset).toArray = ls at hl ⊢
  exact t_X10_startAnew_0 C0 hK N  σ _ _ ls h hP hD va_S.rf hl
theorem k_X10_startAnew (N : Nat) {R : Room} {H : Heap} {locs : List Loc} {cells slots : Nat} {Q2 : State → Prop} {cc : ByteArray} {nL pc index : Nat} {ls : Array Slot} {rest : List Value} {own : String} {c0 : Cond} {σ : zSt}  {Q : zSt → Prop} (S0 : CallFix p m c cc nL s args (c0 :: zT) own) (hml : Cond.methodLink own index yX10_startAnew ∈ zT) (hR : rm_X10_startAnew.frames + 1 ≤ R.frames ∧ 8 + (1 + 11) + rm_X10_startAnew.locals ≤ R.locals) (h : w_X10_startAnew N  σ Q) (hK : va_K (dC, dI) vwCl (x_ty cI cJ) s) (hP : va_P (dC, dI) vwCl (x_W ad cI cJ σ) H) (hD : va_D (zAW x_n ad s.heap.size) (x_W ad cI cJ σ)) (hS : va_S (zAW x_n ad s.heap.size) s.heap H locs) (hsz : ls.size = nL) (hW : (rest.map fun v => v.category).sum ≤ 8) (hcs : cells ≤ R.cells ∧ slots ≤ R.slots) (hdg : decode cc pc = .ok (.invokevirtual index, 3)) (kk : ∀ (τ : zSt) (H1 : Heap) (locs1 : List Loc), Q τ → va_P (dC, dI) vwCl (x_W ad cI cJ τ) H1 → va_D (zAW x_n ad s.heap.size) (x_W ad cI cJ τ) → va_S (zAW x_n ad s.heap.size) s.heap H1 locs1 → W p l e R s m args below meth c H1 locs1 cells slots Q2 (F0 m (pc + 3) ls (rest))) : W p l e R s m args below meth c H locs cells slots Q2 (F0 m pc ls (.ref (ad 9) :: rest)) :=
  zcv_v (T := TX10) (N' := 10) (k := 9) (ci := 10) (fs := x_f9 ad σ) [] S0 (c_X10_startAnew N l dC dI ad cI cJ H.size σ  Q h) (cw_X10_startAnew S0.2.2.2.2 hml rfl rfl hR) rfl rfl hK hP hD hS rfl hsz hW rfl hcs hdg kk
end q03
