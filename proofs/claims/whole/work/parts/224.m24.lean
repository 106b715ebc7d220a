section q24
end q24
section q24
def w_X12_ring (N : Nat) (x1 : Int32) (σ : zSt) (Q : Int64 → zSt → Prop) : Prop :=
  ((σ.1 25) = 0 → Q (-1 : Int64) σ) ∧ (¬ (σ.1 25) = 0 → (x1 = 0 → Q (σ.1 26).toInt64 σ) ∧ (¬ x1 = 0 → (x1 = (1 : Int32) → Q (σ.2.1 5) σ) ∧ (¬ x1 = (1 : Int32) → Q (-1 : Int64) σ)))
variable {p : Program} {l : Launch} {e : Env} {s : State} {m : MethodId} {args : Array Value} {below : List Frame} {meth : Method} {c : Code} {dC : Nat → ClassId} {dI : Nat → Nat → Nat} {ad : Nat → Nat} {cI cJ cC : ClassId}
set_option maxHeartbeats 4000000 in
set_option maxRecDepth 100000 in
theorem t_X12_ring_0 (C0 : zCx p s m meth c args RX12 cX12_ring 2 (some .long) vs_X12_ring) (hK : va_K (dC, dI) vwCl (m_ty cI cJ cC) s) (N : Nat) {Q : Int64 → zSt → Prop} : ∀ (x1 : Int32) (σ : zSt) (H : Heap) (locs : List Loc) (ls : Array Slot), w_X12_ring N x1 σ Q → va_P (dC, dI) vwCl (m_W ad cI cJ cC σ) H → va_D (zAW m_n ad s.heap.size) (m_W ad cI cJ cC σ) → va_S (zAW m_n ad s.heap.size) s.heap H locs → lv_has ls 2 [(0, .ref (ad 0)), (1, .int x1)] → W p l e rm_X12_ring s m args below meth c H locs 0 0 (MQ below (zQl (dC, dI) (m_ty cI cJ cC) (m_W ad cI cJ cC) (zAW m_n ad s.heap.size) Q) args s 0 0 (zAW m_n ad s.heap.size)) (F0 m 0 ls []) := by
  obtain ⟨hx, hb, hml, hr, hown, hts, hlocks⟩ := id C0
  intro x1 σ H locs ls h hP hD hS hl
  unfold w_X12_ring at h
  refine lv_aload_n hx hb dX12_ring_0 rfl (lv_at hl 0 rfl) ?_
  refine mg_0_70 hx hb hts hown hK hP mw_903 dX12_ring_1 ?_
  refine lv_if_ne (tgt := 13) hx hb dX12_ring_4 (by decide) (fun hc => ?_) (fun hc => ?_)
  · have h := h.2 hc
    refine lv_iload_n hx hb dX12_ring_13 rfl (lv_at hl 1 rfl) ?_
    refine lv_if_ne (tgt := 25) hx hb dX12_ring_14 (by decide) (fun hc => ?_) (fun hc => ?_)
    · have h := h.2 hc
      refine lv_iload_n hx hb dX12_ring_25 rfl (lv_at hl 1 rfl) ?_
      refine lv_iconst (v := (1 : Int32)) hx hb dX12_ring_26 (by decide) ?_
      refine lv_icmp_ne (tgt := 37) hx hb dX12_ring_27 (by decide) (fun hc => ?_) (fun hc => ?_)
      · have h := h.2 hc
        refine lv_ldc2 (v := (-1 : Int64)) hx hb hown (hts _ (List.mem_cons_of_mem _ mw_832)) dX12_ring_37 ?_
        exact zret_l hx hb hr hlocks hK hP hD hS h dX12_ring_40
      · have h := h.1 hc
        refine lv_aload_n hx hb dX12_ring_30 rfl (lv_at hl 0 rfl) ?_
        refine mg_0_72 hx hb hts hown hK hP mw_905 dX12_ring_31 ?_
        refine lv_goto (tgt := 40) hx hb dX12_ring_34 (by decide) ?_
        exact zret_l hx hb hr hlocks hK hP hD hS h dX12_ring_40
    · have h := h.1 hc
      refine lv_aload_n hx hb dX12_ring_17 rfl (lv_at hl 0 rfl) ?_
      refine mg_0_71 hx hb hts hown hK hP mw_904 dX12_ring_18 ?_
      refine lv_i2l hx hb dX12_ring_21 rfl ?_
      refine lv_goto (tgt := 40) hx hb dX12_ring_22 (by decide) ?_
      exact zret_l hx hb hr hlocks hK hP hD hS h dX12_ring_40
  · have h := h.1 hc
    refine lv_ldc2 (v := (-1 : Int64)) hx hb hown (hts _ (List.mem_cons_of_mem _ mw_832)) dX12_ring_7 ?_
    refine lv_goto (tgt := 40) hx hb dX12_ring_10 (by decide) ?_
    exact zret_l hx hb hr hlocks hK hP hD hS h dX12_ring_40
set_option maxHeartbeats 4000000 in
set_option maxRecDepth 100000 in
theorem c_X12_ring (N : Nat) (l : Launch) (dC : Nat → ClassId) (dI : Nat → Nat → Nat) (ad : Nat → Nat) (cI cJ cC : ClassId) (sz : Nat) (σ : zSt) (x1 : Int32) (Q : Int64 → zSt → Prop) (h : w_X12_ring N x1 σ Q) : Met l yX12_ring vs_X12_ring rm_X12_ring (va_Pc [.ref (ad 0), .int x1] (zPc (dC, dI) (m_ty cI cJ cC) (m_W ad cI cJ cC) sz σ)) (zQl (dC, dI) (m_ty cI cJ cC) (m_W ad cI cJ cC) (zAW m_n ad sz) Q) 0 0 (zAW m_n ad sz) := by
  refine Met.ofW (cc := cX12_ring) (maxL := 2) (ret := (some .long)) (by decide) rfl ?_
  intro p e s m args below meth c s₁ B hml hv
  obtain ⟨rfl, hsz, hP, hK, hD0⟩ := hv
  subst hsz
  have C0 : zCx p s m meth c _ RX12 cX12_ring 2 (some .long) vs_X12_ring := ⟨B.exec, B.bytes, hml, B.returns, findClass_of_methodNamed B.named, atoms_spec (ws := vs_X12_ring) B.pre, B.notSynchronized⟩
  have hD := m_D0 (n0 := s.heap.size) hD0
  have hl := lv_entry ([.ref (ad 0), .int x1]) (n := 2) (Nat.le_of_ble_eq_true rfl)
  rw [lg_entry_eq]
  generalize (lg_sl ([.ref (ad 0), .int x1]) ++ List.replicate (2 - (lg_sl ([.ref (ad 0), .int x1])).length) Slot.unset).toArray = ls at hl ⊢
  exact t_X12_ring_0 C0 hK N x1 σ _ _ ls h hP hD va_S.rf hl
theorem k_X12_ring (N : Nat) {R : Room} {H : Heap} {locs : List Loc} {cells slots : Nat} {Q2 : State → Prop} {cc : ByteArray} {nL pc index : Nat} {ls : Array Slot} {rest : List Value} {own : String} {c0 : Cond} {σ : zSt} {x1 : Int32} {Q : Int64 → zSt → Prop} (S0 : CallFix p m c cc nL s args (c0 :: zT) own) (hml : Cond.methodLink own index yX12_ring ∈ zT) (hR : rm_X12_ring.frames + 1 ≤ R.frames ∧ 8 + (2 + 11) + rm_X12_ring.locals ≤ R.locals) (h : w_X12_ring N x1 σ Q) (hK : va_K (dC, dI) vwCl (m_ty cI cJ cC) s) (hP : va_P (dC, dI) vwCl (m_W ad cI cJ cC σ) H) (hD : va_D (zAW m_n ad s.heap.size) (m_W ad cI cJ cC σ)) (hS : va_S (zAW m_n ad s.heap.size) s.heap H locs) (hsz : ls.size = nL) (hW : (rest.map fun v => v.category).sum ≤ 8) (hcs : cells ≤ R.cells ∧ slots ≤ R.slots) (hdg : decode cc pc = .ok (.invokevirtual index, 3)) (kk : ∀ (r : Int64) (τ : zSt) (H1 : Heap) (locs1 : List Loc), Q r τ → va_P (dC, dI) vwCl (m_W ad cI cJ cC τ) H1 → va_D (zAW m_n ad s.heap.size) (m_W ad cI cJ cC τ) → va_S (zAW m_n ad s.heap.size) s.heap H1 locs1 → W p l e R s m args below meth c H1 locs1 cells slots Q2 (F0 m (pc + 3) ls (.long r :: rest))) : W p l e R s m args below meth c H locs cells slots Q2 (F0 m pc ls (.int x1 :: .ref (ad 0) :: rest)) :=
  zcv_l (T := TX12) (N' := 83) (k := 0) (ci := 12) (fs := m_f0 ad σ) [.int x1] S0 (c_X12_ring N l dC dI ad cI cJ cC H.size σ x1 Q h) (cw_X12_ring S0.2.2.2.2 hml rfl rfl hR) rfl rfl hK hP hD hS rfl hsz hW rfl hcs hdg kk
end q24
section q24
def w_X12_areFew (N : Nat)  (σ : zSt) (Q : Int32 → zSt → Prop) : Prop :=
  w_X12_many N σ (fun r1 τ2 => w_X12_isIn N r1.toInt64 (2 : Int64) (5 : Int64) τ2 (fun r3 τ4 => (zb r3) ∧ Q r3 τ4))
variable {p : Program} {l : Launch} {e : Env} {s : State} {m : MethodId} {args : Array Value} {below : List Frame} {meth : Method} {c : Code} {dC : Nat → ClassId} {dI : Nat → Nat → Nat} {ad : Nat → Nat} {cI cJ cC : ClassId}
set_option maxHeartbeats 4000000 in
set_option maxRecDepth 100000 in
theorem t_X12_areFew_0 (C0 : zCx p s m meth c args RX12 cX12_areFew 1 (some .boolean) vs_X12_areFew) (hK : va_K (dC, dI) vwCl (m_ty cI cJ cC) s) (N : Nat) {Q : Int32 → zSt → Prop} : ∀  (σ : zSt) (H : Heap) (locs : List Loc) (ls : Array Slot), w_X12_areFew N  σ Q → va_P (dC, dI) vwCl (m_W ad cI cJ cC σ) H → va_D (zAW m_n ad s.heap.size) (m_W ad cI cJ cC σ) → va_S (zAW m_n ad s.heap.size) s.heap H locs → lv_has ls 1 [(0, .ref (ad 0))] → W p l e rm_X12_areFew s m args below meth c H locs 0 0 (MQ below (zQi (dC, dI) (m_ty cI cJ cC) (m_W ad cI cJ cC) (zAW m_n ad s.heap.size) Q) args s 0 0 (zAW m_n ad s.heap.size)) (F0 m 0 ls []) := by
  obtain ⟨hx, hb, hml, hr, hown, hts, hlocks⟩ := id C0
  intro  σ H locs ls h hP hD hS hl
  unfold w_X12_areFew at h
  refine lv_aload_n hx hb dX12_areFew_0 rfl (lv_at hl 0 rfl) ?_
  refine k_X12_many N ⟨hx, hb, hml, hown, hts⟩ mw_1044 ⟨Nat.le_of_ble_eq_true rfl, Nat.le_of_ble_eq_true rfl⟩ h hK hP hD hS hl.1 (rest := []) (Nat.le_of_ble_eq_true rfl) ⟨Nat.le_of_ble_eq_true rfl, Nat.le_of_ble_eq_true rfl⟩ dX12_areFew_1 (fun r1 τ2 H locs h hP hD hS => ?_)
  refine lv_i2l hx hb dX12_areFew_4 rfl ?_
  refine lv_ldc2 (v := (2 : Int64)) hx hb hown (hts _ (List.mem_cons_of_mem _ mw_1229)) dX12_areFew_5 ?_
  refine lv_ldc2 (v := (5 : Int64)) hx hb hown (hts _ (List.mem_cons_of_mem _ mw_1060)) dX12_areFew_8 ?_
  refine k_X12_isIn N ⟨hx, hb, hml, hown, hts⟩ mw_970 ⟨Nat.le_of_ble_eq_true rfl, Nat.le_of_ble_eq_true rfl⟩ h hK hP hD hS hl.1 (rest := []) (Nat.le_of_ble_eq_true rfl) ⟨Nat.le_of_ble_eq_true rfl, Nat.le_of_ble_eq_true rfl⟩ dX12_areFew_11 (fun r3 τ4 H locs h hP hD hS => ?_)
  exact zret_z hx hb hr hlocks hK hP hD hS h.1 h.2 dX12_areFew_14
set_option maxHeartbeats 4000000 in
set_option maxRecDepth 100000 in
theorem c_X12_areFew (N : Nat) (l : Launch) (dC : Nat → ClassId) (dI : Nat → Nat → Nat) (ad : Nat → Nat) (cI cJ cC : ClassId) (sz : Nat) (σ : zSt)  (Q : Int32 → zSt → Prop) (h : w_X12_areFew N  σ Q) : Met l yX12_areFew vs_X12_areFew rm_X12_areFew (va_Pc [.ref (ad 0)] (zPc (dC, dI) (m_ty cI cJ cC) (m_W ad cI cJ cC) sz σ)) (zQi (dC, dI) (m_ty cI cJ cC) (m_W ad cI cJ cC) (zAW m_n ad sz) Q) 0 0 (zAW m_n ad sz) := by
  refine Met.ofW (cc := cX12_areFew) (maxL := 1) (ret := (some .boolean)) (by decide) rfl ?_
  intro p e s m args below meth c s₁ B hml hv
  obtain ⟨rfl, hsz, hP, hK, hD0⟩ := hv
  subst hsz
  have C0 : zCx p s m meth c _ RX12 cX12_areFew 1 (some .boolean) vs_X12_areFew := ⟨B.exec, B.bytes, hml, B.returns, findClass_of_methodNamed B.named, atoms_spec (ws := vs_X12_areFew) B.pre, B.notSynchronized⟩
  have hD := m_D0 (n0 := s.heap.size) hD0
  have hl := lv_entry ([.ref (ad 0)]) (n := 1) (Nat.le_of_ble_eq_true rfl)
  rw [lg_entry_eq]
  generalize (lg_sl ([.ref (ad 0)]) ++ List.replicate (1 - (lg_sl ([.ref (ad 0)])).length) Slot.unset).toArray = ls at hl ⊢
  exact t_X12_areFew_0 C0 hK N  σ _ _ ls h hP hD va_S.rf hl
theorem k_X12_areFew (N : Nat) {R : Room} {H : Heap} {locs : List Loc} {cells slots : Nat} {Q2 : State → Prop} {cc : ByteArray} {nL pc index : Nat} {ls : Array Slot} {rest : List Value} {own : String} {c0 : Cond} {σ : zSt}  {Q : Int32 → zSt → Prop} (S0 : CallFix p m c cc nL s args (c0 :: zT) own) (hml : Cond.methodLink own index yX12_areFew ∈ zT) (hR : rm_X12_areFew.frames + 1 ≤ R.frames ∧ 8 + (1 + 11) + rm_X12_areFew.locals ≤ R.locals) (h : w_X12_areFew N  σ Q) (hK : va_K (dC, dI) vwCl (m_ty cI cJ cC) s) (hP : va_P (dC, dI) vwCl (m_W ad cI cJ cC σ) H) (hD : va_D (zAW m_n ad s.heap.size) (m_W ad cI cJ cC σ)) (hS : va_S (zAW m_n ad s.heap.size) s.heap H locs) (hsz : ls.size = nL) (hW : (rest.map fun v => v.category).sum ≤ 8) (hcs : cells ≤ R.cells ∧ slots ≤ R.slots) (hdg : decode cc pc = .ok (.invokevirtual index, 3)) (kk : ∀ (r : Int32) (τ : zSt) (H1 : Heap) (locs1 : List Loc), Q r τ → va_P (dC, dI) vwCl (m_W ad cI cJ cC τ) H1 → va_D (zAW m_n ad s.heap.size) (m_W ad cI cJ cC τ) → va_S (zAW m_n ad s.heap.size) s.heap H1 locs1 → W p l e R s m args below meth c H1 locs1 cells slots Q2 (F0 m (pc + 3) ls (.int r :: rest))) : W p l e R s m args below meth c H locs cells slots Q2 (F0 m pc ls (.ref (ad 0) :: rest)) :=
  zcv_i (T := TX12) (N' := 83) (k := 0) (ci := 12) (fs := m_f0 ad σ) [] S0 (c_X12_areFew N l dC dI ad cI cJ cC H.size σ  Q h) (cw_X12_areFew S0.2.2.2.2 hml rfl rfl hR) rfl rfl hK hP hD hS rfl hsz hW rfl hcs hdg kk
end q24
section q24
def b_X12_beginsOrder_2 (N : Nat) (k_2 : Int32 → Int32 → zSt → Prop) (Q : zSt → Prop) (x1 : Int32) (x2 : Int32) (σ : zSt) : Prop :=
  (x1 ≤ x2 → Q σ) ∧ (¬ x1 ≤ x2 → (vp_in x2 5) ∧ (∀ τ1 : zSt, τ1 = zA σ 15 (upd (σ.2.2.1 15) (x2.toNatClampNeg) x2) → ∀ v2 : Int32, v2 = x2 + (1 : Int32) → k_2 x1 v2 τ1))
def w_X12_beginsOrder_2 (N : Nat) (Q : zSt → Prop) : Nat → Int32 → Int32 → zSt → Prop
  | 0 => fun _ _ _ => False
  | f + 1 => b_X12_beginsOrder_2 N (w_X12_beginsOrder_2 N  Q f) Q
def w_X12_beginsOrder (N : Nat) (x1 : Int32) (σ : zSt) (Q : zSt → Prop) : Prop :=
  w_X12_beginsOrder_2 N Q N x1 (0 : Int32) σ
variable {p : Program} {l : Launch} {e : Env} {s : State} {m : MethodId} {args : Array Value} {below : List Frame} {meth : Method} {c : Code} {dC : Nat → ClassId} {dI : Nat → Nat → Nat} {ad : Nat → Nat} {cI cJ cC : ClassId}
set_option maxHeartbeats 4000000 in
set_option maxRecDepth 100000 in
theorem tb_X12_beginsOrder_2 (C0 : zCx p s m meth c args RX12 cX12_beginsOrder 3 none vs_X12_beginsOrder) (hK : va_K (dC, dI) vwCl (m_ty cI cJ cC) s) (N : Nat) {Q : zSt → Prop} {k_2 : Int32 → Int32 → zSt → Prop} (hk_2 : ∀ (x1 : Int32) (x2 : Int32) (σ : zSt) (H : Heap) (locs : List Loc) (ls : Array Slot), k_2 x1 x2 σ → va_P (dC, dI) vwCl (m_W ad cI cJ cC σ) H → va_D (zAW m_n ad s.heap.size) (m_W ad cI cJ cC σ) → va_S (zAW m_n ad s.heap.size) s.heap H locs → lv_has ls 3 [(0, .ref (ad 0)), (1, .int x1), (2, .int x2)] → W p l e rm_X12_beginsOrder s m args below meth c H locs 0 0 (MQ below (zQv (dC, dI) (m_ty cI cJ cC) (m_W ad cI cJ cC) (zAW m_n ad s.heap.size) Q) args s 0 0 (zAW m_n ad s.heap.size)) (F0 m 2 ls [])) : ∀ (x1 : Int32) (x2 : Int32) (σ : zSt) (H : Heap) (locs : List Loc) (ls : Array Slot), b_X12_beginsOrder_2 N k_2 Q x1 x2 σ → va_P (dC, dI) vwCl (m_W ad cI cJ cC σ) H → va_D (zAW m_n ad s.heap.size) (m_W ad cI cJ cC σ) → va_S (zAW m_n ad s.heap.size) s.heap H locs → lv_has ls 3 [(0, .ref (ad 0)), (1, .int x1), (2, .int x2)] → W p l e rm_X12_beginsOrder s m args below meth c H locs 0 0 (MQ below (zQv (dC, dI) (m_ty cI cJ cC) (m_W ad cI cJ cC) (zAW m_n ad s.heap.size) Q) args s 0 0 (zAW m_n ad s.heap.size)) (F0 m 2 ls []) := by
  obtain ⟨hx, hb, hml, hr, hown, hts, hlocks⟩ := id C0
  intro x1 x2 σ H locs ls h hP hD hS hl
  unfold b_X12_beginsOrder_2 at h
  refine lv_iload_n hx hb dX12_beginsOrder_2 rfl (lv_at hl 2 rfl) ?_
  refine lv_iload_n hx hb dX12_beginsOrder_3 rfl (lv_at hl 1 rfl) ?_
  refine lv_icmp_ge (tgt := 20) hx hb dX12_beginsOrder_4 (by decide) (fun hc => ?_) (fun hc => ?_)
  · have h := h.1 hc
    exact zret_v hx hb hr hlocks hK hP hD hS h dX12_beginsOrder_20
  · have h := h.2 hc
    refine lv_aload_n hx hb dX12_beginsOrder_7 rfl (lv_at hl 0 rfl) ?_
    refine mg_0_75 hx hb hts hown hK hP mw_908 dX12_beginsOrder_8 ?_
    refine lv_iload_n hx hb dX12_beginsOrder_11 rfl (lv_at hl 2 rfl) ?_
    refine lv_iload_n hx hb dX12_beginsOrder_12 rfl (lv_at hl 2 rfl) ?_
    refine ms_23 hx hb hK hP hD hS h.1 rfl dX12_beginsOrder_13 (fun τ1 H locs eτ1 hP hD hS => ?_)
    have h := h.2
    have h := h τ1 eτ1
    obtain ⟨v2, ev2⟩ : ∃ z : Int32, z = x2 + (1 : Int32) := ⟨_, rfl⟩
    have h := h v2 ev2
    refine lv_iinc (v := v2) (lv' := [(2, .int v2), (0, .ref (ad 0)), (1, .int x1)]) hx hb dX12_beginsOrder_14 hl (k := 2) rfl (by rw [ev2]; rfl) (by decide) rfl (fun ls hl => ?_)
    refine lv_goto (tgt := 2) hx hb dX12_beginsOrder_17 (by decide) ?_
    exact hk_2 x1 v2 τ1 _ _ _ h hP hD hS (lv_sub hl [1, 2, 0] rfl)
set_option maxHeartbeats 4000000 in
set_option maxRecDepth 100000 in
theorem t_X12_beginsOrder_2 (C0 : zCx p s m meth c args RX12 cX12_beginsOrder 3 none vs_X12_beginsOrder) (hK : va_K (dC, dI) vwCl (m_ty cI cJ cC) s) (N : Nat) {Q : zSt → Prop} : ∀ (f : Nat) (x1 : Int32) (x2 : Int32) (σ : zSt) (H : Heap) (locs : List Loc) (ls : Array Slot), w_X12_beginsOrder_2 N  Q f x1 x2 σ → va_P (dC, dI) vwCl (m_W ad cI cJ cC σ) H → va_D (zAW m_n ad s.heap.size) (m_W ad cI cJ cC σ) → va_S (zAW m_n ad s.heap.size) s.heap H locs → lv_has ls 3 [(0, .ref (ad 0)), (1, .int x1), (2, .int x2)] → W p l e rm_X12_beginsOrder s m args below meth c H locs 0 0 (MQ below (zQv (dC, dI) (m_ty cI cJ cC) (m_W ad cI cJ cC) (zAW m_n ad s.heap.size) Q) args s 0 0 (zAW m_n ad s.heap.size)) (F0 m 2 ls []) := by
  intro f
  induction f with
  | zero => intro x1 x2 σ H locs ls h; exact h.elim
  | succ f ih =>
    intro x1 x2 σ H locs ls h hP hD hS hl
    exact tb_X12_beginsOrder_2 C0 hK N  (k_2 := w_X12_beginsOrder_2 N  Q f) ih x1 x2 σ H locs ls h hP hD hS hl
set_option maxHeartbeats 4000000 in
set_option maxRecDepth 100000 in
theorem t_X12_beginsOrder_0 (C0 : zCx p s m meth c args RX12 cX12_beginsOrder 3 none vs_X12_beginsOrder) (hK : va_K (dC, dI) vwCl (m_ty cI cJ cC) s) (N : Nat) {Q : zSt → Prop} : ∀ (x1 : Int32) (σ : zSt) (H : Heap) (locs : List Loc) (ls : Array Slot), w_X12_beginsOrder N x1 σ Q → va_P (dC, dI) vwCl (m_W ad cI cJ cC σ) H → va_D (zAW m_n ad s.heap.size) (m_W ad cI cJ cC σ) → va_S (zAW m_n ad s.heap.size) s.heap H locs → lv_has ls 3 [(0, .ref (ad 0)), (1, .int x1)] → W p l e rm_X12_beginsOrder s m args below meth c H locs 0 0 (MQ below (zQv (dC, dI) (m_ty cI cJ cC) (m_W ad cI cJ cC) (zAW m_n ad s.heap.size) Q) args s 0 0 (zAW m_n ad s.heap.size)) (F0 m 0 ls []) := by
  obtain ⟨hx, hb, hml, hr, hown, hts, hlocks⟩ := id C0
  intro x1 σ H locs ls h hP hD hS hl
  unfold w_X12_beginsOrder at h
  refine lv_iconst (v := (0 : Int32)) hx hb dX12_beginsOrder_0 (by decide) ?_
  refine lv_istore_n (lv' := [(2, .int (0 : Int32)), (0, .ref (ad 0)), (1, .int x1)]) hx hb dX12_beginsOrder_1 rfl hl (by decide) rfl (fun ls hl => ?_)
  exact t_X12_beginsOrder_2 C0 hK N  N x1 (0 : Int32) σ _ _ _ h hP hD hS (lv_sub hl [1, 2, 0] rfl)
set_option maxHeartbeats 4000000 in
set_option maxRecDepth 100000 in
theorem c_X12_beginsOrder (N : Nat) (l : Launch) (dC : Nat → ClassId) (dI : Nat → Nat → Nat) (ad : Nat → Nat) (cI cJ cC : ClassId) (sz : Nat) (σ : zSt) (x1 : Int32) (Q : zSt → Prop) (h : w_X12_beginsOrder N x1 σ Q) : Met l yX12_beginsOrder vs_X12_beginsOrder rm_X12_beginsOrder (va_Pc [.ref (ad 0), .int x1] (zPc (dC, dI) (m_ty cI cJ cC) (m_W ad cI cJ cC) sz σ)) (zQv (dC, dI) (m_ty cI cJ cC) (m_W ad cI cJ cC) (zAW m_n ad sz) Q) 0 0 (zAW m_n ad sz) := by
  refine Met.ofW (cc := cX12_beginsOrder) (maxL := 3) (ret := none) (by decide) rfl ?_
  intro p e s m args below meth c s₁ B hml hv
  obtain ⟨rfl, hsz, hP, hK, hD0⟩ := hv
  subst hsz
  have C0 : zCx p s m meth c _ RX12 cX12_beginsOrder 3 none vs_X12_beginsOrder := ⟨B.exec, B.bytes, hml, B.returns, findClass_of_methodNamed B.named, atoms_spec (ws := vs_X12_beginsOrder) B.pre, B.notSynchronized⟩
  have hD := m_D0 (n0 := s.heap.size) hD0
  have hl := lv_entry ([.ref (ad 0), .int x1]) (n := 3) (Nat.le_of_ble_eq_true rfl)
  rw [lg_entry_eq]
  generalize (lg_sl ([.ref (ad 0), .int x1]) ++ List.replicate (3 - (lg_sl ([.ref (ad 0), .int x1])).length) Slot.unset).toArray = ls at hl ⊢
  exact t_X12_beginsOrder_0 C0 hK N x1 σ _ _ ls h hP hD va_S.rf hl
theorem k_X12_beginsOrder (N : Nat) {R : Room} {H : Heap} {locs : List Loc} {cells slots : Nat} {Q2 : State → Prop} {cc : ByteArray} {nL pc index : Nat} {ls : Array Slot} {rest : List Value} {own : String} {c0 : Cond} {σ : zSt} {x1 : Int32} {Q : zSt → Prop} (S0 : CallFix p m c cc nL s args (c0 :: zT) own) (hml : Cond.methodLink own index yX12_beginsOrder ∈ zT) (hR : rm_X12_beginsOrder.frames + 1 ≤ R.frames ∧ 8 + (3 + 11) + rm_X12_beginsOrder.locals ≤ R.locals) (h : w_X12_beginsOrder N x1 σ Q) (hK : va_K (dC, dI) vwCl (m_ty cI cJ cC) s) (hP : va_P (dC, dI) vwCl (m_W ad cI cJ cC σ) H) (hD : va_D (zAW m_n ad s.heap.size) (m_W ad cI cJ cC σ)) (hS : va_S (zAW m_n ad s.heap.size) s.heap H locs) (hsz : ls.size = nL) (hW : (rest.map fun v => v.category).sum ≤ 8) (hcs : cells ≤ R.cells ∧ slots ≤ R.slots) (hdg : decode cc pc = .ok (.invokevirtual index, 3)) (kk : ∀ (τ : zSt) (H1 : Heap) (locs1 : List Loc), Q τ → va_P (dC, dI) vwCl (m_W ad cI cJ cC τ) H1 → va_D (zAW m_n ad s.heap.size) (m_W ad cI cJ cC τ) → va_S (zAW m_n ad s.heap.size) s.heap H1 locs1 → W p l e R s m args below meth c H1 locs1 cells slots Q2 (F0 m (pc + 3) ls (rest))) : W p l e R s m args below meth c H locs cells slots Q2 (F0 m pc ls (.int x1 :: .ref (ad 0) :: rest)) :=
  zcv_v (T := TX12) (N' := 83) (k := 0) (ci := 12) (fs := m_f0 ad σ) [.int x1] S0 (c_X12_beginsOrder N l dC dI ad cI cJ cC H.size σ x1 Q h) (cw_X12_beginsOrder S0.2.2.2.2 hml rfl rfl hR) rfl rfl hK hP hD hS rfl hsz hW rfl hcs hdg kk
end q24
section q24
def b_X12_goesOn__100 (N : Nat) (k_100 : Int32 → Int32 → zSt → Prop) (Q : Int32 → zSt → Prop) (x5 : Int32) (x6 : Int32) (σ : zSt) : Prop :=
  (x6 ≤ x5 → Q (1 : Int32) σ) ∧ (¬ x6 ≤ x5 → (vp_in x5 5) ∧ (∀ v1 : Int32, v1 = σ.2.2.1 15 x5.toNatClampNeg → (vp_in x6 5) ∧ ((vp_in x5 5) ∧ (∀ τ2 : zSt, τ2 = zA σ 15 (upd (σ.2.2.1 15) (x5.toNatClampNeg) (σ.2.2.1 15 x6.toNatClampNeg)) → (vp_in x6 5) ∧ (∀ τ3 : zSt, τ3 = zA τ2 15 (upd (τ2.2.2.1 15) (x6.toNatClampNeg) v1) → ∀ v4 : Int32, v4 = x5 + (1 : Int32) → ∀ v5 : Int32, v5 = x6 + (-1 : Int32) → k_100 v4 v5 τ3)))))
def w_X12_goesOn__100 (N : Nat) (Q : Int32 → zSt → Prop) : Nat → Int32 → Int32 → zSt → Prop
  | 0 => fun _ _ _ => False
  | f + 1 => b_X12_goesOn__100 N (w_X12_goesOn__100 N  Q f) Q
def b_X12_goesOn__41 (N : Nat) (k_41 : Int32 → Int32 → Int32 → zSt → Prop) (Q : Int32 → zSt → Prop) (x1 : Int32) (x2 : Int32) (x3 : Int32) (σ : zSt) : Prop :=
  (vp_in x3 5) ∧ ((vp_in x2 5) ∧ (((σ.2.2.1 15 x2.toNatClampNeg) ≤ (σ.2.2.1 15 x3.toNatClampNeg) → (vp_in x2 5) ∧ (∀ v1 : Int32, v1 = σ.2.2.1 15 x2.toNatClampNeg → (vp_in x3 5) ∧ ((vp_in x2 5) ∧ (∀ τ2 : zSt, τ2 = zA σ 15 (upd (σ.2.2.1 15) (x2.toNatClampNeg) (σ.2.2.1 15 x3.toNatClampNeg)) → (vp_in x3 5) ∧ (∀ τ3 : zSt, τ3 = zA τ2 15 (upd (τ2.2.2.1 15) (x3.toNatClampNeg) v1) → ∀ v4 : Int32, v4 = x2 + (1 : Int32) → ∀ v5 : Int32, v5 = x1 - (1 : Int32) → w_X12_goesOn__100 N Q N v4 v5 τ3))))) ∧ (¬ (σ.2.2.1 15 x2.toNatClampNeg) ≤ (σ.2.2.1 15 x3.toNatClampNeg) → ∀ v6 : Int32, v6 = x3 + (-1 : Int32) → k_41 x1 x2 v6 σ)))
def w_X12_goesOn__41 (N : Nat) (Q : Int32 → zSt → Prop) : Nat → Int32 → Int32 → Int32 → zSt → Prop
  | 0 => fun _ _ _ _ => False
  | f + 1 => b_X12_goesOn__41 N (w_X12_goesOn__41 N  Q f) Q
def b_X12_goesOn__31 (N : Nat) (Q : Int32 → zSt → Prop) (x1 : Int32) (x2 : Int32) (σ : zSt) : Prop :=
  (0 ≤ x2 → ∀ v1 : Int32, v1 = x1 - (1 : Int32) → w_X12_goesOn__41 N Q N x1 x2 v1 σ) ∧ (¬ 0 ≤ x2 → Q (0 : Int32) σ)
def b_X12_goesOn__4 (N : Nat) (k_4 : Int32 → Int32 → zSt → Prop) (Q : Int32 → zSt → Prop) (x1 : Int32) (x2 : Int32) (σ : zSt) : Prop :=
  (x2 < 0 → b_X12_goesOn__31 N Q x1 x2 σ) ∧ (¬ x2 < 0 → (vp_in x2 5) ∧ ((vp_in (x2 + (1 : Int32)) 5) ∧ (((σ.2.2.1 15 x2.toNatClampNeg) ≤ (σ.2.2.1 15 (x2 + (1 : Int32)).toNatClampNeg) → b_X12_goesOn__31 N Q x1 x2 σ) ∧ (¬ (σ.2.2.1 15 x2.toNatClampNeg) ≤ (σ.2.2.1 15 (x2 + (1 : Int32)).toNatClampNeg) → ∀ v1 : Int32, v1 = x2 + (-1 : Int32) → k_4 x1 v1 σ))))
def w_X12_goesOn__4 (N : Nat) (Q : Int32 → zSt → Prop) : Nat → Int32 → Int32 → zSt → Prop
  | 0 => fun _ _ _ => False
  | f + 1 => b_X12_goesOn__4 N (w_X12_goesOn__4 N  Q f) Q
def w_X12_goesOn_ (N : Nat) (x1 : Int32) (σ : zSt) (Q : Int32 → zSt → Prop) : Prop :=
  ∀ v1 : Int32, v1 = x1 - (2 : Int32) → w_X12_goesOn__4 N Q N x1 v1 σ
variable {p : Program} {l : Launch} {e : Env} {s : State} {m : MethodId} {args : Array Value} {below : List Frame} {meth : Method} {c : Code} {dC : Nat → ClassId} {dI : Nat → Nat → Nat} {ad : Nat → Nat} {cI cJ cC : ClassId}
set_option maxHeartbeats 4000000 in
set_option maxRecDepth 100000 in
theorem tb_X12_goesOn__100 (C0 : zCx p s m meth c args RX12 cX12_goesOn_ 7 (some .boolean) vs_X12_goesOn_) (hK : va_K (dC, dI) vwCl (m_ty cI cJ cC) s) (N : Nat) {Q : Int32 → zSt → Prop} {k_100 : Int32 → Int32 → zSt → Prop} (hk_100 : ∀ (x5 : Int32) (x6 : Int32) (σ : zSt) (H : Heap) (locs : List Loc) (ls : Array Slot), k_100 x5 x6 σ → va_P (dC, dI) vwCl (m_W ad cI cJ cC σ) H → va_D (zAW m_n ad s.heap.size) (m_W ad cI cJ cC σ) → va_S (zAW m_n ad s.heap.size) s.heap H locs → lv_has ls 7 [(0, .ref (ad 0)), (5, .int x5), (6, .int x6)] → W p l e rm_X12_goesOn_ s m args below meth c H locs 0 0 (MQ below (zQi (dC, dI) (m_ty cI cJ cC) (m_W ad cI cJ cC) (zAW m_n ad s.heap.size) Q) args s 0 0 (zAW m_n ad s.heap.size)) (F0 m 100 ls [])) : ∀ (x5 : Int32) (x6 : Int32) (σ : zSt) (H : Heap) (locs : List Loc) (ls : Array Slot), b_X12_goesOn__100 N k_100 Q x5 x6 σ → va_P (dC, dI) vwCl (m_W ad cI cJ cC σ) H → va_D (zAW m_n ad s.heap.size) (m_W ad cI cJ cC σ) → va_S (zAW m_n ad s.heap.size) s.heap H locs → lv_has ls 7 [(0, .ref (ad 0)), (5, .int x5), (6, .int x6)] → W p l e rm_X12_goesOn_ s m args below meth c H locs 0 0 (MQ below (zQi (dC, dI) (m_ty cI cJ cC) (m_W ad cI cJ cC) (zAW m_n ad s.heap.size) Q) args s 0 0 (zAW m_n ad s.heap.size)) (F0 m 100 ls []) := by
  obtain ⟨hx, hb, hml, hr, hown, hts, hlocks⟩ := id C0
  intro x5 x6 σ H locs ls h hP hD hS hl
  unfold b_X12_goesOn__100 at h
  refine lv_iload hx hb dX12_goesOn__100 (lv_at hl 1 rfl) ?_
  refine lv_iload hx hb dX12_goesOn__102 (lv_at hl 2 rfl) ?_
  refine lv_icmp_ge (tgt := 148) hx hb dX12_goesOn__104 (by decide) (fun hc => ?_) (fun hc => ?_)
  · have h := h.1 hc
    refine lv_iconst (v := (1 : Int32)) hx hb dX12_goesOn__148 (by decide) ?_
    exact zret_z hx hb hr hlocks hK hP hD hS zb_1 h dX12_goesOn__149
  · have h := h.2 hc
    refine lv_aload_n hx hb dX12_goesOn__107 rfl (lv_at hl 0 rfl) ?_
    refine mg_0_75 hx hb hts hown hK hP mw_908 dX12_goesOn__108 ?_
    refine lv_iload hx hb dX12_goesOn__111 (lv_at hl 1 rfl) ?_
    refine ma_23 hx hb hK hP h.1 rfl dX12_goesOn__113 ?_
    have h := h.2
    refine lv_topi (fun v1 ev1 => ?_)
    have h := h v1 ev1
    refine lv_istore (lv' := [(4, .int v1), (0, .ref (ad 0)), (5, .int x5), (6, .int x6)]) hx hb dX12_goesOn__114 hl (by decide) rfl (fun ls hl => ?_)
    refine lv_aload_n hx hb dX12_goesOn__116 rfl (lv_at hl 1 rfl) ?_
    refine mg_0_75 hx hb hts hown hK hP mw_908 dX12_goesOn__117 ?_
    refine lv_iload hx hb dX12_goesOn__120 (lv_at hl 2 rfl) ?_
    refine lv_aload_n hx hb dX12_goesOn__122 rfl (lv_at hl 1 rfl) ?_
    refine mg_0_75 hx hb hts hown hK hP mw_908 dX12_goesOn__123 ?_
    refine lv_iload hx hb dX12_goesOn__126 (lv_at hl 3 rfl) ?_
    refine ma_23 hx hb hK hP h.1 rfl dX12_goesOn__128 ?_
    have h := h.2
    refine ms_23 hx hb hK hP hD hS h.1 rfl dX12_goesOn__129 (fun τ2 H locs eτ2 hP hD hS => ?_)
    have h := h.2
    have h := h τ2 eτ2
    refine lv_aload_n hx hb dX12_goesOn__130 rfl (lv_at hl 1 rfl) ?_
    refine mg_0_75 hx hb hts hown hK hP mw_908 dX12_goesOn__131 ?_
    refine lv_iload hx hb dX12_goesOn__134 (lv_at hl 3 rfl) ?_
    refine lv_iload hx hb dX12_goesOn__136 (lv_at hl 0 rfl) ?_
    refine ms_23 hx hb hK hP hD hS h.1 rfl dX12_goesOn__138 (fun τ3 H locs eτ3 hP hD hS => ?_)
    have h := h.2
    have h := h τ3 eτ3
    obtain ⟨v4, ev4⟩ : ∃ z : Int32, z = x5 + (1 : Int32) := ⟨_, rfl⟩
    have h := h v4 ev4
    refine lv_iinc (v := v4) (lv' := [(5, .int v4), (4, .int v1), (0, .ref (ad 0)), (6, .int x6)]) hx hb dX12_goesOn__139 hl (k := 2) rfl (by rw [ev4]; rfl) (by decide) rfl (fun ls hl => ?_)
    obtain ⟨v5, ev5⟩ : ∃ z : Int32, z = x6 + (-1 : Int32) := ⟨_, rfl⟩
    have h := h v5 ev5
    refine lv_iinc (v := v5) (lv' := [(6, .int v5), (5, .int v4), (4, .int v1), (0, .ref (ad 0))]) hx hb dX12_goesOn__142 hl (k := 3) rfl (by rw [ev5]; rfl) (by decide) rfl (fun ls hl => ?_)
    refine lv_goto (tgt := 100) hx hb dX12_goesOn__145 (by decide) ?_
    exact hk_100 v4 v5 τ3 _ _ _ h hP hD hS (lv_sub hl [3, 1, 0] rfl)
set_option maxHeartbeats 4000000 in
set_option maxRecDepth 100000 in
theorem t_X12_goesOn__100 (C0 : zCx p s m meth c args RX12 cX12_goesOn_ 7 (some .boolean) vs_X12_goesOn_) (hK : va_K (dC, dI) vwCl (m_ty cI cJ cC) s) (N : Nat) {Q : Int32 → zSt → Prop} : ∀ (f : Nat) (x5 : Int32) (x6 : Int32) (σ : zSt) (H : Heap) (locs : List Loc) (ls : Array Slot), w_X12_goesOn__100 N  Q f x5 x6 σ → va_P (dC, dI) vwCl (m_W ad cI cJ cC σ) H → va_D (zAW m_n ad s.heap.size) (m_W ad cI cJ cC σ) → va_S (zAW m_n ad s.heap.size) s.heap H locs → lv_has ls 7 [(0, .ref (ad 0)), (5, .int x5), (6, .int x6)] → W p l e rm_X12_goesOn_ s m args below meth c H locs 0 0 (MQ below (zQi (dC, dI) (m_ty cI cJ cC) (m_W ad cI cJ cC) (zAW m_n ad s.heap.size) Q) args s 0 0 (zAW m_n ad s.heap.size)) (F0 m 100 ls []) := by
  intro f
  induction f with
  | zero => intro x5 x6 σ H locs ls h; exact h.elim
  | succ f ih =>
    intro x5 x6 σ H locs ls h hP hD hS hl
    exact tb_X12_goesOn__100 C0 hK N  (k_100 := w_X12_goesOn__100 N  Q f) ih x5 x6 σ H locs ls h hP hD hS hl
set_option maxHeartbeats 4000000 in
set_option maxRecDepth 100000 in
theorem tb_X12_goesOn__41 (C0 : zCx p s m meth c args RX12 cX12_goesOn_ 7 (some .boolean) vs_X12_goesOn_) (hK : va_K (dC, dI) vwCl (m_ty cI cJ cC) s) (N : Nat) {Q : Int32 → zSt → Prop} {k_41 : Int32 → Int32 → Int32 → zSt → Prop} (hk_41 : ∀ (x1 : Int32) (x2 : Int32) (x3 : Int32) (σ : zSt) (H : Heap) (locs : List Loc) (ls : Array Slot), k_41 x1 x2 x3 σ → va_P (dC, dI) vwCl (m_W ad cI cJ cC σ) H → va_D (zAW m_n ad s.heap.size) (m_W ad cI cJ cC σ) → va_S (zAW m_n ad s.heap.size) s.heap H locs → lv_has ls 7 [(0, .ref (ad 0)), (1, .int x1), (2, .int x2), (3, .int x3)] → W p l e rm_X12_goesOn_ s m args below meth c H locs 0 0 (MQ below (zQi (dC, dI) (m_ty cI cJ cC) (m_W ad cI cJ cC) (zAW m_n ad s.heap.size) Q) args s 0 0 (zAW m_n ad s.heap.size)) (F0 m 41 ls [])) : ∀ (x1 : Int32) (x2 : Int32) (x3 : Int32) (σ : zSt) (H : Heap) (locs : List Loc) (ls : Array Slot), b_X12_goesOn__41 N k_41 Q x1 x2 x3 σ → va_P (dC, dI) vwCl (m_W ad cI cJ cC σ) H → va_D (zAW m_n ad s.heap.size) (m_W ad cI cJ cC σ) → va_S (zAW m_n ad s.heap.size) s.heap H locs → lv_has ls 7 [(0, .ref (ad 0)), (1, .int x1), (2, .int x2), (3, .int x3)] → W p l e rm_X12_goesOn_ s m args below meth c H locs 0 0 (MQ below (zQi (dC, dI) (m_ty cI cJ cC) (m_W ad cI cJ cC) (zAW m_n ad s.heap.size) Q) args s 0 0 (zAW m_n ad s.heap.size)) (F0 m 41 ls []) := by
  obtain ⟨hx, hb, hml, hr, hown, hts, hlocks⟩ := id C0
  intro x1 x2 x3 σ H locs ls h hP hD hS hl
  unfold b_X12_goesOn__41 at h
  refine lv_aload_n hx hb dX12_goesOn__41 rfl (lv_at hl 0 rfl) ?_
  refine mg_0_75 hx hb hts hown hK hP mw_908 dX12_goesOn__42 ?_
  refine lv_iload_n hx hb dX12_goesOn__45 rfl (lv_at hl 3 rfl) ?_
  refine ma_23 hx hb hK hP h.1 rfl dX12_goesOn__46 ?_
  have h := h.2
  refine lv_aload_n hx hb dX12_goesOn__47 rfl (lv_at hl 0 rfl) ?_
  refine mg_0_75 hx hb hts hown hK hP mw_908 dX12_goesOn__48 ?_
  refine lv_iload_n hx hb dX12_goesOn__51 rfl (lv_at hl 2 rfl) ?_
  refine ma_23 hx hb hK hP h.1 rfl dX12_goesOn__52 ?_
  have h := h.2
  refine lv_icmp_ge (tgt := 62) hx hb dX12_goesOn__53 (by decide) (fun hc => ?_) (fun hc => ?_)
  · have h := h.1 hc
    refine lv_aload_n hx hb dX12_goesOn__62 rfl (lv_at hl 0 rfl) ?_
    refine mg_0_75 hx hb hts hown hK hP mw_908 dX12_goesOn__63 ?_
    refine lv_iload_n hx hb dX12_goesOn__66 rfl (lv_at hl 2 rfl) ?_
    refine ma_23 hx hb hK hP h.1 rfl dX12_goesOn__67 ?_
    have h := h.2
    refine lv_topi (fun v1 ev1 => ?_)
    have h := h v1 ev1
    refine lv_istore (lv' := [(4, .int v1), (0, .ref (ad 0)), (1, .int x1), (2, .int x2), (3, .int x3)]) hx hb dX12_goesOn__68 hl (by decide) rfl (fun ls hl => ?_)
    refine lv_aload_n hx hb dX12_goesOn__70 rfl (lv_at hl 1 rfl) ?_
    refine mg_0_75 hx hb hts hown hK hP mw_908 dX12_goesOn__71 ?_
    refine lv_iload_n hx hb dX12_goesOn__74 rfl (lv_at hl 3 rfl) ?_
    refine lv_aload_n hx hb dX12_goesOn__75 rfl (lv_at hl 1 rfl) ?_
    refine mg_0_75 hx hb hts hown hK hP mw_908 dX12_goesOn__76 ?_
    refine lv_iload_n hx hb dX12_goesOn__79 rfl (lv_at hl 4 rfl) ?_
    refine ma_23 hx hb hK hP h.1 rfl dX12_goesOn__80 ?_
    have h := h.2
    refine ms_23 hx hb hK hP hD hS h.1 rfl dX12_goesOn__81 (fun τ2 H locs eτ2 hP hD hS => ?_)
    have h := h.2
    have h := h τ2 eτ2
    refine lv_aload_n hx hb dX12_goesOn__82 rfl (lv_at hl 1 rfl) ?_
    refine mg_0_75 hx hb hts hown hK hP mw_908 dX12_goesOn__83 ?_
    refine lv_iload_n hx hb dX12_goesOn__86 rfl (lv_at hl 4 rfl) ?_
    refine lv_iload hx hb dX12_goesOn__87 (lv_at hl 0 rfl) ?_
    refine ms_23 hx hb hK hP hD hS h.1 rfl dX12_goesOn__89 (fun τ3 H locs eτ3 hP hD hS => ?_)
    have h := h.2
    have h := h τ3 eτ3
    refine lv_iload_n hx hb dX12_goesOn__90 rfl (lv_at hl 3 rfl) ?_
    refine lv_iconst (v := (1 : Int32)) hx hb dX12_goesOn__91 (by decide) ?_
    refine lv_iadd hx hb dX12_goesOn__92 ?_
    refine lv_topi (fun v4 ev4 => ?_)
    have h := h v4 ev4
    refine lv_istore (lv' := [(5, .int v4), (4, .int v1), (0, .ref (ad 0)), (1, .int x1), (2, .int x2), (3, .int x3)]) hx hb dX12_goesOn__93 hl (by decide) rfl (fun ls hl => ?_)
    refine lv_iload_n hx hb dX12_goesOn__95 rfl (lv_at hl 3 rfl) ?_
    refine lv_iconst (v := (1 : Int32)) hx hb dX12_goesOn__96 (by decide) ?_
    refine lv_isub hx hb dX12_goesOn__97 ?_
    refine lv_topi (fun v5 ev5 => ?_)
    have h := h v5 ev5
    refine lv_istore (lv' := [(6, .int v5), (5, .int v4), (4, .int v1), (0, .ref (ad 0)), (1, .int x1), (2, .int x2), (3, .int x3)]) hx hb dX12_goesOn__98 hl (by decide) rfl (fun ls hl => ?_)
    exact t_X12_goesOn__100 C0 hK N  N v4 v5 τ3 _ _ _ h hP hD hS (lv_sub hl [3, 1, 0] rfl)
  · have h := h.2 hc
    obtain ⟨v6, ev6⟩ : ∃ z : Int32, z = x3 + (-1 : Int32) := ⟨_, rfl⟩
    have h := h v6 ev6
    refine lv_iinc (v := v6) (lv' := [(3, .int v6), (0, .ref (ad 0)), (1, .int x1), (2, .int x2)]) hx hb dX12_goesOn__56 hl (k := 3) rfl (by rw [ev6]; rfl) (by decide) rfl (fun ls hl => ?_)
    refine lv_goto (tgt := 41) hx hb dX12_goesOn__59 (by decide) ?_
    exact hk_41 x1 x2 v6 σ _ _ _ h hP hD hS (lv_sub hl [1, 2, 3, 0] rfl)
set_option maxHeartbeats 4000000 in
set_option maxRecDepth 100000 in
theorem t_X12_goesOn__41 (C0 : zCx p s m meth c args RX12 cX12_goesOn_ 7 (some .boolean) vs_X12_goesOn_) (hK : va_K (dC, dI) vwCl (m_ty cI cJ cC) s) (N : Nat) {Q : Int32 → zSt → Prop} : ∀ (f : Nat) (x1 : Int32) (x2 : Int32) (x3 : Int32) (σ : zSt) (H : Heap) (locs : List Loc) (ls : Array Slot), w_X12_goesOn__41 N  Q f x1 x2 x3 σ → va_P (dC, dI) vwCl (m_W ad cI cJ cC σ) H → va_D (zAW m_n ad s.heap.size) (m_W ad cI cJ cC σ) → va_S (zAW m_n ad s.heap.size) s.heap H locs → lv_has ls 7 [(0, .ref (ad 0)), (1, .int x1), (2, .int x2), (3, .int x3)] → W p l e rm_X12_goesOn_ s m args below meth c H locs 0 0 (MQ below (zQi (dC, dI) (m_ty cI cJ cC) (m_W ad cI cJ cC) (zAW m_n ad s.heap.size) Q) args s 0 0 (zAW m_n ad s.heap.size)) (F0 m 41 ls []) := by
  intro f
  induction f with
  | zero => intro x1 x2 x3 σ H locs ls h; exact h.elim
  | succ f ih =>
    intro x1 x2 x3 σ H locs ls h hP hD hS hl
    exact tb_X12_goesOn__41 C0 hK N  (k_41 := w_X12_goesOn__41 N  Q f) ih x1 x2 x3 σ H locs ls h hP hD hS hl
set_option maxHeartbeats 4000000 in
set_option maxRecDepth 100000 in
theorem t_X12_goesOn__31 (C0 : zCx p s m meth c args RX12 cX12_goesOn_ 7 (some .boolean) vs_X12_goesOn_) (hK : va_K (dC, dI) vwCl (m_ty cI cJ cC) s) (N : Nat) {Q : Int32 → zSt → Prop} : ∀ (x1 : Int32) (x2 : Int32) (σ : zSt) (H : Heap) (locs : List Loc) (ls : Array Slot), b_X12_goesOn__31 N  Q x1 x2 σ → va_P (dC, dI) vwCl (m_W ad cI cJ cC σ) H → va_D (zAW m_n ad s.heap.size) (m_W ad cI cJ cC σ) → va_S (zAW m_n ad s.heap.size) s.heap H locs → lv_has ls 7 [(0, .ref (ad 0)), (1, .int x1), (2, .int x2)] → W p l e rm_X12_goesOn_ s m args below meth c H locs 0 0 (MQ below (zQi (dC, dI) (m_ty cI cJ cC) (m_W ad cI cJ cC) (zAW m_n ad s.heap.size) Q) args s 0 0 (zAW m_n ad s.heap.size)) (F0 m 31 ls []) := by
  obtain ⟨hx, hb, hml, hr, hown, hts, hlocks⟩ := id C0
  intro x1 x2 σ H locs ls h hP hD hS hl
  unfold b_X12_goesOn__31 at h
  refine lv_iload_n hx hb dX12_goesOn__31 rfl (lv_at hl 2 rfl) ?_
  refine lv_if_ge (tgt := 37) hx hb dX12_goesOn__32 (by decide) (fun hc => ?_) (fun hc => ?_)
  · have h := h.1 hc
    refine lv_iload_n hx hb dX12_goesOn__37 rfl (lv_at hl 1 rfl) ?_
    refine lv_iconst (v := (1 : Int32)) hx hb dX12_goesOn__38 (by decide) ?_
    refine lv_isub hx hb dX12_goesOn__39 ?_
    refine lv_topi (fun v1 ev1 => ?_)
    have h := h v1 ev1
    refine lv_istore_n (lv' := [(3, .int v1), (0, .ref (ad 0)), (1, .int x1), (2, .int x2)]) hx hb dX12_goesOn__40 rfl hl (by decide) rfl (fun ls hl => ?_)
    exact t_X12_goesOn__41 C0 hK N  N x1 x2 v1 σ _ _ _ h hP hD hS (lv_sub hl [1, 2, 3, 0] rfl)
  · have h := h.2 hc
    refine lv_iconst (v := (0 : Int32)) hx hb dX12_goesOn__35 (by decide) ?_
    exact zret_z hx hb hr hlocks hK hP hD hS zb_0 h dX12_goesOn__36
set_option maxHeartbeats 4000000 in
set_option maxRecDepth 100000 in
theorem tb_X12_goesOn__4 (C0 : zCx p s m meth c args RX12 cX12_goesOn_ 7 (some .boolean) vs_X12_goesOn_) (hK : va_K (dC, dI) vwCl (m_ty cI cJ cC) s) (N : Nat) {Q : Int32 → zSt → Prop} {k_4 : Int32 → Int32 → zSt → Prop} (hk_4 : ∀ (x1 : Int32) (x2 : Int32) (σ : zSt) (H : Heap) (locs : List Loc) (ls : Array Slot), k_4 x1 x2 σ → va_P (dC, dI) vwCl (m_W ad cI cJ cC σ) H → va_D (zAW m_n ad s.heap.size) (m_W ad cI cJ cC σ) → va_S (zAW m_n ad s.heap.size) s.heap H locs → lv_has ls 7 [(0, .ref (ad 0)), (1, .int x1), (2, .int x2)] → W p l e rm_X12_goesOn_ s m args below meth c H locs 0 0 (MQ below (zQi (dC, dI) (m_ty cI cJ cC) (m_W ad cI cJ cC) (zAW m_n ad s.heap.size) Q) args s 0 0 (zAW m_n ad s.heap.size)) (F0 m 4 ls [])) : ∀ (x1 : Int32) (x2 : Int32) (σ : zSt) (H : Heap) (locs : List Loc) (ls : Array Slot), b_X12_goesOn__4 N k_4 Q x1 x2 σ → va_P (dC, dI) vwCl (m_W ad cI cJ cC σ) H → va_D (zAW m_n ad s.heap.size) (m_W ad cI cJ cC σ) → va_S (zAW m_n ad s.heap.size) s.heap H locs → lv_has ls 7 [(0, .ref (ad 0)), (1, .int x1), (2, .int x2)] → W p l e rm_X12_goesOn_ s m args below meth c H locs 0 0 (MQ below (zQi (dC, dI) (m_ty cI cJ cC) (m_W ad cI cJ cC) (zAW m_n ad s.heap.size) Q) args s 0 0 (zAW m_n ad s.heap.size)) (F0 m 4 ls []) := by
  obtain ⟨hx, hb, hml, hr, hown, hts, hlocks⟩ := id C0
  intro x1 x2 σ H locs ls h hP hD hS hl
  unfold b_X12_goesOn__4 at h
  refine lv_iload_n hx hb dX12_goesOn__4 rfl (lv_at hl 2 rfl) ?_
  refine lv_if_lt (tgt := 31) hx hb dX12_goesOn__5 (by decide) (fun hc => ?_) (fun hc => ?_)
  · have h := h.1 hc
    exact t_X12_goesOn__31 C0 hK N  x1 x2 σ _ _ _ h hP hD hS (lv_sub hl [0, 1, 2] rfl)
  · have h := h.2 hc
    refine lv_aload_n hx hb dX12_goesOn__8 rfl (lv_at hl 0 rfl) ?_
    refine mg_0_75 hx hb hts hown hK hP mw_908 dX12_goesOn__9 ?_
    refine lv_iload_n hx hb dX12_goesOn__12 rfl (lv_at hl 2 rfl) ?_
    refine ma_23 hx hb hK hP h.1 rfl dX12_goesOn__13 ?_
    have h := h.2
    refine lv_aload_n hx hb dX12_goesOn__14 rfl (lv_at hl 0 rfl) ?_
    refine mg_0_75 hx hb hts hown hK hP mw_908 dX12_goesOn__15 ?_
    refine lv_iload_n hx hb dX12_goesOn__18 rfl (lv_at hl 2 rfl) ?_
    refine lv_iconst (v := (1 : Int32)) hx hb dX12_goesOn__19 (by decide) ?_
    refine lv_iadd hx hb dX12_goesOn__20 ?_
    refine ma_23 hx hb hK hP h.1 rfl dX12_goesOn__21 ?_
    have h := h.2
    refine lv_icmp_le (tgt := 31) hx hb dX12_goesOn__22 (by decide) (fun hc => ?_) (fun hc => ?_)
    · have h := h.1 hc
      exact t_X12_goesOn__31 C0 hK N  x1 x2 σ _ _ _ h hP hD hS (lv_sub hl [0, 1, 2] rfl)
    · have h := h.2 hc
      obtain ⟨v1, ev1⟩ : ∃ z : Int32, z = x2 + (-1 : Int32) := ⟨_, rfl⟩
      have h := h v1 ev1
      refine lv_iinc (v := v1) (lv' := [(2, .int v1), (0, .ref (ad 0)), (1, .int x1)]) hx hb dX12_goesOn__25 hl (k := 2) rfl (by rw [ev1]; rfl) (by decide) rfl (fun ls hl => ?_)
      refine lv_goto (tgt := 4) hx hb dX12_goesOn__28 (by decide) ?_
      exact hk_4 x1 v1 σ _ _ _ h hP hD hS (lv_sub hl [1, 2, 0] rfl)
set_option maxHeartbeats 4000000 in
set_option maxRecDepth 100000 in
theorem t_X12_goesOn__4 (C0 : zCx p s m meth c args RX12 cX12_goesOn_ 7 (some .boolean) vs_X12_goesOn_) (hK : va_K (dC, dI) vwCl (m_ty cI cJ cC) s) (N : Nat) {Q : Int32 → zSt → Prop} : ∀ (f : Nat) (x1 : Int32) (x2 : Int32) (σ : zSt) (H : Heap) (locs : List Loc) (ls : Array Slot), w_X12_goesOn__4 N  Q f x1 x2 σ → va_P (dC, dI) vwCl (m_W ad cI cJ cC σ) H → va_D (zAW m_n ad s.heap.size) (m_W ad cI cJ cC σ) → va_S (zAW m_n ad s.heap.size) s.heap H locs → lv_has ls 7 [(0, .ref (ad 0)), (1, .int x1), (2, .int x2)] → W p l e rm_X12_goesOn_ s m args below meth c H locs 0 0 (MQ below (zQi (dC, dI) (m_ty cI cJ cC) (m_W ad cI cJ cC) (zAW m_n ad s.heap.size) Q) args s 0 0 (zAW m_n ad s.heap.size)) (F0 m 4 ls []) := by
  intro f
  induction f with
  | zero => intro x1 x2 σ H locs ls h; exact h.elim
  | succ f ih =>
    intro x1 x2 σ H locs ls h hP hD hS hl
    exact tb_X12_goesOn__4 C0 hK N  (k_4 := w_X12_goesOn__4 N  Q f) ih x1 x2 σ H locs ls h hP hD hS hl
set_option maxHeartbeats 4000000 in
set_option maxRecDepth 100000 in
theorem t_X12_goesOn__0 (C0 : zCx p s m meth c args RX12 cX12_goesOn_ 7 (some .boolean) vs_X12_goesOn_) (hK : va_K (dC, dI) vwCl (m_ty cI cJ cC) s) (N : Nat) {Q : Int32 → zSt → Prop} : ∀ (x1 : Int32) (σ : zSt) (H : Heap) (locs : List Loc) (ls : Array Slot), w_X12_goesOn_ N x1 σ Q → va_P (dC, dI) vwCl (m_W ad cI cJ cC σ) H → va_D (zAW m_n ad s.heap.size) (m_W ad cI cJ cC σ) → va_S (zAW m_n ad s.heap.size) s.heap H locs → lv_has ls 7 [(0, .ref (ad 0)), (1, .int x1)] → W p l e rm_X12_goesOn_ s m args below meth c H locs 0 0 (MQ below (zQi (dC, dI) (m_ty cI cJ cC) (m_W ad cI cJ cC) (zAW m_n ad s.heap.size) Q) args s 0 0 (zAW m_n ad s.heap.size)) (F0 m 0 ls []) := by
  obtain ⟨hx, hb, hml, hr, hown, hts, hlocks⟩ := id C0
  intro x1 σ H locs ls h hP hD hS hl
  unfold w_X12_goesOn_ at h
  refine lv_iload_n hx hb dX12_goesOn__0 rfl (lv_at hl 1 rfl) ?_
  refine lv_iconst (v := (2 : Int32)) hx hb dX12_goesOn__1 (by decide) ?_
  refine lv_isub hx hb dX12_goesOn__2 ?_
  refine lv_topi (fun v1 ev1 => ?_)
  have h := h v1 ev1
  refine lv_istore_n (lv' := [(2, .int v1), (0, .ref (ad 0)), (1, .int x1)]) hx hb dX12_goesOn__3 rfl hl (by decide) rfl (fun ls hl => ?_)
  exact t_X12_goesOn__4 C0 hK N  N x1 v1 σ _ _ _ h hP hD hS (lv_sub hl [1, 2, 0] rfl)
set_option maxHeartbeats 4000000 in
set_option maxRecDepth 100000 in
theorem c_X12_goesOn_ (N : Nat) (l : Launch) (dC : Nat → ClassId) (dI : Nat → Nat → Nat) (ad : Nat → Nat) (cI cJ cC : ClassId) (sz : Nat) (σ : zSt) (x1 : Int32) (Q : Int32 → zSt → Prop) (h : w_X12_goesOn_ N x1 σ Q) : Met l yX12_goesOn_ vs_X12_goesOn_ rm_X12_goesOn_ (va_Pc [.ref (ad 0), .int x1] (zPc (dC, dI) (m_ty cI cJ cC) (m_W ad cI cJ cC) sz σ)) (zQi (dC, dI) (m_ty cI cJ cC) (m_W ad cI cJ cC) (zAW m_n ad sz) Q) 0 0 (zAW m_n ad sz) := by
  refine Met.ofW (cc := cX12_goesOn_) (maxL := 7) (ret := (some .boolean)) (by decide) rfl ?_
  intro p e s m args below meth c s₁ B hml hv
  obtain ⟨rfl, hsz, hP, hK, hD0⟩ := hv
  subst hsz
  have C0 : zCx p s m meth c _ RX12 cX12_goesOn_ 7 (some .boolean) vs_X12_goesOn_ := ⟨B.exec, B.bytes, hml, B.returns, findClass_of_methodNamed B.named, atoms_spec (ws := vs_X12_goesOn_) B.pre, B.notSynchronized⟩
  have hD := m_D0 (n0 := s.heap.size) hD0
  have hl := lv_entry ([.ref (ad 0), .int x1]) (n := 7) (Nat.le_of_ble_eq_true rfl)
  rw [lg_entry_eq]
  generalize (lg_sl ([.ref (ad 0), .int x1]) ++ List.replicate (7 - (lg_sl ([.ref (ad 0), .int x1])).length) Slot.unset).toArray = ls at hl ⊢
  exact t_X12_goesOn__0 C0 hK N x1 σ _ _ ls h hP hD va_S.rf hl
theorem k_X12_goesOn_ (N : Nat) {R : Room} {H : Heap} {locs : List Loc} {cells slots : Nat} {Q2 : State → Prop} {cc : ByteArray} {nL pc index : Nat} {ls : Array Slot} {rest : List Value} {own : String} {c0 : Cond} {σ : zSt} {x1 : Int32} {Q : Int32 → zSt → Prop} (S0 : CallFix p m c cc nL s args (c0 :: zT) own) (hml : Cond.methodLink own index yX12_goesOn_ ∈ zT) (hR : rm_X12_goesOn_.frames + 1 ≤ R.frames ∧ 8 + (7 + 11) + rm_X12_goesOn_.locals ≤ R.locals) (h : w_X12_goesOn_ N x1 σ Q) (hK : va_K (dC, dI) vwCl (m_ty cI cJ cC) s) (hP : va_P (dC, dI) vwCl (m_W ad cI cJ cC σ) H) (hD : va_D (zAW m_n ad s.heap.size) (m_W ad cI cJ cC σ)) (hS : va_S (zAW m_n ad s.heap.size) s.heap H locs) (hsz : ls.size = nL) (hW : (rest.map fun v => v.category).sum ≤ 8) (hcs : cells ≤ R.cells ∧ slots ≤ R.slots) (hdg : decode cc pc = .ok (.invokevirtual index, 3)) (kk : ∀ (r : Int32) (τ : zSt) (H1 : Heap) (locs1 : List Loc), Q r τ → va_P (dC, dI) vwCl (m_W ad cI cJ cC τ) H1 → va_D (zAW m_n ad s.heap.size) (m_W ad cI cJ cC τ) → va_S (zAW m_n ad s.heap.size) s.heap H1 locs1 → W p l e R s m args below meth c H1 locs1 cells slots Q2 (F0 m (pc + 3) ls (.int r :: rest))) : W p l e R s m args below meth c H locs cells slots Q2 (F0 m pc ls (.int x1 :: .ref (ad 0) :: rest)) :=
  zcv_i (T := TX12) (N' := 83) (k := 0) (ci := 12) (fs := m_f0 ad σ) [.int x1] S0 (c_X12_goesOn_ N l dC dI ad cI cJ cC H.size σ x1 Q h) (cw_X12_goesOn_ S0.2.2.2.2 hml rfl rfl hR) rfl rfl hK hP hD hS rfl hsz hW rfl hcs hdg kk
end q24
section q24
def b_X12_isSameShape_26 (N : Nat) (k_15 : Int64 → Int64 → Int32 → Int32 → zSt → Prop) (k_26 : Int64 → Int64 → Int32 → Int64 → Int32 → zSt → Prop) (Q : Int32 → zSt → Prop) (x1 : Int64) (x3 : Int64) (x5 : Int32) (x7 : Int64) (x9 : Int32) (σ : zSt) : Prop :=
  w_X12_pairs N σ (fun r1 τ2 => (r1 ≤ x9 → ((lg_cmp x7 x3) = 0 → Q (1 : Int32) τ2) ∧ (¬ (lg_cmp x7 x3) = 0 → w_X12_goesOn_ N x5 τ2 (fun r3 τ4 => k_15 x1 x3 x5 r3 τ4))) ∧ (¬ r1 ≤ x9 → w_X12_isTied N x1 x9 τ2 (fun r5 τ6 => (r5 = 0 → ∀ v7 : Int32, v7 = x9 + (1 : Int32) → k_26 x1 x3 x5 x7 v7 τ6) ∧ (¬ r5 = 0 → w_X12_lowOf N x9 τ6 (fun r8 τ9 => (vp_in r8 5) ∧ (w_X12_highOf N x9 τ9 (fun r10 τ11 => (vp_in r10 5) ∧ (w_X12_tied N (τ9.2.2.1 15 r8.toNatClampNeg) (τ11.2.2.1 15 r10.toNatClampNeg) τ11 (fun r12 τ13 => ∀ v14 : Int64, v14 = x7 ||| r12 → ∀ v15 : Int32, v15 = x9 + (1 : Int32) → k_26 x1 x3 x5 v14 v15 τ13)))))))))
def w_X12_isSameShape_26 (N : Nat) (k_15 : Int64 → Int64 → Int32 → Int32 → zSt → Prop) (Q : Int32 → zSt → Prop) : Nat → Int64 → Int64 → Int32 → Int64 → Int32 → zSt → Prop
  | 0 => fun _ _ _ _ _ _ => False
  | f + 1 => b_X12_isSameShape_26 N k_15 (w_X12_isSameShape_26 N k_15 Q f) Q
def b_X12_isSameShape_15 (N : Nat) (k_15 : Int64 → Int64 → Int32 → Int32 → zSt → Prop) (Q : Int32 → zSt → Prop) (x1 : Int64) (x3 : Int64) (x5 : Int32) (x6 : Int32) (σ : zSt) : Prop :=
  (x6 = 0 → Q (0 : Int32) σ) ∧ (¬ x6 = 0 → w_X12_isSameShape_26 N k_15 Q N x1 x3 x5 (0 : Int64) (0 : Int32) σ)
def w_X12_isSameShape_15 (N : Nat) (Q : Int32 → zSt → Prop) : Nat → Int64 → Int64 → Int32 → Int32 → zSt → Prop
  | 0 => fun _ _ _ _ _ => False
  | f + 1 => b_X12_isSameShape_15 N (w_X12_isSameShape_15 N  Q f) Q
def w_X12_isSameShape (N : Nat) (x1 : Int64) (x3 : Int64) (σ : zSt) (Q : Int32 → zSt → Prop) : Prop :=
  w_X12_many N σ (fun r1 τ2 => w_X12_beginsOrder N r1 τ2 (fun τ4 => w_X12_isSameShape_15 N Q N x1 x3 r1 (1 : Int32) τ4))
variable {p : Program} {l : Launch} {e : Env} {s : State} {m : MethodId} {args : Array Value} {below : List Frame} {meth : Method} {c : Code} {dC : Nat → ClassId} {dI : Nat → Nat → Nat} {ad : Nat → Nat} {cI cJ cC : ClassId}
set_option maxHeartbeats 4000000 in
set_option maxRecDepth 100000 in
theorem tb_X12_isSameShape_26 (C0 : zCx p s m meth c args RX12 cX12_isSameShape 10 (some .boolean) vs_X12_isSameShape) (hK : va_K (dC, dI) vwCl (m_ty cI cJ cC) s) (N : Nat) {Q : Int32 → zSt → Prop} {k_15 : Int64 → Int64 → Int32 → Int32 → zSt → Prop} (hk_15 : ∀ (x1 : Int64) (x3 : Int64) (x5 : Int32) (x6 : Int32) (σ : zSt) (H : Heap) (locs : List Loc) (ls : Array Slot), k_15 x1 x3 x5 x6 σ → va_P (dC, dI) vwCl (m_W ad cI cJ cC σ) H → va_D (zAW m_n ad s.heap.size) (m_W ad cI cJ cC σ) → va_S (zAW m_n ad s.heap.size) s.heap H locs → lv_has ls 10 [(0, .ref (ad 0)), (1, .long x1), (3, .long x3), (5, .int x5), (6, .int x6)] → W p l e rm_X12_isSameShape s m args below meth c H locs 0 0 (MQ below (zQi (dC, dI) (m_ty cI cJ cC) (m_W ad cI cJ cC) (zAW m_n ad s.heap.size) Q) args s 0 0 (zAW m_n ad s.heap.size)) (F0 m 15 ls [])) {k_26 : Int64 → Int64 → Int32 → Int64 → Int32 → zSt → Prop} (hk_26 : ∀ (x1 : Int64) (x3 : Int64) (x5 : Int32) (x7 : Int64) (x9 : Int32) (σ : zSt) (H : Heap) (locs : List Loc) (ls : Array Slot), k_26 x1 x3 x5 x7 x9 σ → va_P (dC, dI) vwCl (m_W ad cI cJ cC σ) H → va_D (zAW m_n ad s.heap.size) (m_W ad cI cJ cC σ) → va_S (zAW m_n ad s.heap.size) s.heap H locs → lv_has ls 10 [(0, .ref (ad 0)), (1, .long x1), (3, .long x3), (5, .int x5), (7, .long x7), (9, .int x9)] → W p l e rm_X12_isSameShape s m args below meth c H locs 0 0 (MQ below (zQi (dC, dI) (m_ty cI cJ cC) (m_W ad cI cJ cC) (zAW m_n ad s.heap.size) Q) args s 0 0 (zAW m_n ad s.heap.size)) (F0 m 26 ls [])) : ∀ (x1 : Int64) (x3 : Int64) (x5 : Int32) (x7 : Int64) (x9 : Int32) (σ : zSt) (H : Heap) (locs : List Loc) (ls : Array Slot), b_X12_isSameShape_26 N k_15 k_26 Q x1 x3 x5 x7 x9 σ → va_P (dC, dI) vwCl (m_W ad cI cJ cC σ) H → va_D (zAW m_n ad s.heap.size) (m_W ad cI cJ cC σ) → va_S (zAW m_n ad s.heap.size) s.heap H locs → lv_has ls 10 [(0, .ref (ad 0)), (1, .long x1), (3, .long x3), (5, .int x5), (7, .long x7), (9, .int x9)] → W p l e rm_X12_isSameShape s m args below meth c H locs 0 0 (MQ below (zQi (dC, dI) (m_ty cI cJ cC) (m_W ad cI cJ cC) (zAW m_n ad s.heap.size) Q) args s 0 0 (zAW m_n ad s.heap.size)) (F0 m 26 ls []) := by
  obtain ⟨hx, hb, hml, hr, hown, hts, hlocks⟩ := id C0
  intro x1 x3 x5 x7 x9 σ H locs ls h hP hD hS hl
  unfold b_X12_isSameShape_26 at h
  refine lv_iload hx hb dX12_isSameShape_26 (lv_at hl 5 rfl) ?_
  refine lv_aload_n hx hb dX12_isSameShape_28 rfl (lv_at hl 0 rfl) ?_
  refine k_X12_pairs N ⟨hx, hb, hml, hown, hts⟩ mw_1047 ⟨Nat.le_of_ble_eq_true rfl, Nat.le_of_ble_eq_true rfl⟩ h hK hP hD hS hl.1 (rest := [.int x9]) (Nat.le_of_ble_eq_true rfl) ⟨Nat.le_of_ble_eq_true rfl, Nat.le_of_ble_eq_true rfl⟩ dX12_isSameShape_29 (fun r1 τ2 H locs h hP hD hS => ?_)
  refine lv_icmp_ge (tgt := 79) hx hb dX12_isSameShape_32 (by decide) (fun hc => ?_) (fun hc => ?_)
  · have h := h.1 hc
    refine lv_lload hx hb dX12_isSameShape_79 (lv_at hl 4 rfl) ?_
    refine lv_lload_n hx hb dX12_isSameShape_81 rfl (lv_at hl 2 rfl) ?_
    refine W.lcmp hx hb dX12_isSameShape_82 ?_
    refine lv_if_ne (tgt := 88) hx hb dX12_isSameShape_83 (by decide) (fun hc => ?_) (fun hc => ?_)
    · have h := h.2 hc
      refine lv_aload_n hx hb dX12_isSameShape_88 rfl (lv_at hl 0 rfl) ?_
      refine lv_iload hx hb dX12_isSameShape_89 (lv_at hl 3 rfl) ?_
      refine k_X12_goesOn_ N ⟨hx, hb, hml, hown, hts⟩ mw_1239 ⟨Nat.le_of_ble_eq_true rfl, Nat.le_of_ble_eq_true rfl⟩ h hK hP hD hS hl.1 (rest := []) (Nat.le_of_ble_eq_true rfl) ⟨Nat.le_of_ble_eq_true rfl, Nat.le_of_ble_eq_true rfl⟩ dX12_isSameShape_91 (fun r3 τ4 H locs h hP hD hS => ?_)
      refine lv_istore (lv' := [(6, .int r3), (0, .ref (ad 0)), (1, .long x1), (3, .long x3), (5, .int x5), (7, .long x7), (9, .int x9)]) hx hb dX12_isSameShape_94 hl (by decide) rfl (fun ls hl => ?_)
      refine lv_goto (tgt := 15) hx hb dX12_isSameShape_96 (by decide) ?_
      exact hk_15 x1 x3 x5 r3 τ4 _ _ _ h hP hD hS (lv_sub hl [1, 2, 3, 4, 0] rfl)
    · have h := h.1 hc
      refine lv_iconst (v := (1 : Int32)) hx hb dX12_isSameShape_86 (by decide) ?_
      exact zret_z hx hb hr hlocks hK hP hD hS zb_1 h dX12_isSameShape_87
  · have h := h.2 hc
    refine lv_lload_n hx hb dX12_isSameShape_35 rfl (lv_at hl 1 rfl) ?_
    refine lv_iload hx hb dX12_isSameShape_36 (lv_at hl 5 rfl) ?_
    refine k_X12_isTied N ⟨hx, hb, hml, hown, hts⟩ mw_1071 ⟨Nat.le_of_ble_eq_true rfl, Nat.le_of_ble_eq_true rfl⟩ h hK hP hD hS hl.1 (rest := []) (Nat.le_of_ble_eq_true rfl) ⟨Nat.le_of_ble_eq_true rfl, Nat.le_of_ble_eq_true rfl⟩ dX12_isSameShape_38 (fun r5 τ6 H locs h hP hD hS => ?_)
    refine lv_if_eq (tgt := 73) hx hb dX12_isSameShape_41 (by decide) (fun hc => ?_) (fun hc => ?_)
    · have h := h.1 hc
      obtain ⟨v7, ev7⟩ : ∃ z : Int32, z = x9 + (1 : Int32) := ⟨_, rfl⟩
      have h := h v7 ev7
      refine lv_iinc (v := v7) (lv' := [(9, .int v7), (0, .ref (ad 0)), (1, .long x1), (3, .long x3), (5, .int x5), (7, .long x7)]) hx hb dX12_isSameShape_73 hl (k := 5) rfl (by rw [ev7]; rfl) (by decide) rfl (fun ls hl => ?_)
      refine lv_goto (tgt := 26) hx hb dX12_isSameShape_76 (by decide) ?_
      exact hk_26 x1 x3 x5 x7 v7 τ6 _ _ _ h hP hD hS (lv_sub hl [1, 2, 3, 4, 5, 0] rfl)
    · have h := h.2 hc
      refine lv_lload hx hb dX12_isSameShape_44 (lv_at hl 4 rfl) ?_
      refine lv_aload_n hx hb dX12_isSameShape_46 rfl (lv_at hl 0 rfl) ?_
      refine lv_aload_n hx hb dX12_isSameShape_47 rfl (lv_at hl 0 rfl) ?_
      refine mg_0_75 hx hb hts hown hK hP mw_908 dX12_isSameShape_48 ?_
      refine lv_iload hx hb dX12_isSameShape_51 (lv_at hl 5 rfl) ?_
      refine k_X12_lowOf N ⟨hx, hb, hml, hown, hts⟩ mw_1154 ⟨Nat.le_of_ble_eq_true rfl, Nat.le_of_ble_eq_true rfl⟩ h hK hP hD hS hl.1 (rest := [.ref (ad 23), .ref (ad 0), .long x7]) (Nat.le_of_ble_eq_true rfl) ⟨Nat.le_of_ble_eq_true rfl, Nat.le_of_ble_eq_true rfl⟩ dX12_isSameShape_53 (fun r8 τ9 H locs h hP hD hS => ?_)
      refine ma_23 hx hb hK hP h.1 rfl dX12_isSameShape_56 ?_
      have h := h.2
      refine lv_aload_n hx hb dX12_isSameShape_57 rfl (lv_at hl 0 rfl) ?_
      refine mg_0_75 hx hb hts hown hK hP mw_908 dX12_isSameShape_58 ?_
      refine lv_iload hx hb dX12_isSameShape_61 (lv_at hl 5 rfl) ?_
      refine k_X12_highOf N ⟨hx, hb, hml, hown, hts⟩ mw_1157 ⟨Nat.le_of_ble_eq_true rfl, Nat.le_of_ble_eq_true rfl⟩ h hK hP hD hS hl.1 (rest := [.ref (ad 23), .int (τ9.2.2.1 15 r8.toNatClampNeg), .ref (ad 0), .long x7]) (Nat.le_of_ble_eq_true rfl) ⟨Nat.le_of_ble_eq_true rfl, Nat.le_of_ble_eq_true rfl⟩ dX12_isSameShape_63 (fun r10 τ11 H locs h hP hD hS => ?_)
      refine ma_23 hx hb hK hP h.1 rfl dX12_isSameShape_66 ?_
      have h := h.2
      refine k_X12_tied N ⟨hx, hb, hml, hown, hts⟩ mw_1085 ⟨Nat.le_of_ble_eq_true rfl, Nat.le_of_ble_eq_true rfl⟩ h hK hP hD hS hl.1 (rest := [.long x7]) (Nat.le_of_ble_eq_true rfl) ⟨Nat.le_of_ble_eq_true rfl, Nat.le_of_ble_eq_true rfl⟩ dX12_isSameShape_67 (fun r12 τ13 H locs h hP hD hS => ?_)
      refine lv_lor hx hb dX12_isSameShape_70 ?_
      refine lv_topl (fun v14 ev14 => ?_)
      have h := h v14 ev14
      refine lv_lstore (lv' := [(7, .long v14), (0, .ref (ad 0)), (1, .long x1), (3, .long x3), (5, .int x5), (9, .int x9)]) hx hb dX12_isSameShape_71 hl (by decide) rfl (fun ls hl => ?_)
      obtain ⟨v15, ev15⟩ : ∃ z : Int32, z = x9 + (1 : Int32) := ⟨_, rfl⟩
      have h := h v15 ev15
      refine lv_iinc (v := v15) (lv' := [(9, .int v15), (7, .long v14), (0, .ref (ad 0)), (1, .long x1), (3, .long x3), (5, .int x5)]) hx hb dX12_isSameShape_73 hl (k := 5) rfl (by rw [ev15]; rfl) (by decide) rfl (fun ls hl => ?_)
      refine lv_goto (tgt := 26) hx hb dX12_isSameShape_76 (by decide) ?_
      exact hk_26 x1 x3 x5 v14 v15 τ13 _ _ _ h hP hD hS (lv_sub hl [2, 3, 4, 5, 1, 0] rfl)
set_option maxHeartbeats 4000000 in
set_option maxRecDepth 100000 in
theorem t_X12_isSameShape_26 (C0 : zCx p s m meth c args RX12 cX12_isSameShape 10 (some .boolean) vs_X12_isSameShape) (hK : va_K (dC, dI) vwCl (m_ty cI cJ cC) s) (N : Nat) {Q : Int32 → zSt → Prop} {k_15 : Int64 → Int64 → Int32 → Int32 → zSt → Prop} (hk_15 : ∀ (x1 : Int64) (x3 : Int64) (x5 : Int32) (x6 : Int32) (σ : zSt) (H : Heap) (locs : List Loc) (ls : Array Slot), k_15 x1 x3 x5 x6 σ → va_P (dC, dI) vwCl (m_W ad cI cJ cC σ) H → va_D (zAW m_n ad s.heap.size) (m_W ad cI cJ cC σ) → va_S (zAW m_n ad s.heap.size) s.heap H locs → lv_has ls 10 [(0, .ref (ad 0)), (1, .long x1), (3, .long x3), (5, .int x5), (6, .int x6)] → W p l e rm_X12_isSameShape s m args below meth c H locs 0 0 (MQ below (zQi (dC, dI) (m_ty cI cJ cC) (m_W ad cI cJ cC) (zAW m_n ad s.heap.size) Q) args s 0 0 (zAW m_n ad s.heap.size)) (F0 m 15 ls [])) : ∀ (f : Nat) (x1 : Int64) (x3 : Int64) (x5 : Int32) (x7 : Int64) (x9 : Int32) (σ : zSt) (H : Heap) (locs : List Loc) (ls : Array Slot), w_X12_isSameShape_26 N k_15 Q f x1 x3 x5 x7 x9 σ → va_P (dC, dI) vwCl (m_W ad cI cJ cC σ) H → va_D (zAW m_n ad s.heap.size) (m_W ad cI cJ cC σ) → va_S (zAW m_n ad s.heap.size) s.heap H locs → lv_has ls 10 [(0, .ref (ad 0)), (1, .long x1), (3, .long x3), (5, .int x5), (7, .long x7), (9, .int x9)] → W p l e rm_X12_isSameShape s m args below meth c H locs 0 0 (MQ below (zQi (dC, dI) (m_ty cI cJ cC) (m_W ad cI cJ cC) (zAW m_n ad s.heap.size) Q) args s 0 0 (zAW m_n ad s.heap.size)) (F0 m 26 ls []) := by
  intro f
  induction f with
  | zero => intro x1 x3 x5 x7 x9 σ H locs ls h; exact h.elim
  | succ f ih =>
    intro x1 x3 x5 x7 x9 σ H locs ls h hP hD hS hl
    exact tb_X12_isSameShape_26 C0 hK N hk_15 (k_26 := w_X12_isSameShape_26 N k_15 Q f) ih x1 x3 x5 x7 x9 σ H locs ls h hP hD hS hl
set_option maxHeartbeats 4000000 in
set_option maxRecDepth 100000 in
theorem tb_X12_isSameShape_15 (C0 : zCx p s m meth c args RX12 cX12_isSameShape 10 (some .boolean) vs_X12_isSameShape) (hK : va_K (dC, dI) vwCl (m_ty cI cJ cC) s) (N : Nat) {Q : Int32 → zSt → Prop} {k_15 : Int64 → Int64 → Int32 → Int32 → zSt → Prop} (hk_15 : ∀ (x1 : Int64) (x3 : Int64) (x5 : Int32) (x6 : Int32) (σ : zSt) (H : Heap) (locs : List Loc) (ls : Array Slot), k_15 x1 x3 x5 x6 σ → va_P (dC, dI) vwCl (m_W ad cI cJ cC σ) H → va_D (zAW m_n ad s.heap.size) (m_W ad cI cJ cC σ) → va_S (zAW m_n ad s.heap.size) s.heap H locs → lv_has ls 10 [(0, .ref (ad 0)), (1, .long x1), (3, .long x3), (5, .int x5), (6, .int x6)] → W p l e rm_X12_isSameShape s m args below meth c H locs 0 0 (MQ below (zQi (dC, dI) (m_ty cI cJ cC) (m_W ad cI cJ cC) (zAW m_n ad s.heap.size) Q) args s 0 0 (zAW m_n ad s.heap.size)) (F0 m 15 ls [])) : ∀ (x1 : Int64) (x3 : Int64) (x5 : Int32) (x6 : Int32) (σ : zSt) (H : Heap) (locs : List Loc) (ls : Array Slot), b_X12_isSameShape_15 N k_15 Q x1 x3 x5 x6 σ → va_P (dC, dI) vwCl (m_W ad cI cJ cC σ) H → va_D (zAW m_n ad s.heap.size) (m_W ad cI cJ cC σ) → va_S (zAW m_n ad s.heap.size) s.heap H locs → lv_has ls 10 [(0, .ref (ad 0)), (1, .long x1), (3, .long x3), (5, .int x5), (6, .int x6)] → W p l e rm_X12_isSameShape s m args below meth c H locs 0 0 (MQ below (zQi (dC, dI) (m_ty cI cJ cC) (m_W ad cI cJ cC) (zAW m_n ad s.heap.size) Q) args s 0 0 (zAW m_n ad s.heap.size)) (F0 m 15 ls []) := by
  obtain ⟨hx, hb, hml, hr, hown, hts, hlocks⟩ := id C0
  intro x1 x3 x5 x6 σ H locs ls h hP hD hS hl
  unfold b_X12_isSameShape_15 at h
  refine lv_iload hx hb dX12_isSameShape_15 (lv_at hl 4 rfl) ?_
  refine lv_if_eq (tgt := 99) hx hb dX12_isSameShape_17 (by decide) (fun hc => ?_) (fun hc => ?_)
  · have h := h.1 hc
    refine lv_iconst (v := (0 : Int32)) hx hb dX12_isSameShape_99 (by decide) ?_
    exact zret_z hx hb hr hlocks hK hP hD hS zb_0 h dX12_isSameShape_100
  · have h := h.2 hc
    refine lv_lconst (v := (0 : Int64)) hx hb dX12_isSameShape_20 (by decide) ?_
    refine lv_lstore (lv' := [(7, .long (0 : Int64)), (0, .ref (ad 0)), (1, .long x1), (3, .long x3), (5, .int x5), (6, .int x6)]) hx hb dX12_isSameShape_21 hl (by decide) rfl (fun ls hl => ?_)
    refine lv_iconst (v := (0 : Int32)) hx hb dX12_isSameShape_23 (by decide) ?_
    refine lv_istore (lv' := [(9, .int (0 : Int32)), (7, .long (0 : Int64)), (0, .ref (ad 0)), (1, .long x1), (3, .long x3), (5, .int x5), (6, .int x6)]) hx hb dX12_isSameShape_24 hl (by decide) rfl (fun ls hl => ?_)
    exact t_X12_isSameShape_26 C0 hK N hk_15 N x1 x3 x5 (0 : Int64) (0 : Int32) σ _ _ _ h hP hD hS (lv_sub hl [2, 3, 4, 5, 1, 0] rfl)
set_option maxHeartbeats 4000000 in
set_option maxRecDepth 100000 in
theorem t_X12_isSameShape_15 (C0 : zCx p s m meth c args RX12 cX12_isSameShape 10 (some .boolean) vs_X12_isSameShape) (hK : va_K (dC, dI) vwCl (m_ty cI cJ cC) s) (N : Nat) {Q : Int32 → zSt → Prop} : ∀ (f : Nat) (x1 : Int64) (x3 : Int64) (x5 : Int32) (x6 : Int32) (σ : zSt) (H : Heap) (locs : List Loc) (ls : Array Slot), w_X12_isSameShape_15 N  Q f x1 x3 x5 x6 σ → va_P (dC, dI) vwCl (m_W ad cI cJ cC σ) H → va_D (zAW m_n ad s.heap.size) (m_W ad cI cJ cC σ) → va_S (zAW m_n ad s.heap.size) s.heap H locs → lv_has ls 10 [(0, .ref (ad 0)), (1, .long x1), (3, .long x3), (5, .int x5), (6, .int x6)] → W p l e rm_X12_isSameShape s m args below meth c H locs 0 0 (MQ below (zQi (dC, dI) (m_ty cI cJ cC) (m_W ad cI cJ cC) (zAW m_n ad s.heap.size) Q) args s 0 0 (zAW m_n ad s.heap.size)) (F0 m 15 ls []) := by
  intro f
  induction f with
  | zero => intro x1 x3 x5 x6 σ H locs ls h; exact h.elim
  | succ f ih =>
    intro x1 x3 x5 x6 σ H locs ls h hP hD hS hl
    exact tb_X12_isSameShape_15 C0 hK N  (k_15 := w_X12_isSameShape_15 N  Q f) ih x1 x3 x5 x6 σ H locs ls h hP hD hS hl
set_option maxHeartbeats 4000000 in
set_option maxRecDepth 100000 in
theorem t_X12_isSameShape_0 (C0 : zCx p s m meth c args RX12 cX12_isSameShape 10 (some .boolean) vs_X12_isSameShape) (hK : va_K (dC, dI) vwCl (m_ty cI cJ cC) s) (N : Nat) {Q : Int32 → zSt → Prop} : ∀ (x1 : Int64) (x3 : Int64) (σ : zSt) (H : Heap) (locs : List Loc) (ls : Array Slot), w_X12_isSameShape N x1 x3 σ Q → va_P (dC, dI) vwCl (m_W ad cI cJ cC σ) H → va_D (zAW m_n ad s.heap.size) (m_W ad cI cJ cC σ) → va_S (zAW m_n ad s.heap.size) s.heap H locs → lv_has ls 10 [(0, .ref (ad 0)), (1, .long x1), (3, .long x3)] → W p l e rm_X12_isSameShape s m args below meth c H locs 0 0 (MQ below (zQi (dC, dI) (m_ty cI cJ cC) (m_W ad cI cJ cC) (zAW m_n ad s.heap.size) Q) args s 0 0 (zAW m_n ad s.heap.size)) (F0 m 0 ls []) := by
  obtain ⟨hx, hb, hml, hr, hown, hts, hlocks⟩ := id C0
  intro x1 x3 σ H locs ls h hP hD hS hl
  unfold w_X12_isSameShape at h
  refine lv_aload_n hx hb dX12_isSameShape_0 rfl (lv_at hl 0 rfl) ?_
  refine k_X12_many N ⟨hx, hb, hml, hown, hts⟩ mw_1044 ⟨Nat.le_of_ble_eq_true rfl, Nat.le_of_ble_eq_true rfl⟩ h hK hP hD hS hl.1 (rest := []) (Nat.le_of_ble_eq_true rfl) ⟨Nat.le_of_ble_eq_true rfl, Nat.le_of_ble_eq_true rfl⟩ dX12_isSameShape_1 (fun r1 τ2 H locs h hP hD hS => ?_)
  refine lv_istore (lv' := [(5, .int r1), (0, .ref (ad 0)), (1, .long x1), (3, .long x3)]) hx hb dX12_isSameShape_4 hl (by decide) rfl (fun ls hl => ?_)
  refine lv_aload_n hx hb dX12_isSameShape_6 rfl (lv_at hl 1 rfl) ?_
  refine lv_iload hx hb dX12_isSameShape_7 (lv_at hl 0 rfl) ?_
  refine k_X12_beginsOrder N ⟨hx, hb, hml, hown, hts⟩ mw_1236 ⟨Nat.le_of_ble_eq_true rfl, Nat.le_of_ble_eq_true rfl⟩ h hK hP hD hS hl.1 (rest := []) (Nat.le_of_ble_eq_true rfl) ⟨Nat.le_of_ble_eq_true rfl, Nat.le_of_ble_eq_true rfl⟩ dX12_isSameShape_9 (fun τ4 H locs h hP hD hS => ?_)
  refine lv_iconst (v := (1 : Int32)) hx hb dX12_isSameShape_12 (by decide) ?_
  refine lv_istore (lv' := [(6, .int (1 : Int32)), (5, .int r1), (0, .ref (ad 0)), (1, .long x1), (3, .long x3)]) hx hb dX12_isSameShape_13 hl (by decide) rfl (fun ls hl => ?_)
  exact t_X12_isSameShape_15 C0 hK N  N x1 x3 r1 (1 : Int32) τ4 _ _ _ h hP hD hS (lv_sub hl [2, 3, 4, 1, 0] rfl)
set_option maxHeartbeats 4000000 in
set_option maxRecDepth 100000 in
theorem c_X12_isSameShape (N : Nat) (l : Launch) (dC : Nat → ClassId) (dI : Nat → Nat → Nat) (ad : Nat → Nat) (cI cJ cC : ClassId) (sz : Nat) (σ : zSt) (x1 : Int64) (x3 : Int64) (Q : Int32 → zSt → Prop) (h : w_X12_isSameShape N x1 x3 σ Q) : Met l yX12_isSameShape vs_X12_isSameShape rm_X12_isSameShape (va_Pc [.ref (ad 0), .long x1, .long x3] (zPc (dC, dI) (m_ty cI cJ cC) (m_W ad cI cJ cC) sz σ)) (zQi (dC, dI) (m_ty cI cJ cC) (m_W ad cI cJ cC) (zAW m_n ad sz) Q) 0 0 (zAW m_n ad sz) := by
  refine Met.ofW (cc := cX12_isSameShape) (maxL := 10) (ret := (some .boolean)) (by decide) rfl ?_
  intro p e s m args below meth c s₁ B hml hv
  obtain ⟨rfl, hsz, hP, hK, hD0⟩ := hv
  subst hsz
  have C0 : zCx p s m meth c _ RX12 cX12_isSameShape 10 (some .boolean) vs_X12_isSameShape := ⟨B.exec, B.bytes, hml, B.returns, findClass_of_methodNamed B.named, atoms_spec (ws := vs_X12_isSameShape) B.pre, B.notSynchronized⟩
  have hD := m_D0 (n0 := s.heap.size) hD0
  have hl := lv_entry ([.ref (ad 0), .long x1, .long x3]) (n := 10) (Nat.le_of_ble_eq_true rfl)
  rw [lg_entry_eq]
  generalize (lg_sl ([.ref (ad 0), .long x1, .long x3]) ++ List.replicate (10 - (lg_sl ([.ref (ad 0), .long x1, .long x3])).length) Slot.unset).toArray = ls at hl ⊢
  exact t_X12_isSameShape_0 C0 hK N x1 x3 σ _ _ ls h hP hD va_S.rf hl
theorem k_X12_isSameShape (N : Nat) {R : Room} {H : Heap} {locs : List Loc} {cells slots : Nat} {Q2 : State → Prop} {cc : ByteArray} {nL pc index : Nat} {ls : Array Slot} {rest : List Value} {own : String} {c0 : Cond} {σ : zSt} {x1 : Int64} {x3 : Int64} {Q : Int32 → zSt → Prop} (S0 : CallFix p m c cc nL s args (c0 :: zT) own) (hml : Cond.methodLink own index yX12_isSameShape ∈ zT) (hR : rm_X12_isSameShape.frames + 1 ≤ R.frames ∧ 8 + (10 + 11) + rm_X12_isSameShape.locals ≤ R.locals) (h : w_X12_isSameShape N x1 x3 σ Q) (hK : va_K (dC, dI) vwCl (m_ty cI cJ cC) s) (hP : va_P (dC, dI) vwCl (m_W ad cI cJ cC σ) H) (hD : va_D (zAW m_n ad s.heap.size) (m_W ad cI cJ cC σ)) (hS : va_S (zAW m_n ad s.heap.size) s.heap H locs) (hsz : ls.size = nL) (hW : (rest.map fun v => v.category).sum ≤ 8) (hcs : cells ≤ R.cells ∧ slots ≤ R.slots) (hdg : decode cc pc = .ok (.invokevirtual index, 3)) (kk : ∀ (r : Int32) (τ : zSt) (H1 : Heap) (locs1 : List Loc), Q r τ → va_P (dC, dI) vwCl (m_W ad cI cJ cC τ) H1 → va_D (zAW m_n ad s.heap.size) (m_W ad cI cJ cC τ) → va_S (zAW m_n ad s.heap.size) s.heap H1 locs1 → W p l e R s m args below meth c H1 locs1 cells slots Q2 (F0 m (pc + 3) ls (.int r :: rest))) : W p l e R s m args below meth c H locs cells slots Q2 (F0 m pc ls (.long x3 :: .long x1 :: .ref (ad 0) :: rest)) :=
  zcv_i (T := TX12) (N' := 83) (k := 0) (ci := 12) (fs := m_f0 ad σ) [.long x1, .long x3] S0 (c_X12_isSameShape N l dC dI ad cI cJ cC H.size σ x1 x3 Q h) (cw_X12_isSameShape S0.2.2.2.2 hml rfl rfl hR) rfl rfl hK hP hD hS rfl hsz hW rfl hcs hdg kk
end q24
section q24
def b_X12_isNewShape_2 (N : Nat) (k_2 : Int64 → Int32 → zSt → Prop) (Q : Int32 → zSt → Prop) (x1 : Int64) (x3 : Int32) (σ : zSt) : Prop :=
  ((σ.1 27) ≤ x3 → Q (1 : Int32) σ) ∧ (¬ (σ.1 27) ≤ x3 → (vp_in x3 1024) ∧ (w_X12_bits N (σ.2.2.2 6 x3.toNatClampNeg) σ (fun r1 τ2 => w_X12_bits N x1 τ2 (fun r3 τ4 => (r1 = r3 → (vp_in x3 1024) ∧ (w_X12_isSameShape N (τ4.2.2.2 6 x3.toNatClampNeg) x1 τ4 (fun r6 τ7 => (r6 = 0 → ∀ v8 : Int32, v8 = x3 + (1 : Int32) → k_2 x1 v8 τ7) ∧ (¬ r6 = 0 → Q (0 : Int32) τ7)))) ∧ (¬ r1 = r3 → ∀ v5 : Int32, v5 = x3 + (1 : Int32) → k_2 x1 v5 τ4)))))
def w_X12_isNewShape_2 (N : Nat) (Q : Int32 → zSt → Prop) : Nat → Int64 → Int32 → zSt → Prop
  | 0 => fun _ _ _ => False
  | f + 1 => b_X12_isNewShape_2 N (w_X12_isNewShape_2 N  Q f) Q
def w_X12_isNewShape (N : Nat) (x1 : Int64) (σ : zSt) (Q : Int32 → zSt → Prop) : Prop :=
  w_X12_isNewShape_2 N Q N x1 (0 : Int32) σ
variable {p : Program} {l : Launch} {e : Env} {s : State} {m : MethodId} {args : Array Value} {below : List Frame} {meth : Method} {c : Code} {dC : Nat → ClassId} {dI : Nat → Nat → Nat} {ad : Nat → Nat} {cI cJ cC : ClassId}
set_option maxHeartbeats 4000000 in
set_option maxRecDepth 100000 in
theorem tb_X12_isNewShape_2 (C0 : zCx p s m meth c args RX12 cX12_isNewShape 4 (some .boolean) vs_X12_isNewShape) (hK : va_K (dC, dI) vwCl (m_ty cI cJ cC) s) (N : Nat) {Q : Int32 → zSt → Prop} {k_2 : Int64 → Int32 → zSt → Prop} (hk_2 : ∀ (x1 : Int64) (x3 : Int32) (σ : zSt) (H : Heap) (locs : List Loc) (ls : Array Slot), k_2 x1 x3 σ → va_P (dC, dI) vwCl (m_W ad cI cJ cC σ) H → va_D (zAW m_n ad s.heap.size) (m_W ad cI cJ cC σ) → va_S (zAW m_n ad s.heap.size) s.heap H locs → lv_has ls 4 [(0, .ref (ad 0)), (1, .long x1), (3, .int x3)] → W p l e rm_X12_isNewShape s m args below meth c H locs 0 0 (MQ below (zQi (dC, dI) (m_ty cI cJ cC) (m_W ad cI cJ cC) (zAW m_n ad s.heap.size) Q) args s 0 0 (zAW m_n ad s.heap.size)) (F0 m 2 ls [])) : ∀ (x1 : Int64) (x3 : Int32) (σ : zSt) (H : Heap) (locs : List Loc) (ls : Array Slot), b_X12_isNewShape_2 N k_2 Q x1 x3 σ → va_P (dC, dI) vwCl (m_W ad cI cJ cC σ) H → va_D (zAW m_n ad s.heap.size) (m_W ad cI cJ cC σ) → va_S (zAW m_n ad s.heap.size) s.heap H locs → lv_has ls 4 [(0, .ref (ad 0)), (1, .long x1), (3, .int x3)] → W p l e rm_X12_isNewShape s m args below meth c H locs 0 0 (MQ below (zQi (dC, dI) (m_ty cI cJ cC) (m_W ad cI cJ cC) (zAW m_n ad s.heap.size) Q) args s 0 0 (zAW m_n ad s.heap.size)) (F0 m 2 ls []) := by
  obtain ⟨hx, hb, hml, hr, hown, hts, hlocks⟩ := id C0
  intro x1 x3 σ H locs ls h hP hD hS hl
  unfold b_X12_isNewShape_2 at h
  refine lv_iload_n hx hb dX12_isNewShape_2 rfl (lv_at hl 2 rfl) ?_
  refine lv_aload_n hx hb dX12_isNewShape_3 rfl (lv_at hl 0 rfl) ?_
  refine mg_0_73 hx hb hts hown hK hP mw_906 dX12_isNewShape_4 ?_
  refine lv_icmp_ge (tgt := 48) hx hb dX12_isNewShape_7 (by decide) (fun hc => ?_) (fun hc => ?_)
  · have h := h.1 hc
    refine lv_iconst (v := (1 : Int32)) hx hb dX12_isNewShape_48 (by decide) ?_
    exact zret_z hx hb hr hlocks hK hP hD hS zb_1 h dX12_isNewShape_49
  · have h := h.2 hc
    refine lv_aload_n hx hb dX12_isNewShape_10 rfl (lv_at hl 0 rfl) ?_
    refine mg_0_74 hx hb hts hown hK hP mw_907 dX12_isNewShape_11 ?_
    refine lv_iload_n hx hb dX12_isNewShape_14 rfl (lv_at hl 2 rfl) ?_
    refine ma_22 hx hb hK hP h.1 rfl dX12_isNewShape_15 ?_
    have h := h.2
    refine k_X12_bits N ⟨hx, hb, hml, hown, hts⟩ mw_1050 ⟨Nat.le_of_ble_eq_true rfl, Nat.le_of_ble_eq_true rfl⟩ h hK hP hD hS hl.1 (rest := []) (Nat.le_of_ble_eq_true rfl) ⟨Nat.le_of_ble_eq_true rfl, Nat.le_of_ble_eq_true rfl⟩ dX12_isNewShape_16 (fun r1 τ2 H locs h hP hD hS => ?_)
    refine lv_lload_n hx hb dX12_isNewShape_19 rfl (lv_at hl 1 rfl) ?_
    refine k_X12_bits N ⟨hx, hb, hml, hown, hts⟩ mw_1050 ⟨Nat.le_of_ble_eq_true rfl, Nat.le_of_ble_eq_true rfl⟩ h hK hP hD hS hl.1 (rest := [.int r1]) (Nat.le_of_ble_eq_true rfl) ⟨Nat.le_of_ble_eq_true rfl, Nat.le_of_ble_eq_true rfl⟩ dX12_isNewShape_20 (fun r3 τ4 H locs h hP hD hS => ?_)
    refine lv_icmp_ne (tgt := 42) hx hb dX12_isNewShape_23 (by decide) (fun hc => ?_) (fun hc => ?_)
    · have h := h.2 hc
      obtain ⟨v5, ev5⟩ : ∃ z : Int32, z = x3 + (1 : Int32) := ⟨_, rfl⟩
      have h := h v5 ev5
      refine lv_iinc (v := v5) (lv' := [(3, .int v5), (0, .ref (ad 0)), (1, .long x1)]) hx hb dX12_isNewShape_42 hl (k := 2) rfl (by rw [ev5]; rfl) (by decide) rfl (fun ls hl => ?_)
      refine lv_goto (tgt := 2) hx hb dX12_isNewShape_45 (by decide) ?_
      exact hk_2 x1 v5 τ4 _ _ _ h hP hD hS (lv_sub hl [1, 2, 0] rfl)
    · have h := h.1 hc
      refine lv_aload_n hx hb dX12_isNewShape_26 rfl (lv_at hl 0 rfl) ?_
      refine lv_aload_n hx hb dX12_isNewShape_27 rfl (lv_at hl 0 rfl) ?_
      refine mg_0_74 hx hb hts hown hK hP mw_907 dX12_isNewShape_28 ?_
      refine lv_iload_n hx hb dX12_isNewShape_31 rfl (lv_at hl 2 rfl) ?_
      refine ma_22 hx hb hK hP h.1 rfl dX12_isNewShape_32 ?_
      have h := h.2
      refine lv_lload_n hx hb dX12_isNewShape_33 rfl (lv_at hl 1 rfl) ?_
      refine k_X12_isSameShape N ⟨hx, hb, hml, hown, hts⟩ mw_1233 ⟨Nat.le_of_ble_eq_true rfl, Nat.le_of_ble_eq_true rfl⟩ h hK hP hD hS hl.1 (rest := []) (Nat.le_of_ble_eq_true rfl) ⟨Nat.le_of_ble_eq_true rfl, Nat.le_of_ble_eq_true rfl⟩ dX12_isNewShape_34 (fun r6 τ7 H locs h hP hD hS => ?_)
      refine lv_if_eq (tgt := 42) hx hb dX12_isNewShape_37 (by decide) (fun hc => ?_) (fun hc => ?_)
      · have h := h.1 hc
        obtain ⟨v8, ev8⟩ : ∃ z : Int32, z = x3 + (1 : Int32) := ⟨_, rfl⟩
        have h := h v8 ev8
        refine lv_iinc (v := v8) (lv' := [(3, .int v8), (0, .ref (ad 0)), (1, .long x1)]) hx hb dX12_isNewShape_42 hl (k := 2) rfl (by rw [ev8]; rfl) (by decide) rfl (fun ls hl => ?_)
        refine lv_goto (tgt := 2) hx hb dX12_isNewShape_45 (by decide) ?_
        exact hk_2 x1 v8 τ7 _ _ _ h hP hD hS (lv_sub hl [1, 2, 0] rfl)
      · have h := h.2 hc
        refine lv_iconst (v := (0 : Int32)) hx hb dX12_isNewShape_40 (by decide) ?_
        exact zret_z hx hb hr hlocks hK hP hD hS zb_0 h dX12_isNewShape_41
set_option maxHeartbeats 4000000 in
set_option maxRecDepth 100000 in
theorem t_X12_isNewShape_2 (C0 : zCx p s m meth c args RX12 cX12_isNewShape 4 (some .boolean) vs_X12_isNewShape) (hK : va_K (dC, dI) vwCl (m_ty cI cJ cC) s) (N : Nat) {Q : Int32 → zSt → Prop} : ∀ (f : Nat) (x1 : Int64) (x3 : Int32) (σ : zSt) (H : Heap) (locs : List Loc) (ls : Array Slot), w_X12_isNewShape_2 N  Q f x1 x3 σ → va_P (dC, dI) vwCl (m_W ad cI cJ cC σ) H → va_D (zAW m_n ad s.heap.size) (m_W ad cI cJ cC σ) → va_S (zAW m_n ad s.heap.size) s.heap H locs → lv_has ls 4 [(0, .ref (ad 0)), (1, .long x1), (3, .int x3)] → W p l e rm_X12_isNewShape s m args below meth c H locs 0 0 (MQ below (zQi (dC, dI) (m_ty cI cJ cC) (m_W ad cI cJ cC) (zAW m_n ad s.heap.size) Q) args s 0 0 (zAW m_n ad s.heap.size)) (F0 m 2 ls []) := by
  intro f
  induction f with
  | zero => intro x1 x3 σ H locs ls h; exact h.elim
  | succ f ih =>
    intro x1 x3 σ H locs ls h hP hD hS hl
    exact tb_X12_isNewShape_2 C0 hK N  (k_2 := w_X12_isNewShape_2 N  Q f) ih x1 x3 σ H locs ls h hP hD hS hl
set_option maxHeartbeats 4000000 in
set_option maxRecDepth 100000 in
theorem t_X12_isNewShape_0 (C0 : zCx p s m meth c args RX12 cX12_isNewShape 4 (some .boolean) vs_X12_isNewShape) (hK : va_K (dC, dI) vwCl (m_ty cI cJ cC) s) (N : Nat) {Q : Int32 → zSt → Prop} : ∀ (x1 : Int64) (σ : zSt) (H : Heap) (locs : List Loc) (ls : Array Slot), w_X12_isNewShape N x1 σ Q → va_P (dC, dI) vwCl (m_W ad cI cJ cC σ) H → va_D (zAW m_n ad s.heap.size) (m_W ad cI cJ cC σ) → va_S (zAW m_n ad s.heap.size) s.heap H locs → lv_has ls 4 [(0, .ref (ad 0)), (1, .long x1)] → W p l e rm_X12_isNewShape s m args below meth c H locs 0 0 (MQ below (zQi (dC, dI) (m_ty cI cJ cC) (m_W ad cI cJ cC) (zAW m_n ad s.heap.size) Q) args s 0 0 (zAW m_n ad s.heap.size)) (F0 m 0 ls []) := by
  obtain ⟨hx, hb, hml, hr, hown, hts, hlocks⟩ := id C0
  intro x1 σ H locs ls h hP hD hS hl
  unfold w_X12_isNewShape at h
  refine lv_iconst (v := (0 : Int32)) hx hb dX12_isNewShape_0 (by decide) ?_
  refine lv_istore_n (lv' := [(3, .int (0 : Int32)), (0, .ref (ad 0)), (1, .long x1)]) hx hb dX12_isNewShape_1 rfl hl (by decide) rfl (fun ls hl => ?_)
  exact t_X12_isNewShape_2 C0 hK N  N x1 (0 : Int32) σ _ _ _ h hP hD hS (lv_sub hl [1, 2, 0] rfl)
set_option maxHeartbeats 4000000 in
set_option maxRecDepth 100000 in
theorem c_X12_isNewShape (N : Nat) (l : Launch) (dC : Nat → ClassId) (dI : Nat → Nat → Nat) (ad : Nat → Nat) (cI cJ cC : ClassId) (sz : Nat) (σ : zSt) (x1 : Int64) (Q : Int32 → zSt → Prop) (h : w_X12_isNewShape N x1 σ Q) : Met l yX12_isNewShape vs_X12_isNewShape rm_X12_isNewShape (va_Pc [.ref (ad 0), .long x1] (zPc (dC, dI) (m_ty cI cJ cC) (m_W ad cI cJ cC) sz σ)) (zQi (dC, dI) (m_ty cI cJ cC) (m_W ad cI cJ cC) (zAW m_n ad sz) Q) 0 0 (zAW m_n ad sz) := by
  refine Met.ofW (cc := cX12_isNewShape) (maxL := 4) (ret := (some .boolean)) (by decide) rfl ?_
  intro p e s m args below meth c s₁ B hml hv
  obtain ⟨rfl, hsz, hP, hK, hD0⟩ := hv
  subst hsz
  have C0 : zCx p s m meth c _ RX12 cX12_isNewShape 4 (some .boolean) vs_X12_isNewShape := ⟨B.exec, B.bytes, hml, B.returns, findClass_of_methodNamed B.named, atoms_spec (ws := vs_X12_isNewShape) B.pre, B.notSynchronized⟩
  have hD := m_D0 (n0 := s.heap.size) hD0
  have hl := lv_entry ([.ref (ad 0), .long x1]) (n := 4) (Nat.le_of_ble_eq_true rfl)
  rw [lg_entry_eq]
  generalize (lg_sl ([.ref (ad 0), .long x1]) ++ List.replicate (4 - (lg_sl ([.ref (ad 0), .long x1])).length) Slot.unset).toArray = ls at hl ⊢
  exact t_X12_isNewShape_0 C0 hK N x1 σ _ _ ls h hP hD va_S.rf hl
theorem k_X12_isNewShape (N : Nat) {R : Room} {H : Heap} {locs : List Loc} {cells slots : Nat} {Q2 : State → Prop} {cc : ByteArray} {nL pc index : Nat} {ls : Array Slot} {rest : List Value} {own : String} {c0 : Cond} {σ : zSt} {x1 : Int64} {Q : Int32 → zSt → Prop} (S0 : CallFix p m c cc nL s args (c0 :: zT) own) (hml : Cond.methodLink own index yX12_isNewShape ∈ zT) (hR : rm_X12_isNewShape.frames + 1 ≤ R.frames ∧ 8 + (4 + 11) + rm_X12_isNewShape.locals ≤ R.locals) (h : w_X12_isNewShape N x1 σ Q) (hK : va_K (dC, dI) vwCl (m_ty cI cJ cC) s) (hP : va_P (dC, dI) vwCl (m_W ad cI cJ cC σ) H) (hD : va_D (zAW m_n ad s.heap.size) (m_W ad cI cJ cC σ)) (hS : va_S (zAW m_n ad s.heap.size) s.heap H locs) (hsz : ls.size = nL) (hW : (rest.map fun v => v.category).sum ≤ 8) (hcs : cells ≤ R.cells ∧ slots ≤ R.slots) (hdg : decode cc pc = .ok (.invokevirtual index, 3)) (kk : ∀ (r : Int32) (τ : zSt) (H1 : Heap) (locs1 : List Loc), Q r τ → va_P (dC, dI) vwCl (m_W ad cI cJ cC τ) H1 → va_D (zAW m_n ad s.heap.size) (m_W ad cI cJ cC τ) → va_S (zAW m_n ad s.heap.size) s.heap H1 locs1 → W p l e R s m args below meth c H1 locs1 cells slots Q2 (F0 m (pc + 3) ls (.int r :: rest))) : W p l e R s m args below meth c H locs cells slots Q2 (F0 m pc ls (.long x1 :: .ref (ad 0) :: rest)) :=
  zcv_i (T := TX12) (N' := 83) (k := 0) (ci := 12) (fs := m_f0 ad σ) [.long x1] S0 (c_X12_isNewShape N l dC dI ad cI cJ cC H.size σ x1 Q h) (cw_X12_isNewShape S0.2.2.2.2 hml rfl rfl hR) rfl rfl hK hP hD hS rfl hsz hW rfl hcs hdg kk
end q24
section q24
def b_X12_all_71 (N : Nat) (k_28 : Int32 → Int32 → Int64 → zSt → Prop) (Q : Int32 → zSt → Prop) (x1 : Int32) (x2 : Int32) (x3 : Int64) (σ : zSt) : Prop :=
  (vp_in (σ.1 27) 1024) ∧ (∀ τ1 : zSt, τ1 = zB σ 6 (vp_updL (σ.2.2.2 6) ((σ.1 27).toNatClampNeg) x3) → ∀ τ2 : zSt, τ2 = zI τ1 27 ((τ1.1 27) + (1 : Int32)) → ∀ v3 : Int64, v3 = x3 + (1 : Int64) → k_28 x1 x2 v3 τ2)
def b_X12_all_28 (N : Nat) (k_28 : Int32 → Int32 → Int64 → zSt → Prop) (Q : Int32 → zSt → Prop) (x1 : Int32) (x2 : Int32) (x3 : Int64) (σ : zSt) : Prop :=
  w_X12_pairs N σ (fun r1 τ2 => (0 ≤ (lg_cmp x3 ((1 : Int64) <<< (r1.toInt64 &&& 63))) → Q (τ2.1 27) τ2) ∧ (¬ 0 ≤ (lg_cmp x3 ((1 : Int64) <<< (r1.toInt64 &&& 63))) → w_X12_may N x3 τ2 (fun r3 τ4 => (r3 = 0 → ∀ v5 : Int64, v5 = x3 + (1 : Int64) → k_28 x1 x2 v5 τ4) ∧ (¬ r3 = 0 → w_X12_isRest N x3 x1 τ4 (fun r6 τ7 => (r6 = 0 → ∀ v8 : Int64, v8 = x3 + (1 : Int64) → k_28 x1 x2 v8 τ7) ∧ (¬ r6 = 0 → (x2 = 0 → b_X12_all_71 N k_28 Q x1 x2 x3 τ7) ∧ (¬ x2 = 0 → w_X12_isNewShape N x3 τ7 (fun r9 τ10 => (r9 = 0 → ∀ v11 : Int64, v11 = x3 + (1 : Int64) → k_28 x1 x2 v11 τ10) ∧ (¬ r9 = 0 → b_X12_all_71 N k_28 Q x1 x2 x3 τ10)))))))))
def w_X12_all_28 (N : Nat) (Q : Int32 → zSt → Prop) : Nat → Int32 → Int32 → Int64 → zSt → Prop
  | 0 => fun _ _ _ _ => False
  | f + 1 => b_X12_all_28 N (w_X12_all_28 N  Q f) Q
def w_X12_all (N : Nat) (x1 : Int32) (x2 : Int32) (σ : zSt) (Q : Int32 → zSt → Prop) : Prop :=
  w_X12_isIn N x1.toInt64 (0 : Int64) (5 : Int64) σ (fun r1 τ2 => (r1 = 0 → Q (-1 : Int32) τ2) ∧ (¬ r1 = 0 → w_X12_areFew N τ2 (fun r3 τ4 => (r3 = 0 → Q (-1 : Int32) τ4) ∧ (¬ r3 = 0 → ∀ τ5 : zSt, τ5 = zI τ4 27 (0 : Int32) → w_X12_all_28 N Q N x1 x2 (0 : Int64) τ5))))
variable {p : Program} {l : Launch} {e : Env} {s : State} {m : MethodId} {args : Array Value} {below : List Frame} {meth : Method} {c : Code} {dC : Nat → ClassId} {dI : Nat → Nat → Nat} {ad : Nat → Nat} {cI cJ cC : ClassId}
set_option maxHeartbeats 4000000 in
set_option maxRecDepth 100000 in
theorem t_X12_all_71 (C0 : zCx p s m meth c args RX12 cX12_all 5 (some .int) vs_X12_all) (hK : va_K (dC, dI) vwCl (m_ty cI cJ cC) s) (N : Nat) {Q : Int32 → zSt → Prop} {k_28 : Int32 → Int32 → Int64 → zSt → Prop} (hk_28 : ∀ (x1 : Int32) (x2 : Int32) (x3 : Int64) (σ : zSt) (H : Heap) (locs : List Loc) (ls : Array Slot), k_28 x1 x2 x3 σ → va_P (dC, dI) vwCl (m_W ad cI cJ cC σ) H → va_D (zAW m_n ad s.heap.size) (m_W ad cI cJ cC σ) → va_S (zAW m_n ad s.heap.size) s.heap H locs → lv_has ls 5 [(0, .ref (ad 0)), (1, .int x1), (2, .int x2), (3, .long x3)] → W p l e rm_X12_all s m args below meth c H locs 0 0 (MQ below (zQi (dC, dI) (m_ty cI cJ cC) (m_W ad cI cJ cC) (zAW m_n ad s.heap.size) Q) args s 0 0 (zAW m_n ad s.heap.size)) (F0 m 28 ls [])) : ∀ (x1 : Int32) (x2 : Int32) (x3 : Int64) (σ : zSt) (H : Heap) (locs : List Loc) (ls : Array Slot), b_X12_all_71 N k_28 Q x1 x2 x3 σ → va_P (dC, dI) vwCl (m_W ad cI cJ cC σ) H → va_D (zAW m_n ad s.heap.size) (m_W ad cI cJ cC σ) → va_S (zAW m_n ad s.heap.size) s.heap H locs → lv_has ls 5 [(0, .ref (ad 0)), (1, .int x1), (2, .int x2), (3, .long x3)] → W p l e rm_X12_all s m args below meth c H locs 0 0 (MQ below (zQi (dC, dI) (m_ty cI cJ cC) (m_W ad cI cJ cC) (zAW m_n ad s.heap.size) Q) args s 0 0 (zAW m_n ad s.heap.size)) (F0 m 71 ls []) := by
  obtain ⟨hx, hb, hml, hr, hown, hts, hlocks⟩ := id C0
  intro x1 x2 x3 σ H locs ls h hP hD hS hl
  unfold b_X12_all_71 at h
  refine lv_aload_n hx hb dX12_all_71 rfl (lv_at hl 0 rfl) ?_
  refine mg_0_74 hx hb hts hown hK hP mw_907 dX12_all_72 ?_
  refine lv_aload_n hx hb dX12_all_75 rfl (lv_at hl 0 rfl) ?_
  refine mg_0_73 hx hb hts hown hK hP mw_906 dX12_all_76 ?_
  refine lv_lload_n hx hb dX12_all_79 rfl (lv_at hl 3 rfl) ?_
  refine ms_22 hx hb hK hP hD hS h.1 rfl dX12_all_80 (fun τ1 H locs eτ1 hP hD hS => ?_)
  have h := h.2
  have h := h τ1 eτ1
  refine lv_aload_n hx hb dX12_all_81 rfl (lv_at hl 0 rfl) ?_
  refine lv_dup hx hb dX12_all_82 rfl ?_
  refine mg_0_73 hx hb hts hown hK hP mw_906 dX12_all_83 ?_
  refine lv_iconst (v := (1 : Int32)) hx hb dX12_all_86 (by decide) ?_
  refine lv_iadd hx hb dX12_all_87 ?_
  refine mp_0_73 hx hb hts hown hK hP hD hS mw_906 dX12_all_88 (fun τ2 H locs eτ2 hP hD hS => ?_)
  have h := h τ2 eτ2
  refine lv_lload_n hx hb dX12_all_91 rfl (lv_at hl 3 rfl) ?_
  refine lv_lconst (v := (1 : Int64)) hx hb dX12_all_92 (by decide) ?_
  refine lv_ladd hx hb dX12_all_93 ?_
  refine lv_topl (fun v3 ev3 => ?_)
  have h := h v3 ev3
  refine lv_lstore_n (lv' := [(3, .long v3), (0, .ref (ad 0)), (1, .int x1), (2, .int x2)]) hx hb dX12_all_94 rfl hl (by decide) rfl (fun ls hl => ?_)
  refine lv_goto (tgt := 28) hx hb dX12_all_95 (by decide) ?_
  exact hk_28 x1 x2 v3 τ2 _ _ _ h hP hD hS (lv_sub hl [1, 2, 3, 0] rfl)
set_option maxHeartbeats 4000000 in
set_option maxRecDepth 100000 in
theorem tb_X12_all_28 (C0 : zCx p s m meth c args RX12 cX12_all 5 (some .int) vs_X12_all) (hK : va_K (dC, dI) vwCl (m_ty cI cJ cC) s) (N : Nat) {Q : Int32 → zSt → Prop} {k_28 : Int32 → Int32 → Int64 → zSt → Prop} (hk_28 : ∀ (x1 : Int32) (x2 : Int32) (x3 : Int64) (σ : zSt) (H : Heap) (locs : List Loc) (ls : Array Slot), k_28 x1 x2 x3 σ → va_P (dC, dI) vwCl (m_W ad cI cJ cC σ) H → va_D (zAW m_n ad s.heap.size) (m_W ad cI cJ cC σ) → va_S (zAW m_n ad s.heap.size) s.heap H locs → lv_has ls 5 [(0, .ref (ad 0)), (1, .int x1), (2, .int x2), (3, .long x3)] → W p l e rm_X12_all s m args below meth c H locs 0 0 (MQ below (zQi (dC, dI) (m_ty cI cJ cC) (m_W ad cI cJ cC) (zAW m_n ad s.heap.size) Q) args s 0 0 (zAW m_n ad s.heap.size)) (F0 m 28 ls [])) : ∀ (x1 : Int32) (x2 : Int32) (x3 : Int64) (σ : zSt) (H : Heap) (locs : List Loc) (ls : Array Slot), b_X12_all_28 N k_28 Q x1 x2 x3 σ → va_P (dC, dI) vwCl (m_W ad cI cJ cC σ) H → va_D (zAW m_n ad s.heap.size) (m_W ad cI cJ cC σ) → va_S (zAW m_n ad s.heap.size) s.heap H locs → lv_has ls 5 [(0, .ref (ad 0)), (1, .int x1), (2, .int x2), (3, .long x3)] → W p l e rm_X12_all s m args below meth c H locs 0 0 (MQ below (zQi (dC, dI) (m_ty cI cJ cC) (m_W ad cI cJ cC) (zAW m_n ad s.heap.size) Q) args s 0 0 (zAW m_n ad s.heap.size)) (F0 m 28 ls []) := by
  obtain ⟨hx, hb, hml, hr, hown, hts, hlocks⟩ := id C0
  intro x1 x2 x3 σ H locs ls h hP hD hS hl
  unfold b_X12_all_28 at h
  refine lv_lload_n hx hb dX12_all_28 rfl (lv_at hl 3 rfl) ?_
  refine lv_lconst (v := (1 : Int64)) hx hb dX12_all_29 (by decide) ?_
  refine lv_aload_n hx hb dX12_all_30 rfl (lv_at hl 0 rfl) ?_
  refine k_X12_pairs N ⟨hx, hb, hml, hown, hts⟩ mw_1047 ⟨Nat.le_of_ble_eq_true rfl, Nat.le_of_ble_eq_true rfl⟩ h hK hP hD hS hl.1 (rest := [.long (1 : Int64), .long x3]) (Nat.le_of_ble_eq_true rfl) ⟨Nat.le_of_ble_eq_true rfl, Nat.le_of_ble_eq_true rfl⟩ dX12_all_31 (fun r1 τ2 H locs h hP hD hS => ?_)
  refine lv_lshl hx hb dX12_all_34 rfl ?_
  refine W.lcmp hx hb dX12_all_35 ?_
  refine lv_if_ge (tgt := 98) hx hb dX12_all_36 (by decide) (fun hc => ?_) (fun hc => ?_)
  · have h := h.1 hc
    refine lv_aload_n hx hb dX12_all_98 rfl (lv_at hl 0 rfl) ?_
    refine mg_0_73 hx hb hts hown hK hP mw_906 dX12_all_99 ?_
    exact zret_i hx hb hr hlocks hK hP hD hS h dX12_all_102
  · have h := h.2 hc
    refine lv_aload_n hx hb dX12_all_39 rfl (lv_at hl 0 rfl) ?_
    refine lv_lload_n hx hb dX12_all_40 rfl (lv_at hl 3 rfl) ?_
    refine k_X12_may N ⟨hx, hb, hml, hown, hts⟩ mw_1065 ⟨Nat.le_of_ble_eq_true rfl, Nat.le_of_ble_eq_true rfl⟩ h hK hP hD hS hl.1 (rest := []) (Nat.le_of_ble_eq_true rfl) ⟨Nat.le_of_ble_eq_true rfl, Nat.le_of_ble_eq_true rfl⟩ dX12_all_41 (fun r3 τ4 H locs h hP hD hS => ?_)
    refine lv_if_eq (tgt := 91) hx hb dX12_all_44 (by decide) (fun hc => ?_) (fun hc => ?_)
    · have h := h.1 hc
      refine lv_lload_n hx hb dX12_all_91 rfl (lv_at hl 3 rfl) ?_
      refine lv_lconst (v := (1 : Int64)) hx hb dX12_all_92 (by decide) ?_
      refine lv_ladd hx hb dX12_all_93 ?_
      refine lv_topl (fun v5 ev5 => ?_)
      have h := h v5 ev5
      refine lv_lstore_n (lv' := [(3, .long v5), (0, .ref (ad 0)), (1, .int x1), (2, .int x2)]) hx hb dX12_all_94 rfl hl (by decide) rfl (fun ls hl => ?_)
      refine lv_goto (tgt := 28) hx hb dX12_all_95 (by decide) ?_
      exact hk_28 x1 x2 v5 τ4 _ _ _ h hP hD hS (lv_sub hl [1, 2, 3, 0] rfl)
    · have h := h.2 hc
      refine lv_aload_n hx hb dX12_all_47 rfl (lv_at hl 0 rfl) ?_
      refine lv_lload_n hx hb dX12_all_48 rfl (lv_at hl 3 rfl) ?_
      refine lv_iload_n hx hb dX12_all_49 rfl (lv_at hl 1 rfl) ?_
      refine k_X12_isRest N ⟨hx, hb, hml, hown, hts⟩ mw_1145 ⟨Nat.le_of_ble_eq_true rfl, Nat.le_of_ble_eq_true rfl⟩ h hK hP hD hS hl.1 (rest := []) (Nat.le_of_ble_eq_true rfl) ⟨Nat.le_of_ble_eq_true rfl, Nat.le_of_ble_eq_true rfl⟩ dX12_all_50 (fun r6 τ7 H locs h hP hD hS => ?_)
      refine lv_if_eq (tgt := 91) hx hb dX12_all_53 (by decide) (fun hc => ?_) (fun hc => ?_)
      · have h := h.1 hc
        refine lv_lload_n hx hb dX12_all_91 rfl (lv_at hl 3 rfl) ?_
        refine lv_lconst (v := (1 : Int64)) hx hb dX12_all_92 (by decide) ?_
        refine lv_ladd hx hb dX12_all_93 ?_
        refine lv_topl (fun v8 ev8 => ?_)
        have h := h v8 ev8
        refine lv_lstore_n (lv' := [(3, .long v8), (0, .ref (ad 0)), (1, .int x1), (2, .int x2)]) hx hb dX12_all_94 rfl hl (by decide) rfl (fun ls hl => ?_)
        refine lv_goto (tgt := 28) hx hb dX12_all_95 (by decide) ?_
        exact hk_28 x1 x2 v8 τ7 _ _ _ h hP hD hS (lv_sub hl [1, 2, 3, 0] rfl)
      · have h := h.2 hc
        refine lv_iload_n hx hb dX12_all_56 rfl (lv_at hl 2 rfl) ?_
        refine lv_if_eq (tgt := 71) hx hb dX12_all_57 (by decide) (fun hc => ?_) (fun hc => ?_)
        · have h := h.1 hc
          exact t_X12_all_71 C0 hK N hk_28 x1 x2 x3 τ7 _ _ _ h hP hD hS (lv_sub hl [0, 1, 2, 3] rfl)
        · have h := h.2 hc
          refine lv_aload_n hx hb dX12_all_60 rfl (lv_at hl 0 rfl) ?_
          refine lv_lload_n hx hb dX12_all_61 rfl (lv_at hl 3 rfl) ?_
          refine k_X12_isNewShape N ⟨hx, hb, hml, hown, hts⟩ mw_1230 ⟨Nat.le_of_ble_eq_true rfl, Nat.le_of_ble_eq_true rfl⟩ h hK hP hD hS hl.1 (rest := []) (Nat.le_of_ble_eq_true rfl) ⟨Nat.le_of_ble_eq_true rfl, Nat.le_of_ble_eq_true rfl⟩ dX12_all_62 (fun r9 τ10 H locs h hP hD hS => ?_)
          refine lv_if_ne (tgt := 71) hx hb dX12_all_65 (by decide) (fun hc => ?_) (fun hc => ?_)
          · have h := h.2 hc
            exact t_X12_all_71 C0 hK N hk_28 x1 x2 x3 τ10 _ _ _ h hP hD hS (lv_sub hl [0, 1, 2, 3] rfl)
          · have h := h.1 hc
            refine lv_goto (tgt := 91) hx hb dX12_all_68 (by decide) ?_
            refine lv_lload_n hx hb dX12_all_91 rfl (lv_at hl 3 rfl) ?_
            refine lv_lconst (v := (1 : Int64)) hx hb dX12_all_92 (by decide) ?_
            refine lv_ladd hx hb dX12_all_93 ?_
            refine lv_topl (fun v11 ev11 => ?_)
            have h := h v11 ev11
            refine lv_lstore_n (lv' := [(3, .long v11), (0, .ref (ad 0)), (1, .int x1), (2, .int x2)]) hx hb dX12_all_94 rfl hl (by decide) rfl (fun ls hl => ?_)
            refine lv_goto (tgt := 28) hx hb dX12_all_95 (by decide) ?_
            exact hk_28 x1 x2 v11 τ10 _ _ _ h hP hD hS (lv_sub hl [1, 2, 3, 0] rfl)
set_option maxHeartbeats 4000000 in
set_option maxRecDepth 100000 in
theorem t_X12_all_28 (C0 : zCx p s m meth c args RX12 cX12_all 5 (some .int) vs_X12_all) (hK : va_K (dC, dI) vwCl (m_ty cI cJ cC) s) (N : Nat) {Q : Int32 → zSt → Prop} : ∀ (f : Nat) (x1 : Int32) (x2 : Int32) (x3 : Int64) (σ : zSt) (H : Heap) (locs : List Loc) (ls : Array Slot), w_X12_all_28 N  Q f x1 x2 x3 σ → va_P (dC, dI) vwCl (m_W ad cI cJ cC σ) H → va_D (zAW m_n ad s.heap.size) (m_W ad cI cJ cC σ) → va_S (zAW m_n ad s.heap.size) s.heap H locs → lv_has ls 5 [(0, .ref (ad 0)), (1, .int x1), (2, .int x2), (3, .long x3)] → W p l e rm_X12_all s m args below meth c H locs 0 0 (MQ below (zQi (dC, dI) (m_ty cI cJ cC) (m_W ad cI cJ cC) (zAW m_n ad s.heap.size) Q) args s 0 0 (zAW m_n ad s.heap.size)) (F0 m 28 ls []) := by
  intro f
  induction f with
  | zero => intro x1 x2 x3 σ H locs ls h; exact h.elim
  | succ f ih =>
    intro x1 x2 x3 σ H locs ls h hP hD hS hl
    exact tb_X12_all_28 C0 hK N  (k_28 := w_X12_all_28 N  Q f) ih x1 x2 x3 σ H locs ls h hP hD hS hl
set_option maxHeartbeats 4000000 in
set_option maxRecDepth 100000 in
theorem t_X12_all_0 (C0 : zCx p s m meth c args RX12 cX12_all 5 (some .int) vs_X12_all) (hK : va_K (dC, dI) vwCl (m_ty cI cJ cC) s) (N : Nat) {Q : Int32 → zSt → Prop} : ∀ (x1 : Int32) (x2 : Int32) (σ : zSt) (H : Heap) (locs : List Loc) (ls : Array Slot), w_X12_all N x1 x2 σ Q → va_P (dC, dI) vwCl (m_W ad cI cJ cC σ) H → va_D (zAW m_n ad s.heap.size) (m_W ad cI cJ cC σ) → va_S (zAW m_n ad s.heap.size) s.heap H locs → lv_has ls 5 [(0, .ref (ad 0)), (1, .int x1), (2, .int x2)] → W p l e rm_X12_all s m args below meth c H locs 0 0 (MQ below (zQi (dC, dI) (m_ty cI cJ cC) (m_W ad cI cJ cC) (zAW m_n ad s.heap.size) Q) args s 0 0 (zAW m_n ad s.heap.size)) (F0 m 0 ls []) := by
  obtain ⟨hx, hb, hml, hr, hown, hts, hlocks⟩ := id C0
  intro x1 x2 σ H locs ls h hP hD hS hl
  unfold w_X12_all at h
  refine lv_iload_n hx hb dX12_all_0 rfl (lv_at hl 1 rfl) ?_
  refine lv_i2l hx hb dX12_all_1 rfl ?_
  refine lv_lconst (v := (0 : Int64)) hx hb dX12_all_2 (by decide) ?_
  refine lv_ldc2 (v := (5 : Int64)) hx hb hown (hts _ (List.mem_cons_of_mem _ mw_1060)) dX12_all_3 ?_
  refine k_X12_isIn N ⟨hx, hb, hml, hown, hts⟩ mw_970 ⟨Nat.le_of_ble_eq_true rfl, Nat.le_of_ble_eq_true rfl⟩ h hK hP hD hS hl.1 (rest := []) (Nat.le_of_ble_eq_true rfl) ⟨Nat.le_of_ble_eq_true rfl, Nat.le_of_ble_eq_true rfl⟩ dX12_all_6 (fun r1 τ2 H locs h hP hD hS => ?_)
  refine lv_if_eq (tgt := 19) hx hb dX12_all_9 (by decide) (fun hc => ?_) (fun hc => ?_)
  · have h := h.1 hc
    refine lv_iconst (v := (-1 : Int32)) hx hb dX12_all_19 (by decide) ?_
    exact zret_i hx hb hr hlocks hK hP hD hS h dX12_all_20
  · have h := h.2 hc
    refine lv_aload_n hx hb dX12_all_12 rfl (lv_at hl 0 rfl) ?_
    refine k_X12_areFew N ⟨hx, hb, hml, hown, hts⟩ mw_1226 ⟨Nat.le_of_ble_eq_true rfl, Nat.le_of_ble_eq_true rfl⟩ h hK hP hD hS hl.1 (rest := []) (Nat.le_of_ble_eq_true rfl) ⟨Nat.le_of_ble_eq_true rfl, Nat.le_of_ble_eq_true rfl⟩ dX12_all_13 (fun r3 τ4 H locs h hP hD hS => ?_)
    refine lv_if_ne (tgt := 21) hx hb dX12_all_16 (by decide) (fun hc => ?_) (fun hc => ?_)
    · have h := h.2 hc
      refine lv_aload_n hx hb dX12_all_21 rfl (lv_at hl 0 rfl) ?_
      refine lv_iconst (v := (0 : Int32)) hx hb dX12_all_22 (by decide) ?_
      refine mp_0_73 hx hb hts hown hK hP hD hS mw_906 dX12_all_23 (fun τ5 H locs eτ5 hP hD hS => ?_)
      have h := h τ5 eτ5
      refine lv_lconst (v := (0 : Int64)) hx hb dX12_all_26 (by decide) ?_
      refine lv_lstore_n (lv' := [(3, .long (0 : Int64)), (0, .ref (ad 0)), (1, .int x1), (2, .int x2)]) hx hb dX12_all_27 rfl hl (by decide) rfl (fun ls hl => ?_)
      exact t_X12_all_28 C0 hK N  N x1 x2 (0 : Int64) τ5 _ _ _ h hP hD hS (lv_sub hl [1, 2, 3, 0] rfl)
    · have h := h.1 hc
      refine lv_iconst (v := (-1 : Int32)) hx hb dX12_all_19 (by decide) ?_
      exact zret_i hx hb hr hlocks hK hP hD hS h dX12_all_20
set_option maxHeartbeats 4000000 in
set_option maxRecDepth 100000 in
theorem c_X12_all (N : Nat) (l : Launch) (dC : Nat → ClassId) (dI : Nat → Nat → Nat) (ad : Nat → Nat) (cI cJ cC : ClassId) (sz : Nat) (σ : zSt) (x1 : Int32) (x2 : Int32) (Q : Int32 → zSt → Prop) (h : w_X12_all N x1 x2 σ Q) : Met l yX12_all vs_X12_all rm_X12_all (va_Pc [.ref (ad 0), .int x1, .int x2] (zPc (dC, dI) (m_ty cI cJ cC) (m_W ad cI cJ cC) sz σ)) (zQi (dC, dI) (m_ty cI cJ cC) (m_W ad cI cJ cC) (zAW m_n ad sz) Q) 0 0 (zAW m_n ad sz) := by
  refine Met.ofW (cc := cX12_all) (maxL := 5) (ret := (some .int)) (by decide) rfl ?_
  intro p e s m args below meth c s₁ B hml hv
  obtain ⟨rfl, hsz, hP, hK, hD0⟩ := hv
  subst hsz
  have C0 : zCx p s m meth c _ RX12 cX12_all 5 (some .int) vs_X12_all := ⟨B.exec, B.bytes, hml, B.returns, findClass_of_methodNamed B.named, atoms_spec (ws := vs_X12_all) B.pre, B.notSynchronized⟩
  have hD := m_D0 (n0 := s.heap.size) hD0
  have hl := lv_entry ([.ref (ad 0), .int x1, .int x2]) (n := 5) (Nat.le_of_ble_eq_true rfl)
  rw [lg_entry_eq]
  generalize (lg_sl ([.ref (ad 0), .int x1, .int x2]) ++ List.replicate (5 - (lg_sl ([.ref (ad 0), .int x1, .int x2])).length) Slot.unset).toArray = ls at hl ⊢
  exact t_X12_all_0 C0 hK N x1 x2 σ _ _ ls h hP hD va_S.rf hl
theorem k_X12_all (N : Nat) {R : Room} {H : Heap} {locs : List Loc} {cells slots : Nat} {Q2 : State → Prop} {cc : ByteArray} {nL pc index : Nat} {ls : Array Slot} {rest : List Value} {own : String} {c0 : Cond} {σ : zSt} {x1 : Int32} {x2 : Int32} {Q : Int32 → zSt → Prop} (S0 : CallFix p m c cc nL s args (c0 :: zT) own) (hml : Cond.methodLink own index yX12_all ∈ zT) (hR : rm_X12_all.frames + 1 ≤ R.frames ∧ 8 + (5 + 11) + rm_X12_all.locals ≤ R.locals) (h : w_X12_all N x1 x2 σ Q) (hK : va_K (dC, dI) vwCl (m_ty cI cJ cC) s) (hP : va_P (dC, dI) vwCl (m_W ad cI cJ cC σ) H) (hD : va_D (zAW m_n ad s.heap.size) (m_W ad cI cJ cC σ)) (hS : va_S (zAW m_n ad s.heap.size) s.heap H locs) (hsz : ls.size = nL) (hW : (rest.map fun v => v.category).sum ≤ 8) (hcs : cells ≤ R.cells ∧ slots ≤ R.slots) (hdg : decode cc pc = .ok (.invokevirtual index, 3)) (kk : ∀ (r : Int32) (τ : zSt) (H1 : Heap) (locs1 : List Loc), Q r τ → va_P (dC, dI) vwCl (m_W ad cI cJ cC τ) H1 → va_D (zAW m_n ad s.heap.size) (m_W ad cI cJ cC τ) → va_S (zAW m_n ad s.heap.size) s.heap H1 locs1 → W p l e R s m args below meth c H1 locs1 cells slots Q2 (F0 m (pc + 3) ls (.int r :: rest))) : W p l e R s m args below meth c H locs cells slots Q2 (F0 m pc ls (.int x2 :: .int x1 :: .ref (ad 0) :: rest)) :=
  zcv_i (T := TX12) (N' := 83) (k := 0) (ci := 12) (fs := m_f0 ad σ) [.int x1, .int x2] S0 (c_X12_all N l dC dI ad cI cJ cC H.size σ x1 x2 Q h) (cw_X12_all S0.2.2.2.2 hml rfl rfl hR) rfl rfl hK hP hD hS rfl hsz hW rfl hcs hdg kk
end q24
section q24
def w_X12_one (N : Nat) (x1 : Int32) (σ : zSt) (Q : Int64 → zSt → Prop) : Prop :=
  (x1 < 0 → Q (-1 : Int64) σ) ∧ (¬ x1 < 0 → ((σ.1 27) ≤ x1 → Q (-1 : Int64) σ) ∧ (¬ (σ.1 27) ≤ x1 → (vp_in x1 1024) ∧ (Q (σ.2.2.2 6 x1.toNatClampNeg) σ)))
variable {p : Program} {l : Launch} {e : Env} {s : State} {m : MethodId} {args : Array Value} {below : List Frame} {meth : Method} {c : Code} {dC : Nat → ClassId} {dI : Nat → Nat → Nat} {ad : Nat → Nat} {cI cJ cC : ClassId}
set_option maxHeartbeats 4000000 in
set_option maxRecDepth 100000 in
theorem t_X12_one_0 (C0 : zCx p s m meth c args RX12 cX12_one 2 (some .long) vs_X12_one) (hK : va_K (dC, dI) vwCl (m_ty cI cJ cC) s) (N : Nat) {Q : Int64 → zSt → Prop} : ∀ (x1 : Int32) (σ : zSt) (H : Heap) (locs : List Loc) (ls : Array Slot), w_X12_one N x1 σ Q → va_P (dC, dI) vwCl (m_W ad cI cJ cC σ) H → va_D (zAW m_n ad s.heap.size) (m_W ad cI cJ cC σ) → va_S (zAW m_n ad s.heap.size) s.heap H locs → lv_has ls 2 [(0, .ref (ad 0)), (1, .int x1)] → W p l e rm_X12_one s m args below meth c H locs 0 0 (MQ below (zQl (dC, dI) (m_ty cI cJ cC) (m_W ad cI cJ cC) (zAW m_n ad s.heap.size) Q) args s 0 0 (zAW m_n ad s.heap.size)) (F0 m 0 ls []) := by
  obtain ⟨hx, hb, hml, hr, hown, hts, hlocks⟩ := id C0
  intro x1 σ H locs ls h hP hD hS hl
  unfold w_X12_one at h
  refine lv_iload_n hx hb dX12_one_0 rfl (lv_at hl 1 rfl) ?_
  refine lv_if_lt (tgt := 21) hx hb dX12_one_1 (by decide) (fun hc => ?_) (fun hc => ?_)
  · have h := h.1 hc
    refine lv_ldc2 (v := (-1 : Int64)) hx hb hown (hts _ (List.mem_cons_of_mem _ mw_832)) dX12_one_21 ?_
    exact zret_l hx hb hr hlocks hK hP hD hS h dX12_one_24
  · have h := h.2 hc
    refine lv_iload_n hx hb dX12_one_4 rfl (lv_at hl 1 rfl) ?_
    refine lv_aload_n hx hb dX12_one_5 rfl (lv_at hl 0 rfl) ?_
    refine mg_0_73 hx hb hts hown hK hP mw_906 dX12_one_6 ?_
    refine lv_icmp_ge (tgt := 21) hx hb dX12_one_9 (by decide) (fun hc => ?_) (fun hc => ?_)
    · have h := h.1 hc
      refine lv_ldc2 (v := (-1 : Int64)) hx hb hown (hts _ (List.mem_cons_of_mem _ mw_832)) dX12_one_21 ?_
      exact zret_l hx hb hr hlocks hK hP hD hS h dX12_one_24
    · have h := h.2 hc
      refine lv_aload_n hx hb dX12_one_12 rfl (lv_at hl 0 rfl) ?_
      refine mg_0_74 hx hb hts hown hK hP mw_907 dX12_one_13 ?_
      refine lv_iload_n hx hb dX12_one_16 rfl (lv_at hl 1 rfl) ?_
      refine ma_22 hx hb hK hP h.1 rfl dX12_one_17 ?_
      have h := h.2
      refine lv_goto (tgt := 24) hx hb dX12_one_18 (by decide) ?_
      exact zret_l hx hb hr hlocks hK hP hD hS h dX12_one_24
set_option maxHeartbeats 4000000 in
set_option maxRecDepth 100000 in
theorem c_X12_one (N : Nat) (l : Launch) (dC : Nat → ClassId) (dI : Nat → Nat → Nat) (ad : Nat → Nat) (cI cJ cC : ClassId) (sz : Nat) (σ : zSt) (x1 : Int32) (Q : Int64 → zSt → Prop) (h : w_X12_one N x1 σ Q) : Met l yX12_one vs_X12_one rm_X12_one (va_Pc [.ref (ad 0), .int x1] (zPc (dC, dI) (m_ty cI cJ cC) (m_W ad cI cJ cC) sz σ)) (zQl (dC, dI) (m_ty cI cJ cC) (m_W ad cI cJ cC) (zAW m_n ad sz) Q) 0 0 (zAW m_n ad sz) := by
  refine Met.ofW (cc := cX12_one) (maxL := 2) (ret := (some .long)) (by decide) rfl ?_
  intro p e s m args below meth c s₁ B hml hv
  obtain ⟨rfl, hsz, hP, hK, hD0⟩ := hv
  subst hsz
  have C0 : zCx p s m meth c _ RX12 cX12_one 2 (some .long) vs_X12_one := ⟨B.exec, B.bytes, hml, B.returns, findClass_of_methodNamed B.named, atoms_spec (ws := vs_X12_one) B.pre, B.notSynchronized⟩
  have hD := m_D0 (n0 := s.heap.size) hD0
  have hl := lv_entry ([.ref (ad 0), .int x1]) (n := 2) (Nat.le_of_ble_eq_true rfl)
  rw [lg_entry_eq]
  generalize (lg_sl ([.ref (ad 0), .int x1]) ++ List.replicate (2 - (lg_sl ([.ref (ad 0), .int x1])).length) Slot.unset).toArray = ls at hl ⊢
  exact t_X12_one_0 C0 hK N x1 σ _ _ ls h hP hD va_S.rf hl
theorem k_X12_one (N : Nat) {R : Room} {H : Heap} {locs : List Loc} {cells slots : Nat} {Q2 : State → Prop} {cc : ByteArray} {nL pc index : Nat} {ls : Array Slot} {rest : List Value} {own : String} {c0 : Cond} {σ : zSt} {x1 : Int32} {Q : Int64 → zSt → Prop} (S0 : CallFix p m c cc nL s args (c0 :: zT) own) (hml : Cond.methodLink own index yX12_one ∈ zT) (hR : rm_X12_one.frames + 1 ≤ R.frames ∧ 8 + (2 + 11) + rm_X12_one.locals ≤ R.locals) (h : w_X12_one N x1 σ Q) (hK : va_K (dC, dI) vwCl (m_ty cI cJ cC) s) (hP : va_P (dC, dI) vwCl (m_W ad cI cJ cC σ) H) (hD : va_D (zAW m_n ad s.heap.size) (m_W ad cI cJ cC σ)) (hS : va_S (zAW m_n ad s.heap.size) s.heap H locs) (hsz : ls.size = nL) (hW : (rest.map fun v => v.category).sum ≤ 8) (hcs : cells ≤ R.cells ∧ slots ≤ R.slots) (hdg : decode cc pc = .ok (.invokevirtual index, 3)) (kk : ∀ (r : Int64) (τ : zSt) (H1 : Heap) (locs1 : List Loc), Q r τ → va_P (dC, dI) vwCl (m_W ad cI cJ cC τ) H1 → va_D (zAW m_n ad s.heap.size) (m_W ad cI cJ cC τ) → va_S (zAW m_n ad s.heap.size) s.heap H1 locs1 → W p l e R s m args below meth c H1 locs1 cells slots Q2 (F0 m (pc + 3) ls (.long r :: rest))) : W p l e R s m args below meth c H locs cells slots Q2 (F0 m pc ls (.int x1 :: .ref (ad 0) :: rest)) :=
  zcv_l (T := TX12) (N' := 83) (k := 0) (ci := 12) (fs := m_f0 ad σ) [.int x1] S0 (c_X12_one N l dC dI ad cI cJ cC H.size σ x1 Q h) (cw_X12_one S0.2.2.2.2 hml rfl rfl hR) rfl rfl hK hP hD hS rfl hsz hW rfl hcs hdg kk
end q24
section q24
def b_X12_best_70 (N : Nat) (k_20 : Int64 → Int64 → Int64 → zSt → Prop) (Q : Int64 → zSt → Prop) (x5 : Int64) (x7 : Int64) (σ : zSt) : Prop :=
  ∀ v1 : Int64, v1 = x5 + (1 : Int64) → k_20 x5 x7 v1 σ
def b_X12_best_20 (N : Nat) (k_20 : Int64 → Int64 → Int64 → zSt → Prop) (Q : Int64 → zSt → Prop) (x1 : Int64) (x3 : Int64) (x5 : Int64) (σ : zSt) : Prop :=
  w_X12_pairs N σ (fun r1 τ2 => (0 ≤ (lg_cmp x5 ((1 : Int64) <<< (r1.toInt64 &&& 63))) → Q x1 τ2) ∧ (¬ 0 ≤ (lg_cmp x5 ((1 : Int64) <<< (r1.toInt64 &&& 63))) → w_X12_may N x5 τ2 (fun r3 τ4 => (r3 = 0 → ∀ v8 : Int64, v8 = x5 + (1 : Int64) → k_20 x1 x3 v8 τ4) ∧ (¬ r3 = 0 → w_X12_worthOfAll N x5 τ4 (fun r5 τ6 => ((lg_cmp x1 (-1 : Int64)) = 0 → b_X12_best_70 N k_20 Q x5 r5 τ6) ∧ (¬ (lg_cmp x1 (-1 : Int64)) = 0 → (0 < (lg_cmp r5 x3) → b_X12_best_70 N k_20 Q x5 r5 τ6) ∧ (¬ 0 < (lg_cmp r5 x3) → ∀ v7 : Int64, v7 = x5 + (1 : Int64) → k_20 x1 x3 v7 τ6)))))))
def w_X12_best_20 (N : Nat) (Q : Int64 → zSt → Prop) : Nat → Int64 → Int64 → Int64 → zSt → Prop
  | 0 => fun _ _ _ _ => False
  | f + 1 => b_X12_best_20 N (w_X12_best_20 N  Q f) Q
def w_X12_best (N : Nat)  (σ : zSt) (Q : Int64 → zSt → Prop) : Prop :=
  w_X12_areFew N σ (fun r1 τ2 => (r1 = 0 → Q (-1 : Int64) τ2) ∧ (¬ r1 = 0 → w_X12_best_20 N Q N (-1 : Int64) (0 : Int64) (0 : Int64) τ2))
variable {p : Program} {l : Launch} {e : Env} {s : State} {m : MethodId} {args : Array Value} {below : List Frame} {meth : Method} {c : Code} {dC : Nat → ClassId} {dI : Nat → Nat → Nat} {ad : Nat → Nat} {cI cJ cC : ClassId}
set_option maxHeartbeats 4000000 in
set_option maxRecDepth 100000 in
theorem t_X12_best_70 (C0 : zCx p s m meth c args RX12 cX12_best 9 (some .long) vs_X12_best) (hK : va_K (dC, dI) vwCl (m_ty cI cJ cC) s) (N : Nat) {Q : Int64 → zSt → Prop} {k_20 : Int64 → Int64 → Int64 → zSt → Prop} (hk_20 : ∀ (x1 : Int64) (x3 : Int64) (x5 : Int64) (σ : zSt) (H : Heap) (locs : List Loc) (ls : Array Slot), k_20 x1 x3 x5 σ → va_P (dC, dI) vwCl (m_W ad cI cJ cC σ) H → va_D (zAW m_n ad s.heap.size) (m_W ad cI cJ cC σ) → va_S (zAW m_n ad s.heap.size) s.heap H locs → lv_has ls 9 [(0, .ref (ad 0)), (1, .long x1), (3, .long x3), (5, .long x5)] → W p l e rm_X12_best s m args below meth c H locs 0 0 (MQ below (zQl (dC, dI) (m_ty cI cJ cC) (m_W ad cI cJ cC) (zAW m_n ad s.heap.size) Q) args s 0 0 (zAW m_n ad s.heap.size)) (F0 m 20 ls [])) : ∀ (x5 : Int64) (x7 : Int64) (σ : zSt) (H : Heap) (locs : List Loc) (ls : Array Slot), b_X12_best_70 N k_20 Q x5 x7 σ → va_P (dC, dI) vwCl (m_W ad cI cJ cC σ) H → va_D (zAW m_n ad s.heap.size) (m_W ad cI cJ cC σ) → va_S (zAW m_n ad s.heap.size) s.heap H locs → lv_has ls 9 [(0, .ref (ad 0)), (5, .long x5), (7, .long x7)] → W p l e rm_X12_best s m args below meth c H locs 0 0 (MQ below (zQl (dC, dI) (m_ty cI cJ cC) (m_W ad cI cJ cC) (zAW m_n ad s.heap.size) Q) args s 0 0 (zAW m_n ad s.heap.size)) (F0 m 70 ls []) := by
  obtain ⟨hx, hb, hml, hr, hown, hts, hlocks⟩ := id C0
  intro x5 x7 σ H locs ls h hP hD hS hl
  unfold b_X12_best_70 at h
  refine lv_lload hx hb dX12_best_70 (lv_at hl 1 rfl) ?_
  refine lv_lstore_n (lv' := [(1, .long x5), (0, .ref (ad 0)), (5, .long x5), (7, .long x7)]) hx hb dX12_best_72 rfl hl (by decide) rfl (fun ls hl => ?_)
  refine lv_lload hx hb dX12_best_73 (lv_at hl 3 rfl) ?_
  refine lv_lstore_n (lv' := [(3, .long x7), (1, .long x5), (0, .ref (ad 0)), (5, .long x5), (7, .long x7)]) hx hb dX12_best_75 rfl hl (by decide) rfl (fun ls hl => ?_)
  refine lv_lload hx hb dX12_best_76 (lv_at hl 3 rfl) ?_
  refine lv_lconst (v := (1 : Int64)) hx hb dX12_best_78 (by decide) ?_
  refine lv_ladd hx hb dX12_best_79 ?_
  refine lv_topl (fun v1 ev1 => ?_)
  have h := h v1 ev1
  refine lv_lstore (lv' := [(5, .long v1), (3, .long x7), (1, .long x5), (0, .ref (ad 0)), (7, .long x7)]) hx hb dX12_best_80 hl (by decide) rfl (fun ls hl => ?_)
  refine lv_goto (tgt := 20) hx hb dX12_best_82 (by decide) ?_
  exact hk_20 x5 x7 v1 σ _ _ _ h hP hD hS (lv_sub hl [3, 2, 1, 0] rfl)
set_option maxHeartbeats 4000000 in
set_option maxRecDepth 100000 in
theorem tb_X12_best_20 (C0 : zCx p s m meth c args RX12 cX12_best 9 (some .long) vs_X12_best) (hK : va_K (dC, dI) vwCl (m_ty cI cJ cC) s) (N : Nat) {Q : Int64 → zSt → Prop} {k_20 : Int64 → Int64 → Int64 → zSt → Prop} (hk_20 : ∀ (x1 : Int64) (x3 : Int64) (x5 : Int64) (σ : zSt) (H : Heap) (locs : List Loc) (ls : Array Slot), k_20 x1 x3 x5 σ → va_P (dC, dI) vwCl (m_W ad cI cJ cC σ) H → va_D (zAW m_n ad s.heap.size) (m_W ad cI cJ cC σ) → va_S (zAW m_n ad s.heap.size) s.heap H locs → lv_has ls 9 [(0, .ref (ad 0)), (1, .long x1), (3, .long x3), (5, .long x5)] → W p l e rm_X12_best s m args below meth c H locs 0 0 (MQ below (zQl (dC, dI) (m_ty cI cJ cC) (m_W ad cI cJ cC) (zAW m_n ad s.heap.size) Q) args s 0 0 (zAW m_n ad s.heap.size)) (F0 m 20 ls [])) : ∀ (x1 : Int64) (x3 : Int64) (x5 : Int64) (σ : zSt) (H : Heap) (locs : List Loc) (ls : Array Slot), b_X12_best_20 N k_20 Q x1 x3 x5 σ → va_P (dC, dI) vwCl (m_W ad cI cJ cC σ) H → va_D (zAW m_n ad s.heap.size) (m_W ad cI cJ cC σ) → va_S (zAW m_n ad s.heap.size) s.heap H locs → lv_has ls 9 [(0, .ref (ad 0)), (1, .long x1), (3, .long x3), (5, .long x5)] → W p l e rm_X12_best s m args below meth c H locs 0 0 (MQ below (zQl (dC, dI) (m_ty cI cJ cC) (m_W ad cI cJ cC) (zAW m_n ad s.heap.size) Q) args s 0 0 (zAW m_n ad s.heap.size)) (F0 m 20 ls []) := by
  obtain ⟨hx, hb, hml, hr, hown, hts, hlocks⟩ := id C0
  intro x1 x3 x5 σ H locs ls h hP hD hS hl
  unfold b_X12_best_20 at h
  refine lv_lload hx hb dX12_best_20 (lv_at hl 3 rfl) ?_
  refine lv_lconst (v := (1 : Int64)) hx hb dX12_best_22 (by decide) ?_
  refine lv_aload_n hx hb dX12_best_23 rfl (lv_at hl 0 rfl) ?_
  refine k_X12_pairs N ⟨hx, hb, hml, hown, hts⟩ mw_1047 ⟨Nat.le_of_ble_eq_true rfl, Nat.le_of_ble_eq_true rfl⟩ h hK hP hD hS hl.1 (rest := [.long (1 : Int64), .long x5]) (Nat.le_of_ble_eq_true rfl) ⟨Nat.le_of_ble_eq_true rfl, Nat.le_of_ble_eq_true rfl⟩ dX12_best_24 (fun r1 τ2 H locs h hP hD hS => ?_)
  refine lv_lshl hx hb dX12_best_27 rfl ?_
  refine W.lcmp hx hb dX12_best_28 ?_
  refine lv_if_ge (tgt := 85) hx hb dX12_best_29 (by decide) (fun hc => ?_) (fun hc => ?_)
  · have h := h.1 hc
    refine lv_lload_n hx hb dX12_best_85 rfl (lv_at hl 1 rfl) ?_
    exact zret_l hx hb hr hlocks hK hP hD hS h dX12_best_86
  · have h := h.2 hc
    refine lv_aload_n hx hb dX12_best_32 rfl (lv_at hl 0 rfl) ?_
    refine lv_lload hx hb dX12_best_33 (lv_at hl 3 rfl) ?_
    refine k_X12_may N ⟨hx, hb, hml, hown, hts⟩ mw_1065 ⟨Nat.le_of_ble_eq_true rfl, Nat.le_of_ble_eq_true rfl⟩ h hK hP hD hS hl.1 (rest := []) (Nat.le_of_ble_eq_true rfl) ⟨Nat.le_of_ble_eq_true rfl, Nat.le_of_ble_eq_true rfl⟩ dX12_best_35 (fun r3 τ4 H locs h hP hD hS => ?_)
    refine lv_if_ne (tgt := 44) hx hb dX12_best_38 (by decide) (fun hc => ?_) (fun hc => ?_)
    · have h := h.2 hc
      refine lv_aload_n hx hb dX12_best_44 rfl (lv_at hl 0 rfl) ?_
      refine lv_lload hx hb dX12_best_45 (lv_at hl 3 rfl) ?_
      refine k_X12_worthOfAll N ⟨hx, hb, hml, hown, hts⟩ mw_1101 ⟨Nat.le_of_ble_eq_true rfl, Nat.le_of_ble_eq_true rfl⟩ h hK hP hD hS hl.1 (rest := []) (Nat.le_of_ble_eq_true rfl) ⟨Nat.le_of_ble_eq_true rfl, Nat.le_of_ble_eq_true rfl⟩ dX12_best_47 (fun r5 τ6 H locs h hP hD hS => ?_)
      refine lv_lstore (lv' := [(7, .long r5), (0, .ref (ad 0)), (1, .long x1), (3, .long x3), (5, .long x5)]) hx hb dX12_best_50 hl (by decide) rfl (fun ls hl => ?_)
      refine lv_lload_n hx hb dX12_best_52 rfl (lv_at hl 2 rfl) ?_
      refine lv_ldc2 (v := (-1 : Int64)) hx hb hown (hts _ (List.mem_cons_of_mem _ mw_832)) dX12_best_53 ?_
      refine W.lcmp hx hb dX12_best_56 ?_
      refine lv_if_eq (tgt := 70) hx hb dX12_best_57 (by decide) (fun hc => ?_) (fun hc => ?_)
      · have h := h.1 hc
        exact t_X12_best_70 C0 hK N hk_20 x5 r5 τ6 _ _ _ h hP hD hS (lv_sub hl [1, 4, 0] rfl)
      · have h := h.2 hc
        refine lv_lload hx hb dX12_best_60 (lv_at hl 0 rfl) ?_
        refine lv_lload_n hx hb dX12_best_62 rfl (lv_at hl 3 rfl) ?_
        refine W.lcmp hx hb dX12_best_63 ?_
        refine lv_if_gt (tgt := 70) hx hb dX12_best_64 (by decide) (fun hc => ?_) (fun hc => ?_)
        · have h := h.1 hc
          exact t_X12_best_70 C0 hK N hk_20 x5 r5 τ6 _ _ _ h hP hD hS (lv_sub hl [1, 4, 0] rfl)
        · have h := h.2 hc
          refine lv_goto (tgt := 76) hx hb dX12_best_67 (by decide) ?_
          refine lv_lload hx hb dX12_best_76 (lv_at hl 4 rfl) ?_
          refine lv_lconst (v := (1 : Int64)) hx hb dX12_best_78 (by decide) ?_
          refine lv_ladd hx hb dX12_best_79 ?_
          refine lv_topl (fun v7 ev7 => ?_)
          have h := h v7 ev7
          refine lv_lstore (lv' := [(5, .long v7), (7, .long r5), (0, .ref (ad 0)), (1, .long x1), (3, .long x3)]) hx hb dX12_best_80 hl (by decide) rfl (fun ls hl => ?_)
          refine lv_goto (tgt := 20) hx hb dX12_best_82 (by decide) ?_
          exact hk_20 x1 x3 v7 τ6 _ _ _ h hP hD hS (lv_sub hl [2, 3, 4, 0] rfl)
    · have h := h.1 hc
      refine lv_goto (tgt := 76) hx hb dX12_best_41 (by decide) ?_
      refine lv_lload hx hb dX12_best_76 (lv_at hl 3 rfl) ?_
      refine lv_lconst (v := (1 : Int64)) hx hb dX12_best_78 (by decide) ?_
      refine lv_ladd hx hb dX12_best_79 ?_
      refine lv_topl (fun v8 ev8 => ?_)
      have h := h v8 ev8
      refine lv_lstore (lv' := [(5, .long v8), (0, .ref (ad 0)), (1, .long x1), (3, .long x3)]) hx hb dX12_best_80 hl (by decide) rfl (fun ls hl => ?_)
      refine lv_goto (tgt := 20) hx hb dX12_best_82 (by decide) ?_
      exact hk_20 x1 x3 v8 τ4 _ _ _ h hP hD hS (lv_sub hl [1, 2, 3, 0] rfl)
set_option maxHeartbeats 4000000 in
set_option maxRecDepth 100000 in
theorem t_X12_best_20 (C0 : zCx p s m meth c args RX12 cX12_best 9 (some .long) vs_X12_best) (hK : va_K (dC, dI) vwCl (m_ty cI cJ cC) s) (N : Nat) {Q : Int64 → zSt → Prop} : ∀ (f : Nat) (x1 : Int64) (x3 : Int64) (x5 : Int64) (σ : zSt) (H : Heap) (locs : List Loc) (ls : Array Slot), w_X12_best_20 N  Q f x1 x3 x5 σ → va_P (dC, dI) vwCl (m_W ad cI cJ cC σ) H → va_D (zAW m_n ad s.heap.size) (m_W ad cI cJ cC σ) → va_S (zAW m_n ad s.heap.size) s.heap H locs → lv_has ls 9 [(0, .ref (ad 0)), (1, .long x1), (3, .long x3), (5, .long x5)] → W p l e rm_X12_best s m args below meth c H locs 0 0 (MQ below (zQl (dC, dI) (m_ty cI cJ cC) (m_W ad cI cJ cC) (zAW m_n ad s.heap.size) Q) args s 0 0 (zAW m_n ad s.heap.size)) (F0 m 20 ls []) := by
  intro f
  induction f with
  | zero => intro x1 x3 x5 σ H locs ls h; exact h.elim
  | succ f ih =>
    intro x1 x3 x5 σ H locs ls h hP hD hS hl
    exact tb_X12_best_20 C0 hK N  (k_20 := w_X12_best_20 N  Q f) ih x1 x3 x5 σ H locs ls h hP hD hS hl
set_option maxHeartbeats 4000000 in
set_option maxRecDepth 100000 in
theorem t_X12_best_0 (C0 : zCx p s m meth c args RX12 cX12_best 9 (some .long) vs_X12_best) (hK : va_K (dC, dI) vwCl (m_ty cI cJ cC) s) (N : Nat) {Q : Int64 → zSt → Prop} : ∀  (σ : zSt) (H : Heap) (locs : List Loc) (ls : Array Slot), w_X12_best N  σ Q → va_P (dC, dI) vwCl (m_W ad cI cJ cC σ) H → va_D (zAW m_n ad s.heap.size) (m_W ad cI cJ cC σ) → va_S (zAW m_n ad s.heap.size) s.heap H locs → lv_has ls 9 [(0, .ref (ad 0))] → W p l e rm_X12_best s m args below meth c H locs 0 0 (MQ below (zQl (dC, dI) (m_ty cI cJ cC) (m_W ad cI cJ cC) (zAW m_n ad s.heap.size) Q) args s 0 0 (zAW m_n ad s.heap.size)) (F0 m 0 ls []) := by
  obtain ⟨hx, hb, hml, hr, hown, hts, hlocks⟩ := id C0
  intro  σ H locs ls h hP hD hS hl
  unfold w_X12_best at h
  refine lv_aload_n hx hb dX12_best_0 rfl (lv_at hl 0 rfl) ?_
  refine k_X12_areFew N ⟨hx, hb, hml, hown, hts⟩ mw_1226 ⟨Nat.le_of_ble_eq_true rfl, Nat.le_of_ble_eq_true rfl⟩ h hK hP hD hS hl.1 (rest := []) (Nat.le_of_ble_eq_true rfl) ⟨Nat.le_of_ble_eq_true rfl, Nat.le_of_ble_eq_true rfl⟩ dX12_best_1 (fun r1 τ2 H locs h hP hD hS => ?_)
  refine lv_if_ne (tgt := 11) hx hb dX12_best_4 (by decide) (fun hc => ?_) (fun hc => ?_)
  · have h := h.2 hc
    refine lv_ldc2 (v := (-1 : Int64)) hx hb hown (hts _ (List.mem_cons_of_mem _ mw_832)) dX12_best_11 ?_
    refine lv_lstore_n (lv' := [(1, .long (-1 : Int64)), (0, .ref (ad 0))]) hx hb dX12_best_14 rfl hl (by decide) rfl (fun ls hl => ?_)
    refine lv_lconst (v := (0 : Int64)) hx hb dX12_best_15 (by decide) ?_
    refine lv_lstore_n (lv' := [(3, .long (0 : Int64)), (1, .long (-1 : Int64)), (0, .ref (ad 0))]) hx hb dX12_best_16 rfl hl (by decide) rfl (fun ls hl => ?_)
    refine lv_lconst (v := (0 : Int64)) hx hb dX12_best_17 (by decide) ?_
    refine lv_lstore (lv' := [(5, .long (0 : Int64)), (3, .long (0 : Int64)), (1, .long (-1 : Int64)), (0, .ref (ad 0))]) hx hb dX12_best_18 hl (by decide) rfl (fun ls hl => ?_)
    exact t_X12_best_20 C0 hK N  N (-1 : Int64) (0 : Int64) (0 : Int64) τ2 _ _ _ h hP hD hS (lv_sub hl [3, 2, 1, 0] rfl)
  · have h := h.1 hc
    refine lv_ldc2 (v := (-1 : Int64)) hx hb hown (hts _ (List.mem_cons_of_mem _ mw_832)) dX12_best_7 ?_
    exact zret_l hx hb hr hlocks hK hP hD hS h dX12_best_10
set_option maxHeartbeats 4000000 in
set_option maxRecDepth 100000 in
theorem c_X12_best (N : Nat) (l : Launch) (dC : Nat → ClassId) (dI : Nat → Nat → Nat) (ad : Nat → Nat) (cI cJ cC : ClassId) (sz : Nat) (σ : zSt)  (Q : Int64 → zSt → Prop) (h : w_X12_best N  σ Q) : Met l yX12_best vs_X12_best rm_X12_best (va_Pc [.ref (ad 0)] (zPc (dC, dI) (m_ty cI cJ cC) (m_W ad cI cJ cC) sz σ)) (zQl (dC, dI) (m_ty cI cJ cC) (m_W ad cI cJ cC) (zAW m_n ad sz) Q) 0 0 (zAW m_n ad sz) := by
  refine Met.ofW (cc := cX12_best) (maxL := 9) (ret := (some .long)) (by decide) rfl ?_
  intro p e s m args below meth c s₁ B hml hv
  obtain ⟨rfl, hsz, hP, hK, hD0⟩ := hv
  subst hsz
  have C0 : zCx p s m meth c _ RX12 cX12_best 9 (some .long) vs_X12_best := ⟨B.exec, B.bytes, hml, B.returns, findClass_of_methodNamed B.named, atoms_spec (ws := vs_X12_best) B.pre, B.notSynchronized⟩
  have hD := m_D0 (n0 := s.heap.size) hD0
  have hl := lv_entry ([.ref (ad 0)]) (n := 9) (Nat.le_of_ble_eq_true rfl)
  rw [lg_entry_eq]
  generalize (lg_sl ([.ref (ad 0)]) ++ List.replicate (9 - (lg_sl ([.ref (ad 0)])).length) Slot.unset).toArray = ls at hl ⊢
  exact t_X12_best_0 C0 hK N  σ _ _ ls h hP hD va_S.rf hl
theorem k_X12_best (N : Nat) {R : Room} {H : Heap} {locs : List Loc} {cells slots : Nat} {Q2 : State → Prop} {cc : ByteArray} {nL pc index : Nat} {ls : Array Slot} {rest : List Value} {own : String} {c0 : Cond} {σ : zSt}  {Q : Int64 → zSt → Prop} (S0 : CallFix p m c cc nL s args (c0 :: zT) own) (hml : Cond.methodLink own index yX12_best ∈ zT) (hR : rm_X12_best.frames + 1 ≤ R.frames ∧ 8 + (9 + 11) + rm_X12_best.locals ≤ R.locals) (h : w_X12_best N  σ Q) (hK : va_K (dC, dI) vwCl (m_ty cI cJ cC) s) (hP : va_P (dC, dI) vwCl (m_W ad cI cJ cC σ) H) (hD : va_D (zAW m_n ad s.heap.size) (m_W ad cI cJ cC σ)) (hS : va_S (zAW m_n ad s.heap.size) s.heap H locs) (hsz : ls.size = nL) (hW : (rest.map fun v => v.category).sum ≤ 8) (hcs : cells ≤ R.cells ∧ slots ≤ R.slots) (hdg : decode cc pc = .ok (.invokevirtual index, 3)) (kk : ∀ (r : Int64) (τ : zSt) (H1 : Heap) (locs1 : List Loc), Q r τ → va_P (dC, dI) vwCl (m_W ad cI cJ cC τ) H1 → va_D (zAW m_n ad s.heap.size) (m_W ad cI cJ cC τ) → va_S (zAW m_n ad s.heap.size) s.heap H1 locs1 → W p l e R s m args below meth c H1 locs1 cells slots Q2 (F0 m (pc + 3) ls (.long r :: rest))) : W p l e R s m args below meth c H locs cells slots Q2 (F0 m pc ls (.ref (ad 0) :: rest)) :=
  zcv_l (T := TX12) (N' := 83) (k := 0) (ci := 12) (fs := m_f0 ad σ) [] S0 (c_X12_best N l dC dI ad cI cJ cC H.size σ  Q h) (cw_X12_best S0.2.2.2.2 hml rfl rfl hR) rfl rfl hK hP hD hS rfl hsz hW rfl hcs hdg kk
end q24
section q24
def b_X12_loss_103 (N : Nat) (k_31 : Int32 → Int32 → Int32 → Int64 → Int64 → zSt → Prop) (Q : Int64 → zSt → Prop) (x1 : Int32) (x2 : Int32) (x6 : Int64) (x8 : Int64) (σ : zSt) : Prop :=
  ∀ v1 : Int64, v1 = x6 + (1 : Int64) → k_31 x1 x2 (1 : Int32) x8 v1 σ
def b_X12_loss_31 (N : Nat) (k_31 : Int32 → Int32 → Int32 → Int64 → Int64 → zSt → Prop) (Q : Int64 → zSt → Prop) (x1 : Int32) (x2 : Int32) (x3 : Int32) (x4 : Int64) (x6 : Int64) (σ : zSt) : Prop :=
  w_X12_pairs N σ (fun r1 τ2 => (0 ≤ (lg_cmp x6 ((1 : Int64) <<< (r1.toInt64 &&& 63))) → (x3 = 0 → Q (-1 : Int64) τ2) ∧ (¬ x3 = 0 → w_X12_best N τ2 (fun r3 τ4 => w_X12_worthOfAll N r3 τ4 (fun r5 τ6 => Q (r5 - x4) τ6)))) ∧ (¬ 0 ≤ (lg_cmp x6 ((1 : Int64) <<< (r1.toInt64 &&& 63))) → w_X12_may N x6 τ2 (fun r7 τ8 => (r7 = 0 → ∀ v9 : Int64, v9 = x6 + (1 : Int64) → k_31 x1 x2 x3 x4 v9 τ8) ∧ (¬ r7 = 0 → w_X12_isRest N x6 x1 τ8 (fun r10 τ11 => (r10 = 0 → ∀ v16 : Int64, v16 = x6 + (1 : Int64) → k_31 x1 x2 x3 x4 v16 τ11) ∧ (¬ r10 = 0 → w_X12_worthOfAll N x6 τ11 (fun r12 τ13 => (x3 = 0 → b_X12_loss_103 N k_31 Q x1 x2 x6 r12 τ13) ∧ (¬ x3 = 0 → (x2 = 0 → (0 < (lg_cmp r12 x4) → b_X12_loss_103 N k_31 Q x1 x2 x6 r12 τ13) ∧ (¬ 0 < (lg_cmp r12 x4) → ∀ v14 : Int64, v14 = x6 + (1 : Int64) → k_31 x1 x2 x3 x4 v14 τ13)) ∧ (¬ x2 = 0 → ((lg_cmp r12 x4) < 0 → b_X12_loss_103 N k_31 Q x1 x2 x6 r12 τ13) ∧ (¬ (lg_cmp r12 x4) < 0 → ∀ v15 : Int64, v15 = x6 + (1 : Int64) → k_31 x1 x2 x3 x4 v15 τ13))))))))))
def w_X12_loss_31 (N : Nat) (Q : Int64 → zSt → Prop) : Nat → Int32 → Int32 → Int32 → Int64 → Int64 → zSt → Prop
  | 0 => fun _ _ _ _ _ _ => False
  | f + 1 => b_X12_loss_31 N (w_X12_loss_31 N  Q f) Q
def w_X12_loss (N : Nat) (x1 : Int32) (x2 : Int32) (σ : zSt) (Q : Int64 → zSt → Prop) : Prop :=
  w_X12_isIn N x1.toInt64 (0 : Int64) (5 : Int64) σ (fun r1 τ2 => (r1 = 0 → Q (-1 : Int64) τ2) ∧ (¬ r1 = 0 → w_X12_areFew N τ2 (fun r3 τ4 => (r3 = 0 → Q (-1 : Int64) τ4) ∧ (¬ r3 = 0 → w_X12_loss_31 N Q N x1 x2 (0 : Int32) (0 : Int64) (0 : Int64) τ4))))
variable {p : Program} {l : Launch} {e : Env} {s : State} {m : MethodId} {args : Array Value} {below : List Frame} {meth : Method} {c : Code} {dC : Nat → ClassId} {dI : Nat → Nat → Nat} {ad : Nat → Nat} {cI cJ cC : ClassId}
set_option maxHeartbeats 4000000 in
set_option maxRecDepth 100000 in
theorem t_X12_loss_103 (C0 : zCx p s m meth c args RX12 cX12_loss 10 (some .long) vs_X12_loss) (hK : va_K (dC, dI) vwCl (m_ty cI cJ cC) s) (N : Nat) {Q : Int64 → zSt → Prop} {k_31 : Int32 → Int32 → Int32 → Int64 → Int64 → zSt → Prop} (hk_31 : ∀ (x1 : Int32) (x2 : Int32) (x3 : Int32) (x4 : Int64) (x6 : Int64) (σ : zSt) (H : Heap) (locs : List Loc) (ls : Array Slot), k_31 x1 x2 x3 x4 x6 σ → va_P (dC, dI) vwCl (m_W ad cI cJ cC σ) H → va_D (zAW m_n ad s.heap.size) (m_W ad cI cJ cC σ) → va_S (zAW m_n ad s.heap.size) s.heap H locs → lv_has ls 10 [(0, .ref (ad 0)), (1, .int x1), (2, .int x2), (3, .int x3), (4, .long x4), (6, .long x6)] → W p l e rm_X12_loss s m args below meth c H locs 0 0 (MQ below (zQl (dC, dI) (m_ty cI cJ cC) (m_W ad cI cJ cC) (zAW m_n ad s.heap.size) Q) args s 0 0 (zAW m_n ad s.heap.size)) (F0 m 31 ls [])) : ∀ (x1 : Int32) (x2 : Int32) (x6 : Int64) (x8 : Int64) (σ : zSt) (H : Heap) (locs : List Loc) (ls : Array Slot), b_X12_loss_103 N k_31 Q x1 x2 x6 x8 σ → va_P (dC, dI) vwCl (m_W ad cI cJ cC σ) H → va_D (zAW m_n ad s.heap.size) (m_W ad cI cJ cC σ) → va_S (zAW m_n ad s.heap.size) s.heap H locs → lv_has ls 10 [(0, .ref (ad 0)), (1, .int x1), (2, .int x2), (6, .long x6), (8, .long x8)] → W p l e rm_X12_loss s m args below meth c H locs 0 0 (MQ below (zQl (dC, dI) (m_ty cI cJ cC) (m_W ad cI cJ cC) (zAW m_n ad s.heap.size) Q) args s 0 0 (zAW m_n ad s.heap.size)) (F0 m 103 ls []) := by
  obtain ⟨hx, hb, hml, hr, hown, hts, hlocks⟩ := id C0
  intro x1 x2 x6 x8 σ H locs ls h hP hD hS hl
  unfold b_X12_loss_103 at h
  refine lv_iconst (v := (1 : Int32)) hx hb dX12_loss_103 (by decide) ?_
  refine lv_istore_n (lv' := [(3, .int (1 : Int32)), (0, .ref (ad 0)), (1, .int x1), (2, .int x2), (6, .long x6), (8, .long x8)]) hx hb dX12_loss_104 rfl hl (by decide) rfl (fun ls hl => ?_)
  refine lv_lload hx hb dX12_loss_105 (lv_at hl 5 rfl) ?_
  refine lv_lstore (lv' := [(4, .long x8), (3, .int (1 : Int32)), (0, .ref (ad 0)), (1, .int x1), (2, .int x2), (6, .long x6), (8, .long x8)]) hx hb dX12_loss_107 hl (by decide) rfl (fun ls hl => ?_)
  refine lv_lload hx hb dX12_loss_109 (lv_at hl 5 rfl) ?_
  refine lv_lconst (v := (1 : Int64)) hx hb dX12_loss_111 (by decide) ?_
  refine lv_ladd hx hb dX12_loss_112 ?_
  refine lv_topl (fun v1 ev1 => ?_)
  have h := h v1 ev1
  refine lv_lstore (lv' := [(6, .long v1), (4, .long x8), (3, .int (1 : Int32)), (0, .ref (ad 0)), (1, .int x1), (2, .int x2), (8, .long x8)]) hx hb dX12_loss_113 hl (by decide) rfl (fun ls hl => ?_)
  refine lv_goto (tgt := 31) hx hb dX12_loss_115 (by decide) ?_
  exact hk_31 x1 x2 (1 : Int32) x8 v1 σ _ _ _ h hP hD hS (lv_sub hl [3, 4, 5, 2, 1, 0] rfl)
set_option maxHeartbeats 4000000 in
set_option maxRecDepth 100000 in
theorem tb_X12_loss_31 (C0 : zCx p s m meth c args RX12 cX12_loss 10 (some .long) vs_X12_loss) (hK : va_K (dC, dI) vwCl (m_ty cI cJ cC) s) (N : Nat) {Q : Int64 → zSt → Prop} {k_31 : Int32 → Int32 → Int32 → Int64 → Int64 → zSt → Prop} (hk_31 : ∀ (x1 : Int32) (x2 : Int32) (x3 : Int32) (x4 : Int64) (x6 : Int64) (σ : zSt) (H : Heap) (locs : List Loc) (ls : Array Slot), k_31 x1 x2 x3 x4 x6 σ → va_P (dC, dI) vwCl (m_W ad cI cJ cC σ) H → va_D (zAW m_n ad s.heap.size) (m_W ad cI cJ cC σ) → va_S (zAW m_n ad s.heap.size) s.heap H locs → lv_has ls 10 [(0, .ref (ad 0)), (1, .int x1), (2, .int x2), (3, .int x3), (4, .long x4), (6, .long x6)] → W p l e rm_X12_loss s m args below meth c H locs 0 0 (MQ below (zQl (dC, dI) (m_ty cI cJ cC) (m_W ad cI cJ cC) (zAW m_n ad s.heap.size) Q) args s 0 0 (zAW m_n ad s.heap.size)) (F0 m 31 ls [])) : ∀ (x1 : Int32) (x2 : Int32) (x3 : Int32) (x4 : Int64) (x6 : Int64) (σ : zSt) (H : Heap) (locs : List Loc) (ls : Array Slot), b_X12_loss_31 N k_31 Q x1 x2 x3 x4 x6 σ → va_P (dC, dI) vwCl (m_W ad cI cJ cC σ) H → va_D (zAW m_n ad s.heap.size) (m_W ad cI cJ cC σ) → va_S (zAW m_n ad s.heap.size) s.heap H locs → lv_has ls 10 [(0, .ref (ad 0)), (1, .int x1), (2, .int x2), (3, .int x3), (4, .long x4), (6, .long x6)] → W p l e rm_X12_loss s m args below meth c H locs 0 0 (MQ below (zQl (dC, dI) (m_ty cI cJ cC) (m_W ad cI cJ cC) (zAW m_n ad s.heap.size) Q) args s 0 0 (zAW m_n ad s.heap.size)) (F0 m 31 ls []) := by
  obtain ⟨hx, hb, hml, hr, hown, hts, hlocks⟩ := id C0
  intro x1 x2 x3 x4 x6 σ H locs ls h hP hD hS hl
  unfold b_X12_loss_31 at h
  refine lv_lload hx hb dX12_loss_31 (lv_at hl 5 rfl) ?_
  refine lv_lconst (v := (1 : Int64)) hx hb dX12_loss_33 (by decide) ?_
  refine lv_aload_n hx hb dX12_loss_34 rfl (lv_at hl 0 rfl) ?_
  refine k_X12_pairs N ⟨hx, hb, hml, hown, hts⟩ mw_1047 ⟨Nat.le_of_ble_eq_true rfl, Nat.le_of_ble_eq_true rfl⟩ h hK hP hD hS hl.1 (rest := [.long (1 : Int64), .long x6]) (Nat.le_of_ble_eq_true rfl) ⟨Nat.le_of_ble_eq_true rfl, Nat.le_of_ble_eq_true rfl⟩ dX12_loss_35 (fun r1 τ2 H locs h hP hD hS => ?_)
  refine lv_lshl hx hb dX12_loss_38 rfl ?_
  refine W.lcmp hx hb dX12_loss_39 ?_
  refine lv_if_ge (tgt := 118) hx hb dX12_loss_40 (by decide) (fun hc => ?_) (fun hc => ?_)
  · have h := h.1 hc
    refine lv_iload_n hx hb dX12_loss_118 rfl (lv_at hl 3 rfl) ?_
    refine lv_if_eq (tgt := 136) hx hb dX12_loss_119 (by decide) (fun hc => ?_) (fun hc => ?_)
    · have h := h.1 hc
      refine lv_ldc2 (v := (-1 : Int64)) hx hb hown (hts _ (List.mem_cons_of_mem _ mw_832)) dX12_loss_136 ?_
      exact zret_l hx hb hr hlocks hK hP hD hS h dX12_loss_139
    · have h := h.2 hc
      refine lv_aload_n hx hb dX12_loss_122 rfl (lv_at hl 0 rfl) ?_
      refine lv_aload_n hx hb dX12_loss_123 rfl (lv_at hl 0 rfl) ?_
      refine k_X12_best N ⟨hx, hb, hml, hown, hts⟩ mw_1254 ⟨Nat.le_of_ble_eq_true rfl, Nat.le_of_ble_eq_true rfl⟩ h hK hP hD hS hl.1 (rest := [.ref (ad 0)]) (Nat.le_of_ble_eq_true rfl) ⟨Nat.le_of_ble_eq_true rfl, Nat.le_of_ble_eq_true rfl⟩ dX12_loss_124 (fun r3 τ4 H locs h hP hD hS => ?_)
      refine k_X12_worthOfAll N ⟨hx, hb, hml, hown, hts⟩ mw_1101 ⟨Nat.le_of_ble_eq_true rfl, Nat.le_of_ble_eq_true rfl⟩ h hK hP hD hS hl.1 (rest := []) (Nat.le_of_ble_eq_true rfl) ⟨Nat.le_of_ble_eq_true rfl, Nat.le_of_ble_eq_true rfl⟩ dX12_loss_127 (fun r5 τ6 H locs h hP hD hS => ?_)
      refine lv_lload hx hb dX12_loss_130 (lv_at hl 4 rfl) ?_
      refine lv_lsub hx hb dX12_loss_132 ?_
      refine lv_goto (tgt := 139) hx hb dX12_loss_133 (by decide) ?_
      exact zret_l hx hb hr hlocks hK hP hD hS h dX12_loss_139
  · have h := h.2 hc
    refine lv_aload_n hx hb dX12_loss_43 rfl (lv_at hl 0 rfl) ?_
    refine lv_lload hx hb dX12_loss_44 (lv_at hl 5 rfl) ?_
    refine k_X12_may N ⟨hx, hb, hml, hown, hts⟩ mw_1065 ⟨Nat.le_of_ble_eq_true rfl, Nat.le_of_ble_eq_true rfl⟩ h hK hP hD hS hl.1 (rest := []) (Nat.le_of_ble_eq_true rfl) ⟨Nat.le_of_ble_eq_true rfl, Nat.le_of_ble_eq_true rfl⟩ dX12_loss_46 (fun r7 τ8 H locs h hP hD hS => ?_)
    refine lv_if_eq (tgt := 109) hx hb dX12_loss_49 (by decide) (fun hc => ?_) (fun hc => ?_)
    · have h := h.1 hc
      refine lv_lload hx hb dX12_loss_109 (lv_at hl 5 rfl) ?_
      refine lv_lconst (v := (1 : Int64)) hx hb dX12_loss_111 (by decide) ?_
      refine lv_ladd hx hb dX12_loss_112 ?_
      refine lv_topl (fun v9 ev9 => ?_)
      have h := h v9 ev9
      refine lv_lstore (lv' := [(6, .long v9), (0, .ref (ad 0)), (1, .int x1), (2, .int x2), (3, .int x3), (4, .long x4)]) hx hb dX12_loss_113 hl (by decide) rfl (fun ls hl => ?_)
      refine lv_goto (tgt := 31) hx hb dX12_loss_115 (by decide) ?_
      exact hk_31 x1 x2 x3 x4 v9 τ8 _ _ _ h hP hD hS (lv_sub hl [1, 2, 3, 4, 5, 0] rfl)
    · have h := h.2 hc
      refine lv_aload_n hx hb dX12_loss_52 rfl (lv_at hl 0 rfl) ?_
      refine lv_lload hx hb dX12_loss_53 (lv_at hl 5 rfl) ?_
      refine lv_iload_n hx hb dX12_loss_55 rfl (lv_at hl 1 rfl) ?_
      refine k_X12_isRest N ⟨hx, hb, hml, hown, hts⟩ mw_1145 ⟨Nat.le_of_ble_eq_true rfl, Nat.le_of_ble_eq_true rfl⟩ h hK hP hD hS hl.1 (rest := []) (Nat.le_of_ble_eq_true rfl) ⟨Nat.le_of_ble_eq_true rfl, Nat.le_of_ble_eq_true rfl⟩ dX12_loss_56 (fun r10 τ11 H locs h hP hD hS => ?_)
      refine lv_if_ne (tgt := 65) hx hb dX12_loss_59 (by decide) (fun hc => ?_) (fun hc => ?_)
      · have h := h.2 hc
        refine lv_aload_n hx hb dX12_loss_65 rfl (lv_at hl 0 rfl) ?_
        refine lv_lload hx hb dX12_loss_66 (lv_at hl 5 rfl) ?_
        refine k_X12_worthOfAll N ⟨hx, hb, hml, hown, hts⟩ mw_1101 ⟨Nat.le_of_ble_eq_true rfl, Nat.le_of_ble_eq_true rfl⟩ h hK hP hD hS hl.1 (rest := []) (Nat.le_of_ble_eq_true rfl) ⟨Nat.le_of_ble_eq_true rfl, Nat.le_of_ble_eq_true rfl⟩ dX12_loss_68 (fun r12 τ13 H locs h hP hD hS => ?_)
        refine lv_lstore (lv' := [(8, .long r12), (0, .ref (ad 0)), (1, .int x1), (2, .int x2), (3, .int x3), (4, .long x4), (6, .long x6)]) hx hb dX12_loss_71 hl (by decide) rfl (fun ls hl => ?_)
        refine lv_iload_n hx hb dX12_loss_73 rfl (lv_at hl 4 rfl) ?_
        refine lv_if_eq (tgt := 103) hx hb dX12_loss_74 (by decide) (fun hc => ?_) (fun hc => ?_)
        · have h := h.1 hc
          exact t_X12_loss_103 C0 hK N hk_31 x1 x2 x6 r12 τ13 _ _ _ h hP hD hS (lv_sub hl [1, 2, 3, 6, 0] rfl)
        · have h := h.2 hc
          refine lv_iload_n hx hb dX12_loss_77 rfl (lv_at hl 3 rfl) ?_
          refine lv_if_eq (tgt := 92) hx hb dX12_loss_78 (by decide) (fun hc => ?_) (fun hc => ?_)
          · have h := h.1 hc
            refine lv_lload hx hb dX12_loss_92 (lv_at hl 0 rfl) ?_
            refine lv_lload hx hb dX12_loss_94 (lv_at hl 5 rfl) ?_
            refine W.lcmp hx hb dX12_loss_96 ?_
            refine lv_if_gt (tgt := 103) hx hb dX12_loss_97 (by decide) (fun hc => ?_) (fun hc => ?_)
            · have h := h.1 hc
              exact t_X12_loss_103 C0 hK N hk_31 x1 x2 x6 r12 τ13 _ _ _ h hP hD hS (lv_sub hl [1, 2, 3, 6, 0] rfl)
            · have h := h.2 hc
              refine lv_goto (tgt := 109) hx hb dX12_loss_100 (by decide) ?_
              refine lv_lload hx hb dX12_loss_109 (lv_at hl 6 rfl) ?_
              refine lv_lconst (v := (1 : Int64)) hx hb dX12_loss_111 (by decide) ?_
              refine lv_ladd hx hb dX12_loss_112 ?_
              refine lv_topl (fun v14 ev14 => ?_)
              have h := h v14 ev14
              refine lv_lstore (lv' := [(6, .long v14), (8, .long r12), (0, .ref (ad 0)), (1, .int x1), (2, .int x2), (3, .int x3), (4, .long x4)]) hx hb dX12_loss_113 hl (by decide) rfl (fun ls hl => ?_)
              refine lv_goto (tgt := 31) hx hb dX12_loss_115 (by decide) ?_
              exact hk_31 x1 x2 x3 x4 v14 τ13 _ _ _ h hP hD hS (lv_sub hl [2, 3, 4, 5, 6, 0] rfl)
          · have h := h.2 hc
            refine lv_lload hx hb dX12_loss_81 (lv_at hl 0 rfl) ?_
            refine lv_lload hx hb dX12_loss_83 (lv_at hl 5 rfl) ?_
            refine W.lcmp hx hb dX12_loss_85 ?_
            refine lv_if_lt (tgt := 103) hx hb dX12_loss_86 (by decide) (fun hc => ?_) (fun hc => ?_)
            · have h := h.1 hc
              exact t_X12_loss_103 C0 hK N hk_31 x1 x2 x6 r12 τ13 _ _ _ h hP hD hS (lv_sub hl [1, 2, 3, 6, 0] rfl)
            · have h := h.2 hc
              refine lv_goto (tgt := 109) hx hb dX12_loss_89 (by decide) ?_
              refine lv_lload hx hb dX12_loss_109 (lv_at hl 6 rfl) ?_
              refine lv_lconst (v := (1 : Int64)) hx hb dX12_loss_111 (by decide) ?_
              refine lv_ladd hx hb dX12_loss_112 ?_
              refine lv_topl (fun v15 ev15 => ?_)
              have h := h v15 ev15
              refine lv_lstore (lv' := [(6, .long v15), (8, .long r12), (0, .ref (ad 0)), (1, .int x1), (2, .int x2), (3, .int x3), (4, .long x4)]) hx hb dX12_loss_113 hl (by decide) rfl (fun ls hl => ?_)
              refine lv_goto (tgt := 31) hx hb dX12_loss_115 (by decide) ?_
              exact hk_31 x1 x2 x3 x4 v15 τ13 _ _ _ h hP hD hS (lv_sub hl [2, 3, 4, 5, 6, 0] rfl)
      · have h := h.1 hc
        refine lv_goto (tgt := 109) hx hb dX12_loss_62 (by decide) ?_
        refine lv_lload hx hb dX12_loss_109 (lv_at hl 5 rfl) ?_
        refine lv_lconst (v := (1 : Int64)) hx hb dX12_loss_111 (by decide) ?_
        refine lv_ladd hx hb dX12_loss_112 ?_
        refine lv_topl (fun v16 ev16 => ?_)
        have h := h v16 ev16
        refine lv_lstore (lv' := [(6, .long v16), (0, .ref (ad 0)), (1, .int x1), (2, .int x2), (3, .int x3), (4, .long x4)]) hx hb dX12_loss_113 hl (by decide) rfl (fun ls hl => ?_)
        refine lv_goto (tgt := 31) hx hb dX12_loss_115 (by decide) ?_
        exact hk_31 x1 x2 x3 x4 v16 τ11 _ _ _ h hP hD hS (lv_sub hl [1, 2, 3, 4, 5, 0] rfl)
set_option maxHeartbeats 4000000 in
set_option maxRecDepth 100000 in
theorem t_X12_loss_31 (C0 : zCx p s m meth c args RX12 cX12_loss 10 (some .long) vs_X12_loss) (hK : va_K (dC, dI) vwCl (m_ty cI cJ cC) s) (N : Nat) {Q : Int64 → zSt → Prop} : ∀ (f : Nat) (x1 : Int32) (x2 : Int32) (x3 : Int32) (x4 : Int64) (x6 : Int64) (σ : zSt) (H : Heap) (locs : List Loc) (ls : Array Slot), w_X12_loss_31 N  Q f x1 x2 x3 x4 x6 σ → va_P (dC, dI) vwCl (m_W ad cI cJ cC σ) H → va_D (zAW m_n ad s.heap.size) (m_W ad cI cJ cC σ) → va_S (zAW m_n ad s.heap.size) s.heap H locs → lv_has ls 10 [(0, .ref (ad 0)), (1, .int x1), (2, .int x2), (3, .int x3), (4, .long x4), (6, .long x6)] → W p l e rm_X12_loss s m args below meth c H locs 0 0 (MQ below (zQl (dC, dI) (m_ty cI cJ cC) (m_W ad cI cJ cC) (zAW m_n ad s.heap.size) Q) args s 0 0 (zAW m_n ad s.heap.size)) (F0 m 31 ls []) := by
  intro f
  induction f with
  | zero => intro x1 x2 x3 x4 x6 σ H locs ls h; exact h.elim
  | succ f ih =>
    intro x1 x2 x3 x4 x6 σ H locs ls h hP hD hS hl
    exact tb_X12_loss_31 C0 hK N  (k_31 := w_X12_loss_31 N  Q f) ih x1 x2 x3 x4 x6 σ H locs ls h hP hD hS hl
set_option maxHeartbeats 4000000 in
set_option maxRecDepth 100000 in
theorem t_X12_loss_0 (C0 : zCx p s m meth c args RX12 cX12_loss 10 (some .long) vs_X12_loss) (hK : va_K (dC, dI) vwCl (m_ty cI cJ cC) s) (N : Nat) {Q : Int64 → zSt → Prop} : ∀ (x1 : Int32) (x2 : Int32) (σ : zSt) (H : Heap) (locs : List Loc) (ls : Array Slot), w_X12_loss N x1 x2 σ Q → va_P (dC, dI) vwCl (m_W ad cI cJ cC σ) H → va_D (zAW m_n ad s.heap.size) (m_W ad cI cJ cC σ) → va_S (zAW m_n ad s.heap.size) s.heap H locs → lv_has ls 10 [(0, .ref (ad 0)), (1, .int x1), (2, .int x2)] → W p l e rm_X12_loss s m args below meth c H locs 0 0 (MQ below (zQl (dC, dI) (m_ty cI cJ cC) (m_W ad cI cJ cC) (zAW m_n ad s.heap.size) Q) args s 0 0 (zAW m_n ad s.heap.size)) (F0 m 0 ls []) := by
  obtain ⟨hx, hb, hml, hr, hown, hts, hlocks⟩ := id C0
  intro x1 x2 σ H locs ls h hP hD hS hl
  unfold w_X12_loss at h
  refine lv_iload_n hx hb dX12_loss_0 rfl (lv_at hl 1 rfl) ?_
  refine lv_i2l hx hb dX12_loss_1 rfl ?_
  refine lv_lconst (v := (0 : Int64)) hx hb dX12_loss_2 (by decide) ?_
  refine lv_ldc2 (v := (5 : Int64)) hx hb hown (hts _ (List.mem_cons_of_mem _ mw_1060)) dX12_loss_3 ?_
  refine k_X12_isIn N ⟨hx, hb, hml, hown, hts⟩ mw_970 ⟨Nat.le_of_ble_eq_true rfl, Nat.le_of_ble_eq_true rfl⟩ h hK hP hD hS hl.1 (rest := []) (Nat.le_of_ble_eq_true rfl) ⟨Nat.le_of_ble_eq_true rfl, Nat.le_of_ble_eq_true rfl⟩ dX12_loss_6 (fun r1 τ2 H locs h hP hD hS => ?_)
  refine lv_if_eq (tgt := 19) hx hb dX12_loss_9 (by decide) (fun hc => ?_) (fun hc => ?_)
  · have h := h.1 hc
    refine lv_ldc2 (v := (-1 : Int64)) hx hb hown (hts _ (List.mem_cons_of_mem _ mw_832)) dX12_loss_19 ?_
    exact zret_l hx hb hr hlocks hK hP hD hS h dX12_loss_22
  · have h := h.2 hc
    refine lv_aload_n hx hb dX12_loss_12 rfl (lv_at hl 0 rfl) ?_
    refine k_X12_areFew N ⟨hx, hb, hml, hown, hts⟩ mw_1226 ⟨Nat.le_of_ble_eq_true rfl, Nat.le_of_ble_eq_true rfl⟩ h hK hP hD hS hl.1 (rest := []) (Nat.le_of_ble_eq_true rfl) ⟨Nat.le_of_ble_eq_true rfl, Nat.le_of_ble_eq_true rfl⟩ dX12_loss_13 (fun r3 τ4 H locs h hP hD hS => ?_)
    refine lv_if_ne (tgt := 23) hx hb dX12_loss_16 (by decide) (fun hc => ?_) (fun hc => ?_)
    · have h := h.2 hc
      refine lv_iconst (v := (0 : Int32)) hx hb dX12_loss_23 (by decide) ?_
      refine lv_istore_n (lv' := [(3, .int (0 : Int32)), (0, .ref (ad 0)), (1, .int x1), (2, .int x2)]) hx hb dX12_loss_24 rfl hl (by decide) rfl (fun ls hl => ?_)
      refine lv_lconst (v := (0 : Int64)) hx hb dX12_loss_25 (by decide) ?_
      refine lv_lstore (lv' := [(4, .long (0 : Int64)), (3, .int (0 : Int32)), (0, .ref (ad 0)), (1, .int x1), (2, .int x2)]) hx hb dX12_loss_26 hl (by decide) rfl (fun ls hl => ?_)
      refine lv_lconst (v := (0 : Int64)) hx hb dX12_loss_28 (by decide) ?_
      refine lv_lstore (lv' := [(6, .long (0 : Int64)), (4, .long (0 : Int64)), (3, .int (0 : Int32)), (0, .ref (ad 0)), (1, .int x1), (2, .int x2)]) hx hb dX12_loss_29 hl (by decide) rfl (fun ls hl => ?_)
      exact t_X12_loss_31 C0 hK N  N x1 x2 (0 : Int32) (0 : Int64) (0 : Int64) τ4 _ _ _ h hP hD hS (lv_sub hl [3, 4, 5, 2, 1, 0] rfl)
    · have h := h.1 hc
      refine lv_ldc2 (v := (-1 : Int64)) hx hb hown (hts _ (List.mem_cons_of_mem _ mw_832)) dX12_loss_19 ?_
      exact zret_l hx hb hr hlocks hK hP hD hS h dX12_loss_22
set_option maxHeartbeats 4000000 in
set_option maxRecDepth 100000 in
theorem c_X12_loss (N : Nat) (l : Launch) (dC : Nat → ClassId) (dI : Nat → Nat → Nat) (ad : Nat → Nat) (cI cJ cC : ClassId) (sz : Nat) (σ : zSt) (x1 : Int32) (x2 : Int32) (Q : Int64 → zSt → Prop) (h : w_X12_loss N x1 x2 σ Q) : Met l yX12_loss vs_X12_loss rm_X12_loss (va_Pc [.ref (ad 0), .int x1, .int x2] (zPc (dC, dI) (m_ty cI cJ cC) (m_W ad cI cJ cC) sz σ)) (zQl (dC, dI) (m_ty cI cJ cC) (m_W ad cI cJ cC) (zAW m_n ad sz) Q) 0 0 (zAW m_n ad sz) := by
  refine Met.ofW (cc := cX12_loss) (maxL := 10) (ret := (some .long)) (by decide) rfl ?_
  intro p e s m args below meth c s₁ B hml hv
  obtain ⟨rfl, hsz, hP, hK, hD0⟩ := hv
  subst hsz
  have C0 : zCx p s m meth c _ RX12 cX12_loss 10 (some .long) vs_X12_loss := ⟨B.exec, B.bytes, hml, B.returns, findClass_of_methodNamed B.named, atoms_spec (ws := vs_X12_loss) B.pre, B.notSynchronized⟩
  have hD := m_D0 (n0 := s.heap.size) hD0
  have hl := lv_entry ([.ref (ad 0), .int x1, .int x2]) (n := 10) (Nat.le_of_ble_eq_true rfl)
  rw [lg_entry_eq]
  generalize (lg_sl ([.ref (ad 0), .int x1, .int x2]) ++ List.replicate (10 - (lg_sl ([.ref (ad 0), .int x1, .int x2])).length) Slot.unset).toArray = ls at hl ⊢
  exact t_X12_loss_0 C0 hK N x1 x2 σ _ _ ls h hP hD va_S.rf hl
theorem k_X12_loss (N : Nat) {R : Room} {H : Heap} {locs : List Loc} {cells slots : Nat} {Q2 : State → Prop} {cc : ByteArray} {nL pc index : Nat} {ls : Array Slot} {rest : List Value} {own : String} {c0 : Cond} {σ : zSt} {x1 : Int32} {x2 : Int32} {Q : Int64 → zSt → Prop} (S0 : CallFix p m c cc nL s args (c0 :: zT) own) (hml : Cond.methodLink own index yX12_loss ∈ zT) (hR : rm_X12_loss.frames + 1 ≤ R.frames ∧ 8 + (10 + 11) + rm_X12_loss.locals ≤ R.locals) (h : w_X12_loss N x1 x2 σ Q) (hK : va_K (dC, dI) vwCl (m_ty cI cJ cC) s) (hP : va_P (dC, dI) vwCl (m_W ad cI cJ cC σ) H) (hD : va_D (zAW m_n ad s.heap.size) (m_W ad cI cJ cC σ)) (hS : va_S (zAW m_n ad s.heap.size) s.heap H locs) (hsz : ls.size = nL) (hW : (rest.map fun v => v.category).sum ≤ 8) (hcs : cells ≤ R.cells ∧ slots ≤ R.slots) (hdg : decode cc pc = .ok (.invokevirtual index, 3)) (kk : ∀ (r : Int64) (τ : zSt) (H1 : Heap) (locs1 : List Loc), Q r τ → va_P (dC, dI) vwCl (m_W ad cI cJ cC τ) H1 → va_D (zAW m_n ad s.heap.size) (m_W ad cI cJ cC τ) → va_S (zAW m_n ad s.heap.size) s.heap H1 locs1 → W p l e R s m args below meth c H1 locs1 cells slots Q2 (F0 m (pc + 3) ls (.long r :: rest))) : W p l e R s m args below meth c H locs cells slots Q2 (F0 m pc ls (.int x2 :: .int x1 :: .ref (ad 0) :: rest)) :=
  zcv_l (T := TX12) (N' := 83) (k := 0) (ci := 12) (fs := m_f0 ad σ) [.int x1, .int x2] S0 (c_X12_loss N l dC dI ad cI cJ cC H.size σ x1 x2 Q h) (cw_X12_loss S0.2.2.2.2 hml rfl rfl hR) rfl rfl hK hP hD hS rfl hsz hW rfl hcs hdg kk
end q24
