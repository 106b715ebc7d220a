section q19
end q19
section q19
def w_X12_isTied (N : Nat) (x0 : Int64) (x2 : Int32) (σ : zSt) (Q : Int32 → zSt → Prop) : Prop :=
  ((lg_cmp ((x0 >>> (x2.toInt64 &&& 63)) &&& (1 : Int64)) (1 : Int64)) = 0 → Q (1 : Int32) σ) ∧ (¬ (lg_cmp ((x0 >>> (x2.toInt64 &&& 63)) &&& (1 : Int64)) (1 : Int64)) = 0 → Q (0 : Int32) σ)
variable {p : Program} {l : Launch} {e : Env} {s : State} {m : MethodId} {args : Array Value} {below : List Frame} {meth : Method} {c : Code} {dC : Nat → ClassId} {dI : Nat → Nat → Nat} {ad : Nat → Nat} {cI cJ cC : ClassId}
set_option maxHeartbeats 4000000 in
set_option maxRecDepth 100000 in
theorem t_X12_isTied_0 (C0 : zCx p s m meth c args RX12 cX12_isTied 3 (some .boolean) vs_X12_isTied) (hK : va_K (dC, dI) vwCl (m_ty cI cJ cC) s) (N : Nat) {Q : Int32 → zSt → Prop} : ∀ (x0 : Int64) (x2 : Int32) (σ : zSt) (H : Heap) (locs : List Loc) (ls : Array Slot), w_X12_isTied N x0 x2 σ Q → va_P (dC, dI) vwCl (m_W ad cI cJ cC σ) H → va_D (zAW m_n ad s.heap.size) (m_W ad cI cJ cC σ) → va_S (zAW m_n ad s.heap.size) s.heap H locs → lv_has ls 3 [(0, .long x0), (2, .int x2)] → W p l e rm_X12_isTied s m args below meth c H locs 0 0 (MQ below (zQi (dC, dI) (m_ty cI cJ cC) (m_W ad cI cJ cC) (zAW m_n ad s.heap.size) Q) args s 0 0 (zAW m_n ad s.heap.size)) (F0 m 0 ls []) := by
  obtain ⟨hx, hb, hml, hr, hown, hts, hlocks⟩ := id C0
  intro x0 x2 σ H locs ls h hP hD hS hl
  unfold w_X12_isTied at h
  refine lv_lload_n hx hb dX12_isTied_0 rfl (lv_at hl 0 rfl) ?_
  refine lv_iload_n hx hb dX12_isTied_1 rfl (lv_at hl 1 rfl) ?_
  refine lv_lshr hx hb dX12_isTied_2 rfl ?_
  refine lv_lconst (v := (1 : Int64)) hx hb dX12_isTied_3 (by decide) ?_
  refine lv_land hx hb dX12_isTied_4 ?_
  refine lv_lconst (v := (1 : Int64)) hx hb dX12_isTied_5 (by decide) ?_
  refine W.lcmp hx hb dX12_isTied_6 ?_
  refine lv_if_ne (tgt := 14) hx hb dX12_isTied_7 (by decide) (fun hc => ?_) (fun hc => ?_)
  · have h := h.2 hc
    refine lv_iconst (v := (0 : Int32)) hx hb dX12_isTied_14 (by decide) ?_
    exact zret_z hx hb hr hlocks hK hP hD hS zb_0 h dX12_isTied_15
  · have h := h.1 hc
    refine lv_iconst (v := (1 : Int32)) hx hb dX12_isTied_10 (by decide) ?_
    refine lv_goto (tgt := 15) hx hb dX12_isTied_11 (by decide) ?_
    exact zret_z hx hb hr hlocks hK hP hD hS zb_1 h dX12_isTied_15
set_option maxHeartbeats 4000000 in
set_option maxRecDepth 100000 in
theorem c_X12_isTied (N : Nat) (l : Launch) (dC : Nat → ClassId) (dI : Nat → Nat → Nat) (ad : Nat → Nat) (cI cJ cC : ClassId) (sz : Nat) (σ : zSt) (x0 : Int64) (x2 : Int32) (Q : Int32 → zSt → Prop) (h : w_X12_isTied N x0 x2 σ Q) : Met l yX12_isTied vs_X12_isTied rm_X12_isTied (va_Pc [.long x0, .int x2] (zPc (dC, dI) (m_ty cI cJ cC) (m_W ad cI cJ cC) sz σ)) (zQi (dC, dI) (m_ty cI cJ cC) (m_W ad cI cJ cC) (zAW m_n ad sz) Q) 0 0 (zAW m_n ad sz) := by
  refine Met.ofW (cc := cX12_isTied) (maxL := 3) (ret := (some .boolean)) (by decide) rfl ?_
  intro p e s m args below meth c s₁ B hml hv
  obtain ⟨rfl, hsz, hP, hK, hD0⟩ := hv
  subst hsz
  have C0 : zCx p s m meth c _ RX12 cX12_isTied 3 (some .boolean) vs_X12_isTied := ⟨B.exec, B.bytes, hml, B.returns, findClass_of_methodNamed B.named, atoms_spec (ws := vs_X12_isTied) B.pre, B.notSynchronized⟩
  have hD := m_D0 (n0 := s.heap.size) hD0
  have hl := lv_entry ([.long x0, .int x2]) (n := 3) (Nat.le_of_ble_eq_true rfl)
  rw [lg_entry_eq]
  generalize (lg_sl ([.long x0, .int x2]) ++ List.replicate (3 - (lg_sl ([.long x0, .int x2])).length) Slot.unset).toArray = ls at hl ⊢
  exact t_X12_isTied_0 C0 hK N x0 x2 σ _ _ ls h hP hD va_S.rf hl
theorem k_X12_isTied (N : Nat) {R : Room} {H : Heap} {locs : List Loc} {cells slots : Nat} {Q2 : State → Prop} {cc : ByteArray} {nL pc index : Nat} {ls : Array Slot} {rest : List Value} {own : String} {c0 : Cond} {σ : zSt} {x0 : Int64} {x2 : Int32} {Q : Int32 → zSt → Prop} (S0 : CallFix p m c cc nL s args (c0 :: zT) own) (hml : Cond.methodLink own index yX12_isTied ∈ zT) (hR : rm_X12_isTied.frames + 1 ≤ R.frames ∧ 8 + (3 + 11) + rm_X12_isTied.locals ≤ R.locals) (h : w_X12_isTied N x0 x2 σ Q) (hK : va_K (dC, dI) vwCl (m_ty cI cJ cC) s) (hP : va_P (dC, dI) vwCl (m_W ad cI cJ cC σ) H) (hD : va_D (zAW m_n ad s.heap.size) (m_W ad cI cJ cC σ)) (hS : va_S (zAW m_n ad s.heap.size) s.heap H locs) (hsz : ls.size = nL) (hW : (rest.map fun v => v.category).sum ≤ 8) (hcs : cells ≤ R.cells ∧ slots ≤ R.slots) (hdg : decode cc pc = .ok (.invokestatic index, 3)) (kk : ∀ (r : Int32) (τ : zSt) (H1 : Heap) (locs1 : List Loc), Q r τ → va_P (dC, dI) vwCl (m_W ad cI cJ cC τ) H1 → va_D (zAW m_n ad s.heap.size) (m_W ad cI cJ cC τ) → va_S (zAW m_n ad s.heap.size) s.heap H1 locs1 → W p l e R s m args below meth c H1 locs1 cells slots Q2 (F0 m (pc + 3) ls (.int r :: rest))) : W p l e R s m args below meth c H locs cells slots Q2 (F0 m pc ls (.int x2 :: .long x0 :: rest)) :=
  zcs_i [.long x0, .int x2] S0 (c_X12_isTied N l dC dI ad cI cJ cC H.size σ x0 x2 Q h) (cw_X12_isTied S0.2.2.2.2 hml hR) hK hP hD hS rfl hsz hW rfl hcs hdg kk
end q19
section q19
def b_X12_tiesOf_6 (N : Nat) (k_6 : Int64 → Int32 → Int32 → Int32 → zSt → Prop) (Q : Int32 → zSt → Prop) (x1 : Int64) (x3 : Int32) (x4 : Int32) (x5 : Int32) (σ : zSt) : Prop :=
  w_X12_many N σ (fun r1 τ2 => (r1 ≤ x5 → Q x4 τ2) ∧ (¬ r1 ≤ x5 → (x5 = x3 → ∀ v3 : Int32, v3 = x5 + (1 : Int32) → k_6 x1 x3 x4 v3 τ2) ∧ (¬ x5 = x3 → w_X12_pairOf N x3 x5 τ2 (fun r4 τ5 => w_X12_isTied N x1 r4 τ5 (fun r6 τ7 => (r6 = 0 → ∀ v8 : Int32, v8 = x5 + (1 : Int32) → k_6 x1 x3 x4 v8 τ7) ∧ (¬ r6 = 0 → ∀ v9 : Int32, v9 = x4 + (1 : Int32) → ∀ v10 : Int32, v10 = x5 + (1 : Int32) → k_6 x1 x3 v9 v10 τ7))))))
def w_X12_tiesOf_6 (N : Nat) (Q : Int32 → zSt → Prop) : Nat → Int64 → Int32 → Int32 → Int32 → zSt → Prop
  | 0 => fun _ _ _ _ _ => False
  | f + 1 => b_X12_tiesOf_6 N (w_X12_tiesOf_6 N  Q f) Q
def w_X12_tiesOf (N : Nat) (x1 : Int64) (x3 : Int32) (σ : zSt) (Q : Int32 → zSt → Prop) : Prop :=
  w_X12_tiesOf_6 N Q N x1 x3 (0 : Int32) (0 : Int32) σ
variable {p : Program} {l : Launch} {e : Env} {s : State} {m : MethodId} {args : Array Value} {below : List Frame} {meth : Method} {c : Code} {dC : Nat → ClassId} {dI : Nat → Nat → Nat} {ad : Nat → Nat} {cI cJ cC : ClassId}
set_option maxHeartbeats 4000000 in
set_option maxRecDepth 100000 in
theorem tb_X12_tiesOf_6 (C0 : zCx p s m meth c args RX12 cX12_tiesOf 6 (some .int) vs_X12_tiesOf) (hK : va_K (dC, dI) vwCl (m_ty cI cJ cC) s) (N : Nat) {Q : Int32 → zSt → Prop} {k_6 : Int64 → Int32 → Int32 → Int32 → zSt → Prop} (hk_6 : ∀ (x1 : Int64) (x3 : Int32) (x4 : Int32) (x5 : Int32) (σ : zSt) (H : Heap) (locs : List Loc) (ls : Array Slot), k_6 x1 x3 x4 x5 σ → va_P (dC, dI) vwCl (m_W ad cI cJ cC σ) H → va_D (zAW m_n ad s.heap.size) (m_W ad cI cJ cC σ) → va_S (zAW m_n ad s.heap.size) s.heap H locs → lv_has ls 6 [(0, .ref (ad 0)), (1, .long x1), (3, .int x3), (4, .int x4), (5, .int x5)] → W p l e rm_X12_tiesOf s m args below meth c H locs 0 0 (MQ below (zQi (dC, dI) (m_ty cI cJ cC) (m_W ad cI cJ cC) (zAW m_n ad s.heap.size) Q) args s 0 0 (zAW m_n ad s.heap.size)) (F0 m 6 ls [])) : ∀ (x1 : Int64) (x3 : Int32) (x4 : Int32) (x5 : Int32) (σ : zSt) (H : Heap) (locs : List Loc) (ls : Array Slot), b_X12_tiesOf_6 N k_6 Q x1 x3 x4 x5 σ → va_P (dC, dI) vwCl (m_W ad cI cJ cC σ) H → va_D (zAW m_n ad s.heap.size) (m_W ad cI cJ cC σ) → va_S (zAW m_n ad s.heap.size) s.heap H locs → lv_has ls 6 [(0, .ref (ad 0)), (1, .long x1), (3, .int x3), (4, .int x4), (5, .int x5)] → W p l e rm_X12_tiesOf s m args below meth c H locs 0 0 (MQ below (zQi (dC, dI) (m_ty cI cJ cC) (m_W ad cI cJ cC) (zAW m_n ad s.heap.size) Q) args s 0 0 (zAW m_n ad s.heap.size)) (F0 m 6 ls []) := by
  obtain ⟨hx, hb, hml, hr, hown, hts, hlocks⟩ := id C0
  intro x1 x3 x4 x5 σ H locs ls h hP hD hS hl
  unfold b_X12_tiesOf_6 at h
  refine lv_iload hx hb dX12_tiesOf_6 (lv_at hl 4 rfl) ?_
  refine lv_aload_n hx hb dX12_tiesOf_8 rfl (lv_at hl 0 rfl) ?_
  refine k_X12_many N ⟨hx, hb, hml, hown, hts⟩ mw_1044 ⟨Nat.le_of_ble_eq_true rfl, Nat.le_of_ble_eq_true rfl⟩ h hK hP hD hS hl.1 (rest := [.int x5]) (Nat.le_of_ble_eq_true rfl) ⟨Nat.le_of_ble_eq_true rfl, Nat.le_of_ble_eq_true rfl⟩ dX12_tiesOf_9 (fun r1 τ2 H locs h hP hD hS => ?_)
  refine lv_icmp_ge (tgt := 43) hx hb dX12_tiesOf_12 (by decide) (fun hc => ?_) (fun hc => ?_)
  · have h := h.1 hc
    refine lv_iload hx hb dX12_tiesOf_43 (lv_at hl 3 rfl) ?_
    exact zret_i hx hb hr hlocks hK hP hD hS h dX12_tiesOf_45
  · have h := h.2 hc
    refine lv_iload hx hb dX12_tiesOf_15 (lv_at hl 4 rfl) ?_
    refine lv_iload_n hx hb dX12_tiesOf_17 rfl (lv_at hl 2 rfl) ?_
    refine lv_icmp_eq (tgt := 37) hx hb dX12_tiesOf_18 (by decide) (fun hc => ?_) (fun hc => ?_)
    · have h := h.1 hc
      obtain ⟨v3, ev3⟩ : ∃ z : Int32, z = x5 + (1 : Int32) := ⟨_, rfl⟩
      have h := h v3 ev3
      refine lv_iinc (v := v3) (lv' := [(5, .int v3), (0, .ref (ad 0)), (1, .long x1), (3, .int x3), (4, .int x4)]) hx hb dX12_tiesOf_37 hl (k := 4) rfl (by rw [ev3]; rfl) (by decide) rfl (fun ls hl => ?_)
      refine lv_goto (tgt := 6) hx hb dX12_tiesOf_40 (by decide) ?_
      exact hk_6 x1 x3 x4 v3 τ2 _ _ _ h hP hD hS (lv_sub hl [1, 2, 3, 4, 0] rfl)
    · have h := h.2 hc
      refine lv_lload_n hx hb dX12_tiesOf_21 rfl (lv_at hl 1 rfl) ?_
      refine lv_iload_n hx hb dX12_tiesOf_22 rfl (lv_at hl 2 rfl) ?_
      refine lv_iload hx hb dX12_tiesOf_23 (lv_at hl 4 rfl) ?_
      refine k_X12_pairOf N ⟨hx, hb, hml, hown, hts⟩ mw_1030 ⟨Nat.le_of_ble_eq_true rfl, Nat.le_of_ble_eq_true rfl⟩ h hK hP hD hS hl.1 (rest := [.long x1]) (Nat.le_of_ble_eq_true rfl) ⟨Nat.le_of_ble_eq_true rfl, Nat.le_of_ble_eq_true rfl⟩ dX12_tiesOf_25 (fun r4 τ5 H locs h hP hD hS => ?_)
      refine k_X12_isTied N ⟨hx, hb, hml, hown, hts⟩ mw_1071 ⟨Nat.le_of_ble_eq_true rfl, Nat.le_of_ble_eq_true rfl⟩ h hK hP hD hS hl.1 (rest := []) (Nat.le_of_ble_eq_true rfl) ⟨Nat.le_of_ble_eq_true rfl, Nat.le_of_ble_eq_true rfl⟩ dX12_tiesOf_28 (fun r6 τ7 H locs h hP hD hS => ?_)
      refine lv_if_eq (tgt := 37) hx hb dX12_tiesOf_31 (by decide) (fun hc => ?_) (fun hc => ?_)
      · have h := h.1 hc
        obtain ⟨v8, ev8⟩ : ∃ z : Int32, z = x5 + (1 : Int32) := ⟨_, rfl⟩
        have h := h v8 ev8
        refine lv_iinc (v := v8) (lv' := [(5, .int v8), (0, .ref (ad 0)), (1, .long x1), (3, .int x3), (4, .int x4)]) hx hb dX12_tiesOf_37 hl (k := 4) rfl (by rw [ev8]; rfl) (by decide) rfl (fun ls hl => ?_)
        refine lv_goto (tgt := 6) hx hb dX12_tiesOf_40 (by decide) ?_
        exact hk_6 x1 x3 x4 v8 τ7 _ _ _ h hP hD hS (lv_sub hl [1, 2, 3, 4, 0] rfl)
      · have h := h.2 hc
        obtain ⟨v9, ev9⟩ : ∃ z : Int32, z = x4 + (1 : Int32) := ⟨_, rfl⟩
        have h := h v9 ev9
        refine lv_iinc (v := v9) (lv' := [(4, .int v9), (0, .ref (ad 0)), (1, .long x1), (3, .int x3), (5, .int x5)]) hx hb dX12_tiesOf_34 hl (k := 3) rfl (by rw [ev9]; rfl) (by decide) rfl (fun ls hl => ?_)
        obtain ⟨v10, ev10⟩ : ∃ z : Int32, z = x5 + (1 : Int32) := ⟨_, rfl⟩
        have h := h v10 ev10
        refine lv_iinc (v := v10) (lv' := [(5, .int v10), (4, .int v9), (0, .ref (ad 0)), (1, .long x1), (3, .int x3)]) hx hb dX12_tiesOf_37 hl (k := 4) rfl (by rw [ev10]; rfl) (by decide) rfl (fun ls hl => ?_)
        refine lv_goto (tgt := 6) hx hb dX12_tiesOf_40 (by decide) ?_
        exact hk_6 x1 x3 v9 v10 τ7 _ _ _ h hP hD hS (lv_sub hl [2, 3, 4, 1, 0] rfl)
set_option maxHeartbeats 4000000 in
set_option maxRecDepth 100000 in
theorem t_X12_tiesOf_6 (C0 : zCx p s m meth c args RX12 cX12_tiesOf 6 (some .int) vs_X12_tiesOf) (hK : va_K (dC, dI) vwCl (m_ty cI cJ cC) s) (N : Nat) {Q : Int32 → zSt → Prop} : ∀ (f : Nat) (x1 : Int64) (x3 : Int32) (x4 : Int32) (x5 : Int32) (σ : zSt) (H : Heap) (locs : List Loc) (ls : Array Slot), w_X12_tiesOf_6 N  Q f x1 x3 x4 x5 σ → va_P (dC, dI) vwCl (m_W ad cI cJ cC σ) H → va_D (zAW m_n ad s.heap.size) (m_W ad cI cJ cC σ) → va_S (zAW m_n ad s.heap.size) s.heap H locs → lv_has ls 6 [(0, .ref (ad 0)), (1, .long x1), (3, .int x3), (4, .int x4), (5, .int x5)] → W p l e rm_X12_tiesOf s m args below meth c H locs 0 0 (MQ below (zQi (dC, dI) (m_ty cI cJ cC) (m_W ad cI cJ cC) (zAW m_n ad s.heap.size) Q) args s 0 0 (zAW m_n ad s.heap.size)) (F0 m 6 ls []) := by
  intro f
  induction f with
  | zero => intro x1 x3 x4 x5 σ H locs ls h; exact h.elim
  | succ f ih =>
    intro x1 x3 x4 x5 σ H locs ls h hP hD hS hl
    exact tb_X12_tiesOf_6 C0 hK N  (k_6 := w_X12_tiesOf_6 N  Q f) ih x1 x3 x4 x5 σ H locs ls h hP hD hS hl
set_option maxHeartbeats 4000000 in
set_option maxRecDepth 100000 in
theorem t_X12_tiesOf_0 (C0 : zCx p s m meth c args RX12 cX12_tiesOf 6 (some .int) vs_X12_tiesOf) (hK : va_K (dC, dI) vwCl (m_ty cI cJ cC) s) (N : Nat) {Q : Int32 → zSt → Prop} : ∀ (x1 : Int64) (x3 : Int32) (σ : zSt) (H : Heap) (locs : List Loc) (ls : Array Slot), w_X12_tiesOf N x1 x3 σ Q → va_P (dC, dI) vwCl (m_W ad cI cJ cC σ) H → va_D (zAW m_n ad s.heap.size) (m_W ad cI cJ cC σ) → va_S (zAW m_n ad s.heap.size) s.heap H locs → lv_has ls 6 [(0, .ref (ad 0)), (1, .long x1), (3, .int x3)] → W p l e rm_X12_tiesOf s m args below meth c H locs 0 0 (MQ below (zQi (dC, dI) (m_ty cI cJ cC) (m_W ad cI cJ cC) (zAW m_n ad s.heap.size) Q) args s 0 0 (zAW m_n ad s.heap.size)) (F0 m 0 ls []) := by
  obtain ⟨hx, hb, hml, hr, hown, hts, hlocks⟩ := id C0
  intro x1 x3 σ H locs ls h hP hD hS hl
  unfold w_X12_tiesOf at h
  refine lv_iconst (v := (0 : Int32)) hx hb dX12_tiesOf_0 (by decide) ?_
  refine lv_istore (lv' := [(4, .int (0 : Int32)), (0, .ref (ad 0)), (1, .long x1), (3, .int x3)]) hx hb dX12_tiesOf_1 hl (by decide) rfl (fun ls hl => ?_)
  refine lv_iconst (v := (0 : Int32)) hx hb dX12_tiesOf_3 (by decide) ?_
  refine lv_istore (lv' := [(5, .int (0 : Int32)), (4, .int (0 : Int32)), (0, .ref (ad 0)), (1, .long x1), (3, .int x3)]) hx hb dX12_tiesOf_4 hl (by decide) rfl (fun ls hl => ?_)
  exact t_X12_tiesOf_6 C0 hK N  N x1 x3 (0 : Int32) (0 : Int32) σ _ _ _ h hP hD hS (lv_sub hl [2, 3, 4, 1, 0] rfl)
set_option maxHeartbeats 4000000 in
set_option maxRecDepth 100000 in
theorem c_X12_tiesOf (N : Nat) (l : Launch) (dC : Nat → ClassId) (dI : Nat → Nat → Nat) (ad : Nat → Nat) (cI cJ cC : ClassId) (sz : Nat) (σ : zSt) (x1 : Int64) (x3 : Int32) (Q : Int32 → zSt → Prop) (h : w_X12_tiesOf N x1 x3 σ Q) : Met l yX12_tiesOf vs_X12_tiesOf rm_X12_tiesOf (va_Pc [.ref (ad 0), .long x1, .int x3] (zPc (dC, dI) (m_ty cI cJ cC) (m_W ad cI cJ cC) sz σ)) (zQi (dC, dI) (m_ty cI cJ cC) (m_W ad cI cJ cC) (zAW m_n ad sz) Q) 0 0 (zAW m_n ad sz) := by
  refine Met.ofW (cc := cX12_tiesOf) (maxL := 6) (ret := (some .int)) (by decide) rfl ?_
  intro p e s m args below meth c s₁ B hml hv
  obtain ⟨rfl, hsz, hP, hK, hD0⟩ := hv
  subst hsz
  have C0 : zCx p s m meth c _ RX12 cX12_tiesOf 6 (some .int) vs_X12_tiesOf := ⟨B.exec, B.bytes, hml, B.returns, findClass_of_methodNamed B.named, atoms_spec (ws := vs_X12_tiesOf) B.pre, B.notSynchronized⟩
  have hD := m_D0 (n0 := s.heap.size) hD0
  have hl := lv_entry ([.ref (ad 0), .long x1, .int x3]) (n := 6) (Nat.le_of_ble_eq_true rfl)
  rw [lg_entry_eq]
  generalize (lg_sl ([.ref (ad 0), .long x1, .int x3]) ++ List.replicate (6 - (lg_sl ([.ref (ad 0), .long x1, .int x3])).length) Slot.unset).toArray = ls at hl ⊢
  exact t_X12_tiesOf_0 C0 hK N x1 x3 σ _ _ ls h hP hD va_S.rf hl
theorem k_X12_tiesOf (N : Nat) {R : Room} {H : Heap} {locs : List Loc} {cells slots : Nat} {Q2 : State → Prop} {cc : ByteArray} {nL pc index : Nat} {ls : Array Slot} {rest : List Value} {own : String} {c0 : Cond} {σ : zSt} {x1 : Int64} {x3 : Int32} {Q : Int32 → zSt → Prop} (S0 : CallFix p m c cc nL s args (c0 :: zT) own) (hml : Cond.methodLink own index yX12_tiesOf ∈ zT) (hR : rm_X12_tiesOf.frames + 1 ≤ R.frames ∧ 8 + (6 + 11) + rm_X12_tiesOf.locals ≤ R.locals) (h : w_X12_tiesOf N x1 x3 σ Q) (hK : va_K (dC, dI) vwCl (m_ty cI cJ cC) s) (hP : va_P (dC, dI) vwCl (m_W ad cI cJ cC σ) H) (hD : va_D (zAW m_n ad s.heap.size) (m_W ad cI cJ cC σ)) (hS : va_S (zAW m_n ad s.heap.size) s.heap H locs) (hsz : ls.size = nL) (hW : (rest.map fun v => v.category).sum ≤ 8) (hcs : cells ≤ R.cells ∧ slots ≤ R.slots) (hdg : decode cc pc = .ok (.invokevirtual index, 3)) (kk : ∀ (r : Int32) (τ : zSt) (H1 : Heap) (locs1 : List Loc), Q r τ → va_P (dC, dI) vwCl (m_W ad cI cJ cC τ) H1 → va_D (zAW m_n ad s.heap.size) (m_W ad cI cJ cC τ) → va_S (zAW m_n ad s.heap.size) s.heap H1 locs1 → W p l e R s m args below meth c H1 locs1 cells slots Q2 (F0 m (pc + 3) ls (.int r :: rest))) : W p l e R s m args below meth c H locs cells slots Q2 (F0 m pc ls (.int x3 :: .long x1 :: .ref (ad 0) :: rest)) :=
  zcv_i (T := TX12) (N' := 83) (k := 0) (ci := 12) (fs := m_f0 ad σ) [.long x1, .int x3] S0 (c_X12_tiesOf N l dC dI ad cI cJ cC H.size σ x1 x3 Q h) (cw_X12_tiesOf S0.2.2.2.2 hml rfl rfl hR) rfl rfl hK hP hD hS rfl hsz hW rfl hcs hdg kk
end q19
section q19
def b_X12_may_34 (N : Nat) (k_34 : Int64 → Int32 → zSt → Prop) (Q : Int32 → zSt → Prop) (x1 : Int64) (x3 : Int32) (σ : zSt) : Prop :=
  w_X12_many N σ (fun r1 τ2 => (r1 ≤ x3 → Q (1 : Int32) τ2) ∧ (¬ r1 ≤ x3 → w_X12_tiesOf N x1 x3 τ2 (fun r3 τ4 => (vp_in ((10 : Int32) + x3) 20) ∧ ((r3 ≤ (τ4.2.2.1 3 ((10 : Int32) + x3).toNatClampNeg) → ∀ v5 : Int32, v5 = x3 + (1 : Int32) → k_34 x1 v5 τ4) ∧ (¬ r3 ≤ (τ4.2.2.1 3 ((10 : Int32) + x3).toNatClampNeg) → Q (0 : Int32) τ4)))))
def w_X12_may_34 (N : Nat) (Q : Int32 → zSt → Prop) : Nat → Int64 → Int32 → zSt → Prop
  | 0 => fun _ _ _ => False
  | f + 1 => b_X12_may_34 N (w_X12_may_34 N  Q f) Q
def w_X12_may (N : Nat) (x1 : Int64) (σ : zSt) (Q : Int32 → zSt → Prop) : Prop :=
  ((lg_cmp x1 (0 : Int64)) < 0 → Q (0 : Int32) σ) ∧ (¬ (lg_cmp x1 (0 : Int64)) < 0 → w_X12_pairs N σ (fun r1 τ2 => ((lg_cmp (x1 >>> (r1.toInt64 &&& 63)) (0 : Int64)) = 0 → ((lg_cmp (x1 &&& (τ2.2.2.2 1 1)) (0 : Int64)) = 0 → w_X12_may_34 N Q N x1 (0 : Int32) τ2) ∧ (¬ (lg_cmp (x1 &&& (τ2.2.2.2 1 1)) (0 : Int64)) = 0 → Q (0 : Int32) τ2)) ∧ (¬ (lg_cmp (x1 >>> (r1.toInt64 &&& 63)) (0 : Int64)) = 0 → Q (0 : Int32) τ2)))
variable {p : Program} {l : Launch} {e : Env} {s : State} {m : MethodId} {args : Array Value} {below : List Frame} {meth : Method} {c : Code} {dC : Nat → ClassId} {dI : Nat → Nat → Nat} {ad : Nat → Nat} {cI cJ cC : ClassId}
set_option maxHeartbeats 4000000 in
set_option maxRecDepth 100000 in
theorem tb_X12_may_34 (C0 : zCx p s m meth c args RX12 cX12_may 4 (some .boolean) vs_X12_may) (hK : va_K (dC, dI) vwCl (m_ty cI cJ cC) s) (N : Nat) {Q : Int32 → zSt → Prop} {k_34 : Int64 → Int32 → zSt → Prop} (hk_34 : ∀ (x1 : Int64) (x3 : Int32) (σ : zSt) (H : Heap) (locs : List Loc) (ls : Array Slot), k_34 x1 x3 σ → va_P (dC, dI) vwCl (m_W ad cI cJ cC σ) H → va_D (zAW m_n ad s.heap.size) (m_W ad cI cJ cC σ) → va_S (zAW m_n ad s.heap.size) s.heap H locs → lv_has ls 4 [(0, .ref (ad 0)), (1, .long x1), (3, .int x3)] → W p l e rm_X12_may s m args below meth c H locs 0 0 (MQ below (zQi (dC, dI) (m_ty cI cJ cC) (m_W ad cI cJ cC) (zAW m_n ad s.heap.size) Q) args s 0 0 (zAW m_n ad s.heap.size)) (F0 m 34 ls [])) : ∀ (x1 : Int64) (x3 : Int32) (σ : zSt) (H : Heap) (locs : List Loc) (ls : Array Slot), b_X12_may_34 N k_34 Q x1 x3 σ → va_P (dC, dI) vwCl (m_W ad cI cJ cC σ) H → va_D (zAW m_n ad s.heap.size) (m_W ad cI cJ cC σ) → va_S (zAW m_n ad s.heap.size) s.heap H locs → lv_has ls 4 [(0, .ref (ad 0)), (1, .long x1), (3, .int x3)] → W p l e rm_X12_may s m args below meth c H locs 0 0 (MQ below (zQi (dC, dI) (m_ty cI cJ cC) (m_W ad cI cJ cC) (zAW m_n ad s.heap.size) Q) args s 0 0 (zAW m_n ad s.heap.size)) (F0 m 34 ls []) := by
  obtain ⟨hx, hb, hml, hr, hown, hts, hlocks⟩ := id C0
  intro x1 x3 σ H locs ls h hP hD hS hl
  unfold b_X12_may_34 at h
  refine lv_iload_n hx hb dX12_may_34 rfl (lv_at hl 2 rfl) ?_
  refine lv_aload_n hx hb dX12_may_35 rfl (lv_at hl 0 rfl) ?_
  refine k_X12_many N ⟨hx, hb, hml, hown, hts⟩ mw_1044 ⟨Nat.le_of_ble_eq_true rfl, Nat.le_of_ble_eq_true rfl⟩ h hK hP hD hS hl.1 (rest := [.int x3]) (Nat.le_of_ble_eq_true rfl) ⟨Nat.le_of_ble_eq_true rfl, Nat.le_of_ble_eq_true rfl⟩ dX12_may_36 (fun r1 τ2 H locs h hP hD hS => ?_)
  refine lv_icmp_ge (tgt := 68) hx hb dX12_may_39 (by decide) (fun hc => ?_) (fun hc => ?_)
  · have h := h.1 hc
    refine lv_iconst (v := (1 : Int32)) hx hb dX12_may_68 (by decide) ?_
    exact zret_z hx hb hr hlocks hK hP hD hS zb_1 h dX12_may_69
  · have h := h.2 hc
    refine lv_aload_n hx hb dX12_may_42 rfl (lv_at hl 0 rfl) ?_
    refine lv_lload_n hx hb dX12_may_43 rfl (lv_at hl 1 rfl) ?_
    refine lv_iload_n hx hb dX12_may_44 rfl (lv_at hl 2 rfl) ?_
    refine k_X12_tiesOf N ⟨hx, hb, hml, hown, hts⟩ mw_1068 ⟨Nat.le_of_ble_eq_true rfl, Nat.le_of_ble_eq_true rfl⟩ h hK hP hD hS hl.1 (rest := []) (Nat.le_of_ble_eq_true rfl) ⟨Nat.le_of_ble_eq_true rfl, Nat.le_of_ble_eq_true rfl⟩ dX12_may_45 (fun r3 τ4 H locs h hP hD hS => ?_)
    refine lv_aload_n hx hb dX12_may_48 rfl (lv_at hl 0 rfl) ?_
    refine mg_0_32 hx hb hts hown hK hP mw_865 dX12_may_49 ?_
    refine lv_bipush (v := (10 : Int32)) hx hb dX12_may_52 (by decide) ?_
    refine lv_iload_n hx hb dX12_may_54 rfl (lv_at hl 2 rfl) ?_
    refine lv_iadd hx hb dX12_may_55 ?_
    refine ma_5 hx hb hK hP h.1 rfl dX12_may_56 ?_
    have h := h.2
    refine lv_icmp_le (tgt := 62) hx hb dX12_may_57 (by decide) (fun hc => ?_) (fun hc => ?_)
    · have h := h.1 hc
      obtain ⟨v5, ev5⟩ : ∃ z : Int32, z = x3 + (1 : Int32) := ⟨_, rfl⟩
      have h := h v5 ev5
      refine lv_iinc (v := v5) (lv' := [(3, .int v5), (0, .ref (ad 0)), (1, .long x1)]) hx hb dX12_may_62 hl (k := 2) rfl (by rw [ev5]; rfl) (by decide) rfl (fun ls hl => ?_)
      refine lv_goto (tgt := 34) hx hb dX12_may_65 (by decide) ?_
      exact hk_34 x1 v5 τ4 _ _ _ h hP hD hS (lv_sub hl [1, 2, 0] rfl)
    · have h := h.2 hc
      refine lv_iconst (v := (0 : Int32)) hx hb dX12_may_60 (by decide) ?_
      exact zret_z hx hb hr hlocks hK hP hD hS zb_0 h dX12_may_61
set_option maxHeartbeats 4000000 in
set_option maxRecDepth 100000 in
theorem t_X12_may_34 (C0 : zCx p s m meth c args RX12 cX12_may 4 (some .boolean) vs_X12_may) (hK : va_K (dC, dI) vwCl (m_ty cI cJ cC) s) (N : Nat) {Q : Int32 → zSt → Prop} : ∀ (f : Nat) (x1 : Int64) (x3 : Int32) (σ : zSt) (H : Heap) (locs : List Loc) (ls : Array Slot), w_X12_may_34 N  Q f x1 x3 σ → va_P (dC, dI) vwCl (m_W ad cI cJ cC σ) H → va_D (zAW m_n ad s.heap.size) (m_W ad cI cJ cC σ) → va_S (zAW m_n ad s.heap.size) s.heap H locs → lv_has ls 4 [(0, .ref (ad 0)), (1, .long x1), (3, .int x3)] → W p l e rm_X12_may s m args below meth c H locs 0 0 (MQ below (zQi (dC, dI) (m_ty cI cJ cC) (m_W ad cI cJ cC) (zAW m_n ad s.heap.size) Q) args s 0 0 (zAW m_n ad s.heap.size)) (F0 m 34 ls []) := by
  intro f
  induction f with
  | zero => intro x1 x3 σ H locs ls h; exact h.elim
  | succ f ih =>
    intro x1 x3 σ H locs ls h hP hD hS hl
    exact tb_X12_may_34 C0 hK N  (k_34 := w_X12_may_34 N  Q f) ih x1 x3 σ H locs ls h hP hD hS hl
set_option maxHeartbeats 4000000 in
set_option maxRecDepth 100000 in
theorem t_X12_may_0 (C0 : zCx p s m meth c args RX12 cX12_may 4 (some .boolean) vs_X12_may) (hK : va_K (dC, dI) vwCl (m_ty cI cJ cC) s) (N : Nat) {Q : Int32 → zSt → Prop} : ∀ (x1 : Int64) (σ : zSt) (H : Heap) (locs : List Loc) (ls : Array Slot), w_X12_may N x1 σ Q → va_P (dC, dI) vwCl (m_W ad cI cJ cC σ) H → va_D (zAW m_n ad s.heap.size) (m_W ad cI cJ cC σ) → va_S (zAW m_n ad s.heap.size) s.heap H locs → lv_has ls 4 [(0, .ref (ad 0)), (1, .long x1)] → W p l e rm_X12_may s m args below meth c H locs 0 0 (MQ below (zQi (dC, dI) (m_ty cI cJ cC) (m_W ad cI cJ cC) (zAW m_n ad s.heap.size) Q) args s 0 0 (zAW m_n ad s.heap.size)) (F0 m 0 ls []) := by
  obtain ⟨hx, hb, hml, hr, hown, hts, hlocks⟩ := id C0
  intro x1 σ H locs ls h hP hD hS hl
  unfold w_X12_may at h
  refine lv_lload_n hx hb dX12_may_0 rfl (lv_at hl 1 rfl) ?_
  refine lv_lconst (v := (0 : Int64)) hx hb dX12_may_1 (by decide) ?_
  refine W.lcmp hx hb dX12_may_2 ?_
  refine lv_if_lt (tgt := 30) hx hb dX12_may_3 (by decide) (fun hc => ?_) (fun hc => ?_)
  · have h := h.1 hc
    refine lv_iconst (v := (0 : Int32)) hx hb dX12_may_30 (by decide) ?_
    exact zret_z hx hb hr hlocks hK hP hD hS zb_0 h dX12_may_31
  · have h := h.2 hc
    refine lv_lload_n hx hb dX12_may_6 rfl (lv_at hl 1 rfl) ?_
    refine lv_aload_n hx hb dX12_may_7 rfl (lv_at hl 0 rfl) ?_
    refine k_X12_pairs N ⟨hx, hb, hml, hown, hts⟩ mw_1047 ⟨Nat.le_of_ble_eq_true rfl, Nat.le_of_ble_eq_true rfl⟩ h hK hP hD hS hl.1 (rest := [.long x1]) (Nat.le_of_ble_eq_true rfl) ⟨Nat.le_of_ble_eq_true rfl, Nat.le_of_ble_eq_true rfl⟩ dX12_may_8 (fun r1 τ2 H locs h hP hD hS => ?_)
    refine lv_lshr hx hb dX12_may_11 rfl ?_
    refine lv_lconst (v := (0 : Int64)) hx hb dX12_may_12 (by decide) ?_
    refine W.lcmp hx hb dX12_may_13 ?_
    refine lv_if_ne (tgt := 30) hx hb dX12_may_14 (by decide) (fun hc => ?_) (fun hc => ?_)
    · have h := h.2 hc
      refine lv_iconst (v := (0 : Int32)) hx hb dX12_may_30 (by decide) ?_
      exact zret_z hx hb hr hlocks hK hP hD hS zb_0 h dX12_may_31
    · have h := h.1 hc
      refine lv_lload_n hx hb dX12_may_17 rfl (lv_at hl 1 rfl) ?_
      refine lv_aload_n hx hb dX12_may_18 rfl (lv_at hl 0 rfl) ?_
      refine mg_0_39 hx hb hts hown hK hP mw_872 dX12_may_19 ?_
      refine lv_iconst (v := (1 : Int32)) hx hb dX12_may_22 (by decide) ?_
      refine ma_12 (j := 1) hx hb hK hP (zin (by decide)) (by decide) dX12_may_23 ?_
      refine lv_land hx hb dX12_may_24 ?_
      refine lv_lconst (v := (0 : Int64)) hx hb dX12_may_25 (by decide) ?_
      refine W.lcmp hx hb dX12_may_26 ?_
      refine lv_if_eq (tgt := 32) hx hb dX12_may_27 (by decide) (fun hc => ?_) (fun hc => ?_)
      · have h := h.1 hc
        refine lv_iconst (v := (0 : Int32)) hx hb dX12_may_32 (by decide) ?_
        refine lv_istore_n (lv' := [(3, .int (0 : Int32)), (0, .ref (ad 0)), (1, .long x1)]) hx hb dX12_may_33 rfl hl (by decide) rfl (fun ls hl => ?_)
        exact t_X12_may_34 C0 hK N  N x1 (0 : Int32) τ2 _ _ _ h hP hD hS (lv_sub hl [1, 2, 0] rfl)
      · have h := h.2 hc
        refine lv_iconst (v := (0 : Int32)) hx hb dX12_may_30 (by decide) ?_
        exact zret_z hx hb hr hlocks hK hP hD hS zb_0 h dX12_may_31
set_option maxHeartbeats 4000000 in
set_option maxRecDepth 100000 in
theorem c_X12_may (N : Nat) (l : Launch) (dC : Nat → ClassId) (dI : Nat → Nat → Nat) (ad : Nat → Nat) (cI cJ cC : ClassId) (sz : Nat) (σ : zSt) (x1 : Int64) (Q : Int32 → zSt → Prop) (h : w_X12_may N x1 σ Q) : Met l yX12_may vs_X12_may rm_X12_may (va_Pc [.ref (ad 0), .long x1] (zPc (dC, dI) (m_ty cI cJ cC) (m_W ad cI cJ cC) sz σ)) (zQi (dC, dI) (m_ty cI cJ cC) (m_W ad cI cJ cC) (zAW m_n ad sz) Q) 0 0 (zAW m_n ad sz) := by
  refine Met.ofW (cc := cX12_may) (maxL := 4) (ret := (some .boolean)) (by decide) rfl ?_
  intro p e s m args below meth c s₁ B hml hv
  obtain ⟨rfl, hsz, hP, hK, hD0⟩ := hv
  subst hsz
  have C0 : zCx p s m meth c _ RX12 cX12_may 4 (some .boolean) vs_X12_may := ⟨B.exec, B.bytes, hml, B.returns, findClass_of_methodNamed B.named, atoms_spec (ws := vs_X12_may) B.pre, B.notSynchronized⟩
  have hD := m_D0 (n0 := s.heap.size) hD0
  have hl := lv_entry ([.ref (ad 0), .long x1]) (n := 4) (Nat.le_of_ble_eq_true rfl)
  rw [lg_entry_eq]
  generalize (lg_sl ([.ref (ad 0), .long x1]) ++ List.replicate (4 - (lg_sl ([.ref (ad 0), .long x1])).length) Slot.unset).toArray = ls at hl ⊢
  exact t_X12_may_0 C0 hK N x1 σ _ _ ls h hP hD va_S.rf hl
theorem k_X12_may (N : Nat) {R : Room} {H : Heap} {locs : List Loc} {cells slots : Nat} {Q2 : State → Prop} {cc : ByteArray} {nL pc index : Nat} {ls : Array Slot} {rest : List Value} {own : String} {c0 : Cond} {σ : zSt} {x1 : Int64} {Q : Int32 → zSt → Prop} (S0 : CallFix p m c cc nL s args (c0 :: zT) own) (hml : Cond.methodLink own index yX12_may ∈ zT) (hR : rm_X12_may.frames + 1 ≤ R.frames ∧ 8 + (4 + 11) + rm_X12_may.locals ≤ R.locals) (h : w_X12_may N x1 σ Q) (hK : va_K (dC, dI) vwCl (m_ty cI cJ cC) s) (hP : va_P (dC, dI) vwCl (m_W ad cI cJ cC σ) H) (hD : va_D (zAW m_n ad s.heap.size) (m_W ad cI cJ cC σ)) (hS : va_S (zAW m_n ad s.heap.size) s.heap H locs) (hsz : ls.size = nL) (hW : (rest.map fun v => v.category).sum ≤ 8) (hcs : cells ≤ R.cells ∧ slots ≤ R.slots) (hdg : decode cc pc = .ok (.invokevirtual index, 3)) (kk : ∀ (r : Int32) (τ : zSt) (H1 : Heap) (locs1 : List Loc), Q r τ → va_P (dC, dI) vwCl (m_W ad cI cJ cC τ) H1 → va_D (zAW m_n ad s.heap.size) (m_W ad cI cJ cC τ) → va_S (zAW m_n ad s.heap.size) s.heap H1 locs1 → W p l e R s m args below meth c H1 locs1 cells slots Q2 (F0 m (pc + 3) ls (.int r :: rest))) : W p l e R s m args below meth c H locs cells slots Q2 (F0 m pc ls (.long x1 :: .ref (ad 0) :: rest)) :=
  zcv_i (T := TX12) (N' := 83) (k := 0) (ci := 12) (fs := m_f0 ad σ) [.long x1] S0 (c_X12_may N l dC dI ad cI cJ cC H.size σ x1 Q h) (cw_X12_may S0.2.2.2.2 hml rfl rfl hR) rfl rfl hK hP hD hS rfl hsz hW rfl hcs hdg kk
end q19
section q19
def w_X12_net (N : Nat) (x1 : Int64) (σ : zSt) (Q : Int32 → zSt → Prop) : Prop :=
  w_X12_may N x1 σ (fun r1 τ2 => (r1 = 0 → Q (0 : Int32) τ2) ∧ (¬ r1 = 0 → ∀ τ3 : zSt, τ3 = zJ τ2 0 x1 → Q (1 : Int32) τ3))
variable {p : Program} {l : Launch} {e : Env} {s : State} {m : MethodId} {args : Array Value} {below : List Frame} {meth : Method} {c : Code} {dC : Nat → ClassId} {dI : Nat → Nat → Nat} {ad : Nat → Nat} {cI cJ cC : ClassId}
set_option maxHeartbeats 4000000 in
set_option maxRecDepth 100000 in
theorem t_X12_net_0 (C0 : zCx p s m meth c args RX12 cX12_net 3 (some .boolean) vs_X12_net) (hK : va_K (dC, dI) vwCl (m_ty cI cJ cC) s) (N : Nat) {Q : Int32 → zSt → Prop} : ∀ (x1 : Int64) (σ : zSt) (H : Heap) (locs : List Loc) (ls : Array Slot), w_X12_net N x1 σ Q → va_P (dC, dI) vwCl (m_W ad cI cJ cC σ) H → va_D (zAW m_n ad s.heap.size) (m_W ad cI cJ cC σ) → va_S (zAW m_n ad s.heap.size) s.heap H locs → lv_has ls 3 [(0, .ref (ad 0)), (1, .long x1)] → W p l e rm_X12_net s m args below meth c H locs 0 0 (MQ below (zQi (dC, dI) (m_ty cI cJ cC) (m_W ad cI cJ cC) (zAW m_n ad s.heap.size) Q) args s 0 0 (zAW m_n ad s.heap.size)) (F0 m 0 ls []) := by
  obtain ⟨hx, hb, hml, hr, hown, hts, hlocks⟩ := id C0
  intro x1 σ H locs ls h hP hD hS hl
  unfold w_X12_net at h
  refine lv_aload_n hx hb dX12_net_0 rfl (lv_at hl 0 rfl) ?_
  refine lv_lload_n hx hb dX12_net_1 rfl (lv_at hl 1 rfl) ?_
  refine k_X12_may N ⟨hx, hb, hml, hown, hts⟩ mw_1065 ⟨Nat.le_of_ble_eq_true rfl, Nat.le_of_ble_eq_true rfl⟩ h hK hP hD hS hl.1 (rest := []) (Nat.le_of_ble_eq_true rfl) ⟨Nat.le_of_ble_eq_true rfl, Nat.le_of_ble_eq_true rfl⟩ dX12_net_2 (fun r1 τ2 H locs h hP hD hS => ?_)
  refine lv_if_ne (tgt := 10) hx hb dX12_net_5 (by decide) (fun hc => ?_) (fun hc => ?_)
  · have h := h.2 hc
    refine lv_aload_n hx hb dX12_net_10 rfl (lv_at hl 0 rfl) ?_
    refine lv_lload_n hx hb dX12_net_11 rfl (lv_at hl 1 rfl) ?_
    refine mp_0_47 hx hb hts hown hK hP hD hS mw_880 dX12_net_12 (fun τ3 H locs eτ3 hP hD hS => ?_)
    have h := h τ3 eτ3
    refine lv_iconst (v := (1 : Int32)) hx hb dX12_net_15 (by decide) ?_
    exact zret_z hx hb hr hlocks hK hP hD hS zb_1 h dX12_net_16
  · have h := h.1 hc
    refine lv_iconst (v := (0 : Int32)) hx hb dX12_net_8 (by decide) ?_
    exact zret_z hx hb hr hlocks hK hP hD hS zb_0 h dX12_net_9
set_option maxHeartbeats 4000000 in
set_option maxRecDepth 100000 in
theorem c_X12_net (N : Nat) (l : Launch) (dC : Nat → ClassId) (dI : Nat → Nat → Nat) (ad : Nat → Nat) (cI cJ cC : ClassId) (sz : Nat) (σ : zSt) (x1 : Int64) (Q : Int32 → zSt → Prop) (h : w_X12_net N x1 σ Q) : Met l yX12_net vs_X12_net rm_X12_net (va_Pc [.ref (ad 0), .long x1] (zPc (dC, dI) (m_ty cI cJ cC) (m_W ad cI cJ cC) sz σ)) (zQi (dC, dI) (m_ty cI cJ cC) (m_W ad cI cJ cC) (zAW m_n ad sz) Q) 0 0 (zAW m_n ad sz) := by
  refine Met.ofW (cc := cX12_net) (maxL := 3) (ret := (some .boolean)) (by decide) rfl ?_
  intro p e s m args below meth c s₁ B hml hv
  obtain ⟨rfl, hsz, hP, hK, hD0⟩ := hv
  subst hsz
  have C0 : zCx p s m meth c _ RX12 cX12_net 3 (some .boolean) vs_X12_net := ⟨B.exec, B.bytes, hml, B.returns, findClass_of_methodNamed B.named, atoms_spec (ws := vs_X12_net) B.pre, B.notSynchronized⟩
  have hD := m_D0 (n0 := s.heap.size) hD0
  have hl := lv_entry ([.ref (ad 0), .long x1]) (n := 3) (Nat.le_of_ble_eq_true rfl)
  rw [lg_entry_eq]
  generalize (lg_sl ([.ref (ad 0), .long x1]) ++ List.replicate (3 - (lg_sl ([.ref (ad 0), .long x1])).length) Slot.unset).toArray = ls at hl ⊢
  exact t_X12_net_0 C0 hK N x1 σ _ _ ls h hP hD va_S.rf hl
theorem k_X12_net (N : Nat) {R : Room} {H : Heap} {locs : List Loc} {cells slots : Nat} {Q2 : State → Prop} {cc : ByteArray} {nL pc index : Nat} {ls : Array Slot} {rest : List Value} {own : String} {c0 : Cond} {σ : zSt} {x1 : Int64} {Q : Int32 → zSt → Prop} (S0 : CallFix p m c cc nL s args (c0 :: zT) own) (hml : Cond.methodLink own index yX12_net ∈ zT) (hR : rm_X12_net.frames + 1 ≤ R.frames ∧ 8 + (3 + 11) + rm_X12_net.locals ≤ R.locals) (h : w_X12_net N x1 σ Q) (hK : va_K (dC, dI) vwCl (m_ty cI cJ cC) s) (hP : va_P (dC, dI) vwCl (m_W ad cI cJ cC σ) H) (hD : va_D (zAW m_n ad s.heap.size) (m_W ad cI cJ cC σ)) (hS : va_S (zAW m_n ad s.heap.size) s.heap H locs) (hsz : ls.size = nL) (hW : (rest.map fun v => v.category).sum ≤ 8) (hcs : cells ≤ R.cells ∧ slots ≤ R.slots) (hdg : decode cc pc = .ok (.invokevirtual index, 3)) (kk : ∀ (r : Int32) (τ : zSt) (H1 : Heap) (locs1 : List Loc), Q r τ → va_P (dC, dI) vwCl (m_W ad cI cJ cC τ) H1 → va_D (zAW m_n ad s.heap.size) (m_W ad cI cJ cC τ) → va_S (zAW m_n ad s.heap.size) s.heap H1 locs1 → W p l e R s m args below meth c H1 locs1 cells slots Q2 (F0 m (pc + 3) ls (.int r :: rest))) : W p l e R s m args below meth c H locs cells slots Q2 (F0 m pc ls (.long x1 :: .ref (ad 0) :: rest)) :=
  zcv_i (T := TX12) (N' := 83) (k := 0) (ci := 12) (fs := m_f0 ad σ) [.long x1] S0 (c_X12_net N l dC dI ad cI cJ cC H.size σ x1 Q h) (cw_X12_net S0.2.2.2.2 hml rfl rfl hR) rfl rfl hK hP hD hS rfl hsz hW rfl hcs hdg kk
end q19
section q19
def w_X12_net_ (N : Nat)  (σ : zSt) (Q : Int64 → zSt → Prop) : Prop :=
  Q (σ.2.1 0) σ
variable {p : Program} {l : Launch} {e : Env} {s : State} {m : MethodId} {args : Array Value} {below : List Frame} {meth : Method} {c : Code} {dC : Nat → ClassId} {dI : Nat → Nat → Nat} {ad : Nat → Nat} {cI cJ cC : ClassId}
set_option maxHeartbeats 4000000 in
set_option maxRecDepth 100000 in
theorem t_X12_net__0 (C0 : zCx p s m meth c args RX12 cX12_net_ 1 (some .long) vs_X12_net_) (hK : va_K (dC, dI) vwCl (m_ty cI cJ cC) s) (N : Nat) {Q : Int64 → zSt → Prop} : ∀  (σ : zSt) (H : Heap) (locs : List Loc) (ls : Array Slot), w_X12_net_ N  σ Q → va_P (dC, dI) vwCl (m_W ad cI cJ cC σ) H → va_D (zAW m_n ad s.heap.size) (m_W ad cI cJ cC σ) → va_S (zAW m_n ad s.heap.size) s.heap H locs → lv_has ls 1 [(0, .ref (ad 0))] → W p l e rm_X12_net_ s m args below meth c H locs 0 0 (MQ below (zQl (dC, dI) (m_ty cI cJ cC) (m_W ad cI cJ cC) (zAW m_n ad s.heap.size) Q) args s 0 0 (zAW m_n ad s.heap.size)) (F0 m 0 ls []) := by
  obtain ⟨hx, hb, hml, hr, hown, hts, hlocks⟩ := id C0
  intro  σ H locs ls h hP hD hS hl
  unfold w_X12_net_ at h
  refine lv_aload_n hx hb dX12_net__0 rfl (lv_at hl 0 rfl) ?_
  refine mg_0_47 hx hb hts hown hK hP mw_880 dX12_net__1 ?_
  exact zret_l hx hb hr hlocks hK hP hD hS h dX12_net__4
set_option maxHeartbeats 4000000 in
set_option maxRecDepth 100000 in
theorem c_X12_net_ (N : Nat) (l : Launch) (dC : Nat → ClassId) (dI : Nat → Nat → Nat) (ad : Nat → Nat) (cI cJ cC : ClassId) (sz : Nat) (σ : zSt)  (Q : Int64 → zSt → Prop) (h : w_X12_net_ N  σ Q) : Met l yX12_net_ vs_X12_net_ rm_X12_net_ (va_Pc [.ref (ad 0)] (zPc (dC, dI) (m_ty cI cJ cC) (m_W ad cI cJ cC) sz σ)) (zQl (dC, dI) (m_ty cI cJ cC) (m_W ad cI cJ cC) (zAW m_n ad sz) Q) 0 0 (zAW m_n ad sz) := by
  refine Met.ofW (cc := cX12_net_) (maxL := 1) (ret := (some .long)) (by decide) rfl ?_
  intro p e s m args below meth c s₁ B hml hv
  obtain ⟨rfl, hsz, hP, hK, hD0⟩ := hv
  subst hsz
  have C0 : zCx p s m meth c _ RX12 cX12_net_ 1 (some .long) vs_X12_net_ := ⟨B.exec, B.bytes, hml, B.returns, findClass_of_methodNamed B.named, atoms_spec (ws := vs_X12_net_) B.pre, B.notSynchronized⟩
  have hD := m_D0 (n0 := s.heap.size) hD0
  have hl := lv_entry ([.ref (ad 0)]) (n := 1) (Nat.le_of_ble_eq_true rfl)
  rw [lg_entry_eq]
  generalize (lg_sl ([.ref (ad 0)]) ++ List.replicate (1 - (lg_sl ([.ref (ad 0)])).length) Slot.unset).toArray = ls at hl ⊢
  exact t_X12_net__0 C0 hK N  σ _ _ ls h hP hD va_S.rf hl
theorem k_X12_net_ (N : Nat) {R : Room} {H : Heap} {locs : List Loc} {cells slots : Nat} {Q2 : State → Prop} {cc : ByteArray} {nL pc index : Nat} {ls : Array Slot} {rest : List Value} {own : String} {c0 : Cond} {σ : zSt}  {Q : Int64 → zSt → Prop} (S0 : CallFix p m c cc nL s args (c0 :: zT) own) (hml : Cond.methodLink own index yX12_net_ ∈ zT) (hR : rm_X12_net_.frames + 1 ≤ R.frames ∧ 8 + (1 + 11) + rm_X12_net_.locals ≤ R.locals) (h : w_X12_net_ N  σ Q) (hK : va_K (dC, dI) vwCl (m_ty cI cJ cC) s) (hP : va_P (dC, dI) vwCl (m_W ad cI cJ cC σ) H) (hD : va_D (zAW m_n ad s.heap.size) (m_W ad cI cJ cC σ)) (hS : va_S (zAW m_n ad s.heap.size) s.heap H locs) (hsz : ls.size = nL) (hW : (rest.map fun v => v.category).sum ≤ 8) (hcs : cells ≤ R.cells ∧ slots ≤ R.slots) (hdg : decode cc pc = .ok (.invokevirtual index, 3)) (kk : ∀ (r : Int64) (τ : zSt) (H1 : Heap) (locs1 : List Loc), Q r τ → va_P (dC, dI) vwCl (m_W ad cI cJ cC τ) H1 → va_D (zAW m_n ad s.heap.size) (m_W ad cI cJ cC τ) → va_S (zAW m_n ad s.heap.size) s.heap H1 locs1 → W p l e R s m args below meth c H1 locs1 cells slots Q2 (F0 m (pc + 3) ls (.long r :: rest))) : W p l e R s m args below meth c H locs cells slots Q2 (F0 m pc ls (.ref (ad 0) :: rest)) :=
  zcv_l (T := TX12) (N' := 83) (k := 0) (ci := 12) (fs := m_f0 ad σ) [] S0 (c_X12_net_ N l dC dI ad cI cJ cC H.size σ  Q h) (cw_X12_net_ S0.2.2.2.2 hml rfl rfl hR) rfl rfl hK hP hD hS rfl hsz hW rfl hcs hdg kk
end q19
section q19
def w_X12_tied (N : Nat) (x1 : Int32) (x2 : Int32) (σ : zSt) (Q : Int64 → zSt → Prop) : Prop :=
  w_X12_pairOf N x1 x2 σ (fun r1 τ2 => Q ((1 : Int64) <<< (r1.toInt64 &&& 63)) τ2)
variable {p : Program} {l : Launch} {e : Env} {s : State} {m : MethodId} {args : Array Value} {below : List Frame} {meth : Method} {c : Code} {dC : Nat → ClassId} {dI : Nat → Nat → Nat} {ad : Nat → Nat} {cI cJ cC : ClassId}
set_option maxHeartbeats 4000000 in
set_option maxRecDepth 100000 in
theorem t_X12_tied_0 (C0 : zCx p s m meth c args RX12 cX12_tied 3 (some .long) vs_X12_tied) (hK : va_K (dC, dI) vwCl (m_ty cI cJ cC) s) (N : Nat) {Q : Int64 → zSt → Prop} : ∀ (x1 : Int32) (x2 : Int32) (σ : zSt) (H : Heap) (locs : List Loc) (ls : Array Slot), w_X12_tied N x1 x2 σ Q → va_P (dC, dI) vwCl (m_W ad cI cJ cC σ) H → va_D (zAW m_n ad s.heap.size) (m_W ad cI cJ cC σ) → va_S (zAW m_n ad s.heap.size) s.heap H locs → lv_has ls 3 [(0, .ref (ad 0)), (1, .int x1), (2, .int x2)] → W p l e rm_X12_tied s m args below meth c H locs 0 0 (MQ below (zQl (dC, dI) (m_ty cI cJ cC) (m_W ad cI cJ cC) (zAW m_n ad s.heap.size) Q) args s 0 0 (zAW m_n ad s.heap.size)) (F0 m 0 ls []) := by
  obtain ⟨hx, hb, hml, hr, hown, hts, hlocks⟩ := id C0
  intro x1 x2 σ H locs ls h hP hD hS hl
  unfold w_X12_tied at h
  refine lv_lconst (v := (1 : Int64)) hx hb dX12_tied_0 (by decide) ?_
  refine lv_iload_n hx hb dX12_tied_1 rfl (lv_at hl 1 rfl) ?_
  refine lv_iload_n hx hb dX12_tied_2 rfl (lv_at hl 2 rfl) ?_
  refine k_X12_pairOf N ⟨hx, hb, hml, hown, hts⟩ mw_1030 ⟨Nat.le_of_ble_eq_true rfl, Nat.le_of_ble_eq_true rfl⟩ h hK hP hD hS hl.1 (rest := [.long (1 : Int64)]) (Nat.le_of_ble_eq_true rfl) ⟨Nat.le_of_ble_eq_true rfl, Nat.le_of_ble_eq_true rfl⟩ dX12_tied_3 (fun r1 τ2 H locs h hP hD hS => ?_)
  refine lv_lshl hx hb dX12_tied_6 rfl ?_
  exact zret_l hx hb hr hlocks hK hP hD hS h dX12_tied_7
set_option maxHeartbeats 4000000 in
set_option maxRecDepth 100000 in
theorem c_X12_tied (N : Nat) (l : Launch) (dC : Nat → ClassId) (dI : Nat → Nat → Nat) (ad : Nat → Nat) (cI cJ cC : ClassId) (sz : Nat) (σ : zSt) (x1 : Int32) (x2 : Int32) (Q : Int64 → zSt → Prop) (h : w_X12_tied N x1 x2 σ Q) : Met l yX12_tied vs_X12_tied rm_X12_tied (va_Pc [.ref (ad 0), .int x1, .int x2] (zPc (dC, dI) (m_ty cI cJ cC) (m_W ad cI cJ cC) sz σ)) (zQl (dC, dI) (m_ty cI cJ cC) (m_W ad cI cJ cC) (zAW m_n ad sz) Q) 0 0 (zAW m_n ad sz) := by
  refine Met.ofW (cc := cX12_tied) (maxL := 3) (ret := (some .long)) (by decide) rfl ?_
  intro p e s m args below meth c s₁ B hml hv
  obtain ⟨rfl, hsz, hP, hK, hD0⟩ := hv
  subst hsz
  have C0 : zCx p s m meth c _ RX12 cX12_tied 3 (some .long) vs_X12_tied := ⟨B.exec, B.bytes, hml, B.returns, findClass_of_methodNamed B.named, atoms_spec (ws := vs_X12_tied) B.pre, B.notSynchronized⟩
  have hD := m_D0 (n0 := s.heap.size) hD0
  have hl := lv_entry ([.ref (ad 0), .int x1, .int x2]) (n := 3) (Nat.le_of_ble_eq_true rfl)
  rw [lg_entry_eq]
  generalize (lg_sl ([.ref (ad 0), .int x1, .int x2]) ++ List.replicate (3 - (lg_sl ([.ref (ad 0), .int x1, .int x2])).length) Slot.unset).toArray = ls at hl ⊢
  exact t_X12_tied_0 C0 hK N x1 x2 σ _ _ ls h hP hD va_S.rf hl
theorem k_X12_tied (N : Nat) {R : Room} {H : Heap} {locs : List Loc} {cells slots : Nat} {Q2 : State → Prop} {cc : ByteArray} {nL pc index : Nat} {ls : Array Slot} {rest : List Value} {own : String} {c0 : Cond} {σ : zSt} {x1 : Int32} {x2 : Int32} {Q : Int64 → zSt → Prop} (S0 : CallFix p m c cc nL s args (c0 :: zT) own) (hml : Cond.methodLink own index yX12_tied ∈ zT) (hR : rm_X12_tied.frames + 1 ≤ R.frames ∧ 8 + (3 + 11) + rm_X12_tied.locals ≤ R.locals) (h : w_X12_tied N x1 x2 σ Q) (hK : va_K (dC, dI) vwCl (m_ty cI cJ cC) s) (hP : va_P (dC, dI) vwCl (m_W ad cI cJ cC σ) H) (hD : va_D (zAW m_n ad s.heap.size) (m_W ad cI cJ cC σ)) (hS : va_S (zAW m_n ad s.heap.size) s.heap H locs) (hsz : ls.size = nL) (hW : (rest.map fun v => v.category).sum ≤ 8) (hcs : cells ≤ R.cells ∧ slots ≤ R.slots) (hdg : decode cc pc = .ok (.invokevirtual index, 3)) (kk : ∀ (r : Int64) (τ : zSt) (H1 : Heap) (locs1 : List Loc), Q r τ → va_P (dC, dI) vwCl (m_W ad cI cJ cC τ) H1 → va_D (zAW m_n ad s.heap.size) (m_W ad cI cJ cC τ) → va_S (zAW m_n ad s.heap.size) s.heap H1 locs1 → W p l e R s m args below meth c H1 locs1 cells slots Q2 (F0 m (pc + 3) ls (.long r :: rest))) : W p l e R s m args below meth c H locs cells slots Q2 (F0 m pc ls (.int x2 :: .int x1 :: .ref (ad 0) :: rest)) :=
  zcv_l (T := TX12) (N' := 83) (k := 0) (ci := 12) (fs := m_f0 ad σ) [.int x1, .int x2] S0 (c_X12_tied N l dC dI ad cI cJ cC H.size σ x1 x2 Q h) (cw_X12_tied S0.2.2.2.2 hml rfl rfl hR) rfl rfl hK hP hD hS rfl hsz hW rfl hcs hdg kk
end q19
section q19
def b_X12_star_5 (N : Nat) (k_5 : Int32 → Int64 → Int32 → zSt → Prop) (Q : Int64 → zSt → Prop) (x1 : Int32) (x2 : Int64) (x4 : Int32) (σ : zSt) : Prop :=
  w_X12_many N σ (fun r1 τ2 => (r1 ≤ x4 → Q x2 τ2) ∧ (¬ r1 ≤ x4 → (x4 = x1 → ∀ v3 : Int32, v3 = x4 + (1 : Int32) → k_5 x1 x2 v3 τ2) ∧ (¬ x4 = x1 → w_X12_tied N x1 x4 τ2 (fun r4 τ5 => ∀ v6 : Int64, v6 = x2 ||| r4 → ∀ v7 : Int32, v7 = x4 + (1 : Int32) → k_5 x1 v6 v7 τ5))))
def w_X12_star_5 (N : Nat) (Q : Int64 → zSt → Prop) : Nat → Int32 → Int64 → Int32 → zSt → Prop
  | 0 => fun _ _ _ _ => False
  | f + 1 => b_X12_star_5 N (w_X12_star_5 N  Q f) Q
def w_X12_star (N : Nat) (x1 : Int32) (σ : zSt) (Q : Int64 → zSt → Prop) : Prop :=
  w_X12_star_5 N Q N x1 (0 : Int64) (0 : Int32) σ
variable {p : Program} {l : Launch} {e : Env} {s : State} {m : MethodId} {args : Array Value} {below : List Frame} {meth : Method} {c : Code} {dC : Nat → ClassId} {dI : Nat → Nat → Nat} {ad : Nat → Nat} {cI cJ cC : ClassId}
set_option maxHeartbeats 4000000 in
set_option maxRecDepth 100000 in
theorem tb_X12_star_5 (C0 : zCx p s m meth c args RX12 cX12_star 5 (some .long) vs_X12_star) (hK : va_K (dC, dI) vwCl (m_ty cI cJ cC) s) (N : Nat) {Q : Int64 → zSt → Prop} {k_5 : Int32 → Int64 → Int32 → zSt → Prop} (hk_5 : ∀ (x1 : Int32) (x2 : Int64) (x4 : Int32) (σ : zSt) (H : Heap) (locs : List Loc) (ls : Array Slot), k_5 x1 x2 x4 σ → va_P (dC, dI) vwCl (m_W ad cI cJ cC σ) H → va_D (zAW m_n ad s.heap.size) (m_W ad cI cJ cC σ) → va_S (zAW m_n ad s.heap.size) s.heap H locs → lv_has ls 5 [(0, .ref (ad 0)), (1, .int x1), (2, .long x2), (4, .int x4)] → W p l e rm_X12_star s m args below meth c H locs 0 0 (MQ below (zQl (dC, dI) (m_ty cI cJ cC) (m_W ad cI cJ cC) (zAW m_n ad s.heap.size) Q) args s 0 0 (zAW m_n ad s.heap.size)) (F0 m 5 ls [])) : ∀ (x1 : Int32) (x2 : Int64) (x4 : Int32) (σ : zSt) (H : Heap) (locs : List Loc) (ls : Array Slot), b_X12_star_5 N k_5 Q x1 x2 x4 σ → va_P (dC, dI) vwCl (m_W ad cI cJ cC σ) H → va_D (zAW m_n ad s.heap.size) (m_W ad cI cJ cC σ) → va_S (zAW m_n ad s.heap.size) s.heap H locs → lv_has ls 5 [(0, .ref (ad 0)), (1, .int x1), (2, .long x2), (4, .int x4)] → W p l e rm_X12_star s m args below meth c H locs 0 0 (MQ below (zQl (dC, dI) (m_ty cI cJ cC) (m_W ad cI cJ cC) (zAW m_n ad s.heap.size) Q) args s 0 0 (zAW m_n ad s.heap.size)) (F0 m 5 ls []) := by
  obtain ⟨hx, hb, hml, hr, hown, hts, hlocks⟩ := id C0
  intro x1 x2 x4 σ H locs ls h hP hD hS hl
  unfold b_X12_star_5 at h
  refine lv_iload hx hb dX12_star_5 (lv_at hl 3 rfl) ?_
  refine lv_aload_n hx hb dX12_star_7 rfl (lv_at hl 0 rfl) ?_
  refine k_X12_many N ⟨hx, hb, hml, hown, hts⟩ mw_1044 ⟨Nat.le_of_ble_eq_true rfl, Nat.le_of_ble_eq_true rfl⟩ h hK hP hD hS hl.1 (rest := [.int x4]) (Nat.le_of_ble_eq_true rfl) ⟨Nat.le_of_ble_eq_true rfl, Nat.le_of_ble_eq_true rfl⟩ dX12_star_8 (fun r1 τ2 H locs h hP hD hS => ?_)
  refine lv_icmp_ge (tgt := 36) hx hb dX12_star_11 (by decide) (fun hc => ?_) (fun hc => ?_)
  · have h := h.1 hc
    refine lv_lload_n hx hb dX12_star_36 rfl (lv_at hl 2 rfl) ?_
    exact zret_l hx hb hr hlocks hK hP hD hS h dX12_star_37
  · have h := h.2 hc
    refine lv_iload hx hb dX12_star_14 (lv_at hl 3 rfl) ?_
    refine lv_iload_n hx hb dX12_star_16 rfl (lv_at hl 1 rfl) ?_
    refine lv_icmp_eq (tgt := 30) hx hb dX12_star_17 (by decide) (fun hc => ?_) (fun hc => ?_)
    · have h := h.1 hc
      obtain ⟨v3, ev3⟩ : ∃ z : Int32, z = x4 + (1 : Int32) := ⟨_, rfl⟩
      have h := h v3 ev3
      refine lv_iinc (v := v3) (lv' := [(4, .int v3), (0, .ref (ad 0)), (1, .int x1), (2, .long x2)]) hx hb dX12_star_30 hl (k := 3) rfl (by rw [ev3]; rfl) (by decide) rfl (fun ls hl => ?_)
      refine lv_goto (tgt := 5) hx hb dX12_star_33 (by decide) ?_
      exact hk_5 x1 x2 v3 τ2 _ _ _ h hP hD hS (lv_sub hl [1, 2, 3, 0] rfl)
    · have h := h.2 hc
      refine lv_lload_n hx hb dX12_star_20 rfl (lv_at hl 2 rfl) ?_
      refine lv_aload_n hx hb dX12_star_21 rfl (lv_at hl 0 rfl) ?_
      refine lv_iload_n hx hb dX12_star_22 rfl (lv_at hl 1 rfl) ?_
      refine lv_iload hx hb dX12_star_23 (lv_at hl 3 rfl) ?_
      refine k_X12_tied N ⟨hx, hb, hml, hown, hts⟩ mw_1085 ⟨Nat.le_of_ble_eq_true rfl, Nat.le_of_ble_eq_true rfl⟩ h hK hP hD hS hl.1 (rest := [.long x2]) (Nat.le_of_ble_eq_true rfl) ⟨Nat.le_of_ble_eq_true rfl, Nat.le_of_ble_eq_true rfl⟩ dX12_star_25 (fun r4 τ5 H locs h hP hD hS => ?_)
      refine lv_lor hx hb dX12_star_28 ?_
      refine lv_topl (fun v6 ev6 => ?_)
      have h := h v6 ev6
      refine lv_lstore_n (lv' := [(2, .long v6), (0, .ref (ad 0)), (1, .int x1), (4, .int x4)]) hx hb dX12_star_29 rfl hl (by decide) rfl (fun ls hl => ?_)
      obtain ⟨v7, ev7⟩ : ∃ z : Int32, z = x4 + (1 : Int32) := ⟨_, rfl⟩
      have h := h v7 ev7
      refine lv_iinc (v := v7) (lv' := [(4, .int v7), (2, .long v6), (0, .ref (ad 0)), (1, .int x1)]) hx hb dX12_star_30 hl (k := 3) rfl (by rw [ev7]; rfl) (by decide) rfl (fun ls hl => ?_)
      refine lv_goto (tgt := 5) hx hb dX12_star_33 (by decide) ?_
      exact hk_5 x1 v6 v7 τ5 _ _ _ h hP hD hS (lv_sub hl [2, 3, 1, 0] rfl)
set_option maxHeartbeats 4000000 in
set_option maxRecDepth 100000 in
theorem t_X12_star_5 (C0 : zCx p s m meth c args RX12 cX12_star 5 (some .long) vs_X12_star) (hK : va_K (dC, dI) vwCl (m_ty cI cJ cC) s) (N : Nat) {Q : Int64 → zSt → Prop} : ∀ (f : Nat) (x1 : Int32) (x2 : Int64) (x4 : Int32) (σ : zSt) (H : Heap) (locs : List Loc) (ls : Array Slot), w_X12_star_5 N  Q f x1 x2 x4 σ → va_P (dC, dI) vwCl (m_W ad cI cJ cC σ) H → va_D (zAW m_n ad s.heap.size) (m_W ad cI cJ cC σ) → va_S (zAW m_n ad s.heap.size) s.heap H locs → lv_has ls 5 [(0, .ref (ad 0)), (1, .int x1), (2, .long x2), (4, .int x4)] → W p l e rm_X12_star s m args below meth c H locs 0 0 (MQ below (zQl (dC, dI) (m_ty cI cJ cC) (m_W ad cI cJ cC) (zAW m_n ad s.heap.size) Q) args s 0 0 (zAW m_n ad s.heap.size)) (F0 m 5 ls []) := by
  intro f
  induction f with
  | zero => intro x1 x2 x4 σ H locs ls h; exact h.elim
  | succ f ih =>
    intro x1 x2 x4 σ H locs ls h hP hD hS hl
    exact tb_X12_star_5 C0 hK N  (k_5 := w_X12_star_5 N  Q f) ih x1 x2 x4 σ H locs ls h hP hD hS hl
set_option maxHeartbeats 4000000 in
set_option maxRecDepth 100000 in
theorem t_X12_star_0 (C0 : zCx p s m meth c args RX12 cX12_star 5 (some .long) vs_X12_star) (hK : va_K (dC, dI) vwCl (m_ty cI cJ cC) s) (N : Nat) {Q : Int64 → zSt → Prop} : ∀ (x1 : Int32) (σ : zSt) (H : Heap) (locs : List Loc) (ls : Array Slot), w_X12_star N x1 σ Q → va_P (dC, dI) vwCl (m_W ad cI cJ cC σ) H → va_D (zAW m_n ad s.heap.size) (m_W ad cI cJ cC σ) → va_S (zAW m_n ad s.heap.size) s.heap H locs → lv_has ls 5 [(0, .ref (ad 0)), (1, .int x1)] → W p l e rm_X12_star s m args below meth c H locs 0 0 (MQ below (zQl (dC, dI) (m_ty cI cJ cC) (m_W ad cI cJ cC) (zAW m_n ad s.heap.size) Q) args s 0 0 (zAW m_n ad s.heap.size)) (F0 m 0 ls []) := by
  obtain ⟨hx, hb, hml, hr, hown, hts, hlocks⟩ := id C0
  intro x1 σ H locs ls h hP hD hS hl
  unfold w_X12_star at h
  refine lv_lconst (v := (0 : Int64)) hx hb dX12_star_0 (by decide) ?_
  refine lv_lstore_n (lv' := [(2, .long (0 : Int64)), (0, .ref (ad 0)), (1, .int x1)]) hx hb dX12_star_1 rfl hl (by decide) rfl (fun ls hl => ?_)
  refine lv_iconst (v := (0 : Int32)) hx hb dX12_star_2 (by decide) ?_
  refine lv_istore (lv' := [(4, .int (0 : Int32)), (2, .long (0 : Int64)), (0, .ref (ad 0)), (1, .int x1)]) hx hb dX12_star_3 hl (by decide) rfl (fun ls hl => ?_)
  exact t_X12_star_5 C0 hK N  N x1 (0 : Int64) (0 : Int32) σ _ _ _ h hP hD hS (lv_sub hl [2, 3, 1, 0] rfl)
set_option maxHeartbeats 4000000 in
set_option maxRecDepth 100000 in
theorem c_X12_star (N : Nat) (l : Launch) (dC : Nat → ClassId) (dI : Nat → Nat → Nat) (ad : Nat → Nat) (cI cJ cC : ClassId) (sz : Nat) (σ : zSt) (x1 : Int32) (Q : Int64 → zSt → Prop) (h : w_X12_star N x1 σ Q) : Met l yX12_star vs_X12_star rm_X12_star (va_Pc [.ref (ad 0), .int x1] (zPc (dC, dI) (m_ty cI cJ cC) (m_W ad cI cJ cC) sz σ)) (zQl (dC, dI) (m_ty cI cJ cC) (m_W ad cI cJ cC) (zAW m_n ad sz) Q) 0 0 (zAW m_n ad sz) := by
  refine Met.ofW (cc := cX12_star) (maxL := 5) (ret := (some .long)) (by decide) rfl ?_
  intro p e s m args below meth c s₁ B hml hv
  obtain ⟨rfl, hsz, hP, hK, hD0⟩ := hv
  subst hsz
  have C0 : zCx p s m meth c _ RX12 cX12_star 5 (some .long) vs_X12_star := ⟨B.exec, B.bytes, hml, B.returns, findClass_of_methodNamed B.named, atoms_spec (ws := vs_X12_star) B.pre, B.notSynchronized⟩
  have hD := m_D0 (n0 := s.heap.size) hD0
  have hl := lv_entry ([.ref (ad 0), .int x1]) (n := 5) (Nat.le_of_ble_eq_true rfl)
  rw [lg_entry_eq]
  generalize (lg_sl ([.ref (ad 0), .int x1]) ++ List.replicate (5 - (lg_sl ([.ref (ad 0), .int x1])).length) Slot.unset).toArray = ls at hl ⊢
  exact t_X12_star_0 C0 hK N x1 σ _ _ ls h hP hD va_S.rf hl
theorem k_X12_star (N : Nat) {R : Room} {H : Heap} {locs : List Loc} {cells slots : Nat} {Q2 : State → Prop} {cc : ByteArray} {nL pc index : Nat} {ls : Array Slot} {rest : List Value} {own : String} {c0 : Cond} {σ : zSt} {x1 : Int32} {Q : Int64 → zSt → Prop} (S0 : CallFix p m c cc nL s args (c0 :: zT) own) (hml : Cond.methodLink own index yX12_star ∈ zT) (hR : rm_X12_star.frames + 1 ≤ R.frames ∧ 8 + (5 + 11) + rm_X12_star.locals ≤ R.locals) (h : w_X12_star N x1 σ Q) (hK : va_K (dC, dI) vwCl (m_ty cI cJ cC) s) (hP : va_P (dC, dI) vwCl (m_W ad cI cJ cC σ) H) (hD : va_D (zAW m_n ad s.heap.size) (m_W ad cI cJ cC σ)) (hS : va_S (zAW m_n ad s.heap.size) s.heap H locs) (hsz : ls.size = nL) (hW : (rest.map fun v => v.category).sum ≤ 8) (hcs : cells ≤ R.cells ∧ slots ≤ R.slots) (hdg : decode cc pc = .ok (.invokevirtual index, 3)) (kk : ∀ (r : Int64) (τ : zSt) (H1 : Heap) (locs1 : List Loc), Q r τ → va_P (dC, dI) vwCl (m_W ad cI cJ cC τ) H1 → va_D (zAW m_n ad s.heap.size) (m_W ad cI cJ cC τ) → va_S (zAW m_n ad s.heap.size) s.heap H1 locs1 → W p l e R s m args below meth c H1 locs1 cells slots Q2 (F0 m (pc + 3) ls (.long r :: rest))) : W p l e R s m args below meth c H locs cells slots Q2 (F0 m pc ls (.int x1 :: .ref (ad 0) :: rest)) :=
  zcv_l (T := TX12) (N' := 83) (k := 0) (ci := 12) (fs := m_f0 ad σ) [.int x1] S0 (c_X12_star N l dC dI ad cI cJ cC H.size σ x1 Q h) (cw_X12_star S0.2.2.2.2 hml rfl rfl hR) rfl rfl hK hP hD hS rfl hsz hW rfl hcs hdg kk
end q19
section q19
def b_X12_ringBut_11 (N : Nat) (k_11 : Int32 → Int64 → Int32 → Int32 → Int32 → zSt → Prop) (Q : Int64 → zSt → Prop) (x1 : Int32) (x2 : Int64) (x4 : Int32) (x5 : Int32) (x6 : Int32) (σ : zSt) : Prop :=
  w_X12_many N σ (fun r1 τ2 => (r1 ≤ x6 → w_X12_tied N x4 x5 τ2 (fun r3 τ4 => Q (x2 ||| r3) τ4)) ∧ (¬ r1 ≤ x6 → (x6 = x1 → ∀ v10 : Int32, v10 = x6 + (1 : Int32) → k_11 x1 x2 x4 x5 v10 τ2) ∧ (¬ x6 = x1 → (x4 = (-1 : Int32) → ∀ v9 : Int32, v9 = x6 + (1 : Int32) → k_11 x1 x2 x6 x6 v9 τ2) ∧ (¬ x4 = (-1 : Int32) → w_X12_tied N x5 x6 τ2 (fun r5 τ6 => ∀ v7 : Int64, v7 = x2 ||| r5 → ∀ v8 : Int32, v8 = x6 + (1 : Int32) → k_11 x1 v7 x4 x6 v8 τ6)))))
def w_X12_ringBut_11 (N : Nat) (Q : Int64 → zSt → Prop) : Nat → Int32 → Int64 → Int32 → Int32 → Int32 → zSt → Prop
  | 0 => fun _ _ _ _ _ _ => False
  | f + 1 => b_X12_ringBut_11 N (w_X12_ringBut_11 N  Q f) Q
def w_X12_ringBut (N : Nat) (x1 : Int32) (σ : zSt) (Q : Int64 → zSt → Prop) : Prop :=
  w_X12_ringBut_11 N Q N x1 (0 : Int64) (-1 : Int32) (-1 : Int32) (0 : Int32) σ
variable {p : Program} {l : Launch} {e : Env} {s : State} {m : MethodId} {args : Array Value} {below : List Frame} {meth : Method} {c : Code} {dC : Nat → ClassId} {dI : Nat → Nat → Nat} {ad : Nat → Nat} {cI cJ cC : ClassId}
set_option maxHeartbeats 4000000 in
set_option maxRecDepth 100000 in
theorem tb_X12_ringBut_11 (C0 : zCx p s m meth c args RX12 cX12_ringBut 7 (some .long) vs_X12_ringBut) (hK : va_K (dC, dI) vwCl (m_ty cI cJ cC) s) (N : Nat) {Q : Int64 → zSt → Prop} {k_11 : Int32 → Int64 → Int32 → Int32 → Int32 → zSt → Prop} (hk_11 : ∀ (x1 : Int32) (x2 : Int64) (x4 : Int32) (x5 : Int32) (x6 : Int32) (σ : zSt) (H : Heap) (locs : List Loc) (ls : Array Slot), k_11 x1 x2 x4 x5 x6 σ → va_P (dC, dI) vwCl (m_W ad cI cJ cC σ) H → va_D (zAW m_n ad s.heap.size) (m_W ad cI cJ cC σ) → va_S (zAW m_n ad s.heap.size) s.heap H locs → lv_has ls 7 [(0, .ref (ad 0)), (1, .int x1), (2, .long x2), (4, .int x4), (5, .int x5), (6, .int x6)] → W p l e rm_X12_ringBut s m args below meth c H locs 0 0 (MQ below (zQl (dC, dI) (m_ty cI cJ cC) (m_W ad cI cJ cC) (zAW m_n ad s.heap.size) Q) args s 0 0 (zAW m_n ad s.heap.size)) (F0 m 11 ls [])) : ∀ (x1 : Int32) (x2 : Int64) (x4 : Int32) (x5 : Int32) (x6 : Int32) (σ : zSt) (H : Heap) (locs : List Loc) (ls : Array Slot), b_X12_ringBut_11 N k_11 Q x1 x2 x4 x5 x6 σ → va_P (dC, dI) vwCl (m_W ad cI cJ cC σ) H → va_D (zAW m_n ad s.heap.size) (m_W ad cI cJ cC σ) → va_S (zAW m_n ad s.heap.size) s.heap H locs → lv_has ls 7 [(0, .ref (ad 0)), (1, .int x1), (2, .long x2), (4, .int x4), (5, .int x5), (6, .int x6)] → W p l e rm_X12_ringBut s m args below meth c H locs 0 0 (MQ below (zQl (dC, dI) (m_ty cI cJ cC) (m_W ad cI cJ cC) (zAW m_n ad s.heap.size) Q) args s 0 0 (zAW m_n ad s.heap.size)) (F0 m 11 ls []) := by
  obtain ⟨hx, hb, hml, hr, hown, hts, hlocks⟩ := id C0
  intro x1 x2 x4 x5 x6 σ H locs ls h hP hD hS hl
  unfold b_X12_ringBut_11 at h
  refine lv_iload hx hb dX12_ringBut_11 (lv_at hl 5 rfl) ?_
  refine lv_aload_n hx hb dX12_ringBut_13 rfl (lv_at hl 0 rfl) ?_
  refine k_X12_many N ⟨hx, hb, hml, hown, hts⟩ mw_1044 ⟨Nat.le_of_ble_eq_true rfl, Nat.le_of_ble_eq_true rfl⟩ h hK hP hD hS hl.1 (rest := [.int x6]) (Nat.le_of_ble_eq_true rfl) ⟨Nat.le_of_ble_eq_true rfl, Nat.le_of_ble_eq_true rfl⟩ dX12_ringBut_14 (fun r1 τ2 H locs h hP hD hS => ?_)
  refine lv_icmp_ge (tgt := 63) hx hb dX12_ringBut_17 (by decide) (fun hc => ?_) (fun hc => ?_)
  · have h := h.1 hc
    refine lv_lload_n hx hb dX12_ringBut_63 rfl (lv_at hl 2 rfl) ?_
    refine lv_aload_n hx hb dX12_ringBut_64 rfl (lv_at hl 0 rfl) ?_
    refine lv_iload hx hb dX12_ringBut_65 (lv_at hl 3 rfl) ?_
    refine lv_iload hx hb dX12_ringBut_67 (lv_at hl 4 rfl) ?_
    refine k_X12_tied N ⟨hx, hb, hml, hown, hts⟩ mw_1085 ⟨Nat.le_of_ble_eq_true rfl, Nat.le_of_ble_eq_true rfl⟩ h hK hP hD hS hl.1 (rest := [.long x2]) (Nat.le_of_ble_eq_true rfl) ⟨Nat.le_of_ble_eq_true rfl, Nat.le_of_ble_eq_true rfl⟩ dX12_ringBut_69 (fun r3 τ4 H locs h hP hD hS => ?_)
    refine lv_lor hx hb dX12_ringBut_72 ?_
    exact zret_l hx hb hr hlocks hK hP hD hS h dX12_ringBut_73
  · have h := h.2 hc
    refine lv_iload hx hb dX12_ringBut_20 (lv_at hl 5 rfl) ?_
    refine lv_iload_n hx hb dX12_ringBut_22 rfl (lv_at hl 1 rfl) ?_
    refine lv_icmp_ne (tgt := 29) hx hb dX12_ringBut_23 (by decide) (fun hc => ?_) (fun hc => ?_)
    · have h := h.2 hc
      refine lv_iload hx hb dX12_ringBut_29 (lv_at hl 3 rfl) ?_
      refine lv_iconst (v := (-1 : Int32)) hx hb dX12_ringBut_31 (by decide) ?_
      refine lv_icmp_ne (tgt := 42) hx hb dX12_ringBut_32 (by decide) (fun hc => ?_) (fun hc => ?_)
      · have h := h.2 hc
        refine lv_lload_n hx hb dX12_ringBut_42 rfl (lv_at hl 2 rfl) ?_
        refine lv_aload_n hx hb dX12_ringBut_43 rfl (lv_at hl 0 rfl) ?_
        refine lv_iload hx hb dX12_ringBut_44 (lv_at hl 4 rfl) ?_
        refine lv_iload hx hb dX12_ringBut_46 (lv_at hl 5 rfl) ?_
        refine k_X12_tied N ⟨hx, hb, hml, hown, hts⟩ mw_1085 ⟨Nat.le_of_ble_eq_true rfl, Nat.le_of_ble_eq_true rfl⟩ h hK hP hD hS hl.1 (rest := [.long x2]) (Nat.le_of_ble_eq_true rfl) ⟨Nat.le_of_ble_eq_true rfl, Nat.le_of_ble_eq_true rfl⟩ dX12_ringBut_48 (fun r5 τ6 H locs h hP hD hS => ?_)
        refine lv_lor hx hb dX12_ringBut_51 ?_
        refine lv_topl (fun v7 ev7 => ?_)
        have h := h v7 ev7
        refine lv_lstore_n (lv' := [(2, .long v7), (0, .ref (ad 0)), (1, .int x1), (4, .int x4), (5, .int x5), (6, .int x6)]) hx hb dX12_ringBut_52 rfl hl (by decide) rfl (fun ls hl => ?_)
        refine lv_iload hx hb dX12_ringBut_53 (lv_at hl 5 rfl) ?_
        refine lv_istore (lv' := [(5, .int x6), (2, .long v7), (0, .ref (ad 0)), (1, .int x1), (4, .int x4), (6, .int x6)]) hx hb dX12_ringBut_55 hl (by decide) rfl (fun ls hl => ?_)
        obtain ⟨v8, ev8⟩ : ∃ z : Int32, z = x6 + (1 : Int32) := ⟨_, rfl⟩
        have h := h v8 ev8
        refine lv_iinc (v := v8) (lv' := [(6, .int v8), (5, .int x6), (2, .long v7), (0, .ref (ad 0)), (1, .int x1), (4, .int x4)]) hx hb dX12_ringBut_57 hl (k := 5) rfl (by rw [ev8]; rfl) (by decide) rfl (fun ls hl => ?_)
        refine lv_goto (tgt := 11) hx hb dX12_ringBut_60 (by decide) ?_
        exact hk_11 x1 v7 x4 x6 v8 τ6 _ _ _ h hP hD hS (lv_sub hl [3, 4, 2, 5, 1, 0] rfl)
      · have h := h.1 hc
        refine lv_iload hx hb dX12_ringBut_35 (lv_at hl 5 rfl) ?_
        refine lv_istore (lv' := [(4, .int x6), (0, .ref (ad 0)), (1, .int x1), (2, .long x2), (5, .int x5), (6, .int x6)]) hx hb dX12_ringBut_37 hl (by decide) rfl (fun ls hl => ?_)
        refine lv_goto (tgt := 53) hx hb dX12_ringBut_39 (by decide) ?_
        refine lv_iload hx hb dX12_ringBut_53 (lv_at hl 5 rfl) ?_
        refine lv_istore (lv' := [(5, .int x6), (4, .int x6), (0, .ref (ad 0)), (1, .int x1), (2, .long x2), (6, .int x6)]) hx hb dX12_ringBut_55 hl (by decide) rfl (fun ls hl => ?_)
        obtain ⟨v9, ev9⟩ : ∃ z : Int32, z = x6 + (1 : Int32) := ⟨_, rfl⟩
        have h := h v9 ev9
        refine lv_iinc (v := v9) (lv' := [(6, .int v9), (5, .int x6), (4, .int x6), (0, .ref (ad 0)), (1, .int x1), (2, .long x2)]) hx hb dX12_ringBut_57 hl (k := 5) rfl (by rw [ev9]; rfl) (by decide) rfl (fun ls hl => ?_)
        refine lv_goto (tgt := 11) hx hb dX12_ringBut_60 (by decide) ?_
        exact hk_11 x1 x2 x6 x6 v9 τ2 _ _ _ h hP hD hS (lv_sub hl [3, 4, 5, 2, 1, 0] rfl)
    · have h := h.1 hc
      refine lv_goto (tgt := 57) hx hb dX12_ringBut_26 (by decide) ?_
      obtain ⟨v10, ev10⟩ : ∃ z : Int32, z = x6 + (1 : Int32) := ⟨_, rfl⟩
      have h := h v10 ev10
      refine lv_iinc (v := v10) (lv' := [(6, .int v10), (0, .ref (ad 0)), (1, .int x1), (2, .long x2), (4, .int x4), (5, .int x5)]) hx hb dX12_ringBut_57 hl (k := 5) rfl (by rw [ev10]; rfl) (by decide) rfl (fun ls hl => ?_)
      refine lv_goto (tgt := 11) hx hb dX12_ringBut_60 (by decide) ?_
      exact hk_11 x1 x2 x4 x5 v10 τ2 _ _ _ h hP hD hS (lv_sub hl [1, 2, 3, 4, 5, 0] rfl)
set_option maxHeartbeats 4000000 in
set_option maxRecDepth 100000 in
theorem t_X12_ringBut_11 (C0 : zCx p s m meth c args RX12 cX12_ringBut 7 (some .long) vs_X12_ringBut) (hK : va_K (dC, dI) vwCl (m_ty cI cJ cC) s) (N : Nat) {Q : Int64 → zSt → Prop} : ∀ (f : Nat) (x1 : Int32) (x2 : Int64) (x4 : Int32) (x5 : Int32) (x6 : Int32) (σ : zSt) (H : Heap) (locs : List Loc) (ls : Array Slot), w_X12_ringBut_11 N  Q f x1 x2 x4 x5 x6 σ → va_P (dC, dI) vwCl (m_W ad cI cJ cC σ) H → va_D (zAW m_n ad s.heap.size) (m_W ad cI cJ cC σ) → va_S (zAW m_n ad s.heap.size) s.heap H locs → lv_has ls 7 [(0, .ref (ad 0)), (1, .int x1), (2, .long x2), (4, .int x4), (5, .int x5), (6, .int x6)] → W p l e rm_X12_ringBut s m args below meth c H locs 0 0 (MQ below (zQl (dC, dI) (m_ty cI cJ cC) (m_W ad cI cJ cC) (zAW m_n ad s.heap.size) Q) args s 0 0 (zAW m_n ad s.heap.size)) (F0 m 11 ls []) := by
  intro f
  induction f with
  | zero => intro x1 x2 x4 x5 x6 σ H locs ls h; exact h.elim
  | succ f ih =>
    intro x1 x2 x4 x5 x6 σ H locs ls h hP hD hS hl
    exact tb_X12_ringBut_11 C0 hK N  (k_11 := w_X12_ringBut_11 N  Q f) ih x1 x2 x4 x5 x6 σ H locs ls h hP hD hS hl
set_option maxHeartbeats 4000000 in
set_option maxRecDepth 100000 in
theorem t_X12_ringBut_0 (C0 : zCx p s m meth c args RX12 cX12_ringBut 7 (some .long) vs_X12_ringBut) (hK : va_K (dC, dI) vwCl (m_ty cI cJ cC) s) (N : Nat) {Q : Int64 → zSt → Prop} : ∀ (x1 : Int32) (σ : zSt) (H : Heap) (locs : List Loc) (ls : Array Slot), w_X12_ringBut N x1 σ Q → va_P (dC, dI) vwCl (m_W ad cI cJ cC σ) H → va_D (zAW m_n ad s.heap.size) (m_W ad cI cJ cC σ) → va_S (zAW m_n ad s.heap.size) s.heap H locs → lv_has ls 7 [(0, .ref (ad 0)), (1, .int x1)] → W p l e rm_X12_ringBut s m args below meth c H locs 0 0 (MQ below (zQl (dC, dI) (m_ty cI cJ cC) (m_W ad cI cJ cC) (zAW m_n ad s.heap.size) Q) args s 0 0 (zAW m_n ad s.heap.size)) (F0 m 0 ls []) := by
  obtain ⟨hx, hb, hml, hr, hown, hts, hlocks⟩ := id C0
  intro x1 σ H locs ls h hP hD hS hl
  unfold w_X12_ringBut at h
  refine lv_lconst (v := (0 : Int64)) hx hb dX12_ringBut_0 (by decide) ?_
  refine lv_lstore_n (lv' := [(2, .long (0 : Int64)), (0, .ref (ad 0)), (1, .int x1)]) hx hb dX12_ringBut_1 rfl hl (by decide) rfl (fun ls hl => ?_)
  refine lv_iconst (v := (-1 : Int32)) hx hb dX12_ringBut_2 (by decide) ?_
  refine lv_istore (lv' := [(4, .int (-1 : Int32)), (2, .long (0 : Int64)), (0, .ref (ad 0)), (1, .int x1)]) hx hb dX12_ringBut_3 hl (by decide) rfl (fun ls hl => ?_)
  refine lv_iconst (v := (-1 : Int32)) hx hb dX12_ringBut_5 (by decide) ?_
  refine lv_istore (lv' := [(5, .int (-1 : Int32)), (4, .int (-1 : Int32)), (2, .long (0 : Int64)), (0, .ref (ad 0)), (1, .int x1)]) hx hb dX12_ringBut_6 hl (by decide) rfl (fun ls hl => ?_)
  refine lv_iconst (v := (0 : Int32)) hx hb dX12_ringBut_8 (by decide) ?_
  refine lv_istore (lv' := [(6, .int (0 : Int32)), (5, .int (-1 : Int32)), (4, .int (-1 : Int32)), (2, .long (0 : Int64)), (0, .ref (ad 0)), (1, .int x1)]) hx hb dX12_ringBut_9 hl (by decide) rfl (fun ls hl => ?_)
  exact t_X12_ringBut_11 C0 hK N  N x1 (0 : Int64) (-1 : Int32) (-1 : Int32) (0 : Int32) σ _ _ _ h hP hD hS (lv_sub hl [4, 5, 3, 2, 1, 0] rfl)
set_option maxHeartbeats 4000000 in
set_option maxRecDepth 100000 in
theorem c_X12_ringBut (N : Nat) (l : Launch) (dC : Nat → ClassId) (dI : Nat → Nat → Nat) (ad : Nat → Nat) (cI cJ cC : ClassId) (sz : Nat) (σ : zSt) (x1 : Int32) (Q : Int64 → zSt → Prop) (h : w_X12_ringBut N x1 σ Q) : Met l yX12_ringBut vs_X12_ringBut rm_X12_ringBut (va_Pc [.ref (ad 0), .int x1] (zPc (dC, dI) (m_ty cI cJ cC) (m_W ad cI cJ cC) sz σ)) (zQl (dC, dI) (m_ty cI cJ cC) (m_W ad cI cJ cC) (zAW m_n ad sz) Q) 0 0 (zAW m_n ad sz) := by
  refine Met.ofW (cc := cX12_ringBut) (maxL := 7) (ret := (some .long)) (by decide) rfl ?_
  intro p e s m args below meth c s₁ B hml hv
  obtain ⟨rfl, hsz, hP, hK, hD0⟩ := hv
  subst hsz
  have C0 : zCx p s m meth c _ RX12 cX12_ringBut 7 (some .long) vs_X12_ringBut := ⟨B.exec, B.bytes, hml, B.returns, findClass_of_methodNamed B.named, atoms_spec (ws := vs_X12_ringBut) B.pre, B.notSynchronized⟩
  have hD := m_D0 (n0 := s.heap.size) hD0
  have hl := lv_entry ([.ref (ad 0), .int x1]) (n := 7) (Nat.le_of_ble_eq_true rfl)
  rw [lg_entry_eq]
  generalize (lg_sl ([.ref (ad 0), .int x1]) ++ List.replicate (7 - (lg_sl ([.ref (ad 0), .int x1])).length) Slot.unset).toArray = ls at hl ⊢
  exact t_X12_ringBut_0 C0 hK N x1 σ _ _ ls h hP hD va_S.rf hl
theorem k_X12_ringBut (N : Nat) {R : Room} {H : Heap} {locs : List Loc} {cells slots : Nat} {Q2 : State → Prop} {cc : ByteArray} {nL pc index : Nat} {ls : Array Slot} {rest : List Value} {own : String} {c0 : Cond} {σ : zSt} {x1 : Int32} {Q : Int64 → zSt → Prop} (S0 : CallFix p m c cc nL s args (c0 :: zT) own) (hml : Cond.methodLink own index yX12_ringBut ∈ zT) (hR : rm_X12_ringBut.frames + 1 ≤ R.frames ∧ 8 + (7 + 11) + rm_X12_ringBut.locals ≤ R.locals) (h : w_X12_ringBut N x1 σ Q) (hK : va_K (dC, dI) vwCl (m_ty cI cJ cC) s) (hP : va_P (dC, dI) vwCl (m_W ad cI cJ cC σ) H) (hD : va_D (zAW m_n ad s.heap.size) (m_W ad cI cJ cC σ)) (hS : va_S (zAW m_n ad s.heap.size) s.heap H locs) (hsz : ls.size = nL) (hW : (rest.map fun v => v.category).sum ≤ 8) (hcs : cells ≤ R.cells ∧ slots ≤ R.slots) (hdg : decode cc pc = .ok (.invokevirtual index, 3)) (kk : ∀ (r : Int64) (τ : zSt) (H1 : Heap) (locs1 : List Loc), Q r τ → va_P (dC, dI) vwCl (m_W ad cI cJ cC τ) H1 → va_D (zAW m_n ad s.heap.size) (m_W ad cI cJ cC τ) → va_S (zAW m_n ad s.heap.size) s.heap H1 locs1 → W p l e R s m args below meth c H1 locs1 cells slots Q2 (F0 m (pc + 3) ls (.long r :: rest))) : W p l e R s m args below meth c H locs cells slots Q2 (F0 m pc ls (.int x1 :: .ref (ad 0) :: rest)) :=
  zcv_l (T := TX12) (N' := 83) (k := 0) (ci := 12) (fs := m_f0 ad σ) [.int x1] S0 (c_X12_ringBut N l dC dI ad cI cJ cC H.size σ x1 Q h) (cw_X12_ringBut S0.2.2.2.2 hml rfl rfl hR) rfl rfl hK hP hD hS rfl hsz hW rfl hcs hdg kk
end q19
section q19
def b_X12_shape_86 (N : Nat) (k_86 : Int32 → Int64 → Int32 → zSt → Prop) (Q : Int64 → zSt → Prop) (x3 : Int32) (x4 : Int64) (x6 : Int32) (σ : zSt) : Prop :=
  (x3 ≤ x6 → Q x4 σ) ∧ (¬ x3 ≤ x6 → w_X12_tied N (x6 - (1 : Int32)) x6 σ (fun r1 τ2 => ∀ v3 : Int64, v3 = x4 ||| r1 → ∀ v4 : Int32, v4 = x6 + (1 : Int32) → k_86 x3 v3 v4 τ2))
def w_X12_shape_86 (N : Nat) (Q : Int64 → zSt → Prop) : Nat → Int32 → Int64 → Int32 → zSt → Prop
  | 0 => fun _ _ _ _ => False
  | f + 1 => b_X12_shape_86 N (w_X12_shape_86 N  Q f) Q
def b_X12_shape_188 (N : Nat) (k_148 : Int32 → Int32 → Int64 → Int32 → zSt → Prop) (k_160 : Int32 → Int32 → Int64 → Int32 → Int32 → zSt → Prop) (Q : Int64 → zSt → Prop) (x2 : Int32) (x3 : Int32) (x4 : Int64) (x6 : Int32) (x7 : Int32) (s0 : Int32) (s1 : Int32) (σ : zSt) : Prop :=
  (s1 = s0 → w_X12_tied N x6 x7 σ (fun r2 τ3 => ∀ v4 : Int64, v4 = x4 ||| r2 → ∀ v5 : Int32, v5 = x7 + (1 : Int32) → k_160 x2 x3 v4 x6 v5 τ3)) ∧ (¬ s1 = s0 → ∀ v1 : Int32, v1 = x7 + (1 : Int32) → k_160 x2 x3 x4 x6 v1 σ)
def b_X12_shape_177 (N : Nat) (k_148 : Int32 → Int32 → Int64 → Int32 → zSt → Prop) (k_160 : Int32 → Int32 → Int64 → Int32 → Int32 → zSt → Prop) (Q : Int64 → zSt → Prop) (x2 : Int32) (x3 : Int32) (x4 : Int64) (x6 : Int32) (x7 : Int32) (s0 : Int32) (σ : zSt) : Prop :=
  (x2 ≤ x7 → b_X12_shape_188 N k_148 k_160 Q x2 x3 x4 x6 x7 (0 : Int32) s0 σ) ∧ (¬ x2 ≤ x7 → b_X12_shape_188 N k_148 k_160 Q x2 x3 x4 x6 x7 (1 : Int32) s0 σ)
def b_X12_shape_160 (N : Nat) (k_148 : Int32 → Int32 → Int64 → Int32 → zSt → Prop) (k_160 : Int32 → Int32 → Int64 → Int32 → Int32 → zSt → Prop) (Q : Int64 → zSt → Prop) (x2 : Int32) (x3 : Int32) (x4 : Int64) (x6 : Int32) (x7 : Int32) (σ : zSt) : Prop :=
  (x3 ≤ x7 → ∀ v1 : Int32, v1 = x6 + (1 : Int32) → k_148 x2 x3 x4 v1 σ) ∧ (¬ x3 ≤ x7 → (x2 ≤ x6 → b_X12_shape_177 N k_148 k_160 Q x2 x3 x4 x6 x7 (0 : Int32) σ) ∧ (¬ x2 ≤ x6 → b_X12_shape_177 N k_148 k_160 Q x2 x3 x4 x6 x7 (1 : Int32) σ))
def w_X12_shape_160 (N : Nat) (k_148 : Int32 → Int32 → Int64 → Int32 → zSt → Prop) (Q : Int64 → zSt → Prop) : Nat → Int32 → Int32 → Int64 → Int32 → Int32 → zSt → Prop
  | 0 => fun _ _ _ _ _ _ => False
  | f + 1 => b_X12_shape_160 N k_148 (w_X12_shape_160 N k_148 Q f) Q
def b_X12_shape_148 (N : Nat) (k_148 : Int32 → Int32 → Int64 → Int32 → zSt → Prop) (Q : Int64 → zSt → Prop) (x2 : Int32) (x3 : Int32) (x4 : Int64) (x6 : Int32) (σ : zSt) : Prop :=
  (x3 ≤ x6 → Q x4 σ) ∧ (¬ x3 ≤ x6 → ∀ v1 : Int32, v1 = x6 + (1 : Int32) → w_X12_shape_160 N k_148 Q N x2 x3 x4 x6 v1 σ)
def w_X12_shape_148 (N : Nat) (Q : Int64 → zSt → Prop) : Nat → Int32 → Int32 → Int64 → Int32 → zSt → Prop
  | 0 => fun _ _ _ _ _ => False
  | f + 1 => b_X12_shape_148 N (w_X12_shape_148 N  Q f) Q
def w_X12_shape (N : Nat) (x1 : Int32) (x2 : Int32) (σ : zSt) (Q : Int64 → zSt → Prop) : Prop :=
  w_X12_many N σ (fun r1 τ2 => (x1 = (0 : Int32) → Q (0 : Int64) τ2) ∧ (¬ x1 = (0 : Int32) → (x1 = (1 : Int32) → w_X12_pairs N τ2 (fun r3 τ4 => Q (((1 : Int64) <<< (r3.toInt64 &&& 63)) - (1 : Int64)) τ4)) ∧ (¬ x1 = (1 : Int32) → (x1 = (2 : Int32) → w_X12_isPerson N x2 τ2 (fun r5 τ6 => (r5 = 0 → Q (-1 : Int64) τ6) ∧ (¬ r5 = 0 → w_X12_star N x2 τ6 (fun r7 τ8 => Q r7 τ8)))) ∧ (¬ x1 = (2 : Int32) → (x1 = (3 : Int32) → w_X12_shape_86 N Q N r1 (0 : Int64) (1 : Int32) τ2) ∧ (¬ x1 = (3 : Int32) → (x1 = (4 : Int32) → ((3 : Int32) ≤ r1 → w_X12_ringBut N (-1 : Int32) τ2 (fun r9 τ10 => Q r9 τ10)) ∧ (¬ (3 : Int32) ≤ r1 → Q (-1 : Int64) τ2)) ∧ (¬ x1 = (4 : Int32) → (x1 = (5 : Int32) → w_X12_isPerson N x2 τ2 (fun r11 τ12 => (r11 = 0 → Q (-1 : Int64) τ12) ∧ (¬ r11 = 0 → w_X12_shape_148 N Q N x2 r1 (0 : Int64) (0 : Int32) τ12))) ∧ (¬ x1 = (5 : Int32) → (x1 = (6 : Int32) → w_X12_isPerson N x2 τ2 (fun r13 τ14 => (r13 = 0 → Q (-1 : Int64) τ14) ∧ (¬ r13 = 0 → ((4 : Int32) ≤ r1 → w_X12_ringBut N x2 τ14 (fun r15 τ16 => w_X12_star N x2 τ16 (fun r17 τ18 => Q (r15 ||| r17) τ18))) ∧ (¬ (4 : Int32) ≤ r1 → Q (-1 : Int64) τ14)))) ∧ (¬ x1 = (6 : Int32) → Q (-1 : Int64) τ2))))))))
variable {p : Program} {l : Launch} {e : Env} {s : State} {m : MethodId} {args : Array Value} {below : List Frame} {meth : Method} {c : Code} {dC : Nat → ClassId} {dI : Nat → Nat → Nat} {ad : Nat → Nat} {cI cJ cC : ClassId}
set_option maxHeartbeats 4000000 in
set_option maxRecDepth 100000 in
theorem tb_X12_shape_86 (C0 : zCx p s m meth c args RX12 cX12_shape 8 (some .long) vs_X12_shape) (hK : va_K (dC, dI) vwCl (m_ty cI cJ cC) s) (N : Nat) {Q : Int64 → zSt → Prop} {k_86 : Int32 → Int64 → Int32 → zSt → Prop} (hk_86 : ∀ (x3 : Int32) (x4 : Int64) (x6 : Int32) (σ : zSt) (H : Heap) (locs : List Loc) (ls : Array Slot), k_86 x3 x4 x6 σ → va_P (dC, dI) vwCl (m_W ad cI cJ cC σ) H → va_D (zAW m_n ad s.heap.size) (m_W ad cI cJ cC σ) → va_S (zAW m_n ad s.heap.size) s.heap H locs → lv_has ls 8 [(0, .ref (ad 0)), (3, .int x3), (4, .long x4), (6, .int x6)] → W p l e rm_X12_shape s m args below meth c H locs 0 0 (MQ below (zQl (dC, dI) (m_ty cI cJ cC) (m_W ad cI cJ cC) (zAW m_n ad s.heap.size) Q) args s 0 0 (zAW m_n ad s.heap.size)) (F0 m 86 ls [])) : ∀ (x3 : Int32) (x4 : Int64) (x6 : Int32) (σ : zSt) (H : Heap) (locs : List Loc) (ls : Array Slot), b_X12_shape_86 N k_86 Q x3 x4 x6 σ → va_P (dC, dI) vwCl (m_W ad cI cJ cC σ) H → va_D (zAW m_n ad s.heap.size) (m_W ad cI cJ cC σ) → va_S (zAW m_n ad s.heap.size) s.heap H locs → lv_has ls 8 [(0, .ref (ad 0)), (3, .int x3), (4, .long x4), (6, .int x6)] → W p l e rm_X12_shape s m args below meth c H locs 0 0 (MQ below (zQl (dC, dI) (m_ty cI cJ cC) (m_W ad cI cJ cC) (zAW m_n ad s.heap.size) Q) args s 0 0 (zAW m_n ad s.heap.size)) (F0 m 86 ls []) := by
  obtain ⟨hx, hb, hml, hr, hown, hts, hlocks⟩ := id C0
  intro x3 x4 x6 σ H locs ls h hP hD hS hl
  unfold b_X12_shape_86 at h
  refine lv_iload hx hb dX12_shape_86 (lv_at hl 3 rfl) ?_
  refine lv_iload_n hx hb dX12_shape_88 rfl (lv_at hl 1 rfl) ?_
  refine lv_icmp_ge (tgt := 113) hx hb dX12_shape_89 (by decide) (fun hc => ?_) (fun hc => ?_)
  · have h := h.1 hc
    refine lv_lload hx hb dX12_shape_113 (lv_at hl 2 rfl) ?_
    exact zret_l hx hb hr hlocks hK hP hD hS h dX12_shape_115
  · have h := h.2 hc
    refine lv_lload hx hb dX12_shape_92 (lv_at hl 2 rfl) ?_
    refine lv_aload_n hx hb dX12_shape_94 rfl (lv_at hl 0 rfl) ?_
    refine lv_iload hx hb dX12_shape_95 (lv_at hl 3 rfl) ?_
    refine lv_iconst (v := (1 : Int32)) hx hb dX12_shape_97 (by decide) ?_
    refine lv_isub hx hb dX12_shape_98 ?_
    refine lv_iload hx hb dX12_shape_99 (lv_at hl 3 rfl) ?_
    refine k_X12_tied N ⟨hx, hb, hml, hown, hts⟩ mw_1085 ⟨Nat.le_of_ble_eq_true rfl, Nat.le_of_ble_eq_true rfl⟩ h hK hP hD hS hl.1 (rest := [.long x4]) (Nat.le_of_ble_eq_true rfl) ⟨Nat.le_of_ble_eq_true rfl, Nat.le_of_ble_eq_true rfl⟩ dX12_shape_101 (fun r1 τ2 H locs h hP hD hS => ?_)
    refine lv_lor hx hb dX12_shape_104 ?_
    refine lv_topl (fun v3 ev3 => ?_)
    have h := h v3 ev3
    refine lv_lstore (lv' := [(4, .long v3), (0, .ref (ad 0)), (3, .int x3), (6, .int x6)]) hx hb dX12_shape_105 hl (by decide) rfl (fun ls hl => ?_)
    obtain ⟨v4, ev4⟩ : ∃ z : Int32, z = x6 + (1 : Int32) := ⟨_, rfl⟩
    have h := h v4 ev4
    refine lv_iinc (v := v4) (lv' := [(6, .int v4), (4, .long v3), (0, .ref (ad 0)), (3, .int x3)]) hx hb dX12_shape_107 hl (k := 3) rfl (by rw [ev4]; rfl) (by decide) rfl (fun ls hl => ?_)
    refine lv_goto (tgt := 86) hx hb dX12_shape_110 (by decide) ?_
    exact hk_86 x3 v3 v4 τ2 _ _ _ h hP hD hS (lv_sub hl [2, 3, 1, 0] rfl)
set_option maxHeartbeats 4000000 in
set_option maxRecDepth 100000 in
theorem t_X12_shape_86 (C0 : zCx p s m meth c args RX12 cX12_shape 8 (some .long) vs_X12_shape) (hK : va_K (dC, dI) vwCl (m_ty cI cJ cC) s) (N : Nat) {Q : Int64 → zSt → Prop} : ∀ (f : Nat) (x3 : Int32) (x4 : Int64) (x6 : Int32) (σ : zSt) (H : Heap) (locs : List Loc) (ls : Array Slot), w_X12_shape_86 N  Q f x3 x4 x6 σ → va_P (dC, dI) vwCl (m_W ad cI cJ cC σ) H → va_D (zAW m_n ad s.heap.size) (m_W ad cI cJ cC σ) → va_S (zAW m_n ad s.heap.size) s.heap H locs → lv_has ls 8 [(0, .ref (ad 0)), (3, .int x3), (4, .long x4), (6, .int x6)] → W p l e rm_X12_shape s m args below meth c H locs 0 0 (MQ below (zQl (dC, dI) (m_ty cI cJ cC) (m_W ad cI cJ cC) (zAW m_n ad s.heap.size) Q) args s 0 0 (zAW m_n ad s.heap.size)) (F0 m 86 ls []) := by
  intro f
  induction f with
  | zero => intro x3 x4 x6 σ H locs ls h; exact h.elim
  | succ f ih =>
    intro x3 x4 x6 σ H locs ls h hP hD hS hl
    exact tb_X12_shape_86 C0 hK N  (k_86 := w_X12_shape_86 N  Q f) ih x3 x4 x6 σ H locs ls h hP hD hS hl
set_option maxHeartbeats 4000000 in
set_option maxRecDepth 100000 in
theorem t_X12_shape_188 (C0 : zCx p s m meth c args RX12 cX12_shape 8 (some .long) vs_X12_shape) (hK : va_K (dC, dI) vwCl (m_ty cI cJ cC) s) (N : Nat) {Q : Int64 → zSt → Prop} {k_148 : Int32 → Int32 → Int64 → Int32 → zSt → Prop} (hk_148 : ∀ (x2 : Int32) (x3 : Int32) (x4 : Int64) (x6 : Int32) (σ : zSt) (H : Heap) (locs : List Loc) (ls : Array Slot), k_148 x2 x3 x4 x6 σ → va_P (dC, dI) vwCl (m_W ad cI cJ cC σ) H → va_D (zAW m_n ad s.heap.size) (m_W ad cI cJ cC σ) → va_S (zAW m_n ad s.heap.size) s.heap H locs → lv_has ls 8 [(0, .ref (ad 0)), (2, .int x2), (3, .int x3), (4, .long x4), (6, .int x6)] → W p l e rm_X12_shape s m args below meth c H locs 0 0 (MQ below (zQl (dC, dI) (m_ty cI cJ cC) (m_W ad cI cJ cC) (zAW m_n ad s.heap.size) Q) args s 0 0 (zAW m_n ad s.heap.size)) (F0 m 148 ls [])) {k_160 : Int32 → Int32 → Int64 → Int32 → Int32 → zSt → Prop} (hk_160 : ∀ (x2 : Int32) (x3 : Int32) (x4 : Int64) (x6 : Int32) (x7 : Int32) (σ : zSt) (H : Heap) (locs : List Loc) (ls : Array Slot), k_160 x2 x3 x4 x6 x7 σ → va_P (dC, dI) vwCl (m_W ad cI cJ cC σ) H → va_D (zAW m_n ad s.heap.size) (m_W ad cI cJ cC σ) → va_S (zAW m_n ad s.heap.size) s.heap H locs → lv_has ls 8 [(0, .ref (ad 0)), (2, .int x2), (3, .int x3), (4, .long x4), (6, .int x6), (7, .int x7)] → W p l e rm_X12_shape s m args below meth c H locs 0 0 (MQ below (zQl (dC, dI) (m_ty cI cJ cC) (m_W ad cI cJ cC) (zAW m_n ad s.heap.size) Q) args s 0 0 (zAW m_n ad s.heap.size)) (F0 m 160 ls [])) : ∀ (x2 : Int32) (x3 : Int32) (x4 : Int64) (x6 : Int32) (x7 : Int32) (s0 : Int32) (s1 : Int32) (σ : zSt) (H : Heap) (locs : List Loc) (ls : Array Slot), b_X12_shape_188 N k_148 k_160 Q x2 x3 x4 x6 x7 s0 s1 σ → va_P (dC, dI) vwCl (m_W ad cI cJ cC σ) H → va_D (zAW m_n ad s.heap.size) (m_W ad cI cJ cC σ) → va_S (zAW m_n ad s.heap.size) s.heap H locs → lv_has ls 8 [(0, .ref (ad 0)), (2, .int x2), (3, .int x3), (4, .long x4), (6, .int x6), (7, .int x7)] → W p l e rm_X12_shape s m args below meth c H locs 0 0 (MQ below (zQl (dC, dI) (m_ty cI cJ cC) (m_W ad cI cJ cC) (zAW m_n ad s.heap.size) Q) args s 0 0 (zAW m_n ad s.heap.size)) (F0 m 188 ls [.int s0, .int s1]) := by
  obtain ⟨hx, hb, hml, hr, hown, hts, hlocks⟩ := id C0
  intro x2 x3 x4 x6 x7 s0 s1 σ H locs ls h hP hD hS hl
  unfold b_X12_shape_188 at h
  refine lv_icmp_ne (tgt := 204) hx hb dX12_shape_188 (by decide) (fun hc => ?_) (fun hc => ?_)
  · have h := h.2 hc
    obtain ⟨v1, ev1⟩ : ∃ z : Int32, z = x7 + (1 : Int32) := ⟨_, rfl⟩
    have h := h v1 ev1
    refine lv_iinc (v := v1) (lv' := [(7, .int v1), (0, .ref (ad 0)), (2, .int x2), (3, .int x3), (4, .long x4), (6, .int x6)]) hx hb dX12_shape_204 hl (k := 5) rfl (by rw [ev1]; rfl) (by decide) rfl (fun ls hl => ?_)
    refine lv_goto (tgt := 160) hx hb dX12_shape_207 (by decide) ?_
    exact hk_160 x2 x3 x4 x6 v1 σ _ _ _ h hP hD hS (lv_sub hl [1, 2, 3, 4, 5, 0] rfl)
  · have h := h.1 hc
    refine lv_lload hx hb dX12_shape_191 (lv_at hl 3 rfl) ?_
    refine lv_aload_n hx hb dX12_shape_193 rfl (lv_at hl 0 rfl) ?_
    refine lv_iload hx hb dX12_shape_194 (lv_at hl 4 rfl) ?_
    refine lv_iload hx hb dX12_shape_196 (lv_at hl 5 rfl) ?_
    refine k_X12_tied N ⟨hx, hb, hml, hown, hts⟩ mw_1085 ⟨Nat.le_of_ble_eq_true rfl, Nat.le_of_ble_eq_true rfl⟩ h hK hP hD hS hl.1 (rest := [.long x4]) (Nat.le_of_ble_eq_true rfl) ⟨Nat.le_of_ble_eq_true rfl, Nat.le_of_ble_eq_true rfl⟩ dX12_shape_198 (fun r2 τ3 H locs h hP hD hS => ?_)
    refine lv_lor hx hb dX12_shape_201 ?_
    refine lv_topl (fun v4 ev4 => ?_)
    have h := h v4 ev4
    refine lv_lstore (lv' := [(4, .long v4), (0, .ref (ad 0)), (2, .int x2), (3, .int x3), (6, .int x6), (7, .int x7)]) hx hb dX12_shape_202 hl (by decide) rfl (fun ls hl => ?_)
    obtain ⟨v5, ev5⟩ : ∃ z : Int32, z = x7 + (1 : Int32) := ⟨_, rfl⟩
    have h := h v5 ev5
    refine lv_iinc (v := v5) (lv' := [(7, .int v5), (4, .long v4), (0, .ref (ad 0)), (2, .int x2), (3, .int x3), (6, .int x6)]) hx hb dX12_shape_204 hl (k := 5) rfl (by rw [ev5]; rfl) (by decide) rfl (fun ls hl => ?_)
    refine lv_goto (tgt := 160) hx hb dX12_shape_207 (by decide) ?_
    exact hk_160 x2 x3 v4 x6 v5 τ3 _ _ _ h hP hD hS (lv_sub hl [2, 3, 4, 1, 5, 0] rfl)
set_option maxHeartbeats 4000000 in
set_option maxRecDepth 100000 in
theorem t_X12_shape_177 (C0 : zCx p s m meth c args RX12 cX12_shape 8 (some .long) vs_X12_shape) (hK : va_K (dC, dI) vwCl (m_ty cI cJ cC) s) (N : Nat) {Q : Int64 → zSt → Prop} {k_148 : Int32 → Int32 → Int64 → Int32 → zSt → Prop} (hk_148 : ∀ (x2 : Int32) (x3 : Int32) (x4 : Int64) (x6 : Int32) (σ : zSt) (H : Heap) (locs : List Loc) (ls : Array Slot), k_148 x2 x3 x4 x6 σ → va_P (dC, dI) vwCl (m_W ad cI cJ cC σ) H → va_D (zAW m_n ad s.heap.size) (m_W ad cI cJ cC σ) → va_S (zAW m_n ad s.heap.size) s.heap H locs → lv_has ls 8 [(0, .ref (ad 0)), (2, .int x2), (3, .int x3), (4, .long x4), (6, .int x6)] → W p l e rm_X12_shape s m args below meth c H locs 0 0 (MQ below (zQl (dC, dI) (m_ty cI cJ cC) (m_W ad cI cJ cC) (zAW m_n ad s.heap.size) Q) args s 0 0 (zAW m_n ad s.heap.size)) (F0 m 148 ls [])) {k_160 : Int32 → Int32 → Int64 → Int32 → Int32 → zSt → Prop} (hk_160 : ∀ (x2 : Int32) (x3 : Int32) (x4 : Int64) (x6 : Int32) (x7 : Int32) (σ : zSt) (H : Heap) (locs : List Loc) (ls : Array Slot), k_160 x2 x3 x4 x6 x7 σ → va_P (dC, dI) vwCl (m_W ad cI cJ cC σ) H → va_D (zAW m_n ad s.heap.size) (m_W ad cI cJ cC σ) → va_S (zAW m_n ad s.heap.size) s.heap H locs → lv_has ls 8 [(0, .ref (ad 0)), (2, .int x2), (3, .int x3), (4, .long x4), (6, .int x6), (7, .int x7)] → W p l e rm_X12_shape s m args below meth c H locs 0 0 (MQ below (zQl (dC, dI) (m_ty cI cJ cC) (m_W ad cI cJ cC) (zAW m_n ad s.heap.size) Q) args s 0 0 (zAW m_n ad s.heap.size)) (F0 m 160 ls [])) : ∀ (x2 : Int32) (x3 : Int32) (x4 : Int64) (x6 : Int32) (x7 : Int32) (s0 : Int32) (σ : zSt) (H : Heap) (locs : List Loc) (ls : Array Slot), b_X12_shape_177 N k_148 k_160 Q x2 x3 x4 x6 x7 s0 σ → va_P (dC, dI) vwCl (m_W ad cI cJ cC σ) H → va_D (zAW m_n ad s.heap.size) (m_W ad cI cJ cC σ) → va_S (zAW m_n ad s.heap.size) s.heap H locs → lv_has ls 8 [(0, .ref (ad 0)), (2, .int x2), (3, .int x3), (4, .long x4), (6, .int x6), (7, .int x7)] → W p l e rm_X12_shape s m args below meth c H locs 0 0 (MQ below (zQl (dC, dI) (m_ty cI cJ cC) (m_W ad cI cJ cC) (zAW m_n ad s.heap.size) Q) args s 0 0 (zAW m_n ad s.heap.size)) (F0 m 177 ls [.int s0]) := by
  obtain ⟨hx, hb, hml, hr, hown, hts, hlocks⟩ := id C0
  intro x2 x3 x4 x6 x7 s0 σ H locs ls h hP hD hS hl
  unfold b_X12_shape_177 at h
  refine lv_iload hx hb dX12_shape_177 (lv_at hl 5 rfl) ?_
  refine lv_iload_n hx hb dX12_shape_179 rfl (lv_at hl 1 rfl) ?_
  refine lv_icmp_ge (tgt := 187) hx hb dX12_shape_180 (by decide) (fun hc => ?_) (fun hc => ?_)
  · have h := h.1 hc
    refine lv_iconst (v := (0 : Int32)) hx hb dX12_shape_187 (by decide) ?_
    exact t_X12_shape_188 C0 hK N hk_148 hk_160 x2 x3 x4 x6 x7 (0 : Int32) s0 σ _ _ _ h hP hD hS (lv_sub hl [0, 1, 2, 3, 4, 5] rfl)
  · have h := h.2 hc
    refine lv_iconst (v := (1 : Int32)) hx hb dX12_shape_183 (by decide) ?_
    refine lv_goto (tgt := 188) hx hb dX12_shape_184 (by decide) ?_
    exact t_X12_shape_188 C0 hK N hk_148 hk_160 x2 x3 x4 x6 x7 (1 : Int32) s0 σ _ _ _ h hP hD hS (lv_sub hl [0, 1, 2, 3, 4, 5] rfl)
set_option maxHeartbeats 4000000 in
set_option maxRecDepth 100000 in
theorem tb_X12_shape_160 (C0 : zCx p s m meth c args RX12 cX12_shape 8 (some .long) vs_X12_shape) (hK : va_K (dC, dI) vwCl (m_ty cI cJ cC) s) (N : Nat) {Q : Int64 → zSt → Prop} {k_148 : Int32 → Int32 → Int64 → Int32 → zSt → Prop} (hk_148 : ∀ (x2 : Int32) (x3 : Int32) (x4 : Int64) (x6 : Int32) (σ : zSt) (H : Heap) (locs : List Loc) (ls : Array Slot), k_148 x2 x3 x4 x6 σ → va_P (dC, dI) vwCl (m_W ad cI cJ cC σ) H → va_D (zAW m_n ad s.heap.size) (m_W ad cI cJ cC σ) → va_S (zAW m_n ad s.heap.size) s.heap H locs → lv_has ls 8 [(0, .ref (ad 0)), (2, .int x2), (3, .int x3), (4, .long x4), (6, .int x6)] → W p l e rm_X12_shape s m args below meth c H locs 0 0 (MQ below (zQl (dC, dI) (m_ty cI cJ cC) (m_W ad cI cJ cC) (zAW m_n ad s.heap.size) Q) args s 0 0 (zAW m_n ad s.heap.size)) (F0 m 148 ls [])) {k_160 : Int32 → Int32 → Int64 → Int32 → Int32 → zSt → Prop} (hk_160 : ∀ (x2 : Int32) (x3 : Int32) (x4 : Int64) (x6 : Int32) (x7 : Int32) (σ : zSt) (H : Heap) (locs : List Loc) (ls : Array Slot), k_160 x2 x3 x4 x6 x7 σ → va_P (dC, dI) vwCl (m_W ad cI cJ cC σ) H → va_D (zAW m_n ad s.heap.size) (m_W ad cI cJ cC σ) → va_S (zAW m_n ad s.heap.size) s.heap H locs → lv_has ls 8 [(0, .ref (ad 0)), (2, .int x2), (3, .int x3), (4, .long x4), (6, .int x6), (7, .int x7)] → W p l e rm_X12_shape s m args below meth c H locs 0 0 (MQ below (zQl (dC, dI) (m_ty cI cJ cC) (m_W ad cI cJ cC) (zAW m_n ad s.heap.size) Q) args s 0 0 (zAW m_n ad s.heap.size)) (F0 m 160 ls [])) : ∀ (x2 : Int32) (x3 : Int32) (x4 : Int64) (x6 : Int32) (x7 : Int32) (σ : zSt) (H : Heap) (locs : List Loc) (ls : Array Slot), b_X12_shape_160 N k_148 k_160 Q x2 x3 x4 x6 x7 σ → va_P (dC, dI) vwCl (m_W ad cI cJ cC σ) H → va_D (zAW m_n ad s.heap.size) (m_W ad cI cJ cC σ) → va_S (zAW m_n ad s.heap.size) s.heap H locs → lv_has ls 8 [(0, .ref (ad 0)), (2, .int x2), (3, .int x3), (4, .long x4), (6, .int x6), (7, .int x7)] → W p l e rm_X12_shape s m args below meth c H locs 0 0 (MQ below (zQl (dC, dI) (m_ty cI cJ cC) (m_W ad cI cJ cC) (zAW m_n ad s.heap.size) Q) args s 0 0 (zAW m_n ad s.heap.size)) (F0 m 160 ls []) := by
  obtain ⟨hx, hb, hml, hr, hown, hts, hlocks⟩ := id C0
  intro x2 x3 x4 x6 x7 σ H locs ls h hP hD hS hl
  unfold b_X12_shape_160 at h
  refine lv_iload hx hb dX12_shape_160 (lv_at hl 5 rfl) ?_
  refine lv_iload_n hx hb dX12_shape_162 rfl (lv_at hl 2 rfl) ?_
  refine lv_icmp_ge (tgt := 210) hx hb dX12_shape_163 (by decide) (fun hc => ?_) (fun hc => ?_)
  · have h := h.1 hc
    obtain ⟨v1, ev1⟩ : ∃ z : Int32, z = x6 + (1 : Int32) := ⟨_, rfl⟩
    have h := h v1 ev1
    refine lv_iinc (v := v1) (lv' := [(6, .int v1), (0, .ref (ad 0)), (2, .int x2), (3, .int x3), (4, .long x4), (7, .int x7)]) hx hb dX12_shape_210 hl (k := 4) rfl (by rw [ev1]; rfl) (by decide) rfl (fun ls hl => ?_)
    refine lv_goto (tgt := 148) hx hb dX12_shape_213 (by decide) ?_
    exact hk_148 x2 x3 x4 v1 σ _ _ _ h hP hD hS (lv_sub hl [1, 2, 3, 4, 0] rfl)
  · have h := h.2 hc
    refine lv_iload hx hb dX12_shape_166 (lv_at hl 4 rfl) ?_
    refine lv_iload_n hx hb dX12_shape_168 rfl (lv_at hl 1 rfl) ?_
    refine lv_icmp_ge (tgt := 176) hx hb dX12_shape_169 (by decide) (fun hc => ?_) (fun hc => ?_)
    · have h := h.1 hc
      refine lv_iconst (v := (0 : Int32)) hx hb dX12_shape_176 (by decide) ?_
      exact t_X12_shape_177 C0 hK N hk_148 hk_160 x2 x3 x4 x6 x7 (0 : Int32) σ _ _ _ h hP hD hS (lv_sub hl [0, 1, 2, 3, 4, 5] rfl)
    · have h := h.2 hc
      refine lv_iconst (v := (1 : Int32)) hx hb dX12_shape_172 (by decide) ?_
      refine lv_goto (tgt := 177) hx hb dX12_shape_173 (by decide) ?_
      exact t_X12_shape_177 C0 hK N hk_148 hk_160 x2 x3 x4 x6 x7 (1 : Int32) σ _ _ _ h hP hD hS (lv_sub hl [0, 1, 2, 3, 4, 5] rfl)
set_option maxHeartbeats 4000000 in
set_option maxRecDepth 100000 in
theorem t_X12_shape_160 (C0 : zCx p s m meth c args RX12 cX12_shape 8 (some .long) vs_X12_shape) (hK : va_K (dC, dI) vwCl (m_ty cI cJ cC) s) (N : Nat) {Q : Int64 → zSt → Prop} {k_148 : Int32 → Int32 → Int64 → Int32 → zSt → Prop} (hk_148 : ∀ (x2 : Int32) (x3 : Int32) (x4 : Int64) (x6 : Int32) (σ : zSt) (H : Heap) (locs : List Loc) (ls : Array Slot), k_148 x2 x3 x4 x6 σ → va_P (dC, dI) vwCl (m_W ad cI cJ cC σ) H → va_D (zAW m_n ad s.heap.size) (m_W ad cI cJ cC σ) → va_S (zAW m_n ad s.heap.size) s.heap H locs → lv_has ls 8 [(0, .ref (ad 0)), (2, .int x2), (3, .int x3), (4, .long x4), (6, .int x6)] → W p l e rm_X12_shape s m args below meth c H locs 0 0 (MQ below (zQl (dC, dI) (m_ty cI cJ cC) (m_W ad cI cJ cC) (zAW m_n ad s.heap.size) Q) args s 0 0 (zAW m_n ad s.heap.size)) (F0 m 148 ls [])) : ∀ (f : Nat) (x2 : Int32) (x3 : Int32) (x4 : Int64) (x6 : Int32) (x7 : Int32) (σ : zSt) (H : Heap) (locs : List Loc) (ls : Array Slot), w_X12_shape_160 N k_148 Q f x2 x3 x4 x6 x7 σ → va_P (dC, dI) vwCl (m_W ad cI cJ cC σ) H → va_D (zAW m_n ad s.heap.size) (m_W ad cI cJ cC σ) → va_S (zAW m_n ad s.heap.size) s.heap H locs → lv_has ls 8 [(0, .ref (ad 0)), (2, .int x2), (3, .int x3), (4, .long x4), (6, .int x6), (7, .int x7)] → W p l e rm_X12_shape s m args below meth c H locs 0 0 (MQ below (zQl (dC, dI) (m_ty cI cJ cC) (m_W ad cI cJ cC) (zAW m_n ad s.heap.size) Q) args s 0 0 (zAW m_n ad s.heap.size)) (F0 m 160 ls []) := by
  intro f
  induction f with
  | zero => intro x2 x3 x4 x6 x7 σ H locs ls h; exact h.elim
  | succ f ih =>
    intro x2 x3 x4 x6 x7 σ H locs ls h hP hD hS hl
    exact tb_X12_shape_160 C0 hK N hk_148 (k_160 := w_X12_shape_160 N k_148 Q f) ih x2 x3 x4 x6 x7 σ H locs ls h hP hD hS hl
set_option maxHeartbeats 4000000 in
set_option maxRecDepth 100000 in
theorem tb_X12_shape_148 (C0 : zCx p s m meth c args RX12 cX12_shape 8 (some .long) vs_X12_shape) (hK : va_K (dC, dI) vwCl (m_ty cI cJ cC) s) (N : Nat) {Q : Int64 → zSt → Prop} {k_148 : Int32 → Int32 → Int64 → Int32 → zSt → Prop} (hk_148 : ∀ (x2 : Int32) (x3 : Int32) (x4 : Int64) (x6 : Int32) (σ : zSt) (H : Heap) (locs : List Loc) (ls : Array Slot), k_148 x2 x3 x4 x6 σ → va_P (dC, dI) vwCl (m_W ad cI cJ cC σ) H → va_D (zAW m_n ad s.heap.size) (m_W ad cI cJ cC σ) → va_S (zAW m_n ad s.heap.size) s.heap H locs → lv_has ls 8 [(0, .ref (ad 0)), (2, .int x2), (3, .int x3), (4, .long x4), (6, .int x6)] → W p l e rm_X12_shape s m args below meth c H locs 0 0 (MQ below (zQl (dC, dI) (m_ty cI cJ cC) (m_W ad cI cJ cC) (zAW m_n ad s.heap.size) Q) args s 0 0 (zAW m_n ad s.heap.size)) (F0 m 148 ls [])) : ∀ (x2 : Int32) (x3 : Int32) (x4 : Int64) (x6 : Int32) (σ : zSt) (H : Heap) (locs : List Loc) (ls : Array Slot), b_X12_shape_148 N k_148 Q x2 x3 x4 x6 σ → va_P (dC, dI) vwCl (m_W ad cI cJ cC σ) H → va_D (zAW m_n ad s.heap.size) (m_W ad cI cJ cC σ) → va_S (zAW m_n ad s.heap.size) s.heap H locs → lv_has ls 8 [(0, .ref (ad 0)), (2, .int x2), (3, .int x3), (4, .long x4), (6, .int x6)] → W p l e rm_X12_shape s m args below meth c H locs 0 0 (MQ below (zQl (dC, dI) (m_ty cI cJ cC) (m_W ad cI cJ cC) (zAW m_n ad s.heap.size) Q) args s 0 0 (zAW m_n ad s.heap.size)) (F0 m 148 ls []) := by
  obtain ⟨hx, hb, hml, hr, hown, hts, hlocks⟩ := id C0
  intro x2 x3 x4 x6 σ H locs ls h hP hD hS hl
  unfold b_X12_shape_148 at h
  refine lv_iload hx hb dX12_shape_148 (lv_at hl 4 rfl) ?_
  refine lv_iload_n hx hb dX12_shape_150 rfl (lv_at hl 2 rfl) ?_
  refine lv_icmp_ge (tgt := 216) hx hb dX12_shape_151 (by decide) (fun hc => ?_) (fun hc => ?_)
  · have h := h.1 hc
    refine lv_lload hx hb dX12_shape_216 (lv_at hl 3 rfl) ?_
    exact zret_l hx hb hr hlocks hK hP hD hS h dX12_shape_218
  · have h := h.2 hc
    refine lv_iload hx hb dX12_shape_154 (lv_at hl 4 rfl) ?_
    refine lv_iconst (v := (1 : Int32)) hx hb dX12_shape_156 (by decide) ?_
    refine lv_iadd hx hb dX12_shape_157 ?_
    refine lv_topi (fun v1 ev1 => ?_)
    have h := h v1 ev1
    refine lv_istore (lv' := [(7, .int v1), (0, .ref (ad 0)), (2, .int x2), (3, .int x3), (4, .long x4), (6, .int x6)]) hx hb dX12_shape_158 hl (by decide) rfl (fun ls hl => ?_)
    exact t_X12_shape_160 C0 hK N hk_148 N x2 x3 x4 x6 v1 σ _ _ _ h hP hD hS (lv_sub hl [1, 2, 3, 4, 5, 0] rfl)
set_option maxHeartbeats 4000000 in
set_option maxRecDepth 100000 in
theorem t_X12_shape_148 (C0 : zCx p s m meth c args RX12 cX12_shape 8 (some .long) vs_X12_shape) (hK : va_K (dC, dI) vwCl (m_ty cI cJ cC) s) (N : Nat) {Q : Int64 → zSt → Prop} : ∀ (f : Nat) (x2 : Int32) (x3 : Int32) (x4 : Int64) (x6 : Int32) (σ : zSt) (H : Heap) (locs : List Loc) (ls : Array Slot), w_X12_shape_148 N  Q f x2 x3 x4 x6 σ → va_P (dC, dI) vwCl (m_W ad cI cJ cC σ) H → va_D (zAW m_n ad s.heap.size) (m_W ad cI cJ cC σ) → va_S (zAW m_n ad s.heap.size) s.heap H locs → lv_has ls 8 [(0, .ref (ad 0)), (2, .int x2), (3, .int x3), (4, .long x4), (6, .int x6)] → W p l e rm_X12_shape s m args below meth c H locs 0 0 (MQ below (zQl (dC, dI) (m_ty cI cJ cC) (m_W ad cI cJ cC) (zAW m_n ad s.heap.size) Q) args s 0 0 (zAW m_n ad s.heap.size)) (F0 m 148 ls []) := by
  intro f
  induction f with
  | zero => intro x2 x3 x4 x6 σ H locs ls h; exact h.elim
  | succ f ih =>
    intro x2 x3 x4 x6 σ H locs ls h hP hD hS hl
    exact tb_X12_shape_148 C0 hK N  (k_148 := w_X12_shape_148 N  Q f) ih x2 x3 x4 x6 σ H locs ls h hP hD hS hl
set_option maxHeartbeats 4000000 in
set_option maxRecDepth 100000 in
theorem t_X12_shape_0 (C0 : zCx p s m meth c args RX12 cX12_shape 8 (some .long) vs_X12_shape) (hK : va_K (dC, dI) vwCl (m_ty cI cJ cC) s) (N : Nat) {Q : Int64 → zSt → Prop} : ∀ (x1 : Int32) (x2 : Int32) (σ : zSt) (H : Heap) (locs : List Loc) (ls : Array Slot), w_X12_shape N x1 x2 σ Q → va_P (dC, dI) vwCl (m_W ad cI cJ cC σ) H → va_D (zAW m_n ad s.heap.size) (m_W ad cI cJ cC σ) → va_S (zAW m_n ad s.heap.size) s.heap H locs → lv_has ls 8 [(0, .ref (ad 0)), (1, .int x1), (2, .int x2)] → W p l e rm_X12_shape s m args below meth c H locs 0 0 (MQ below (zQl (dC, dI) (m_ty cI cJ cC) (m_W ad cI cJ cC) (zAW m_n ad s.heap.size) Q) args s 0 0 (zAW m_n ad s.heap.size)) (F0 m 0 ls []) := by
  obtain ⟨hx, hb, hml, hr, hown, hts, hlocks⟩ := id C0
  intro x1 x2 σ H locs ls h hP hD hS hl
  unfold w_X12_shape at h
  refine lv_aload_n hx hb dX12_shape_0 rfl (lv_at hl 0 rfl) ?_
  refine k_X12_many N ⟨hx, hb, hml, hown, hts⟩ mw_1044 ⟨Nat.le_of_ble_eq_true rfl, Nat.le_of_ble_eq_true rfl⟩ h hK hP hD hS hl.1 (rest := []) (Nat.le_of_ble_eq_true rfl) ⟨Nat.le_of_ble_eq_true rfl, Nat.le_of_ble_eq_true rfl⟩ dX12_shape_1 (fun r1 τ2 H locs h hP hD hS => ?_)
  refine lv_istore_n (lv' := [(3, .int r1), (0, .ref (ad 0)), (1, .int x1), (2, .int x2)]) hx hb dX12_shape_4 rfl hl (by decide) rfl (fun ls hl => ?_)
  refine lv_lconst (v := (0 : Int64)) hx hb dX12_shape_5 (by decide) ?_
  refine lv_lstore (lv' := [(4, .long (0 : Int64)), (3, .int r1), (0, .ref (ad 0)), (1, .int x1), (2, .int x2)]) hx hb dX12_shape_6 hl (by decide) rfl (fun ls hl => ?_)
  refine lv_iload_n hx hb dX12_shape_8 rfl (lv_at hl 3 rfl) ?_
  by_cases hc0 : x1 = (0 : Int32)
  · have h := h.1 hc0
    refine lv_tableIn (off := 43) (tgt := 52) hx hb dX12_shape_9 (by rw [hc0]; decide) (by rw [hc0]; decide) (by rw [hc0]; rfl) (by decide) ?_
    refine lv_lconst (v := (0 : Int64)) hx hb dX12_shape_52 (by decide) ?_
    exact zret_l hx hb hr hlocks hK hP hD hS h dX12_shape_53
  · have hn0 := hc0
    have h := h.2 hc0
    by_cases hc1 : x1 = (1 : Int32)
    · have h := h.1 hc1
      refine lv_tableIn (off := 45) (tgt := 54) hx hb dX12_shape_9 (by rw [hc1]; decide) (by rw [hc1]; decide) (by rw [hc1]; rfl) (by decide) ?_
      refine lv_lconst (v := (1 : Int64)) hx hb dX12_shape_54 (by decide) ?_
      refine lv_aload_n hx hb dX12_shape_55 rfl (lv_at hl 2 rfl) ?_
      refine k_X12_pairs N ⟨hx, hb, hml, hown, hts⟩ mw_1047 ⟨Nat.le_of_ble_eq_true rfl, Nat.le_of_ble_eq_true rfl⟩ h hK hP hD hS hl.1 (rest := [.long (1 : Int64)]) (Nat.le_of_ble_eq_true rfl) ⟨Nat.le_of_ble_eq_true rfl, Nat.le_of_ble_eq_true rfl⟩ dX12_shape_56 (fun r3 τ4 H locs h hP hD hS => ?_)
      refine lv_lshl hx hb dX12_shape_59 rfl ?_
      refine lv_lconst (v := (1 : Int64)) hx hb dX12_shape_60 (by decide) ?_
      refine lv_lsub hx hb dX12_shape_61 ?_
      exact zret_l hx hb hr hlocks hK hP hD hS h dX12_shape_62
    · have hn1 := hc1
      have h := h.2 hc1
      by_cases hc2 : x1 = (2 : Int32)
      · have h := h.1 hc2
        refine lv_tableIn (off := 54) (tgt := 63) hx hb dX12_shape_9 (by rw [hc2]; decide) (by rw [hc2]; decide) (by rw [hc2]; rfl) (by decide) ?_
        refine lv_aload_n hx hb dX12_shape_63 rfl (lv_at hl 2 rfl) ?_
        refine lv_iload_n hx hb dX12_shape_64 rfl (lv_at hl 4 rfl) ?_
        refine k_X12_isPerson N ⟨hx, hb, hml, hown, hts⟩ mw_1057 ⟨Nat.le_of_ble_eq_true rfl, Nat.le_of_ble_eq_true rfl⟩ h hK hP hD hS hl.1 (rest := []) (Nat.le_of_ble_eq_true rfl) ⟨Nat.le_of_ble_eq_true rfl, Nat.le_of_ble_eq_true rfl⟩ dX12_shape_65 (fun r5 τ6 H locs h hP hD hS => ?_)
        refine lv_if_eq (tgt := 79) hx hb dX12_shape_68 (by decide) (fun hc => ?_) (fun hc => ?_)
        · have h := h.1 hc
          refine lv_ldc2 (v := (-1 : Int64)) hx hb hown (hts _ (List.mem_cons_of_mem _ mw_832)) dX12_shape_79 ?_
          exact zret_l hx hb hr hlocks hK hP hD hS h dX12_shape_82
        · have h := h.2 hc
          refine lv_aload_n hx hb dX12_shape_71 rfl (lv_at hl 2 rfl) ?_
          refine lv_iload_n hx hb dX12_shape_72 rfl (lv_at hl 4 rfl) ?_
          refine k_X12_star N ⟨hx, hb, hml, hown, hts⟩ mw_1082 ⟨Nat.le_of_ble_eq_true rfl, Nat.le_of_ble_eq_true rfl⟩ h hK hP hD hS hl.1 (rest := []) (Nat.le_of_ble_eq_true rfl) ⟨Nat.le_of_ble_eq_true rfl, Nat.le_of_ble_eq_true rfl⟩ dX12_shape_73 (fun r7 τ8 H locs h hP hD hS => ?_)
          refine lv_goto (tgt := 82) hx hb dX12_shape_76 (by decide) ?_
          exact zret_l hx hb hr hlocks hK hP hD hS h dX12_shape_82
      · have hn2 := hc2
        have h := h.2 hc2
        by_cases hc3 : x1 = (3 : Int32)
        · have h := h.1 hc3
          refine lv_tableIn (off := 74) (tgt := 83) hx hb dX12_shape_9 (by rw [hc3]; decide) (by rw [hc3]; decide) (by rw [hc3]; rfl) (by decide) ?_
          refine lv_iconst (v := (1 : Int32)) hx hb dX12_shape_83 (by decide) ?_
          refine lv_istore (lv' := [(6, .int (1 : Int32)), (4, .long (0 : Int64)), (3, .int r1), (0, .ref (ad 0)), (1, .int x1), (2, .int x2)]) hx hb dX12_shape_84 hl (by decide) rfl (fun ls hl => ?_)
          exact t_X12_shape_86 C0 hK N  N r1 (0 : Int64) (1 : Int32) τ2 _ _ _ h hP hD hS (lv_sub hl [3, 2, 1, 0] rfl)
        · have hn3 := hc3
          have h := h.2 hc3
          by_cases hc4 : x1 = (4 : Int32)
          · have h := h.1 hc4
            refine lv_tableIn (off := 107) (tgt := 116) hx hb dX12_shape_9 (by rw [hc4]; decide) (by rw [hc4]; decide) (by rw [hc4]; rfl) (by decide) ?_
            refine lv_iload_n hx hb dX12_shape_116 rfl (lv_at hl 1 rfl) ?_
            refine lv_iconst (v := (3 : Int32)) hx hb dX12_shape_117 (by decide) ?_
            refine lv_icmp_ge (tgt := 127) hx hb dX12_shape_118 (by decide) (fun hc => ?_) (fun hc => ?_)
            · have h := h.1 hc
              refine lv_aload_n hx hb dX12_shape_127 rfl (lv_at hl 2 rfl) ?_
              refine lv_iconst (v := (-1 : Int32)) hx hb dX12_shape_128 (by decide) ?_
              refine k_X12_ringBut N ⟨hx, hb, hml, hown, hts⟩ mw_1088 ⟨Nat.le_of_ble_eq_true rfl, Nat.le_of_ble_eq_true rfl⟩ h hK hP hD hS hl.1 (rest := []) (Nat.le_of_ble_eq_true rfl) ⟨Nat.le_of_ble_eq_true rfl, Nat.le_of_ble_eq_true rfl⟩ dX12_shape_129 (fun r9 τ10 H locs h hP hD hS => ?_)
              exact zret_l hx hb hr hlocks hK hP hD hS h dX12_shape_132
            · have h := h.2 hc
              refine lv_ldc2 (v := (-1 : Int64)) hx hb hown (hts _ (List.mem_cons_of_mem _ mw_832)) dX12_shape_121 ?_
              refine lv_goto (tgt := 132) hx hb dX12_shape_124 (by decide) ?_
              exact zret_l hx hb hr hlocks hK hP hD hS h dX12_shape_132
          · have hn4 := hc4
            have h := h.2 hc4
            by_cases hc5 : x1 = (5 : Int32)
            · have h := h.1 hc5
              refine lv_tableIn (off := 124) (tgt := 133) hx hb dX12_shape_9 (by rw [hc5]; decide) (by rw [hc5]; decide) (by rw [hc5]; rfl) (by decide) ?_
              refine lv_aload_n hx hb dX12_shape_133 rfl (lv_at hl 2 rfl) ?_
              refine lv_iload_n hx hb dX12_shape_134 rfl (lv_at hl 4 rfl) ?_
              refine k_X12_isPerson N ⟨hx, hb, hml, hown, hts⟩ mw_1057 ⟨Nat.le_of_ble_eq_true rfl, Nat.le_of_ble_eq_true rfl⟩ h hK hP hD hS hl.1 (rest := []) (Nat.le_of_ble_eq_true rfl) ⟨Nat.le_of_ble_eq_true rfl, Nat.le_of_ble_eq_true rfl⟩ dX12_shape_135 (fun r11 τ12 H locs h hP hD hS => ?_)
              refine lv_if_ne (tgt := 145) hx hb dX12_shape_138 (by decide) (fun hc => ?_) (fun hc => ?_)
              · have h := h.2 hc
                refine lv_iconst (v := (0 : Int32)) hx hb dX12_shape_145 (by decide) ?_
                refine lv_istore (lv' := [(6, .int (0 : Int32)), (4, .long (0 : Int64)), (3, .int r1), (0, .ref (ad 0)), (1, .int x1), (2, .int x2)]) hx hb dX12_shape_146 hl (by decide) rfl (fun ls hl => ?_)
                exact t_X12_shape_148 C0 hK N  N x2 r1 (0 : Int64) (0 : Int32) τ12 _ _ _ h hP hD hS (lv_sub hl [3, 5, 2, 1, 0] rfl)
              · have h := h.1 hc
                refine lv_ldc2 (v := (-1 : Int64)) hx hb hown (hts _ (List.mem_cons_of_mem _ mw_832)) dX12_shape_141 ?_
                exact zret_l hx hb hr hlocks hK hP hD hS h dX12_shape_144
            · have hn5 := hc5
              have h := h.2 hc5
              by_cases hc6 : x1 = (6 : Int32)
              · have h := h.1 hc6
                refine lv_tableIn (off := 210) (tgt := 219) hx hb dX12_shape_9 (by rw [hc6]; decide) (by rw [hc6]; decide) (by rw [hc6]; rfl) (by decide) ?_
                refine lv_aload_n hx hb dX12_shape_219 rfl (lv_at hl 2 rfl) ?_
                refine lv_iload_n hx hb dX12_shape_220 rfl (lv_at hl 4 rfl) ?_
                refine k_X12_isPerson N ⟨hx, hb, hml, hown, hts⟩ mw_1057 ⟨Nat.le_of_ble_eq_true rfl, Nat.le_of_ble_eq_true rfl⟩ h hK hP hD hS hl.1 (rest := []) (Nat.le_of_ble_eq_true rfl) ⟨Nat.le_of_ble_eq_true rfl, Nat.le_of_ble_eq_true rfl⟩ dX12_shape_221 (fun r13 τ14 H locs h hP hD hS => ?_)
                refine lv_if_eq (tgt := 232) hx hb dX12_shape_224 (by decide) (fun hc => ?_) (fun hc => ?_)
                · have h := h.1 hc
                  refine lv_ldc2 (v := (-1 : Int64)) hx hb hown (hts _ (List.mem_cons_of_mem _ mw_832)) dX12_shape_232 ?_
                  refine lv_goto (tgt := 249) hx hb dX12_shape_235 (by decide) ?_
                  exact zret_l hx hb hr hlocks hK hP hD hS h dX12_shape_249
                · have h := h.2 hc
                  refine lv_iload_n hx hb dX12_shape_227 rfl (lv_at hl 1 rfl) ?_
                  refine lv_iconst (v := (4 : Int32)) hx hb dX12_shape_228 (by decide) ?_
                  refine lv_icmp_ge (tgt := 238) hx hb dX12_shape_229 (by decide) (fun hc => ?_) (fun hc => ?_)
                  · have h := h.1 hc
                    refine lv_aload_n hx hb dX12_shape_238 rfl (lv_at hl 2 rfl) ?_
                    refine lv_iload_n hx hb dX12_shape_239 rfl (lv_at hl 4 rfl) ?_
                    refine k_X12_ringBut N ⟨hx, hb, hml, hown, hts⟩ mw_1088 ⟨Nat.le_of_ble_eq_true rfl, Nat.le_of_ble_eq_true rfl⟩ h hK hP hD hS hl.1 (rest := []) (Nat.le_of_ble_eq_true rfl) ⟨Nat.le_of_ble_eq_true rfl, Nat.le_of_ble_eq_true rfl⟩ dX12_shape_240 (fun r15 τ16 H locs h hP hD hS => ?_)
                    refine lv_aload_n hx hb dX12_shape_243 rfl (lv_at hl 2 rfl) ?_
                    refine lv_iload_n hx hb dX12_shape_244 rfl (lv_at hl 4 rfl) ?_
                    refine k_X12_star N ⟨hx, hb, hml, hown, hts⟩ mw_1082 ⟨Nat.le_of_ble_eq_true rfl, Nat.le_of_ble_eq_true rfl⟩ h hK hP hD hS hl.1 (rest := [.long r15]) (Nat.le_of_ble_eq_true rfl) ⟨Nat.le_of_ble_eq_true rfl, Nat.le_of_ble_eq_true rfl⟩ dX12_shape_245 (fun r17 τ18 H locs h hP hD hS => ?_)
                    refine lv_lor hx hb dX12_shape_248 ?_
                    exact zret_l hx hb hr hlocks hK hP hD hS h dX12_shape_249
                  · have h := h.2 hc
                    refine lv_ldc2 (v := (-1 : Int64)) hx hb hown (hts _ (List.mem_cons_of_mem _ mw_832)) dX12_shape_232 ?_
                    refine lv_goto (tgt := 249) hx hb dX12_shape_235 (by decide) ?_
                    exact zret_l hx hb hr hlocks hK hP hD hS h dX12_shape_249
              · have hn6 := hc6
                have h := h.2 hc6
                refine lv_tableOut (tgt := 250) hx hb dX12_shape_9 (by have e0 := zne (k := 0) (by decide) hn0; have e1 := zne (k := 1) (by decide) hn1; have e2 := zne (k := 2) (by decide) hn2; have e3 := zne (k := 3) (by decide) hn3; have e4 := zne (k := 4) (by decide) hn4; have e5 := zne (k := 5) (by decide) hn5; have e6 := zne (k := 6) (by decide) hn6; omega) (by decide) ?_
                refine lv_ldc2 (v := (-1 : Int64)) hx hb hown (hts _ (List.mem_cons_of_mem _ mw_832)) dX12_shape_250 ?_
                exact zret_l hx hb hr hlocks hK hP hD hS h dX12_shape_253
set_option maxHeartbeats 4000000 in
set_option maxRecDepth 100000 in
theorem c_X12_shape (N : Nat) (l : Launch) (dC : Nat → ClassId) (dI : Nat → Nat → Nat) (ad : Nat → Nat) (cI cJ cC : ClassId) (sz : Nat) (σ : zSt) (x1 : Int32) (x2 : Int32) (Q : Int64 → zSt → Prop) (h : w_X12_shape N x1 x2 σ Q) : Met l yX12_shape vs_X12_shape rm_X12_shape (va_Pc [.ref (ad 0), .int x1, .int x2] (zPc (dC, dI) (m_ty cI cJ cC) (m_W ad cI cJ cC) sz σ)) (zQl (dC, dI) (m_ty cI cJ cC) (m_W ad cI cJ cC) (zAW m_n ad sz) Q) 0 0 (zAW m_n ad sz) := by
  refine Met.ofW (cc := cX12_shape) (maxL := 8) (ret := (some .long)) (by decide) rfl ?_
  intro p e s m args below meth c s₁ B hml hv
  obtain ⟨rfl, hsz, hP, hK, hD0⟩ := hv
  subst hsz
  have C0 : zCx p s m meth c _ RX12 cX12_shape 8 (some .long) vs_X12_shape := ⟨B.exec, B.bytes, hml, B.returns, findClass_of_methodNamed B.named, atoms_spec (ws := vs_X12_shape) B.pre, B.notSynchronized⟩
  have hD := m_D0 (n0 := s.heap.size) hD0
  have hl := lv_entry ([.ref (ad 0), .int x1, .int x2]) (n := 8) (Nat.le_of_ble_eq_true rfl)
  rw [lg_entry_eq]
  generalize (lg_sl ([.ref (ad 0), .int x1, .int x2]) ++ List.replicate (8 - (lg_sl ([.ref (ad 0), .int x1, .int x2])).length) Slot.unset).toArray = ls at hl ⊢
  exact t_X12_shape_0 C0 hK N x1 x2 σ _ _ ls h hP hD va_S.rf hl
theorem k_X12_shape (N : Nat) {R : Room} {H : Heap} {locs : List Loc} {cells slots : Nat} {Q2 : State → Prop} {cc : ByteArray} {nL pc index : Nat} {ls : Array Slot} {rest : List Value} {own : String} {c0 : Cond} {σ : zSt} {x1 : Int32} {x2 : Int32} {Q : Int64 → zSt → Prop} (S0 : CallFix p m c cc nL s args (c0 :: zT) own) (hml : Cond.methodLink own index yX12_shape ∈ zT) (hR : rm_X12_shape.frames + 1 ≤ R.frames ∧ 8 + (8 + 11) + rm_X12_shape.locals ≤ R.locals) (h : w_X12_shape N x1 x2 σ Q) (hK : va_K (dC, dI) vwCl (m_ty cI cJ cC) s) (hP : va_P (dC, dI) vwCl (m_W ad cI cJ cC σ) H) (hD : va_D (zAW m_n ad s.heap.size) (m_W ad cI cJ cC σ)) (hS : va_S (zAW m_n ad s.heap.size) s.heap H locs) (hsz : ls.size = nL) (hW : (rest.map fun v => v.category).sum ≤ 8) (hcs : cells ≤ R.cells ∧ slots ≤ R.slots) (hdg : decode cc pc = .ok (.invokevirtual index, 3)) (kk : ∀ (r : Int64) (τ : zSt) (H1 : Heap) (locs1 : List Loc), Q r τ → va_P (dC, dI) vwCl (m_W ad cI cJ cC τ) H1 → va_D (zAW m_n ad s.heap.size) (m_W ad cI cJ cC τ) → va_S (zAW m_n ad s.heap.size) s.heap H1 locs1 → W p l e R s m args below meth c H1 locs1 cells slots Q2 (F0 m (pc + 3) ls (.long r :: rest))) : W p l e R s m args below meth c H locs cells slots Q2 (F0 m pc ls (.int x2 :: .int x1 :: .ref (ad 0) :: rest)) :=
  zcv_l (T := TX12) (N' := 83) (k := 0) (ci := 12) (fs := m_f0 ad σ) [.int x1, .int x2] S0 (c_X12_shape N l dC dI ad cI cJ cC H.size σ x1 x2 Q h) (cw_X12_shape S0.2.2.2.2 hml rfl rfl hR) rfl rfl hK hP hD hS rfl hsz hW rfl hcs hdg kk
end q19
section q19
def w_X12_extra (N : Nat) (x1 : Int32) (σ : zSt) (Q : Int32 → zSt → Prop) : Prop :=
  w_X12_isIn N x1.toInt64 (-1000 : Int64) (1000 : Int64) σ (fun r1 τ2 => (r1 = 0 → Q (0 : Int32) τ2) ∧ (¬ r1 = 0 → ∀ τ3 : zSt, τ3 = zI τ2 14 x1 → Q (1 : Int32) τ3))
variable {p : Program} {l : Launch} {e : Env} {s : State} {m : MethodId} {args : Array Value} {below : List Frame} {meth : Method} {c : Code} {dC : Nat → ClassId} {dI : Nat → Nat → Nat} {ad : Nat → Nat} {cI cJ cC : ClassId}
set_option maxHeartbeats 4000000 in
set_option maxRecDepth 100000 in
theorem t_X12_extra_0 (C0 : zCx p s m meth c args RX12 cX12_extra 2 (some .boolean) vs_X12_extra) (hK : va_K (dC, dI) vwCl (m_ty cI cJ cC) s) (N : Nat) {Q : Int32 → zSt → Prop} : ∀ (x1 : Int32) (σ : zSt) (H : Heap) (locs : List Loc) (ls : Array Slot), w_X12_extra N x1 σ Q → va_P (dC, dI) vwCl (m_W ad cI cJ cC σ) H → va_D (zAW m_n ad s.heap.size) (m_W ad cI cJ cC σ) → va_S (zAW m_n ad s.heap.size) s.heap H locs → lv_has ls 2 [(0, .ref (ad 0)), (1, .int x1)] → W p l e rm_X12_extra s m args below meth c H locs 0 0 (MQ below (zQi (dC, dI) (m_ty cI cJ cC) (m_W ad cI cJ cC) (zAW m_n ad s.heap.size) Q) args s 0 0 (zAW m_n ad s.heap.size)) (F0 m 0 ls []) := by
  obtain ⟨hx, hb, hml, hr, hown, hts, hlocks⟩ := id C0
  intro x1 σ H locs ls h hP hD hS hl
  unfold w_X12_extra at h
  refine lv_iload_n hx hb dX12_extra_0 rfl (lv_at hl 1 rfl) ?_
  refine lv_i2l hx hb dX12_extra_1 rfl ?_
  refine lv_ldc2 (v := (-1000 : Int64)) hx hb hown (hts _ (List.mem_cons_of_mem _ mw_1095)) dX12_extra_2 ?_
  refine lv_ldc2 (v := (1000 : Int64)) hx hb hown (hts _ (List.mem_cons_of_mem _ mw_1096)) dX12_extra_5 ?_
  refine k_X12_isIn N ⟨hx, hb, hml, hown, hts⟩ mw_970 ⟨Nat.le_of_ble_eq_true rfl, Nat.le_of_ble_eq_true rfl⟩ h hK hP hD hS hl.1 (rest := []) (Nat.le_of_ble_eq_true rfl) ⟨Nat.le_of_ble_eq_true rfl, Nat.le_of_ble_eq_true rfl⟩ dX12_extra_8 (fun r1 τ2 H locs h hP hD hS => ?_)
  refine lv_if_ne (tgt := 16) hx hb dX12_extra_11 (by decide) (fun hc => ?_) (fun hc => ?_)
  · have h := h.2 hc
    refine lv_aload_n hx hb dX12_extra_16 rfl (lv_at hl 0 rfl) ?_
    refine lv_iload_n hx hb dX12_extra_17 rfl (lv_at hl 1 rfl) ?_
    refine mp_0_48 hx hb hts hown hK hP hD hS mw_881 dX12_extra_18 (fun τ3 H locs eτ3 hP hD hS => ?_)
    have h := h τ3 eτ3
    refine lv_iconst (v := (1 : Int32)) hx hb dX12_extra_21 (by decide) ?_
    exact zret_z hx hb hr hlocks hK hP hD hS zb_1 h dX12_extra_22
  · have h := h.1 hc
    refine lv_iconst (v := (0 : Int32)) hx hb dX12_extra_14 (by decide) ?_
    exact zret_z hx hb hr hlocks hK hP hD hS zb_0 h dX12_extra_15
set_option maxHeartbeats 4000000 in
set_option maxRecDepth 100000 in
theorem c_X12_extra (N : Nat) (l : Launch) (dC : Nat → ClassId) (dI : Nat → Nat → Nat) (ad : Nat → Nat) (cI cJ cC : ClassId) (sz : Nat) (σ : zSt) (x1 : Int32) (Q : Int32 → zSt → Prop) (h : w_X12_extra N x1 σ Q) : Met l yX12_extra vs_X12_extra rm_X12_extra (va_Pc [.ref (ad 0), .int x1] (zPc (dC, dI) (m_ty cI cJ cC) (m_W ad cI cJ cC) sz σ)) (zQi (dC, dI) (m_ty cI cJ cC) (m_W ad cI cJ cC) (zAW m_n ad sz) Q) 0 0 (zAW m_n ad sz) := by
  refine Met.ofW (cc := cX12_extra) (maxL := 2) (ret := (some .boolean)) (by decide) rfl ?_
  intro p e s m args below meth c s₁ B hml hv
  obtain ⟨rfl, hsz, hP, hK, hD0⟩ := hv
  subst hsz
  have C0 : zCx p s m meth c _ RX12 cX12_extra 2 (some .boolean) vs_X12_extra := ⟨B.exec, B.bytes, hml, B.returns, findClass_of_methodNamed B.named, atoms_spec (ws := vs_X12_extra) B.pre, B.notSynchronized⟩
  have hD := m_D0 (n0 := s.heap.size) hD0
  have hl := lv_entry ([.ref (ad 0), .int x1]) (n := 2) (Nat.le_of_ble_eq_true rfl)
  rw [lg_entry_eq]
  generalize (lg_sl ([.ref (ad 0), .int x1]) ++ List.replicate (2 - (lg_sl ([.ref (ad 0), .int x1])).length) Slot.unset).toArray = ls at hl ⊢
  exact t_X12_extra_0 C0 hK N x1 σ _ _ ls h hP hD va_S.rf hl
theorem k_X12_extra (N : Nat) {R : Room} {H : Heap} {locs : List Loc} {cells slots : Nat} {Q2 : State → Prop} {cc : ByteArray} {nL pc index : Nat} {ls : Array Slot} {rest : List Value} {own : String} {c0 : Cond} {σ : zSt} {x1 : Int32} {Q : Int32 → zSt → Prop} (S0 : CallFix p m c cc nL s args (c0 :: zT) own) (hml : Cond.methodLink own index yX12_extra ∈ zT) (hR : rm_X12_extra.frames + 1 ≤ R.frames ∧ 8 + (2 + 11) + rm_X12_extra.locals ≤ R.locals) (h : w_X12_extra N x1 σ Q) (hK : va_K (dC, dI) vwCl (m_ty cI cJ cC) s) (hP : va_P (dC, dI) vwCl (m_W ad cI cJ cC σ) H) (hD : va_D (zAW m_n ad s.heap.size) (m_W ad cI cJ cC σ)) (hS : va_S (zAW m_n ad s.heap.size) s.heap H locs) (hsz : ls.size = nL) (hW : (rest.map fun v => v.category).sum ≤ 8) (hcs : cells ≤ R.cells ∧ slots ≤ R.slots) (hdg : decode cc pc = .ok (.invokevirtual index, 3)) (kk : ∀ (r : Int32) (τ : zSt) (H1 : Heap) (locs1 : List Loc), Q r τ → va_P (dC, dI) vwCl (m_W ad cI cJ cC τ) H1 → va_D (zAW m_n ad s.heap.size) (m_W ad cI cJ cC τ) → va_S (zAW m_n ad s.heap.size) s.heap H1 locs1 → W p l e R s m args below meth c H1 locs1 cells slots Q2 (F0 m (pc + 3) ls (.int r :: rest))) : W p l e R s m args below meth c H locs cells slots Q2 (F0 m pc ls (.int x1 :: .ref (ad 0) :: rest)) :=
  zcv_i (T := TX12) (N' := 83) (k := 0) (ci := 12) (fs := m_f0 ad σ) [.int x1] S0 (c_X12_extra N l dC dI ad cI cJ cC H.size σ x1 Q h) (cw_X12_extra S0.2.2.2.2 hml rfl rfl hR) rfl rfl hK hP hD hS rfl hsz hW rfl hcs hdg kk
end q19
section q19
def w_X12_clip (N : Nat) (x0 : Int64) (σ : zSt) (Q : Int64 → zSt → Prop) : Prop :=
  ((lg_cmp x0 (1000000 : Int64)) ≤ 0 → (0 ≤ (lg_cmp x0 (-1000000 : Int64)) → Q x0 σ) ∧ (¬ 0 ≤ (lg_cmp x0 (-1000000 : Int64)) → Q (-1000000 : Int64) σ)) ∧ (¬ (lg_cmp x0 (1000000 : Int64)) ≤ 0 → Q (1000000 : Int64) σ)
variable {p : Program} {l : Launch} {e : Env} {s : State} {m : MethodId} {args : Array Value} {below : List Frame} {meth : Method} {c : Code} {dC : Nat → ClassId} {dI : Nat → Nat → Nat} {ad : Nat → Nat} {cI cJ cC : ClassId}
set_option maxHeartbeats 4000000 in
set_option maxRecDepth 100000 in
theorem t_X12_clip_0 (C0 : zCx p s m meth c args RX12 cX12_clip 2 (some .long) vs_X12_clip) (hK : va_K (dC, dI) vwCl (m_ty cI cJ cC) s) (N : Nat) {Q : Int64 → zSt → Prop} : ∀ (x0 : Int64) (σ : zSt) (H : Heap) (locs : List Loc) (ls : Array Slot), w_X12_clip N x0 σ Q → va_P (dC, dI) vwCl (m_W ad cI cJ cC σ) H → va_D (zAW m_n ad s.heap.size) (m_W ad cI cJ cC σ) → va_S (zAW m_n ad s.heap.size) s.heap H locs → lv_has ls 2 [(0, .long x0)] → W p l e rm_X12_clip s m args below meth c H locs 0 0 (MQ below (zQl (dC, dI) (m_ty cI cJ cC) (m_W ad cI cJ cC) (zAW m_n ad s.heap.size) Q) args s 0 0 (zAW m_n ad s.heap.size)) (F0 m 0 ls []) := by
  obtain ⟨hx, hb, hml, hr, hown, hts, hlocks⟩ := id C0
  intro x0 σ H locs ls h hP hD hS hl
  unfold w_X12_clip at h
  refine lv_lload_n hx hb dX12_clip_0 rfl (lv_at hl 0 rfl) ?_
  refine lv_ldc2 (v := (1000000 : Int64)) hx hb hown (hts _ (List.mem_cons_of_mem _ mw_1131)) dX12_clip_1 ?_
  refine W.lcmp hx hb dX12_clip_4 ?_
  refine lv_if_le (tgt := 14) hx hb dX12_clip_5 (by decide) (fun hc => ?_) (fun hc => ?_)
  · have h := h.1 hc
    refine lv_lload_n hx hb dX12_clip_14 rfl (lv_at hl 0 rfl) ?_
    refine lv_ldc2 (v := (-1000000 : Int64)) hx hb hown (hts _ (List.mem_cons_of_mem _ mw_1132)) dX12_clip_15 ?_
    refine W.lcmp hx hb dX12_clip_18 ?_
    refine lv_if_ge (tgt := 28) hx hb dX12_clip_19 (by decide) (fun hc => ?_) (fun hc => ?_)
    · have h := h.1 hc
      refine lv_lload_n hx hb dX12_clip_28 rfl (lv_at hl 0 rfl) ?_
      exact zret_l hx hb hr hlocks hK hP hD hS h dX12_clip_29
    · have h := h.2 hc
      refine lv_ldc2 (v := (-1000000 : Int64)) hx hb hown (hts _ (List.mem_cons_of_mem _ mw_1132)) dX12_clip_22 ?_
      refine lv_goto (tgt := 29) hx hb dX12_clip_25 (by decide) ?_
      exact zret_l hx hb hr hlocks hK hP hD hS h dX12_clip_29
  · have h := h.2 hc
    refine lv_ldc2 (v := (1000000 : Int64)) hx hb hown (hts _ (List.mem_cons_of_mem _ mw_1131)) dX12_clip_8 ?_
    refine lv_goto (tgt := 29) hx hb dX12_clip_11 (by decide) ?_
    exact zret_l hx hb hr hlocks hK hP hD hS h dX12_clip_29
set_option maxHeartbeats 4000000 in
set_option maxRecDepth 100000 in
theorem c_X12_clip (N : Nat) (l : Launch) (dC : Nat → ClassId) (dI : Nat → Nat → Nat) (ad : Nat → Nat) (cI cJ cC : ClassId) (sz : Nat) (σ : zSt) (x0 : Int64) (Q : Int64 → zSt → Prop) (h : w_X12_clip N x0 σ Q) : Met l yX12_clip vs_X12_clip rm_X12_clip (va_Pc [.long x0] (zPc (dC, dI) (m_ty cI cJ cC) (m_W ad cI cJ cC) sz σ)) (zQl (dC, dI) (m_ty cI cJ cC) (m_W ad cI cJ cC) (zAW m_n ad sz) Q) 0 0 (zAW m_n ad sz) := by
  refine Met.ofW (cc := cX12_clip) (maxL := 2) (ret := (some .long)) (by decide) rfl ?_
  intro p e s m args below meth c s₁ B hml hv
  obtain ⟨rfl, hsz, hP, hK, hD0⟩ := hv
  subst hsz
  have C0 : zCx p s m meth c _ RX12 cX12_clip 2 (some .long) vs_X12_clip := ⟨B.exec, B.bytes, hml, B.returns, findClass_of_methodNamed B.named, atoms_spec (ws := vs_X12_clip) B.pre, B.notSynchronized⟩
  have hD := m_D0 (n0 := s.heap.size) hD0
  have hl := lv_entry ([.long x0]) (n := 2) (Nat.le_of_ble_eq_true rfl)
  rw [lg_entry_eq]
  generalize (lg_sl ([.long x0]) ++ List.replicate (2 - (lg_sl ([.long x0])).length) Slot.unset).toArray = ls at hl ⊢
  exact t_X12_clip_0 C0 hK N x0 σ _ _ ls h hP hD va_S.rf hl
theorem k_X12_clip (N : Nat) {R : Room} {H : Heap} {locs : List Loc} {cells slots : Nat} {Q2 : State → Prop} {cc : ByteArray} {nL pc index : Nat} {ls : Array Slot} {rest : List Value} {own : String} {c0 : Cond} {σ : zSt} {x0 : Int64} {Q : Int64 → zSt → Prop} (S0 : CallFix p m c cc nL s args (c0 :: zT) own) (hml : Cond.methodLink own index yX12_clip ∈ zT) (hR : rm_X12_clip.frames + 1 ≤ R.frames ∧ 8 + (2 + 11) + rm_X12_clip.locals ≤ R.locals) (h : w_X12_clip N x0 σ Q) (hK : va_K (dC, dI) vwCl (m_ty cI cJ cC) s) (hP : va_P (dC, dI) vwCl (m_W ad cI cJ cC σ) H) (hD : va_D (zAW m_n ad s.heap.size) (m_W ad cI cJ cC σ)) (hS : va_S (zAW m_n ad s.heap.size) s.heap H locs) (hsz : ls.size = nL) (hW : (rest.map fun v => v.category).sum ≤ 8) (hcs : cells ≤ R.cells ∧ slots ≤ R.slots) (hdg : decode cc pc = .ok (.invokestatic index, 3)) (kk : ∀ (r : Int64) (τ : zSt) (H1 : Heap) (locs1 : List Loc), Q r τ → va_P (dC, dI) vwCl (m_W ad cI cJ cC τ) H1 → va_D (zAW m_n ad s.heap.size) (m_W ad cI cJ cC τ) → va_S (zAW m_n ad s.heap.size) s.heap H1 locs1 → W p l e R s m args below meth c H1 locs1 cells slots Q2 (F0 m (pc + 3) ls (.long r :: rest))) : W p l e R s m args below meth c H locs cells slots Q2 (F0 m pc ls (.long x0 :: rest)) :=
  zcs_l [.long x0] S0 (c_X12_clip N l dC dI ad cI cJ cC H.size σ x0 Q h) (cw_X12_clip S0.2.2.2.2 hml hR) hK hP hD hS rfl hsz hW rfl hcs hdg kk
end q19
section q19
def w_X12_puts (N : Nat) (x1 : Int64) (σ : zSt) (Q : zSt → Prop) : Prop :=
  (vp_in (σ.1 18) 900) ∧ (∀ τ1 : zSt, τ1 = zB σ 2 (vp_updL (σ.2.2.2 2) ((σ.1 18).toNatClampNeg) x1) → ∀ τ2 : zSt, τ2 = zI τ1 18 ((τ1.1 18) + (1 : Int32)) → Q τ2)
variable {p : Program} {l : Launch} {e : Env} {s : State} {m : MethodId} {args : Array Value} {below : List Frame} {meth : Method} {c : Code} {dC : Nat → ClassId} {dI : Nat → Nat → Nat} {ad : Nat → Nat} {cI cJ cC : ClassId}
set_option maxHeartbeats 4000000 in
set_option maxRecDepth 100000 in
theorem t_X12_puts_0 (C0 : zCx p s m meth c args RX12 cX12_puts 3 none vs_X12_puts) (hK : va_K (dC, dI) vwCl (m_ty cI cJ cC) s) (N : Nat) {Q : zSt → Prop} : ∀ (x1 : Int64) (σ : zSt) (H : Heap) (locs : List Loc) (ls : Array Slot), w_X12_puts N x1 σ Q → va_P (dC, dI) vwCl (m_W ad cI cJ cC σ) H → va_D (zAW m_n ad s.heap.size) (m_W ad cI cJ cC σ) → va_S (zAW m_n ad s.heap.size) s.heap H locs → lv_has ls 3 [(0, .ref (ad 0)), (1, .long x1)] → W p l e rm_X12_puts s m args below meth c H locs 0 0 (MQ below (zQv (dC, dI) (m_ty cI cJ cC) (m_W ad cI cJ cC) (zAW m_n ad s.heap.size) Q) args s 0 0 (zAW m_n ad s.heap.size)) (F0 m 0 ls []) := by
  obtain ⟨hx, hb, hml, hr, hown, hts, hlocks⟩ := id C0
  intro x1 σ H locs ls h hP hD hS hl
  unfold w_X12_puts at h
  refine lv_aload_n hx hb dX12_puts_0 rfl (lv_at hl 0 rfl) ?_
  refine mg_0_55 hx hb hts hown hK hP mw_888 dX12_puts_1 ?_
  refine lv_aload_n hx hb dX12_puts_4 rfl (lv_at hl 0 rfl) ?_
  refine mg_0_56 hx hb hts hown hK hP mw_889 dX12_puts_5 ?_
  refine lv_lload_n hx hb dX12_puts_8 rfl (lv_at hl 1 rfl) ?_
  refine ms_17 hx hb hK hP hD hS h.1 rfl dX12_puts_9 (fun τ1 H locs eτ1 hP hD hS => ?_)
  have h := h.2
  have h := h τ1 eτ1
  refine lv_aload_n hx hb dX12_puts_10 rfl (lv_at hl 0 rfl) ?_
  refine lv_dup hx hb dX12_puts_11 rfl ?_
  refine mg_0_56 hx hb hts hown hK hP mw_889 dX12_puts_12 ?_
  refine lv_iconst (v := (1 : Int32)) hx hb dX12_puts_15 (by decide) ?_
  refine lv_iadd hx hb dX12_puts_16 ?_
  refine mp_0_56 hx hb hts hown hK hP hD hS mw_889 dX12_puts_17 (fun τ2 H locs eτ2 hP hD hS => ?_)
  have h := h τ2 eτ2
  exact zret_v hx hb hr hlocks hK hP hD hS h dX12_puts_20
set_option maxHeartbeats 4000000 in
set_option maxRecDepth 100000 in
theorem c_X12_puts (N : Nat) (l : Launch) (dC : Nat → ClassId) (dI : Nat → Nat → Nat) (ad : Nat → Nat) (cI cJ cC : ClassId) (sz : Nat) (σ : zSt) (x1 : Int64) (Q : zSt → Prop) (h : w_X12_puts N x1 σ Q) : Met l yX12_puts vs_X12_puts rm_X12_puts (va_Pc [.ref (ad 0), .long x1] (zPc (dC, dI) (m_ty cI cJ cC) (m_W ad cI cJ cC) sz σ)) (zQv (dC, dI) (m_ty cI cJ cC) (m_W ad cI cJ cC) (zAW m_n ad sz) Q) 0 0 (zAW m_n ad sz) := by
  refine Met.ofW (cc := cX12_puts) (maxL := 3) (ret := none) (by decide) rfl ?_
  intro p e s m args below meth c s₁ B hml hv
  obtain ⟨rfl, hsz, hP, hK, hD0⟩ := hv
  subst hsz
  have C0 : zCx p s m meth c _ RX12 cX12_puts 3 none vs_X12_puts := ⟨B.exec, B.bytes, hml, B.returns, findClass_of_methodNamed B.named, atoms_spec (ws := vs_X12_puts) B.pre, B.notSynchronized⟩
  have hD := m_D0 (n0 := s.heap.size) hD0
  have hl := lv_entry ([.ref (ad 0), .long x1]) (n := 3) (Nat.le_of_ble_eq_true rfl)
  rw [lg_entry_eq]
  generalize (lg_sl ([.ref (ad 0), .long x1]) ++ List.replicate (3 - (lg_sl ([.ref (ad 0), .long x1])).length) Slot.unset).toArray = ls at hl ⊢
  exact t_X12_puts_0 C0 hK N x1 σ _ _ ls h hP hD va_S.rf hl
theorem k_X12_puts (N : Nat) {R : Room} {H : Heap} {locs : List Loc} {cells slots : Nat} {Q2 : State → Prop} {cc : ByteArray} {nL pc index : Nat} {ls : Array Slot} {rest : List Value} {own : String} {c0 : Cond} {σ : zSt} {x1 : Int64} {Q : zSt → Prop} (S0 : CallFix p m c cc nL s args (c0 :: zT) own) (hml : Cond.methodLink own index yX12_puts ∈ zT) (hR : rm_X12_puts.frames + 1 ≤ R.frames ∧ 8 + (3 + 11) + rm_X12_puts.locals ≤ R.locals) (h : w_X12_puts N x1 σ Q) (hK : va_K (dC, dI) vwCl (m_ty cI cJ cC) s) (hP : va_P (dC, dI) vwCl (m_W ad cI cJ cC σ) H) (hD : va_D (zAW m_n ad s.heap.size) (m_W ad cI cJ cC σ)) (hS : va_S (zAW m_n ad s.heap.size) s.heap H locs) (hsz : ls.size = nL) (hW : (rest.map fun v => v.category).sum ≤ 8) (hcs : cells ≤ R.cells ∧ slots ≤ R.slots) (hdg : decode cc pc = .ok (.invokevirtual index, 3)) (kk : ∀ (τ : zSt) (H1 : Heap) (locs1 : List Loc), Q τ → va_P (dC, dI) vwCl (m_W ad cI cJ cC τ) H1 → va_D (zAW m_n ad s.heap.size) (m_W ad cI cJ cC τ) → va_S (zAW m_n ad s.heap.size) s.heap H1 locs1 → W p l e R s m args below meth c H1 locs1 cells slots Q2 (F0 m (pc + 3) ls (rest))) : W p l e R s m args below meth c H locs cells slots Q2 (F0 m pc ls (.long x1 :: .ref (ad 0) :: rest)) :=
  zcv_v (T := TX12) (N' := 83) (k := 0) (ci := 12) (fs := m_f0 ad σ) [.long x1] S0 (c_X12_puts N l dC dI ad cI cJ cC H.size σ x1 Q h) (cw_X12_puts S0.2.2.2.2 hml rfl rfl hR) rfl rfl hK hP hD hS rfl hsz hW rfl hcs hdg kk
end q19
section q19
def b_X12_floor_43 (N : Nat) (Q : Int64 → zSt → Prop) (x4 : Int64) (s0 : Int32) (s1 : Int32) (σ : zSt) : Prop :=
  (s1 = s0 → Q x4 σ) ∧ (¬ s1 = s0 → Q (x4 - (1 : Int64)) σ)
def b_X12_floor_32 (N : Nat) (Q : Int64 → zSt → Prop) (x2 : Int64) (x4 : Int64) (s0 : Int32) (σ : zSt) : Prop :=
  (0 ≤ (lg_cmp x2 (0 : Int64)) → b_X12_floor_43 N Q x4 (0 : Int32) s0 σ) ∧ (¬ 0 ≤ (lg_cmp x2 (0 : Int64)) → b_X12_floor_43 N Q x4 (1 : Int32) s0 σ)
def w_X12_floor (N : Nat) (x0 : Int64) (x2 : Int64) (σ : zSt) (Q : Int64 → zSt → Prop) : Prop :=
  ((lg_cmp x2 (0 : Int64)) = 0 → Q (0 : Int64) σ) ∧ (¬ (lg_cmp x2 (0 : Int64)) = 0 → (¬ x2 = 0) ∧ (∀ v1 : Int64, v1 = x0 / x2 → (¬ x2 = 0) ∧ (((lg_cmp (x0 - x0 / x2 * x2) (0 : Int64)) = 0 → Q v1 σ) ∧ (¬ (lg_cmp (x0 - x0 / x2 * x2) (0 : Int64)) = 0 → (0 ≤ (lg_cmp x0 (0 : Int64)) → b_X12_floor_32 N Q x2 v1 (0 : Int32) σ) ∧ (¬ 0 ≤ (lg_cmp x0 (0 : Int64)) → b_X12_floor_32 N Q x2 v1 (1 : Int32) σ)))))
variable {p : Program} {l : Launch} {e : Env} {s : State} {m : MethodId} {args : Array Value} {below : List Frame} {meth : Method} {c : Code} {dC : Nat → ClassId} {dI : Nat → Nat → Nat} {ad : Nat → Nat} {cI cJ cC : ClassId}
set_option maxHeartbeats 4000000 in
set_option maxRecDepth 100000 in
theorem t_X12_floor_43 (C0 : zCx p s m meth c args RX12 cX12_floor 6 (some .long) vs_X12_floor) (hK : va_K (dC, dI) vwCl (m_ty cI cJ cC) s) (N : Nat) {Q : Int64 → zSt → Prop} : ∀ (x4 : Int64) (s0 : Int32) (s1 : Int32) (σ : zSt) (H : Heap) (locs : List Loc) (ls : Array Slot), b_X12_floor_43 N  Q x4 s0 s1 σ → va_P (dC, dI) vwCl (m_W ad cI cJ cC σ) H → va_D (zAW m_n ad s.heap.size) (m_W ad cI cJ cC σ) → va_S (zAW m_n ad s.heap.size) s.heap H locs → lv_has ls 6 [(4, .long x4)] → W p l e rm_X12_floor s m args below meth c H locs 0 0 (MQ below (zQl (dC, dI) (m_ty cI cJ cC) (m_W ad cI cJ cC) (zAW m_n ad s.heap.size) Q) args s 0 0 (zAW m_n ad s.heap.size)) (F0 m 43 ls [.int s0, .int s1]) := by
  obtain ⟨hx, hb, hml, hr, hown, hts, hlocks⟩ := id C0
  intro x4 s0 s1 σ H locs ls h hP hD hS hl
  unfold b_X12_floor_43 at h
  refine lv_icmp_eq (tgt := 53) hx hb dX12_floor_43 (by decide) (fun hc => ?_) (fun hc => ?_)
  · have h := h.1 hc
    refine lv_lload hx hb dX12_floor_53 (lv_at hl 0 rfl) ?_
    exact zret_l hx hb hr hlocks hK hP hD hS h dX12_floor_55
  · have h := h.2 hc
    refine lv_lload hx hb dX12_floor_46 (lv_at hl 0 rfl) ?_
    refine lv_lconst (v := (1 : Int64)) hx hb dX12_floor_48 (by decide) ?_
    refine lv_lsub hx hb dX12_floor_49 ?_
    refine lv_goto (tgt := 55) hx hb dX12_floor_50 (by decide) ?_
    exact zret_l hx hb hr hlocks hK hP hD hS h dX12_floor_55
set_option maxHeartbeats 4000000 in
set_option maxRecDepth 100000 in
theorem t_X12_floor_32 (C0 : zCx p s m meth c args RX12 cX12_floor 6 (some .long) vs_X12_floor) (hK : va_K (dC, dI) vwCl (m_ty cI cJ cC) s) (N : Nat) {Q : Int64 → zSt → Prop} : ∀ (x2 : Int64) (x4 : Int64) (s0 : Int32) (σ : zSt) (H : Heap) (locs : List Loc) (ls : Array Slot), b_X12_floor_32 N  Q x2 x4 s0 σ → va_P (dC, dI) vwCl (m_W ad cI cJ cC σ) H → va_D (zAW m_n ad s.heap.size) (m_W ad cI cJ cC σ) → va_S (zAW m_n ad s.heap.size) s.heap H locs → lv_has ls 6 [(2, .long x2), (4, .long x4)] → W p l e rm_X12_floor s m args below meth c H locs 0 0 (MQ below (zQl (dC, dI) (m_ty cI cJ cC) (m_W ad cI cJ cC) (zAW m_n ad s.heap.size) Q) args s 0 0 (zAW m_n ad s.heap.size)) (F0 m 32 ls [.int s0]) := by
  obtain ⟨hx, hb, hml, hr, hown, hts, hlocks⟩ := id C0
  intro x2 x4 s0 σ H locs ls h hP hD hS hl
  unfold b_X12_floor_32 at h
  refine lv_lload_n hx hb dX12_floor_32 rfl (lv_at hl 0 rfl) ?_
  refine lv_lconst (v := (0 : Int64)) hx hb dX12_floor_33 (by decide) ?_
  refine W.lcmp hx hb dX12_floor_34 ?_
  refine lv_if_ge (tgt := 42) hx hb dX12_floor_35 (by decide) (fun hc => ?_) (fun hc => ?_)
  · have h := h.1 hc
    refine lv_iconst (v := (0 : Int32)) hx hb dX12_floor_42 (by decide) ?_
    exact t_X12_floor_43 C0 hK N  x4 (0 : Int32) s0 σ _ _ _ h hP hD hS (lv_sub hl [1] rfl)
  · have h := h.2 hc
    refine lv_iconst (v := (1 : Int32)) hx hb dX12_floor_38 (by decide) ?_
    refine lv_goto (tgt := 43) hx hb dX12_floor_39 (by decide) ?_
    exact t_X12_floor_43 C0 hK N  x4 (1 : Int32) s0 σ _ _ _ h hP hD hS (lv_sub hl [1] rfl)
set_option maxHeartbeats 4000000 in
set_option maxRecDepth 100000 in
theorem t_X12_floor_0 (C0 : zCx p s m meth c args RX12 cX12_floor 6 (some .long) vs_X12_floor) (hK : va_K (dC, dI) vwCl (m_ty cI cJ cC) s) (N : Nat) {Q : Int64 → zSt → Prop} : ∀ (x0 : Int64) (x2 : Int64) (σ : zSt) (H : Heap) (locs : List Loc) (ls : Array Slot), w_X12_floor N x0 x2 σ Q → va_P (dC, dI) vwCl (m_W ad cI cJ cC σ) H → va_D (zAW m_n ad s.heap.size) (m_W ad cI cJ cC σ) → va_S (zAW m_n ad s.heap.size) s.heap H locs → lv_has ls 6 [(0, .long x0), (2, .long x2)] → W p l e rm_X12_floor s m args below meth c H locs 0 0 (MQ below (zQl (dC, dI) (m_ty cI cJ cC) (m_W ad cI cJ cC) (zAW m_n ad s.heap.size) Q) args s 0 0 (zAW m_n ad s.heap.size)) (F0 m 0 ls []) := by
  obtain ⟨hx, hb, hml, hr, hown, hts, hlocks⟩ := id C0
  intro x0 x2 σ H locs ls h hP hD hS hl
  unfold w_X12_floor at h
  refine lv_lload_n hx hb dX12_floor_0 rfl (lv_at hl 1 rfl) ?_
  refine lv_lconst (v := (0 : Int64)) hx hb dX12_floor_1 (by decide) ?_
  refine W.lcmp hx hb dX12_floor_2 ?_
  refine lv_if_ne (tgt := 8) hx hb dX12_floor_3 (by decide) (fun hc => ?_) (fun hc => ?_)
  · have h := h.2 hc
    refine lv_lload_n hx hb dX12_floor_8 rfl (lv_at hl 0 rfl) ?_
    refine lv_lload_n hx hb dX12_floor_9 rfl (lv_at hl 1 rfl) ?_
    refine lv_ldiv hx hb dX12_floor_10 h.1 ?_
    have h := h.2
    refine lv_topl (fun v1 ev1 => ?_)
    have h := h v1 ev1
    refine lv_lstore (lv' := [(4, .long v1), (0, .long x0), (2, .long x2)]) hx hb dX12_floor_11 hl (by decide) rfl (fun ls hl => ?_)
    refine lv_lload_n hx hb dX12_floor_13 rfl (lv_at hl 1 rfl) ?_
    refine lv_lload_n hx hb dX12_floor_14 rfl (lv_at hl 2 rfl) ?_
    refine lv_lrem hx hb dX12_floor_15 h.1 ?_
    have h := h.2
    refine lv_lconst (v := (0 : Int64)) hx hb dX12_floor_16 (by decide) ?_
    refine W.lcmp hx hb dX12_floor_17 ?_
    refine lv_if_eq (tgt := 53) hx hb dX12_floor_18 (by decide) (fun hc => ?_) (fun hc => ?_)
    · have h := h.1 hc
      refine lv_lload hx hb dX12_floor_53 (lv_at hl 0 rfl) ?_
      exact zret_l hx hb hr hlocks hK hP hD hS h dX12_floor_55
    · have h := h.2 hc
      refine lv_lload_n hx hb dX12_floor_21 rfl (lv_at hl 1 rfl) ?_
      refine lv_lconst (v := (0 : Int64)) hx hb dX12_floor_22 (by decide) ?_
      refine W.lcmp hx hb dX12_floor_23 ?_
      refine lv_if_ge (tgt := 31) hx hb dX12_floor_24 (by decide) (fun hc => ?_) (fun hc => ?_)
      · have h := h.1 hc
        refine lv_iconst (v := (0 : Int32)) hx hb dX12_floor_31 (by decide) ?_
        exact t_X12_floor_32 C0 hK N  x2 v1 (0 : Int32) σ _ _ _ h hP hD hS (lv_sub hl [2, 0] rfl)
      · have h := h.2 hc
        refine lv_iconst (v := (1 : Int32)) hx hb dX12_floor_27 (by decide) ?_
        refine lv_goto (tgt := 32) hx hb dX12_floor_28 (by decide) ?_
        exact t_X12_floor_32 C0 hK N  x2 v1 (1 : Int32) σ _ _ _ h hP hD hS (lv_sub hl [2, 0] rfl)
  · have h := h.1 hc
    refine lv_lconst (v := (0 : Int64)) hx hb dX12_floor_6 (by decide) ?_
    exact zret_l hx hb hr hlocks hK hP hD hS h dX12_floor_7
set_option maxHeartbeats 4000000 in
set_option maxRecDepth 100000 in
theorem c_X12_floor (N : Nat) (l : Launch) (dC : Nat → ClassId) (dI : Nat → Nat → Nat) (ad : Nat → Nat) (cI cJ cC : ClassId) (sz : Nat) (σ : zSt) (x0 : Int64) (x2 : Int64) (Q : Int64 → zSt → Prop) (h : w_X12_floor N x0 x2 σ Q) : Met l yX12_floor vs_X12_floor rm_X12_floor (va_Pc [.long x0, .long x2] (zPc (dC, dI) (m_ty cI cJ cC) (m_W ad cI cJ cC) sz σ)) (zQl (dC, dI) (m_ty cI cJ cC) (m_W ad cI cJ cC) (zAW m_n ad sz) Q) 0 0 (zAW m_n ad sz) := by
  refine Met.ofW (cc := cX12_floor) (maxL := 6) (ret := (some .long)) (by decide) rfl ?_
  intro p e s m args below meth c s₁ B hml hv
  obtain ⟨rfl, hsz, hP, hK, hD0⟩ := hv
  subst hsz
  have C0 : zCx p s m meth c _ RX12 cX12_floor 6 (some .long) vs_X12_floor := ⟨B.exec, B.bytes, hml, B.returns, findClass_of_methodNamed B.named, atoms_spec (ws := vs_X12_floor) B.pre, B.notSynchronized⟩
  have hD := m_D0 (n0 := s.heap.size) hD0
  have hl := lv_entry ([.long x0, .long x2]) (n := 6) (Nat.le_of_ble_eq_true rfl)
  rw [lg_entry_eq]
  generalize (lg_sl ([.long x0, .long x2]) ++ List.replicate (6 - (lg_sl ([.long x0, .long x2])).length) Slot.unset).toArray = ls at hl ⊢
  exact t_X12_floor_0 C0 hK N x0 x2 σ _ _ ls h hP hD va_S.rf hl
theorem k_X12_floor (N : Nat) {R : Room} {H : Heap} {locs : List Loc} {cells slots : Nat} {Q2 : State → Prop} {cc : ByteArray} {nL pc index : Nat} {ls : Array Slot} {rest : List Value} {own : String} {c0 : Cond} {σ : zSt} {x0 : Int64} {x2 : Int64} {Q : Int64 → zSt → Prop} (S0 : CallFix p m c cc nL s args (c0 :: zT) own) (hml : Cond.methodLink own index yX12_floor ∈ zT) (hR : rm_X12_floor.frames + 1 ≤ R.frames ∧ 8 + (6 + 11) + rm_X12_floor.locals ≤ R.locals) (h : w_X12_floor N x0 x2 σ Q) (hK : va_K (dC, dI) vwCl (m_ty cI cJ cC) s) (hP : va_P (dC, dI) vwCl (m_W ad cI cJ cC σ) H) (hD : va_D (zAW m_n ad s.heap.size) (m_W ad cI cJ cC σ)) (hS : va_S (zAW m_n ad s.heap.size) s.heap H locs) (hsz : ls.size = nL) (hW : (rest.map fun v => v.category).sum ≤ 8) (hcs : cells ≤ R.cells ∧ slots ≤ R.slots) (hdg : decode cc pc = .ok (.invokestatic index, 3)) (kk : ∀ (r : Int64) (τ : zSt) (H1 : Heap) (locs1 : List Loc), Q r τ → va_P (dC, dI) vwCl (m_W ad cI cJ cC τ) H1 → va_D (zAW m_n ad s.heap.size) (m_W ad cI cJ cC τ) → va_S (zAW m_n ad s.heap.size) s.heap H1 locs1 → W p l e R s m args below meth c H1 locs1 cells slots Q2 (F0 m (pc + 3) ls (.long r :: rest))) : W p l e R s m args below meth c H locs cells slots Q2 (F0 m pc ls (.long x2 :: .long x0 :: rest)) :=
  zcs_l [.long x0, .long x2] S0 (c_X12_floor N l dC dI ad cI cJ cC H.size σ x0 x2 Q h) (cw_X12_floor S0.2.2.2.2 hml hR) hK hP hD hS rfl hsz hW rfl hcs hdg kk
end q19
