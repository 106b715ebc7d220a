section q17
end q17
section q17
def b_X12_personOf_2 (N : Nat) (k_2 : Int64 → Int32 → zSt → Prop) (Q : Int32 → zSt → Prop) (x1 : Int64) (x3 : Int32) (σ : zSt) : Prop :=
  ((σ.2.2.1 1 0) ≤ x3 → Q (-1 : Int32) σ) ∧ (¬ (σ.2.2.1 1 0) ≤ x3 → (vp_in x3 20) ∧ (((lg_cmp (σ.2.2.2 0 x3.toNatClampNeg) x1) = 0 → Q x3 σ) ∧ (¬ (lg_cmp (σ.2.2.2 0 x3.toNatClampNeg) x1) = 0 → ∀ v1 : Int32, v1 = x3 + (1 : Int32) → k_2 x1 v1 σ)))
def w_X12_personOf_2 (N : Nat) (Q : Int32 → zSt → Prop) : Nat → Int64 → Int32 → zSt → Prop
  | 0 => fun _ _ _ => False
  | f + 1 => b_X12_personOf_2 N (w_X12_personOf_2 N  Q f) Q
def w_X12_personOf (N : Nat) (x1 : Int64) (σ : zSt) (Q : Int32 → zSt → Prop) : Prop :=
  w_X12_personOf_2 N Q N x1 (0 : Int32) σ
variable {p : Program} {l : Launch} {e : Env} {s : State} {m : MethodId} {args : Array Value} {below : List Frame} {meth : Method} {c : Code} {dC : Nat → ClassId} {dI : Nat → Nat → Nat} {ad : Nat → Nat} {cI cJ cC : ClassId}
set_option maxHeartbeats 4000000 in
set_option maxRecDepth 100000 in
theorem tb_X12_personOf_2 (C0 : zCx p s m meth c args RX12 cX12_personOf 4 (some .int) vs_X12_personOf) (hK : va_K (dC, dI) vwCl (m_ty cI cJ cC) s) (N : Nat) {Q : Int32 → zSt → Prop} {k_2 : Int64 → Int32 → zSt → Prop} (hk_2 : ∀ (x1 : Int64) (x3 : Int32) (σ : zSt) (H : Heap) (locs : List Loc) (ls : Array Slot), k_2 x1 x3 σ → va_P (dC, dI) vwCl (m_W ad cI cJ cC σ) H → va_D (zAW m_n ad s.heap.size) (m_W ad cI cJ cC σ) → va_S (zAW m_n ad s.heap.size) s.heap H locs → lv_has ls 4 [(0, .ref (ad 0)), (1, .long x1), (3, .int x3)] → W p l e rm_X12_personOf s m args below meth c H locs 0 0 (MQ below (zQi (dC, dI) (m_ty cI cJ cC) (m_W ad cI cJ cC) (zAW m_n ad s.heap.size) Q) args s 0 0 (zAW m_n ad s.heap.size)) (F0 m 2 ls [])) : ∀ (x1 : Int64) (x3 : Int32) (σ : zSt) (H : Heap) (locs : List Loc) (ls : Array Slot), b_X12_personOf_2 N k_2 Q x1 x3 σ → va_P (dC, dI) vwCl (m_W ad cI cJ cC σ) H → va_D (zAW m_n ad s.heap.size) (m_W ad cI cJ cC σ) → va_S (zAW m_n ad s.heap.size) s.heap H locs → lv_has ls 4 [(0, .ref (ad 0)), (1, .long x1), (3, .int x3)] → W p l e rm_X12_personOf s m args below meth c H locs 0 0 (MQ below (zQi (dC, dI) (m_ty cI cJ cC) (m_W ad cI cJ cC) (zAW m_n ad s.heap.size) Q) args s 0 0 (zAW m_n ad s.heap.size)) (F0 m 2 ls []) := by
  obtain ⟨hx, hb, hml, hr, hown, hts, hlocks⟩ := id C0
  intro x1 x3 σ H locs ls h hP hD hS hl
  unfold b_X12_personOf_2 at h
  refine lv_iload_n hx hb dX12_personOf_2 rfl (lv_at hl 2 rfl) ?_
  refine lv_aload_n hx hb dX12_personOf_3 rfl (lv_at hl 0 rfl) ?_
  refine mg_0_29 hx hb hts hown hK hP mw_862 dX12_personOf_4 ?_
  refine lv_iconst (v := (0 : Int32)) hx hb dX12_personOf_7 (by decide) ?_
  refine ma_2 (j := 0) hx hb hK hP (zin (by decide)) (by decide) dX12_personOf_8 ?_
  refine lv_icmp_ge (tgt := 31) hx hb dX12_personOf_9 (by decide) (fun hc => ?_) (fun hc => ?_)
  · have h := h.1 hc
    refine lv_iconst (v := (-1 : Int32)) hx hb dX12_personOf_31 (by decide) ?_
    exact zret_i hx hb hr hlocks hK hP hD hS h dX12_personOf_32
  · have h := h.2 hc
    refine lv_aload_n hx hb dX12_personOf_12 rfl (lv_at hl 0 rfl) ?_
    refine mg_0_30 hx hb hts hown hK hP mw_863 dX12_personOf_13 ?_
    refine lv_iload_n hx hb dX12_personOf_16 rfl (lv_at hl 2 rfl) ?_
    refine ma_3 hx hb hK hP h.1 rfl dX12_personOf_17 ?_
    have h := h.2
    refine lv_lload_n hx hb dX12_personOf_18 rfl (lv_at hl 1 rfl) ?_
    refine W.lcmp hx hb dX12_personOf_19 ?_
    refine lv_if_ne (tgt := 25) hx hb dX12_personOf_20 (by decide) (fun hc => ?_) (fun hc => ?_)
    · have h := h.2 hc
      obtain ⟨v1, ev1⟩ : ∃ z : Int32, z = x3 + (1 : Int32) := ⟨_, rfl⟩
      have h := h v1 ev1
      refine lv_iinc (v := v1) (lv' := [(3, .int v1), (0, .ref (ad 0)), (1, .long x1)]) hx hb dX12_personOf_25 hl (k := 2) rfl (by rw [ev1]; rfl) (by decide) rfl (fun ls hl => ?_)
      refine lv_goto (tgt := 2) hx hb dX12_personOf_28 (by decide) ?_
      exact hk_2 x1 v1 σ _ _ _ h hP hD hS (lv_sub hl [1, 2, 0] rfl)
    · have h := h.1 hc
      refine lv_iload_n hx hb dX12_personOf_23 rfl (lv_at hl 2 rfl) ?_
      exact zret_i hx hb hr hlocks hK hP hD hS h dX12_personOf_24
set_option maxHeartbeats 4000000 in
set_option maxRecDepth 100000 in
theorem t_X12_personOf_2 (C0 : zCx p s m meth c args RX12 cX12_personOf 4 (some .int) vs_X12_personOf) (hK : va_K (dC, dI) vwCl (m_ty cI cJ cC) s) (N : Nat) {Q : Int32 → zSt → Prop} : ∀ (f : Nat) (x1 : Int64) (x3 : Int32) (σ : zSt) (H : Heap) (locs : List Loc) (ls : Array Slot), w_X12_personOf_2 N  Q f x1 x3 σ → va_P (dC, dI) vwCl (m_W ad cI cJ cC σ) H → va_D (zAW m_n ad s.heap.size) (m_W ad cI cJ cC σ) → va_S (zAW m_n ad s.heap.size) s.heap H locs → lv_has ls 4 [(0, .ref (ad 0)), (1, .long x1), (3, .int x3)] → W p l e rm_X12_personOf s m args below meth c H locs 0 0 (MQ below (zQi (dC, dI) (m_ty cI cJ cC) (m_W ad cI cJ cC) (zAW m_n ad s.heap.size) Q) args s 0 0 (zAW m_n ad s.heap.size)) (F0 m 2 ls []) := by
  intro f
  induction f with
  | zero => intro x1 x3 σ H locs ls h; exact h.elim
  | succ f ih =>
    intro x1 x3 σ H locs ls h hP hD hS hl
    exact tb_X12_personOf_2 C0 hK N  (k_2 := w_X12_personOf_2 N  Q f) ih x1 x3 σ H locs ls h hP hD hS hl
set_option maxHeartbeats 4000000 in
set_option maxRecDepth 100000 in
theorem t_X12_personOf_0 (C0 : zCx p s m meth c args RX12 cX12_personOf 4 (some .int) vs_X12_personOf) (hK : va_K (dC, dI) vwCl (m_ty cI cJ cC) s) (N : Nat) {Q : Int32 → zSt → Prop} : ∀ (x1 : Int64) (σ : zSt) (H : Heap) (locs : List Loc) (ls : Array Slot), w_X12_personOf N x1 σ Q → va_P (dC, dI) vwCl (m_W ad cI cJ cC σ) H → va_D (zAW m_n ad s.heap.size) (m_W ad cI cJ cC σ) → va_S (zAW m_n ad s.heap.size) s.heap H locs → lv_has ls 4 [(0, .ref (ad 0)), (1, .long x1)] → W p l e rm_X12_personOf s m args below meth c H locs 0 0 (MQ below (zQi (dC, dI) (m_ty cI cJ cC) (m_W ad cI cJ cC) (zAW m_n ad s.heap.size) Q) args s 0 0 (zAW m_n ad s.heap.size)) (F0 m 0 ls []) := by
  obtain ⟨hx, hb, hml, hr, hown, hts, hlocks⟩ := id C0
  intro x1 σ H locs ls h hP hD hS hl
  unfold w_X12_personOf at h
  refine lv_iconst (v := (0 : Int32)) hx hb dX12_personOf_0 (by decide) ?_
  refine lv_istore_n (lv' := [(3, .int (0 : Int32)), (0, .ref (ad 0)), (1, .long x1)]) hx hb dX12_personOf_1 rfl hl (by decide) rfl (fun ls hl => ?_)
  exact t_X12_personOf_2 C0 hK N  N x1 (0 : Int32) σ _ _ _ h hP hD hS (lv_sub hl [1, 2, 0] rfl)
set_option maxHeartbeats 4000000 in
set_option maxRecDepth 100000 in
theorem c_X12_personOf (N : Nat) (l : Launch) (dC : Nat → ClassId) (dI : Nat → Nat → Nat) (ad : Nat → Nat) (cI cJ cC : ClassId) (sz : Nat) (σ : zSt) (x1 : Int64) (Q : Int32 → zSt → Prop) (h : w_X12_personOf N x1 σ Q) : Met l yX12_personOf vs_X12_personOf rm_X12_personOf (va_Pc [.ref (ad 0), .long x1] (zPc (dC, dI) (m_ty cI cJ cC) (m_W ad cI cJ cC) sz σ)) (zQi (dC, dI) (m_ty cI cJ cC) (m_W ad cI cJ cC) (zAW m_n ad sz) Q) 0 0 (zAW m_n ad sz) := by
  refine Met.ofW (cc := cX12_personOf) (maxL := 4) (ret := (some .int)) (by decide) rfl ?_
  intro p e s m args below meth c s₁ B hml hv
  obtain ⟨rfl, hsz, hP, hK, hD0⟩ := hv
  subst hsz
  have C0 : zCx p s m meth c _ RX12 cX12_personOf 4 (some .int) vs_X12_personOf := ⟨B.exec, B.bytes, hml, B.returns, findClass_of_methodNamed B.named, atoms_spec (ws := vs_X12_personOf) B.pre, B.notSynchronized⟩
  have hD := m_D0 (n0 := s.heap.size) hD0
  have hl := lv_entry ([.ref (ad 0), .long x1]) (n := 4) (Nat.le_of_ble_eq_true rfl)
  rw [lg_entry_eq]
  generalize (lg_sl ([.ref (ad 0), .long x1]) ++ List.replicate (4 - (lg_sl ([.ref (ad 0), .long x1])).length) Slot.unset).toArray = ls at hl ⊢
  exact t_X12_personOf_0 C0 hK N x1 σ _ _ ls h hP hD va_S.rf hl
theorem k_X12_personOf (N : Nat) {R : Room} {H : Heap} {locs : List Loc} {cells slots : Nat} {Q2 : State → Prop} {cc : ByteArray} {nL pc index : Nat} {ls : Array Slot} {rest : List Value} {own : String} {c0 : Cond} {σ : zSt} {x1 : Int64} {Q : Int32 → zSt → Prop} (S0 : CallFix p m c cc nL s args (c0 :: zT) own) (hml : Cond.methodLink own index yX12_personOf ∈ zT) (hR : rm_X12_personOf.frames + 1 ≤ R.frames ∧ 8 + (4 + 11) + rm_X12_personOf.locals ≤ R.locals) (h : w_X12_personOf N x1 σ Q) (hK : va_K (dC, dI) vwCl (m_ty cI cJ cC) s) (hP : va_P (dC, dI) vwCl (m_W ad cI cJ cC σ) H) (hD : va_D (zAW m_n ad s.heap.size) (m_W ad cI cJ cC σ)) (hS : va_S (zAW m_n ad s.heap.size) s.heap H locs) (hsz : ls.size = nL) (hW : (rest.map fun v => v.category).sum ≤ 8) (hcs : cells ≤ R.cells ∧ slots ≤ R.slots) (hdg : decode cc pc = .ok (.invokevirtual index, 3)) (kk : ∀ (r : Int32) (τ : zSt) (H1 : Heap) (locs1 : List Loc), Q r τ → va_P (dC, dI) vwCl (m_W ad cI cJ cC τ) H1 → va_D (zAW m_n ad s.heap.size) (m_W ad cI cJ cC τ) → va_S (zAW m_n ad s.heap.size) s.heap H1 locs1 → W p l e R s m args below meth c H1 locs1 cells slots Q2 (F0 m (pc + 3) ls (.int r :: rest))) : W p l e R s m args below meth c H locs cells slots Q2 (F0 m pc ls (.long x1 :: .ref (ad 0) :: rest)) :=
  zcv_i (T := TX12) (N' := 83) (k := 0) (ci := 12) (fs := m_f0 ad σ) [.long x1] S0 (c_X12_personOf N l dC dI ad cI cJ cC H.size σ x1 Q h) (cw_X12_personOf S0.2.2.2.2 hml rfl rfl hR) rfl rfl hK hP hD hS rfl hsz hW rfl hcs hdg kk
end q17
section q17
def b_X12_personTold_42 (N : Nat) (Q : Int32 → zSt → Prop) (x4 : Int32) (σ : zSt) : Prop :=
  (x4 = (-1 : Int32) → Q (0 : Int32) σ) ∧ (¬ x4 = (-1 : Int32) → Q x4 σ)
def b_X12_personTold_33 (N : Nat) (Q : Int32 → zSt → Prop) (x4 : Int32) (σ : zSt) : Prop :=
  w_X12_fail N (3 : Int32) (σ.1 8) σ (fun τ2 => b_X12_personTold_42 N Q x4 τ2)
def w_X12_personTold (N : Nat) (x1 : Int32) (σ : zSt) (Q : Int32 → zSt → Prop) : Prop :=
  w_X12_name N σ (fun r1 τ2 => ((τ2.1 4) = 0 → w_X12_personOf N r1 τ2 (fun r3 τ4 => (r3 = (-1 : Int32) → b_X12_personTold_33 N Q r3 τ4) ∧ (¬ r3 = (-1 : Int32) → (r3 = x1 → b_X12_personTold_33 N Q r3 τ4) ∧ (¬ r3 = x1 → b_X12_personTold_42 N Q r3 τ4)))) ∧ (¬ (τ2.1 4) = 0 → Q (0 : Int32) τ2))
variable {p : Program} {l : Launch} {e : Env} {s : State} {m : MethodId} {args : Array Value} {below : List Frame} {meth : Method} {c : Code} {dC : Nat → ClassId} {dI : Nat → Nat → Nat} {ad : Nat → Nat} {cI cJ cC : ClassId}
set_option maxHeartbeats 4000000 in
set_option maxRecDepth 100000 in
theorem t_X12_personTold_42 (C0 : zCx p s m meth c args RX12 cX12_personTold 5 (some .int) vs_X12_personTold) (hK : va_K (dC, dI) vwCl (m_ty cI cJ cC) s) (N : Nat) {Q : Int32 → zSt → Prop} : ∀ (x4 : Int32) (σ : zSt) (H : Heap) (locs : List Loc) (ls : Array Slot), b_X12_personTold_42 N  Q x4 σ → va_P (dC, dI) vwCl (m_W ad cI cJ cC σ) H → va_D (zAW m_n ad s.heap.size) (m_W ad cI cJ cC σ) → va_S (zAW m_n ad s.heap.size) s.heap H locs → lv_has ls 5 [(4, .int x4)] → W p l e rm_X12_personTold s m args below meth c H locs 0 0 (MQ below (zQi (dC, dI) (m_ty cI cJ cC) (m_W ad cI cJ cC) (zAW m_n ad s.heap.size) Q) args s 0 0 (zAW m_n ad s.heap.size)) (F0 m 42 ls []) := by
  obtain ⟨hx, hb, hml, hr, hown, hts, hlocks⟩ := id C0
  intro x4 σ H locs ls h hP hD hS hl
  unfold b_X12_personTold_42 at h
  refine lv_iload hx hb dX12_personTold_42 (lv_at hl 0 rfl) ?_
  refine lv_iconst (v := (-1 : Int32)) hx hb dX12_personTold_44 (by decide) ?_
  refine lv_icmp_ne (tgt := 52) hx hb dX12_personTold_45 (by decide) (fun hc => ?_) (fun hc => ?_)
  · have h := h.2 hc
    refine lv_iload hx hb dX12_personTold_52 (lv_at hl 0 rfl) ?_
    exact zret_i hx hb hr hlocks hK hP hD hS h dX12_personTold_54
  · have h := h.1 hc
    refine lv_iconst (v := (0 : Int32)) hx hb dX12_personTold_48 (by decide) ?_
    refine lv_goto (tgt := 54) hx hb dX12_personTold_49 (by decide) ?_
    exact zret_i hx hb hr hlocks hK hP hD hS h dX12_personTold_54
set_option maxHeartbeats 4000000 in
set_option maxRecDepth 100000 in
theorem t_X12_personTold_33 (C0 : zCx p s m meth c args RX12 cX12_personTold 5 (some .int) vs_X12_personTold) (hK : va_K (dC, dI) vwCl (m_ty cI cJ cC) s) (N : Nat) {Q : Int32 → zSt → Prop} : ∀ (x4 : Int32) (σ : zSt) (H : Heap) (locs : List Loc) (ls : Array Slot), b_X12_personTold_33 N  Q x4 σ → va_P (dC, dI) vwCl (m_W ad cI cJ cC σ) H → va_D (zAW m_n ad s.heap.size) (m_W ad cI cJ cC σ) → va_S (zAW m_n ad s.heap.size) s.heap H locs → lv_has ls 5 [(0, .ref (ad 0)), (4, .int x4)] → W p l e rm_X12_personTold s m args below meth c H locs 0 0 (MQ below (zQi (dC, dI) (m_ty cI cJ cC) (m_W ad cI cJ cC) (zAW m_n ad s.heap.size) Q) args s 0 0 (zAW m_n ad s.heap.size)) (F0 m 33 ls []) := by
  obtain ⟨hx, hb, hml, hr, hown, hts, hlocks⟩ := id C0
  intro x4 σ H locs ls h hP hD hS hl
  unfold b_X12_personTold_33 at h
  refine lv_aload_n hx hb dX12_personTold_33 rfl (lv_at hl 0 rfl) ?_
  refine lv_iconst (v := (3 : Int32)) hx hb dX12_personTold_34 (by decide) ?_
  refine lv_aload_n hx hb dX12_personTold_35 rfl (lv_at hl 0 rfl) ?_
  refine mg_0_28 hx hb hts hown hK hP mw_861 dX12_personTold_36 ?_
  refine k_X12_fail N ⟨hx, hb, hml, hown, hts⟩ mw_944 ⟨Nat.le_of_ble_eq_true rfl, Nat.le_of_ble_eq_true rfl⟩ h hK hP hD hS hl.1 (rest := []) (Nat.le_of_ble_eq_true rfl) ⟨Nat.le_of_ble_eq_true rfl, Nat.le_of_ble_eq_true rfl⟩ dX12_personTold_39 (fun τ2 H locs h hP hD hS => ?_)
  exact t_X12_personTold_42 C0 hK N  x4 τ2 _ _ _ h hP hD hS (lv_sub hl [1] rfl)
set_option maxHeartbeats 4000000 in
set_option maxRecDepth 100000 in
theorem t_X12_personTold_0 (C0 : zCx p s m meth c args RX12 cX12_personTold 5 (some .int) vs_X12_personTold) (hK : va_K (dC, dI) vwCl (m_ty cI cJ cC) s) (N : Nat) {Q : Int32 → zSt → Prop} : ∀ (x1 : Int32) (σ : zSt) (H : Heap) (locs : List Loc) (ls : Array Slot), w_X12_personTold N x1 σ Q → va_P (dC, dI) vwCl (m_W ad cI cJ cC σ) H → va_D (zAW m_n ad s.heap.size) (m_W ad cI cJ cC σ) → va_S (zAW m_n ad s.heap.size) s.heap H locs → lv_has ls 5 [(0, .ref (ad 0)), (1, .int x1)] → W p l e rm_X12_personTold s m args below meth c H locs 0 0 (MQ below (zQi (dC, dI) (m_ty cI cJ cC) (m_W ad cI cJ cC) (zAW m_n ad s.heap.size) Q) args s 0 0 (zAW m_n ad s.heap.size)) (F0 m 0 ls []) := by
  obtain ⟨hx, hb, hml, hr, hown, hts, hlocks⟩ := id C0
  intro x1 σ H locs ls h hP hD hS hl
  unfold w_X12_personTold at h
  refine lv_aload_n hx hb dX12_personTold_0 rfl (lv_at hl 0 rfl) ?_
  refine k_X12_name N ⟨hx, hb, hml, hown, hts⟩ mw_950 ⟨Nat.le_of_ble_eq_true rfl, Nat.le_of_ble_eq_true rfl⟩ h hK hP hD hS hl.1 (rest := []) (Nat.le_of_ble_eq_true rfl) ⟨Nat.le_of_ble_eq_true rfl, Nat.le_of_ble_eq_true rfl⟩ dX12_personTold_1 (fun r1 τ2 H locs h hP hD hS => ?_)
  refine lv_lstore_n (lv' := [(2, .long r1), (0, .ref (ad 0)), (1, .int x1)]) hx hb dX12_personTold_4 rfl hl (by decide) rfl (fun ls hl => ?_)
  refine lv_aload_n hx hb dX12_personTold_5 rfl (lv_at hl 1 rfl) ?_
  refine mg_0_5 hx hb hts hown hK hP mw_838 dX12_personTold_6 ?_
  refine lv_if_eq (tgt := 14) hx hb dX12_personTold_9 (by decide) (fun hc => ?_) (fun hc => ?_)
  · have h := h.1 hc
    refine lv_aload_n hx hb dX12_personTold_14 rfl (lv_at hl 1 rfl) ?_
    refine lv_lload_n hx hb dX12_personTold_15 rfl (lv_at hl 0 rfl) ?_
    refine k_X12_personOf N ⟨hx, hb, hml, hown, hts⟩ mw_958 ⟨Nat.le_of_ble_eq_true rfl, Nat.le_of_ble_eq_true rfl⟩ h hK hP hD hS hl.1 (rest := []) (Nat.le_of_ble_eq_true rfl) ⟨Nat.le_of_ble_eq_true rfl, Nat.le_of_ble_eq_true rfl⟩ dX12_personTold_16 (fun r3 τ4 H locs h hP hD hS => ?_)
    refine lv_istore (lv' := [(4, .int r3), (2, .long r1), (0, .ref (ad 0)), (1, .int x1)]) hx hb dX12_personTold_19 hl (by decide) rfl (fun ls hl => ?_)
    refine lv_iload hx hb dX12_personTold_21 (lv_at hl 0 rfl) ?_
    refine lv_iconst (v := (-1 : Int32)) hx hb dX12_personTold_23 (by decide) ?_
    refine lv_icmp_eq (tgt := 33) hx hb dX12_personTold_24 (by decide) (fun hc => ?_) (fun hc => ?_)
    · have h := h.1 hc
      exact t_X12_personTold_33 C0 hK N  r3 τ4 _ _ _ h hP hD hS (lv_sub hl [2, 0] rfl)
    · have h := h.2 hc
      refine lv_iload hx hb dX12_personTold_27 (lv_at hl 0 rfl) ?_
      refine lv_iload_n hx hb dX12_personTold_29 rfl (lv_at hl 3 rfl) ?_
      refine lv_icmp_ne (tgt := 42) hx hb dX12_personTold_30 (by decide) (fun hc => ?_) (fun hc => ?_)
      · have h := h.2 hc
        exact t_X12_personTold_42 C0 hK N  r3 τ4 _ _ _ h hP hD hS (lv_sub hl [0] rfl)
      · have h := h.1 hc
        exact t_X12_personTold_33 C0 hK N  r3 τ4 _ _ _ h hP hD hS (lv_sub hl [2, 0] rfl)
  · have h := h.2 hc
    refine lv_iconst (v := (0 : Int32)) hx hb dX12_personTold_12 (by decide) ?_
    exact zret_i hx hb hr hlocks hK hP hD hS h dX12_personTold_13
set_option maxHeartbeats 4000000 in
set_option maxRecDepth 100000 in
theorem c_X12_personTold (N : Nat) (l : Launch) (dC : Nat → ClassId) (dI : Nat → Nat → Nat) (ad : Nat → Nat) (cI cJ cC : ClassId) (sz : Nat) (σ : zSt) (x1 : Int32) (Q : Int32 → zSt → Prop) (h : w_X12_personTold N x1 σ Q) : Met l yX12_personTold vs_X12_personTold rm_X12_personTold (va_Pc [.ref (ad 0), .int x1] (zPc (dC, dI) (m_ty cI cJ cC) (m_W ad cI cJ cC) sz σ)) (zQi (dC, dI) (m_ty cI cJ cC) (m_W ad cI cJ cC) (zAW m_n ad sz) Q) 0 0 (zAW m_n ad sz) := by
  refine Met.ofW (cc := cX12_personTold) (maxL := 5) (ret := (some .int)) (by decide) rfl ?_
  intro p e s m args below meth c s₁ B hml hv
  obtain ⟨rfl, hsz, hP, hK, hD0⟩ := hv
  subst hsz
  have C0 : zCx p s m meth c _ RX12 cX12_personTold 5 (some .int) vs_X12_personTold := ⟨B.exec, B.bytes, hml, B.returns, findClass_of_methodNamed B.named, atoms_spec (ws := vs_X12_personTold) B.pre, B.notSynchronized⟩
  have hD := m_D0 (n0 := s.heap.size) hD0
  have hl := lv_entry ([.ref (ad 0), .int x1]) (n := 5) (Nat.le_of_ble_eq_true rfl)
  rw [lg_entry_eq]
  generalize (lg_sl ([.ref (ad 0), .int x1]) ++ List.replicate (5 - (lg_sl ([.ref (ad 0), .int x1])).length) Slot.unset).toArray = ls at hl ⊢
  exact t_X12_personTold_0 C0 hK N x1 σ _ _ ls h hP hD va_S.rf hl
theorem k_X12_personTold (N : Nat) {R : Room} {H : Heap} {locs : List Loc} {cells slots : Nat} {Q2 : State → Prop} {cc : ByteArray} {nL pc index : Nat} {ls : Array Slot} {rest : List Value} {own : String} {c0 : Cond} {σ : zSt} {x1 : Int32} {Q : Int32 → zSt → Prop} (S0 : CallFix p m c cc nL s args (c0 :: zT) own) (hml : Cond.methodLink own index yX12_personTold ∈ zT) (hR : rm_X12_personTold.frames + 1 ≤ R.frames ∧ 8 + (5 + 11) + rm_X12_personTold.locals ≤ R.locals) (h : w_X12_personTold N x1 σ Q) (hK : va_K (dC, dI) vwCl (m_ty cI cJ cC) s) (hP : va_P (dC, dI) vwCl (m_W ad cI cJ cC σ) H) (hD : va_D (zAW m_n ad s.heap.size) (m_W ad cI cJ cC σ)) (hS : va_S (zAW m_n ad s.heap.size) s.heap H locs) (hsz : ls.size = nL) (hW : (rest.map fun v => v.category).sum ≤ 8) (hcs : cells ≤ R.cells ∧ slots ≤ R.slots) (hdg : decode cc pc = .ok (.invokevirtual index, 3)) (kk : ∀ (r : Int32) (τ : zSt) (H1 : Heap) (locs1 : List Loc), Q r τ → va_P (dC, dI) vwCl (m_W ad cI cJ cC τ) H1 → va_D (zAW m_n ad s.heap.size) (m_W ad cI cJ cC τ) → va_S (zAW m_n ad s.heap.size) s.heap H1 locs1 → W p l e R s m args below meth c H1 locs1 cells slots Q2 (F0 m (pc + 3) ls (.int r :: rest))) : W p l e R s m args below meth c H locs cells slots Q2 (F0 m pc ls (.int x1 :: .ref (ad 0) :: rest)) :=
  zcv_i (T := TX12) (N' := 83) (k := 0) (ci := 12) (fs := m_f0 ad σ) [.int x1] S0 (c_X12_personTold N l dC dI ad cI cJ cC H.size σ x1 Q h) (cw_X12_personTold S0.2.2.2.2 hml rfl rfl hR) rfl rfl hK hP hD hS rfl hsz hW rfl hcs hdg kk
end q17
section q17
def b_X12_fact_126 (N : Nat) (Q : zSt → Prop) (s0 : Int32) (σ : zSt) : Prop :=
  w_X12_code N s0 σ (fun τ2 => Q τ2)
def b_X12_fact_87 (N : Nat) (Q : zSt → Prop) (x1 : Int32) (σ : zSt) : Prop :=
  ∀ τ1 : zSt, τ1 = zI σ 1 ((σ.1 1) + (1 : Int32)) → w_X12_sums N τ1 (fun τ3 => (x1 = (60 : Int32) → b_X12_fact_126 N Q (11 : Int32) τ3) ∧ (¬ x1 = (60 : Int32) → (x1 = (62 : Int32) → b_X12_fact_126 N Q (12 : Int32) τ3) ∧ (¬ x1 = (62 : Int32) → b_X12_fact_126 N Q (13 : Int32) τ3)))
def w_X12_fact (N : Nat)  (σ : zSt) (Q : zSt → Prop) : Prop :=
  w_X12_takes N 10 σ (fun r1 τ2 => (r1 = 0 → w_X12_takes N 11 τ2 (fun r3 τ4 => (r3 = 0 → w_X12_sums N τ4 (fun τ6 => ((τ6.1 4) = 0 → w_X12_look N τ6 (fun r7 τ8 => (r7 = (60 : Int32) → b_X12_fact_87 N Q r7 τ8) ∧ (¬ r7 = (60 : Int32) → (r7 = (62 : Int32) → b_X12_fact_87 N Q r7 τ8) ∧ (¬ r7 = (62 : Int32) → (r7 = (61 : Int32) → b_X12_fact_87 N Q r7 τ8) ∧ (¬ r7 = (61 : Int32) → w_X12_fail N (1 : Int32) (τ8.1 1) τ8 (fun τ10 => Q τ10)))))) ∧ (¬ (τ6.1 4) = 0 → Q τ6))) ∧ (¬ r3 = 0 → w_X12_personTold N (-1 : Int32) τ4 (fun r11 τ12 => w_X12_code N ((100 : Int32) + r11) τ12 (fun τ14 => Q τ14))))) ∧ (¬ r1 = 0 → w_X12_code N (17 : Int32) τ2 (fun τ16 => Q τ16)))
variable {p : Program} {l : Launch} {e : Env} {s : State} {m : MethodId} {args : Array Value} {below : List Frame} {meth : Method} {c : Code} {dC : Nat → ClassId} {dI : Nat → Nat → Nat} {ad : Nat → Nat} {cI cJ cC : ClassId}
set_option maxHeartbeats 4000000 in
set_option maxRecDepth 100000 in
theorem t_X12_fact_126 (C0 : zCx p s m meth c args RX12 cX12_fact 2 none vs_X12_fact) (hK : va_K (dC, dI) vwCl (m_ty cI cJ cC) s) (N : Nat) {Q : zSt → Prop} : ∀ (s0 : Int32) (σ : zSt) (H : Heap) (locs : List Loc) (ls : Array Slot), b_X12_fact_126 N  Q s0 σ → va_P (dC, dI) vwCl (m_W ad cI cJ cC σ) H → va_D (zAW m_n ad s.heap.size) (m_W ad cI cJ cC σ) → va_S (zAW m_n ad s.heap.size) s.heap H locs → lv_has ls 2 [] → W p l e rm_X12_fact s m args below meth c H locs 0 0 (MQ below (zQv (dC, dI) (m_ty cI cJ cC) (m_W ad cI cJ cC) (zAW m_n ad s.heap.size) Q) args s 0 0 (zAW m_n ad s.heap.size)) (F0 m 126 ls [.int s0, .ref (ad 0)]) := by
  obtain ⟨hx, hb, hml, hr, hown, hts, hlocks⟩ := id C0
  intro s0 σ H locs ls h hP hD hS hl
  unfold b_X12_fact_126 at h
  refine k_X12_code N ⟨hx, hb, hml, hown, hts⟩ mw_991 ⟨Nat.le_of_ble_eq_true rfl, Nat.le_of_ble_eq_true rfl⟩ h hK hP hD hS hl.1 (rest := []) (Nat.le_of_ble_eq_true rfl) ⟨Nat.le_of_ble_eq_true rfl, Nat.le_of_ble_eq_true rfl⟩ dX12_fact_126 (fun τ2 H locs h hP hD hS => ?_)
  exact zret_v hx hb hr hlocks hK hP hD hS h dX12_fact_129
set_option maxHeartbeats 4000000 in
set_option maxRecDepth 100000 in
theorem t_X12_fact_87 (C0 : zCx p s m meth c args RX12 cX12_fact 2 none vs_X12_fact) (hK : va_K (dC, dI) vwCl (m_ty cI cJ cC) s) (N : Nat) {Q : zSt → Prop} : ∀ (x1 : Int32) (σ : zSt) (H : Heap) (locs : List Loc) (ls : Array Slot), b_X12_fact_87 N  Q x1 σ → va_P (dC, dI) vwCl (m_W ad cI cJ cC σ) H → va_D (zAW m_n ad s.heap.size) (m_W ad cI cJ cC σ) → va_S (zAW m_n ad s.heap.size) s.heap H locs → lv_has ls 2 [(0, .ref (ad 0)), (1, .int x1)] → W p l e rm_X12_fact s m args below meth c H locs 0 0 (MQ below (zQv (dC, dI) (m_ty cI cJ cC) (m_W ad cI cJ cC) (zAW m_n ad s.heap.size) Q) args s 0 0 (zAW m_n ad s.heap.size)) (F0 m 87 ls []) := by
  obtain ⟨hx, hb, hml, hr, hown, hts, hlocks⟩ := id C0
  intro x1 σ H locs ls h hP hD hS hl
  unfold b_X12_fact_87 at h
  refine lv_aload_n hx hb dX12_fact_87 rfl (lv_at hl 0 rfl) ?_
  refine lv_dup hx hb dX12_fact_88 rfl ?_
  refine mg_0_2 hx hb hts hown hK hP mw_835 dX12_fact_89 ?_
  refine lv_iconst (v := (1 : Int32)) hx hb dX12_fact_92 (by decide) ?_
  refine lv_iadd hx hb dX12_fact_93 ?_
  refine mp_0_2 hx hb hts hown hK hP hD hS mw_835 dX12_fact_94 (fun τ1 H locs eτ1 hP hD hS => ?_)
  have h := h τ1 eτ1
  refine lv_aload_n hx hb dX12_fact_97 rfl (lv_at hl 0 rfl) ?_
  refine k_X12_sums N ⟨hx, hb, hml, hown, hts⟩ mw_976 ⟨Nat.le_of_ble_eq_true rfl, Nat.le_of_ble_eq_true rfl⟩ h hK hP hD hS hl.1 (rest := []) (Nat.le_of_ble_eq_true rfl) ⟨Nat.le_of_ble_eq_true rfl, Nat.le_of_ble_eq_true rfl⟩ dX12_fact_98 (fun τ3 H locs h hP hD hS => ?_)
  refine lv_aload_n hx hb dX12_fact_101 rfl (lv_at hl 0 rfl) ?_
  refine lv_iload_n hx hb dX12_fact_102 rfl (lv_at hl 1 rfl) ?_
  refine lv_bipush (v := (60 : Int32)) hx hb dX12_fact_103 (by decide) ?_
  refine lv_icmp_ne (tgt := 113) hx hb dX12_fact_105 (by decide) (fun hc => ?_) (fun hc => ?_)
  · have h := h.2 hc
    refine lv_iload_n hx hb dX12_fact_113 rfl (lv_at hl 1 rfl) ?_
    refine lv_bipush (v := (62 : Int32)) hx hb dX12_fact_114 (by decide) ?_
    refine lv_icmp_ne (tgt := 124) hx hb dX12_fact_116 (by decide) (fun hc => ?_) (fun hc => ?_)
    · have h := h.2 hc
      refine lv_bipush (v := (13 : Int32)) hx hb dX12_fact_124 (by decide) ?_
      exact t_X12_fact_126 C0 hK N  (13 : Int32) τ3 _ _ _ h hP hD hS (lv_sub hl [] rfl)
    · have h := h.1 hc
      refine lv_bipush (v := (12 : Int32)) hx hb dX12_fact_119 (by decide) ?_
      refine lv_goto (tgt := 126) hx hb dX12_fact_121 (by decide) ?_
      exact t_X12_fact_126 C0 hK N  (12 : Int32) τ3 _ _ _ h hP hD hS (lv_sub hl [] rfl)
  · have h := h.1 hc
    refine lv_bipush (v := (11 : Int32)) hx hb dX12_fact_108 (by decide) ?_
    refine lv_goto (tgt := 126) hx hb dX12_fact_110 (by decide) ?_
    exact t_X12_fact_126 C0 hK N  (11 : Int32) τ3 _ _ _ h hP hD hS (lv_sub hl [] rfl)
set_option maxHeartbeats 4000000 in
set_option maxRecDepth 100000 in
theorem t_X12_fact_0 (C0 : zCx p s m meth c args RX12 cX12_fact 2 none vs_X12_fact) (hK : va_K (dC, dI) vwCl (m_ty cI cJ cC) s) (N : Nat) {Q : zSt → Prop} : ∀  (σ : zSt) (H : Heap) (locs : List Loc) (ls : Array Slot), w_X12_fact N  σ Q → va_P (dC, dI) vwCl (m_W ad cI cJ cC σ) H → va_D (zAW m_n ad s.heap.size) (m_W ad cI cJ cC σ) → va_S (zAW m_n ad s.heap.size) s.heap H locs → lv_has ls 2 [(0, .ref (ad 0))] → W p l e rm_X12_fact s m args below meth c H locs 0 0 (MQ below (zQv (dC, dI) (m_ty cI cJ cC) (m_W ad cI cJ cC) (zAW m_n ad s.heap.size) Q) args s 0 0 (zAW m_n ad s.heap.size)) (F0 m 0 ls []) := by
  obtain ⟨hx, hb, hml, hr, hown, hts, hlocks⟩ := id C0
  intro  σ H locs ls h hP hD hS hl
  unfold w_X12_fact at h
  refine lv_aload_n hx hb dX12_fact_0 rfl (lv_at hl 0 rfl) ?_
  refine lv_aload_n hx hb dX12_fact_1 rfl (lv_at hl 0 rfl) ?_
  refine mg_0_19 hx hb hts hown hK hP mw_852 dX12_fact_2 ?_
  refine k_X12_takes N (w := 10) (by decide) ⟨hx, hb, hml, hown, hts⟩ mw_935 ⟨Nat.le_of_ble_eq_true rfl, Nat.le_of_ble_eq_true rfl⟩ h hK hP hD hS hl.1 (rest := []) (Nat.le_of_ble_eq_true rfl) ⟨Nat.le_of_ble_eq_true rfl, Nat.le_of_ble_eq_true rfl⟩ dX12_fact_5 (fun r1 τ2 H locs h hP hD hS => ?_)
  refine lv_if_eq (tgt := 18) hx hb dX12_fact_8 (by decide) (fun hc => ?_) (fun hc => ?_)
  · have h := h.1 hc
    refine lv_aload_n hx hb dX12_fact_18 rfl (lv_at hl 0 rfl) ?_
    refine lv_aload_n hx hb dX12_fact_19 rfl (lv_at hl 0 rfl) ?_
    refine mg_0_20 hx hb hts hown hK hP mw_853 dX12_fact_20 ?_
    refine k_X12_takes N (w := 11) (by decide) ⟨hx, hb, hml, hown, hts⟩ mw_935 ⟨Nat.le_of_ble_eq_true rfl, Nat.le_of_ble_eq_true rfl⟩ h hK hP hD hS hl.1 (rest := []) (Nat.le_of_ble_eq_true rfl) ⟨Nat.le_of_ble_eq_true rfl, Nat.le_of_ble_eq_true rfl⟩ dX12_fact_23 (fun r3 τ4 H locs h hP hD hS => ?_)
    refine lv_if_eq (tgt := 42) hx hb dX12_fact_26 (by decide) (fun hc => ?_) (fun hc => ?_)
    · have h := h.1 hc
      refine lv_aload_n hx hb dX12_fact_42 rfl (lv_at hl 0 rfl) ?_
      refine k_X12_sums N ⟨hx, hb, hml, hown, hts⟩ mw_976 ⟨Nat.le_of_ble_eq_true rfl, Nat.le_of_ble_eq_true rfl⟩ h hK hP hD hS hl.1 (rest := []) (Nat.le_of_ble_eq_true rfl) ⟨Nat.le_of_ble_eq_true rfl, Nat.le_of_ble_eq_true rfl⟩ dX12_fact_43 (fun τ6 H locs h hP hD hS => ?_)
      refine lv_aload_n hx hb dX12_fact_46 rfl (lv_at hl 0 rfl) ?_
      refine mg_0_5 hx hb hts hown hK hP mw_838 dX12_fact_47 ?_
      refine lv_if_eq (tgt := 54) hx hb dX12_fact_50 (by decide) (fun hc => ?_) (fun hc => ?_)
      · have h := h.1 hc
        refine lv_aload_n hx hb dX12_fact_54 rfl (lv_at hl 0 rfl) ?_
        refine k_X12_look N ⟨hx, hb, hml, hown, hts⟩ mw_929 ⟨Nat.le_of_ble_eq_true rfl, Nat.le_of_ble_eq_true rfl⟩ h hK hP hD hS hl.1 (rest := []) (Nat.le_of_ble_eq_true rfl) ⟨Nat.le_of_ble_eq_true rfl, Nat.le_of_ble_eq_true rfl⟩ dX12_fact_55 (fun r7 τ8 H locs h hP hD hS => ?_)
        refine lv_istore_n (lv' := [(1, .int r7), (0, .ref (ad 0))]) hx hb dX12_fact_58 rfl hl (by decide) rfl (fun ls hl => ?_)
        refine lv_iload_n hx hb dX12_fact_59 rfl (lv_at hl 0 rfl) ?_
        refine lv_bipush (v := (60 : Int32)) hx hb dX12_fact_60 (by decide) ?_
        refine lv_icmp_eq (tgt := 87) hx hb dX12_fact_62 (by decide) (fun hc => ?_) (fun hc => ?_)
        · have h := h.1 hc
          exact t_X12_fact_87 C0 hK N  r7 τ8 _ _ _ h hP hD hS (lv_sub hl [1, 0] rfl)
        · have h := h.2 hc
          refine lv_iload_n hx hb dX12_fact_65 rfl (lv_at hl 0 rfl) ?_
          refine lv_bipush (v := (62 : Int32)) hx hb dX12_fact_66 (by decide) ?_
          refine lv_icmp_eq (tgt := 87) hx hb dX12_fact_68 (by decide) (fun hc => ?_) (fun hc => ?_)
          · have h := h.1 hc
            exact t_X12_fact_87 C0 hK N  r7 τ8 _ _ _ h hP hD hS (lv_sub hl [1, 0] rfl)
          · have h := h.2 hc
            refine lv_iload_n hx hb dX12_fact_71 rfl (lv_at hl 0 rfl) ?_
            refine lv_bipush (v := (61 : Int32)) hx hb dX12_fact_72 (by decide) ?_
            refine lv_icmp_eq (tgt := 87) hx hb dX12_fact_74 (by decide) (fun hc => ?_) (fun hc => ?_)
            · have h := h.1 hc
              exact t_X12_fact_87 C0 hK N  r7 τ8 _ _ _ h hP hD hS (lv_sub hl [1, 0] rfl)
            · have h := h.2 hc
              refine lv_aload_n hx hb dX12_fact_77 rfl (lv_at hl 1 rfl) ?_
              refine lv_iconst (v := (1 : Int32)) hx hb dX12_fact_78 (by decide) ?_
              refine lv_aload_n hx hb dX12_fact_79 rfl (lv_at hl 1 rfl) ?_
              refine mg_0_2 hx hb hts hown hK hP mw_835 dX12_fact_80 ?_
              refine k_X12_fail N ⟨hx, hb, hml, hown, hts⟩ mw_944 ⟨Nat.le_of_ble_eq_true rfl, Nat.le_of_ble_eq_true rfl⟩ h hK hP hD hS hl.1 (rest := []) (Nat.le_of_ble_eq_true rfl) ⟨Nat.le_of_ble_eq_true rfl, Nat.le_of_ble_eq_true rfl⟩ dX12_fact_83 (fun τ10 H locs h hP hD hS => ?_)
              exact zret_v hx hb hr hlocks hK hP hD hS h dX12_fact_86
      · have h := h.2 hc
        exact zret_v hx hb hr hlocks hK hP hD hS h dX12_fact_53
    · have h := h.2 hc
      refine lv_aload_n hx hb dX12_fact_29 rfl (lv_at hl 0 rfl) ?_
      refine lv_bipush (v := (100 : Int32)) hx hb dX12_fact_30 (by decide) ?_
      refine lv_aload_n hx hb dX12_fact_32 rfl (lv_at hl 0 rfl) ?_
      refine lv_iconst (v := (-1 : Int32)) hx hb dX12_fact_33 (by decide) ?_
      refine k_X12_personTold N ⟨hx, hb, hml, hown, hts⟩ mw_1018 ⟨Nat.le_of_ble_eq_true rfl, Nat.le_of_ble_eq_true rfl⟩ h hK hP hD hS hl.1 (rest := [.int (100 : Int32), .ref (ad 0)]) (Nat.le_of_ble_eq_true rfl) ⟨Nat.le_of_ble_eq_true rfl, Nat.le_of_ble_eq_true rfl⟩ dX12_fact_34 (fun r11 τ12 H locs h hP hD hS => ?_)
      refine lv_iadd hx hb dX12_fact_37 ?_
      refine k_X12_code N ⟨hx, hb, hml, hown, hts⟩ mw_991 ⟨Nat.le_of_ble_eq_true rfl, Nat.le_of_ble_eq_true rfl⟩ h hK hP hD hS hl.1 (rest := []) (Nat.le_of_ble_eq_true rfl) ⟨Nat.le_of_ble_eq_true rfl, Nat.le_of_ble_eq_true rfl⟩ dX12_fact_38 (fun τ14 H locs h hP hD hS => ?_)
      exact zret_v hx hb hr hlocks hK hP hD hS h dX12_fact_41
  · have h := h.2 hc
    refine lv_aload_n hx hb dX12_fact_11 rfl (lv_at hl 0 rfl) ?_
    refine lv_bipush (v := (17 : Int32)) hx hb dX12_fact_12 (by decide) ?_
    refine k_X12_code N ⟨hx, hb, hml, hown, hts⟩ mw_991 ⟨Nat.le_of_ble_eq_true rfl, Nat.le_of_ble_eq_true rfl⟩ h hK hP hD hS hl.1 (rest := []) (Nat.le_of_ble_eq_true rfl) ⟨Nat.le_of_ble_eq_true rfl, Nat.le_of_ble_eq_true rfl⟩ dX12_fact_14 (fun τ16 H locs h hP hD hS => ?_)
    exact zret_v hx hb hr hlocks hK hP hD hS h dX12_fact_17
set_option maxHeartbeats 4000000 in
set_option maxRecDepth 100000 in
theorem c_X12_fact (N : Nat) (l : Launch) (dC : Nat → ClassId) (dI : Nat → Nat → Nat) (ad : Nat → Nat) (cI cJ cC : ClassId) (sz : Nat) (σ : zSt)  (Q : zSt → Prop) (h : w_X12_fact N  σ Q) : Met l yX12_fact vs_X12_fact rm_X12_fact (va_Pc [.ref (ad 0)] (zPc (dC, dI) (m_ty cI cJ cC) (m_W ad cI cJ cC) sz σ)) (zQv (dC, dI) (m_ty cI cJ cC) (m_W ad cI cJ cC) (zAW m_n ad sz) Q) 0 0 (zAW m_n ad sz) := by
  refine Met.ofW (cc := cX12_fact) (maxL := 2) (ret := none) (by decide) rfl ?_
  intro p e s m args below meth c s₁ B hml hv
  obtain ⟨rfl, hsz, hP, hK, hD0⟩ := hv
  subst hsz
  have C0 : zCx p s m meth c _ RX12 cX12_fact 2 none vs_X12_fact := ⟨B.exec, B.bytes, hml, B.returns, findClass_of_methodNamed B.named, atoms_spec (ws := vs_X12_fact) B.pre, B.notSynchronized⟩
  have hD := m_D0 (n0 := s.heap.size) hD0
  have hl := lv_entry ([.ref (ad 0)]) (n := 2) (Nat.le_of_ble_eq_true rfl)
  rw [lg_entry_eq]
  generalize (lg_sl ([.ref (ad 0)]) ++ List.replicate (2 - (lg_sl ([.ref (ad 0)])).length) Slot.unset).toArray = ls at hl ⊢
  exact t_X12_fact_0 C0 hK N  σ _ _ ls h hP hD va_S.rf hl
theorem k_X12_fact (N : Nat) {R : Room} {H : Heap} {locs : List Loc} {cells slots : Nat} {Q2 : State → Prop} {cc : ByteArray} {nL pc index : Nat} {ls : Array Slot} {rest : List Value} {own : String} {c0 : Cond} {σ : zSt}  {Q : zSt → Prop} (S0 : CallFix p m c cc nL s args (c0 :: zT) own) (hml : Cond.methodLink own index yX12_fact ∈ zT) (hR : rm_X12_fact.frames + 1 ≤ R.frames ∧ 8 + (2 + 11) + rm_X12_fact.locals ≤ R.locals) (h : w_X12_fact N  σ Q) (hK : va_K (dC, dI) vwCl (m_ty cI cJ cC) s) (hP : va_P (dC, dI) vwCl (m_W ad cI cJ cC σ) H) (hD : va_D (zAW m_n ad s.heap.size) (m_W ad cI cJ cC σ)) (hS : va_S (zAW m_n ad s.heap.size) s.heap H locs) (hsz : ls.size = nL) (hW : (rest.map fun v => v.category).sum ≤ 8) (hcs : cells ≤ R.cells ∧ slots ≤ R.slots) (hdg : decode cc pc = .ok (.invokevirtual index, 3)) (kk : ∀ (τ : zSt) (H1 : Heap) (locs1 : List Loc), Q τ → va_P (dC, dI) vwCl (m_W ad cI cJ cC τ) H1 → va_D (zAW m_n ad s.heap.size) (m_W ad cI cJ cC τ) → va_S (zAW m_n ad s.heap.size) s.heap H1 locs1 → W p l e R s m args below meth c H1 locs1 cells slots Q2 (F0 m (pc + 3) ls (rest))) : W p l e R s m args below meth c H locs cells slots Q2 (F0 m pc ls (.ref (ad 0) :: rest)) :=
  zcv_v (T := TX12) (N' := 83) (k := 0) (ci := 12) (fs := m_f0 ad σ) [] S0 (c_X12_fact N l dC dI ad cI cJ cC H.size σ  Q h) (cw_X12_fact S0.2.2.2.2 hml rfl rfl hR) rfl rfl hK hP hD hS rfl hsz hW rfl hcs hdg kk
end q17
section q17
def b_X12_dropsNots_0 (N : Nat) (k_0 : zSt → Prop) (Q : zSt → Prop)  (σ : zSt) : Prop :=
  ((σ.1 4) = 0 → w_X12_isOn N (16 : Int32) σ (fun r1 τ2 => (r1 = 0 → Q τ2) ∧ (¬ r1 = 0 → ∀ τ3 : zSt, τ3 = zI τ2 11 ((τ2.1 11) - (1 : Int32)) → w_X12_drops N τ3 (fun τ5 => k_0 τ5)))) ∧ (¬ (σ.1 4) = 0 → Q σ)
def w_X12_dropsNots_0 (N : Nat) (Q : zSt → Prop) : Nat → zSt → Prop
  | 0 => fun  _ => False
  | f + 1 => b_X12_dropsNots_0 N (w_X12_dropsNots_0 N  Q f) Q
def w_X12_dropsNots (N : Nat)  (σ : zSt) (Q : zSt → Prop) : Prop := w_X12_dropsNots_0 N Q N  σ
variable {p : Program} {l : Launch} {e : Env} {s : State} {m : MethodId} {args : Array Value} {below : List Frame} {meth : Method} {c : Code} {dC : Nat → ClassId} {dI : Nat → Nat → Nat} {ad : Nat → Nat} {cI cJ cC : ClassId}
set_option maxHeartbeats 4000000 in
set_option maxRecDepth 100000 in
theorem tb_X12_dropsNots_0 (C0 : zCx p s m meth c args RX12 cX12_dropsNots 1 none vs_X12_dropsNots) (hK : va_K (dC, dI) vwCl (m_ty cI cJ cC) s) (N : Nat) {Q : zSt → Prop} {k_0 : zSt → Prop} (hk_0 : ∀  (σ : zSt) (H : Heap) (locs : List Loc) (ls : Array Slot), k_0  σ → va_P (dC, dI) vwCl (m_W ad cI cJ cC σ) H → va_D (zAW m_n ad s.heap.size) (m_W ad cI cJ cC σ) → va_S (zAW m_n ad s.heap.size) s.heap H locs → lv_has ls 1 [(0, .ref (ad 0))] → W p l e rm_X12_dropsNots s m args below meth c H locs 0 0 (MQ below (zQv (dC, dI) (m_ty cI cJ cC) (m_W ad cI cJ cC) (zAW m_n ad s.heap.size) Q) args s 0 0 (zAW m_n ad s.heap.size)) (F0 m 0 ls [])) : ∀  (σ : zSt) (H : Heap) (locs : List Loc) (ls : Array Slot), b_X12_dropsNots_0 N k_0 Q  σ → va_P (dC, dI) vwCl (m_W ad cI cJ cC σ) H → va_D (zAW m_n ad s.heap.size) (m_W ad cI cJ cC σ) → va_S (zAW m_n ad s.heap.size) s.heap H locs → lv_has ls 1 [(0, .ref (ad 0))] → W p l e rm_X12_dropsNots s m args below meth c H locs 0 0 (MQ below (zQv (dC, dI) (m_ty cI cJ cC) (m_W ad cI cJ cC) (zAW m_n ad s.heap.size) Q) args s 0 0 (zAW m_n ad s.heap.size)) (F0 m 0 ls []) := by
  obtain ⟨hx, hb, hml, hr, hown, hts, hlocks⟩ := id C0
  intro  σ H locs ls h hP hD hS hl
  unfold b_X12_dropsNots_0 at h
  refine lv_aload_n hx hb dX12_dropsNots_0 rfl (lv_at hl 0 rfl) ?_
  refine mg_0_5 hx hb hts hown hK hP mw_838 dX12_dropsNots_1 ?_
  refine lv_if_ne (tgt := 33) hx hb dX12_dropsNots_4 (by decide) (fun hc => ?_) (fun hc => ?_)
  · have h := h.2 hc
    exact zret_v hx hb hr hlocks hK hP hD hS h dX12_dropsNots_33
  · have h := h.1 hc
    refine lv_aload_n hx hb dX12_dropsNots_7 rfl (lv_at hl 0 rfl) ?_
    refine lv_bipush (v := (16 : Int32)) hx hb dX12_dropsNots_8 (by decide) ?_
    refine k_X12_isOn N ⟨hx, hb, hml, hown, hts⟩ mw_1009 ⟨Nat.le_of_ble_eq_true rfl, Nat.le_of_ble_eq_true rfl⟩ h hK hP hD hS hl.1 (rest := []) (Nat.le_of_ble_eq_true rfl) ⟨Nat.le_of_ble_eq_true rfl, Nat.le_of_ble_eq_true rfl⟩ dX12_dropsNots_10 (fun r1 τ2 H locs h hP hD hS => ?_)
    refine lv_if_eq (tgt := 33) hx hb dX12_dropsNots_13 (by decide) (fun hc => ?_) (fun hc => ?_)
    · have h := h.1 hc
      exact zret_v hx hb hr hlocks hK hP hD hS h dX12_dropsNots_33
    · have h := h.2 hc
      refine lv_aload_n hx hb dX12_dropsNots_16 rfl (lv_at hl 0 rfl) ?_
      refine lv_dup hx hb dX12_dropsNots_17 rfl ?_
      refine mg_0_44 hx hb hts hown hK hP mw_877 dX12_dropsNots_18 ?_
      refine lv_iconst (v := (1 : Int32)) hx hb dX12_dropsNots_21 (by decide) ?_
      refine lv_isub hx hb dX12_dropsNots_22 ?_
      refine mp_0_44 hx hb hts hown hK hP hD hS mw_877 dX12_dropsNots_23 (fun τ3 H locs eτ3 hP hD hS => ?_)
      have h := h τ3 eτ3
      refine lv_aload_n hx hb dX12_dropsNots_26 rfl (lv_at hl 0 rfl) ?_
      refine k_X12_drops N ⟨hx, hb, hml, hown, hts⟩ mw_1006 ⟨Nat.le_of_ble_eq_true rfl, Nat.le_of_ble_eq_true rfl⟩ h hK hP hD hS hl.1 (rest := []) (Nat.le_of_ble_eq_true rfl) ⟨Nat.le_of_ble_eq_true rfl, Nat.le_of_ble_eq_true rfl⟩ dX12_dropsNots_27 (fun τ5 H locs h hP hD hS => ?_)
      refine lv_goto (tgt := 0) hx hb dX12_dropsNots_30 (by decide) ?_
      exact hk_0 τ5 _ _ _ h hP hD hS (lv_sub hl [0] rfl)
set_option maxHeartbeats 4000000 in
set_option maxRecDepth 100000 in
theorem t_X12_dropsNots_0 (C0 : zCx p s m meth c args RX12 cX12_dropsNots 1 none vs_X12_dropsNots) (hK : va_K (dC, dI) vwCl (m_ty cI cJ cC) s) (N : Nat) {Q : zSt → Prop} : ∀ (f : Nat)  (σ : zSt) (H : Heap) (locs : List Loc) (ls : Array Slot), w_X12_dropsNots_0 N  Q f  σ → va_P (dC, dI) vwCl (m_W ad cI cJ cC σ) H → va_D (zAW m_n ad s.heap.size) (m_W ad cI cJ cC σ) → va_S (zAW m_n ad s.heap.size) s.heap H locs → lv_has ls 1 [(0, .ref (ad 0))] → W p l e rm_X12_dropsNots s m args below meth c H locs 0 0 (MQ below (zQv (dC, dI) (m_ty cI cJ cC) (m_W ad cI cJ cC) (zAW m_n ad s.heap.size) Q) args s 0 0 (zAW m_n ad s.heap.size)) (F0 m 0 ls []) := by
  intro f
  induction f with
  | zero => intro  σ H locs ls h; exact h.elim
  | succ f ih =>
    intro  σ H locs ls h hP hD hS hl
    exact tb_X12_dropsNots_0 C0 hK N  (k_0 := w_X12_dropsNots_0 N  Q f) ih  σ H locs ls h hP hD hS hl
set_option maxHeartbeats 4000000 in
set_option maxRecDepth 100000 in
theorem c_X12_dropsNots (N : Nat) (l : Launch) (dC : Nat → ClassId) (dI : Nat → Nat → Nat) (ad : Nat → Nat) (cI cJ cC : ClassId) (sz : Nat) (σ : zSt)  (Q : zSt → Prop) (h : w_X12_dropsNots N  σ Q) : Met l yX12_dropsNots vs_X12_dropsNots rm_X12_dropsNots (va_Pc [.ref (ad 0)] (zPc (dC, dI) (m_ty cI cJ cC) (m_W ad cI cJ cC) sz σ)) (zQv (dC, dI) (m_ty cI cJ cC) (m_W ad cI cJ cC) (zAW m_n ad sz) Q) 0 0 (zAW m_n ad sz) := by
  refine Met.ofW (cc := cX12_dropsNots) (maxL := 1) (ret := none) (by decide) rfl ?_
  intro p e s m args below meth c s₁ B hml hv
  obtain ⟨rfl, hsz, hP, hK, hD0⟩ := hv
  subst hsz
  have C0 : zCx p s m meth c _ RX12 cX12_dropsNots 1 none vs_X12_dropsNots := ⟨B.exec, B.bytes, hml, B.returns, findClass_of_methodNamed B.named, atoms_spec (ws := vs_X12_dropsNots) B.pre, B.notSynchronized⟩
  have hD := m_D0 (n0 := s.heap.size) hD0
  have hl := lv_entry ([.ref (ad 0)]) (n := 1) (Nat.le_of_ble_eq_true rfl)
  rw [lg_entry_eq]
  generalize (lg_sl ([.ref (ad 0)]) ++ List.replicate (1 - (lg_sl ([.ref (ad 0)])).length) Slot.unset).toArray = ls at hl ⊢
  exact t_X12_dropsNots_0 C0 hK N N  σ _ _ ls h hP hD va_S.rf hl
theorem k_X12_dropsNots (N : Nat) {R : Room} {H : Heap} {locs : List Loc} {cells slots : Nat} {Q2 : State → Prop} {cc : ByteArray} {nL pc index : Nat} {ls : Array Slot} {rest : List Value} {own : String} {c0 : Cond} {σ : zSt}  {Q : zSt → Prop} (S0 : CallFix p m c cc nL s args (c0 :: zT) own) (hml : Cond.methodLink own index yX12_dropsNots ∈ zT) (hR : rm_X12_dropsNots.frames + 1 ≤ R.frames ∧ 8 + (1 + 11) + rm_X12_dropsNots.locals ≤ R.locals) (h : w_X12_dropsNots N  σ Q) (hK : va_K (dC, dI) vwCl (m_ty cI cJ cC) s) (hP : va_P (dC, dI) vwCl (m_W ad cI cJ cC σ) H) (hD : va_D (zAW m_n ad s.heap.size) (m_W ad cI cJ cC σ)) (hS : va_S (zAW m_n ad s.heap.size) s.heap H locs) (hsz : ls.size = nL) (hW : (rest.map fun v => v.category).sum ≤ 8) (hcs : cells ≤ R.cells ∧ slots ≤ R.slots) (hdg : decode cc pc = .ok (.invokevirtual index, 3)) (kk : ∀ (τ : zSt) (H1 : Heap) (locs1 : List Loc), Q τ → va_P (dC, dI) vwCl (m_W ad cI cJ cC τ) H1 → va_D (zAW m_n ad s.heap.size) (m_W ad cI cJ cC τ) → va_S (zAW m_n ad s.heap.size) s.heap H1 locs1 → W p l e R s m args below meth c H1 locs1 cells slots Q2 (F0 m (pc + 3) ls (rest))) : W p l e R s m args below meth c H locs cells slots Q2 (F0 m pc ls (.ref (ad 0) :: rest)) :=
  zcv_v (T := TX12) (N' := 83) (k := 0) (ci := 12) (fs := m_f0 ad σ) [] S0 (c_X12_dropsNots N l dC dI ad cI cJ cC H.size σ  Q h) (cw_X12_dropsNots S0.2.2.2.2 hml rfl rfl hR) rfl rfl hK hP hD hS rfl hsz hW rfl hcs hdg kk
end q17
section q17
def b_X12_hasSquare_2 (N : Nat) (k_2 : Int32 → zSt → Prop) (Q : Int32 → zSt → Prop) (x1 : Int32) (σ : zSt) : Prop :=
  ((σ.1 10) ≤ x1 → Q (0 : Int32) σ) ∧ (¬ (σ.1 10) ≤ x1 → (vp_in x1 900) ∧ (((σ.2.2.1 11 x1.toNatClampNeg) = (25 : Int32) → Q (1 : Int32) σ) ∧ (¬ (σ.2.2.1 11 x1.toNatClampNeg) = (25 : Int32) → ∀ v1 : Int32, v1 = x1 + (1 : Int32) → k_2 v1 σ)))
def w_X12_hasSquare_2 (N : Nat) (Q : Int32 → zSt → Prop) : Nat → Int32 → zSt → Prop
  | 0 => fun _ _ => False
  | f + 1 => b_X12_hasSquare_2 N (w_X12_hasSquare_2 N  Q f) Q
def w_X12_hasSquare (N : Nat)  (σ : zSt) (Q : Int32 → zSt → Prop) : Prop :=
  w_X12_hasSquare_2 N Q N (0 : Int32) σ
variable {p : Program} {l : Launch} {e : Env} {s : State} {m : MethodId} {args : Array Value} {below : List Frame} {meth : Method} {c : Code} {dC : Nat → ClassId} {dI : Nat → Nat → Nat} {ad : Nat → Nat} {cI cJ cC : ClassId}
set_option maxHeartbeats 4000000 in
set_option maxRecDepth 100000 in
theorem tb_X12_hasSquare_2 (C0 : zCx p s m meth c args RX12 cX12_hasSquare 2 (some .boolean) vs_X12_hasSquare) (hK : va_K (dC, dI) vwCl (m_ty cI cJ cC) s) (N : Nat) {Q : Int32 → zSt → Prop} {k_2 : Int32 → zSt → Prop} (hk_2 : ∀ (x1 : Int32) (σ : zSt) (H : Heap) (locs : List Loc) (ls : Array Slot), k_2 x1 σ → va_P (dC, dI) vwCl (m_W ad cI cJ cC σ) H → va_D (zAW m_n ad s.heap.size) (m_W ad cI cJ cC σ) → va_S (zAW m_n ad s.heap.size) s.heap H locs → lv_has ls 2 [(0, .ref (ad 0)), (1, .int x1)] → W p l e rm_X12_hasSquare s m args below meth c H locs 0 0 (MQ below (zQi (dC, dI) (m_ty cI cJ cC) (m_W ad cI cJ cC) (zAW m_n ad s.heap.size) Q) args s 0 0 (zAW m_n ad s.heap.size)) (F0 m 2 ls [])) : ∀ (x1 : Int32) (σ : zSt) (H : Heap) (locs : List Loc) (ls : Array Slot), b_X12_hasSquare_2 N k_2 Q x1 σ → va_P (dC, dI) vwCl (m_W ad cI cJ cC σ) H → va_D (zAW m_n ad s.heap.size) (m_W ad cI cJ cC σ) → va_S (zAW m_n ad s.heap.size) s.heap H locs → lv_has ls 2 [(0, .ref (ad 0)), (1, .int x1)] → W p l e rm_X12_hasSquare s m args below meth c H locs 0 0 (MQ below (zQi (dC, dI) (m_ty cI cJ cC) (m_W ad cI cJ cC) (zAW m_n ad s.heap.size) Q) args s 0 0 (zAW m_n ad s.heap.size)) (F0 m 2 ls []) := by
  obtain ⟨hx, hb, hml, hr, hown, hts, hlocks⟩ := id C0
  intro x1 σ H locs ls h hP hD hS hl
  unfold b_X12_hasSquare_2 at h
  refine lv_iload_n hx hb dX12_hasSquare_2 rfl (lv_at hl 1 rfl) ?_
  refine lv_aload_n hx hb dX12_hasSquare_3 rfl (lv_at hl 0 rfl) ?_
  refine mg_0_43 hx hb hts hown hK hP mw_876 dX12_hasSquare_4 ?_
  refine lv_icmp_ge (tgt := 29) hx hb dX12_hasSquare_7 (by decide) (fun hc => ?_) (fun hc => ?_)
  · have h := h.1 hc
    refine lv_iconst (v := (0 : Int32)) hx hb dX12_hasSquare_29 (by decide) ?_
    exact zret_z hx hb hr hlocks hK hP hD hS zb_0 h dX12_hasSquare_30
  · have h := h.2 hc
    refine lv_aload_n hx hb dX12_hasSquare_10 rfl (lv_at hl 0 rfl) ?_
    refine mg_0_42 hx hb hts hown hK hP mw_875 dX12_hasSquare_11 ?_
    refine lv_iload_n hx hb dX12_hasSquare_14 rfl (lv_at hl 1 rfl) ?_
    refine ma_14 hx hb hK hP h.1 rfl dX12_hasSquare_15 ?_
    have h := h.2
    refine lv_bipush (v := (25 : Int32)) hx hb dX12_hasSquare_16 (by decide) ?_
    refine lv_icmp_ne (tgt := 23) hx hb dX12_hasSquare_18 (by decide) (fun hc => ?_) (fun hc => ?_)
    · have h := h.2 hc
      obtain ⟨v1, ev1⟩ : ∃ z : Int32, z = x1 + (1 : Int32) := ⟨_, rfl⟩
      have h := h v1 ev1
      refine lv_iinc (v := v1) (lv' := [(1, .int v1), (0, .ref (ad 0))]) hx hb dX12_hasSquare_23 hl (k := 1) rfl (by rw [ev1]; rfl) (by decide) rfl (fun ls hl => ?_)
      refine lv_goto (tgt := 2) hx hb dX12_hasSquare_26 (by decide) ?_
      exact hk_2 v1 σ _ _ _ h hP hD hS (lv_sub hl [1, 0] rfl)
    · have h := h.1 hc
      refine lv_iconst (v := (1 : Int32)) hx hb dX12_hasSquare_21 (by decide) ?_
      exact zret_z hx hb hr hlocks hK hP hD hS zb_1 h dX12_hasSquare_22
set_option maxHeartbeats 4000000 in
set_option maxRecDepth 100000 in
theorem t_X12_hasSquare_2 (C0 : zCx p s m meth c args RX12 cX12_hasSquare 2 (some .boolean) vs_X12_hasSquare) (hK : va_K (dC, dI) vwCl (m_ty cI cJ cC) s) (N : Nat) {Q : Int32 → zSt → Prop} : ∀ (f : Nat) (x1 : Int32) (σ : zSt) (H : Heap) (locs : List Loc) (ls : Array Slot), w_X12_hasSquare_2 N  Q f x1 σ → va_P (dC, dI) vwCl (m_W ad cI cJ cC σ) H → va_D (zAW m_n ad s.heap.size) (m_W ad cI cJ cC σ) → va_S (zAW m_n ad s.heap.size) s.heap H locs → lv_has ls 2 [(0, .ref (ad 0)), (1, .int x1)] → W p l e rm_X12_hasSquare s m args below meth c H locs 0 0 (MQ below (zQi (dC, dI) (m_ty cI cJ cC) (m_W ad cI cJ cC) (zAW m_n ad s.heap.size) Q) args s 0 0 (zAW m_n ad s.heap.size)) (F0 m 2 ls []) := by
  intro f
  induction f with
  | zero => intro x1 σ H locs ls h; exact h.elim
  | succ f ih =>
    intro x1 σ H locs ls h hP hD hS hl
    exact tb_X12_hasSquare_2 C0 hK N  (k_2 := w_X12_hasSquare_2 N  Q f) ih x1 σ H locs ls h hP hD hS hl
set_option maxHeartbeats 4000000 in
set_option maxRecDepth 100000 in
theorem t_X12_hasSquare_0 (C0 : zCx p s m meth c args RX12 cX12_hasSquare 2 (some .boolean) vs_X12_hasSquare) (hK : va_K (dC, dI) vwCl (m_ty cI cJ cC) s) (N : Nat) {Q : Int32 → zSt → Prop} : ∀  (σ : zSt) (H : Heap) (locs : List Loc) (ls : Array Slot), w_X12_hasSquare N  σ Q → va_P (dC, dI) vwCl (m_W ad cI cJ cC σ) H → va_D (zAW m_n ad s.heap.size) (m_W ad cI cJ cC σ) → va_S (zAW m_n ad s.heap.size) s.heap H locs → lv_has ls 2 [(0, .ref (ad 0))] → W p l e rm_X12_hasSquare s m args below meth c H locs 0 0 (MQ below (zQi (dC, dI) (m_ty cI cJ cC) (m_W ad cI cJ cC) (zAW m_n ad s.heap.size) Q) args s 0 0 (zAW m_n ad s.heap.size)) (F0 m 0 ls []) := by
  obtain ⟨hx, hb, hml, hr, hown, hts, hlocks⟩ := id C0
  intro  σ H locs ls h hP hD hS hl
  unfold w_X12_hasSquare at h
  refine lv_iconst (v := (0 : Int32)) hx hb dX12_hasSquare_0 (by decide) ?_
  refine lv_istore_n (lv' := [(1, .int (0 : Int32)), (0, .ref (ad 0))]) hx hb dX12_hasSquare_1 rfl hl (by decide) rfl (fun ls hl => ?_)
  exact t_X12_hasSquare_2 C0 hK N  N (0 : Int32) σ _ _ _ h hP hD hS (lv_sub hl [1, 0] rfl)
set_option maxHeartbeats 4000000 in
set_option maxRecDepth 100000 in
theorem c_X12_hasSquare (N : Nat) (l : Launch) (dC : Nat → ClassId) (dI : Nat → Nat → Nat) (ad : Nat → Nat) (cI cJ cC : ClassId) (sz : Nat) (σ : zSt)  (Q : Int32 → zSt → Prop) (h : w_X12_hasSquare N  σ Q) : Met l yX12_hasSquare vs_X12_hasSquare rm_X12_hasSquare (va_Pc [.ref (ad 0)] (zPc (dC, dI) (m_ty cI cJ cC) (m_W ad cI cJ cC) sz σ)) (zQi (dC, dI) (m_ty cI cJ cC) (m_W ad cI cJ cC) (zAW m_n ad sz) Q) 0 0 (zAW m_n ad sz) := by
  refine Met.ofW (cc := cX12_hasSquare) (maxL := 2) (ret := (some .boolean)) (by decide) rfl ?_
  intro p e s m args below meth c s₁ B hml hv
  obtain ⟨rfl, hsz, hP, hK, hD0⟩ := hv
  subst hsz
  have C0 : zCx p s m meth c _ RX12 cX12_hasSquare 2 (some .boolean) vs_X12_hasSquare := ⟨B.exec, B.bytes, hml, B.returns, findClass_of_methodNamed B.named, atoms_spec (ws := vs_X12_hasSquare) B.pre, B.notSynchronized⟩
  have hD := m_D0 (n0 := s.heap.size) hD0
  have hl := lv_entry ([.ref (ad 0)]) (n := 2) (Nat.le_of_ble_eq_true rfl)
  rw [lg_entry_eq]
  generalize (lg_sl ([.ref (ad 0)]) ++ List.replicate (2 - (lg_sl ([.ref (ad 0)])).length) Slot.unset).toArray = ls at hl ⊢
  exact t_X12_hasSquare_0 C0 hK N  σ _ _ ls h hP hD va_S.rf hl
theorem k_X12_hasSquare (N : Nat) {R : Room} {H : Heap} {locs : List Loc} {cells slots : Nat} {Q2 : State → Prop} {cc : ByteArray} {nL pc index : Nat} {ls : Array Slot} {rest : List Value} {own : String} {c0 : Cond} {σ : zSt}  {Q : Int32 → zSt → Prop} (S0 : CallFix p m c cc nL s args (c0 :: zT) own) (hml : Cond.methodLink own index yX12_hasSquare ∈ zT) (hR : rm_X12_hasSquare.frames + 1 ≤ R.frames ∧ 8 + (2 + 11) + rm_X12_hasSquare.locals ≤ R.locals) (h : w_X12_hasSquare N  σ Q) (hK : va_K (dC, dI) vwCl (m_ty cI cJ cC) s) (hP : va_P (dC, dI) vwCl (m_W ad cI cJ cC σ) H) (hD : va_D (zAW m_n ad s.heap.size) (m_W ad cI cJ cC σ)) (hS : va_S (zAW m_n ad s.heap.size) s.heap H locs) (hsz : ls.size = nL) (hW : (rest.map fun v => v.category).sum ≤ 8) (hcs : cells ≤ R.cells ∧ slots ≤ R.slots) (hdg : decode cc pc = .ok (.invokevirtual index, 3)) (kk : ∀ (r : Int32) (τ : zSt) (H1 : Heap) (locs1 : List Loc), Q r τ → va_P (dC, dI) vwCl (m_W ad cI cJ cC τ) H1 → va_D (zAW m_n ad s.heap.size) (m_W ad cI cJ cC τ) → va_S (zAW m_n ad s.heap.size) s.heap H1 locs1 → W p l e R s m args below meth c H1 locs1 cells slots Q2 (F0 m (pc + 3) ls (.int r :: rest))) : W p l e R s m args below meth c H locs cells slots Q2 (F0 m pc ls (.ref (ad 0) :: rest)) :=
  zcv_i (T := TX12) (N' := 83) (k := 0) (ci := 12) (fs := m_f0 ad σ) [] S0 (c_X12_hasSquare N l dC dI ad cI cJ cC H.size σ  Q h) (cw_X12_hasSquare S0.2.2.2.2 hml rfl rfl hR) rfl rfl hK hP hD hS rfl hsz hW rfl hcs hdg kk
end q17
section q17
def b_X12_goesOnTest_155 (N : Nat) (k_137 : zSt → Prop) (Q : Int32 → zSt → Prop)  (σ : zSt) : Prop :=
  w_X12_drops N σ (fun τ2 => k_137 τ2)
def b_X12_goesOnTest_137 (N : Nat) (k_137 : zSt → Prop) (Q : Int32 → zSt → Prop)  (σ : zSt) : Prop :=
  w_X12_isOn N (14 : Int32) σ (fun r1 τ2 => (r1 = 0 → w_X12_isOn N (15 : Int32) τ2 (fun r3 τ4 => (r3 = 0 → (vp_in (τ4.1 10) 900) ∧ (∀ τ5 : zSt, τ5 = zA τ4 11 (upd (τ4.2.2.1 11) ((τ4.1 10).toNatClampNeg) (15 : Int32)) → ∀ τ6 : zSt, τ6 = zI τ5 10 ((τ5.1 10) + (1 : Int32)) → Q (1 : Int32) τ6)) ∧ (¬ r3 = 0 → b_X12_goesOnTest_155 N k_137 Q τ4))) ∧ (¬ r1 = 0 → b_X12_goesOnTest_155 N k_137 Q τ2))
def w_X12_goesOnTest_137 (N : Nat) (Q : Int32 → zSt → Prop) : Nat → zSt → Prop
  | 0 => fun  _ => False
  | f + 1 => b_X12_goesOnTest_137 N (w_X12_goesOnTest_137 N  Q f) Q
def b_X12_goesOnTest_87 (N : Nat) (k_87 : zSt → Prop) (Q : Int32 → zSt → Prop)  (σ : zSt) : Prop :=
  w_X12_isOn N (14 : Int32) σ (fun r1 τ2 => (r1 = 0 → (vp_in (τ2.1 10) 900) ∧ (∀ τ3 : zSt, τ3 = zA τ2 11 (upd (τ2.2.2.1 11) ((τ2.1 10).toNatClampNeg) (14 : Int32)) → ∀ τ4 : zSt, τ4 = zI τ3 10 ((τ3.1 10) + (1 : Int32)) → Q (1 : Int32) τ4)) ∧ (¬ r1 = 0 → w_X12_drops N τ2 (fun τ6 => k_87 τ6)))
def w_X12_goesOnTest_87 (N : Nat) (Q : Int32 → zSt → Prop) : Nat → zSt → Prop
  | 0 => fun  _ => False
  | f + 1 => b_X12_goesOnTest_87 N (w_X12_goesOnTest_87 N  Q f) Q
def b_X12_goesOnTest_76 (N : Nat) (Q : Int32 → zSt → Prop)  (σ : zSt) : Prop :=
  w_X12_takes N 8 σ (fun r1 τ2 => (r1 = 0 → w_X12_takes N 7 τ2 (fun r3 τ4 => (r3 = 0 → ((τ4.1 4) = 0 → w_X12_hasSquare N τ4 (fun r5 τ6 => (r5 = 0 → Q (0 : Int32) τ6) ∧ (¬ r5 = 0 → w_X12_fail N (1 : Int32) (τ6.1 1) τ6 (fun τ8 => Q (0 : Int32) τ8)))) ∧ (¬ (τ4.1 4) = 0 → Q (0 : Int32) τ4)) ∧ (¬ r3 = 0 → w_X12_goesOnTest_137 N Q N τ4))) ∧ (¬ r1 = 0 → w_X12_goesOnTest_87 N Q N τ2))
def b_X12_goesOnTest_33 (N : Nat) (k_0 : zSt → Prop) (k_33 : zSt → Prop) (Q : Int32 → zSt → Prop)  (σ : zSt) : Prop :=
  w_X12_isOn N (25 : Int32) σ (fun r1 τ2 => (r1 = 0 → w_X12_drops N τ2 (fun τ8 => k_33 τ8)) ∧ (¬ r1 = 0 → ∀ τ3 : zSt, τ3 = zI τ2 10 ((τ2.1 10) - (1 : Int32)) → ∀ τ4 : zSt, τ4 = zI τ3 11 ((τ3.1 11) - (1 : Int32)) → w_X12_dropsNots N τ4 (fun τ6 => k_0 τ6)))
def w_X12_goesOnTest_33 (N : Nat) (k_0 : zSt → Prop) (Q : Int32 → zSt → Prop) : Nat → zSt → Prop
  | 0 => fun  _ => False
  | f + 1 => b_X12_goesOnTest_33 N k_0 (w_X12_goesOnTest_33 N k_0 Q f) Q
def b_X12_goesOnTest_0 (N : Nat) (k_0 : zSt → Prop) (Q : Int32 → zSt → Prop)  (σ : zSt) : Prop :=
  ((σ.1 4) = 0 → w_X12_look N σ (fun r1 τ2 => (r1 = (93 : Int32) → w_X12_hasSquare N τ2 (fun r3 τ4 => (r3 = 0 → b_X12_goesOnTest_76 N Q τ4) ∧ (¬ r3 = 0 → ∀ τ5 : zSt, τ5 = zI τ4 1 ((τ4.1 1) + (1 : Int32)) → w_X12_goesOnTest_33 N k_0 Q N τ5))) ∧ (¬ r1 = (93 : Int32) → b_X12_goesOnTest_76 N Q τ2))) ∧ (¬ (σ.1 4) = 0 → b_X12_goesOnTest_76 N Q σ)
def w_X12_goesOnTest_0 (N : Nat) (Q : Int32 → zSt → Prop) : Nat → zSt → Prop
  | 0 => fun  _ => False
  | f + 1 => b_X12_goesOnTest_0 N (w_X12_goesOnTest_0 N  Q f) Q
def w_X12_goesOnTest (N : Nat)  (σ : zSt) (Q : Int32 → zSt → Prop) : Prop := w_X12_goesOnTest_0 N Q N  σ
variable {p : Program} {l : Launch} {e : Env} {s : State} {m : MethodId} {args : Array Value} {below : List Frame} {meth : Method} {c : Code} {dC : Nat → ClassId} {dI : Nat → Nat → Nat} {ad : Nat → Nat} {cI cJ cC : ClassId}
set_option maxHeartbeats 4000000 in
set_option maxRecDepth 100000 in
theorem t_X12_goesOnTest_155 (C0 : zCx p s m meth c args RX12 cX12_goesOnTest 1 (some .boolean) vs_X12_goesOnTest) (hK : va_K (dC, dI) vwCl (m_ty cI cJ cC) s) (N : Nat) {Q : Int32 → zSt → Prop} {k_137 : zSt → Prop} (hk_137 : ∀  (σ : zSt) (H : Heap) (locs : List Loc) (ls : Array Slot), k_137  σ → va_P (dC, dI) vwCl (m_W ad cI cJ cC σ) H → va_D (zAW m_n ad s.heap.size) (m_W ad cI cJ cC σ) → va_S (zAW m_n ad s.heap.size) s.heap H locs → lv_has ls 1 [(0, .ref (ad 0))] → W p l e rm_X12_goesOnTest s m args below meth c H locs 0 0 (MQ below (zQi (dC, dI) (m_ty cI cJ cC) (m_W ad cI cJ cC) (zAW m_n ad s.heap.size) Q) args s 0 0 (zAW m_n ad s.heap.size)) (F0 m 137 ls [])) : ∀  (σ : zSt) (H : Heap) (locs : List Loc) (ls : Array Slot), b_X12_goesOnTest_155 N k_137 Q  σ → va_P (dC, dI) vwCl (m_W ad cI cJ cC σ) H → va_D (zAW m_n ad s.heap.size) (m_W ad cI cJ cC σ) → va_S (zAW m_n ad s.heap.size) s.heap H locs → lv_has ls 1 [(0, .ref (ad 0))] → W p l e rm_X12_goesOnTest s m args below meth c H locs 0 0 (MQ below (zQi (dC, dI) (m_ty cI cJ cC) (m_W ad cI cJ cC) (zAW m_n ad s.heap.size) Q) args s 0 0 (zAW m_n ad s.heap.size)) (F0 m 155 ls []) := by
  obtain ⟨hx, hb, hml, hr, hown, hts, hlocks⟩ := id C0
  intro  σ H locs ls h hP hD hS hl
  unfold b_X12_goesOnTest_155 at h
  refine lv_aload_n hx hb dX12_goesOnTest_155 rfl (lv_at hl 0 rfl) ?_
  refine k_X12_drops N ⟨hx, hb, hml, hown, hts⟩ mw_1006 ⟨Nat.le_of_ble_eq_true rfl, Nat.le_of_ble_eq_true rfl⟩ h hK hP hD hS hl.1 (rest := []) (Nat.le_of_ble_eq_true rfl) ⟨Nat.le_of_ble_eq_true rfl, Nat.le_of_ble_eq_true rfl⟩ dX12_goesOnTest_156 (fun τ2 H locs h hP hD hS => ?_)
  refine lv_goto (tgt := 137) hx hb dX12_goesOnTest_159 (by decide) ?_
  exact hk_137 τ2 _ _ _ h hP hD hS (lv_sub hl [0] rfl)
set_option maxHeartbeats 4000000 in
set_option maxRecDepth 100000 in
theorem tb_X12_goesOnTest_137 (C0 : zCx p s m meth c args RX12 cX12_goesOnTest 1 (some .boolean) vs_X12_goesOnTest) (hK : va_K (dC, dI) vwCl (m_ty cI cJ cC) s) (N : Nat) {Q : Int32 → zSt → Prop} {k_137 : zSt → Prop} (hk_137 : ∀  (σ : zSt) (H : Heap) (locs : List Loc) (ls : Array Slot), k_137  σ → va_P (dC, dI) vwCl (m_W ad cI cJ cC σ) H → va_D (zAW m_n ad s.heap.size) (m_W ad cI cJ cC σ) → va_S (zAW m_n ad s.heap.size) s.heap H locs → lv_has ls 1 [(0, .ref (ad 0))] → W p l e rm_X12_goesOnTest s m args below meth c H locs 0 0 (MQ below (zQi (dC, dI) (m_ty cI cJ cC) (m_W ad cI cJ cC) (zAW m_n ad s.heap.size) Q) args s 0 0 (zAW m_n ad s.heap.size)) (F0 m 137 ls [])) : ∀  (σ : zSt) (H : Heap) (locs : List Loc) (ls : Array Slot), b_X12_goesOnTest_137 N k_137 Q  σ → va_P (dC, dI) vwCl (m_W ad cI cJ cC σ) H → va_D (zAW m_n ad s.heap.size) (m_W ad cI cJ cC σ) → va_S (zAW m_n ad s.heap.size) s.heap H locs → lv_has ls 1 [(0, .ref (ad 0))] → W p l e rm_X12_goesOnTest s m args below meth c H locs 0 0 (MQ below (zQi (dC, dI) (m_ty cI cJ cC) (m_W ad cI cJ cC) (zAW m_n ad s.heap.size) Q) args s 0 0 (zAW m_n ad s.heap.size)) (F0 m 137 ls []) := by
  obtain ⟨hx, hb, hml, hr, hown, hts, hlocks⟩ := id C0
  intro  σ H locs ls h hP hD hS hl
  unfold b_X12_goesOnTest_137 at h
  refine lv_aload_n hx hb dX12_goesOnTest_137 rfl (lv_at hl 0 rfl) ?_
  refine lv_bipush (v := (14 : Int32)) hx hb dX12_goesOnTest_138 (by decide) ?_
  refine k_X12_isOn N ⟨hx, hb, hml, hown, hts⟩ mw_1009 ⟨Nat.le_of_ble_eq_true rfl, Nat.le_of_ble_eq_true rfl⟩ h hK hP hD hS hl.1 (rest := []) (Nat.le_of_ble_eq_true rfl) ⟨Nat.le_of_ble_eq_true rfl, Nat.le_of_ble_eq_true rfl⟩ dX12_goesOnTest_140 (fun r1 τ2 H locs h hP hD hS => ?_)
  refine lv_if_ne (tgt := 155) hx hb dX12_goesOnTest_143 (by decide) (fun hc => ?_) (fun hc => ?_)
  · have h := h.2 hc
    exact t_X12_goesOnTest_155 C0 hK N hk_137 τ2 _ _ _ h hP hD hS (lv_sub hl [0] rfl)
  · have h := h.1 hc
    refine lv_aload_n hx hb dX12_goesOnTest_146 rfl (lv_at hl 0 rfl) ?_
    refine lv_bipush (v := (15 : Int32)) hx hb dX12_goesOnTest_147 (by decide) ?_
    refine k_X12_isOn N ⟨hx, hb, hml, hown, hts⟩ mw_1009 ⟨Nat.le_of_ble_eq_true rfl, Nat.le_of_ble_eq_true rfl⟩ h hK hP hD hS hl.1 (rest := []) (Nat.le_of_ble_eq_true rfl) ⟨Nat.le_of_ble_eq_true rfl, Nat.le_of_ble_eq_true rfl⟩ dX12_goesOnTest_149 (fun r3 τ4 H locs h hP hD hS => ?_)
    refine lv_if_eq (tgt := 162) hx hb dX12_goesOnTest_152 (by decide) (fun hc => ?_) (fun hc => ?_)
    · have h := h.1 hc
      refine lv_aload_n hx hb dX12_goesOnTest_162 rfl (lv_at hl 0 rfl) ?_
      refine mg_0_42 hx hb hts hown hK hP mw_875 dX12_goesOnTest_163 ?_
      refine lv_aload_n hx hb dX12_goesOnTest_166 rfl (lv_at hl 0 rfl) ?_
      refine mg_0_43 hx hb hts hown hK hP mw_876 dX12_goesOnTest_167 ?_
      refine lv_bipush (v := (15 : Int32)) hx hb dX12_goesOnTest_170 (by decide) ?_
      refine ms_14 hx hb hK hP hD hS h.1 rfl dX12_goesOnTest_172 (fun τ5 H locs eτ5 hP hD hS => ?_)
      have h := h.2
      have h := h τ5 eτ5
      refine lv_aload_n hx hb dX12_goesOnTest_173 rfl (lv_at hl 0 rfl) ?_
      refine lv_dup hx hb dX12_goesOnTest_174 rfl ?_
      refine mg_0_43 hx hb hts hown hK hP mw_876 dX12_goesOnTest_175 ?_
      refine lv_iconst (v := (1 : Int32)) hx hb dX12_goesOnTest_178 (by decide) ?_
      refine lv_iadd hx hb dX12_goesOnTest_179 ?_
      refine mp_0_43 hx hb hts hown hK hP hD hS mw_876 dX12_goesOnTest_180 (fun τ6 H locs eτ6 hP hD hS => ?_)
      have h := h τ6 eτ6
      refine lv_iconst (v := (1 : Int32)) hx hb dX12_goesOnTest_183 (by decide) ?_
      exact zret_z hx hb hr hlocks hK hP hD hS zb_1 h dX12_goesOnTest_184
    · have h := h.2 hc
      exact t_X12_goesOnTest_155 C0 hK N hk_137 τ4 _ _ _ h hP hD hS (lv_sub hl [0] rfl)
set_option maxHeartbeats 4000000 in
set_option maxRecDepth 100000 in
theorem t_X12_goesOnTest_137 (C0 : zCx p s m meth c args RX12 cX12_goesOnTest 1 (some .boolean) vs_X12_goesOnTest) (hK : va_K (dC, dI) vwCl (m_ty cI cJ cC) s) (N : Nat) {Q : Int32 → zSt → Prop} : ∀ (f : Nat)  (σ : zSt) (H : Heap) (locs : List Loc) (ls : Array Slot), w_X12_goesOnTest_137 N  Q f  σ → va_P (dC, dI) vwCl (m_W ad cI cJ cC σ) H → va_D (zAW m_n ad s.heap.size) (m_W ad cI cJ cC σ) → va_S (zAW m_n ad s.heap.size) s.heap H locs → lv_has ls 1 [(0, .ref (ad 0))] → W p l e rm_X12_goesOnTest s m args below meth c H locs 0 0 (MQ below (zQi (dC, dI) (m_ty cI cJ cC) (m_W ad cI cJ cC) (zAW m_n ad s.heap.size) Q) args s 0 0 (zAW m_n ad s.heap.size)) (F0 m 137 ls []) := by
  intro f
  induction f with
  | zero => intro  σ H locs ls h; exact h.elim
  | succ f ih =>
    intro  σ H locs ls h hP hD hS hl
    exact tb_X12_goesOnTest_137 C0 hK N  (k_137 := w_X12_goesOnTest_137 N  Q f) ih  σ H locs ls h hP hD hS hl
set_option maxHeartbeats 4000000 in
set_option maxRecDepth 100000 in
theorem tb_X12_goesOnTest_87 (C0 : zCx p s m meth c args RX12 cX12_goesOnTest 1 (some .boolean) vs_X12_goesOnTest) (hK : va_K (dC, dI) vwCl (m_ty cI cJ cC) s) (N : Nat) {Q : Int32 → zSt → Prop} {k_87 : zSt → Prop} (hk_87 : ∀  (σ : zSt) (H : Heap) (locs : List Loc) (ls : Array Slot), k_87  σ → va_P (dC, dI) vwCl (m_W ad cI cJ cC σ) H → va_D (zAW m_n ad s.heap.size) (m_W ad cI cJ cC σ) → va_S (zAW m_n ad s.heap.size) s.heap H locs → lv_has ls 1 [(0, .ref (ad 0))] → W p l e rm_X12_goesOnTest s m args below meth c H locs 0 0 (MQ below (zQi (dC, dI) (m_ty cI cJ cC) (m_W ad cI cJ cC) (zAW m_n ad s.heap.size) Q) args s 0 0 (zAW m_n ad s.heap.size)) (F0 m 87 ls [])) : ∀  (σ : zSt) (H : Heap) (locs : List Loc) (ls : Array Slot), b_X12_goesOnTest_87 N k_87 Q  σ → va_P (dC, dI) vwCl (m_W ad cI cJ cC σ) H → va_D (zAW m_n ad s.heap.size) (m_W ad cI cJ cC σ) → va_S (zAW m_n ad s.heap.size) s.heap H locs → lv_has ls 1 [(0, .ref (ad 0))] → W p l e rm_X12_goesOnTest s m args below meth c H locs 0 0 (MQ below (zQi (dC, dI) (m_ty cI cJ cC) (m_W ad cI cJ cC) (zAW m_n ad s.heap.size) Q) args s 0 0 (zAW m_n ad s.heap.size)) (F0 m 87 ls []) := by
  obtain ⟨hx, hb, hml, hr, hown, hts, hlocks⟩ := id C0
  intro  σ H locs ls h hP hD hS hl
  unfold b_X12_goesOnTest_87 at h
  refine lv_aload_n hx hb dX12_goesOnTest_87 rfl (lv_at hl 0 rfl) ?_
  refine lv_bipush (v := (14 : Int32)) hx hb dX12_goesOnTest_88 (by decide) ?_
  refine k_X12_isOn N ⟨hx, hb, hml, hown, hts⟩ mw_1009 ⟨Nat.le_of_ble_eq_true rfl, Nat.le_of_ble_eq_true rfl⟩ h hK hP hD hS hl.1 (rest := []) (Nat.le_of_ble_eq_true rfl) ⟨Nat.le_of_ble_eq_true rfl, Nat.le_of_ble_eq_true rfl⟩ dX12_goesOnTest_90 (fun r1 τ2 H locs h hP hD hS => ?_)
  refine lv_if_eq (tgt := 103) hx hb dX12_goesOnTest_93 (by decide) (fun hc => ?_) (fun hc => ?_)
  · have h := h.1 hc
    refine lv_aload_n hx hb dX12_goesOnTest_103 rfl (lv_at hl 0 rfl) ?_
    refine mg_0_42 hx hb hts hown hK hP mw_875 dX12_goesOnTest_104 ?_
    refine lv_aload_n hx hb dX12_goesOnTest_107 rfl (lv_at hl 0 rfl) ?_
    refine mg_0_43 hx hb hts hown hK hP mw_876 dX12_goesOnTest_108 ?_
    refine lv_bipush (v := (14 : Int32)) hx hb dX12_goesOnTest_111 (by decide) ?_
    refine ms_14 hx hb hK hP hD hS h.1 rfl dX12_goesOnTest_113 (fun τ3 H locs eτ3 hP hD hS => ?_)
    have h := h.2
    have h := h τ3 eτ3
    refine lv_aload_n hx hb dX12_goesOnTest_114 rfl (lv_at hl 0 rfl) ?_
    refine lv_dup hx hb dX12_goesOnTest_115 rfl ?_
    refine mg_0_43 hx hb hts hown hK hP mw_876 dX12_goesOnTest_116 ?_
    refine lv_iconst (v := (1 : Int32)) hx hb dX12_goesOnTest_119 (by decide) ?_
    refine lv_iadd hx hb dX12_goesOnTest_120 ?_
    refine mp_0_43 hx hb hts hown hK hP hD hS mw_876 dX12_goesOnTest_121 (fun τ4 H locs eτ4 hP hD hS => ?_)
    have h := h τ4 eτ4
    refine lv_iconst (v := (1 : Int32)) hx hb dX12_goesOnTest_124 (by decide) ?_
    exact zret_z hx hb hr hlocks hK hP hD hS zb_1 h dX12_goesOnTest_125
  · have h := h.2 hc
    refine lv_aload_n hx hb dX12_goesOnTest_96 rfl (lv_at hl 0 rfl) ?_
    refine k_X12_drops N ⟨hx, hb, hml, hown, hts⟩ mw_1006 ⟨Nat.le_of_ble_eq_true rfl, Nat.le_of_ble_eq_true rfl⟩ h hK hP hD hS hl.1 (rest := []) (Nat.le_of_ble_eq_true rfl) ⟨Nat.le_of_ble_eq_true rfl, Nat.le_of_ble_eq_true rfl⟩ dX12_goesOnTest_97 (fun τ6 H locs h hP hD hS => ?_)
    refine lv_goto (tgt := 87) hx hb dX12_goesOnTest_100 (by decide) ?_
    exact hk_87 τ6 _ _ _ h hP hD hS (lv_sub hl [0] rfl)
set_option maxHeartbeats 4000000 in
set_option maxRecDepth 100000 in
theorem t_X12_goesOnTest_87 (C0 : zCx p s m meth c args RX12 cX12_goesOnTest 1 (some .boolean) vs_X12_goesOnTest) (hK : va_K (dC, dI) vwCl (m_ty cI cJ cC) s) (N : Nat) {Q : Int32 → zSt → Prop} : ∀ (f : Nat)  (σ : zSt) (H : Heap) (locs : List Loc) (ls : Array Slot), w_X12_goesOnTest_87 N  Q f  σ → va_P (dC, dI) vwCl (m_W ad cI cJ cC σ) H → va_D (zAW m_n ad s.heap.size) (m_W ad cI cJ cC σ) → va_S (zAW m_n ad s.heap.size) s.heap H locs → lv_has ls 1 [(0, .ref (ad 0))] → W p l e rm_X12_goesOnTest s m args below meth c H locs 0 0 (MQ below (zQi (dC, dI) (m_ty cI cJ cC) (m_W ad cI cJ cC) (zAW m_n ad s.heap.size) Q) args s 0 0 (zAW m_n ad s.heap.size)) (F0 m 87 ls []) := by
  intro f
  induction f with
  | zero => intro  σ H locs ls h; exact h.elim
  | succ f ih =>
    intro  σ H locs ls h hP hD hS hl
    exact tb_X12_goesOnTest_87 C0 hK N  (k_87 := w_X12_goesOnTest_87 N  Q f) ih  σ H locs ls h hP hD hS hl
set_option maxHeartbeats 4000000 in
set_option maxRecDepth 100000 in
theorem t_X12_goesOnTest_76 (C0 : zCx p s m meth c args RX12 cX12_goesOnTest 1 (some .boolean) vs_X12_goesOnTest) (hK : va_K (dC, dI) vwCl (m_ty cI cJ cC) s) (N : Nat) {Q : Int32 → zSt → Prop} : ∀  (σ : zSt) (H : Heap) (locs : List Loc) (ls : Array Slot), b_X12_goesOnTest_76 N  Q  σ → va_P (dC, dI) vwCl (m_W ad cI cJ cC σ) H → va_D (zAW m_n ad s.heap.size) (m_W ad cI cJ cC σ) → va_S (zAW m_n ad s.heap.size) s.heap H locs → lv_has ls 1 [(0, .ref (ad 0))] → W p l e rm_X12_goesOnTest s m args below meth c H locs 0 0 (MQ below (zQi (dC, dI) (m_ty cI cJ cC) (m_W ad cI cJ cC) (zAW m_n ad s.heap.size) Q) args s 0 0 (zAW m_n ad s.heap.size)) (F0 m 76 ls []) := by
  obtain ⟨hx, hb, hml, hr, hown, hts, hlocks⟩ := id C0
  intro  σ H locs ls h hP hD hS hl
  unfold b_X12_goesOnTest_76 at h
  refine lv_aload_n hx hb dX12_goesOnTest_76 rfl (lv_at hl 0 rfl) ?_
  refine lv_aload_n hx hb dX12_goesOnTest_77 rfl (lv_at hl 0 rfl) ?_
  refine mg_0_17 hx hb hts hown hK hP mw_850 dX12_goesOnTest_78 ?_
  refine k_X12_takes N (w := 8) (by decide) ⟨hx, hb, hml, hown, hts⟩ mw_935 ⟨Nat.le_of_ble_eq_true rfl, Nat.le_of_ble_eq_true rfl⟩ h hK hP hD hS hl.1 (rest := []) (Nat.le_of_ble_eq_true rfl) ⟨Nat.le_of_ble_eq_true rfl, Nat.le_of_ble_eq_true rfl⟩ dX12_goesOnTest_81 (fun r1 τ2 H locs h hP hD hS => ?_)
  refine lv_if_eq (tgt := 126) hx hb dX12_goesOnTest_84 (by decide) (fun hc => ?_) (fun hc => ?_)
  · have h := h.1 hc
    refine lv_aload_n hx hb dX12_goesOnTest_126 rfl (lv_at hl 0 rfl) ?_
    refine lv_aload_n hx hb dX12_goesOnTest_127 rfl (lv_at hl 0 rfl) ?_
    refine mg_0_16 hx hb hts hown hK hP mw_849 dX12_goesOnTest_128 ?_
    refine k_X12_takes N (w := 7) (by decide) ⟨hx, hb, hml, hown, hts⟩ mw_935 ⟨Nat.le_of_ble_eq_true rfl, Nat.le_of_ble_eq_true rfl⟩ h hK hP hD hS hl.1 (rest := []) (Nat.le_of_ble_eq_true rfl) ⟨Nat.le_of_ble_eq_true rfl, Nat.le_of_ble_eq_true rfl⟩ dX12_goesOnTest_131 (fun r3 τ4 H locs h hP hD hS => ?_)
    refine lv_if_eq (tgt := 185) hx hb dX12_goesOnTest_134 (by decide) (fun hc => ?_) (fun hc => ?_)
    · have h := h.1 hc
      refine lv_aload_n hx hb dX12_goesOnTest_185 rfl (lv_at hl 0 rfl) ?_
      refine mg_0_5 hx hb hts hown hK hP mw_838 dX12_goesOnTest_186 ?_
      refine lv_if_ne (tgt := 208) hx hb dX12_goesOnTest_189 (by decide) (fun hc => ?_) (fun hc => ?_)
      · have h := h.2 hc
        refine lv_iconst (v := (0 : Int32)) hx hb dX12_goesOnTest_208 (by decide) ?_
        exact zret_z hx hb hr hlocks hK hP hD hS zb_0 h dX12_goesOnTest_209
      · have h := h.1 hc
        refine lv_aload_n hx hb dX12_goesOnTest_192 rfl (lv_at hl 0 rfl) ?_
        refine k_X12_hasSquare N ⟨hx, hb, hml, hown, hts⟩ mw_1027 ⟨Nat.le_of_ble_eq_true rfl, Nat.le_of_ble_eq_true rfl⟩ h hK hP hD hS hl.1 (rest := []) (Nat.le_of_ble_eq_true rfl) ⟨Nat.le_of_ble_eq_true rfl, Nat.le_of_ble_eq_true rfl⟩ dX12_goesOnTest_193 (fun r5 τ6 H locs h hP hD hS => ?_)
        refine lv_if_eq (tgt := 208) hx hb dX12_goesOnTest_196 (by decide) (fun hc => ?_) (fun hc => ?_)
        · have h := h.1 hc
          refine lv_iconst (v := (0 : Int32)) hx hb dX12_goesOnTest_208 (by decide) ?_
          exact zret_z hx hb hr hlocks hK hP hD hS zb_0 h dX12_goesOnTest_209
        · have h := h.2 hc
          refine lv_aload_n hx hb dX12_goesOnTest_199 rfl (lv_at hl 0 rfl) ?_
          refine lv_iconst (v := (1 : Int32)) hx hb dX12_goesOnTest_200 (by decide) ?_
          refine lv_aload_n hx hb dX12_goesOnTest_201 rfl (lv_at hl 0 rfl) ?_
          refine mg_0_2 hx hb hts hown hK hP mw_835 dX12_goesOnTest_202 ?_
          refine k_X12_fail N ⟨hx, hb, hml, hown, hts⟩ mw_944 ⟨Nat.le_of_ble_eq_true rfl, Nat.le_of_ble_eq_true rfl⟩ h hK hP hD hS hl.1 (rest := []) (Nat.le_of_ble_eq_true rfl) ⟨Nat.le_of_ble_eq_true rfl, Nat.le_of_ble_eq_true rfl⟩ dX12_goesOnTest_205 (fun τ8 H locs h hP hD hS => ?_)
          refine lv_iconst (v := (0 : Int32)) hx hb dX12_goesOnTest_208 (by decide) ?_
          exact zret_z hx hb hr hlocks hK hP hD hS zb_0 h dX12_goesOnTest_209
    · have h := h.2 hc
      exact t_X12_goesOnTest_137 C0 hK N  N τ4 _ _ _ h hP hD hS (lv_sub hl [0] rfl)
  · have h := h.2 hc
    exact t_X12_goesOnTest_87 C0 hK N  N τ2 _ _ _ h hP hD hS (lv_sub hl [0] rfl)
set_option maxHeartbeats 4000000 in
set_option maxRecDepth 100000 in
theorem tb_X12_goesOnTest_33 (C0 : zCx p s m meth c args RX12 cX12_goesOnTest 1 (some .boolean) vs_X12_goesOnTest) (hK : va_K (dC, dI) vwCl (m_ty cI cJ cC) s) (N : Nat) {Q : Int32 → zSt → Prop} {k_0 : zSt → Prop} (hk_0 : ∀  (σ : zSt) (H : Heap) (locs : List Loc) (ls : Array Slot), k_0  σ → va_P (dC, dI) vwCl (m_W ad cI cJ cC σ) H → va_D (zAW m_n ad s.heap.size) (m_W ad cI cJ cC σ) → va_S (zAW m_n ad s.heap.size) s.heap H locs → lv_has ls 1 [(0, .ref (ad 0))] → W p l e rm_X12_goesOnTest s m args below meth c H locs 0 0 (MQ below (zQi (dC, dI) (m_ty cI cJ cC) (m_W ad cI cJ cC) (zAW m_n ad s.heap.size) Q) args s 0 0 (zAW m_n ad s.heap.size)) (F0 m 0 ls [])) {k_33 : zSt → Prop} (hk_33 : ∀  (σ : zSt) (H : Heap) (locs : List Loc) (ls : Array Slot), k_33  σ → va_P (dC, dI) vwCl (m_W ad cI cJ cC σ) H → va_D (zAW m_n ad s.heap.size) (m_W ad cI cJ cC σ) → va_S (zAW m_n ad s.heap.size) s.heap H locs → lv_has ls 1 [(0, .ref (ad 0))] → W p l e rm_X12_goesOnTest s m args below meth c H locs 0 0 (MQ below (zQi (dC, dI) (m_ty cI cJ cC) (m_W ad cI cJ cC) (zAW m_n ad s.heap.size) Q) args s 0 0 (zAW m_n ad s.heap.size)) (F0 m 33 ls [])) : ∀  (σ : zSt) (H : Heap) (locs : List Loc) (ls : Array Slot), b_X12_goesOnTest_33 N k_0 k_33 Q  σ → va_P (dC, dI) vwCl (m_W ad cI cJ cC σ) H → va_D (zAW m_n ad s.heap.size) (m_W ad cI cJ cC σ) → va_S (zAW m_n ad s.heap.size) s.heap H locs → lv_has ls 1 [(0, .ref (ad 0))] → W p l e rm_X12_goesOnTest s m args below meth c H locs 0 0 (MQ below (zQi (dC, dI) (m_ty cI cJ cC) (m_W ad cI cJ cC) (zAW m_n ad s.heap.size) Q) args s 0 0 (zAW m_n ad s.heap.size)) (F0 m 33 ls []) := by
  obtain ⟨hx, hb, hml, hr, hown, hts, hlocks⟩ := id C0
  intro  σ H locs ls h hP hD hS hl
  unfold b_X12_goesOnTest_33 at h
  refine lv_aload_n hx hb dX12_goesOnTest_33 rfl (lv_at hl 0 rfl) ?_
  refine lv_bipush (v := (25 : Int32)) hx hb dX12_goesOnTest_34 (by decide) ?_
  refine k_X12_isOn N ⟨hx, hb, hml, hown, hts⟩ mw_1009 ⟨Nat.le_of_ble_eq_true rfl, Nat.le_of_ble_eq_true rfl⟩ h hK hP hD hS hl.1 (rest := []) (Nat.le_of_ble_eq_true rfl) ⟨Nat.le_of_ble_eq_true rfl, Nat.le_of_ble_eq_true rfl⟩ dX12_goesOnTest_36 (fun r1 τ2 H locs h hP hD hS => ?_)
  refine lv_if_ne (tgt := 49) hx hb dX12_goesOnTest_39 (by decide) (fun hc => ?_) (fun hc => ?_)
  · have h := h.2 hc
    refine lv_aload_n hx hb dX12_goesOnTest_49 rfl (lv_at hl 0 rfl) ?_
    refine lv_dup hx hb dX12_goesOnTest_50 rfl ?_
    refine mg_0_43 hx hb hts hown hK hP mw_876 dX12_goesOnTest_51 ?_
    refine lv_iconst (v := (1 : Int32)) hx hb dX12_goesOnTest_54 (by decide) ?_
    refine lv_isub hx hb dX12_goesOnTest_55 ?_
    refine mp_0_43 hx hb hts hown hK hP hD hS mw_876 dX12_goesOnTest_56 (fun τ3 H locs eτ3 hP hD hS => ?_)
    have h := h τ3 eτ3
    refine lv_aload_n hx hb dX12_goesOnTest_59 rfl (lv_at hl 0 rfl) ?_
    refine lv_dup hx hb dX12_goesOnTest_60 rfl ?_
    refine mg_0_44 hx hb hts hown hK hP mw_877 dX12_goesOnTest_61 ?_
    refine lv_iconst (v := (1 : Int32)) hx hb dX12_goesOnTest_64 (by decide) ?_
    refine lv_isub hx hb dX12_goesOnTest_65 ?_
    refine mp_0_44 hx hb hts hown hK hP hD hS mw_877 dX12_goesOnTest_66 (fun τ4 H locs eτ4 hP hD hS => ?_)
    have h := h τ4 eτ4
    refine lv_aload_n hx hb dX12_goesOnTest_69 rfl (lv_at hl 0 rfl) ?_
    refine k_X12_dropsNots N ⟨hx, hb, hml, hown, hts⟩ mw_1021 ⟨Nat.le_of_ble_eq_true rfl, Nat.le_of_ble_eq_true rfl⟩ h hK hP hD hS hl.1 (rest := []) (Nat.le_of_ble_eq_true rfl) ⟨Nat.le_of_ble_eq_true rfl, Nat.le_of_ble_eq_true rfl⟩ dX12_goesOnTest_70 (fun τ6 H locs h hP hD hS => ?_)
    refine lv_goto (tgt := 0) hx hb dX12_goesOnTest_73 (by decide) ?_
    exact hk_0 τ6 _ _ _ h hP hD hS (lv_sub hl [0] rfl)
  · have h := h.1 hc
    refine lv_aload_n hx hb dX12_goesOnTest_42 rfl (lv_at hl 0 rfl) ?_
    refine k_X12_drops N ⟨hx, hb, hml, hown, hts⟩ mw_1006 ⟨Nat.le_of_ble_eq_true rfl, Nat.le_of_ble_eq_true rfl⟩ h hK hP hD hS hl.1 (rest := []) (Nat.le_of_ble_eq_true rfl) ⟨Nat.le_of_ble_eq_true rfl, Nat.le_of_ble_eq_true rfl⟩ dX12_goesOnTest_43 (fun τ8 H locs h hP hD hS => ?_)
    refine lv_goto (tgt := 33) hx hb dX12_goesOnTest_46 (by decide) ?_
    exact hk_33 τ8 _ _ _ h hP hD hS (lv_sub hl [0] rfl)
set_option maxHeartbeats 4000000 in
set_option maxRecDepth 100000 in
theorem t_X12_goesOnTest_33 (C0 : zCx p s m meth c args RX12 cX12_goesOnTest 1 (some .boolean) vs_X12_goesOnTest) (hK : va_K (dC, dI) vwCl (m_ty cI cJ cC) s) (N : Nat) {Q : Int32 → zSt → Prop} {k_0 : zSt → Prop} (hk_0 : ∀  (σ : zSt) (H : Heap) (locs : List Loc) (ls : Array Slot), k_0  σ → va_P (dC, dI) vwCl (m_W ad cI cJ cC σ) H → va_D (zAW m_n ad s.heap.size) (m_W ad cI cJ cC σ) → va_S (zAW m_n ad s.heap.size) s.heap H locs → lv_has ls 1 [(0, .ref (ad 0))] → W p l e rm_X12_goesOnTest s m args below meth c H locs 0 0 (MQ below (zQi (dC, dI) (m_ty cI cJ cC) (m_W ad cI cJ cC) (zAW m_n ad s.heap.size) Q) args s 0 0 (zAW m_n ad s.heap.size)) (F0 m 0 ls [])) : ∀ (f : Nat)  (σ : zSt) (H : Heap) (locs : List Loc) (ls : Array Slot), w_X12_goesOnTest_33 N k_0 Q f  σ → va_P (dC, dI) vwCl (m_W ad cI cJ cC σ) H → va_D (zAW m_n ad s.heap.size) (m_W ad cI cJ cC σ) → va_S (zAW m_n ad s.heap.size) s.heap H locs → lv_has ls 1 [(0, .ref (ad 0))] → W p l e rm_X12_goesOnTest s m args below meth c H locs 0 0 (MQ below (zQi (dC, dI) (m_ty cI cJ cC) (m_W ad cI cJ cC) (zAW m_n ad s.heap.size) Q) args s 0 0 (zAW m_n ad s.heap.size)) (F0 m 33 ls []) := by
  intro f
  induction f with
  | zero => intro  σ H locs ls h; exact h.elim
  | succ f ih =>
    intro  σ H locs ls h hP hD hS hl
    exact tb_X12_goesOnTest_33 C0 hK N hk_0 (k_33 := w_X12_goesOnTest_33 N k_0 Q f) ih  σ H locs ls h hP hD hS hl
set_option maxHeartbeats 4000000 in
set_option maxRecDepth 100000 in
theorem tb_X12_goesOnTest_0 (C0 : zCx p s m meth c args RX12 cX12_goesOnTest 1 (some .boolean) vs_X12_goesOnTest) (hK : va_K (dC, dI) vwCl (m_ty cI cJ cC) s) (N : Nat) {Q : Int32 → zSt → Prop} {k_0 : zSt → Prop} (hk_0 : ∀  (σ : zSt) (H : Heap) (locs : List Loc) (ls : Array Slot), k_0  σ → va_P (dC, dI) vwCl (m_W ad cI cJ cC σ) H → va_D (zAW m_n ad s.heap.size) (m_W ad cI cJ cC σ) → va_S (zAW m_n ad s.heap.size) s.heap H locs → lv_has ls 1 [(0, .ref (ad 0))] → W p l e rm_X12_goesOnTest s m args below meth c H locs 0 0 (MQ below (zQi (dC, dI) (m_ty cI cJ cC) (m_W ad cI cJ cC) (zAW m_n ad s.heap.size) Q) args s 0 0 (zAW m_n ad s.heap.size)) (F0 m 0 ls [])) : ∀  (σ : zSt) (H : Heap) (locs : List Loc) (ls : Array Slot), b_X12_goesOnTest_0 N k_0 Q  σ → va_P (dC, dI) vwCl (m_W ad cI cJ cC σ) H → va_D (zAW m_n ad s.heap.size) (m_W ad cI cJ cC σ) → va_S (zAW m_n ad s.heap.size) s.heap H locs → lv_has ls 1 [(0, .ref (ad 0))] → W p l e rm_X12_goesOnTest s m args below meth c H locs 0 0 (MQ below (zQi (dC, dI) (m_ty cI cJ cC) (m_W ad cI cJ cC) (zAW m_n ad s.heap.size) Q) args s 0 0 (zAW m_n ad s.heap.size)) (F0 m 0 ls []) := by
  obtain ⟨hx, hb, hml, hr, hown, hts, hlocks⟩ := id C0
  intro  σ H locs ls h hP hD hS hl
  unfold b_X12_goesOnTest_0 at h
  refine lv_aload_n hx hb dX12_goesOnTest_0 rfl (lv_at hl 0 rfl) ?_
  refine mg_0_5 hx hb hts hown hK hP mw_838 dX12_goesOnTest_1 ?_
  refine lv_if_ne (tgt := 76) hx hb dX12_goesOnTest_4 (by decide) (fun hc => ?_) (fun hc => ?_)
  · have h := h.2 hc
    exact t_X12_goesOnTest_76 C0 hK N  σ _ _ _ h hP hD hS (lv_sub hl [0] rfl)
  · have h := h.1 hc
    refine lv_aload_n hx hb dX12_goesOnTest_7 rfl (lv_at hl 0 rfl) ?_
    refine k_X12_look N ⟨hx, hb, hml, hown, hts⟩ mw_929 ⟨Nat.le_of_ble_eq_true rfl, Nat.le_of_ble_eq_true rfl⟩ h hK hP hD hS hl.1 (rest := []) (Nat.le_of_ble_eq_true rfl) ⟨Nat.le_of_ble_eq_true rfl, Nat.le_of_ble_eq_true rfl⟩ dX12_goesOnTest_8 (fun r1 τ2 H locs h hP hD hS => ?_)
    refine lv_bipush (v := (93 : Int32)) hx hb dX12_goesOnTest_11 (by decide) ?_
    refine lv_icmp_ne (tgt := 76) hx hb dX12_goesOnTest_13 (by decide) (fun hc => ?_) (fun hc => ?_)
    · have h := h.2 hc
      exact t_X12_goesOnTest_76 C0 hK N  τ2 _ _ _ h hP hD hS (lv_sub hl [0] rfl)
    · have h := h.1 hc
      refine lv_aload_n hx hb dX12_goesOnTest_16 rfl (lv_at hl 0 rfl) ?_
      refine k_X12_hasSquare N ⟨hx, hb, hml, hown, hts⟩ mw_1027 ⟨Nat.le_of_ble_eq_true rfl, Nat.le_of_ble_eq_true rfl⟩ h hK hP hD hS hl.1 (rest := []) (Nat.le_of_ble_eq_true rfl) ⟨Nat.le_of_ble_eq_true rfl, Nat.le_of_ble_eq_true rfl⟩ dX12_goesOnTest_17 (fun r3 τ4 H locs h hP hD hS => ?_)
      refine lv_if_eq (tgt := 76) hx hb dX12_goesOnTest_20 (by decide) (fun hc => ?_) (fun hc => ?_)
      · have h := h.1 hc
        exact t_X12_goesOnTest_76 C0 hK N  τ4 _ _ _ h hP hD hS (lv_sub hl [0] rfl)
      · have h := h.2 hc
        refine lv_aload_n hx hb dX12_goesOnTest_23 rfl (lv_at hl 0 rfl) ?_
        refine lv_dup hx hb dX12_goesOnTest_24 rfl ?_
        refine mg_0_2 hx hb hts hown hK hP mw_835 dX12_goesOnTest_25 ?_
        refine lv_iconst (v := (1 : Int32)) hx hb dX12_goesOnTest_28 (by decide) ?_
        refine lv_iadd hx hb dX12_goesOnTest_29 ?_
        refine mp_0_2 hx hb hts hown hK hP hD hS mw_835 dX12_goesOnTest_30 (fun τ5 H locs eτ5 hP hD hS => ?_)
        have h := h τ5 eτ5
        exact t_X12_goesOnTest_33 C0 hK N hk_0 N τ5 _ _ _ h hP hD hS (lv_sub hl [0] rfl)
set_option maxHeartbeats 4000000 in
set_option maxRecDepth 100000 in
theorem t_X12_goesOnTest_0 (C0 : zCx p s m meth c args RX12 cX12_goesOnTest 1 (some .boolean) vs_X12_goesOnTest) (hK : va_K (dC, dI) vwCl (m_ty cI cJ cC) s) (N : Nat) {Q : Int32 → zSt → Prop} : ∀ (f : Nat)  (σ : zSt) (H : Heap) (locs : List Loc) (ls : Array Slot), w_X12_goesOnTest_0 N  Q f  σ → va_P (dC, dI) vwCl (m_W ad cI cJ cC σ) H → va_D (zAW m_n ad s.heap.size) (m_W ad cI cJ cC σ) → va_S (zAW m_n ad s.heap.size) s.heap H locs → lv_has ls 1 [(0, .ref (ad 0))] → W p l e rm_X12_goesOnTest s m args below meth c H locs 0 0 (MQ below (zQi (dC, dI) (m_ty cI cJ cC) (m_W ad cI cJ cC) (zAW m_n ad s.heap.size) Q) args s 0 0 (zAW m_n ad s.heap.size)) (F0 m 0 ls []) := by
  intro f
  induction f with
  | zero => intro  σ H locs ls h; exact h.elim
  | succ f ih =>
    intro  σ H locs ls h hP hD hS hl
    exact tb_X12_goesOnTest_0 C0 hK N  (k_0 := w_X12_goesOnTest_0 N  Q f) ih  σ H locs ls h hP hD hS hl
set_option maxHeartbeats 4000000 in
set_option maxRecDepth 100000 in
theorem c_X12_goesOnTest (N : Nat) (l : Launch) (dC : Nat → ClassId) (dI : Nat → Nat → Nat) (ad : Nat → Nat) (cI cJ cC : ClassId) (sz : Nat) (σ : zSt)  (Q : Int32 → zSt → Prop) (h : w_X12_goesOnTest N  σ Q) : Met l yX12_goesOnTest vs_X12_goesOnTest rm_X12_goesOnTest (va_Pc [.ref (ad 0)] (zPc (dC, dI) (m_ty cI cJ cC) (m_W ad cI cJ cC) sz σ)) (zQi (dC, dI) (m_ty cI cJ cC) (m_W ad cI cJ cC) (zAW m_n ad sz) Q) 0 0 (zAW m_n ad sz) := by
  refine Met.ofW (cc := cX12_goesOnTest) (maxL := 1) (ret := (some .boolean)) (by decide) rfl ?_
  intro p e s m args below meth c s₁ B hml hv
  obtain ⟨rfl, hsz, hP, hK, hD0⟩ := hv
  subst hsz
  have C0 : zCx p s m meth c _ RX12 cX12_goesOnTest 1 (some .boolean) vs_X12_goesOnTest := ⟨B.exec, B.bytes, hml, B.returns, findClass_of_methodNamed B.named, atoms_spec (ws := vs_X12_goesOnTest) B.pre, B.notSynchronized⟩
  have hD := m_D0 (n0 := s.heap.size) hD0
  have hl := lv_entry ([.ref (ad 0)]) (n := 1) (Nat.le_of_ble_eq_true rfl)
  rw [lg_entry_eq]
  generalize (lg_sl ([.ref (ad 0)]) ++ List.replicate (1 - (lg_sl ([.ref (ad 0)])).length) Slot.unset).toArray = ls at hl ⊢
  exact t_X12_goesOnTest_0 C0 hK N N  σ _ _ ls h hP hD va_S.rf hl
theorem k_X12_goesOnTest (N : Nat) {R : Room} {H : Heap} {locs : List Loc} {cells slots : Nat} {Q2 : State → Prop} {cc : ByteArray} {nL pc index : Nat} {ls : Array Slot} {rest : List Value} {own : String} {c0 : Cond} {σ : zSt}  {Q : Int32 → zSt → Prop} (S0 : CallFix p m c cc nL s args (c0 :: zT) own) (hml : Cond.methodLink own index yX12_goesOnTest ∈ zT) (hR : rm_X12_goesOnTest.frames + 1 ≤ R.frames ∧ 8 + (1 + 11) + rm_X12_goesOnTest.locals ≤ R.locals) (h : w_X12_goesOnTest N  σ Q) (hK : va_K (dC, dI) vwCl (m_ty cI cJ cC) s) (hP : va_P (dC, dI) vwCl (m_W ad cI cJ cC σ) H) (hD : va_D (zAW m_n ad s.heap.size) (m_W ad cI cJ cC σ)) (hS : va_S (zAW m_n ad s.heap.size) s.heap H locs) (hsz : ls.size = nL) (hW : (rest.map fun v => v.category).sum ≤ 8) (hcs : cells ≤ R.cells ∧ slots ≤ R.slots) (hdg : decode cc pc = .ok (.invokevirtual index, 3)) (kk : ∀ (r : Int32) (τ : zSt) (H1 : Heap) (locs1 : List Loc), Q r τ → va_P (dC, dI) vwCl (m_W ad cI cJ cC τ) H1 → va_D (zAW m_n ad s.heap.size) (m_W ad cI cJ cC τ) → va_S (zAW m_n ad s.heap.size) s.heap H1 locs1 → W p l e R s m args below meth c H1 locs1 cells slots Q2 (F0 m (pc + 3) ls (.int r :: rest))) : W p l e R s m args below meth c H locs cells slots Q2 (F0 m pc ls (.ref (ad 0) :: rest)) :=
  zcv_i (T := TX12) (N' := 83) (k := 0) (ci := 12) (fs := m_f0 ad σ) [] S0 (c_X12_goesOnTest N l dC dI ad cI cJ cC H.size σ  Q h) (cw_X12_goesOnTest S0.2.2.2.2 hml rfl rfl hR) rfl rfl hK hP hD hS rfl hsz hW rfl hcs hdg kk
end q17
section q17
def b_X12_test_110 (N : Nat) (k_110 : zSt → Prop) (Q : zSt → Prop)  (σ : zSt) : Prop :=
  ((σ.1 4) = 0 → ((σ.1 10) ≤ 0 → Q σ) ∧ (¬ (σ.1 10) ≤ 0 → w_X12_drops N σ (fun τ2 => k_110 τ2))) ∧ (¬ (σ.1 4) = 0 → Q σ)
def w_X12_test_110 (N : Nat) (Q : zSt → Prop) : Nat → zSt → Prop
  | 0 => fun  _ => False
  | f + 1 => b_X12_test_110 N (w_X12_test_110 N  Q f) Q
def b_X12_test_2 (N : Nat) (k_2 : Int32 → zSt → Prop) (Q : zSt → Prop) (x1 : Int32) (σ : zSt) : Prop :=
  (x1 = 0 → w_X12_test_110 N Q N σ) ∧ (¬ x1 = 0 → ((σ.1 4) = 0 → w_X12_look N σ (fun r1 τ2 => (r1 = (91 : Int32) → w_X12_opens N (25 : Int32) (τ2.1 1) τ2 (fun τ16 => ∀ τ17 : zSt, τ17 = zI τ16 1 ((τ16.1 1) + (1 : Int32)) → k_2 x1 τ17)) ∧ (¬ r1 = (91 : Int32) → w_X12_isHere N 9 τ2 (fun r3 τ4 => (r3 = 0 → w_X12_fact N τ4 (fun τ6 => w_X12_dropsNots N τ6 (fun τ8 => ((τ8.1 4) = 0 → w_X12_goesOnTest N τ8 (fun r9 τ10 => (r9 = 0 → k_2 (0 : Int32) τ10) ∧ (¬ r9 = 0 → k_2 (1 : Int32) τ10))) ∧ (¬ (τ8.1 4) = 0 → k_2 (0 : Int32) τ8)))) ∧ (¬ r3 = 0 → w_X12_opens N (16 : Int32) (τ4.1 1) τ4 (fun τ12 => w_X12_asks N 9 τ12 (fun τ14 => k_2 x1 τ14))))))) ∧ (¬ (σ.1 4) = 0 → w_X12_test_110 N Q N σ))
def w_X12_test_2 (N : Nat) (Q : zSt → Prop) : Nat → Int32 → zSt → Prop
  | 0 => fun _ _ => False
  | f + 1 => b_X12_test_2 N (w_X12_test_2 N  Q f) Q
def w_X12_test (N : Nat)  (σ : zSt) (Q : zSt → Prop) : Prop :=
  w_X12_test_2 N Q N (1 : Int32) σ
variable {p : Program} {l : Launch} {e : Env} {s : State} {m : MethodId} {args : Array Value} {below : List Frame} {meth : Method} {c : Code} {dC : Nat → ClassId} {dI : Nat → Nat → Nat} {ad : Nat → Nat} {cI cJ cC : ClassId}
set_option maxHeartbeats 4000000 in
set_option maxRecDepth 100000 in
theorem tb_X12_test_110 (C0 : zCx p s m meth c args RX12 cX12_test 3 none vs_X12_test) (hK : va_K (dC, dI) vwCl (m_ty cI cJ cC) s) (N : Nat) {Q : zSt → Prop} {k_110 : zSt → Prop} (hk_110 : ∀  (σ : zSt) (H : Heap) (locs : List Loc) (ls : Array Slot), k_110  σ → va_P (dC, dI) vwCl (m_W ad cI cJ cC σ) H → va_D (zAW m_n ad s.heap.size) (m_W ad cI cJ cC σ) → va_S (zAW m_n ad s.heap.size) s.heap H locs → lv_has ls 3 [(0, .ref (ad 0))] → W p l e rm_X12_test s m args below meth c H locs 0 0 (MQ below (zQv (dC, dI) (m_ty cI cJ cC) (m_W ad cI cJ cC) (zAW m_n ad s.heap.size) Q) args s 0 0 (zAW m_n ad s.heap.size)) (F0 m 110 ls [])) : ∀  (σ : zSt) (H : Heap) (locs : List Loc) (ls : Array Slot), b_X12_test_110 N k_110 Q  σ → va_P (dC, dI) vwCl (m_W ad cI cJ cC σ) H → va_D (zAW m_n ad s.heap.size) (m_W ad cI cJ cC σ) → va_S (zAW m_n ad s.heap.size) s.heap H locs → lv_has ls 3 [(0, .ref (ad 0))] → W p l e rm_X12_test s m args below meth c H locs 0 0 (MQ below (zQv (dC, dI) (m_ty cI cJ cC) (m_W ad cI cJ cC) (zAW m_n ad s.heap.size) Q) args s 0 0 (zAW m_n ad s.heap.size)) (F0 m 110 ls []) := by
  obtain ⟨hx, hb, hml, hr, hown, hts, hlocks⟩ := id C0
  intro  σ H locs ls h hP hD hS hl
  unfold b_X12_test_110 at h
  refine lv_aload_n hx hb dX12_test_110 rfl (lv_at hl 0 rfl) ?_
  refine mg_0_5 hx hb hts hown hK hP mw_838 dX12_test_111 ?_
  refine lv_if_ne (tgt := 131) hx hb dX12_test_114 (by decide) (fun hc => ?_) (fun hc => ?_)
  · have h := h.2 hc
    exact zret_v hx hb hr hlocks hK hP hD hS h dX12_test_131
  · have h := h.1 hc
    refine lv_aload_n hx hb dX12_test_117 rfl (lv_at hl 0 rfl) ?_
    refine mg_0_43 hx hb hts hown hK hP mw_876 dX12_test_118 ?_
    refine lv_if_le (tgt := 131) hx hb dX12_test_121 (by decide) (fun hc => ?_) (fun hc => ?_)
    · have h := h.1 hc
      exact zret_v hx hb hr hlocks hK hP hD hS h dX12_test_131
    · have h := h.2 hc
      refine lv_aload_n hx hb dX12_test_124 rfl (lv_at hl 0 rfl) ?_
      refine k_X12_drops N ⟨hx, hb, hml, hown, hts⟩ mw_1006 ⟨Nat.le_of_ble_eq_true rfl, Nat.le_of_ble_eq_true rfl⟩ h hK hP hD hS hl.1 (rest := []) (Nat.le_of_ble_eq_true rfl) ⟨Nat.le_of_ble_eq_true rfl, Nat.le_of_ble_eq_true rfl⟩ dX12_test_125 (fun τ2 H locs h hP hD hS => ?_)
      refine lv_goto (tgt := 110) hx hb dX12_test_128 (by decide) ?_
      exact hk_110 τ2 _ _ _ h hP hD hS (lv_sub hl [0] rfl)
set_option maxHeartbeats 4000000 in
set_option maxRecDepth 100000 in
theorem t_X12_test_110 (C0 : zCx p s m meth c args RX12 cX12_test 3 none vs_X12_test) (hK : va_K (dC, dI) vwCl (m_ty cI cJ cC) s) (N : Nat) {Q : zSt → Prop} : ∀ (f : Nat)  (σ : zSt) (H : Heap) (locs : List Loc) (ls : Array Slot), w_X12_test_110 N  Q f  σ → va_P (dC, dI) vwCl (m_W ad cI cJ cC σ) H → va_D (zAW m_n ad s.heap.size) (m_W ad cI cJ cC σ) → va_S (zAW m_n ad s.heap.size) s.heap H locs → lv_has ls 3 [(0, .ref (ad 0))] → W p l e rm_X12_test s m args below meth c H locs 0 0 (MQ below (zQv (dC, dI) (m_ty cI cJ cC) (m_W ad cI cJ cC) (zAW m_n ad s.heap.size) Q) args s 0 0 (zAW m_n ad s.heap.size)) (F0 m 110 ls []) := by
  intro f
  induction f with
  | zero => intro  σ H locs ls h; exact h.elim
  | succ f ih =>
    intro  σ H locs ls h hP hD hS hl
    exact tb_X12_test_110 C0 hK N  (k_110 := w_X12_test_110 N  Q f) ih  σ H locs ls h hP hD hS hl
set_option maxHeartbeats 4000000 in
set_option maxRecDepth 100000 in
theorem tb_X12_test_2 (C0 : zCx p s m meth c args RX12 cX12_test 3 none vs_X12_test) (hK : va_K (dC, dI) vwCl (m_ty cI cJ cC) s) (N : Nat) {Q : zSt → Prop} {k_2 : Int32 → zSt → Prop} (hk_2 : ∀ (x1 : Int32) (σ : zSt) (H : Heap) (locs : List Loc) (ls : Array Slot), k_2 x1 σ → va_P (dC, dI) vwCl (m_W ad cI cJ cC σ) H → va_D (zAW m_n ad s.heap.size) (m_W ad cI cJ cC σ) → va_S (zAW m_n ad s.heap.size) s.heap H locs → lv_has ls 3 [(0, .ref (ad 0)), (1, .int x1)] → W p l e rm_X12_test s m args below meth c H locs 0 0 (MQ below (zQv (dC, dI) (m_ty cI cJ cC) (m_W ad cI cJ cC) (zAW m_n ad s.heap.size) Q) args s 0 0 (zAW m_n ad s.heap.size)) (F0 m 2 ls [])) : ∀ (x1 : Int32) (σ : zSt) (H : Heap) (locs : List Loc) (ls : Array Slot), b_X12_test_2 N k_2 Q x1 σ → va_P (dC, dI) vwCl (m_W ad cI cJ cC σ) H → va_D (zAW m_n ad s.heap.size) (m_W ad cI cJ cC σ) → va_S (zAW m_n ad s.heap.size) s.heap H locs → lv_has ls 3 [(0, .ref (ad 0)), (1, .int x1)] → W p l e rm_X12_test s m args below meth c H locs 0 0 (MQ below (zQv (dC, dI) (m_ty cI cJ cC) (m_W ad cI cJ cC) (zAW m_n ad s.heap.size) Q) args s 0 0 (zAW m_n ad s.heap.size)) (F0 m 2 ls []) := by
  obtain ⟨hx, hb, hml, hr, hown, hts, hlocks⟩ := id C0
  intro x1 σ H locs ls h hP hD hS hl
  unfold b_X12_test_2 at h
  refine lv_iload_n hx hb dX12_test_2 rfl (lv_at hl 1 rfl) ?_
  refine lv_if_eq (tgt := 110) hx hb dX12_test_3 (by decide) (fun hc => ?_) (fun hc => ?_)
  · have h := h.1 hc
    exact t_X12_test_110 C0 hK N  N σ _ _ _ h hP hD hS (lv_sub hl [0] rfl)
  · have h := h.2 hc
    refine lv_aload_n hx hb dX12_test_6 rfl (lv_at hl 0 rfl) ?_
    refine mg_0_5 hx hb hts hown hK hP mw_838 dX12_test_7 ?_
    refine lv_if_ne (tgt := 110) hx hb dX12_test_10 (by decide) (fun hc => ?_) (fun hc => ?_)
    · have h := h.2 hc
      exact t_X12_test_110 C0 hK N  N σ _ _ _ h hP hD hS (lv_sub hl [0] rfl)
    · have h := h.1 hc
      refine lv_aload_n hx hb dX12_test_13 rfl (lv_at hl 0 rfl) ?_
      refine k_X12_look N ⟨hx, hb, hml, hown, hts⟩ mw_929 ⟨Nat.le_of_ble_eq_true rfl, Nat.le_of_ble_eq_true rfl⟩ h hK hP hD hS hl.1 (rest := []) (Nat.le_of_ble_eq_true rfl) ⟨Nat.le_of_ble_eq_true rfl, Nat.le_of_ble_eq_true rfl⟩ dX12_test_14 (fun r1 τ2 H locs h hP hD hS => ?_)
      refine lv_istore_n (lv' := [(2, .int r1), (0, .ref (ad 0)), (1, .int x1)]) hx hb dX12_test_17 rfl hl (by decide) rfl (fun ls hl => ?_)
      refine lv_iload_n hx hb dX12_test_18 rfl (lv_at hl 0 rfl) ?_
      refine lv_bipush (v := (91 : Int32)) hx hb dX12_test_19 (by decide) ?_
      refine lv_icmp_ne (tgt := 47) hx hb dX12_test_21 (by decide) (fun hc => ?_) (fun hc => ?_)
      · have h := h.2 hc
        refine lv_aload_n hx hb dX12_test_47 rfl (lv_at hl 1 rfl) ?_
        refine lv_aload_n hx hb dX12_test_48 rfl (lv_at hl 1 rfl) ?_
        refine mg_0_18 hx hb hts hown hK hP mw_851 dX12_test_49 ?_
        refine k_X12_isHere N (w := 9) (by decide) ⟨hx, hb, hml, hown, hts⟩ mw_938 ⟨Nat.le_of_ble_eq_true rfl, Nat.le_of_ble_eq_true rfl⟩ h hK hP hD hS hl.1 (rest := []) (Nat.le_of_ble_eq_true rfl) ⟨Nat.le_of_ble_eq_true rfl, Nat.le_of_ble_eq_true rfl⟩ dX12_test_52 (fun r3 τ4 H locs h hP hD hS => ?_)
        refine lv_if_eq (tgt := 79) hx hb dX12_test_55 (by decide) (fun hc => ?_) (fun hc => ?_)
        · have h := h.1 hc
          refine lv_aload_n hx hb dX12_test_79 rfl (lv_at hl 1 rfl) ?_
          refine k_X12_fact N ⟨hx, hb, hml, hown, hts⟩ mw_1015 ⟨Nat.le_of_ble_eq_true rfl, Nat.le_of_ble_eq_true rfl⟩ h hK hP hD hS hl.1 (rest := []) (Nat.le_of_ble_eq_true rfl) ⟨Nat.le_of_ble_eq_true rfl, Nat.le_of_ble_eq_true rfl⟩ dX12_test_80 (fun τ6 H locs h hP hD hS => ?_)
          refine lv_aload_n hx hb dX12_test_83 rfl (lv_at hl 1 rfl) ?_
          refine k_X12_dropsNots N ⟨hx, hb, hml, hown, hts⟩ mw_1021 ⟨Nat.le_of_ble_eq_true rfl, Nat.le_of_ble_eq_true rfl⟩ h hK hP hD hS hl.1 (rest := []) (Nat.le_of_ble_eq_true rfl) ⟨Nat.le_of_ble_eq_true rfl, Nat.le_of_ble_eq_true rfl⟩ dX12_test_84 (fun τ8 H locs h hP hD hS => ?_)
          refine lv_aload_n hx hb dX12_test_87 rfl (lv_at hl 1 rfl) ?_
          refine mg_0_5 hx hb hts hown hK hP mw_838 dX12_test_88 ?_
          refine lv_if_ne (tgt := 105) hx hb dX12_test_91 (by decide) (fun hc => ?_) (fun hc => ?_)
          · have h := h.2 hc
            refine lv_iconst (v := (0 : Int32)) hx hb dX12_test_105 (by decide) ?_
            refine lv_istore_n (lv' := [(1, .int (0 : Int32)), (2, .int r1), (0, .ref (ad 0))]) hx hb dX12_test_106 rfl hl (by decide) rfl (fun ls hl => ?_)
            refine lv_goto (tgt := 2) hx hb dX12_test_107 (by decide) ?_
            exact hk_2 (0 : Int32) τ8 _ _ _ h hP hD hS (lv_sub hl [2, 0] rfl)
          · have h := h.1 hc
            refine lv_aload_n hx hb dX12_test_94 rfl (lv_at hl 1 rfl) ?_
            refine k_X12_goesOnTest N ⟨hx, hb, hml, hown, hts⟩ mw_1024 ⟨Nat.le_of_ble_eq_true rfl, Nat.le_of_ble_eq_true rfl⟩ h hK hP hD hS hl.1 (rest := []) (Nat.le_of_ble_eq_true rfl) ⟨Nat.le_of_ble_eq_true rfl, Nat.le_of_ble_eq_true rfl⟩ dX12_test_95 (fun r9 τ10 H locs h hP hD hS => ?_)
            refine lv_if_eq (tgt := 105) hx hb dX12_test_98 (by decide) (fun hc => ?_) (fun hc => ?_)
            · have h := h.1 hc
              refine lv_iconst (v := (0 : Int32)) hx hb dX12_test_105 (by decide) ?_
              refine lv_istore_n (lv' := [(1, .int (0 : Int32)), (2, .int r1), (0, .ref (ad 0))]) hx hb dX12_test_106 rfl hl (by decide) rfl (fun ls hl => ?_)
              refine lv_goto (tgt := 2) hx hb dX12_test_107 (by decide) ?_
              exact hk_2 (0 : Int32) τ10 _ _ _ h hP hD hS (lv_sub hl [2, 0] rfl)
            · have h := h.2 hc
              refine lv_iconst (v := (1 : Int32)) hx hb dX12_test_101 (by decide) ?_
              refine lv_goto (tgt := 106) hx hb dX12_test_102 (by decide) ?_
              refine lv_istore_n (lv' := [(1, .int (1 : Int32)), (2, .int r1), (0, .ref (ad 0))]) hx hb dX12_test_106 rfl hl (by decide) rfl (fun ls hl => ?_)
              refine lv_goto (tgt := 2) hx hb dX12_test_107 (by decide) ?_
              exact hk_2 (1 : Int32) τ10 _ _ _ h hP hD hS (lv_sub hl [2, 0] rfl)
        · have h := h.2 hc
          refine lv_aload_n hx hb dX12_test_58 rfl (lv_at hl 1 rfl) ?_
          refine lv_bipush (v := (16 : Int32)) hx hb dX12_test_59 (by decide) ?_
          refine lv_aload_n hx hb dX12_test_61 rfl (lv_at hl 1 rfl) ?_
          refine mg_0_2 hx hb hts hown hK hP mw_835 dX12_test_62 ?_
          refine k_X12_opens N ⟨hx, hb, hml, hown, hts⟩ mw_982 ⟨Nat.le_of_ble_eq_true rfl, Nat.le_of_ble_eq_true rfl⟩ h hK hP hD hS hl.1 (rest := []) (Nat.le_of_ble_eq_true rfl) ⟨Nat.le_of_ble_eq_true rfl, Nat.le_of_ble_eq_true rfl⟩ dX12_test_65 (fun τ12 H locs h hP hD hS => ?_)
          refine lv_aload_n hx hb dX12_test_68 rfl (lv_at hl 1 rfl) ?_
          refine lv_aload_n hx hb dX12_test_69 rfl (lv_at hl 1 rfl) ?_
          refine mg_0_18 hx hb hts hown hK hP mw_851 dX12_test_70 ?_
          refine k_X12_asks N (w := 9) (by decide) ⟨hx, hb, hml, hown, hts⟩ mw_961 ⟨Nat.le_of_ble_eq_true rfl, Nat.le_of_ble_eq_true rfl⟩ h hK hP hD hS hl.1 (rest := []) (Nat.le_of_ble_eq_true rfl) ⟨Nat.le_of_ble_eq_true rfl, Nat.le_of_ble_eq_true rfl⟩ dX12_test_73 (fun τ14 H locs h hP hD hS => ?_)
          refine lv_goto (tgt := 2) hx hb dX12_test_76 (by decide) ?_
          exact hk_2 x1 τ14 _ _ _ h hP hD hS (lv_sub hl [1, 2] rfl)
      · have h := h.1 hc
        refine lv_aload_n hx hb dX12_test_24 rfl (lv_at hl 1 rfl) ?_
        refine lv_bipush (v := (25 : Int32)) hx hb dX12_test_25 (by decide) ?_
        refine lv_aload_n hx hb dX12_test_27 rfl (lv_at hl 1 rfl) ?_
        refine mg_0_2 hx hb hts hown hK hP mw_835 dX12_test_28 ?_
        refine k_X12_opens N ⟨hx, hb, hml, hown, hts⟩ mw_982 ⟨Nat.le_of_ble_eq_true rfl, Nat.le_of_ble_eq_true rfl⟩ h hK hP hD hS hl.1 (rest := []) (Nat.le_of_ble_eq_true rfl) ⟨Nat.le_of_ble_eq_true rfl, Nat.le_of_ble_eq_true rfl⟩ dX12_test_31 (fun τ16 H locs h hP hD hS => ?_)
        refine lv_aload_n hx hb dX12_test_34 rfl (lv_at hl 1 rfl) ?_
        refine lv_dup hx hb dX12_test_35 rfl ?_
        refine mg_0_2 hx hb hts hown hK hP mw_835 dX12_test_36 ?_
        refine lv_iconst (v := (1 : Int32)) hx hb dX12_test_39 (by decide) ?_
        refine lv_iadd hx hb dX12_test_40 ?_
        refine mp_0_2 hx hb hts hown hK hP hD hS mw_835 dX12_test_41 (fun τ17 H locs eτ17 hP hD hS => ?_)
        have h := h τ17 eτ17
        refine lv_goto (tgt := 2) hx hb dX12_test_44 (by decide) ?_
        exact hk_2 x1 τ17 _ _ _ h hP hD hS (lv_sub hl [1, 2] rfl)
set_option maxHeartbeats 4000000 in
set_option maxRecDepth 100000 in
theorem t_X12_test_2 (C0 : zCx p s m meth c args RX12 cX12_test 3 none vs_X12_test) (hK : va_K (dC, dI) vwCl (m_ty cI cJ cC) s) (N : Nat) {Q : zSt → Prop} : ∀ (f : Nat) (x1 : Int32) (σ : zSt) (H : Heap) (locs : List Loc) (ls : Array Slot), w_X12_test_2 N  Q f x1 σ → va_P (dC, dI) vwCl (m_W ad cI cJ cC σ) H → va_D (zAW m_n ad s.heap.size) (m_W ad cI cJ cC σ) → va_S (zAW m_n ad s.heap.size) s.heap H locs → lv_has ls 3 [(0, .ref (ad 0)), (1, .int x1)] → W p l e rm_X12_test s m args below meth c H locs 0 0 (MQ below (zQv (dC, dI) (m_ty cI cJ cC) (m_W ad cI cJ cC) (zAW m_n ad s.heap.size) Q) args s 0 0 (zAW m_n ad s.heap.size)) (F0 m 2 ls []) := by
  intro f
  induction f with
  | zero => intro x1 σ H locs ls h; exact h.elim
  | succ f ih =>
    intro x1 σ H locs ls h hP hD hS hl
    exact tb_X12_test_2 C0 hK N  (k_2 := w_X12_test_2 N  Q f) ih x1 σ H locs ls h hP hD hS hl
set_option maxHeartbeats 4000000 in
set_option maxRecDepth 100000 in
theorem t_X12_test_0 (C0 : zCx p s m meth c args RX12 cX12_test 3 none vs_X12_test) (hK : va_K (dC, dI) vwCl (m_ty cI cJ cC) s) (N : Nat) {Q : zSt → Prop} : ∀  (σ : zSt) (H : Heap) (locs : List Loc) (ls : Array Slot), w_X12_test N  σ Q → va_P (dC, dI) vwCl (m_W ad cI cJ cC σ) H → va_D (zAW m_n ad s.heap.size) (m_W ad cI cJ cC σ) → va_S (zAW m_n ad s.heap.size) s.heap H locs → lv_has ls 3 [(0, .ref (ad 0))] → W p l e rm_X12_test s m args below meth c H locs 0 0 (MQ below (zQv (dC, dI) (m_ty cI cJ cC) (m_W ad cI cJ cC) (zAW m_n ad s.heap.size) Q) args s 0 0 (zAW m_n ad s.heap.size)) (F0 m 0 ls []) := by
  obtain ⟨hx, hb, hml, hr, hown, hts, hlocks⟩ := id C0
  intro  σ H locs ls h hP hD hS hl
  unfold w_X12_test at h
  refine lv_iconst (v := (1 : Int32)) hx hb dX12_test_0 (by decide) ?_
  refine lv_istore_n (lv' := [(1, .int (1 : Int32)), (0, .ref (ad 0))]) hx hb dX12_test_1 rfl hl (by decide) rfl (fun ls hl => ?_)
  exact t_X12_test_2 C0 hK N  N (1 : Int32) σ _ _ _ h hP hD hS (lv_sub hl [1, 0] rfl)
set_option maxHeartbeats 4000000 in
set_option maxRecDepth 100000 in
theorem c_X12_test (N : Nat) (l : Launch) (dC : Nat → ClassId) (dI : Nat → Nat → Nat) (ad : Nat → Nat) (cI cJ cC : ClassId) (sz : Nat) (σ : zSt)  (Q : zSt → Prop) (h : w_X12_test N  σ Q) : Met l yX12_test vs_X12_test rm_X12_test (va_Pc [.ref (ad 0)] (zPc (dC, dI) (m_ty cI cJ cC) (m_W ad cI cJ cC) sz σ)) (zQv (dC, dI) (m_ty cI cJ cC) (m_W ad cI cJ cC) (zAW m_n ad sz) Q) 0 0 (zAW m_n ad sz) := by
  refine Met.ofW (cc := cX12_test) (maxL := 3) (ret := none) (by decide) rfl ?_
  intro p e s m args below meth c s₁ B hml hv
  obtain ⟨rfl, hsz, hP, hK, hD0⟩ := hv
  subst hsz
  have C0 : zCx p s m meth c _ RX12 cX12_test 3 none vs_X12_test := ⟨B.exec, B.bytes, hml, B.returns, findClass_of_methodNamed B.named, atoms_spec (ws := vs_X12_test) B.pre, B.notSynchronized⟩
  have hD := m_D0 (n0 := s.heap.size) hD0
  have hl := lv_entry ([.ref (ad 0)]) (n := 3) (Nat.le_of_ble_eq_true rfl)
  rw [lg_entry_eq]
  generalize (lg_sl ([.ref (ad 0)]) ++ List.replicate (3 - (lg_sl ([.ref (ad 0)])).length) Slot.unset).toArray = ls at hl ⊢
  exact t_X12_test_0 C0 hK N  σ _ _ ls h hP hD va_S.rf hl
theorem k_X12_test (N : Nat) {R : Room} {H : Heap} {locs : List Loc} {cells slots : Nat} {Q2 : State → Prop} {cc : ByteArray} {nL pc index : Nat} {ls : Array Slot} {rest : List Value} {own : String} {c0 : Cond} {σ : zSt}  {Q : zSt → Prop} (S0 : CallFix p m c cc nL s args (c0 :: zT) own) (hml : Cond.methodLink own index yX12_test ∈ zT) (hR : rm_X12_test.frames + 1 ≤ R.frames ∧ 8 + (3 + 11) + rm_X12_test.locals ≤ R.locals) (h : w_X12_test N  σ Q) (hK : va_K (dC, dI) vwCl (m_ty cI cJ cC) s) (hP : va_P (dC, dI) vwCl (m_W ad cI cJ cC σ) H) (hD : va_D (zAW m_n ad s.heap.size) (m_W ad cI cJ cC σ)) (hS : va_S (zAW m_n ad s.heap.size) s.heap H locs) (hsz : ls.size = nL) (hW : (rest.map fun v => v.category).sum ≤ 8) (hcs : cells ≤ R.cells ∧ slots ≤ R.slots) (hdg : decode cc pc = .ok (.invokevirtual index, 3)) (kk : ∀ (τ : zSt) (H1 : Heap) (locs1 : List Loc), Q τ → va_P (dC, dI) vwCl (m_W ad cI cJ cC τ) H1 → va_D (zAW m_n ad s.heap.size) (m_W ad cI cJ cC τ) → va_S (zAW m_n ad s.heap.size) s.heap H1 locs1 → W p l e R s m args below meth c H1 locs1 cells slots Q2 (F0 m (pc + 3) ls (rest))) : W p l e R s m args below meth c H locs cells slots Q2 (F0 m pc ls (.ref (ad 0) :: rest)) :=
  zcv_v (T := TX12) (N' := 83) (k := 0) (ci := 12) (fs := m_f0 ad σ) [] S0 (c_X12_test N l dC dI ad cI cJ cC H.size σ  Q h) (cw_X12_test S0.2.2.2.2 hml rfl rfl hR) rfl rfl hK hP hD hS rfl hsz hW rfl hcs hdg kk
end q17
section q17
def b_X12_rule_79 (N : Nat) (Q : zSt → Prop) (x2 : Int32) (σ : zSt) : Prop :=
  (vp_in x2 40) ∧ (∀ τ1 : zSt, τ1 = zA σ 8 (upd (σ.2.2.1 8) (x2.toNatClampNeg) (σ.1 9)) → ∀ τ2 : zSt, τ2 = zA τ1 4 (upd (τ1.2.2.1 4) 0 ((τ1.2.2.1 4 0) + (1 : Int32))) → Q τ2)
def b_X12_rule_50 (N : Nat) (Q : zSt → Prop) (x2 : Int32) (σ : zSt) : Prop :=
  (vp_in x2 40) ∧ (∀ τ1 : zSt, τ1 = zA σ 7 (upd (σ.2.2.1 7) (x2.toNatClampNeg) (σ.1 9)) → w_X12_asks N 3 τ1 (fun τ3 => ((τ3.1 4) = 0 → w_X12_test N τ3 (fun τ5 => b_X12_rule_79 N Q x2 τ5)) ∧ (¬ (τ3.1 4) = 0 → b_X12_rule_79 N Q x2 τ3)))
def w_X12_rule (N : Nat) (x1 : Int32) (σ : zSt) (Q : zSt → Prop) : Prop :=
  ∀ v1 : Int32, v1 = σ.2.2.1 4 0 → (vp_in v1 40) ∧ (∀ τ2 : zSt, τ2 = zA σ 5 (upd (σ.2.2.1 5) (v1.toNatClampNeg) x1) → ∀ τ3 : zSt, τ3 = zI τ2 10 (0 : Int32) → ∀ τ4 : zSt, τ4 = zI τ3 11 (0 : Int32) → ∀ τ5 : zSt, τ5 = zI τ4 13 (0 : Int32) → (vp_in v1 40) ∧ (∀ τ6 : zSt, τ6 = zA τ5 6 (upd (τ5.2.2.1 6) (v1.toNatClampNeg) (τ5.1 9)) → ((τ6.1 4) = 0 → w_X12_sums N τ6 (fun τ8 => b_X12_rule_50 N Q v1 τ8)) ∧ (¬ (τ6.1 4) = 0 → b_X12_rule_50 N Q v1 τ6)))
variable {p : Program} {l : Launch} {e : Env} {s : State} {m : MethodId} {args : Array Value} {below : List Frame} {meth : Method} {c : Code} {dC : Nat → ClassId} {dI : Nat → Nat → Nat} {ad : Nat → Nat} {cI cJ cC : ClassId}
set_option maxHeartbeats 4000000 in
set_option maxRecDepth 100000 in
theorem t_X12_rule_79 (C0 : zCx p s m meth c args RX12 cX12_rule 3 none vs_X12_rule) (hK : va_K (dC, dI) vwCl (m_ty cI cJ cC) s) (N : Nat) {Q : zSt → Prop} : ∀ (x2 : Int32) (σ : zSt) (H : Heap) (locs : List Loc) (ls : Array Slot), b_X12_rule_79 N  Q x2 σ → va_P (dC, dI) vwCl (m_W ad cI cJ cC σ) H → va_D (zAW m_n ad s.heap.size) (m_W ad cI cJ cC σ) → va_S (zAW m_n ad s.heap.size) s.heap H locs → lv_has ls 3 [(0, .ref (ad 0)), (2, .int x2)] → W p l e rm_X12_rule s m args below meth c H locs 0 0 (MQ below (zQv (dC, dI) (m_ty cI cJ cC) (m_W ad cI cJ cC) (zAW m_n ad s.heap.size) Q) args s 0 0 (zAW m_n ad s.heap.size)) (F0 m 79 ls []) := by
  obtain ⟨hx, hb, hml, hr, hown, hts, hlocks⟩ := id C0
  intro x2 σ H locs ls h hP hD hS hl
  unfold b_X12_rule_79 at h
  refine lv_aload_n hx hb dX12_rule_79 rfl (lv_at hl 0 rfl) ?_
  refine mg_0_37 hx hb hts hown hK hP mw_870 dX12_rule_80 ?_
  refine lv_iload_n hx hb dX12_rule_83 rfl (lv_at hl 1 rfl) ?_
  refine lv_aload_n hx hb dX12_rule_84 rfl (lv_at hl 0 rfl) ?_
  refine mg_0_41 hx hb hts hown hK hP mw_874 dX12_rule_85 ?_
  refine ms_10 hx hb hK hP hD hS h.1 rfl dX12_rule_88 (fun τ1 H locs eτ1 hP hD hS => ?_)
  have h := h.2
  have h := h τ1 eτ1
  refine lv_aload_n hx hb dX12_rule_89 rfl (lv_at hl 0 rfl) ?_
  refine mg_0_33 hx hb hts hown hK hP mw_866 dX12_rule_90 ?_
  refine lv_iconst (v := (0 : Int32)) hx hb dX12_rule_93 (by decide) ?_
  refine lv_dup2_11 hx hb dX12_rule_94 rfl rfl ?_
  refine ma_6 (j := 0) hx hb hK hP (zin (by decide)) (by decide) dX12_rule_95 ?_
  refine lv_iconst (v := (1 : Int32)) hx hb dX12_rule_96 (by decide) ?_
  refine lv_iadd hx hb dX12_rule_97 ?_
  refine ms_6 (j := 0) hx hb hK hP hD hS (zin (by decide)) (by decide) dX12_rule_98 (fun τ2 H locs eτ2 hP hD hS => ?_)
  have h := h τ2 eτ2
  exact zret_v hx hb hr hlocks hK hP hD hS h dX12_rule_99
set_option maxHeartbeats 4000000 in
set_option maxRecDepth 100000 in
theorem t_X12_rule_50 (C0 : zCx p s m meth c args RX12 cX12_rule 3 none vs_X12_rule) (hK : va_K (dC, dI) vwCl (m_ty cI cJ cC) s) (N : Nat) {Q : zSt → Prop} : ∀ (x2 : Int32) (σ : zSt) (H : Heap) (locs : List Loc) (ls : Array Slot), b_X12_rule_50 N  Q x2 σ → va_P (dC, dI) vwCl (m_W ad cI cJ cC σ) H → va_D (zAW m_n ad s.heap.size) (m_W ad cI cJ cC σ) → va_S (zAW m_n ad s.heap.size) s.heap H locs → lv_has ls 3 [(0, .ref (ad 0)), (2, .int x2)] → W p l e rm_X12_rule s m args below meth c H locs 0 0 (MQ below (zQv (dC, dI) (m_ty cI cJ cC) (m_W ad cI cJ cC) (zAW m_n ad s.heap.size) Q) args s 0 0 (zAW m_n ad s.heap.size)) (F0 m 50 ls []) := by
  obtain ⟨hx, hb, hml, hr, hown, hts, hlocks⟩ := id C0
  intro x2 σ H locs ls h hP hD hS hl
  unfold b_X12_rule_50 at h
  refine lv_aload_n hx hb dX12_rule_50 rfl (lv_at hl 0 rfl) ?_
  refine mg_0_36 hx hb hts hown hK hP mw_869 dX12_rule_51 ?_
  refine lv_iload_n hx hb dX12_rule_54 rfl (lv_at hl 1 rfl) ?_
  refine lv_aload_n hx hb dX12_rule_55 rfl (lv_at hl 0 rfl) ?_
  refine mg_0_41 hx hb hts hown hK hP mw_874 dX12_rule_56 ?_
  refine ms_9 hx hb hK hP hD hS h.1 rfl dX12_rule_59 (fun τ1 H locs eτ1 hP hD hS => ?_)
  have h := h.2
  have h := h τ1 eτ1
  refine lv_aload_n hx hb dX12_rule_60 rfl (lv_at hl 0 rfl) ?_
  refine lv_aload_n hx hb dX12_rule_61 rfl (lv_at hl 0 rfl) ?_
  refine mg_0_12 hx hb hts hown hK hP mw_845 dX12_rule_62 ?_
  refine k_X12_asks N (w := 3) (by decide) ⟨hx, hb, hml, hown, hts⟩ mw_961 ⟨Nat.le_of_ble_eq_true rfl, Nat.le_of_ble_eq_true rfl⟩ h hK hP hD hS hl.1 (rest := []) (Nat.le_of_ble_eq_true rfl) ⟨Nat.le_of_ble_eq_true rfl, Nat.le_of_ble_eq_true rfl⟩ dX12_rule_65 (fun τ3 H locs h hP hD hS => ?_)
  refine lv_aload_n hx hb dX12_rule_68 rfl (lv_at hl 0 rfl) ?_
  refine mg_0_5 hx hb hts hown hK hP mw_838 dX12_rule_69 ?_
  refine lv_if_ne (tgt := 79) hx hb dX12_rule_72 (by decide) (fun hc => ?_) (fun hc => ?_)
  · have h := h.2 hc
    exact t_X12_rule_79 C0 hK N  x2 τ3 _ _ _ h hP hD hS (lv_sub hl [0, 1] rfl)
  · have h := h.1 hc
    refine lv_aload_n hx hb dX12_rule_75 rfl (lv_at hl 0 rfl) ?_
    refine k_X12_test N ⟨hx, hb, hml, hown, hts⟩ mw_1012 ⟨Nat.le_of_ble_eq_true rfl, Nat.le_of_ble_eq_true rfl⟩ h hK hP hD hS hl.1 (rest := []) (Nat.le_of_ble_eq_true rfl) ⟨Nat.le_of_ble_eq_true rfl, Nat.le_of_ble_eq_true rfl⟩ dX12_rule_76 (fun τ5 H locs h hP hD hS => ?_)
    exact t_X12_rule_79 C0 hK N  x2 τ5 _ _ _ h hP hD hS (lv_sub hl [0, 1] rfl)
set_option maxHeartbeats 4000000 in
set_option maxRecDepth 100000 in
theorem t_X12_rule_0 (C0 : zCx p s m meth c args RX12 cX12_rule 3 none vs_X12_rule) (hK : va_K (dC, dI) vwCl (m_ty cI cJ cC) s) (N : Nat) {Q : zSt → Prop} : ∀ (x1 : Int32) (σ : zSt) (H : Heap) (locs : List Loc) (ls : Array Slot), w_X12_rule N x1 σ Q → va_P (dC, dI) vwCl (m_W ad cI cJ cC σ) H → va_D (zAW m_n ad s.heap.size) (m_W ad cI cJ cC σ) → va_S (zAW m_n ad s.heap.size) s.heap H locs → lv_has ls 3 [(0, .ref (ad 0)), (1, .int x1)] → W p l e rm_X12_rule s m args below meth c H locs 0 0 (MQ below (zQv (dC, dI) (m_ty cI cJ cC) (m_W ad cI cJ cC) (zAW m_n ad s.heap.size) Q) args s 0 0 (zAW m_n ad s.heap.size)) (F0 m 0 ls []) := by
  obtain ⟨hx, hb, hml, hr, hown, hts, hlocks⟩ := id C0
  intro x1 σ H locs ls h hP hD hS hl
  unfold w_X12_rule at h
  refine lv_aload_n hx hb dX12_rule_0 rfl (lv_at hl 0 rfl) ?_
  refine mg_0_33 hx hb hts hown hK hP mw_866 dX12_rule_1 ?_
  refine lv_iconst (v := (0 : Int32)) hx hb dX12_rule_4 (by decide) ?_
  refine ma_6 (j := 0) hx hb hK hP (zin (by decide)) (by decide) dX12_rule_5 ?_
  refine lv_topi (fun v1 ev1 => ?_)
  have h := h v1 ev1
  refine lv_istore_n (lv' := [(2, .int v1), (0, .ref (ad 0)), (1, .int x1)]) hx hb dX12_rule_6 rfl hl (by decide) rfl (fun ls hl => ?_)
  refine lv_aload_n hx hb dX12_rule_7 rfl (lv_at hl 1 rfl) ?_
  refine mg_0_34 hx hb hts hown hK hP mw_867 dX12_rule_8 ?_
  refine lv_iload_n hx hb dX12_rule_11 rfl (lv_at hl 0 rfl) ?_
  refine lv_iload_n hx hb dX12_rule_12 rfl (lv_at hl 2 rfl) ?_
  refine ms_7 hx hb hK hP hD hS h.1 rfl dX12_rule_13 (fun τ2 H locs eτ2 hP hD hS => ?_)
  have h := h.2
  have h := h τ2 eτ2
  refine lv_aload_n hx hb dX12_rule_14 rfl (lv_at hl 1 rfl) ?_
  refine lv_iconst (v := (0 : Int32)) hx hb dX12_rule_15 (by decide) ?_
  refine mp_0_43 hx hb hts hown hK hP hD hS mw_876 dX12_rule_16 (fun τ3 H locs eτ3 hP hD hS => ?_)
  have h := h τ3 eτ3
  refine lv_aload_n hx hb dX12_rule_19 rfl (lv_at hl 1 rfl) ?_
  refine lv_iconst (v := (0 : Int32)) hx hb dX12_rule_20 (by decide) ?_
  refine mp_0_44 hx hb hts hown hK hP hD hS mw_877 dX12_rule_21 (fun τ4 H locs eτ4 hP hD hS => ?_)
  have h := h τ4 eτ4
  refine lv_aload_n hx hb dX12_rule_24 rfl (lv_at hl 1 rfl) ?_
  refine lv_iconst (v := (0 : Int32)) hx hb dX12_rule_25 (by decide) ?_
  refine mp_0_46 hx hb hts hown hK hP hD hS mw_879 dX12_rule_26 (fun τ5 H locs eτ5 hP hD hS => ?_)
  have h := h τ5 eτ5
  refine lv_aload_n hx hb dX12_rule_29 rfl (lv_at hl 1 rfl) ?_
  refine mg_0_35 hx hb hts hown hK hP mw_868 dX12_rule_30 ?_
  refine lv_iload_n hx hb dX12_rule_33 rfl (lv_at hl 0 rfl) ?_
  refine lv_aload_n hx hb dX12_rule_34 rfl (lv_at hl 1 rfl) ?_
  refine mg_0_41 hx hb hts hown hK hP mw_874 dX12_rule_35 ?_
  refine ms_8 hx hb hK hP hD hS h.1 rfl dX12_rule_38 (fun τ6 H locs eτ6 hP hD hS => ?_)
  have h := h.2
  have h := h τ6 eτ6
  refine lv_aload_n hx hb dX12_rule_39 rfl (lv_at hl 1 rfl) ?_
  refine mg_0_5 hx hb hts hown hK hP mw_838 dX12_rule_40 ?_
  refine lv_if_ne (tgt := 50) hx hb dX12_rule_43 (by decide) (fun hc => ?_) (fun hc => ?_)
  · have h := h.2 hc
    exact t_X12_rule_50 C0 hK N  v1 τ6 _ _ _ h hP hD hS (lv_sub hl [1, 0] rfl)
  · have h := h.1 hc
    refine lv_aload_n hx hb dX12_rule_46 rfl (lv_at hl 1 rfl) ?_
    refine k_X12_sums N ⟨hx, hb, hml, hown, hts⟩ mw_976 ⟨Nat.le_of_ble_eq_true rfl, Nat.le_of_ble_eq_true rfl⟩ h hK hP hD hS hl.1 (rest := []) (Nat.le_of_ble_eq_true rfl) ⟨Nat.le_of_ble_eq_true rfl, Nat.le_of_ble_eq_true rfl⟩ dX12_rule_47 (fun τ8 H locs h hP hD hS => ?_)
    exact t_X12_rule_50 C0 hK N  v1 τ8 _ _ _ h hP hD hS (lv_sub hl [1, 0] rfl)
set_option maxHeartbeats 4000000 in
set_option maxRecDepth 100000 in
theorem c_X12_rule (N : Nat) (l : Launch) (dC : Nat → ClassId) (dI : Nat → Nat → Nat) (ad : Nat → Nat) (cI cJ cC : ClassId) (sz : Nat) (σ : zSt) (x1 : Int32) (Q : zSt → Prop) (h : w_X12_rule N x1 σ Q) : Met l yX12_rule vs_X12_rule rm_X12_rule (va_Pc [.ref (ad 0), .int x1] (zPc (dC, dI) (m_ty cI cJ cC) (m_W ad cI cJ cC) sz σ)) (zQv (dC, dI) (m_ty cI cJ cC) (m_W ad cI cJ cC) (zAW m_n ad sz) Q) 0 0 (zAW m_n ad sz) := by
  refine Met.ofW (cc := cX12_rule) (maxL := 3) (ret := none) (by decide) rfl ?_
  intro p e s m args below meth c s₁ B hml hv
  obtain ⟨rfl, hsz, hP, hK, hD0⟩ := hv
  subst hsz
  have C0 : zCx p s m meth c _ RX12 cX12_rule 3 none vs_X12_rule := ⟨B.exec, B.bytes, hml, B.returns, findClass_of_methodNamed B.named, atoms_spec (ws := vs_X12_rule) B.pre, B.notSynchronized⟩
  have hD := m_D0 (n0 := s.heap.size) hD0
  have hl := lv_entry ([.ref (ad 0), .int x1]) (n := 3) (Nat.le_of_ble_eq_true rfl)
  rw [lg_entry_eq]
  generalize (lg_sl ([.ref (ad 0), .int x1]) ++ List.replicate (3 - (lg_sl ([.ref (ad 0), .int x1])).length) Slot.unset).toArray = ls at hl ⊢
  exact t_X12_rule_0 C0 hK N x1 σ _ _ ls h hP hD va_S.rf hl
theorem k_X12_rule (N : Nat) {R : Room} {H : Heap} {locs : List Loc} {cells slots : Nat} {Q2 : State → Prop} {cc : ByteArray} {nL pc index : Nat} {ls : Array Slot} {rest : List Value} {own : String} {c0 : Cond} {σ : zSt} {x1 : Int32} {Q : zSt → Prop} (S0 : CallFix p m c cc nL s args (c0 :: zT) own) (hml : Cond.methodLink own index yX12_rule ∈ zT) (hR : rm_X12_rule.frames + 1 ≤ R.frames ∧ 8 + (3 + 11) + rm_X12_rule.locals ≤ R.locals) (h : w_X12_rule N x1 σ Q) (hK : va_K (dC, dI) vwCl (m_ty cI cJ cC) s) (hP : va_P (dC, dI) vwCl (m_W ad cI cJ cC σ) H) (hD : va_D (zAW m_n ad s.heap.size) (m_W ad cI cJ cC σ)) (hS : va_S (zAW m_n ad s.heap.size) s.heap H locs) (hsz : ls.size = nL) (hW : (rest.map fun v => v.category).sum ≤ 8) (hcs : cells ≤ R.cells ∧ slots ≤ R.slots) (hdg : decode cc pc = .ok (.invokevirtual index, 3)) (kk : ∀ (τ : zSt) (H1 : Heap) (locs1 : List Loc), Q τ → va_P (dC, dI) vwCl (m_W ad cI cJ cC τ) H1 → va_D (zAW m_n ad s.heap.size) (m_W ad cI cJ cC τ) → va_S (zAW m_n ad s.heap.size) s.heap H1 locs1 → W p l e R s m args below meth c H1 locs1 cells slots Q2 (F0 m (pc + 3) ls (rest))) : W p l e R s m args below meth c H locs cells slots Q2 (F0 m pc ls (.int x1 :: .ref (ad 0) :: rest)) :=
  zcv_v (T := TX12) (N' := 83) (k := 0) (ci := 12) (fs := m_f0 ad σ) [.int x1] S0 (c_X12_rule N l dC dI ad cI cJ cC H.size σ x1 Q h) (cw_X12_rule S0.2.2.2.2 hml rfl rfl hR) rfl rfl hK hP hD hS rfl hsz hW rfl hcs hdg kk
end q17
section q17
def b_X12_pairOf_21 (N : Nat) (Q : Int32 → zSt → Prop) (x2 : Int32) (s0 : Int32) (σ : zSt) : Prop :=
  Q (((s0 * (s0 - (1 : Int32))) / (2 : Int32)) + x2) σ
def b_X12_pairOf_10 (N : Nat) (Q : Int32 → zSt → Prop) (x0 : Int32) (x1 : Int32) (s0 : Int32) (σ : zSt) : Prop :=
  (x1 ≤ x0 → b_X12_pairOf_21 N Q s0 x0 σ) ∧ (¬ x1 ≤ x0 → b_X12_pairOf_21 N Q s0 x1 σ)
def w_X12_pairOf (N : Nat) (x0 : Int32) (x1 : Int32) (σ : zSt) (Q : Int32 → zSt → Prop) : Prop :=
  (x1 ≤ x0 → b_X12_pairOf_10 N Q x0 x1 x1 σ) ∧ (¬ x1 ≤ x0 → b_X12_pairOf_10 N Q x0 x1 x0 σ)
variable {p : Program} {l : Launch} {e : Env} {s : State} {m : MethodId} {args : Array Value} {below : List Frame} {meth : Method} {c : Code} {dC : Nat → ClassId} {dI : Nat → Nat → Nat} {ad : Nat → Nat} {cI cJ cC : ClassId}
set_option maxHeartbeats 4000000 in
set_option maxRecDepth 100000 in
theorem t_X12_pairOf_21 (C0 : zCx p s m meth c args RX12 cX12_pairOf 4 (some .int) vs_X12_pairOf) (hK : va_K (dC, dI) vwCl (m_ty cI cJ cC) s) (N : Nat) {Q : Int32 → zSt → Prop} : ∀ (x2 : Int32) (s0 : Int32) (σ : zSt) (H : Heap) (locs : List Loc) (ls : Array Slot), b_X12_pairOf_21 N  Q x2 s0 σ → va_P (dC, dI) vwCl (m_W ad cI cJ cC σ) H → va_D (zAW m_n ad s.heap.size) (m_W ad cI cJ cC σ) → va_S (zAW m_n ad s.heap.size) s.heap H locs → lv_has ls 4 [(2, .int x2)] → W p l e rm_X12_pairOf s m args below meth c H locs 0 0 (MQ below (zQi (dC, dI) (m_ty cI cJ cC) (m_W ad cI cJ cC) (zAW m_n ad s.heap.size) Q) args s 0 0 (zAW m_n ad s.heap.size)) (F0 m 21 ls [.int s0]) := by
  obtain ⟨hx, hb, hml, hr, hown, hts, hlocks⟩ := id C0
  intro x2 s0 σ H locs ls h hP hD hS hl
  unfold b_X12_pairOf_21 at h
  refine lv_istore_n (lv' := [(3, .int s0), (2, .int x2)]) hx hb dX12_pairOf_21 rfl hl (by decide) rfl (fun ls hl => ?_)
  refine lv_iload_n hx hb dX12_pairOf_22 rfl (lv_at hl 0 rfl) ?_
  refine lv_iload_n hx hb dX12_pairOf_23 rfl (lv_at hl 0 rfl) ?_
  refine lv_iconst (v := (1 : Int32)) hx hb dX12_pairOf_24 (by decide) ?_
  refine lv_isub hx hb dX12_pairOf_25 ?_
  refine lv_imul hx hb dX12_pairOf_26 ?_
  refine lv_iconst (v := (2 : Int32)) hx hb dX12_pairOf_27 (by decide) ?_
  refine lv_idiv hx hb dX12_pairOf_28 (by decide) ?_
  refine lv_iload_n hx hb dX12_pairOf_29 rfl (lv_at hl 1 rfl) ?_
  refine lv_iadd hx hb dX12_pairOf_30 ?_
  exact zret_i hx hb hr hlocks hK hP hD hS h dX12_pairOf_31
set_option maxHeartbeats 4000000 in
set_option maxRecDepth 100000 in
theorem t_X12_pairOf_10 (C0 : zCx p s m meth c args RX12 cX12_pairOf 4 (some .int) vs_X12_pairOf) (hK : va_K (dC, dI) vwCl (m_ty cI cJ cC) s) (N : Nat) {Q : Int32 → zSt → Prop} : ∀ (x0 : Int32) (x1 : Int32) (s0 : Int32) (σ : zSt) (H : Heap) (locs : List Loc) (ls : Array Slot), b_X12_pairOf_10 N  Q x0 x1 s0 σ → va_P (dC, dI) vwCl (m_W ad cI cJ cC σ) H → va_D (zAW m_n ad s.heap.size) (m_W ad cI cJ cC σ) → va_S (zAW m_n ad s.heap.size) s.heap H locs → lv_has ls 4 [(0, .int x0), (1, .int x1)] → W p l e rm_X12_pairOf s m args below meth c H locs 0 0 (MQ below (zQi (dC, dI) (m_ty cI cJ cC) (m_W ad cI cJ cC) (zAW m_n ad s.heap.size) Q) args s 0 0 (zAW m_n ad s.heap.size)) (F0 m 10 ls [.int s0]) := by
  obtain ⟨hx, hb, hml, hr, hown, hts, hlocks⟩ := id C0
  intro x0 x1 s0 σ H locs ls h hP hD hS hl
  unfold b_X12_pairOf_10 at h
  refine lv_istore_n (lv' := [(2, .int s0), (0, .int x0), (1, .int x1)]) hx hb dX12_pairOf_10 rfl hl (by decide) rfl (fun ls hl => ?_)
  refine lv_iload_n hx hb dX12_pairOf_11 rfl (lv_at hl 1 rfl) ?_
  refine lv_iload_n hx hb dX12_pairOf_12 rfl (lv_at hl 2 rfl) ?_
  refine lv_icmp_ge (tgt := 20) hx hb dX12_pairOf_13 (by decide) (fun hc => ?_) (fun hc => ?_)
  · have h := h.1 hc
    refine lv_iload_n hx hb dX12_pairOf_20 rfl (lv_at hl 1 rfl) ?_
    exact t_X12_pairOf_21 C0 hK N  s0 x0 σ _ _ _ h hP hD hS (lv_sub hl [0] rfl)
  · have h := h.2 hc
    refine lv_iload_n hx hb dX12_pairOf_16 rfl (lv_at hl 2 rfl) ?_
    refine lv_goto (tgt := 21) hx hb dX12_pairOf_17 (by decide) ?_
    exact t_X12_pairOf_21 C0 hK N  s0 x1 σ _ _ _ h hP hD hS (lv_sub hl [0] rfl)
set_option maxHeartbeats 4000000 in
set_option maxRecDepth 100000 in
theorem t_X12_pairOf_0 (C0 : zCx p s m meth c args RX12 cX12_pairOf 4 (some .int) vs_X12_pairOf) (hK : va_K (dC, dI) vwCl (m_ty cI cJ cC) s) (N : Nat) {Q : Int32 → zSt → Prop} : ∀ (x0 : Int32) (x1 : Int32) (σ : zSt) (H : Heap) (locs : List Loc) (ls : Array Slot), w_X12_pairOf N x0 x1 σ Q → va_P (dC, dI) vwCl (m_W ad cI cJ cC σ) H → va_D (zAW m_n ad s.heap.size) (m_W ad cI cJ cC σ) → va_S (zAW m_n ad s.heap.size) s.heap H locs → lv_has ls 4 [(0, .int x0), (1, .int x1)] → W p l e rm_X12_pairOf s m args below meth c H locs 0 0 (MQ below (zQi (dC, dI) (m_ty cI cJ cC) (m_W ad cI cJ cC) (zAW m_n ad s.heap.size) Q) args s 0 0 (zAW m_n ad s.heap.size)) (F0 m 0 ls []) := by
  obtain ⟨hx, hb, hml, hr, hown, hts, hlocks⟩ := id C0
  intro x0 x1 σ H locs ls h hP hD hS hl
  unfold w_X12_pairOf at h
  refine lv_iload_n hx hb dX12_pairOf_0 rfl (lv_at hl 0 rfl) ?_
  refine lv_iload_n hx hb dX12_pairOf_1 rfl (lv_at hl 1 rfl) ?_
  refine lv_icmp_ge (tgt := 9) hx hb dX12_pairOf_2 (by decide) (fun hc => ?_) (fun hc => ?_)
  · have h := h.1 hc
    refine lv_iload_n hx hb dX12_pairOf_9 rfl (lv_at hl 1 rfl) ?_
    exact t_X12_pairOf_10 C0 hK N  x0 x1 x1 σ _ _ _ h hP hD hS (lv_sub hl [0, 1] rfl)
  · have h := h.2 hc
    refine lv_iload_n hx hb dX12_pairOf_5 rfl (lv_at hl 0 rfl) ?_
    refine lv_goto (tgt := 10) hx hb dX12_pairOf_6 (by decide) ?_
    exact t_X12_pairOf_10 C0 hK N  x0 x1 x0 σ _ _ _ h hP hD hS (lv_sub hl [0, 1] rfl)
set_option maxHeartbeats 4000000 in
set_option maxRecDepth 100000 in
theorem c_X12_pairOf (N : Nat) (l : Launch) (dC : Nat → ClassId) (dI : Nat → Nat → Nat) (ad : Nat → Nat) (cI cJ cC : ClassId) (sz : Nat) (σ : zSt) (x0 : Int32) (x1 : Int32) (Q : Int32 → zSt → Prop) (h : w_X12_pairOf N x0 x1 σ Q) : Met l yX12_pairOf vs_X12_pairOf rm_X12_pairOf (va_Pc [.int x0, .int x1] (zPc (dC, dI) (m_ty cI cJ cC) (m_W ad cI cJ cC) sz σ)) (zQi (dC, dI) (m_ty cI cJ cC) (m_W ad cI cJ cC) (zAW m_n ad sz) Q) 0 0 (zAW m_n ad sz) := by
  refine Met.ofW (cc := cX12_pairOf) (maxL := 4) (ret := (some .int)) (by decide) rfl ?_
  intro p e s m args below meth c s₁ B hml hv
  obtain ⟨rfl, hsz, hP, hK, hD0⟩ := hv
  subst hsz
  have C0 : zCx p s m meth c _ RX12 cX12_pairOf 4 (some .int) vs_X12_pairOf := ⟨B.exec, B.bytes, hml, B.returns, findClass_of_methodNamed B.named, atoms_spec (ws := vs_X12_pairOf) B.pre, B.notSynchronized⟩
  have hD := m_D0 (n0 := s.heap.size) hD0
  have hl := lv_entry ([.int x0, .int x1]) (n := 4) (Nat.le_of_ble_eq_true rfl)
  rw [lg_entry_eq]
  generalize (lg_sl ([.int x0, .int x1]) ++ List.replicate (4 - (lg_sl ([.int x0, .int x1])).length) Slot.unset).toArray = ls at hl ⊢
  exact t_X12_pairOf_0 C0 hK N x0 x1 σ _ _ ls h hP hD va_S.rf hl
theorem k_X12_pairOf (N : Nat) {R : Room} {H : Heap} {locs : List Loc} {cells slots : Nat} {Q2 : State → Prop} {cc : ByteArray} {nL pc index : Nat} {ls : Array Slot} {rest : List Value} {own : String} {c0 : Cond} {σ : zSt} {x0 : Int32} {x1 : Int32} {Q : Int32 → zSt → Prop} (S0 : CallFix p m c cc nL s args (c0 :: zT) own) (hml : Cond.methodLink own index yX12_pairOf ∈ zT) (hR : rm_X12_pairOf.frames + 1 ≤ R.frames ∧ 8 + (4 + 11) + rm_X12_pairOf.locals ≤ R.locals) (h : w_X12_pairOf N x0 x1 σ Q) (hK : va_K (dC, dI) vwCl (m_ty cI cJ cC) s) (hP : va_P (dC, dI) vwCl (m_W ad cI cJ cC σ) H) (hD : va_D (zAW m_n ad s.heap.size) (m_W ad cI cJ cC σ)) (hS : va_S (zAW m_n ad s.heap.size) s.heap H locs) (hsz : ls.size = nL) (hW : (rest.map fun v => v.category).sum ≤ 8) (hcs : cells ≤ R.cells ∧ slots ≤ R.slots) (hdg : decode cc pc = .ok (.invokestatic index, 3)) (kk : ∀ (r : Int32) (τ : zSt) (H1 : Heap) (locs1 : List Loc), Q r τ → va_P (dC, dI) vwCl (m_W ad cI cJ cC τ) H1 → va_D (zAW m_n ad s.heap.size) (m_W ad cI cJ cC τ) → va_S (zAW m_n ad s.heap.size) s.heap H1 locs1 → W p l e R s m args below meth c H1 locs1 cells slots Q2 (F0 m (pc + 3) ls (.int r :: rest))) : W p l e R s m args below meth c H locs cells slots Q2 (F0 m pc ls (.int x1 :: .int x0 :: rest)) :=
  zcs_i [.int x0, .int x1] S0 (c_X12_pairOf N l dC dI ad cI cJ cC H.size σ x0 x1 Q h) (cw_X12_pairOf S0.2.2.2.2 hml hR) hK hP hD hS rfl hsz hW rfl hcs hdg kk
end q17
