section q23
end q23
section q23
def b_X12_findsTogether_2 (N : Nat) (k_2 : Int64 → Int32 → zSt → Prop) (Q : Int32 → zSt → Prop) (x1 : Int64) (x3 : Int32) (σ : zSt) : Prop :=
  w_X12_pairs N σ (fun r1 τ2 => (r1 ≤ x3 → Q (0 : Int32) τ2) ∧ (¬ r1 ≤ x3 → ∀ v3 : Int64, v3 = x1 ^^^ ((1 : Int64) <<< (x3.toInt64 &&& 63)) → w_X12_lowOf N x3 τ2 (fun r4 τ5 => w_X12_highOf N x3 τ5 (fun r6 τ7 => w_X12_may N v3 τ7 (fun r8 τ9 => (r8 = 0 → ∀ v10 : Int32, v10 = x3 + (1 : Int32) → k_2 x1 v10 τ9) ∧ (¬ r8 = 0 → w_X12_worthOf N v3 r4 τ9 (fun r11 τ12 => w_X12_worthOf N v3 r6 τ12 (fun r13 τ14 => (vp_in r4 10) ∧ ((vp_in r6 10) ∧ (((lg_cmp (r11 + r13) ((τ14.2.2.2 4 r4.toNatClampNeg) + (τ14.2.2.2 4 r6.toNatClampNeg))) ≤ 0 → ∀ v15 : Int32, v15 = x3 + (1 : Int32) → k_2 x1 v15 τ14) ∧ (¬ (lg_cmp (r11 + r13) ((τ14.2.2.2 4 r4.toNatClampNeg) + (τ14.2.2.2 4 r6.toNatClampNeg))) ≤ 0 → w_X12_finds N (4 : Int32) (((1 : Int32) <<< (r4 &&& 31)) ||| ((1 : Int32) <<< (r6 &&& 31))) v3 τ14 (fun r16 τ17 => (zb r16) ∧ Q r16 τ17))))))))))))
def w_X12_findsTogether_2 (N : Nat) (Q : Int32 → zSt → Prop) : Nat → Int64 → Int32 → zSt → Prop
  | 0 => fun _ _ _ => False
  | f + 1 => b_X12_findsTogether_2 N (w_X12_findsTogether_2 N  Q f) Q
def w_X12_findsTogether (N : Nat) (x1 : Int64) (σ : zSt) (Q : Int32 → zSt → Prop) : Prop :=
  w_X12_findsTogether_2 N Q N x1 (0 : Int32) σ
variable {p : Program} {l : Launch} {e : Env} {s : State} {m : MethodId} {args : Array Value} {below : List Frame} {meth : Method} {c : Code} {dC : Nat → ClassId} {dI : Nat → Nat → Nat} {ad : Nat → Nat} {cI cJ cC : ClassId}
set_option maxHeartbeats 4000000 in
set_option maxRecDepth 100000 in
theorem tb_X12_findsTogether_2 (C0 : zCx p s m meth c args RX12 cX12_findsTogether 8 (some .boolean) vs_X12_findsTogether) (hK : va_K (dC, dI) vwCl (m_ty cI cJ cC) s) (N : Nat) {Q : Int32 → zSt → Prop} {k_2 : Int64 → Int32 → zSt → Prop} (hk_2 : ∀ (x1 : Int64) (x3 : Int32) (σ : zSt) (H : Heap) (locs : List Loc) (ls : Array Slot), k_2 x1 x3 σ → va_P (dC, dI) vwCl (m_W ad cI cJ cC σ) H → va_D (zAW m_n ad s.heap.size) (m_W ad cI cJ cC σ) → va_S (zAW m_n ad s.heap.size) s.heap H locs → lv_has ls 8 [(0, .ref (ad 0)), (1, .long x1), (3, .int x3)] → W p l e rm_X12_findsTogether s m args below meth c H locs 0 0 (MQ below (zQi (dC, dI) (m_ty cI cJ cC) (m_W ad cI cJ cC) (zAW m_n ad s.heap.size) Q) args s 0 0 (zAW m_n ad s.heap.size)) (F0 m 2 ls [])) : ∀ (x1 : Int64) (x3 : Int32) (σ : zSt) (H : Heap) (locs : List Loc) (ls : Array Slot), b_X12_findsTogether_2 N k_2 Q x1 x3 σ → va_P (dC, dI) vwCl (m_W ad cI cJ cC σ) H → va_D (zAW m_n ad s.heap.size) (m_W ad cI cJ cC σ) → va_S (zAW m_n ad s.heap.size) s.heap H locs → lv_has ls 8 [(0, .ref (ad 0)), (1, .long x1), (3, .int x3)] → W p l e rm_X12_findsTogether s m args below meth c H locs 0 0 (MQ below (zQi (dC, dI) (m_ty cI cJ cC) (m_W ad cI cJ cC) (zAW m_n ad s.heap.size) Q) args s 0 0 (zAW m_n ad s.heap.size)) (F0 m 2 ls []) := by
  obtain ⟨hx, hb, hml, hr, hown, hts, hlocks⟩ := id C0
  intro x1 x3 σ H locs ls h hP hD hS hl
  unfold b_X12_findsTogether_2 at h
  refine lv_iload_n hx hb dX12_findsTogether_2 rfl (lv_at hl 2 rfl) ?_
  refine lv_aload_n hx hb dX12_findsTogether_3 rfl (lv_at hl 0 rfl) ?_
  refine k_X12_pairs N ⟨hx, hb, hml, hown, hts⟩ mw_1047 ⟨Nat.le_of_ble_eq_true rfl, Nat.le_of_ble_eq_true rfl⟩ h hK hP hD hS hl.1 (rest := [.int x3]) (Nat.le_of_ble_eq_true rfl) ⟨Nat.le_of_ble_eq_true rfl, Nat.le_of_ble_eq_true rfl⟩ dX12_findsTogether_4 (fun r1 τ2 H locs h hP hD hS => ?_)
  refine lv_icmp_ge (tgt := 97) hx hb dX12_findsTogether_7 (by decide) (fun hc => ?_) (fun hc => ?_)
  · have h := h.1 hc
    refine lv_iconst (v := (0 : Int32)) hx hb dX12_findsTogether_97 (by decide) ?_
    exact zret_z hx hb hr hlocks hK hP hD hS zb_0 h dX12_findsTogether_98
  · have h := h.2 hc
    refine lv_lload_n hx hb dX12_findsTogether_10 rfl (lv_at hl 1 rfl) ?_
    refine lv_lconst (v := (1 : Int64)) hx hb dX12_findsTogether_11 (by decide) ?_
    refine lv_iload_n hx hb dX12_findsTogether_12 rfl (lv_at hl 2 rfl) ?_
    refine lv_lshl hx hb dX12_findsTogether_13 rfl ?_
    refine lv_lxor hx hb dX12_findsTogether_14 ?_
    refine lv_topl (fun v3 ev3 => ?_)
    have h := h v3 ev3
    refine lv_lstore (lv' := [(4, .long v3), (0, .ref (ad 0)), (1, .long x1), (3, .int x3)]) hx hb dX12_findsTogether_15 hl (by decide) rfl (fun ls hl => ?_)
    refine lv_iload_n hx hb dX12_findsTogether_17 rfl (lv_at hl 3 rfl) ?_
    refine k_X12_lowOf N ⟨hx, hb, hml, hown, hts⟩ mw_1154 ⟨Nat.le_of_ble_eq_true rfl, Nat.le_of_ble_eq_true rfl⟩ h hK hP hD hS hl.1 (rest := []) (Nat.le_of_ble_eq_true rfl) ⟨Nat.le_of_ble_eq_true rfl, Nat.le_of_ble_eq_true rfl⟩ dX12_findsTogether_18 (fun r4 τ5 H locs h hP hD hS => ?_)
    refine lv_istore (lv' := [(6, .int r4), (4, .long v3), (0, .ref (ad 0)), (1, .long x1), (3, .int x3)]) hx hb dX12_findsTogether_21 hl (by decide) rfl (fun ls hl => ?_)
    refine lv_iload_n hx hb dX12_findsTogether_23 rfl (lv_at hl 4 rfl) ?_
    refine k_X12_highOf N ⟨hx, hb, hml, hown, hts⟩ mw_1157 ⟨Nat.le_of_ble_eq_true rfl, Nat.le_of_ble_eq_true rfl⟩ h hK hP hD hS hl.1 (rest := []) (Nat.le_of_ble_eq_true rfl) ⟨Nat.le_of_ble_eq_true rfl, Nat.le_of_ble_eq_true rfl⟩ dX12_findsTogether_24 (fun r6 τ7 H locs h hP hD hS => ?_)
    refine lv_istore (lv' := [(7, .int r6), (6, .int r4), (4, .long v3), (0, .ref (ad 0)), (1, .long x1), (3, .int x3)]) hx hb dX12_findsTogether_27 hl (by decide) rfl (fun ls hl => ?_)
    refine lv_aload_n hx hb dX12_findsTogether_29 rfl (lv_at hl 3 rfl) ?_
    refine lv_lload hx hb dX12_findsTogether_30 (lv_at hl 2 rfl) ?_
    refine k_X12_may N ⟨hx, hb, hml, hown, hts⟩ mw_1065 ⟨Nat.le_of_ble_eq_true rfl, Nat.le_of_ble_eq_true rfl⟩ h hK hP hD hS hl.1 (rest := []) (Nat.le_of_ble_eq_true rfl) ⟨Nat.le_of_ble_eq_true rfl, Nat.le_of_ble_eq_true rfl⟩ dX12_findsTogether_32 (fun r8 τ9 H locs h hP hD hS => ?_)
    refine lv_if_eq (tgt := 91) hx hb dX12_findsTogether_35 (by decide) (fun hc => ?_) (fun hc => ?_)
    · have h := h.1 hc
      obtain ⟨v10, ev10⟩ : ∃ z : Int32, z = x3 + (1 : Int32) := ⟨_, rfl⟩
      have h := h v10 ev10
      refine lv_iinc (v := v10) (lv' := [(3, .int v10), (7, .int r6), (6, .int r4), (4, .long v3), (0, .ref (ad 0)), (1, .long x1)]) hx hb dX12_findsTogether_91 hl (k := 5) rfl (by rw [ev10]; rfl) (by decide) rfl (fun ls hl => ?_)
      refine lv_goto (tgt := 2) hx hb dX12_findsTogether_94 (by decide) ?_
      exact hk_2 x1 v10 τ9 _ _ _ h hP hD hS (lv_sub hl [4, 5, 0] rfl)
    · have h := h.2 hc
      refine lv_aload_n hx hb dX12_findsTogether_38 rfl (lv_at hl 3 rfl) ?_
      refine lv_lload hx hb dX12_findsTogether_39 (lv_at hl 2 rfl) ?_
      refine lv_iload hx hb dX12_findsTogether_41 (lv_at hl 1 rfl) ?_
      refine k_X12_worthOf N ⟨hx, hb, hml, hown, hts⟩ mw_1104 ⟨Nat.le_of_ble_eq_true rfl, Nat.le_of_ble_eq_true rfl⟩ h hK hP hD hS hl.1 (rest := []) (Nat.le_of_ble_eq_true rfl) ⟨Nat.le_of_ble_eq_true rfl, Nat.le_of_ble_eq_true rfl⟩ dX12_findsTogether_43 (fun r11 τ12 H locs h hP hD hS => ?_)
      refine lv_aload_n hx hb dX12_findsTogether_46 rfl (lv_at hl 3 rfl) ?_
      refine lv_lload hx hb dX12_findsTogether_47 (lv_at hl 2 rfl) ?_
      refine lv_iload hx hb dX12_findsTogether_49 (lv_at hl 0 rfl) ?_
      refine k_X12_worthOf N ⟨hx, hb, hml, hown, hts⟩ mw_1104 ⟨Nat.le_of_ble_eq_true rfl, Nat.le_of_ble_eq_true rfl⟩ h hK hP hD hS hl.1 (rest := [.long r11]) (Nat.le_of_ble_eq_true rfl) ⟨Nat.le_of_ble_eq_true rfl, Nat.le_of_ble_eq_true rfl⟩ dX12_findsTogether_51 (fun r13 τ14 H locs h hP hD hS => ?_)
      refine lv_ladd hx hb dX12_findsTogether_54 ?_
      refine lv_aload_n hx hb dX12_findsTogether_55 rfl (lv_at hl 3 rfl) ?_
      refine mg_0_59 hx hb hts hown hK hP mw_892 dX12_findsTogether_56 ?_
      refine lv_iload hx hb dX12_findsTogether_59 (lv_at hl 1 rfl) ?_
      refine ma_19 hx hb hK hP h.1 rfl dX12_findsTogether_61 ?_
      have h := h.2
      refine lv_aload_n hx hb dX12_findsTogether_62 rfl (lv_at hl 3 rfl) ?_
      refine mg_0_59 hx hb hts hown hK hP mw_892 dX12_findsTogether_63 ?_
      refine lv_iload hx hb dX12_findsTogether_66 (lv_at hl 0 rfl) ?_
      refine ma_19 hx hb hK hP h.1 rfl dX12_findsTogether_68 ?_
      have h := h.2
      refine lv_ladd hx hb dX12_findsTogether_69 ?_
      refine W.lcmp hx hb dX12_findsTogether_70 ?_
      refine lv_if_le (tgt := 91) hx hb dX12_findsTogether_71 (by decide) (fun hc => ?_) (fun hc => ?_)
      · have h := h.1 hc
        obtain ⟨v15, ev15⟩ : ∃ z : Int32, z = x3 + (1 : Int32) := ⟨_, rfl⟩
        have h := h v15 ev15
        refine lv_iinc (v := v15) (lv' := [(3, .int v15), (7, .int r6), (6, .int r4), (4, .long v3), (0, .ref (ad 0)), (1, .long x1)]) hx hb dX12_findsTogether_91 hl (k := 5) rfl (by rw [ev15]; rfl) (by decide) rfl (fun ls hl => ?_)
        refine lv_goto (tgt := 2) hx hb dX12_findsTogether_94 (by decide) ?_
        exact hk_2 x1 v15 τ14 _ _ _ h hP hD hS (lv_sub hl [4, 5, 0] rfl)
      · have h := h.2 hc
        refine lv_aload_n hx hb dX12_findsTogether_74 rfl (lv_at hl 3 rfl) ?_
        refine lv_iconst (v := (4 : Int32)) hx hb dX12_findsTogether_75 (by decide) ?_
        refine lv_iconst (v := (1 : Int32)) hx hb dX12_findsTogether_76 (by decide) ?_
        refine lv_iload hx hb dX12_findsTogether_77 (lv_at hl 1 rfl) ?_
        refine lv_ishl hx hb dX12_findsTogether_79 ?_
        refine lv_iconst (v := (1 : Int32)) hx hb dX12_findsTogether_80 (by decide) ?_
        refine lv_iload hx hb dX12_findsTogether_81 (lv_at hl 0 rfl) ?_
        refine lv_ishl hx hb dX12_findsTogether_83 ?_
        refine lv_ior hx hb dX12_findsTogether_84 ?_
        refine lv_lload hx hb dX12_findsTogether_85 (lv_at hl 2 rfl) ?_
        refine k_X12_finds N ⟨hx, hb, hml, hown, hts⟩ mw_1160 ⟨Nat.le_of_ble_eq_true rfl, Nat.le_of_ble_eq_true rfl⟩ h hK hP hD hS hl.1 (rest := []) (Nat.le_of_ble_eq_true rfl) ⟨Nat.le_of_ble_eq_true rfl, Nat.le_of_ble_eq_true rfl⟩ dX12_findsTogether_87 (fun r16 τ17 H locs h hP hD hS => ?_)
        exact zret_z hx hb hr hlocks hK hP hD hS h.1 h.2 dX12_findsTogether_90
set_option maxHeartbeats 4000000 in
set_option maxRecDepth 100000 in
theorem t_X12_findsTogether_2 (C0 : zCx p s m meth c args RX12 cX12_findsTogether 8 (some .boolean) vs_X12_findsTogether) (hK : va_K (dC, dI) vwCl (m_ty cI cJ cC) s) (N : Nat) {Q : Int32 → zSt → Prop} : ∀ (f : Nat) (x1 : Int64) (x3 : Int32) (σ : zSt) (H : Heap) (locs : List Loc) (ls : Array Slot), w_X12_findsTogether_2 N  Q f x1 x3 σ → va_P (dC, dI) vwCl (m_W ad cI cJ cC σ) H → va_D (zAW m_n ad s.heap.size) (m_W ad cI cJ cC σ) → va_S (zAW m_n ad s.heap.size) s.heap H locs → lv_has ls 8 [(0, .ref (ad 0)), (1, .long x1), (3, .int x3)] → W p l e rm_X12_findsTogether s m args below meth c H locs 0 0 (MQ below (zQi (dC, dI) (m_ty cI cJ cC) (m_W ad cI cJ cC) (zAW m_n ad s.heap.size) Q) args s 0 0 (zAW m_n ad s.heap.size)) (F0 m 2 ls []) := by
  intro f
  induction f with
  | zero => intro x1 x3 σ H locs ls h; exact h.elim
  | succ f ih =>
    intro x1 x3 σ H locs ls h hP hD hS hl
    exact tb_X12_findsTogether_2 C0 hK N  (k_2 := w_X12_findsTogether_2 N  Q f) ih x1 x3 σ H locs ls h hP hD hS hl
set_option maxHeartbeats 4000000 in
set_option maxRecDepth 100000 in
theorem t_X12_findsTogether_0 (C0 : zCx p s m meth c args RX12 cX12_findsTogether 8 (some .boolean) vs_X12_findsTogether) (hK : va_K (dC, dI) vwCl (m_ty cI cJ cC) s) (N : Nat) {Q : Int32 → zSt → Prop} : ∀ (x1 : Int64) (σ : zSt) (H : Heap) (locs : List Loc) (ls : Array Slot), w_X12_findsTogether N x1 σ Q → va_P (dC, dI) vwCl (m_W ad cI cJ cC σ) H → va_D (zAW m_n ad s.heap.size) (m_W ad cI cJ cC σ) → va_S (zAW m_n ad s.heap.size) s.heap H locs → lv_has ls 8 [(0, .ref (ad 0)), (1, .long x1)] → W p l e rm_X12_findsTogether s m args below meth c H locs 0 0 (MQ below (zQi (dC, dI) (m_ty cI cJ cC) (m_W ad cI cJ cC) (zAW m_n ad s.heap.size) Q) args s 0 0 (zAW m_n ad s.heap.size)) (F0 m 0 ls []) := by
  obtain ⟨hx, hb, hml, hr, hown, hts, hlocks⟩ := id C0
  intro x1 σ H locs ls h hP hD hS hl
  unfold w_X12_findsTogether at h
  refine lv_iconst (v := (0 : Int32)) hx hb dX12_findsTogether_0 (by decide) ?_
  refine lv_istore_n (lv' := [(3, .int (0 : Int32)), (0, .ref (ad 0)), (1, .long x1)]) hx hb dX12_findsTogether_1 rfl hl (by decide) rfl (fun ls hl => ?_)
  exact t_X12_findsTogether_2 C0 hK N  N x1 (0 : Int32) σ _ _ _ h hP hD hS (lv_sub hl [1, 2, 0] rfl)
set_option maxHeartbeats 4000000 in
set_option maxRecDepth 100000 in
theorem c_X12_findsTogether (N : Nat) (l : Launch) (dC : Nat → ClassId) (dI : Nat → Nat → Nat) (ad : Nat → Nat) (cI cJ cC : ClassId) (sz : Nat) (σ : zSt) (x1 : Int64) (Q : Int32 → zSt → Prop) (h : w_X12_findsTogether N x1 σ Q) : Met l yX12_findsTogether vs_X12_findsTogether rm_X12_findsTogether (va_Pc [.ref (ad 0), .long x1] (zPc (dC, dI) (m_ty cI cJ cC) (m_W ad cI cJ cC) sz σ)) (zQi (dC, dI) (m_ty cI cJ cC) (m_W ad cI cJ cC) (zAW m_n ad sz) Q) 0 0 (zAW m_n ad sz) := by
  refine Met.ofW (cc := cX12_findsTogether) (maxL := 8) (ret := (some .boolean)) (by decide) rfl ?_
  intro p e s m args below meth c s₁ B hml hv
  obtain ⟨rfl, hsz, hP, hK, hD0⟩ := hv
  subst hsz
  have C0 : zCx p s m meth c _ RX12 cX12_findsTogether 8 (some .boolean) vs_X12_findsTogether := ⟨B.exec, B.bytes, hml, B.returns, findClass_of_methodNamed B.named, atoms_spec (ws := vs_X12_findsTogether) B.pre, B.notSynchronized⟩
  have hD := m_D0 (n0 := s.heap.size) hD0
  have hl := lv_entry ([.ref (ad 0), .long x1]) (n := 8) (Nat.le_of_ble_eq_true rfl)
  rw [lg_entry_eq]
  generalize (lg_sl ([.ref (ad 0), .long x1]) ++ List.replicate (8 - (lg_sl ([.ref (ad 0), .long x1])).length) Slot.unset).toArray = ls at hl ⊢
  exact t_X12_findsTogether_0 C0 hK N x1 σ _ _ ls h hP hD va_S.rf hl
theorem k_X12_findsTogether (N : Nat) {R : Room} {H : Heap} {locs : List Loc} {cells slots : Nat} {Q2 : State → Prop} {cc : ByteArray} {nL pc index : Nat} {ls : Array Slot} {rest : List Value} {own : String} {c0 : Cond} {σ : zSt} {x1 : Int64} {Q : Int32 → zSt → Prop} (S0 : CallFix p m c cc nL s args (c0 :: zT) own) (hml : Cond.methodLink own index yX12_findsTogether ∈ zT) (hR : rm_X12_findsTogether.frames + 1 ≤ R.frames ∧ 8 + (8 + 11) + rm_X12_findsTogether.locals ≤ R.locals) (h : w_X12_findsTogether N x1 σ Q) (hK : va_K (dC, dI) vwCl (m_ty cI cJ cC) s) (hP : va_P (dC, dI) vwCl (m_W ad cI cJ cC σ) H) (hD : va_D (zAW m_n ad s.heap.size) (m_W ad cI cJ cC σ)) (hS : va_S (zAW m_n ad s.heap.size) s.heap H locs) (hsz : ls.size = nL) (hW : (rest.map fun v => v.category).sum ≤ 8) (hcs : cells ≤ R.cells ∧ slots ≤ R.slots) (hdg : decode cc pc = .ok (.invokevirtual index, 3)) (kk : ∀ (r : Int32) (τ : zSt) (H1 : Heap) (locs1 : List Loc), Q r τ → va_P (dC, dI) vwCl (m_W ad cI cJ cC τ) H1 → va_D (zAW m_n ad s.heap.size) (m_W ad cI cJ cC τ) → va_S (zAW m_n ad s.heap.size) s.heap H1 locs1 → W p l e R s m args below meth c H1 locs1 cells slots Q2 (F0 m (pc + 3) ls (.int r :: rest))) : W p l e R s m args below meth c H locs cells slots Q2 (F0 m pc ls (.long x1 :: .ref (ad 0) :: rest)) :=
  zcv_i (T := TX12) (N' := 83) (k := 0) (ci := 12) (fs := m_f0 ad σ) [.long x1] S0 (c_X12_findsTogether N l dC dI ad cI cJ cC H.size σ x1 Q h) (cw_X12_findsTogether S0.2.2.2.2 hml rfl rfl hR) rfl rfl hK hP hD hS rfl hsz hW rfl hcs hdg kk
end q23
section q23
def b_X12_isRest_65 (N : Nat) (Q : Int32 → zSt → Prop) (x1 : Int64) (x3 : Int32) (σ : zSt) : Prop :=
  (x3 = (2 : Int32) → w_X12_findsSeveral N x1 σ (fun r3 τ4 => (r3 = 0 → Q (1 : Int32) τ4) ∧ (¬ r3 = 0 → Q (0 : Int32) τ4))) ∧ (¬ x3 = (2 : Int32) → (x3 = (3 : Int32) → w_X12_findsSwap N x1 σ (fun r1 τ2 => (r1 = 0 → Q (1 : Int32) τ2) ∧ (¬ r1 = 0 → Q (0 : Int32) τ2))) ∧ (¬ x3 = (3 : Int32) → Q (1 : Int32) σ))
def w_X12_isRest (N : Nat) (x1 : Int64) (x3 : Int32) (σ : zSt) (Q : Int32 → zSt → Prop) : Prop :=
  w_X12_begins N x1 σ (fun τ2 => (x3 = (4 : Int32) → w_X12_findsTogether N x1 τ2 (fun r9 τ10 => (r9 = 0 → Q (1 : Int32) τ10) ∧ (¬ r9 = 0 → Q (0 : Int32) τ10))) ∧ (¬ x3 = (4 : Int32) → (x3 = (5 : Int32) → w_X12_findsSet N x1 τ2 (fun r7 τ8 => (r7 = 0 → Q (1 : Int32) τ8) ∧ (¬ r7 = 0 → Q (0 : Int32) τ8))) ∧ (¬ x3 = (5 : Int32) → w_X12_findsCut N x1 τ2 (fun r3 τ4 => (r3 = 0 → (x3 ≤ 0 → b_X12_isRest_65 N Q x1 x3 τ4) ∧ (¬ x3 ≤ 0 → w_X12_findsAdd N x1 τ4 (fun r5 τ6 => (r5 = 0 → b_X12_isRest_65 N Q x1 x3 τ6) ∧ (¬ r5 = 0 → Q (0 : Int32) τ6)))) ∧ (¬ r3 = 0 → Q (0 : Int32) τ4)))))
variable {p : Program} {l : Launch} {e : Env} {s : State} {m : MethodId} {args : Array Value} {below : List Frame} {meth : Method} {c : Code} {dC : Nat → ClassId} {dI : Nat → Nat → Nat} {ad : Nat → Nat} {cI cJ cC : ClassId}
set_option maxHeartbeats 4000000 in
set_option maxRecDepth 100000 in
theorem t_X12_isRest_65 (C0 : zCx p s m meth c args RX12 cX12_isRest 4 (some .boolean) vs_X12_isRest) (hK : va_K (dC, dI) vwCl (m_ty cI cJ cC) s) (N : Nat) {Q : Int32 → zSt → Prop} : ∀ (x1 : Int64) (x3 : Int32) (σ : zSt) (H : Heap) (locs : List Loc) (ls : Array Slot), b_X12_isRest_65 N  Q x1 x3 σ → va_P (dC, dI) vwCl (m_W ad cI cJ cC σ) H → va_D (zAW m_n ad s.heap.size) (m_W ad cI cJ cC σ) → va_S (zAW m_n ad s.heap.size) s.heap H locs → lv_has ls 4 [(0, .ref (ad 0)), (1, .long x1), (3, .int x3)] → W p l e rm_X12_isRest s m args below meth c H locs 0 0 (MQ below (zQi (dC, dI) (m_ty cI cJ cC) (m_W ad cI cJ cC) (zAW m_n ad s.heap.size) Q) args s 0 0 (zAW m_n ad s.heap.size)) (F0 m 65 ls []) := by
  obtain ⟨hx, hb, hml, hr, hown, hts, hlocks⟩ := id C0
  intro x1 x3 σ H locs ls h hP hD hS hl
  unfold b_X12_isRest_65 at h
  refine lv_iload_n hx hb dX12_isRest_65 rfl (lv_at hl 2 rfl) ?_
  refine lv_iconst (v := (2 : Int32)) hx hb dX12_isRest_66 (by decide) ?_
  refine lv_icmp_ne (tgt := 86) hx hb dX12_isRest_67 (by decide) (fun hc => ?_) (fun hc => ?_)
  · have h := h.2 hc
    refine lv_iload_n hx hb dX12_isRest_86 rfl (lv_at hl 2 rfl) ?_
    refine lv_iconst (v := (3 : Int32)) hx hb dX12_isRest_87 (by decide) ?_
    refine lv_icmp_ne (tgt := 99) hx hb dX12_isRest_88 (by decide) (fun hc => ?_) (fun hc => ?_)
    · have h := h.2 hc
      refine lv_iconst (v := (1 : Int32)) hx hb dX12_isRest_99 (by decide) ?_
      refine lv_goto (tgt := 104) hx hb dX12_isRest_100 (by decide) ?_
      exact zret_z hx hb hr hlocks hK hP hD hS zb_1 h dX12_isRest_104
    · have h := h.1 hc
      refine lv_aload_n hx hb dX12_isRest_91 rfl (lv_at hl 0 rfl) ?_
      refine lv_lload_n hx hb dX12_isRest_92 rfl (lv_at hl 1 rfl) ?_
      refine k_X12_findsSwap N ⟨hx, hb, hml, hown, hts⟩ mw_1190 ⟨Nat.le_of_ble_eq_true rfl, Nat.le_of_ble_eq_true rfl⟩ h hK hP hD hS hl.1 (rest := []) (Nat.le_of_ble_eq_true rfl) ⟨Nat.le_of_ble_eq_true rfl, Nat.le_of_ble_eq_true rfl⟩ dX12_isRest_93 (fun r1 τ2 H locs h hP hD hS => ?_)
      refine lv_if_ne (tgt := 103) hx hb dX12_isRest_96 (by decide) (fun hc => ?_) (fun hc => ?_)
      · have h := h.2 hc
        refine lv_iconst (v := (0 : Int32)) hx hb dX12_isRest_103 (by decide) ?_
        exact zret_z hx hb hr hlocks hK hP hD hS zb_0 h dX12_isRest_104
      · have h := h.1 hc
        refine lv_iconst (v := (1 : Int32)) hx hb dX12_isRest_99 (by decide) ?_
        refine lv_goto (tgt := 104) hx hb dX12_isRest_100 (by decide) ?_
        exact zret_z hx hb hr hlocks hK hP hD hS zb_1 h dX12_isRest_104
  · have h := h.1 hc
    refine lv_aload_n hx hb dX12_isRest_70 rfl (lv_at hl 0 rfl) ?_
    refine lv_lload_n hx hb dX12_isRest_71 rfl (lv_at hl 1 rfl) ?_
    refine k_X12_findsSeveral N ⟨hx, hb, hml, hown, hts⟩ mw_1184 ⟨Nat.le_of_ble_eq_true rfl, Nat.le_of_ble_eq_true rfl⟩ h hK hP hD hS hl.1 (rest := []) (Nat.le_of_ble_eq_true rfl) ⟨Nat.le_of_ble_eq_true rfl, Nat.le_of_ble_eq_true rfl⟩ dX12_isRest_72 (fun r3 τ4 H locs h hP hD hS => ?_)
    refine lv_if_ne (tgt := 82) hx hb dX12_isRest_75 (by decide) (fun hc => ?_) (fun hc => ?_)
    · have h := h.2 hc
      refine lv_iconst (v := (0 : Int32)) hx hb dX12_isRest_82 (by decide) ?_
      refine lv_goto (tgt := 104) hx hb dX12_isRest_83 (by decide) ?_
      exact zret_z hx hb hr hlocks hK hP hD hS zb_0 h dX12_isRest_104
    · have h := h.1 hc
      refine lv_iconst (v := (1 : Int32)) hx hb dX12_isRest_78 (by decide) ?_
      refine lv_goto (tgt := 104) hx hb dX12_isRest_79 (by decide) ?_
      exact zret_z hx hb hr hlocks hK hP hD hS zb_1 h dX12_isRest_104
set_option maxHeartbeats 4000000 in
set_option maxRecDepth 100000 in
theorem t_X12_isRest_0 (C0 : zCx p s m meth c args RX12 cX12_isRest 4 (some .boolean) vs_X12_isRest) (hK : va_K (dC, dI) vwCl (m_ty cI cJ cC) s) (N : Nat) {Q : Int32 → zSt → Prop} : ∀ (x1 : Int64) (x3 : Int32) (σ : zSt) (H : Heap) (locs : List Loc) (ls : Array Slot), w_X12_isRest N x1 x3 σ Q → va_P (dC, dI) vwCl (m_W ad cI cJ cC σ) H → va_D (zAW m_n ad s.heap.size) (m_W ad cI cJ cC σ) → va_S (zAW m_n ad s.heap.size) s.heap H locs → lv_has ls 4 [(0, .ref (ad 0)), (1, .long x1), (3, .int x3)] → W p l e rm_X12_isRest s m args below meth c H locs 0 0 (MQ below (zQi (dC, dI) (m_ty cI cJ cC) (m_W ad cI cJ cC) (zAW m_n ad s.heap.size) Q) args s 0 0 (zAW m_n ad s.heap.size)) (F0 m 0 ls []) := by
  obtain ⟨hx, hb, hml, hr, hown, hts, hlocks⟩ := id C0
  intro x1 x3 σ H locs ls h hP hD hS hl
  unfold w_X12_isRest at h
  refine lv_aload_n hx hb dX12_isRest_0 rfl (lv_at hl 0 rfl) ?_
  refine lv_lload_n hx hb dX12_isRest_1 rfl (lv_at hl 1 rfl) ?_
  refine k_X12_begins N ⟨hx, hb, hml, hown, hts⟩ mw_1148 ⟨Nat.le_of_ble_eq_true rfl, Nat.le_of_ble_eq_true rfl⟩ h hK hP hD hS hl.1 (rest := []) (Nat.le_of_ble_eq_true rfl) ⟨Nat.le_of_ble_eq_true rfl, Nat.le_of_ble_eq_true rfl⟩ dX12_isRest_2 (fun τ2 H locs h hP hD hS => ?_)
  refine lv_iload_n hx hb dX12_isRest_5 rfl (lv_at hl 2 rfl) ?_
  refine lv_iconst (v := (4 : Int32)) hx hb dX12_isRest_6 (by decide) ?_
  refine lv_icmp_ne (tgt := 24) hx hb dX12_isRest_7 (by decide) (fun hc => ?_) (fun hc => ?_)
  · have h := h.2 hc
    refine lv_iload_n hx hb dX12_isRest_24 rfl (lv_at hl 2 rfl) ?_
    refine lv_iconst (v := (5 : Int32)) hx hb dX12_isRest_25 (by decide) ?_
    refine lv_icmp_ne (tgt := 43) hx hb dX12_isRest_26 (by decide) (fun hc => ?_) (fun hc => ?_)
    · have h := h.2 hc
      refine lv_aload_n hx hb dX12_isRest_43 rfl (lv_at hl 0 rfl) ?_
      refine lv_lload_n hx hb dX12_isRest_44 rfl (lv_at hl 1 rfl) ?_
      refine k_X12_findsCut N ⟨hx, hb, hml, hown, hts⟩ mw_1169 ⟨Nat.le_of_ble_eq_true rfl, Nat.le_of_ble_eq_true rfl⟩ h hK hP hD hS hl.1 (rest := []) (Nat.le_of_ble_eq_true rfl) ⟨Nat.le_of_ble_eq_true rfl, Nat.le_of_ble_eq_true rfl⟩ dX12_isRest_45 (fun r3 τ4 H locs h hP hD hS => ?_)
      refine lv_if_ne (tgt := 63) hx hb dX12_isRest_48 (by decide) (fun hc => ?_) (fun hc => ?_)
      · have h := h.2 hc
        refine lv_iconst (v := (0 : Int32)) hx hb dX12_isRest_63 (by decide) ?_
        exact zret_z hx hb hr hlocks hK hP hD hS zb_0 h dX12_isRest_64
      · have h := h.1 hc
        refine lv_iload_n hx hb dX12_isRest_51 rfl (lv_at hl 2 rfl) ?_
        refine lv_if_le (tgt := 65) hx hb dX12_isRest_52 (by decide) (fun hc => ?_) (fun hc => ?_)
        · have h := h.1 hc
          exact t_X12_isRest_65 C0 hK N  x1 x3 τ4 _ _ _ h hP hD hS (lv_sub hl [0, 1, 2] rfl)
        · have h := h.2 hc
          refine lv_aload_n hx hb dX12_isRest_55 rfl (lv_at hl 0 rfl) ?_
          refine lv_lload_n hx hb dX12_isRest_56 rfl (lv_at hl 1 rfl) ?_
          refine k_X12_findsAdd N ⟨hx, hb, hml, hown, hts⟩ mw_1178 ⟨Nat.le_of_ble_eq_true rfl, Nat.le_of_ble_eq_true rfl⟩ h hK hP hD hS hl.1 (rest := []) (Nat.le_of_ble_eq_true rfl) ⟨Nat.le_of_ble_eq_true rfl, Nat.le_of_ble_eq_true rfl⟩ dX12_isRest_57 (fun r5 τ6 H locs h hP hD hS => ?_)
          refine lv_if_eq (tgt := 65) hx hb dX12_isRest_60 (by decide) (fun hc => ?_) (fun hc => ?_)
          · have h := h.1 hc
            exact t_X12_isRest_65 C0 hK N  x1 x3 τ6 _ _ _ h hP hD hS (lv_sub hl [0, 1, 2] rfl)
          · have h := h.2 hc
            refine lv_iconst (v := (0 : Int32)) hx hb dX12_isRest_63 (by decide) ?_
            exact zret_z hx hb hr hlocks hK hP hD hS zb_0 h dX12_isRest_64
    · have h := h.1 hc
      refine lv_aload_n hx hb dX12_isRest_29 rfl (lv_at hl 0 rfl) ?_
      refine lv_lload_n hx hb dX12_isRest_30 rfl (lv_at hl 1 rfl) ?_
      refine k_X12_findsSet N ⟨hx, hb, hml, hown, hts⟩ mw_1163 ⟨Nat.le_of_ble_eq_true rfl, Nat.le_of_ble_eq_true rfl⟩ h hK hP hD hS hl.1 (rest := []) (Nat.le_of_ble_eq_true rfl) ⟨Nat.le_of_ble_eq_true rfl, Nat.le_of_ble_eq_true rfl⟩ dX12_isRest_31 (fun r7 τ8 H locs h hP hD hS => ?_)
      refine lv_if_ne (tgt := 41) hx hb dX12_isRest_34 (by decide) (fun hc => ?_) (fun hc => ?_)
      · have h := h.2 hc
        refine lv_iconst (v := (0 : Int32)) hx hb dX12_isRest_41 (by decide) ?_
        exact zret_z hx hb hr hlocks hK hP hD hS zb_0 h dX12_isRest_42
      · have h := h.1 hc
        refine lv_iconst (v := (1 : Int32)) hx hb dX12_isRest_37 (by decide) ?_
        refine lv_goto (tgt := 42) hx hb dX12_isRest_38 (by decide) ?_
        exact zret_z hx hb hr hlocks hK hP hD hS zb_1 h dX12_isRest_42
  · have h := h.1 hc
    refine lv_aload_n hx hb dX12_isRest_10 rfl (lv_at hl 0 rfl) ?_
    refine lv_lload_n hx hb dX12_isRest_11 rfl (lv_at hl 1 rfl) ?_
    refine k_X12_findsTogether N ⟨hx, hb, hml, hown, hts⟩ mw_1151 ⟨Nat.le_of_ble_eq_true rfl, Nat.le_of_ble_eq_true rfl⟩ h hK hP hD hS hl.1 (rest := []) (Nat.le_of_ble_eq_true rfl) ⟨Nat.le_of_ble_eq_true rfl, Nat.le_of_ble_eq_true rfl⟩ dX12_isRest_12 (fun r9 τ10 H locs h hP hD hS => ?_)
    refine lv_if_ne (tgt := 22) hx hb dX12_isRest_15 (by decide) (fun hc => ?_) (fun hc => ?_)
    · have h := h.2 hc
      refine lv_iconst (v := (0 : Int32)) hx hb dX12_isRest_22 (by decide) ?_
      exact zret_z hx hb hr hlocks hK hP hD hS zb_0 h dX12_isRest_23
    · have h := h.1 hc
      refine lv_iconst (v := (1 : Int32)) hx hb dX12_isRest_18 (by decide) ?_
      refine lv_goto (tgt := 23) hx hb dX12_isRest_19 (by decide) ?_
      exact zret_z hx hb hr hlocks hK hP hD hS zb_1 h dX12_isRest_23
set_option maxHeartbeats 4000000 in
set_option maxRecDepth 100000 in
theorem c_X12_isRest (N : Nat) (l : Launch) (dC : Nat → ClassId) (dI : Nat → Nat → Nat) (ad : Nat → Nat) (cI cJ cC : ClassId) (sz : Nat) (σ : zSt) (x1 : Int64) (x3 : Int32) (Q : Int32 → zSt → Prop) (h : w_X12_isRest N x1 x3 σ Q) : Met l yX12_isRest vs_X12_isRest rm_X12_isRest (va_Pc [.ref (ad 0), .long x1, .int x3] (zPc (dC, dI) (m_ty cI cJ cC) (m_W ad cI cJ cC) sz σ)) (zQi (dC, dI) (m_ty cI cJ cC) (m_W ad cI cJ cC) (zAW m_n ad sz) Q) 0 0 (zAW m_n ad sz) := by
  refine Met.ofW (cc := cX12_isRest) (maxL := 4) (ret := (some .boolean)) (by decide) rfl ?_
  intro p e s m args below meth c s₁ B hml hv
  obtain ⟨rfl, hsz, hP, hK, hD0⟩ := hv
  subst hsz
  have C0 : zCx p s m meth c _ RX12 cX12_isRest 4 (some .boolean) vs_X12_isRest := ⟨B.exec, B.bytes, hml, B.returns, findClass_of_methodNamed B.named, atoms_spec (ws := vs_X12_isRest) B.pre, B.notSynchronized⟩
  have hD := m_D0 (n0 := s.heap.size) hD0
  have hl := lv_entry ([.ref (ad 0), .long x1, .int x3]) (n := 4) (Nat.le_of_ble_eq_true rfl)
  rw [lg_entry_eq]
  generalize (lg_sl ([.ref (ad 0), .long x1, .int x3]) ++ List.replicate (4 - (lg_sl ([.ref (ad 0), .long x1, .int x3])).length) Slot.unset).toArray = ls at hl ⊢
  exact t_X12_isRest_0 C0 hK N x1 x3 σ _ _ ls h hP hD va_S.rf hl
theorem k_X12_isRest (N : Nat) {R : Room} {H : Heap} {locs : List Loc} {cells slots : Nat} {Q2 : State → Prop} {cc : ByteArray} {nL pc index : Nat} {ls : Array Slot} {rest : List Value} {own : String} {c0 : Cond} {σ : zSt} {x1 : Int64} {x3 : Int32} {Q : Int32 → zSt → Prop} (S0 : CallFix p m c cc nL s args (c0 :: zT) own) (hml : Cond.methodLink own index yX12_isRest ∈ zT) (hR : rm_X12_isRest.frames + 1 ≤ R.frames ∧ 8 + (4 + 11) + rm_X12_isRest.locals ≤ R.locals) (h : w_X12_isRest N x1 x3 σ Q) (hK : va_K (dC, dI) vwCl (m_ty cI cJ cC) s) (hP : va_P (dC, dI) vwCl (m_W ad cI cJ cC σ) H) (hD : va_D (zAW m_n ad s.heap.size) (m_W ad cI cJ cC σ)) (hS : va_S (zAW m_n ad s.heap.size) s.heap H locs) (hsz : ls.size = nL) (hW : (rest.map fun v => v.category).sum ≤ 8) (hcs : cells ≤ R.cells ∧ slots ≤ R.slots) (hdg : decode cc pc = .ok (.invokevirtual index, 3)) (kk : ∀ (r : Int32) (τ : zSt) (H1 : Heap) (locs1 : List Loc), Q r τ → va_P (dC, dI) vwCl (m_W ad cI cJ cC τ) H1 → va_D (zAW m_n ad s.heap.size) (m_W ad cI cJ cC τ) → va_S (zAW m_n ad s.heap.size) s.heap H1 locs1 → W p l e R s m args below meth c H1 locs1 cells slots Q2 (F0 m (pc + 3) ls (.int r :: rest))) : W p l e R s m args below meth c H locs cells slots Q2 (F0 m pc ls (.int x3 :: .long x1 :: .ref (ad 0) :: rest)) :=
  zcv_i (T := TX12) (N' := 83) (k := 0) (ci := 12) (fs := m_f0 ad σ) [.long x1, .int x3] S0 (c_X12_isRest N l dC dI ad cI cJ cC H.size σ x1 x3 Q h) (cw_X12_isRest S0.2.2.2.2 hml rfl rfl hR) rfl rfl hK hP hD hS rfl hsz hW rfl hcs hdg kk
end q23
section q23
def b_X12_rest_27 (N : Nat) (Q : Int32 → zSt → Prop) (x1 : Int32) (σ : zSt) : Prop :=
  w_X12_isRest N (σ.2.1 0) x1 σ (fun r1 τ2 => (r1 = 0 → ∀ τ3 : zSt, τ3 = zI τ2 22 (τ2.1 20) → ∀ τ4 : zSt, τ4 = zI τ3 23 (τ3.1 21) → ∀ τ5 : zSt, τ5 = zJ τ4 3 (τ4.2.1 2) → Q (0 : Int32) τ5) ∧ (¬ r1 = 0 → Q (1 : Int32) τ2))
def w_X12_rest (N : Nat) (x1 : Int32) (σ : zSt) (Q : Int32 → zSt → Prop) : Prop :=
  w_X12_isIn N x1.toInt64 (0 : Int64) (5 : Int64) σ (fun r1 τ2 => (r1 = 0 → Q (-1 : Int32) τ2) ∧ (¬ r1 = 0 → (x1 = (5 : Int32) → w_X12_many N τ2 (fun r3 τ4 => (r3 ≤ (5 : Int32) → b_X12_rest_27 N Q x1 τ4) ∧ (¬ r3 ≤ (5 : Int32) → Q (-1 : Int32) τ4))) ∧ (¬ x1 = (5 : Int32) → b_X12_rest_27 N Q x1 τ2)))
variable {p : Program} {l : Launch} {e : Env} {s : State} {m : MethodId} {args : Array Value} {below : List Frame} {meth : Method} {c : Code} {dC : Nat → ClassId} {dI : Nat → Nat → Nat} {ad : Nat → Nat} {cI cJ cC : ClassId}
set_option maxHeartbeats 4000000 in
set_option maxRecDepth 100000 in
theorem t_X12_rest_27 (C0 : zCx p s m meth c args RX12 cX12_rest 2 (some .int) vs_X12_rest) (hK : va_K (dC, dI) vwCl (m_ty cI cJ cC) s) (N : Nat) {Q : Int32 → zSt → Prop} : ∀ (x1 : Int32) (σ : zSt) (H : Heap) (locs : List Loc) (ls : Array Slot), b_X12_rest_27 N  Q x1 σ → va_P (dC, dI) vwCl (m_W ad cI cJ cC σ) H → va_D (zAW m_n ad s.heap.size) (m_W ad cI cJ cC σ) → va_S (zAW m_n ad s.heap.size) s.heap H locs → lv_has ls 2 [(0, .ref (ad 0)), (1, .int x1)] → W p l e rm_X12_rest s m args below meth c H locs 0 0 (MQ below (zQi (dC, dI) (m_ty cI cJ cC) (m_W ad cI cJ cC) (zAW m_n ad s.heap.size) Q) args s 0 0 (zAW m_n ad s.heap.size)) (F0 m 27 ls []) := by
  obtain ⟨hx, hb, hml, hr, hown, hts, hlocks⟩ := id C0
  intro x1 σ H locs ls h hP hD hS hl
  unfold b_X12_rest_27 at h
  refine lv_aload_n hx hb dX12_rest_27 rfl (lv_at hl 0 rfl) ?_
  refine lv_aload_n hx hb dX12_rest_28 rfl (lv_at hl 0 rfl) ?_
  refine mg_0_47 hx hb hts hown hK hP mw_880 dX12_rest_29 ?_
  refine lv_iload_n hx hb dX12_rest_32 rfl (lv_at hl 1 rfl) ?_
  refine k_X12_isRest N ⟨hx, hb, hml, hown, hts⟩ mw_1145 ⟨Nat.le_of_ble_eq_true rfl, Nat.le_of_ble_eq_true rfl⟩ h hK hP hD hS hl.1 (rest := []) (Nat.le_of_ble_eq_true rfl) ⟨Nat.le_of_ble_eq_true rfl, Nat.le_of_ble_eq_true rfl⟩ dX12_rest_33 (fun r1 τ2 H locs h hP hD hS => ?_)
  refine lv_if_eq (tgt := 41) hx hb dX12_rest_36 (by decide) (fun hc => ?_) (fun hc => ?_)
  · have h := h.1 hc
    refine lv_aload_n hx hb dX12_rest_41 rfl (lv_at hl 0 rfl) ?_
    refine lv_aload_n hx hb dX12_rest_42 rfl (lv_at hl 0 rfl) ?_
    refine mg_0_60 hx hb hts hown hK hP mw_893 dX12_rest_43 ?_
    refine mp_0_63 hx hb hts hown hK hP hD hS mw_896 dX12_rest_46 (fun τ3 H locs eτ3 hP hD hS => ?_)
    have h := h τ3 eτ3
    refine lv_aload_n hx hb dX12_rest_49 rfl (lv_at hl 0 rfl) ?_
    refine lv_aload_n hx hb dX12_rest_50 rfl (lv_at hl 0 rfl) ?_
    refine mg_0_61 hx hb hts hown hK hP mw_894 dX12_rest_51 ?_
    refine mp_0_64 hx hb hts hown hK hP hD hS mw_897 dX12_rest_54 (fun τ4 H locs eτ4 hP hD hS => ?_)
    have h := h τ4 eτ4
    refine lv_aload_n hx hb dX12_rest_57 rfl (lv_at hl 0 rfl) ?_
    refine lv_aload_n hx hb dX12_rest_58 rfl (lv_at hl 0 rfl) ?_
    refine mg_0_62 hx hb hts hown hK hP mw_895 dX12_rest_59 ?_
    refine mp_0_65 hx hb hts hown hK hP hD hS mw_898 dX12_rest_62 (fun τ5 H locs eτ5 hP hD hS => ?_)
    have h := h τ5 eτ5
    refine lv_iconst (v := (0 : Int32)) hx hb dX12_rest_65 (by decide) ?_
    exact zret_i hx hb hr hlocks hK hP hD hS h dX12_rest_66
  · have h := h.2 hc
    refine lv_iconst (v := (1 : Int32)) hx hb dX12_rest_39 (by decide) ?_
    exact zret_i hx hb hr hlocks hK hP hD hS h dX12_rest_40
set_option maxHeartbeats 4000000 in
set_option maxRecDepth 100000 in
theorem t_X12_rest_0 (C0 : zCx p s m meth c args RX12 cX12_rest 2 (some .int) vs_X12_rest) (hK : va_K (dC, dI) vwCl (m_ty cI cJ cC) s) (N : Nat) {Q : Int32 → zSt → Prop} : ∀ (x1 : Int32) (σ : zSt) (H : Heap) (locs : List Loc) (ls : Array Slot), w_X12_rest N x1 σ Q → va_P (dC, dI) vwCl (m_W ad cI cJ cC σ) H → va_D (zAW m_n ad s.heap.size) (m_W ad cI cJ cC σ) → va_S (zAW m_n ad s.heap.size) s.heap H locs → lv_has ls 2 [(0, .ref (ad 0)), (1, .int x1)] → W p l e rm_X12_rest s m args below meth c H locs 0 0 (MQ below (zQi (dC, dI) (m_ty cI cJ cC) (m_W ad cI cJ cC) (zAW m_n ad s.heap.size) Q) args s 0 0 (zAW m_n ad s.heap.size)) (F0 m 0 ls []) := by
  obtain ⟨hx, hb, hml, hr, hown, hts, hlocks⟩ := id C0
  intro x1 σ H locs ls h hP hD hS hl
  unfold w_X12_rest at h
  refine lv_iload_n hx hb dX12_rest_0 rfl (lv_at hl 1 rfl) ?_
  refine lv_i2l hx hb dX12_rest_1 rfl ?_
  refine lv_lconst (v := (0 : Int64)) hx hb dX12_rest_2 (by decide) ?_
  refine lv_ldc2 (v := (5 : Int64)) hx hb hown (hts _ (List.mem_cons_of_mem _ mw_1060)) dX12_rest_3 ?_
  refine k_X12_isIn N ⟨hx, hb, hml, hown, hts⟩ mw_970 ⟨Nat.le_of_ble_eq_true rfl, Nat.le_of_ble_eq_true rfl⟩ h hK hP hD hS hl.1 (rest := []) (Nat.le_of_ble_eq_true rfl) ⟨Nat.le_of_ble_eq_true rfl, Nat.le_of_ble_eq_true rfl⟩ dX12_rest_6 (fun r1 τ2 H locs h hP hD hS => ?_)
  refine lv_if_eq (tgt := 25) hx hb dX12_rest_9 (by decide) (fun hc => ?_) (fun hc => ?_)
  · have h := h.1 hc
    refine lv_iconst (v := (-1 : Int32)) hx hb dX12_rest_25 (by decide) ?_
    exact zret_i hx hb hr hlocks hK hP hD hS h dX12_rest_26
  · have h := h.2 hc
    refine lv_iload_n hx hb dX12_rest_12 rfl (lv_at hl 1 rfl) ?_
    refine lv_iconst (v := (5 : Int32)) hx hb dX12_rest_13 (by decide) ?_
    refine lv_icmp_ne (tgt := 27) hx hb dX12_rest_14 (by decide) (fun hc => ?_) (fun hc => ?_)
    · have h := h.2 hc
      exact t_X12_rest_27 C0 hK N  x1 τ2 _ _ _ h hP hD hS (lv_sub hl [0, 1] rfl)
    · have h := h.1 hc
      refine lv_aload_n hx hb dX12_rest_17 rfl (lv_at hl 0 rfl) ?_
      refine k_X12_many N ⟨hx, hb, hml, hown, hts⟩ mw_1044 ⟨Nat.le_of_ble_eq_true rfl, Nat.le_of_ble_eq_true rfl⟩ h hK hP hD hS hl.1 (rest := []) (Nat.le_of_ble_eq_true rfl) ⟨Nat.le_of_ble_eq_true rfl, Nat.le_of_ble_eq_true rfl⟩ dX12_rest_18 (fun r3 τ4 H locs h hP hD hS => ?_)
      refine lv_iconst (v := (5 : Int32)) hx hb dX12_rest_21 (by decide) ?_
      refine lv_icmp_le (tgt := 27) hx hb dX12_rest_22 (by decide) (fun hc => ?_) (fun hc => ?_)
      · have h := h.1 hc
        exact t_X12_rest_27 C0 hK N  x1 τ4 _ _ _ h hP hD hS (lv_sub hl [0, 1] rfl)
      · have h := h.2 hc
        refine lv_iconst (v := (-1 : Int32)) hx hb dX12_rest_25 (by decide) ?_
        exact zret_i hx hb hr hlocks hK hP hD hS h dX12_rest_26
set_option maxHeartbeats 4000000 in
set_option maxRecDepth 100000 in
theorem c_X12_rest (N : Nat) (l : Launch) (dC : Nat → ClassId) (dI : Nat → Nat → Nat) (ad : Nat → Nat) (cI cJ cC : ClassId) (sz : Nat) (σ : zSt) (x1 : Int32) (Q : Int32 → zSt → Prop) (h : w_X12_rest N x1 σ Q) : Met l yX12_rest vs_X12_rest rm_X12_rest (va_Pc [.ref (ad 0), .int x1] (zPc (dC, dI) (m_ty cI cJ cC) (m_W ad cI cJ cC) sz σ)) (zQi (dC, dI) (m_ty cI cJ cC) (m_W ad cI cJ cC) (zAW m_n ad sz) Q) 0 0 (zAW m_n ad sz) := by
  refine Met.ofW (cc := cX12_rest) (maxL := 2) (ret := (some .int)) (by decide) rfl ?_
  intro p e s m args below meth c s₁ B hml hv
  obtain ⟨rfl, hsz, hP, hK, hD0⟩ := hv
  subst hsz
  have C0 : zCx p s m meth c _ RX12 cX12_rest 2 (some .int) vs_X12_rest := ⟨B.exec, B.bytes, hml, B.returns, findClass_of_methodNamed B.named, atoms_spec (ws := vs_X12_rest) B.pre, B.notSynchronized⟩
  have hD := m_D0 (n0 := s.heap.size) hD0
  have hl := lv_entry ([.ref (ad 0), .int x1]) (n := 2) (Nat.le_of_ble_eq_true rfl)
  rw [lg_entry_eq]
  generalize (lg_sl ([.ref (ad 0), .int x1]) ++ List.replicate (2 - (lg_sl ([.ref (ad 0), .int x1])).length) Slot.unset).toArray = ls at hl ⊢
  exact t_X12_rest_0 C0 hK N x1 σ _ _ ls h hP hD va_S.rf hl
theorem k_X12_rest (N : Nat) {R : Room} {H : Heap} {locs : List Loc} {cells slots : Nat} {Q2 : State → Prop} {cc : ByteArray} {nL pc index : Nat} {ls : Array Slot} {rest : List Value} {own : String} {c0 : Cond} {σ : zSt} {x1 : Int32} {Q : Int32 → zSt → Prop} (S0 : CallFix p m c cc nL s args (c0 :: zT) own) (hml : Cond.methodLink own index yX12_rest ∈ zT) (hR : rm_X12_rest.frames + 1 ≤ R.frames ∧ 8 + (2 + 11) + rm_X12_rest.locals ≤ R.locals) (h : w_X12_rest N x1 σ Q) (hK : va_K (dC, dI) vwCl (m_ty cI cJ cC) s) (hP : va_P (dC, dI) vwCl (m_W ad cI cJ cC σ) H) (hD : va_D (zAW m_n ad s.heap.size) (m_W ad cI cJ cC σ)) (hS : va_S (zAW m_n ad s.heap.size) s.heap H locs) (hsz : ls.size = nL) (hW : (rest.map fun v => v.category).sum ≤ 8) (hcs : cells ≤ R.cells ∧ slots ≤ R.slots) (hdg : decode cc pc = .ok (.invokevirtual index, 3)) (kk : ∀ (r : Int32) (τ : zSt) (H1 : Heap) (locs1 : List Loc), Q r τ → va_P (dC, dI) vwCl (m_W ad cI cJ cC τ) H1 → va_D (zAW m_n ad s.heap.size) (m_W ad cI cJ cC τ) → va_S (zAW m_n ad s.heap.size) s.heap H1 locs1 → W p l e R s m args below meth c H1 locs1 cells slots Q2 (F0 m (pc + 3) ls (.int r :: rest))) : W p l e R s m args below meth c H locs cells slots Q2 (F0 m pc ls (.int x1 :: .ref (ad 0) :: rest)) :=
  zcv_i (T := TX12) (N' := 83) (k := 0) (ci := 12) (fs := m_f0 ad σ) [.int x1] S0 (c_X12_rest N l dC dI ad cI cJ cC H.size σ x1 Q h) (cw_X12_rest S0.2.2.2.2 hml rfl rfl hR) rfl rfl hK hP hD hS rfl hsz hW rfl hcs hdg kk
end q23
section q23
def w_X12_bars (N : Nat) (x1 : Int32) (σ : zSt) (Q : Int64 → zSt → Prop) : Prop :=
  ((σ.1 22) = (-1 : Int32) → Q (-1 : Int64) σ) ∧ (¬ (σ.1 22) = (-1 : Int32) → (x1 = 0 → Q (σ.1 22).toInt64 σ) ∧ (¬ x1 = 0 → (x1 = (1 : Int32) → Q (σ.1 23).toInt64 σ) ∧ (¬ x1 = (1 : Int32) → (x1 = (2 : Int32) → Q (σ.2.1 3) σ) ∧ (¬ x1 = (2 : Int32) → Q (-1 : Int64) σ))))
variable {p : Program} {l : Launch} {e : Env} {s : State} {m : MethodId} {args : Array Value} {below : List Frame} {meth : Method} {c : Code} {dC : Nat → ClassId} {dI : Nat → Nat → Nat} {ad : Nat → Nat} {cI cJ cC : ClassId}
set_option maxHeartbeats 4000000 in
set_option maxRecDepth 100000 in
theorem t_X12_bars_0 (C0 : zCx p s m meth c args RX12 cX12_bars 2 (some .long) vs_X12_bars) (hK : va_K (dC, dI) vwCl (m_ty cI cJ cC) s) (N : Nat) {Q : Int64 → zSt → Prop} : ∀ (x1 : Int32) (σ : zSt) (H : Heap) (locs : List Loc) (ls : Array Slot), w_X12_bars N x1 σ Q → va_P (dC, dI) vwCl (m_W ad cI cJ cC σ) H → va_D (zAW m_n ad s.heap.size) (m_W ad cI cJ cC σ) → va_S (zAW m_n ad s.heap.size) s.heap H locs → lv_has ls 2 [(0, .ref (ad 0)), (1, .int x1)] → W p l e rm_X12_bars s m args below meth c H locs 0 0 (MQ below (zQl (dC, dI) (m_ty cI cJ cC) (m_W ad cI cJ cC) (zAW m_n ad s.heap.size) Q) args s 0 0 (zAW m_n ad s.heap.size)) (F0 m 0 ls []) := by
  obtain ⟨hx, hb, hml, hr, hown, hts, hlocks⟩ := id C0
  intro x1 σ H locs ls h hP hD hS hl
  unfold w_X12_bars at h
  refine lv_aload_n hx hb dX12_bars_0 rfl (lv_at hl 0 rfl) ?_
  refine mg_0_63 hx hb hts hown hK hP mw_896 dX12_bars_1 ?_
  refine lv_iconst (v := (-1 : Int32)) hx hb dX12_bars_4 (by decide) ?_
  refine lv_icmp_ne (tgt := 14) hx hb dX12_bars_5 (by decide) (fun hc => ?_) (fun hc => ?_)
  · have h := h.2 hc
    refine lv_iload_n hx hb dX12_bars_14 rfl (lv_at hl 1 rfl) ?_
    refine lv_if_ne (tgt := 26) hx hb dX12_bars_15 (by decide) (fun hc => ?_) (fun hc => ?_)
    · have h := h.2 hc
      refine lv_iload_n hx hb dX12_bars_26 rfl (lv_at hl 1 rfl) ?_
      refine lv_iconst (v := (1 : Int32)) hx hb dX12_bars_27 (by decide) ?_
      refine lv_icmp_ne (tgt := 39) hx hb dX12_bars_28 (by decide) (fun hc => ?_) (fun hc => ?_)
      · have h := h.2 hc
        refine lv_iload_n hx hb dX12_bars_39 rfl (lv_at hl 1 rfl) ?_
        refine lv_iconst (v := (2 : Int32)) hx hb dX12_bars_40 (by decide) ?_
        refine lv_icmp_ne (tgt := 51) hx hb dX12_bars_41 (by decide) (fun hc => ?_) (fun hc => ?_)
        · have h := h.2 hc
          refine lv_ldc2 (v := (-1 : Int64)) hx hb hown (hts _ (List.mem_cons_of_mem _ mw_832)) dX12_bars_51 ?_
          exact zret_l hx hb hr hlocks hK hP hD hS h dX12_bars_54
        · have h := h.1 hc
          refine lv_aload_n hx hb dX12_bars_44 rfl (lv_at hl 0 rfl) ?_
          refine mg_0_65 hx hb hts hown hK hP mw_898 dX12_bars_45 ?_
          refine lv_goto (tgt := 54) hx hb dX12_bars_48 (by decide) ?_
          exact zret_l hx hb hr hlocks hK hP hD hS h dX12_bars_54
      · have h := h.1 hc
        refine lv_aload_n hx hb dX12_bars_31 rfl (lv_at hl 0 rfl) ?_
        refine mg_0_64 hx hb hts hown hK hP mw_897 dX12_bars_32 ?_
        refine lv_i2l hx hb dX12_bars_35 rfl ?_
        refine lv_goto (tgt := 54) hx hb dX12_bars_36 (by decide) ?_
        exact zret_l hx hb hr hlocks hK hP hD hS h dX12_bars_54
    · have h := h.1 hc
      refine lv_aload_n hx hb dX12_bars_18 rfl (lv_at hl 0 rfl) ?_
      refine mg_0_63 hx hb hts hown hK hP mw_896 dX12_bars_19 ?_
      refine lv_i2l hx hb dX12_bars_22 rfl ?_
      refine lv_goto (tgt := 54) hx hb dX12_bars_23 (by decide) ?_
      exact zret_l hx hb hr hlocks hK hP hD hS h dX12_bars_54
  · have h := h.1 hc
    refine lv_ldc2 (v := (-1 : Int64)) hx hb hown (hts _ (List.mem_cons_of_mem _ mw_832)) dX12_bars_8 ?_
    refine lv_goto (tgt := 54) hx hb dX12_bars_11 (by decide) ?_
    exact zret_l hx hb hr hlocks hK hP hD hS h dX12_bars_54
set_option maxHeartbeats 4000000 in
set_option maxRecDepth 100000 in
theorem c_X12_bars (N : Nat) (l : Launch) (dC : Nat → ClassId) (dI : Nat → Nat → Nat) (ad : Nat → Nat) (cI cJ cC : ClassId) (sz : Nat) (σ : zSt) (x1 : Int32) (Q : Int64 → zSt → Prop) (h : w_X12_bars N x1 σ Q) : Met l yX12_bars vs_X12_bars rm_X12_bars (va_Pc [.ref (ad 0), .int x1] (zPc (dC, dI) (m_ty cI cJ cC) (m_W ad cI cJ cC) sz σ)) (zQl (dC, dI) (m_ty cI cJ cC) (m_W ad cI cJ cC) (zAW m_n ad sz) Q) 0 0 (zAW m_n ad sz) := by
  refine Met.ofW (cc := cX12_bars) (maxL := 2) (ret := (some .long)) (by decide) rfl ?_
  intro p e s m args below meth c s₁ B hml hv
  obtain ⟨rfl, hsz, hP, hK, hD0⟩ := hv
  subst hsz
  have C0 : zCx p s m meth c _ RX12 cX12_bars 2 (some .long) vs_X12_bars := ⟨B.exec, B.bytes, hml, B.returns, findClass_of_methodNamed B.named, atoms_spec (ws := vs_X12_bars) B.pre, B.notSynchronized⟩
  have hD := m_D0 (n0 := s.heap.size) hD0
  have hl := lv_entry ([.ref (ad 0), .int x1]) (n := 2) (Nat.le_of_ble_eq_true rfl)
  rw [lg_entry_eq]
  generalize (lg_sl ([.ref (ad 0), .int x1]) ++ List.replicate (2 - (lg_sl ([.ref (ad 0), .int x1])).length) Slot.unset).toArray = ls at hl ⊢
  exact t_X12_bars_0 C0 hK N x1 σ _ _ ls h hP hD va_S.rf hl
theorem k_X12_bars (N : Nat) {R : Room} {H : Heap} {locs : List Loc} {cells slots : Nat} {Q2 : State → Prop} {cc : ByteArray} {nL pc index : Nat} {ls : Array Slot} {rest : List Value} {own : String} {c0 : Cond} {σ : zSt} {x1 : Int32} {Q : Int64 → zSt → Prop} (S0 : CallFix p m c cc nL s args (c0 :: zT) own) (hml : Cond.methodLink own index yX12_bars ∈ zT) (hR : rm_X12_bars.frames + 1 ≤ R.frames ∧ 8 + (2 + 11) + rm_X12_bars.locals ≤ R.locals) (h : w_X12_bars N x1 σ Q) (hK : va_K (dC, dI) vwCl (m_ty cI cJ cC) s) (hP : va_P (dC, dI) vwCl (m_W ad cI cJ cC σ) H) (hD : va_D (zAW m_n ad s.heap.size) (m_W ad cI cJ cC σ)) (hS : va_S (zAW m_n ad s.heap.size) s.heap H locs) (hsz : ls.size = nL) (hW : (rest.map fun v => v.category).sum ≤ 8) (hcs : cells ≤ R.cells ∧ slots ≤ R.slots) (hdg : decode cc pc = .ok (.invokevirtual index, 3)) (kk : ∀ (r : Int64) (τ : zSt) (H1 : Heap) (locs1 : List Loc), Q r τ → va_P (dC, dI) vwCl (m_W ad cI cJ cC τ) H1 → va_D (zAW m_n ad s.heap.size) (m_W ad cI cJ cC τ) → va_S (zAW m_n ad s.heap.size) s.heap H1 locs1 → W p l e R s m args below meth c H1 locs1 cells slots Q2 (F0 m (pc + 3) ls (.long r :: rest))) : W p l e R s m args below meth c H locs cells slots Q2 (F0 m pc ls (.int x1 :: .ref (ad 0) :: rest)) :=
  zcv_l (T := TX12) (N' := 83) (k := 0) (ci := 12) (fs := m_f0 ad σ) [.int x1] S0 (c_X12_bars N l dC dI ad cI cJ cC H.size σ x1 Q h) (cw_X12_bars S0.2.2.2.2 hml rfl rfl hR) rfl rfl hK hP hD hS rfl hsz hW rfl hcs hdg kk
end q23
section q23
def w_X12_isStep (N : Nat) (x1 : Int64) (x3 : Int32) (σ : zSt) (Q : Int32 → zSt → Prop) : Prop :=
  w_X12_isTied N x1 x3 σ (fun r1 τ2 => (r1 = 0 → w_X12_isAdd N x1 x3 τ2 (fun r3 τ4 => (zb r3) ∧ Q r3 τ4)) ∧ (¬ r1 = 0 → w_X12_cutter N x1 x3 τ2 (fun r5 τ6 => (r5 = (-1 : Int32) → Q (0 : Int32) τ6) ∧ (¬ r5 = (-1 : Int32) → Q (1 : Int32) τ6))))
variable {p : Program} {l : Launch} {e : Env} {s : State} {m : MethodId} {args : Array Value} {below : List Frame} {meth : Method} {c : Code} {dC : Nat → ClassId} {dI : Nat → Nat → Nat} {ad : Nat → Nat} {cI cJ cC : ClassId}
set_option maxHeartbeats 4000000 in
set_option maxRecDepth 100000 in
theorem t_X12_isStep_0 (C0 : zCx p s m meth c args RX12 cX12_isStep 4 (some .boolean) vs_X12_isStep) (hK : va_K (dC, dI) vwCl (m_ty cI cJ cC) s) (N : Nat) {Q : Int32 → zSt → Prop} : ∀ (x1 : Int64) (x3 : Int32) (σ : zSt) (H : Heap) (locs : List Loc) (ls : Array Slot), w_X12_isStep N x1 x3 σ Q → va_P (dC, dI) vwCl (m_W ad cI cJ cC σ) H → va_D (zAW m_n ad s.heap.size) (m_W ad cI cJ cC σ) → va_S (zAW m_n ad s.heap.size) s.heap H locs → lv_has ls 4 [(0, .ref (ad 0)), (1, .long x1), (3, .int x3)] → W p l e rm_X12_isStep s m args below meth c H locs 0 0 (MQ below (zQi (dC, dI) (m_ty cI cJ cC) (m_W ad cI cJ cC) (zAW m_n ad s.heap.size) Q) args s 0 0 (zAW m_n ad s.heap.size)) (F0 m 0 ls []) := by
  obtain ⟨hx, hb, hml, hr, hown, hts, hlocks⟩ := id C0
  intro x1 x3 σ H locs ls h hP hD hS hl
  unfold w_X12_isStep at h
  refine lv_lload_n hx hb dX12_isStep_0 rfl (lv_at hl 1 rfl) ?_
  refine lv_iload_n hx hb dX12_isStep_1 rfl (lv_at hl 2 rfl) ?_
  refine k_X12_isTied N ⟨hx, hb, hml, hown, hts⟩ mw_1071 ⟨Nat.le_of_ble_eq_true rfl, Nat.le_of_ble_eq_true rfl⟩ h hK hP hD hS hl.1 (rest := []) (Nat.le_of_ble_eq_true rfl) ⟨Nat.le_of_ble_eq_true rfl, Nat.le_of_ble_eq_true rfl⟩ dX12_isStep_2 (fun r1 τ2 H locs h hP hD hS => ?_)
  refine lv_if_eq (tgt := 26) hx hb dX12_isStep_5 (by decide) (fun hc => ?_) (fun hc => ?_)
  · have h := h.1 hc
    refine lv_aload_n hx hb dX12_isStep_26 rfl (lv_at hl 0 rfl) ?_
    refine lv_lload_n hx hb dX12_isStep_27 rfl (lv_at hl 1 rfl) ?_
    refine lv_iload_n hx hb dX12_isStep_28 rfl (lv_at hl 2 rfl) ?_
    refine k_X12_isAdd N ⟨hx, hb, hml, hown, hts⟩ mw_1181 ⟨Nat.le_of_ble_eq_true rfl, Nat.le_of_ble_eq_true rfl⟩ h hK hP hD hS hl.1 (rest := []) (Nat.le_of_ble_eq_true rfl) ⟨Nat.le_of_ble_eq_true rfl, Nat.le_of_ble_eq_true rfl⟩ dX12_isStep_29 (fun r3 τ4 H locs h hP hD hS => ?_)
    exact zret_z hx hb hr hlocks hK hP hD hS h.1 h.2 dX12_isStep_32
  · have h := h.2 hc
    refine lv_aload_n hx hb dX12_isStep_8 rfl (lv_at hl 0 rfl) ?_
    refine lv_lload_n hx hb dX12_isStep_9 rfl (lv_at hl 1 rfl) ?_
    refine lv_iload_n hx hb dX12_isStep_10 rfl (lv_at hl 2 rfl) ?_
    refine k_X12_cutter N ⟨hx, hb, hml, hown, hts⟩ mw_1172 ⟨Nat.le_of_ble_eq_true rfl, Nat.le_of_ble_eq_true rfl⟩ h hK hP hD hS hl.1 (rest := []) (Nat.le_of_ble_eq_true rfl) ⟨Nat.le_of_ble_eq_true rfl, Nat.le_of_ble_eq_true rfl⟩ dX12_isStep_11 (fun r5 τ6 H locs h hP hD hS => ?_)
    refine lv_iconst (v := (-1 : Int32)) hx hb dX12_isStep_14 (by decide) ?_
    refine lv_icmp_eq (tgt := 22) hx hb dX12_isStep_15 (by decide) (fun hc => ?_) (fun hc => ?_)
    · have h := h.1 hc
      refine lv_iconst (v := (0 : Int32)) hx hb dX12_isStep_22 (by decide) ?_
      refine lv_goto (tgt := 32) hx hb dX12_isStep_23 (by decide) ?_
      exact zret_z hx hb hr hlocks hK hP hD hS zb_0 h dX12_isStep_32
    · have h := h.2 hc
      refine lv_iconst (v := (1 : Int32)) hx hb dX12_isStep_18 (by decide) ?_
      refine lv_goto (tgt := 32) hx hb dX12_isStep_19 (by decide) ?_
      exact zret_z hx hb hr hlocks hK hP hD hS zb_1 h dX12_isStep_32
set_option maxHeartbeats 4000000 in
set_option maxRecDepth 100000 in
theorem c_X12_isStep (N : Nat) (l : Launch) (dC : Nat → ClassId) (dI : Nat → Nat → Nat) (ad : Nat → Nat) (cI cJ cC : ClassId) (sz : Nat) (σ : zSt) (x1 : Int64) (x3 : Int32) (Q : Int32 → zSt → Prop) (h : w_X12_isStep N x1 x3 σ Q) : Met l yX12_isStep vs_X12_isStep rm_X12_isStep (va_Pc [.ref (ad 0), .long x1, .int x3] (zPc (dC, dI) (m_ty cI cJ cC) (m_W ad cI cJ cC) sz σ)) (zQi (dC, dI) (m_ty cI cJ cC) (m_W ad cI cJ cC) (zAW m_n ad sz) Q) 0 0 (zAW m_n ad sz) := by
  refine Met.ofW (cc := cX12_isStep) (maxL := 4) (ret := (some .boolean)) (by decide) rfl ?_
  intro p e s m args below meth c s₁ B hml hv
  obtain ⟨rfl, hsz, hP, hK, hD0⟩ := hv
  subst hsz
  have C0 : zCx p s m meth c _ RX12 cX12_isStep 4 (some .boolean) vs_X12_isStep := ⟨B.exec, B.bytes, hml, B.returns, findClass_of_methodNamed B.named, atoms_spec (ws := vs_X12_isStep) B.pre, B.notSynchronized⟩
  have hD := m_D0 (n0 := s.heap.size) hD0
  have hl := lv_entry ([.ref (ad 0), .long x1, .int x3]) (n := 4) (Nat.le_of_ble_eq_true rfl)
  rw [lg_entry_eq]
  generalize (lg_sl ([.ref (ad 0), .long x1, .int x3]) ++ List.replicate (4 - (lg_sl ([.ref (ad 0), .long x1, .int x3])).length) Slot.unset).toArray = ls at hl ⊢
  exact t_X12_isStep_0 C0 hK N x1 x3 σ _ _ ls h hP hD va_S.rf hl
theorem k_X12_isStep (N : Nat) {R : Room} {H : Heap} {locs : List Loc} {cells slots : Nat} {Q2 : State → Prop} {cc : ByteArray} {nL pc index : Nat} {ls : Array Slot} {rest : List Value} {own : String} {c0 : Cond} {σ : zSt} {x1 : Int64} {x3 : Int32} {Q : Int32 → zSt → Prop} (S0 : CallFix p m c cc nL s args (c0 :: zT) own) (hml : Cond.methodLink own index yX12_isStep ∈ zT) (hR : rm_X12_isStep.frames + 1 ≤ R.frames ∧ 8 + (4 + 11) + rm_X12_isStep.locals ≤ R.locals) (h : w_X12_isStep N x1 x3 σ Q) (hK : va_K (dC, dI) vwCl (m_ty cI cJ cC) s) (hP : va_P (dC, dI) vwCl (m_W ad cI cJ cC σ) H) (hD : va_D (zAW m_n ad s.heap.size) (m_W ad cI cJ cC σ)) (hS : va_S (zAW m_n ad s.heap.size) s.heap H locs) (hsz : ls.size = nL) (hW : (rest.map fun v => v.category).sum ≤ 8) (hcs : cells ≤ R.cells ∧ slots ≤ R.slots) (hdg : decode cc pc = .ok (.invokevirtual index, 3)) (kk : ∀ (r : Int32) (τ : zSt) (H1 : Heap) (locs1 : List Loc), Q r τ → va_P (dC, dI) vwCl (m_W ad cI cJ cC τ) H1 → va_D (zAW m_n ad s.heap.size) (m_W ad cI cJ cC τ) → va_S (zAW m_n ad s.heap.size) s.heap H1 locs1 → W p l e R s m args below meth c H1 locs1 cells slots Q2 (F0 m (pc + 3) ls (.int r :: rest))) : W p l e R s m args below meth c H locs cells slots Q2 (F0 m pc ls (.int x3 :: .long x1 :: .ref (ad 0) :: rest)) :=
  zcv_i (T := TX12) (N' := 83) (k := 0) (ci := 12) (fs := m_f0 ad σ) [.long x1, .int x3] S0 (c_X12_isStep N l dC dI ad cI cJ cC H.size σ x1 x3 Q h) (cw_X12_isStep S0.2.2.2.2 hml rfl rfl hR) rfl rfl hK hP hD hS rfl hsz hW rfl hcs hdg kk
end q23
section q23
def b_X12_step_111 (N : Nat) (Q : Int32 → zSt → Prop) (s0 : Int32) (σ : zSt) : Prop :=
  (vp_in s0 45) ∧ (∀ v1 : Int32, v1 = σ.2.2.1 14 s0.toNatClampNeg → ∀ τ2 : zSt, τ2 = zJ σ 0 ((σ.2.1 0) ^^^ ((1 : Int64) <<< (v1.toInt64 &&& 63))) → Q v1 τ2)
def b_X12_step_68 (N : Nat) (Q : Int32 → zSt → Prop) (x1 : Int32) (x2 : Int32) (σ : zSt) : Prop :=
  (x2 = 0 → Q (-1 : Int32) σ) ∧ (¬ x2 = 0 → ∀ v1 : Int64, v1 = (((1103515245 : Int64) * x1.toInt64) + (12345 : Int64)) - (((1103515245 : Int64) * x1.toInt64) + (12345 : Int64)) / (2147483648 : Int64) * (2147483648 : Int64) → (x1 = (-1 : Int32) → b_X12_step_111 N Q (0 : Int32) σ) ∧ (¬ x1 = (-1 : Int32) → (¬ x2.toInt64 = 0) ∧ (b_X12_step_111 N Q ((v1 / (256 : Int64)) - (v1 / (256 : Int64)) / x2.toInt64 * x2.toInt64).toInt32 σ)))
def b_X12_step_37 (N : Nat) (k_20 : Int32 → Int32 → Int32 → zSt → Prop) (Q : Int32 → zSt → Prop) (x1 : Int32) (x2 : Int32) (x3 : Int32) (σ : zSt) : Prop :=
  w_X12_isStep N (σ.2.1 0) x3 σ (fun r1 τ2 => (r1 = 0 → ∀ v6 : Int32, v6 = x3 + (1 : Int32) → k_20 x1 x2 v6 τ2) ∧ (¬ r1 = 0 → (vp_in x2 45) ∧ (∀ τ3 : zSt, τ3 = zA τ2 14 (upd (τ2.2.2.1 14) (x2.toNatClampNeg) x3) → ∀ v4 : Int32, v4 = x2 + (1 : Int32) → ∀ v5 : Int32, v5 = x3 + (1 : Int32) → k_20 x1 v4 v5 τ3)))
def b_X12_step_20 (N : Nat) (k_20 : Int32 → Int32 → Int32 → zSt → Prop) (Q : Int32 → zSt → Prop) (x1 : Int32) (x2 : Int32) (x3 : Int32) (σ : zSt) : Prop :=
  w_X12_pairs N σ (fun r1 τ2 => (r1 ≤ x3 → b_X12_step_68 N Q x1 x2 τ2) ∧ (¬ r1 ≤ x3 → (x1 = (-1 : Int32) → (x2 = 0 → b_X12_step_37 N k_20 Q x1 x2 x3 τ2) ∧ (¬ x2 = 0 → b_X12_step_68 N Q x1 x2 τ2)) ∧ (¬ x1 = (-1 : Int32) → b_X12_step_37 N k_20 Q x1 x2 x3 τ2)))
def w_X12_step_20 (N : Nat) (Q : Int32 → zSt → Prop) : Nat → Int32 → Int32 → Int32 → zSt → Prop
  | 0 => fun _ _ _ _ => False
  | f + 1 => b_X12_step_20 N (w_X12_step_20 N  Q f) Q
def w_X12_step (N : Nat) (x1 : Int32) (σ : zSt) (Q : Int32 → zSt → Prop) : Prop :=
  ((-1 : Int32) ≤ x1 → w_X12_begins N (σ.2.1 0) σ (fun τ2 => w_X12_step_20 N Q N x1 (0 : Int32) (0 : Int32) τ2)) ∧ (¬ (-1 : Int32) ≤ x1 → Q (-2 : Int32) σ)
variable {p : Program} {l : Launch} {e : Env} {s : State} {m : MethodId} {args : Array Value} {below : List Frame} {meth : Method} {c : Code} {dC : Nat → ClassId} {dI : Nat → Nat → Nat} {ad : Nat → Nat} {cI cJ cC : ClassId}
set_option maxHeartbeats 4000000 in
set_option maxRecDepth 100000 in
theorem t_X12_step_111 (C0 : zCx p s m meth c args RX12 cX12_step 6 (some .int) vs_X12_step) (hK : va_K (dC, dI) vwCl (m_ty cI cJ cC) s) (N : Nat) {Q : Int32 → zSt → Prop} : ∀ (s0 : Int32) (σ : zSt) (H : Heap) (locs : List Loc) (ls : Array Slot), b_X12_step_111 N  Q s0 σ → va_P (dC, dI) vwCl (m_W ad cI cJ cC σ) H → va_D (zAW m_n ad s.heap.size) (m_W ad cI cJ cC σ) → va_S (zAW m_n ad s.heap.size) s.heap H locs → lv_has ls 6 [(0, .ref (ad 0))] → W p l e rm_X12_step s m args below meth c H locs 0 0 (MQ below (zQi (dC, dI) (m_ty cI cJ cC) (m_W ad cI cJ cC) (zAW m_n ad s.heap.size) Q) args s 0 0 (zAW m_n ad s.heap.size)) (F0 m 111 ls [.int s0, .ref (ad 20)]) := by
  obtain ⟨hx, hb, hml, hr, hown, hts, hlocks⟩ := id C0
  intro s0 σ H locs ls h hP hD hS hl
  unfold b_X12_step_111 at h
  refine ma_20 hx hb hK hP h.1 rfl dX12_step_111 ?_
  have h := h.2
  refine lv_topi (fun v1 ev1 => ?_)
  have h := h v1 ev1
  refine lv_istore (lv' := [(5, .int v1), (0, .ref (ad 0))]) hx hb dX12_step_112 hl (by decide) rfl (fun ls hl => ?_)
  refine lv_aload_n hx hb dX12_step_114 rfl (lv_at hl 1 rfl) ?_
  refine lv_dup hx hb dX12_step_115 rfl ?_
  refine mg_0_47 hx hb hts hown hK hP mw_880 dX12_step_116 ?_
  refine lv_lconst (v := (1 : Int64)) hx hb dX12_step_119 (by decide) ?_
  refine lv_iload hx hb dX12_step_120 (lv_at hl 0 rfl) ?_
  refine lv_lshl hx hb dX12_step_122 rfl ?_
  refine lv_lxor hx hb dX12_step_123 ?_
  refine mp_0_47 hx hb hts hown hK hP hD hS mw_880 dX12_step_124 (fun τ2 H locs eτ2 hP hD hS => ?_)
  have h := h τ2 eτ2
  refine lv_iload hx hb dX12_step_127 (lv_at hl 0 rfl) ?_
  exact zret_i hx hb hr hlocks hK hP hD hS h dX12_step_129
set_option maxHeartbeats 4000000 in
set_option maxRecDepth 100000 in
theorem t_X12_step_68 (C0 : zCx p s m meth c args RX12 cX12_step 6 (some .int) vs_X12_step) (hK : va_K (dC, dI) vwCl (m_ty cI cJ cC) s) (N : Nat) {Q : Int32 → zSt → Prop} : ∀ (x1 : Int32) (x2 : Int32) (σ : zSt) (H : Heap) (locs : List Loc) (ls : Array Slot), b_X12_step_68 N  Q x1 x2 σ → va_P (dC, dI) vwCl (m_W ad cI cJ cC σ) H → va_D (zAW m_n ad s.heap.size) (m_W ad cI cJ cC σ) → va_S (zAW m_n ad s.heap.size) s.heap H locs → lv_has ls 6 [(0, .ref (ad 0)), (1, .int x1), (2, .int x2)] → W p l e rm_X12_step s m args below meth c H locs 0 0 (MQ below (zQi (dC, dI) (m_ty cI cJ cC) (m_W ad cI cJ cC) (zAW m_n ad s.heap.size) Q) args s 0 0 (zAW m_n ad s.heap.size)) (F0 m 68 ls []) := by
  obtain ⟨hx, hb, hml, hr, hown, hts, hlocks⟩ := id C0
  intro x1 x2 σ H locs ls h hP hD hS hl
  unfold b_X12_step_68 at h
  refine lv_iload_n hx hb dX12_step_68 rfl (lv_at hl 2 rfl) ?_
  refine lv_if_ne (tgt := 74) hx hb dX12_step_69 (by decide) (fun hc => ?_) (fun hc => ?_)
  · have h := h.2 hc
    refine lv_ldc2 (v := (1103515245 : Int64)) hx hb hown (hts _ (List.mem_cons_of_mem _ mw_1204)) dX12_step_74 ?_
    refine lv_iload_n hx hb dX12_step_77 rfl (lv_at hl 1 rfl) ?_
    refine lv_i2l hx hb dX12_step_78 rfl ?_
    refine lv_lmul hx hb dX12_step_79 ?_
    refine lv_ldc2 (v := (12345 : Int64)) hx hb hown (hts _ (List.mem_cons_of_mem _ mw_1205)) dX12_step_80 ?_
    refine lv_ladd hx hb dX12_step_83 ?_
    refine lv_ldc2 (v := (2147483648 : Int64)) hx hb hown (hts _ (List.mem_cons_of_mem _ mw_1206)) dX12_step_84 ?_
    refine lv_lrem hx hb dX12_step_87 (by decide) ?_
    refine lv_topl (fun v1 ev1 => ?_)
    have h := h v1 ev1
    refine lv_lstore_n (lv' := [(3, .long v1), (0, .ref (ad 0)), (1, .int x1), (2, .int x2)]) hx hb dX12_step_88 rfl hl (by decide) rfl (fun ls hl => ?_)
    refine lv_aload_n hx hb dX12_step_89 rfl (lv_at hl 1 rfl) ?_
    refine mg_0_66 hx hb hts hown hK hP mw_899 dX12_step_90 ?_
    refine lv_iload_n hx hb dX12_step_93 rfl (lv_at hl 2 rfl) ?_
    refine lv_iconst (v := (-1 : Int32)) hx hb dX12_step_94 (by decide) ?_
    refine lv_icmp_ne (tgt := 102) hx hb dX12_step_95 (by decide) (fun hc => ?_) (fun hc => ?_)
    · have h := h.2 hc
      refine lv_lload_n hx hb dX12_step_102 rfl (lv_at hl 0 rfl) ?_
      refine lv_ldc2 (v := (256 : Int64)) hx hb hown (hts _ (List.mem_cons_of_mem _ mw_1207)) dX12_step_103 ?_
      refine lv_ldiv hx hb dX12_step_106 (by decide) ?_
      refine lv_iload_n hx hb dX12_step_107 rfl (lv_at hl 3 rfl) ?_
      refine lv_i2l hx hb dX12_step_108 rfl ?_
      refine lv_lrem hx hb dX12_step_109 h.1 ?_
      have h := h.2
      refine lv_l2i hx hb dX12_step_110 rfl ?_
      exact t_X12_step_111 C0 hK N  ((v1 / (256 : Int64)) - (v1 / (256 : Int64)) / x2.toInt64 * x2.toInt64).toInt32 σ _ _ _ h hP hD hS (lv_sub hl [1] rfl)
    · have h := h.1 hc
      refine lv_iconst (v := (0 : Int32)) hx hb dX12_step_98 (by decide) ?_
      refine lv_goto (tgt := 111) hx hb dX12_step_99 (by decide) ?_
      exact t_X12_step_111 C0 hK N  (0 : Int32) σ _ _ _ h hP hD hS (lv_sub hl [1] rfl)
  · have h := h.1 hc
    refine lv_iconst (v := (-1 : Int32)) hx hb dX12_step_72 (by decide) ?_
    exact zret_i hx hb hr hlocks hK hP hD hS h dX12_step_73
set_option maxHeartbeats 4000000 in
set_option maxRecDepth 100000 in
theorem t_X12_step_37 (C0 : zCx p s m meth c args RX12 cX12_step 6 (some .int) vs_X12_step) (hK : va_K (dC, dI) vwCl (m_ty cI cJ cC) s) (N : Nat) {Q : Int32 → zSt → Prop} {k_20 : Int32 → Int32 → Int32 → zSt → Prop} (hk_20 : ∀ (x1 : Int32) (x2 : Int32) (x3 : Int32) (σ : zSt) (H : Heap) (locs : List Loc) (ls : Array Slot), k_20 x1 x2 x3 σ → va_P (dC, dI) vwCl (m_W ad cI cJ cC σ) H → va_D (zAW m_n ad s.heap.size) (m_W ad cI cJ cC σ) → va_S (zAW m_n ad s.heap.size) s.heap H locs → lv_has ls 6 [(0, .ref (ad 0)), (1, .int x1), (2, .int x2), (3, .int x3)] → W p l e rm_X12_step s m args below meth c H locs 0 0 (MQ below (zQi (dC, dI) (m_ty cI cJ cC) (m_W ad cI cJ cC) (zAW m_n ad s.heap.size) Q) args s 0 0 (zAW m_n ad s.heap.size)) (F0 m 20 ls [])) : ∀ (x1 : Int32) (x2 : Int32) (x3 : Int32) (σ : zSt) (H : Heap) (locs : List Loc) (ls : Array Slot), b_X12_step_37 N k_20 Q x1 x2 x3 σ → va_P (dC, dI) vwCl (m_W ad cI cJ cC σ) H → va_D (zAW m_n ad s.heap.size) (m_W ad cI cJ cC σ) → va_S (zAW m_n ad s.heap.size) s.heap H locs → lv_has ls 6 [(0, .ref (ad 0)), (1, .int x1), (2, .int x2), (3, .int x3)] → W p l e rm_X12_step s m args below meth c H locs 0 0 (MQ below (zQi (dC, dI) (m_ty cI cJ cC) (m_W ad cI cJ cC) (zAW m_n ad s.heap.size) Q) args s 0 0 (zAW m_n ad s.heap.size)) (F0 m 37 ls []) := by
  obtain ⟨hx, hb, hml, hr, hown, hts, hlocks⟩ := id C0
  intro x1 x2 x3 σ H locs ls h hP hD hS hl
  unfold b_X12_step_37 at h
  refine lv_aload_n hx hb dX12_step_37 rfl (lv_at hl 0 rfl) ?_
  refine lv_aload_n hx hb dX12_step_38 rfl (lv_at hl 0 rfl) ?_
  refine mg_0_47 hx hb hts hown hK hP mw_880 dX12_step_39 ?_
  refine lv_iload_n hx hb dX12_step_42 rfl (lv_at hl 3 rfl) ?_
  refine k_X12_isStep N ⟨hx, hb, hml, hown, hts⟩ mw_1201 ⟨Nat.le_of_ble_eq_true rfl, Nat.le_of_ble_eq_true rfl⟩ h hK hP hD hS hl.1 (rest := []) (Nat.le_of_ble_eq_true rfl) ⟨Nat.le_of_ble_eq_true rfl, Nat.le_of_ble_eq_true rfl⟩ dX12_step_43 (fun r1 τ2 H locs h hP hD hS => ?_)
  refine lv_if_ne (tgt := 52) hx hb dX12_step_46 (by decide) (fun hc => ?_) (fun hc => ?_)
  · have h := h.2 hc
    refine lv_aload_n hx hb dX12_step_52 rfl (lv_at hl 0 rfl) ?_
    refine mg_0_66 hx hb hts hown hK hP mw_899 dX12_step_53 ?_
    refine lv_iload_n hx hb dX12_step_56 rfl (lv_at hl 2 rfl) ?_
    refine lv_iload_n hx hb dX12_step_57 rfl (lv_at hl 3 rfl) ?_
    refine ms_20 hx hb hK hP hD hS h.1 rfl dX12_step_58 (fun τ3 H locs eτ3 hP hD hS => ?_)
    have h := h.2
    have h := h τ3 eτ3
    obtain ⟨v4, ev4⟩ : ∃ z : Int32, z = x2 + (1 : Int32) := ⟨_, rfl⟩
    have h := h v4 ev4
    refine lv_iinc (v := v4) (lv' := [(2, .int v4), (0, .ref (ad 0)), (1, .int x1), (3, .int x3)]) hx hb dX12_step_59 hl (k := 2) rfl (by rw [ev4]; rfl) (by decide) rfl (fun ls hl => ?_)
    obtain ⟨v5, ev5⟩ : ∃ z : Int32, z = x3 + (1 : Int32) := ⟨_, rfl⟩
    have h := h v5 ev5
    refine lv_iinc (v := v5) (lv' := [(3, .int v5), (2, .int v4), (0, .ref (ad 0)), (1, .int x1)]) hx hb dX12_step_62 hl (k := 3) rfl (by rw [ev5]; rfl) (by decide) rfl (fun ls hl => ?_)
    refine lv_goto (tgt := 20) hx hb dX12_step_65 (by decide) ?_
    exact hk_20 x1 v4 v5 τ3 _ _ _ h hP hD hS (lv_sub hl [2, 3, 1, 0] rfl)
  · have h := h.1 hc
    refine lv_goto (tgt := 62) hx hb dX12_step_49 (by decide) ?_
    obtain ⟨v6, ev6⟩ : ∃ z : Int32, z = x3 + (1 : Int32) := ⟨_, rfl⟩
    have h := h v6 ev6
    refine lv_iinc (v := v6) (lv' := [(3, .int v6), (0, .ref (ad 0)), (1, .int x1), (2, .int x2)]) hx hb dX12_step_62 hl (k := 3) rfl (by rw [ev6]; rfl) (by decide) rfl (fun ls hl => ?_)
    refine lv_goto (tgt := 20) hx hb dX12_step_65 (by decide) ?_
    exact hk_20 x1 x2 v6 τ2 _ _ _ h hP hD hS (lv_sub hl [1, 2, 3, 0] rfl)
set_option maxHeartbeats 4000000 in
set_option maxRecDepth 100000 in
theorem tb_X12_step_20 (C0 : zCx p s m meth c args RX12 cX12_step 6 (some .int) vs_X12_step) (hK : va_K (dC, dI) vwCl (m_ty cI cJ cC) s) (N : Nat) {Q : Int32 → zSt → Prop} {k_20 : Int32 → Int32 → Int32 → zSt → Prop} (hk_20 : ∀ (x1 : Int32) (x2 : Int32) (x3 : Int32) (σ : zSt) (H : Heap) (locs : List Loc) (ls : Array Slot), k_20 x1 x2 x3 σ → va_P (dC, dI) vwCl (m_W ad cI cJ cC σ) H → va_D (zAW m_n ad s.heap.size) (m_W ad cI cJ cC σ) → va_S (zAW m_n ad s.heap.size) s.heap H locs → lv_has ls 6 [(0, .ref (ad 0)), (1, .int x1), (2, .int x2), (3, .int x3)] → W p l e rm_X12_step s m args below meth c H locs 0 0 (MQ below (zQi (dC, dI) (m_ty cI cJ cC) (m_W ad cI cJ cC) (zAW m_n ad s.heap.size) Q) args s 0 0 (zAW m_n ad s.heap.size)) (F0 m 20 ls [])) : ∀ (x1 : Int32) (x2 : Int32) (x3 : Int32) (σ : zSt) (H : Heap) (locs : List Loc) (ls : Array Slot), b_X12_step_20 N k_20 Q x1 x2 x3 σ → va_P (dC, dI) vwCl (m_W ad cI cJ cC σ) H → va_D (zAW m_n ad s.heap.size) (m_W ad cI cJ cC σ) → va_S (zAW m_n ad s.heap.size) s.heap H locs → lv_has ls 6 [(0, .ref (ad 0)), (1, .int x1), (2, .int x2), (3, .int x3)] → W p l e rm_X12_step s m args below meth c H locs 0 0 (MQ below (zQi (dC, dI) (m_ty cI cJ cC) (m_W ad cI cJ cC) (zAW m_n ad s.heap.size) Q) args s 0 0 (zAW m_n ad s.heap.size)) (F0 m 20 ls []) := by
  obtain ⟨hx, hb, hml, hr, hown, hts, hlocks⟩ := id C0
  intro x1 x2 x3 σ H locs ls h hP hD hS hl
  unfold b_X12_step_20 at h
  refine lv_iload_n hx hb dX12_step_20 rfl (lv_at hl 3 rfl) ?_
  refine lv_aload_n hx hb dX12_step_21 rfl (lv_at hl 0 rfl) ?_
  refine k_X12_pairs N ⟨hx, hb, hml, hown, hts⟩ mw_1047 ⟨Nat.le_of_ble_eq_true rfl, Nat.le_of_ble_eq_true rfl⟩ h hK hP hD hS hl.1 (rest := [.int x3]) (Nat.le_of_ble_eq_true rfl) ⟨Nat.le_of_ble_eq_true rfl, Nat.le_of_ble_eq_true rfl⟩ dX12_step_22 (fun r1 τ2 H locs h hP hD hS => ?_)
  refine lv_icmp_ge (tgt := 68) hx hb dX12_step_25 (by decide) (fun hc => ?_) (fun hc => ?_)
  · have h := h.1 hc
    exact t_X12_step_68 C0 hK N  x1 x2 τ2 _ _ _ h hP hD hS (lv_sub hl [0, 1, 2] rfl)
  · have h := h.2 hc
    refine lv_iload_n hx hb dX12_step_28 rfl (lv_at hl 1 rfl) ?_
    refine lv_iconst (v := (-1 : Int32)) hx hb dX12_step_29 (by decide) ?_
    refine lv_icmp_ne (tgt := 37) hx hb dX12_step_30 (by decide) (fun hc => ?_) (fun hc => ?_)
    · have h := h.2 hc
      exact t_X12_step_37 C0 hK N hk_20 x1 x2 x3 τ2 _ _ _ h hP hD hS (lv_sub hl [0, 1, 2, 3] rfl)
    · have h := h.1 hc
      refine lv_iload_n hx hb dX12_step_33 rfl (lv_at hl 2 rfl) ?_
      refine lv_if_ne (tgt := 68) hx hb dX12_step_34 (by decide) (fun hc => ?_) (fun hc => ?_)
      · have h := h.2 hc
        exact t_X12_step_68 C0 hK N  x1 x2 τ2 _ _ _ h hP hD hS (lv_sub hl [0, 1, 2] rfl)
      · have h := h.1 hc
        exact t_X12_step_37 C0 hK N hk_20 x1 x2 x3 τ2 _ _ _ h hP hD hS (lv_sub hl [0, 1, 2, 3] rfl)
set_option maxHeartbeats 4000000 in
set_option maxRecDepth 100000 in
theorem t_X12_step_20 (C0 : zCx p s m meth c args RX12 cX12_step 6 (some .int) vs_X12_step) (hK : va_K (dC, dI) vwCl (m_ty cI cJ cC) s) (N : Nat) {Q : Int32 → zSt → Prop} : ∀ (f : Nat) (x1 : Int32) (x2 : Int32) (x3 : Int32) (σ : zSt) (H : Heap) (locs : List Loc) (ls : Array Slot), w_X12_step_20 N  Q f x1 x2 x3 σ → va_P (dC, dI) vwCl (m_W ad cI cJ cC σ) H → va_D (zAW m_n ad s.heap.size) (m_W ad cI cJ cC σ) → va_S (zAW m_n ad s.heap.size) s.heap H locs → lv_has ls 6 [(0, .ref (ad 0)), (1, .int x1), (2, .int x2), (3, .int x3)] → W p l e rm_X12_step s m args below meth c H locs 0 0 (MQ below (zQi (dC, dI) (m_ty cI cJ cC) (m_W ad cI cJ cC) (zAW m_n ad s.heap.size) Q) args s 0 0 (zAW m_n ad s.heap.size)) (F0 m 20 ls []) := by
  intro f
  induction f with
  | zero => intro x1 x2 x3 σ H locs ls h; exact h.elim
  | succ f ih =>
    intro x1 x2 x3 σ H locs ls h hP hD hS hl
    exact tb_X12_step_20 C0 hK N  (k_20 := w_X12_step_20 N  Q f) ih x1 x2 x3 σ H locs ls h hP hD hS hl
set_option maxHeartbeats 4000000 in
set_option maxRecDepth 100000 in
theorem t_X12_step_0 (C0 : zCx p s m meth c args RX12 cX12_step 6 (some .int) vs_X12_step) (hK : va_K (dC, dI) vwCl (m_ty cI cJ cC) s) (N : Nat) {Q : Int32 → zSt → Prop} : ∀ (x1 : Int32) (σ : zSt) (H : Heap) (locs : List Loc) (ls : Array Slot), w_X12_step N x1 σ Q → va_P (dC, dI) vwCl (m_W ad cI cJ cC σ) H → va_D (zAW m_n ad s.heap.size) (m_W ad cI cJ cC σ) → va_S (zAW m_n ad s.heap.size) s.heap H locs → lv_has ls 6 [(0, .ref (ad 0)), (1, .int x1)] → W p l e rm_X12_step s m args below meth c H locs 0 0 (MQ below (zQi (dC, dI) (m_ty cI cJ cC) (m_W ad cI cJ cC) (zAW m_n ad s.heap.size) Q) args s 0 0 (zAW m_n ad s.heap.size)) (F0 m 0 ls []) := by
  obtain ⟨hx, hb, hml, hr, hown, hts, hlocks⟩ := id C0
  intro x1 σ H locs ls h hP hD hS hl
  unfold w_X12_step at h
  refine lv_iload_n hx hb dX12_step_0 rfl (lv_at hl 1 rfl) ?_
  refine lv_iconst (v := (-1 : Int32)) hx hb dX12_step_1 (by decide) ?_
  refine lv_icmp_ge (tgt := 8) hx hb dX12_step_2 (by decide) (fun hc => ?_) (fun hc => ?_)
  · have h := h.1 hc
    refine lv_aload_n hx hb dX12_step_8 rfl (lv_at hl 0 rfl) ?_
    refine lv_aload_n hx hb dX12_step_9 rfl (lv_at hl 0 rfl) ?_
    refine mg_0_47 hx hb hts hown hK hP mw_880 dX12_step_10 ?_
    refine k_X12_begins N ⟨hx, hb, hml, hown, hts⟩ mw_1148 ⟨Nat.le_of_ble_eq_true rfl, Nat.le_of_ble_eq_true rfl⟩ h hK hP hD hS hl.1 (rest := []) (Nat.le_of_ble_eq_true rfl) ⟨Nat.le_of_ble_eq_true rfl, Nat.le_of_ble_eq_true rfl⟩ dX12_step_13 (fun τ2 H locs h hP hD hS => ?_)
    refine lv_iconst (v := (0 : Int32)) hx hb dX12_step_16 (by decide) ?_
    refine lv_istore_n (lv' := [(2, .int (0 : Int32)), (0, .ref (ad 0)), (1, .int x1)]) hx hb dX12_step_17 rfl hl (by decide) rfl (fun ls hl => ?_)
    refine lv_iconst (v := (0 : Int32)) hx hb dX12_step_18 (by decide) ?_
    refine lv_istore_n (lv' := [(3, .int (0 : Int32)), (2, .int (0 : Int32)), (0, .ref (ad 0)), (1, .int x1)]) hx hb dX12_step_19 rfl hl (by decide) rfl (fun ls hl => ?_)
    exact t_X12_step_20 C0 hK N  N x1 (0 : Int32) (0 : Int32) τ2 _ _ _ h hP hD hS (lv_sub hl [2, 3, 1, 0] rfl)
  · have h := h.2 hc
    refine lv_bipush (v := (-2 : Int32)) hx hb dX12_step_5 (by decide) ?_
    exact zret_i hx hb hr hlocks hK hP hD hS h dX12_step_7
set_option maxHeartbeats 4000000 in
set_option maxRecDepth 100000 in
theorem c_X12_step (N : Nat) (l : Launch) (dC : Nat → ClassId) (dI : Nat → Nat → Nat) (ad : Nat → Nat) (cI cJ cC : ClassId) (sz : Nat) (σ : zSt) (x1 : Int32) (Q : Int32 → zSt → Prop) (h : w_X12_step N x1 σ Q) : Met l yX12_step vs_X12_step rm_X12_step (va_Pc [.ref (ad 0), .int x1] (zPc (dC, dI) (m_ty cI cJ cC) (m_W ad cI cJ cC) sz σ)) (zQi (dC, dI) (m_ty cI cJ cC) (m_W ad cI cJ cC) (zAW m_n ad sz) Q) 0 0 (zAW m_n ad sz) := by
  refine Met.ofW (cc := cX12_step) (maxL := 6) (ret := (some .int)) (by decide) rfl ?_
  intro p e s m args below meth c s₁ B hml hv
  obtain ⟨rfl, hsz, hP, hK, hD0⟩ := hv
  subst hsz
  have C0 : zCx p s m meth c _ RX12 cX12_step 6 (some .int) vs_X12_step := ⟨B.exec, B.bytes, hml, B.returns, findClass_of_methodNamed B.named, atoms_spec (ws := vs_X12_step) B.pre, B.notSynchronized⟩
  have hD := m_D0 (n0 := s.heap.size) hD0
  have hl := lv_entry ([.ref (ad 0), .int x1]) (n := 6) (Nat.le_of_ble_eq_true rfl)
  rw [lg_entry_eq]
  generalize (lg_sl ([.ref (ad 0), .int x1]) ++ List.replicate (6 - (lg_sl ([.ref (ad 0), .int x1])).length) Slot.unset).toArray = ls at hl ⊢
  exact t_X12_step_0 C0 hK N x1 σ _ _ ls h hP hD va_S.rf hl
theorem k_X12_step (N : Nat) {R : Room} {H : Heap} {locs : List Loc} {cells slots : Nat} {Q2 : State → Prop} {cc : ByteArray} {nL pc index : Nat} {ls : Array Slot} {rest : List Value} {own : String} {c0 : Cond} {σ : zSt} {x1 : Int32} {Q : Int32 → zSt → Prop} (S0 : CallFix p m c cc nL s args (c0 :: zT) own) (hml : Cond.methodLink own index yX12_step ∈ zT) (hR : rm_X12_step.frames + 1 ≤ R.frames ∧ 8 + (6 + 11) + rm_X12_step.locals ≤ R.locals) (h : w_X12_step N x1 σ Q) (hK : va_K (dC, dI) vwCl (m_ty cI cJ cC) s) (hP : va_P (dC, dI) vwCl (m_W ad cI cJ cC σ) H) (hD : va_D (zAW m_n ad s.heap.size) (m_W ad cI cJ cC σ)) (hS : va_S (zAW m_n ad s.heap.size) s.heap H locs) (hsz : ls.size = nL) (hW : (rest.map fun v => v.category).sum ≤ 8) (hcs : cells ≤ R.cells ∧ slots ≤ R.slots) (hdg : decode cc pc = .ok (.invokevirtual index, 3)) (kk : ∀ (r : Int32) (τ : zSt) (H1 : Heap) (locs1 : List Loc), Q r τ → va_P (dC, dI) vwCl (m_W ad cI cJ cC τ) H1 → va_D (zAW m_n ad s.heap.size) (m_W ad cI cJ cC τ) → va_S (zAW m_n ad s.heap.size) s.heap H1 locs1 → W p l e R s m args below meth c H1 locs1 cells slots Q2 (F0 m (pc + 3) ls (.int r :: rest))) : W p l e R s m args below meth c H locs cells slots Q2 (F0 m pc ls (.int x1 :: .ref (ad 0) :: rest)) :=
  zcv_i (T := TX12) (N' := 83) (k := 0) (ci := 12) (fs := m_f0 ad σ) [.int x1] S0 (c_X12_step N l dC dI ad cI cJ cC H.size σ x1 Q h) (cw_X12_step S0.2.2.2.2 hml rfl rfl hR) rfl rfl hK hP hD hS rfl hsz hW rfl hcs hdg kk
end q23
section q23
def b_X12_firstStep_7 (N : Nat) (k_7 : Int64 → Int32 → zSt → Prop) (Q : Int32 → zSt → Prop) (x1 : Int64) (x3 : Int32) (σ : zSt) : Prop :=
  w_X12_pairs N σ (fun r1 τ2 => (r1 ≤ x3 → Q (-1 : Int32) τ2) ∧ (¬ r1 ≤ x3 → w_X12_isStep N x1 x3 τ2 (fun r3 τ4 => (r3 = 0 → ∀ v5 : Int32, v5 = x3 + (1 : Int32) → k_7 x1 v5 τ4) ∧ (¬ r3 = 0 → Q x3 τ4))))
def w_X12_firstStep_7 (N : Nat) (Q : Int32 → zSt → Prop) : Nat → Int64 → Int32 → zSt → Prop
  | 0 => fun _ _ _ => False
  | f + 1 => b_X12_firstStep_7 N (w_X12_firstStep_7 N  Q f) Q
def w_X12_firstStep (N : Nat) (x1 : Int64) (σ : zSt) (Q : Int32 → zSt → Prop) : Prop :=
  w_X12_begins N x1 σ (fun τ2 => w_X12_firstStep_7 N Q N x1 (0 : Int32) τ2)
variable {p : Program} {l : Launch} {e : Env} {s : State} {m : MethodId} {args : Array Value} {below : List Frame} {meth : Method} {c : Code} {dC : Nat → ClassId} {dI : Nat → Nat → Nat} {ad : Nat → Nat} {cI cJ cC : ClassId}
set_option maxHeartbeats 4000000 in
set_option maxRecDepth 100000 in
theorem tb_X12_firstStep_7 (C0 : zCx p s m meth c args RX12 cX12_firstStep 4 (some .int) vs_X12_firstStep) (hK : va_K (dC, dI) vwCl (m_ty cI cJ cC) s) (N : Nat) {Q : Int32 → zSt → Prop} {k_7 : Int64 → Int32 → zSt → Prop} (hk_7 : ∀ (x1 : Int64) (x3 : Int32) (σ : zSt) (H : Heap) (locs : List Loc) (ls : Array Slot), k_7 x1 x3 σ → va_P (dC, dI) vwCl (m_W ad cI cJ cC σ) H → va_D (zAW m_n ad s.heap.size) (m_W ad cI cJ cC σ) → va_S (zAW m_n ad s.heap.size) s.heap H locs → lv_has ls 4 [(0, .ref (ad 0)), (1, .long x1), (3, .int x3)] → W p l e rm_X12_firstStep s m args below meth c H locs 0 0 (MQ below (zQi (dC, dI) (m_ty cI cJ cC) (m_W ad cI cJ cC) (zAW m_n ad s.heap.size) Q) args s 0 0 (zAW m_n ad s.heap.size)) (F0 m 7 ls [])) : ∀ (x1 : Int64) (x3 : Int32) (σ : zSt) (H : Heap) (locs : List Loc) (ls : Array Slot), b_X12_firstStep_7 N k_7 Q x1 x3 σ → va_P (dC, dI) vwCl (m_W ad cI cJ cC σ) H → va_D (zAW m_n ad s.heap.size) (m_W ad cI cJ cC σ) → va_S (zAW m_n ad s.heap.size) s.heap H locs → lv_has ls 4 [(0, .ref (ad 0)), (1, .long x1), (3, .int x3)] → W p l e rm_X12_firstStep s m args below meth c H locs 0 0 (MQ below (zQi (dC, dI) (m_ty cI cJ cC) (m_W ad cI cJ cC) (zAW m_n ad s.heap.size) Q) args s 0 0 (zAW m_n ad s.heap.size)) (F0 m 7 ls []) := by
  obtain ⟨hx, hb, hml, hr, hown, hts, hlocks⟩ := id C0
  intro x1 x3 σ H locs ls h hP hD hS hl
  unfold b_X12_firstStep_7 at h
  refine lv_iload_n hx hb dX12_firstStep_7 rfl (lv_at hl 2 rfl) ?_
  refine lv_aload_n hx hb dX12_firstStep_8 rfl (lv_at hl 0 rfl) ?_
  refine k_X12_pairs N ⟨hx, hb, hml, hown, hts⟩ mw_1047 ⟨Nat.le_of_ble_eq_true rfl, Nat.le_of_ble_eq_true rfl⟩ h hK hP hD hS hl.1 (rest := [.int x3]) (Nat.le_of_ble_eq_true rfl) ⟨Nat.le_of_ble_eq_true rfl, Nat.le_of_ble_eq_true rfl⟩ dX12_firstStep_9 (fun r1 τ2 H locs h hP hD hS => ?_)
  refine lv_icmp_ge (tgt := 32) hx hb dX12_firstStep_12 (by decide) (fun hc => ?_) (fun hc => ?_)
  · have h := h.1 hc
    refine lv_iconst (v := (-1 : Int32)) hx hb dX12_firstStep_32 (by decide) ?_
    exact zret_i hx hb hr hlocks hK hP hD hS h dX12_firstStep_33
  · have h := h.2 hc
    refine lv_aload_n hx hb dX12_firstStep_15 rfl (lv_at hl 0 rfl) ?_
    refine lv_lload_n hx hb dX12_firstStep_16 rfl (lv_at hl 1 rfl) ?_
    refine lv_iload_n hx hb dX12_firstStep_17 rfl (lv_at hl 2 rfl) ?_
    refine k_X12_isStep N ⟨hx, hb, hml, hown, hts⟩ mw_1201 ⟨Nat.le_of_ble_eq_true rfl, Nat.le_of_ble_eq_true rfl⟩ h hK hP hD hS hl.1 (rest := []) (Nat.le_of_ble_eq_true rfl) ⟨Nat.le_of_ble_eq_true rfl, Nat.le_of_ble_eq_true rfl⟩ dX12_firstStep_18 (fun r3 τ4 H locs h hP hD hS => ?_)
    refine lv_if_eq (tgt := 26) hx hb dX12_firstStep_21 (by decide) (fun hc => ?_) (fun hc => ?_)
    · have h := h.1 hc
      obtain ⟨v5, ev5⟩ : ∃ z : Int32, z = x3 + (1 : Int32) := ⟨_, rfl⟩
      have h := h v5 ev5
      refine lv_iinc (v := v5) (lv' := [(3, .int v5), (0, .ref (ad 0)), (1, .long x1)]) hx hb dX12_firstStep_26 hl (k := 2) rfl (by rw [ev5]; rfl) (by decide) rfl (fun ls hl => ?_)
      refine lv_goto (tgt := 7) hx hb dX12_firstStep_29 (by decide) ?_
      exact hk_7 x1 v5 τ4 _ _ _ h hP hD hS (lv_sub hl [1, 2, 0] rfl)
    · have h := h.2 hc
      refine lv_iload_n hx hb dX12_firstStep_24 rfl (lv_at hl 2 rfl) ?_
      exact zret_i hx hb hr hlocks hK hP hD hS h dX12_firstStep_25
set_option maxHeartbeats 4000000 in
set_option maxRecDepth 100000 in
theorem t_X12_firstStep_7 (C0 : zCx p s m meth c args RX12 cX12_firstStep 4 (some .int) vs_X12_firstStep) (hK : va_K (dC, dI) vwCl (m_ty cI cJ cC) s) (N : Nat) {Q : Int32 → zSt → Prop} : ∀ (f : Nat) (x1 : Int64) (x3 : Int32) (σ : zSt) (H : Heap) (locs : List Loc) (ls : Array Slot), w_X12_firstStep_7 N  Q f x1 x3 σ → va_P (dC, dI) vwCl (m_W ad cI cJ cC σ) H → va_D (zAW m_n ad s.heap.size) (m_W ad cI cJ cC σ) → va_S (zAW m_n ad s.heap.size) s.heap H locs → lv_has ls 4 [(0, .ref (ad 0)), (1, .long x1), (3, .int x3)] → W p l e rm_X12_firstStep s m args below meth c H locs 0 0 (MQ below (zQi (dC, dI) (m_ty cI cJ cC) (m_W ad cI cJ cC) (zAW m_n ad s.heap.size) Q) args s 0 0 (zAW m_n ad s.heap.size)) (F0 m 7 ls []) := by
  intro f
  induction f with
  | zero => intro x1 x3 σ H locs ls h; exact h.elim
  | succ f ih =>
    intro x1 x3 σ H locs ls h hP hD hS hl
    exact tb_X12_firstStep_7 C0 hK N  (k_7 := w_X12_firstStep_7 N  Q f) ih x1 x3 σ H locs ls h hP hD hS hl
set_option maxHeartbeats 4000000 in
set_option maxRecDepth 100000 in
theorem t_X12_firstStep_0 (C0 : zCx p s m meth c args RX12 cX12_firstStep 4 (some .int) vs_X12_firstStep) (hK : va_K (dC, dI) vwCl (m_ty cI cJ cC) s) (N : Nat) {Q : Int32 → zSt → Prop} : ∀ (x1 : Int64) (σ : zSt) (H : Heap) (locs : List Loc) (ls : Array Slot), w_X12_firstStep N x1 σ Q → va_P (dC, dI) vwCl (m_W ad cI cJ cC σ) H → va_D (zAW m_n ad s.heap.size) (m_W ad cI cJ cC σ) → va_S (zAW m_n ad s.heap.size) s.heap H locs → lv_has ls 4 [(0, .ref (ad 0)), (1, .long x1)] → W p l e rm_X12_firstStep s m args below meth c H locs 0 0 (MQ below (zQi (dC, dI) (m_ty cI cJ cC) (m_W ad cI cJ cC) (zAW m_n ad s.heap.size) Q) args s 0 0 (zAW m_n ad s.heap.size)) (F0 m 0 ls []) := by
  obtain ⟨hx, hb, hml, hr, hown, hts, hlocks⟩ := id C0
  intro x1 σ H locs ls h hP hD hS hl
  unfold w_X12_firstStep at h
  refine lv_aload_n hx hb dX12_firstStep_0 rfl (lv_at hl 0 rfl) ?_
  refine lv_lload_n hx hb dX12_firstStep_1 rfl (lv_at hl 1 rfl) ?_
  refine k_X12_begins N ⟨hx, hb, hml, hown, hts⟩ mw_1148 ⟨Nat.le_of_ble_eq_true rfl, Nat.le_of_ble_eq_true rfl⟩ h hK hP hD hS hl.1 (rest := []) (Nat.le_of_ble_eq_true rfl) ⟨Nat.le_of_ble_eq_true rfl, Nat.le_of_ble_eq_true rfl⟩ dX12_firstStep_2 (fun τ2 H locs h hP hD hS => ?_)
  refine lv_iconst (v := (0 : Int32)) hx hb dX12_firstStep_5 (by decide) ?_
  refine lv_istore_n (lv' := [(3, .int (0 : Int32)), (0, .ref (ad 0)), (1, .long x1)]) hx hb dX12_firstStep_6 rfl hl (by decide) rfl (fun ls hl => ?_)
  exact t_X12_firstStep_7 C0 hK N  N x1 (0 : Int32) τ2 _ _ _ h hP hD hS (lv_sub hl [1, 2, 0] rfl)
set_option maxHeartbeats 4000000 in
set_option maxRecDepth 100000 in
theorem c_X12_firstStep (N : Nat) (l : Launch) (dC : Nat → ClassId) (dI : Nat → Nat → Nat) (ad : Nat → Nat) (cI cJ cC : ClassId) (sz : Nat) (σ : zSt) (x1 : Int64) (Q : Int32 → zSt → Prop) (h : w_X12_firstStep N x1 σ Q) : Met l yX12_firstStep vs_X12_firstStep rm_X12_firstStep (va_Pc [.ref (ad 0), .long x1] (zPc (dC, dI) (m_ty cI cJ cC) (m_W ad cI cJ cC) sz σ)) (zQi (dC, dI) (m_ty cI cJ cC) (m_W ad cI cJ cC) (zAW m_n ad sz) Q) 0 0 (zAW m_n ad sz) := by
  refine Met.ofW (cc := cX12_firstStep) (maxL := 4) (ret := (some .int)) (by decide) rfl ?_
  intro p e s m args below meth c s₁ B hml hv
  obtain ⟨rfl, hsz, hP, hK, hD0⟩ := hv
  subst hsz
  have C0 : zCx p s m meth c _ RX12 cX12_firstStep 4 (some .int) vs_X12_firstStep := ⟨B.exec, B.bytes, hml, B.returns, findClass_of_methodNamed B.named, atoms_spec (ws := vs_X12_firstStep) B.pre, B.notSynchronized⟩
  have hD := m_D0 (n0 := s.heap.size) hD0
  have hl := lv_entry ([.ref (ad 0), .long x1]) (n := 4) (Nat.le_of_ble_eq_true rfl)
  rw [lg_entry_eq]
  generalize (lg_sl ([.ref (ad 0), .long x1]) ++ List.replicate (4 - (lg_sl ([.ref (ad 0), .long x1])).length) Slot.unset).toArray = ls at hl ⊢
  exact t_X12_firstStep_0 C0 hK N x1 σ _ _ ls h hP hD va_S.rf hl
theorem k_X12_firstStep (N : Nat) {R : Room} {H : Heap} {locs : List Loc} {cells slots : Nat} {Q2 : State → Prop} {cc : ByteArray} {nL pc index : Nat} {ls : Array Slot} {rest : List Value} {own : String} {c0 : Cond} {σ : zSt} {x1 : Int64} {Q : Int32 → zSt → Prop} (S0 : CallFix p m c cc nL s args (c0 :: zT) own) (hml : Cond.methodLink own index yX12_firstStep ∈ zT) (hR : rm_X12_firstStep.frames + 1 ≤ R.frames ∧ 8 + (4 + 11) + rm_X12_firstStep.locals ≤ R.locals) (h : w_X12_firstStep N x1 σ Q) (hK : va_K (dC, dI) vwCl (m_ty cI cJ cC) s) (hP : va_P (dC, dI) vwCl (m_W ad cI cJ cC σ) H) (hD : va_D (zAW m_n ad s.heap.size) (m_W ad cI cJ cC σ)) (hS : va_S (zAW m_n ad s.heap.size) s.heap H locs) (hsz : ls.size = nL) (hW : (rest.map fun v => v.category).sum ≤ 8) (hcs : cells ≤ R.cells ∧ slots ≤ R.slots) (hdg : decode cc pc = .ok (.invokevirtual index, 3)) (kk : ∀ (r : Int32) (τ : zSt) (H1 : Heap) (locs1 : List Loc), Q r τ → va_P (dC, dI) vwCl (m_W ad cI cJ cC τ) H1 → va_D (zAW m_n ad s.heap.size) (m_W ad cI cJ cC τ) → va_S (zAW m_n ad s.heap.size) s.heap H1 locs1 → W p l e R s m args below meth c H1 locs1 cells slots Q2 (F0 m (pc + 3) ls (.int r :: rest))) : W p l e R s m args below meth c H locs cells slots Q2 (F0 m pc ls (.long x1 :: .ref (ad 0) :: rest)) :=
  zcv_i (T := TX12) (N' := 83) (k := 0) (ci := 12) (fs := m_f0 ad σ) [.long x1] S0 (c_X12_firstStep N l dC dI ad cI cJ cC H.size σ x1 Q h) (cw_X12_firstStep S0.2.2.2.2 hml rfl rfl hR) rfl rfl hK hP hD hS rfl hsz hW rfl hcs hdg kk
end q23
section q23
def b_X12_goesFrom_69 (N : Nat) (k_19 : Int32 → zSt → Prop) (k_69 : Int32 → Int32 → zSt → Prop) (Q : Int32 → zSt → Prop) (x3 : Int32) (x5 : Int32) (σ : zSt) : Prop :=
  (x3 < x5 → ((σ.1 24) = (-1 : Int32) → (vp_in (x3 + (1 : Int32)) 201) ∧ (∀ τ1 : zSt, τ1 = zB σ 5 (vp_updL (σ.2.2.2 5) ((x3 + (1 : Int32)).toNatClampNeg) (σ.2.1 4)) → ∀ v2 : Int32, v2 = x3 + (1 : Int32) → k_19 v2 τ1)) ∧ (¬ (σ.1 24) = (-1 : Int32) → Q (x3 + (1 : Int32)) σ)) ∧ (¬ x3 < x5 → (vp_in x5 201) ∧ (((lg_cmp (σ.2.2.2 5 x5.toNatClampNeg) (σ.2.1 4)) = 0 → ∀ τ4 : zSt, τ4 = zI σ 24 x5 → ∀ v5 : Int32, v5 = x5 + (1 : Int32) → k_69 x3 v5 τ4) ∧ (¬ (lg_cmp (σ.2.2.2 5 x5.toNatClampNeg) (σ.2.1 4)) = 0 → ∀ v3 : Int32, v3 = x5 + (1 : Int32) → k_69 x3 v3 σ)))
def w_X12_goesFrom_69 (N : Nat) (k_19 : Int32 → zSt → Prop) (Q : Int32 → zSt → Prop) : Nat → Int32 → Int32 → zSt → Prop
  | 0 => fun _ _ _ => False
  | f + 1 => b_X12_goesFrom_69 N k_19 (w_X12_goesFrom_69 N k_19 Q f) Q
def b_X12_goesFrom_19 (N : Nat) (k_19 : Int32 → zSt → Prop) (Q : Int32 → zSt → Prop) (x3 : Int32) (σ : zSt) : Prop :=
  ((200 : Int32) < x3 → Q (-1 : Int32) σ) ∧ (¬ (200 : Int32) < x3 → w_X12_firstStep N (σ.2.1 4) σ (fun r1 τ2 => (r1 = (-1 : Int32) → Q x3 τ2) ∧ (¬ r1 = (-1 : Int32) → (x3 = (200 : Int32) → Q (-1 : Int32) τ2) ∧ (¬ x3 = (200 : Int32) → ∀ τ3 : zSt, τ3 = zJ τ2 4 ((τ2.2.1 4) ^^^ ((1 : Int64) <<< (r1.toInt64 &&& 63))) → w_X12_goesFrom_69 N k_19 Q N x3 (0 : Int32) τ3))))
def w_X12_goesFrom_19 (N : Nat) (Q : Int32 → zSt → Prop) : Nat → Int32 → zSt → Prop
  | 0 => fun _ _ => False
  | f + 1 => b_X12_goesFrom_19 N (w_X12_goesFrom_19 N  Q f) Q
def w_X12_goesFrom (N : Nat) (x1 : Int64) (σ : zSt) (Q : Int32 → zSt → Prop) : Prop :=
  ∀ τ1 : zSt, τ1 = zJ σ 4 x1 → ∀ τ2 : zSt, τ2 = zI τ1 24 (-1 : Int32) → ∀ τ3 : zSt, τ3 = zB τ2 5 (vp_updL (τ2.2.2.2 5) 0 x1) → w_X12_goesFrom_19 N Q N (0 : Int32) τ3
variable {p : Program} {l : Launch} {e : Env} {s : State} {m : MethodId} {args : Array Value} {below : List Frame} {meth : Method} {c : Code} {dC : Nat → ClassId} {dI : Nat → Nat → Nat} {ad : Nat → Nat} {cI cJ cC : ClassId}
set_option maxHeartbeats 4000000 in
set_option maxRecDepth 100000 in
theorem tb_X12_goesFrom_69 (C0 : zCx p s m meth c args RX12 cX12_goesFrom 6 (some .int) vs_X12_goesFrom) (hK : va_K (dC, dI) vwCl (m_ty cI cJ cC) s) (N : Nat) {Q : Int32 → zSt → Prop} {k_19 : Int32 → zSt → Prop} (hk_19 : ∀ (x3 : Int32) (σ : zSt) (H : Heap) (locs : List Loc) (ls : Array Slot), k_19 x3 σ → va_P (dC, dI) vwCl (m_W ad cI cJ cC σ) H → va_D (zAW m_n ad s.heap.size) (m_W ad cI cJ cC σ) → va_S (zAW m_n ad s.heap.size) s.heap H locs → lv_has ls 6 [(0, .ref (ad 0)), (3, .int x3)] → W p l e rm_X12_goesFrom s m args below meth c H locs 0 0 (MQ below (zQi (dC, dI) (m_ty cI cJ cC) (m_W ad cI cJ cC) (zAW m_n ad s.heap.size) Q) args s 0 0 (zAW m_n ad s.heap.size)) (F0 m 19 ls [])) {k_69 : Int32 → Int32 → zSt → Prop} (hk_69 : ∀ (x3 : Int32) (x5 : Int32) (σ : zSt) (H : Heap) (locs : List Loc) (ls : Array Slot), k_69 x3 x5 σ → va_P (dC, dI) vwCl (m_W ad cI cJ cC σ) H → va_D (zAW m_n ad s.heap.size) (m_W ad cI cJ cC σ) → va_S (zAW m_n ad s.heap.size) s.heap H locs → lv_has ls 6 [(0, .ref (ad 0)), (3, .int x3), (5, .int x5)] → W p l e rm_X12_goesFrom s m args below meth c H locs 0 0 (MQ below (zQi (dC, dI) (m_ty cI cJ cC) (m_W ad cI cJ cC) (zAW m_n ad s.heap.size) Q) args s 0 0 (zAW m_n ad s.heap.size)) (F0 m 69 ls [])) : ∀ (x3 : Int32) (x5 : Int32) (σ : zSt) (H : Heap) (locs : List Loc) (ls : Array Slot), b_X12_goesFrom_69 N k_19 k_69 Q x3 x5 σ → va_P (dC, dI) vwCl (m_W ad cI cJ cC σ) H → va_D (zAW m_n ad s.heap.size) (m_W ad cI cJ cC σ) → va_S (zAW m_n ad s.heap.size) s.heap H locs → lv_has ls 6 [(0, .ref (ad 0)), (3, .int x3), (5, .int x5)] → W p l e rm_X12_goesFrom s m args below meth c H locs 0 0 (MQ below (zQi (dC, dI) (m_ty cI cJ cC) (m_W ad cI cJ cC) (zAW m_n ad s.heap.size) Q) args s 0 0 (zAW m_n ad s.heap.size)) (F0 m 69 ls []) := by
  obtain ⟨hx, hb, hml, hr, hown, hts, hlocks⟩ := id C0
  intro x3 x5 σ H locs ls h hP hD hS hl
  unfold b_X12_goesFrom_69 at h
  refine lv_iload hx hb dX12_goesFrom_69 (lv_at hl 2 rfl) ?_
  refine lv_iload_n hx hb dX12_goesFrom_71 rfl (lv_at hl 1 rfl) ?_
  refine lv_icmp_gt (tgt := 102) hx hb dX12_goesFrom_72 (by decide) (fun hc => ?_) (fun hc => ?_)
  · have h := h.1 hc
    refine lv_aload_n hx hb dX12_goesFrom_102 rfl (lv_at hl 0 rfl) ?_
    refine mg_0_69 hx hb hts hown hK hP mw_902 dX12_goesFrom_103 ?_
    refine lv_iconst (v := (-1 : Int32)) hx hb dX12_goesFrom_106 (by decide) ?_
    refine lv_icmp_eq (tgt := 114) hx hb dX12_goesFrom_107 (by decide) (fun hc => ?_) (fun hc => ?_)
    · have h := h.1 hc
      refine lv_aload_n hx hb dX12_goesFrom_114 rfl (lv_at hl 0 rfl) ?_
      refine mg_0_67 hx hb hts hown hK hP mw_900 dX12_goesFrom_115 ?_
      refine lv_iload_n hx hb dX12_goesFrom_118 rfl (lv_at hl 1 rfl) ?_
      refine lv_iconst (v := (1 : Int32)) hx hb dX12_goesFrom_119 (by decide) ?_
      refine lv_iadd hx hb dX12_goesFrom_120 ?_
      refine lv_aload_n hx hb dX12_goesFrom_121 rfl (lv_at hl 0 rfl) ?_
      refine mg_0_68 hx hb hts hown hK hP mw_901 dX12_goesFrom_122 ?_
      refine ms_21 hx hb hK hP hD hS h.1 rfl dX12_goesFrom_125 (fun τ1 H locs eτ1 hP hD hS => ?_)
      have h := h.2
      have h := h τ1 eτ1
      obtain ⟨v2, ev2⟩ : ∃ z : Int32, z = x3 + (1 : Int32) := ⟨_, rfl⟩
      have h := h v2 ev2
      refine lv_iinc (v := v2) (lv' := [(3, .int v2), (0, .ref (ad 0)), (5, .int x5)]) hx hb dX12_goesFrom_126 hl (k := 1) rfl (by rw [ev2]; rfl) (by decide) rfl (fun ls hl => ?_)
      refine lv_goto (tgt := 19) hx hb dX12_goesFrom_129 (by decide) ?_
      exact hk_19 v2 τ1 _ _ _ h hP hD hS (lv_sub hl [1, 0] rfl)
    · have h := h.2 hc
      refine lv_iload_n hx hb dX12_goesFrom_110 rfl (lv_at hl 1 rfl) ?_
      refine lv_iconst (v := (1 : Int32)) hx hb dX12_goesFrom_111 (by decide) ?_
      refine lv_iadd hx hb dX12_goesFrom_112 ?_
      exact zret_i hx hb hr hlocks hK hP hD hS h dX12_goesFrom_113
  · have h := h.2 hc
    refine lv_aload_n hx hb dX12_goesFrom_75 rfl (lv_at hl 0 rfl) ?_
    refine mg_0_67 hx hb hts hown hK hP mw_900 dX12_goesFrom_76 ?_
    refine lv_iload hx hb dX12_goesFrom_79 (lv_at hl 2 rfl) ?_
    refine ma_21 hx hb hK hP h.1 rfl dX12_goesFrom_81 ?_
    have h := h.2
    refine lv_aload_n hx hb dX12_goesFrom_82 rfl (lv_at hl 0 rfl) ?_
    refine mg_0_68 hx hb hts hown hK hP mw_901 dX12_goesFrom_83 ?_
    refine W.lcmp hx hb dX12_goesFrom_86 ?_
    refine lv_if_ne (tgt := 96) hx hb dX12_goesFrom_87 (by decide) (fun hc => ?_) (fun hc => ?_)
    · have h := h.2 hc
      obtain ⟨v3, ev3⟩ : ∃ z : Int32, z = x5 + (1 : Int32) := ⟨_, rfl⟩
      have h := h v3 ev3
      refine lv_iinc (v := v3) (lv' := [(5, .int v3), (0, .ref (ad 0)), (3, .int x3)]) hx hb dX12_goesFrom_96 hl (k := 2) rfl (by rw [ev3]; rfl) (by decide) rfl (fun ls hl => ?_)
      refine lv_goto (tgt := 69) hx hb dX12_goesFrom_99 (by decide) ?_
      exact hk_69 x3 v3 σ _ _ _ h hP hD hS (lv_sub hl [1, 2, 0] rfl)
    · have h := h.1 hc
      refine lv_aload_n hx hb dX12_goesFrom_90 rfl (lv_at hl 0 rfl) ?_
      refine lv_iload hx hb dX12_goesFrom_91 (lv_at hl 2 rfl) ?_
      refine mp_0_69 hx hb hts hown hK hP hD hS mw_902 dX12_goesFrom_93 (fun τ4 H locs eτ4 hP hD hS => ?_)
      have h := h τ4 eτ4
      obtain ⟨v5, ev5⟩ : ∃ z : Int32, z = x5 + (1 : Int32) := ⟨_, rfl⟩
      have h := h v5 ev5
      refine lv_iinc (v := v5) (lv' := [(5, .int v5), (0, .ref (ad 0)), (3, .int x3)]) hx hb dX12_goesFrom_96 hl (k := 2) rfl (by rw [ev5]; rfl) (by decide) rfl (fun ls hl => ?_)
      refine lv_goto (tgt := 69) hx hb dX12_goesFrom_99 (by decide) ?_
      exact hk_69 x3 v5 τ4 _ _ _ h hP hD hS (lv_sub hl [1, 2, 0] rfl)
set_option maxHeartbeats 4000000 in
set_option maxRecDepth 100000 in
theorem t_X12_goesFrom_69 (C0 : zCx p s m meth c args RX12 cX12_goesFrom 6 (some .int) vs_X12_goesFrom) (hK : va_K (dC, dI) vwCl (m_ty cI cJ cC) s) (N : Nat) {Q : Int32 → zSt → Prop} {k_19 : Int32 → zSt → Prop} (hk_19 : ∀ (x3 : Int32) (σ : zSt) (H : Heap) (locs : List Loc) (ls : Array Slot), k_19 x3 σ → va_P (dC, dI) vwCl (m_W ad cI cJ cC σ) H → va_D (zAW m_n ad s.heap.size) (m_W ad cI cJ cC σ) → va_S (zAW m_n ad s.heap.size) s.heap H locs → lv_has ls 6 [(0, .ref (ad 0)), (3, .int x3)] → W p l e rm_X12_goesFrom s m args below meth c H locs 0 0 (MQ below (zQi (dC, dI) (m_ty cI cJ cC) (m_W ad cI cJ cC) (zAW m_n ad s.heap.size) Q) args s 0 0 (zAW m_n ad s.heap.size)) (F0 m 19 ls [])) : ∀ (f : Nat) (x3 : Int32) (x5 : Int32) (σ : zSt) (H : Heap) (locs : List Loc) (ls : Array Slot), w_X12_goesFrom_69 N k_19 Q f x3 x5 σ → va_P (dC, dI) vwCl (m_W ad cI cJ cC σ) H → va_D (zAW m_n ad s.heap.size) (m_W ad cI cJ cC σ) → va_S (zAW m_n ad s.heap.size) s.heap H locs → lv_has ls 6 [(0, .ref (ad 0)), (3, .int x3), (5, .int x5)] → W p l e rm_X12_goesFrom s m args below meth c H locs 0 0 (MQ below (zQi (dC, dI) (m_ty cI cJ cC) (m_W ad cI cJ cC) (zAW m_n ad s.heap.size) Q) args s 0 0 (zAW m_n ad s.heap.size)) (F0 m 69 ls []) := by
  intro f
  induction f with
  | zero => intro x3 x5 σ H locs ls h; exact h.elim
  | succ f ih =>
    intro x3 x5 σ H locs ls h hP hD hS hl
    exact tb_X12_goesFrom_69 C0 hK N hk_19 (k_69 := w_X12_goesFrom_69 N k_19 Q f) ih x3 x5 σ H locs ls h hP hD hS hl
set_option maxHeartbeats 4000000 in
set_option maxRecDepth 100000 in
theorem tb_X12_goesFrom_19 (C0 : zCx p s m meth c args RX12 cX12_goesFrom 6 (some .int) vs_X12_goesFrom) (hK : va_K (dC, dI) vwCl (m_ty cI cJ cC) s) (N : Nat) {Q : Int32 → zSt → Prop} {k_19 : Int32 → zSt → Prop} (hk_19 : ∀ (x3 : Int32) (σ : zSt) (H : Heap) (locs : List Loc) (ls : Array Slot), k_19 x3 σ → va_P (dC, dI) vwCl (m_W ad cI cJ cC σ) H → va_D (zAW m_n ad s.heap.size) (m_W ad cI cJ cC σ) → va_S (zAW m_n ad s.heap.size) s.heap H locs → lv_has ls 6 [(0, .ref (ad 0)), (3, .int x3)] → W p l e rm_X12_goesFrom s m args below meth c H locs 0 0 (MQ below (zQi (dC, dI) (m_ty cI cJ cC) (m_W ad cI cJ cC) (zAW m_n ad s.heap.size) Q) args s 0 0 (zAW m_n ad s.heap.size)) (F0 m 19 ls [])) : ∀ (x3 : Int32) (σ : zSt) (H : Heap) (locs : List Loc) (ls : Array Slot), b_X12_goesFrom_19 N k_19 Q x3 σ → va_P (dC, dI) vwCl (m_W ad cI cJ cC σ) H → va_D (zAW m_n ad s.heap.size) (m_W ad cI cJ cC σ) → va_S (zAW m_n ad s.heap.size) s.heap H locs → lv_has ls 6 [(0, .ref (ad 0)), (3, .int x3)] → W p l e rm_X12_goesFrom s m args below meth c H locs 0 0 (MQ below (zQi (dC, dI) (m_ty cI cJ cC) (m_W ad cI cJ cC) (zAW m_n ad s.heap.size) Q) args s 0 0 (zAW m_n ad s.heap.size)) (F0 m 19 ls []) := by
  obtain ⟨hx, hb, hml, hr, hown, hts, hlocks⟩ := id C0
  intro x3 σ H locs ls h hP hD hS hl
  unfold b_X12_goesFrom_19 at h
  refine lv_iload_n hx hb dX12_goesFrom_19 rfl (lv_at hl 1 rfl) ?_
  refine lv_sipush (v := (200 : Int32)) hx hb dX12_goesFrom_20 (by decide) ?_
  refine lv_icmp_gt (tgt := 132) hx hb dX12_goesFrom_23 (by decide) (fun hc => ?_) (fun hc => ?_)
  · have h := h.1 hc
    refine lv_iconst (v := (-1 : Int32)) hx hb dX12_goesFrom_132 (by decide) ?_
    exact zret_i hx hb hr hlocks hK hP hD hS h dX12_goesFrom_133
  · have h := h.2 hc
    refine lv_aload_n hx hb dX12_goesFrom_26 rfl (lv_at hl 0 rfl) ?_
    refine lv_aload_n hx hb dX12_goesFrom_27 rfl (lv_at hl 0 rfl) ?_
    refine mg_0_68 hx hb hts hown hK hP mw_901 dX12_goesFrom_28 ?_
    refine k_X12_firstStep N ⟨hx, hb, hml, hown, hts⟩ mw_1215 ⟨Nat.le_of_ble_eq_true rfl, Nat.le_of_ble_eq_true rfl⟩ h hK hP hD hS hl.1 (rest := []) (Nat.le_of_ble_eq_true rfl) ⟨Nat.le_of_ble_eq_true rfl, Nat.le_of_ble_eq_true rfl⟩ dX12_goesFrom_31 (fun r1 τ2 H locs h hP hD hS => ?_)
    refine lv_istore (lv' := [(4, .int r1), (0, .ref (ad 0)), (3, .int x3)]) hx hb dX12_goesFrom_34 hl (by decide) rfl (fun ls hl => ?_)
    refine lv_iload hx hb dX12_goesFrom_36 (lv_at hl 0 rfl) ?_
    refine lv_iconst (v := (-1 : Int32)) hx hb dX12_goesFrom_38 (by decide) ?_
    refine lv_icmp_ne (tgt := 44) hx hb dX12_goesFrom_39 (by decide) (fun hc => ?_) (fun hc => ?_)
    · have h := h.2 hc
      refine lv_iload_n hx hb dX12_goesFrom_44 rfl (lv_at hl 2 rfl) ?_
      refine lv_sipush (v := (200 : Int32)) hx hb dX12_goesFrom_45 (by decide) ?_
      refine lv_icmp_ne (tgt := 53) hx hb dX12_goesFrom_48 (by decide) (fun hc => ?_) (fun hc => ?_)
      · have h := h.2 hc
        refine lv_aload_n hx hb dX12_goesFrom_53 rfl (lv_at hl 1 rfl) ?_
        refine lv_dup hx hb dX12_goesFrom_54 rfl ?_
        refine mg_0_68 hx hb hts hown hK hP mw_901 dX12_goesFrom_55 ?_
        refine lv_lconst (v := (1 : Int64)) hx hb dX12_goesFrom_58 (by decide) ?_
        refine lv_iload hx hb dX12_goesFrom_59 (lv_at hl 0 rfl) ?_
        refine lv_lshl hx hb dX12_goesFrom_61 rfl ?_
        refine lv_lxor hx hb dX12_goesFrom_62 ?_
        refine mp_0_68 hx hb hts hown hK hP hD hS mw_901 dX12_goesFrom_63 (fun τ3 H locs eτ3 hP hD hS => ?_)
        have h := h τ3 eτ3
        refine lv_iconst (v := (0 : Int32)) hx hb dX12_goesFrom_66 (by decide) ?_
        refine lv_istore (lv' := [(5, .int (0 : Int32)), (4, .int r1), (0, .ref (ad 0)), (3, .int x3)]) hx hb dX12_goesFrom_67 hl (by decide) rfl (fun ls hl => ?_)
        exact t_X12_goesFrom_69 C0 hK N hk_19 N x3 (0 : Int32) τ3 _ _ _ h hP hD hS (lv_sub hl [2, 3, 0] rfl)
      · have h := h.1 hc
        refine lv_iconst (v := (-1 : Int32)) hx hb dX12_goesFrom_51 (by decide) ?_
        exact zret_i hx hb hr hlocks hK hP hD hS h dX12_goesFrom_52
    · have h := h.1 hc
      refine lv_iload_n hx hb dX12_goesFrom_42 rfl (lv_at hl 2 rfl) ?_
      exact zret_i hx hb hr hlocks hK hP hD hS h dX12_goesFrom_43
set_option maxHeartbeats 4000000 in
set_option maxRecDepth 100000 in
theorem t_X12_goesFrom_19 (C0 : zCx p s m meth c args RX12 cX12_goesFrom 6 (some .int) vs_X12_goesFrom) (hK : va_K (dC, dI) vwCl (m_ty cI cJ cC) s) (N : Nat) {Q : Int32 → zSt → Prop} : ∀ (f : Nat) (x3 : Int32) (σ : zSt) (H : Heap) (locs : List Loc) (ls : Array Slot), w_X12_goesFrom_19 N  Q f x3 σ → va_P (dC, dI) vwCl (m_W ad cI cJ cC σ) H → va_D (zAW m_n ad s.heap.size) (m_W ad cI cJ cC σ) → va_S (zAW m_n ad s.heap.size) s.heap H locs → lv_has ls 6 [(0, .ref (ad 0)), (3, .int x3)] → W p l e rm_X12_goesFrom s m args below meth c H locs 0 0 (MQ below (zQi (dC, dI) (m_ty cI cJ cC) (m_W ad cI cJ cC) (zAW m_n ad s.heap.size) Q) args s 0 0 (zAW m_n ad s.heap.size)) (F0 m 19 ls []) := by
  intro f
  induction f with
  | zero => intro x3 σ H locs ls h; exact h.elim
  | succ f ih =>
    intro x3 σ H locs ls h hP hD hS hl
    exact tb_X12_goesFrom_19 C0 hK N  (k_19 := w_X12_goesFrom_19 N  Q f) ih x3 σ H locs ls h hP hD hS hl
set_option maxHeartbeats 4000000 in
set_option maxRecDepth 100000 in
theorem t_X12_goesFrom_0 (C0 : zCx p s m meth c args RX12 cX12_goesFrom 6 (some .int) vs_X12_goesFrom) (hK : va_K (dC, dI) vwCl (m_ty cI cJ cC) s) (N : Nat) {Q : Int32 → zSt → Prop} : ∀ (x1 : Int64) (σ : zSt) (H : Heap) (locs : List Loc) (ls : Array Slot), w_X12_goesFrom N x1 σ Q → va_P (dC, dI) vwCl (m_W ad cI cJ cC σ) H → va_D (zAW m_n ad s.heap.size) (m_W ad cI cJ cC σ) → va_S (zAW m_n ad s.heap.size) s.heap H locs → lv_has ls 6 [(0, .ref (ad 0)), (1, .long x1)] → W p l e rm_X12_goesFrom s m args below meth c H locs 0 0 (MQ below (zQi (dC, dI) (m_ty cI cJ cC) (m_W ad cI cJ cC) (zAW m_n ad s.heap.size) Q) args s 0 0 (zAW m_n ad s.heap.size)) (F0 m 0 ls []) := by
  obtain ⟨hx, hb, hml, hr, hown, hts, hlocks⟩ := id C0
  intro x1 σ H locs ls h hP hD hS hl
  unfold w_X12_goesFrom at h
  refine lv_aload_n hx hb dX12_goesFrom_0 rfl (lv_at hl 0 rfl) ?_
  refine lv_lload_n hx hb dX12_goesFrom_1 rfl (lv_at hl 1 rfl) ?_
  refine mp_0_68 hx hb hts hown hK hP hD hS mw_901 dX12_goesFrom_2 (fun τ1 H locs eτ1 hP hD hS => ?_)
  have h := h τ1 eτ1
  refine lv_aload_n hx hb dX12_goesFrom_5 rfl (lv_at hl 0 rfl) ?_
  refine lv_iconst (v := (-1 : Int32)) hx hb dX12_goesFrom_6 (by decide) ?_
  refine mp_0_69 hx hb hts hown hK hP hD hS mw_902 dX12_goesFrom_7 (fun τ2 H locs eτ2 hP hD hS => ?_)
  have h := h τ2 eτ2
  refine lv_aload_n hx hb dX12_goesFrom_10 rfl (lv_at hl 0 rfl) ?_
  refine mg_0_67 hx hb hts hown hK hP mw_900 dX12_goesFrom_11 ?_
  refine lv_iconst (v := (0 : Int32)) hx hb dX12_goesFrom_14 (by decide) ?_
  refine lv_lload_n hx hb dX12_goesFrom_15 rfl (lv_at hl 1 rfl) ?_
  refine ms_21 (j := 0) hx hb hK hP hD hS (zin (by decide)) (by decide) dX12_goesFrom_16 (fun τ3 H locs eτ3 hP hD hS => ?_)
  have h := h τ3 eτ3
  refine lv_iconst (v := (0 : Int32)) hx hb dX12_goesFrom_17 (by decide) ?_
  refine lv_istore_n (lv' := [(3, .int (0 : Int32)), (0, .ref (ad 0)), (1, .long x1)]) hx hb dX12_goesFrom_18 rfl hl (by decide) rfl (fun ls hl => ?_)
  exact t_X12_goesFrom_19 C0 hK N  N (0 : Int32) τ3 _ _ _ h hP hD hS (lv_sub hl [1, 0] rfl)
set_option maxHeartbeats 4000000 in
set_option maxRecDepth 100000 in
theorem c_X12_goesFrom (N : Nat) (l : Launch) (dC : Nat → ClassId) (dI : Nat → Nat → Nat) (ad : Nat → Nat) (cI cJ cC : ClassId) (sz : Nat) (σ : zSt) (x1 : Int64) (Q : Int32 → zSt → Prop) (h : w_X12_goesFrom N x1 σ Q) : Met l yX12_goesFrom vs_X12_goesFrom rm_X12_goesFrom (va_Pc [.ref (ad 0), .long x1] (zPc (dC, dI) (m_ty cI cJ cC) (m_W ad cI cJ cC) sz σ)) (zQi (dC, dI) (m_ty cI cJ cC) (m_W ad cI cJ cC) (zAW m_n ad sz) Q) 0 0 (zAW m_n ad sz) := by
  refine Met.ofW (cc := cX12_goesFrom) (maxL := 6) (ret := (some .int)) (by decide) rfl ?_
  intro p e s m args below meth c s₁ B hml hv
  obtain ⟨rfl, hsz, hP, hK, hD0⟩ := hv
  subst hsz
  have C0 : zCx p s m meth c _ RX12 cX12_goesFrom 6 (some .int) vs_X12_goesFrom := ⟨B.exec, B.bytes, hml, B.returns, findClass_of_methodNamed B.named, atoms_spec (ws := vs_X12_goesFrom) B.pre, B.notSynchronized⟩
  have hD := m_D0 (n0 := s.heap.size) hD0
  have hl := lv_entry ([.ref (ad 0), .long x1]) (n := 6) (Nat.le_of_ble_eq_true rfl)
  rw [lg_entry_eq]
  generalize (lg_sl ([.ref (ad 0), .long x1]) ++ List.replicate (6 - (lg_sl ([.ref (ad 0), .long x1])).length) Slot.unset).toArray = ls at hl ⊢
  exact t_X12_goesFrom_0 C0 hK N x1 σ _ _ ls h hP hD va_S.rf hl
theorem k_X12_goesFrom (N : Nat) {R : Room} {H : Heap} {locs : List Loc} {cells slots : Nat} {Q2 : State → Prop} {cc : ByteArray} {nL pc index : Nat} {ls : Array Slot} {rest : List Value} {own : String} {c0 : Cond} {σ : zSt} {x1 : Int64} {Q : Int32 → zSt → Prop} (S0 : CallFix p m c cc nL s args (c0 :: zT) own) (hml : Cond.methodLink own index yX12_goesFrom ∈ zT) (hR : rm_X12_goesFrom.frames + 1 ≤ R.frames ∧ 8 + (6 + 11) + rm_X12_goesFrom.locals ≤ R.locals) (h : w_X12_goesFrom N x1 σ Q) (hK : va_K (dC, dI) vwCl (m_ty cI cJ cC) s) (hP : va_P (dC, dI) vwCl (m_W ad cI cJ cC σ) H) (hD : va_D (zAW m_n ad s.heap.size) (m_W ad cI cJ cC σ)) (hS : va_S (zAW m_n ad s.heap.size) s.heap H locs) (hsz : ls.size = nL) (hW : (rest.map fun v => v.category).sum ≤ 8) (hcs : cells ≤ R.cells ∧ slots ≤ R.slots) (hdg : decode cc pc = .ok (.invokevirtual index, 3)) (kk : ∀ (r : Int32) (τ : zSt) (H1 : Heap) (locs1 : List Loc), Q r τ → va_P (dC, dI) vwCl (m_W ad cI cJ cC τ) H1 → va_D (zAW m_n ad s.heap.size) (m_W ad cI cJ cC τ) → va_S (zAW m_n ad s.heap.size) s.heap H1 locs1 → W p l e R s m args below meth c H1 locs1 cells slots Q2 (F0 m (pc + 3) ls (.int r :: rest))) : W p l e R s m args below meth c H locs cells slots Q2 (F0 m pc ls (.long x1 :: .ref (ad 0) :: rest)) :=
  zcv_i (T := TX12) (N' := 83) (k := 0) (ci := 12) (fs := m_f0 ad σ) [.long x1] S0 (c_X12_goesFrom N l dC dI ad cI cJ cC H.size σ x1 Q h) (cw_X12_goesFrom S0.2.2.2.2 hml rfl rfl hR) rfl rfl hK hP hD hS rfl hsz hW rfl hcs hdg kk
end q23
section q23
def b_X12_go_84 (N : Nat) (k_53 : Int32 → Int32 → zSt → Prop) (Q : Int32 → zSt → Prop) (x1 : Int32) (x2 : Int32) (σ : zSt) : Prop :=
  (vp_in ((σ.1 24) + x2) 201) ∧ (∀ τ1 : zSt, τ1 = zJ σ 5 (σ.2.2.2 5 ((σ.1 24) + x2).toNatClampNeg) → ∀ v2 : Int32, v2 = x2 + (1 : Int32) → k_53 x1 v2 τ1)
def b_X12_go_53 (N : Nat) (k_53 : Int32 → Int32 → zSt → Prop) (Q : Int32 → zSt → Prop) (x1 : Int32) (x2 : Int32) (σ : zSt) : Prop :=
  ((σ.1 26) ≤ x2 → Q x1 σ) ∧ (¬ (σ.1 26) ≤ x2 → (x2 = 0 → b_X12_go_84 N k_53 Q x1 x2 σ) ∧ (¬ x2 = 0 → (vp_in ((σ.1 24) + x2) 201) ∧ ((0 ≤ (lg_cmp (σ.2.2.2 5 ((σ.1 24) + x2).toNatClampNeg) (σ.2.1 5)) → ∀ v1 : Int32, v1 = x2 + (1 : Int32) → k_53 x1 v1 σ) ∧ (¬ 0 ≤ (lg_cmp (σ.2.2.2 5 ((σ.1 24) + x2).toNatClampNeg) (σ.2.1 5)) → b_X12_go_84 N k_53 Q x1 x2 σ))))
def w_X12_go_53 (N : Nat) (Q : Int32 → zSt → Prop) : Nat → Int32 → Int32 → zSt → Prop
  | 0 => fun _ _ _ => False
  | f + 1 => b_X12_go_53 N (w_X12_go_53 N  Q f) Q
def w_X12_go (N : Nat)  (σ : zSt) (Q : Int32 → zSt → Prop) : Prop :=
  w_X12_goesFrom N (σ.2.1 0) σ (fun r1 τ2 => ∀ τ3 : zSt, τ3 = zJ τ2 0 (τ2.2.1 4) → ∀ τ4 : zSt, τ4 = zI τ3 25 (1 : Int32) → ((τ4.1 24) = (-1 : Int32) → ∀ τ7 : zSt, τ7 = zI τ4 26 (0 : Int32) → ∀ τ8 : zSt, τ8 = zJ τ7 5 (-1 : Int64) → w_X12_go_53 N Q N r1 (0 : Int32) τ8) ∧ (¬ (τ4.1 24) = (-1 : Int32) → ∀ τ5 : zSt, τ5 = zI τ4 26 (r1 - (τ4.1 24)) → ∀ τ6 : zSt, τ6 = zJ τ5 5 (-1 : Int64) → w_X12_go_53 N Q N r1 (0 : Int32) τ6))
variable {p : Program} {l : Launch} {e : Env} {s : State} {m : MethodId} {args : Array Value} {below : List Frame} {meth : Method} {c : Code} {dC : Nat → ClassId} {dI : Nat → Nat → Nat} {ad : Nat → Nat} {cI cJ cC : ClassId}
set_option maxHeartbeats 4000000 in
set_option maxRecDepth 100000 in
theorem t_X12_go_84 (C0 : zCx p s m meth c args RX12 cX12_go 3 (some .int) vs_X12_go) (hK : va_K (dC, dI) vwCl (m_ty cI cJ cC) s) (N : Nat) {Q : Int32 → zSt → Prop} {k_53 : Int32 → Int32 → zSt → Prop} (hk_53 : ∀ (x1 : Int32) (x2 : Int32) (σ : zSt) (H : Heap) (locs : List Loc) (ls : Array Slot), k_53 x1 x2 σ → va_P (dC, dI) vwCl (m_W ad cI cJ cC σ) H → va_D (zAW m_n ad s.heap.size) (m_W ad cI cJ cC σ) → va_S (zAW m_n ad s.heap.size) s.heap H locs → lv_has ls 3 [(0, .ref (ad 0)), (1, .int x1), (2, .int x2)] → W p l e rm_X12_go s m args below meth c H locs 0 0 (MQ below (zQi (dC, dI) (m_ty cI cJ cC) (m_W ad cI cJ cC) (zAW m_n ad s.heap.size) Q) args s 0 0 (zAW m_n ad s.heap.size)) (F0 m 53 ls [])) : ∀ (x1 : Int32) (x2 : Int32) (σ : zSt) (H : Heap) (locs : List Loc) (ls : Array Slot), b_X12_go_84 N k_53 Q x1 x2 σ → va_P (dC, dI) vwCl (m_W ad cI cJ cC σ) H → va_D (zAW m_n ad s.heap.size) (m_W ad cI cJ cC σ) → va_S (zAW m_n ad s.heap.size) s.heap H locs → lv_has ls 3 [(0, .ref (ad 0)), (1, .int x1), (2, .int x2)] → W p l e rm_X12_go s m args below meth c H locs 0 0 (MQ below (zQi (dC, dI) (m_ty cI cJ cC) (m_W ad cI cJ cC) (zAW m_n ad s.heap.size) Q) args s 0 0 (zAW m_n ad s.heap.size)) (F0 m 84 ls []) := by
  obtain ⟨hx, hb, hml, hr, hown, hts, hlocks⟩ := id C0
  intro x1 x2 σ H locs ls h hP hD hS hl
  unfold b_X12_go_84 at h
  refine lv_aload_n hx hb dX12_go_84 rfl (lv_at hl 0 rfl) ?_
  refine lv_aload_n hx hb dX12_go_85 rfl (lv_at hl 0 rfl) ?_
  refine mg_0_67 hx hb hts hown hK hP mw_900 dX12_go_86 ?_
  refine lv_aload_n hx hb dX12_go_89 rfl (lv_at hl 0 rfl) ?_
  refine mg_0_69 hx hb hts hown hK hP mw_902 dX12_go_90 ?_
  refine lv_iload_n hx hb dX12_go_93 rfl (lv_at hl 2 rfl) ?_
  refine lv_iadd hx hb dX12_go_94 ?_
  refine ma_21 hx hb hK hP h.1 rfl dX12_go_95 ?_
  have h := h.2
  refine mp_0_72 hx hb hts hown hK hP hD hS mw_905 dX12_go_96 (fun τ1 H locs eτ1 hP hD hS => ?_)
  have h := h τ1 eτ1
  obtain ⟨v2, ev2⟩ : ∃ z : Int32, z = x2 + (1 : Int32) := ⟨_, rfl⟩
  have h := h v2 ev2
  refine lv_iinc (v := v2) (lv' := [(2, .int v2), (0, .ref (ad 0)), (1, .int x1)]) hx hb dX12_go_99 hl (k := 2) rfl (by rw [ev2]; rfl) (by decide) rfl (fun ls hl => ?_)
  refine lv_goto (tgt := 53) hx hb dX12_go_102 (by decide) ?_
  exact hk_53 x1 v2 τ1 _ _ _ h hP hD hS (lv_sub hl [1, 2, 0] rfl)
set_option maxHeartbeats 4000000 in
set_option maxRecDepth 100000 in
theorem tb_X12_go_53 (C0 : zCx p s m meth c args RX12 cX12_go 3 (some .int) vs_X12_go) (hK : va_K (dC, dI) vwCl (m_ty cI cJ cC) s) (N : Nat) {Q : Int32 → zSt → Prop} {k_53 : Int32 → Int32 → zSt → Prop} (hk_53 : ∀ (x1 : Int32) (x2 : Int32) (σ : zSt) (H : Heap) (locs : List Loc) (ls : Array Slot), k_53 x1 x2 σ → va_P (dC, dI) vwCl (m_W ad cI cJ cC σ) H → va_D (zAW m_n ad s.heap.size) (m_W ad cI cJ cC σ) → va_S (zAW m_n ad s.heap.size) s.heap H locs → lv_has ls 3 [(0, .ref (ad 0)), (1, .int x1), (2, .int x2)] → W p l e rm_X12_go s m args below meth c H locs 0 0 (MQ below (zQi (dC, dI) (m_ty cI cJ cC) (m_W ad cI cJ cC) (zAW m_n ad s.heap.size) Q) args s 0 0 (zAW m_n ad s.heap.size)) (F0 m 53 ls [])) : ∀ (x1 : Int32) (x2 : Int32) (σ : zSt) (H : Heap) (locs : List Loc) (ls : Array Slot), b_X12_go_53 N k_53 Q x1 x2 σ → va_P (dC, dI) vwCl (m_W ad cI cJ cC σ) H → va_D (zAW m_n ad s.heap.size) (m_W ad cI cJ cC σ) → va_S (zAW m_n ad s.heap.size) s.heap H locs → lv_has ls 3 [(0, .ref (ad 0)), (1, .int x1), (2, .int x2)] → W p l e rm_X12_go s m args below meth c H locs 0 0 (MQ below (zQi (dC, dI) (m_ty cI cJ cC) (m_W ad cI cJ cC) (zAW m_n ad s.heap.size) Q) args s 0 0 (zAW m_n ad s.heap.size)) (F0 m 53 ls []) := by
  obtain ⟨hx, hb, hml, hr, hown, hts, hlocks⟩ := id C0
  intro x1 x2 σ H locs ls h hP hD hS hl
  unfold b_X12_go_53 at h
  refine lv_iload_n hx hb dX12_go_53 rfl (lv_at hl 2 rfl) ?_
  refine lv_aload_n hx hb dX12_go_54 rfl (lv_at hl 0 rfl) ?_
  refine mg_0_71 hx hb hts hown hK hP mw_904 dX12_go_55 ?_
  refine lv_icmp_ge (tgt := 105) hx hb dX12_go_58 (by decide) (fun hc => ?_) (fun hc => ?_)
  · have h := h.1 hc
    refine lv_iload_n hx hb dX12_go_105 rfl (lv_at hl 1 rfl) ?_
    exact zret_i hx hb hr hlocks hK hP hD hS h dX12_go_106
  · have h := h.2 hc
    refine lv_iload_n hx hb dX12_go_61 rfl (lv_at hl 2 rfl) ?_
    refine lv_if_eq (tgt := 84) hx hb dX12_go_62 (by decide) (fun hc => ?_) (fun hc => ?_)
    · have h := h.1 hc
      exact t_X12_go_84 C0 hK N hk_53 x1 x2 σ _ _ _ h hP hD hS (lv_sub hl [0, 1, 2] rfl)
    · have h := h.2 hc
      refine lv_aload_n hx hb dX12_go_65 rfl (lv_at hl 0 rfl) ?_
      refine mg_0_67 hx hb hts hown hK hP mw_900 dX12_go_66 ?_
      refine lv_aload_n hx hb dX12_go_69 rfl (lv_at hl 0 rfl) ?_
      refine mg_0_69 hx hb hts hown hK hP mw_902 dX12_go_70 ?_
      refine lv_iload_n hx hb dX12_go_73 rfl (lv_at hl 2 rfl) ?_
      refine lv_iadd hx hb dX12_go_74 ?_
      refine ma_21 hx hb hK hP h.1 rfl dX12_go_75 ?_
      have h := h.2
      refine lv_aload_n hx hb dX12_go_76 rfl (lv_at hl 0 rfl) ?_
      refine mg_0_72 hx hb hts hown hK hP mw_905 dX12_go_77 ?_
      refine W.lcmp hx hb dX12_go_80 ?_
      refine lv_if_ge (tgt := 99) hx hb dX12_go_81 (by decide) (fun hc => ?_) (fun hc => ?_)
      · have h := h.1 hc
        obtain ⟨v1, ev1⟩ : ∃ z : Int32, z = x2 + (1 : Int32) := ⟨_, rfl⟩
        have h := h v1 ev1
        refine lv_iinc (v := v1) (lv' := [(2, .int v1), (0, .ref (ad 0)), (1, .int x1)]) hx hb dX12_go_99 hl (k := 2) rfl (by rw [ev1]; rfl) (by decide) rfl (fun ls hl => ?_)
        refine lv_goto (tgt := 53) hx hb dX12_go_102 (by decide) ?_
        exact hk_53 x1 v1 σ _ _ _ h hP hD hS (lv_sub hl [1, 2, 0] rfl)
      · have h := h.2 hc
        exact t_X12_go_84 C0 hK N hk_53 x1 x2 σ _ _ _ h hP hD hS (lv_sub hl [0, 1, 2] rfl)
set_option maxHeartbeats 4000000 in
set_option maxRecDepth 100000 in
theorem t_X12_go_53 (C0 : zCx p s m meth c args RX12 cX12_go 3 (some .int) vs_X12_go) (hK : va_K (dC, dI) vwCl (m_ty cI cJ cC) s) (N : Nat) {Q : Int32 → zSt → Prop} : ∀ (f : Nat) (x1 : Int32) (x2 : Int32) (σ : zSt) (H : Heap) (locs : List Loc) (ls : Array Slot), w_X12_go_53 N  Q f x1 x2 σ → va_P (dC, dI) vwCl (m_W ad cI cJ cC σ) H → va_D (zAW m_n ad s.heap.size) (m_W ad cI cJ cC σ) → va_S (zAW m_n ad s.heap.size) s.heap H locs → lv_has ls 3 [(0, .ref (ad 0)), (1, .int x1), (2, .int x2)] → W p l e rm_X12_go s m args below meth c H locs 0 0 (MQ below (zQi (dC, dI) (m_ty cI cJ cC) (m_W ad cI cJ cC) (zAW m_n ad s.heap.size) Q) args s 0 0 (zAW m_n ad s.heap.size)) (F0 m 53 ls []) := by
  intro f
  induction f with
  | zero => intro x1 x2 σ H locs ls h; exact h.elim
  | succ f ih =>
    intro x1 x2 σ H locs ls h hP hD hS hl
    exact tb_X12_go_53 C0 hK N  (k_53 := w_X12_go_53 N  Q f) ih x1 x2 σ H locs ls h hP hD hS hl
set_option maxHeartbeats 4000000 in
set_option maxRecDepth 100000 in
theorem t_X12_go_0 (C0 : zCx p s m meth c args RX12 cX12_go 3 (some .int) vs_X12_go) (hK : va_K (dC, dI) vwCl (m_ty cI cJ cC) s) (N : Nat) {Q : Int32 → zSt → Prop} : ∀  (σ : zSt) (H : Heap) (locs : List Loc) (ls : Array Slot), w_X12_go N  σ Q → va_P (dC, dI) vwCl (m_W ad cI cJ cC σ) H → va_D (zAW m_n ad s.heap.size) (m_W ad cI cJ cC σ) → va_S (zAW m_n ad s.heap.size) s.heap H locs → lv_has ls 3 [(0, .ref (ad 0))] → W p l e rm_X12_go s m args below meth c H locs 0 0 (MQ below (zQi (dC, dI) (m_ty cI cJ cC) (m_W ad cI cJ cC) (zAW m_n ad s.heap.size) Q) args s 0 0 (zAW m_n ad s.heap.size)) (F0 m 0 ls []) := by
  obtain ⟨hx, hb, hml, hr, hown, hts, hlocks⟩ := id C0
  intro  σ H locs ls h hP hD hS hl
  unfold w_X12_go at h
  refine lv_aload_n hx hb dX12_go_0 rfl (lv_at hl 0 rfl) ?_
  refine lv_aload_n hx hb dX12_go_1 rfl (lv_at hl 0 rfl) ?_
  refine mg_0_47 hx hb hts hown hK hP mw_880 dX12_go_2 ?_
  refine k_X12_goesFrom N ⟨hx, hb, hml, hown, hts⟩ mw_1212 ⟨Nat.le_of_ble_eq_true rfl, Nat.le_of_ble_eq_true rfl⟩ h hK hP hD hS hl.1 (rest := []) (Nat.le_of_ble_eq_true rfl) ⟨Nat.le_of_ble_eq_true rfl, Nat.le_of_ble_eq_true rfl⟩ dX12_go_5 (fun r1 τ2 H locs h hP hD hS => ?_)
  refine lv_istore_n (lv' := [(1, .int r1), (0, .ref (ad 0))]) hx hb dX12_go_8 rfl hl (by decide) rfl (fun ls hl => ?_)
  refine lv_aload_n hx hb dX12_go_9 rfl (lv_at hl 1 rfl) ?_
  refine lv_aload_n hx hb dX12_go_10 rfl (lv_at hl 1 rfl) ?_
  refine mg_0_68 hx hb hts hown hK hP mw_901 dX12_go_11 ?_
  refine mp_0_47 hx hb hts hown hK hP hD hS mw_880 dX12_go_14 (fun τ3 H locs eτ3 hP hD hS => ?_)
  have h := h τ3 eτ3
  refine lv_aload_n hx hb dX12_go_17 rfl (lv_at hl 1 rfl) ?_
  refine lv_iconst (v := (1 : Int32)) hx hb dX12_go_18 (by decide) ?_
  refine mp_0_70 hx hb hts hown hK hP hD hS zb_1 mw_903 dX12_go_19 (fun τ4 H locs eτ4 hP hD hS => ?_)
  have h := h τ4 eτ4
  refine lv_aload_n hx hb dX12_go_22 rfl (lv_at hl 1 rfl) ?_
  refine lv_aload_n hx hb dX12_go_23 rfl (lv_at hl 1 rfl) ?_
  refine mg_0_69 hx hb hts hown hK hP mw_902 dX12_go_24 ?_
  refine lv_iconst (v := (-1 : Int32)) hx hb dX12_go_27 (by decide) ?_
  refine lv_icmp_ne (tgt := 35) hx hb dX12_go_28 (by decide) (fun hc => ?_) (fun hc => ?_)
  · have h := h.2 hc
    refine lv_iload_n hx hb dX12_go_35 rfl (lv_at hl 0 rfl) ?_
    refine lv_aload_n hx hb dX12_go_36 rfl (lv_at hl 1 rfl) ?_
    refine mg_0_69 hx hb hts hown hK hP mw_902 dX12_go_37 ?_
    refine lv_isub hx hb dX12_go_40 ?_
    refine mp_0_71 hx hb hts hown hK hP hD hS mw_904 dX12_go_41 (fun τ5 H locs eτ5 hP hD hS => ?_)
    have h := h τ5 eτ5
    refine lv_aload_n hx hb dX12_go_44 rfl (lv_at hl 1 rfl) ?_
    refine lv_ldc2 (v := (-1 : Int64)) hx hb hown (hts _ (List.mem_cons_of_mem _ mw_832)) dX12_go_45 ?_
    refine mp_0_72 hx hb hts hown hK hP hD hS mw_905 dX12_go_48 (fun τ6 H locs eτ6 hP hD hS => ?_)
    have h := h τ6 eτ6
    refine lv_iconst (v := (0 : Int32)) hx hb dX12_go_51 (by decide) ?_
    refine lv_istore_n (lv' := [(2, .int (0 : Int32)), (1, .int r1), (0, .ref (ad 0))]) hx hb dX12_go_52 rfl hl (by decide) rfl (fun ls hl => ?_)
    exact t_X12_go_53 C0 hK N  N r1 (0 : Int32) τ6 _ _ _ h hP hD hS (lv_sub hl [2, 1, 0] rfl)
  · have h := h.1 hc
    refine lv_iconst (v := (0 : Int32)) hx hb dX12_go_31 (by decide) ?_
    refine lv_goto (tgt := 41) hx hb dX12_go_32 (by decide) ?_
    refine mp_0_71 hx hb hts hown hK hP hD hS mw_904 dX12_go_41 (fun τ7 H locs eτ7 hP hD hS => ?_)
    have h := h τ7 eτ7
    refine lv_aload_n hx hb dX12_go_44 rfl (lv_at hl 1 rfl) ?_
    refine lv_ldc2 (v := (-1 : Int64)) hx hb hown (hts _ (List.mem_cons_of_mem _ mw_832)) dX12_go_45 ?_
    refine mp_0_72 hx hb hts hown hK hP hD hS mw_905 dX12_go_48 (fun τ8 H locs eτ8 hP hD hS => ?_)
    have h := h τ8 eτ8
    refine lv_iconst (v := (0 : Int32)) hx hb dX12_go_51 (by decide) ?_
    refine lv_istore_n (lv' := [(2, .int (0 : Int32)), (1, .int r1), (0, .ref (ad 0))]) hx hb dX12_go_52 rfl hl (by decide) rfl (fun ls hl => ?_)
    exact t_X12_go_53 C0 hK N  N r1 (0 : Int32) τ8 _ _ _ h hP hD hS (lv_sub hl [2, 1, 0] rfl)
set_option maxHeartbeats 4000000 in
set_option maxRecDepth 100000 in
theorem c_X12_go (N : Nat) (l : Launch) (dC : Nat → ClassId) (dI : Nat → Nat → Nat) (ad : Nat → Nat) (cI cJ cC : ClassId) (sz : Nat) (σ : zSt)  (Q : Int32 → zSt → Prop) (h : w_X12_go N  σ Q) : Met l yX12_go vs_X12_go rm_X12_go (va_Pc [.ref (ad 0)] (zPc (dC, dI) (m_ty cI cJ cC) (m_W ad cI cJ cC) sz σ)) (zQi (dC, dI) (m_ty cI cJ cC) (m_W ad cI cJ cC) (zAW m_n ad sz) Q) 0 0 (zAW m_n ad sz) := by
  refine Met.ofW (cc := cX12_go) (maxL := 3) (ret := (some .int)) (by decide) rfl ?_
  intro p e s m args below meth c s₁ B hml hv
  obtain ⟨rfl, hsz, hP, hK, hD0⟩ := hv
  subst hsz
  have C0 : zCx p s m meth c _ RX12 cX12_go 3 (some .int) vs_X12_go := ⟨B.exec, B.bytes, hml, B.returns, findClass_of_methodNamed B.named, atoms_spec (ws := vs_X12_go) B.pre, B.notSynchronized⟩
  have hD := m_D0 (n0 := s.heap.size) hD0
  have hl := lv_entry ([.ref (ad 0)]) (n := 3) (Nat.le_of_ble_eq_true rfl)
  rw [lg_entry_eq]
  generalize (lg_sl ([.ref (ad 0)]) ++ List.replicate (3 - (lg_sl ([.ref (ad 0)])).length) Slot.unset).toArray = ls at hl ⊢
  exact t_X12_go_0 C0 hK N  σ _ _ ls h hP hD va_S.rf hl
theorem k_X12_go (N : Nat) {R : Room} {H : Heap} {locs : List Loc} {cells slots : Nat} {Q2 : State → Prop} {cc : ByteArray} {nL pc index : Nat} {ls : Array Slot} {rest : List Value} {own : String} {c0 : Cond} {σ : zSt}  {Q : Int32 → zSt → Prop} (S0 : CallFix p m c cc nL s args (c0 :: zT) own) (hml : Cond.methodLink own index yX12_go ∈ zT) (hR : rm_X12_go.frames + 1 ≤ R.frames ∧ 8 + (3 + 11) + rm_X12_go.locals ≤ R.locals) (h : w_X12_go N  σ Q) (hK : va_K (dC, dI) vwCl (m_ty cI cJ cC) s) (hP : va_P (dC, dI) vwCl (m_W ad cI cJ cC σ) H) (hD : va_D (zAW m_n ad s.heap.size) (m_W ad cI cJ cC σ)) (hS : va_S (zAW m_n ad s.heap.size) s.heap H locs) (hsz : ls.size = nL) (hW : (rest.map fun v => v.category).sum ≤ 8) (hcs : cells ≤ R.cells ∧ slots ≤ R.slots) (hdg : decode cc pc = .ok (.invokevirtual index, 3)) (kk : ∀ (r : Int32) (τ : zSt) (H1 : Heap) (locs1 : List Loc), Q r τ → va_P (dC, dI) vwCl (m_W ad cI cJ cC τ) H1 → va_D (zAW m_n ad s.heap.size) (m_W ad cI cJ cC τ) → va_S (zAW m_n ad s.heap.size) s.heap H1 locs1 → W p l e R s m args below meth c H1 locs1 cells slots Q2 (F0 m (pc + 3) ls (.int r :: rest))) : W p l e R s m args below meth c H locs cells slots Q2 (F0 m pc ls (.ref (ad 0) :: rest)) :=
  zcv_i (T := TX12) (N' := 83) (k := 0) (ci := 12) (fs := m_f0 ad σ) [] S0 (c_X12_go N l dC dI ad cI cJ cC H.size σ  Q h) (cw_X12_go S0.2.2.2.2 hml rfl rfl hR) rfl rfl hK hP hD hS rfl hsz hW rfl hcs hdg kk
end q23
