section qc
def w_X3_count_2 (N : Nat) (x0 : Int32) (σ : zSt) (Q : Int32 → zSt → Prop) : Prop :=
  Q ((x0 * (x0 - (1 : Int32))) / (2 : Int32)) σ
variable {p : Program} {l : Launch} {e : Env} {s : State} {m : MethodId} {args : Array Value} {below : List Frame} {meth : Method} {c : Code} {dC : Nat → ClassId} {dI : Nat → Nat → Nat} {ad : Nat → Nat} {cI cJ cC : ClassId}
set_option maxHeartbeats 4000000 in
set_option maxRecDepth 100000 in
theorem t_X3_count_2_0 (C0 : zCx p s m meth c args RX3 cX3_count 1 (some .int) vs_X3_count) (hK : va_K (dC, dI) vwCl (c_ty cI cJ cC) s) (N : Nat) {Q : Int32 → zSt → Prop} : ∀ (x0 : Int32) (σ : zSt) (H : Heap) (locs : List Loc) (ls : Array Slot), w_X3_count_2 N x0 σ Q → va_P (dC, dI) vwCl (c_W ad cI cJ cC σ) H → va_D (zAW c_n ad s.heap.size) (c_W ad cI cJ cC σ) → va_S (zAW c_n ad s.heap.size) s.heap H locs → lv_has ls 1 [(0, .int x0)] → W p l e rm_X3_count s m args below meth c H locs 0 0 (MQ below (zQi (dC, dI) (c_ty cI cJ cC) (c_W ad cI cJ cC) (zAW c_n ad s.heap.size) Q) args s 0 0 (zAW c_n ad s.heap.size)) (F0 m 0 ls []) := by
  obtain ⟨hx, hb, hml, hr, hown, hts, hlocks⟩ := id C0
  intro x0 σ H locs ls h hP hD hS hl
  unfold w_X3_count_2 at h
  refine lv_iload_n hx hb dX3_count_0 rfl (lv_at hl 0 rfl) ?_
  refine lv_iload_n hx hb dX3_count_1 rfl (lv_at hl 0 rfl) ?_
  refine lv_iconst (v := (1 : Int32)) hx hb dX3_count_2 (by decide) ?_
  refine lv_isub hx hb dX3_count_3 ?_
  refine lv_imul hx hb dX3_count_4 ?_
  refine lv_iconst (v := (2 : Int32)) hx hb dX3_count_5 (by decide) ?_
  refine lv_idiv hx hb dX3_count_6 (by decide) ?_
  exact zret_i hx hb hr hlocks hK hP hD hS h dX3_count_7
set_option maxHeartbeats 4000000 in
set_option maxRecDepth 100000 in
theorem c_X3_count_2 (N : Nat) (l : Launch) (dC : Nat → ClassId) (dI : Nat → Nat → Nat) (ad : Nat → Nat) (cI cJ cC : ClassId) (sz : Nat) (σ : zSt) (x0 : Int32) (Q : Int32 → zSt → Prop) (h : w_X3_count_2 N x0 σ Q) : Met l yX3_count vs_X3_count rm_X3_count (va_Pc [.int x0] (zPc (dC, dI) (c_ty cI cJ cC) (c_W ad cI cJ cC) sz σ)) (zQi (dC, dI) (c_ty cI cJ cC) (c_W ad cI cJ cC) (zAW c_n ad sz) Q) 0 0 (zAW c_n ad sz) := by
  refine Met.ofW (cc := cX3_count) (maxL := 1) (ret := (some .int)) (by decide) rfl ?_
  intro p e s m args below meth c s₁ B hml hv
  obtain ⟨rfl, hsz, hP, hK, hD0⟩ := hv
  subst hsz
  have C0 : zCx p s m meth c _ RX3 cX3_count 1 (some .int) vs_X3_count := ⟨B.exec, B.bytes, hml, B.returns, findClass_of_methodNamed B.named, atoms_spec (ws := vs_X3_count) B.pre, B.notSynchronized⟩
  have hD := c_D0 (n0 := s.heap.size) hD0
  have hl := lv_entry ([.int x0]) (n := 1) (Nat.le_of_ble_eq_true rfl)
  rw [lg_entry_eq]
  generalize (lg_sl ([.int x0]) ++ List.replicate (1 - (lg_sl ([.int x0])).length) Slot.unset).toArray = ls at hl ⊢
  exact t_X3_count_2_0 C0 hK N x0 σ _ _ ls h hP hD va_S.rf hl
theorem k_X3_count_2 (N : Nat) {R : Room} {H : Heap} {locs : List Loc} {cells slots : Nat} {Q2 : State → Prop} {cc : ByteArray} {nL pc index : Nat} {ls : Array Slot} {rest : List Value} {own : String} {c0 : Cond} {σ : zSt} {x0 : Int32} {Q : Int32 → zSt → Prop} (S0 : CallFix p m c cc nL s args (c0 :: zT) own) (hml : Cond.methodLink own index yX3_count ∈ zT) (hR : rm_X3_count.frames + 1 ≤ R.frames ∧ 8 + (1 + 11) + rm_X3_count.locals ≤ R.locals) (h : w_X3_count_2 N x0 σ Q) (hK : va_K (dC, dI) vwCl (c_ty cI cJ cC) s) (hP : va_P (dC, dI) vwCl (c_W ad cI cJ cC σ) H) (hD : va_D (zAW c_n ad s.heap.size) (c_W ad cI cJ cC σ)) (hS : va_S (zAW c_n ad s.heap.size) s.heap H locs) (hsz : ls.size = nL) (hW : (rest.map fun v => v.category).sum ≤ 8) (hcs : cells ≤ R.cells ∧ slots ≤ R.slots) (hdg : decode cc pc = .ok (.invokestatic index, 3)) (kk : ∀ (r : Int32) (τ : zSt) (H1 : Heap) (locs1 : List Loc), Q r τ → va_P (dC, dI) vwCl (c_W ad cI cJ cC τ) H1 → va_D (zAW c_n ad s.heap.size) (c_W ad cI cJ cC τ) → va_S (zAW c_n ad s.heap.size) s.heap H1 locs1 → W p l e R s m args below meth c H1 locs1 cells slots Q2 (F0 m (pc + 3) ls (.int r :: rest))) : W p l e R s m args below meth c H locs cells slots Q2 (F0 m pc ls (.int x0 :: rest)) :=
  zcs_i [.int x0] S0 (c_X3_count_2 N l dC dI ad cI cJ cC H.size σ x0 Q h) (cw_X3_count S0.2.2.2.2 hml hR) hK hP hD hS rfl hsz hW rfl hcs hdg kk
end qc
def rm_X0_init : Room := { frames := 1, cells := 3, slots := 74, locals := 60 }
def vs_X0_init : List Cond := .code yX0_init cX0_init 6 none :: zT
section ql_X0_init
def b_X0_init_118 (N : Nat) (k_48 : Int32 → zSt → Prop) (k_57 : Int32 → Int32 → zSt → Prop) (Q : zSt → Prop) (x3 : Int32) (x4 : Int32) (x5 : Int32) (s0 : Int64) (s1 : Int64) (s2 : Int32) (σ : zSt) : Prop :=
  (vp_in s2 32) ∧ (∀ τ1 : zSt, τ1 = zB σ 0 (vp_updL (σ.2.2.2 0) (s2.toNatClampNeg) (s1 ||| s0)) → (vp_in x3 32) ∧ ((x5 < (1 : Int32) → (vp_in x3 32) ∧ (∀ τ2 : zSt, τ2 = zB τ1 1 (vp_updL (τ1.2.2.2 1) (x3.toNatClampNeg) ((τ1.2.2.2 1 x3.toNatClampNeg) ||| (0 : Int64))) → ∀ v3 : Int32, v3 = x4 + (1 : Int32) → k_57 x3 v3 τ2)) ∧ (¬ x5 < (1 : Int32) → (vp_in x3 32) ∧ (∀ τ4 : zSt, τ4 = zB τ1 1 (vp_updL (τ1.2.2.2 1) (x3.toNatClampNeg) ((τ1.2.2.2 1 x3.toNatClampNeg) ||| ((1 : Int64) <<< (x4.toInt64 &&& 63)))) → ∀ v5 : Int32, v5 = x4 + (1 : Int32) → k_57 x3 v5 τ4))))
def b_X0_init_57 (N : Nat) (k_48 : Int32 → zSt → Prop) (k_57 : Int32 → Int32 → zSt → Prop) (Q : zSt → Prop) (x3 : Int32) (x4 : Int32) (σ : zSt) : Prop :=
  w_X3_count_2 N (5 : Int32) σ (fun r1 τ2 => (r1 ≤ x4 → ∀ v3 : Int32, v3 = x3 + (1 : Int32) → k_48 v3 τ2) ∧ (¬ r1 ≤ x4 → (vp_in x4 45) ∧ ((vp_in x4 45) ∧ (∀ v4 : Int32, v4 = ((x3 >>> ((τ2.2.2.1 3 x4.toNatClampNeg) &&& 31)) &&& (1 : Int32)) + ((x3 >>> ((τ2.2.2.1 4 x4.toNatClampNeg) &&& 31)) &&& (1 : Int32)) → (vp_in x3 32) ∧ ((v4 = (2 : Int32) → b_X0_init_118 N k_48 k_57 Q x3 x4 v4 ((1 : Int64) <<< (x4.toInt64 &&& 63)) (τ2.2.2.2 0 x3.toNatClampNeg) x3 τ2) ∧ (¬ v4 = (2 : Int32) → b_X0_init_118 N k_48 k_57 Q x3 x4 v4 (0 : Int64) (τ2.2.2.2 0 x3.toNatClampNeg) x3 τ2))))))
def w_X0_init_57 (N : Nat) (k_48 : Int32 → zSt → Prop) (Q : zSt → Prop) : Nat → Int32 → Int32 → zSt → Prop
  | 0 => fun _ _ _ => False
  | f + 1 => b_X0_init_57 N k_48 (w_X0_init_57 N k_48 Q f) Q
def b_X0_init_48 (N : Nat) (k_48 : Int32 → zSt → Prop) (Q : zSt → Prop) (x3 : Int32) (σ : zSt) : Prop :=
  ((32 : Int32) ≤ x3 → Q σ) ∧ (¬ (32 : Int32) ≤ x3 → w_X0_init_57 N k_48 Q N x3 (0 : Int32) σ)
def w_X0_init_48 (N : Nat) (Q : zSt → Prop) : Nat → Int32 → zSt → Prop
  | 0 => fun _ _ => False
  | f + 1 => b_X0_init_48 N (w_X0_init_48 N  Q f) Q
variable {p : Program} {l : Launch} {e : Env} {s : State} {m : MethodId} {args : Array Value} {below : List Frame} {meth : Method} {c : Code} {dC : Nat → ClassId} {dI : Nat → Nat → Nat} {ad : Nat → Nat} {cI cJ cC : ClassId}
set_option maxHeartbeats 4000000 in
set_option maxRecDepth 100000 in
theorem t_X0_init_118 (C0 : zCx p s m meth c args RX0 cX0_init 6 none vs_X0_init) (hK : va_K (dC, dI) vwCl (c_ty cI cJ cC) s) (N : Nat) {Q : zSt → Prop} {k_48 : Int32 → zSt → Prop} (hk_48 : ∀ (x3 : Int32) (σ : zSt) (H : Heap) (locs : List Loc) (ls : Array Slot), k_48 x3 σ → va_P (dC, dI) vwCl (c_W ad cI cJ cC σ) H → va_D (zAW c_n ad s.heap.size) (c_W ad cI cJ cC σ) → va_S (zAW c_n ad s.heap.size) s.heap H locs → lv_has ls 6 [(0, .ref (ad 0)), (3, .int x3)] → W p l e rm_X0_init s m args below meth c H locs 3 74 (MQ below (zQv (dC, dI) (c_ty cI cJ cC) (c_W ad cI cJ cC) (zAW c_n ad s.heap.size) Q) args s 3 74 (zAW c_n ad s.heap.size)) (F0 m 48 ls [])) {k_57 : Int32 → Int32 → zSt → Prop} (hk_57 : ∀ (x3 : Int32) (x4 : Int32) (σ : zSt) (H : Heap) (locs : List Loc) (ls : Array Slot), k_57 x3 x4 σ → va_P (dC, dI) vwCl (c_W ad cI cJ cC σ) H → va_D (zAW c_n ad s.heap.size) (c_W ad cI cJ cC σ) → va_S (zAW c_n ad s.heap.size) s.heap H locs → lv_has ls 6 [(0, .ref (ad 0)), (3, .int x3), (4, .int x4)] → W p l e rm_X0_init s m args below meth c H locs 3 74 (MQ below (zQv (dC, dI) (c_ty cI cJ cC) (c_W ad cI cJ cC) (zAW c_n ad s.heap.size) Q) args s 3 74 (zAW c_n ad s.heap.size)) (F0 m 57 ls [])) : ∀ (x3 : Int32) (x4 : Int32) (x5 : Int32) (s0 : Int64) (s1 : Int64) (s2 : Int32) (σ : zSt) (H : Heap) (locs : List Loc) (ls : Array Slot), b_X0_init_118 N k_48 k_57 Q x3 x4 x5 s0 s1 s2 σ → va_P (dC, dI) vwCl (c_W ad cI cJ cC σ) H → va_D (zAW c_n ad s.heap.size) (c_W ad cI cJ cC σ) → va_S (zAW c_n ad s.heap.size) s.heap H locs → lv_has ls 6 [(0, .ref (ad 0)), (3, .int x3), (4, .int x4), (5, .int x5)] → W p l e rm_X0_init s m args below meth c H locs 3 74 (MQ below (zQv (dC, dI) (c_ty cI cJ cC) (c_W ad cI cJ cC) (zAW c_n ad s.heap.size) Q) args s 3 74 (zAW c_n ad s.heap.size)) (F0 m 118 ls [.long s0, .long s1, .int s2, .ref (ad 3)]) := by
  obtain ⟨hx, hb, hml, hr, hown, hts, hlocks⟩ := id C0
  intro x3 x4 x5 s0 s1 s2 σ H locs ls h hP hD hS hl
  unfold b_X0_init_118 at h
  refine lv_lor hx hb dX0_init_118 ?_
  refine cs_3 hx hb hK hP hD hS h.1 rfl dX0_init_119 (fun τ1 H locs eτ1 hP hD hS => ?_)
  have h := h.2
  have h := h τ1 eτ1
  refine lv_aload_n hx hb dX0_init_120 rfl (lv_at hl 0 rfl) ?_
  refine cg_0_4 hx hb hts hown hK hP mw_224 dX0_init_121 ?_
  refine lv_iload_n hx hb dX0_init_124 rfl (lv_at hl 1 rfl) ?_
  refine lv_dup2_11 hx hb dX0_init_125 rfl rfl ?_
  refine ca_4 hx hb hK hP h.1 rfl dX0_init_126 ?_
  have h := h.2
  refine lv_iload hx hb dX0_init_127 (lv_at hl 3 rfl) ?_
  refine lv_iconst (v := (1 : Int32)) hx hb dX0_init_129 (by decide) ?_
  refine lv_icmp_lt (tgt := 140) hx hb dX0_init_130 (by decide) (fun hc => ?_) (fun hc => ?_)
  · have h := h.1 hc
    refine lv_lconst (v := (0 : Int64)) hx hb dX0_init_140 (by decide) ?_
    refine lv_lor hx hb dX0_init_141 ?_
    refine cs_4 hx hb hK hP hD hS h.1 rfl dX0_init_142 (fun τ2 H locs eτ2 hP hD hS => ?_)
    have h := h.2
    have h := h τ2 eτ2
    obtain ⟨v3, ev3⟩ : ∃ z : Int32, z = x4 + (1 : Int32) := ⟨_, rfl⟩
    have h := h v3 ev3
    refine lv_iinc (v := v3) (lv' := [(4, .int v3), (0, .ref (ad 0)), (3, .int x3), (5, .int x5)]) hx hb dX0_init_143 hl (k := 2) rfl (by rw [ev3]; rfl) (by decide) rfl (fun ls hl => ?_)
    refine lv_goto (tgt := 57) hx hb dX0_init_146 (by decide) ?_
    exact hk_57 x3 v3 τ2 _ _ _ h hP hD hS (lv_sub hl [1, 2, 0] rfl)
  · have h := h.2 hc
    refine lv_lconst (v := (1 : Int64)) hx hb dX0_init_133 (by decide) ?_
    refine lv_iload hx hb dX0_init_134 (lv_at hl 2 rfl) ?_
    refine lv_lshl hx hb dX0_init_136 rfl ?_
    refine lv_goto (tgt := 141) hx hb dX0_init_137 (by decide) ?_
    refine lv_lor hx hb dX0_init_141 ?_
    refine cs_4 hx hb hK hP hD hS h.1 rfl dX0_init_142 (fun τ4 H locs eτ4 hP hD hS => ?_)
    have h := h.2
    have h := h τ4 eτ4
    obtain ⟨v5, ev5⟩ : ∃ z : Int32, z = x4 + (1 : Int32) := ⟨_, rfl⟩
    have h := h v5 ev5
    refine lv_iinc (v := v5) (lv' := [(4, .int v5), (0, .ref (ad 0)), (3, .int x3), (5, .int x5)]) hx hb dX0_init_143 hl (k := 2) rfl (by rw [ev5]; rfl) (by decide) rfl (fun ls hl => ?_)
    refine lv_goto (tgt := 57) hx hb dX0_init_146 (by decide) ?_
    exact hk_57 x3 v5 τ4 _ _ _ h hP hD hS (lv_sub hl [1, 2, 0] rfl)
set_option maxHeartbeats 4000000 in
set_option maxRecDepth 100000 in
theorem tb_X0_init_57 (C0 : zCx p s m meth c args RX0 cX0_init 6 none vs_X0_init) (hK : va_K (dC, dI) vwCl (c_ty cI cJ cC) s) (N : Nat) {Q : zSt → Prop} {k_48 : Int32 → zSt → Prop} (hk_48 : ∀ (x3 : Int32) (σ : zSt) (H : Heap) (locs : List Loc) (ls : Array Slot), k_48 x3 σ → va_P (dC, dI) vwCl (c_W ad cI cJ cC σ) H → va_D (zAW c_n ad s.heap.size) (c_W ad cI cJ cC σ) → va_S (zAW c_n ad s.heap.size) s.heap H locs → lv_has ls 6 [(0, .ref (ad 0)), (3, .int x3)] → W p l e rm_X0_init s m args below meth c H locs 3 74 (MQ below (zQv (dC, dI) (c_ty cI cJ cC) (c_W ad cI cJ cC) (zAW c_n ad s.heap.size) Q) args s 3 74 (zAW c_n ad s.heap.size)) (F0 m 48 ls [])) {k_57 : Int32 → Int32 → zSt → Prop} (hk_57 : ∀ (x3 : Int32) (x4 : Int32) (σ : zSt) (H : Heap) (locs : List Loc) (ls : Array Slot), k_57 x3 x4 σ → va_P (dC, dI) vwCl (c_W ad cI cJ cC σ) H → va_D (zAW c_n ad s.heap.size) (c_W ad cI cJ cC σ) → va_S (zAW c_n ad s.heap.size) s.heap H locs → lv_has ls 6 [(0, .ref (ad 0)), (3, .int x3), (4, .int x4)] → W p l e rm_X0_init s m args below meth c H locs 3 74 (MQ below (zQv (dC, dI) (c_ty cI cJ cC) (c_W ad cI cJ cC) (zAW c_n ad s.heap.size) Q) args s 3 74 (zAW c_n ad s.heap.size)) (F0 m 57 ls [])) : ∀ (x3 : Int32) (x4 : Int32) (σ : zSt) (H : Heap) (locs : List Loc) (ls : Array Slot), b_X0_init_57 N k_48 k_57 Q x3 x4 σ → va_P (dC, dI) vwCl (c_W ad cI cJ cC σ) H → va_D (zAW c_n ad s.heap.size) (c_W ad cI cJ cC σ) → va_S (zAW c_n ad s.heap.size) s.heap H locs → lv_has ls 6 [(0, .ref (ad 0)), (3, .int x3), (4, .int x4)] → W p l e rm_X0_init s m args below meth c H locs 3 74 (MQ below (zQv (dC, dI) (c_ty cI cJ cC) (c_W ad cI cJ cC) (zAW c_n ad s.heap.size) Q) args s 3 74 (zAW c_n ad s.heap.size)) (F0 m 57 ls []) := by
  obtain ⟨hx, hb, hml, hr, hown, hts, hlocks⟩ := id C0
  intro x3 x4 σ H locs ls h hP hD hS hl
  unfold b_X0_init_57 at h
  refine lv_iload hx hb dX0_init_57 (lv_at hl 2 rfl) ?_
  refine lv_iconst (v := (5 : Int32)) hx hb dX0_init_59 (by decide) ?_
  refine k_X3_count_2 N ⟨hx, hb, hml, hown, hts⟩ mw_217 ⟨Nat.le_of_ble_eq_true rfl, Nat.le_of_ble_eq_true rfl⟩ h hK hP hD hS hl.1 (rest := [.int x4]) (Nat.le_of_ble_eq_true rfl) ⟨Nat.le_of_ble_eq_true rfl, Nat.le_of_ble_eq_true rfl⟩ dX0_init_60 (fun r1 τ2 H locs h hP hD hS => ?_)
  refine lv_icmp_ge (tgt := 149) hx hb dX0_init_63 (by decide) (fun hc => ?_) (fun hc => ?_)
  · have h := h.1 hc
    obtain ⟨v3, ev3⟩ : ∃ z : Int32, z = x3 + (1 : Int32) := ⟨_, rfl⟩
    have h := h v3 ev3
    refine lv_iinc (v := v3) (lv' := [(3, .int v3), (0, .ref (ad 0)), (4, .int x4)]) hx hb dX0_init_149 hl (k := 1) rfl (by rw [ev3]; rfl) (by decide) rfl (fun ls hl => ?_)
    refine lv_goto (tgt := 48) hx hb dX0_init_152 (by decide) ?_
    exact hk_48 v3 τ2 _ _ _ h hP hD hS (lv_sub hl [1, 0] rfl)
  · have h := h.2 hc
    refine lv_iload_n hx hb dX0_init_66 rfl (lv_at hl 1 rfl) ?_
    refine lv_aload_n hx hb dX0_init_67 rfl (lv_at hl 0 rfl) ?_
    refine cg_0_1 hx hb hts hown hK hP mw_221 dX0_init_68 ?_
    refine cg_2_0 hx hb hts hown hK hP mw_46 dX0_init_71 ?_
    refine lv_iload hx hb dX0_init_74 (lv_at hl 2 rfl) ?_
    refine ca_9 hx hb hK hP h.1 rfl dX0_init_76 ?_
    have h := h.2
    refine lv_ishr hx hb dX0_init_77 ?_
    refine lv_iconst (v := (1 : Int32)) hx hb dX0_init_78 (by decide) ?_
    refine lv_iand hx hb dX0_init_79 ?_
    refine lv_iload_n hx hb dX0_init_80 rfl (lv_at hl 1 rfl) ?_
    refine lv_aload_n hx hb dX0_init_81 rfl (lv_at hl 0 rfl) ?_
    refine cg_0_1 hx hb hts hown hK hP mw_221 dX0_init_82 ?_
    refine cg_2_1 hx hb hts hown hK hP mw_50 dX0_init_85 ?_
    refine lv_iload hx hb dX0_init_88 (lv_at hl 2 rfl) ?_
    refine ca_10 hx hb hK hP h.1 rfl dX0_init_90 ?_
    have h := h.2
    refine lv_ishr hx hb dX0_init_91 ?_
    refine lv_iconst (v := (1 : Int32)) hx hb dX0_init_92 (by decide) ?_
    refine lv_iand hx hb dX0_init_93 ?_
    refine lv_iadd hx hb dX0_init_94 ?_
    refine lv_topi (fun v4 ev4 => ?_)
    have h := h v4 ev4
    refine lv_istore (lv' := [(5, .int v4), (0, .ref (ad 0)), (3, .int x3), (4, .int x4)]) hx hb dX0_init_95 hl (by decide) rfl (fun ls hl => ?_)
    refine lv_aload_n hx hb dX0_init_97 rfl (lv_at hl 1 rfl) ?_
    refine cg_0_3 hx hb hts hown hK hP mw_223 dX0_init_98 ?_
    refine lv_iload_n hx hb dX0_init_101 rfl (lv_at hl 2 rfl) ?_
    refine lv_dup2_11 hx hb dX0_init_102 rfl rfl ?_
    refine ca_3 hx hb hK hP h.1 rfl dX0_init_103 ?_
    have h := h.2
    refine lv_iload hx hb dX0_init_104 (lv_at hl 0 rfl) ?_
    refine lv_iconst (v := (2 : Int32)) hx hb dX0_init_106 (by decide) ?_
    refine lv_icmp_ne (tgt := 117) hx hb dX0_init_107 (by decide) (fun hc => ?_) (fun hc => ?_)
    · have h := h.2 hc
      refine lv_lconst (v := (0 : Int64)) hx hb dX0_init_117 (by decide) ?_
      exact t_X0_init_118 C0 hK N hk_48 hk_57 x3 x4 v4 (0 : Int64) (τ2.2.2.2 0 x3.toNatClampNeg) x3 τ2 _ _ _ h hP hD hS (lv_sub hl [1, 2, 3, 0] rfl)
    · have h := h.1 hc
      refine lv_lconst (v := (1 : Int64)) hx hb dX0_init_110 (by decide) ?_
      refine lv_iload hx hb dX0_init_111 (lv_at hl 3 rfl) ?_
      refine lv_lshl hx hb dX0_init_113 rfl ?_
      refine lv_goto (tgt := 118) hx hb dX0_init_114 (by decide) ?_
      exact t_X0_init_118 C0 hK N hk_48 hk_57 x3 x4 v4 ((1 : Int64) <<< (x4.toInt64 &&& 63)) (τ2.2.2.2 0 x3.toNatClampNeg) x3 τ2 _ _ _ h hP hD hS (lv_sub hl [1, 2, 3, 0] rfl)
set_option maxHeartbeats 4000000 in
set_option maxRecDepth 100000 in
theorem t_X0_init_57 (C0 : zCx p s m meth c args RX0 cX0_init 6 none vs_X0_init) (hK : va_K (dC, dI) vwCl (c_ty cI cJ cC) s) (N : Nat) {Q : zSt → Prop} {k_48 : Int32 → zSt → Prop} (hk_48 : ∀ (x3 : Int32) (σ : zSt) (H : Heap) (locs : List Loc) (ls : Array Slot), k_48 x3 σ → va_P (dC, dI) vwCl (c_W ad cI cJ cC σ) H → va_D (zAW c_n ad s.heap.size) (c_W ad cI cJ cC σ) → va_S (zAW c_n ad s.heap.size) s.heap H locs → lv_has ls 6 [(0, .ref (ad 0)), (3, .int x3)] → W p l e rm_X0_init s m args below meth c H locs 3 74 (MQ below (zQv (dC, dI) (c_ty cI cJ cC) (c_W ad cI cJ cC) (zAW c_n ad s.heap.size) Q) args s 3 74 (zAW c_n ad s.heap.size)) (F0 m 48 ls [])) : ∀ (f : Nat) (x3 : Int32) (x4 : Int32) (σ : zSt) (H : Heap) (locs : List Loc) (ls : Array Slot), w_X0_init_57 N k_48 Q f x3 x4 σ → va_P (dC, dI) vwCl (c_W ad cI cJ cC σ) H → va_D (zAW c_n ad s.heap.size) (c_W ad cI cJ cC σ) → va_S (zAW c_n ad s.heap.size) s.heap H locs → lv_has ls 6 [(0, .ref (ad 0)), (3, .int x3), (4, .int x4)] → W p l e rm_X0_init s m args below meth c H locs 3 74 (MQ below (zQv (dC, dI) (c_ty cI cJ cC) (c_W ad cI cJ cC) (zAW c_n ad s.heap.size) Q) args s 3 74 (zAW c_n ad s.heap.size)) (F0 m 57 ls []) := by
  intro f
  induction f with
  | zero => intro x3 x4 σ H locs ls h; exact h.elim
  | succ f ih =>
    intro x3 x4 σ H locs ls h hP hD hS hl
    exact tb_X0_init_57 C0 hK N hk_48 (k_57 := w_X0_init_57 N k_48 Q f) ih x3 x4 σ H locs ls h hP hD hS hl
set_option maxHeartbeats 4000000 in
set_option maxRecDepth 100000 in
theorem tb_X0_init_48 (C0 : zCx p s m meth c args RX0 cX0_init 6 none vs_X0_init) (hK : va_K (dC, dI) vwCl (c_ty cI cJ cC) s) (N : Nat) {Q : zSt → Prop} {k_48 : Int32 → zSt → Prop} (hk_48 : ∀ (x3 : Int32) (σ : zSt) (H : Heap) (locs : List Loc) (ls : Array Slot), k_48 x3 σ → va_P (dC, dI) vwCl (c_W ad cI cJ cC σ) H → va_D (zAW c_n ad s.heap.size) (c_W ad cI cJ cC σ) → va_S (zAW c_n ad s.heap.size) s.heap H locs → lv_has ls 6 [(0, .ref (ad 0)), (3, .int x3)] → W p l e rm_X0_init s m args below meth c H locs 3 74 (MQ below (zQv (dC, dI) (c_ty cI cJ cC) (c_W ad cI cJ cC) (zAW c_n ad s.heap.size) Q) args s 3 74 (zAW c_n ad s.heap.size)) (F0 m 48 ls [])) : ∀ (x3 : Int32) (σ : zSt) (H : Heap) (locs : List Loc) (ls : Array Slot), b_X0_init_48 N k_48 Q x3 σ → va_P (dC, dI) vwCl (c_W ad cI cJ cC σ) H → va_D (zAW c_n ad s.heap.size) (c_W ad cI cJ cC σ) → va_S (zAW c_n ad s.heap.size) s.heap H locs → lv_has ls 6 [(0, .ref (ad 0)), (3, .int x3)] → W p l e rm_X0_init s m args below meth c H locs 3 74 (MQ below (zQv (dC, dI) (c_ty cI cJ cC) (c_W ad cI cJ cC) (zAW c_n ad s.heap.size) Q) args s 3 74 (zAW c_n ad s.heap.size)) (F0 m 48 ls []) := by
  obtain ⟨hx, hb, hml, hr, hown, hts, hlocks⟩ := id C0
  intro x3 σ H locs ls h hP hD hS hl
  unfold b_X0_init_48 at h
  refine lv_iload_n hx hb dX0_init_48 rfl (lv_at hl 1 rfl) ?_
  refine lv_bipush (v := (32 : Int32)) hx hb dX0_init_49 (by decide) ?_
  refine lv_icmp_ge (tgt := 155) hx hb dX0_init_51 (by decide) (fun hc => ?_) (fun hc => ?_)
  · have h := h.1 hc
    exact zret_v hx hb hr hlocks hK hP hD hS h dX0_init_155
  · have h := h.2 hc
    refine lv_iconst (v := (0 : Int32)) hx hb dX0_init_54 (by decide) ?_
    refine lv_istore (lv' := [(4, .int (0 : Int32)), (0, .ref (ad 0)), (3, .int x3)]) hx hb dX0_init_55 hl (by decide) rfl (fun ls hl => ?_)
    exact t_X0_init_57 C0 hK N hk_48 N x3 (0 : Int32) σ _ _ _ h hP hD hS (lv_sub hl [1, 2, 0] rfl)
set_option maxHeartbeats 4000000 in
set_option maxRecDepth 100000 in
theorem t_X0_init_48 (C0 : zCx p s m meth c args RX0 cX0_init 6 none vs_X0_init) (hK : va_K (dC, dI) vwCl (c_ty cI cJ cC) s) (N : Nat) {Q : zSt → Prop} : ∀ (f : Nat) (x3 : Int32) (σ : zSt) (H : Heap) (locs : List Loc) (ls : Array Slot), w_X0_init_48 N  Q f x3 σ → va_P (dC, dI) vwCl (c_W ad cI cJ cC σ) H → va_D (zAW c_n ad s.heap.size) (c_W ad cI cJ cC σ) → va_S (zAW c_n ad s.heap.size) s.heap H locs → lv_has ls 6 [(0, .ref (ad 0)), (3, .int x3)] → W p l e rm_X0_init s m args below meth c H locs 3 74 (MQ below (zQv (dC, dI) (c_ty cI cJ cC) (c_W ad cI cJ cC) (zAW c_n ad s.heap.size) Q) args s 3 74 (zAW c_n ad s.heap.size)) (F0 m 48 ls []) := by
  intro f
  induction f with
  | zero => intro x3 σ H locs ls h; exact h.elim
  | succ f ih =>
    intro x3 σ H locs ls h hP hD hS hl
    exact tb_X0_init_48 C0 hK N  (k_48 := w_X0_init_48 N  Q f) ih x3 σ H locs ls h hP hD hS hl
end ql_X0_init
set_option maxHeartbeats 4000000 in
set_option maxRecDepth 100000 in
theorem c_X0_init (l : Launch) (dC : Nat → ClassId) (dI : Nat → Nat → Nat) (cI cJ cC : ClassId) (h0 r1 r2 r3 r4 r5 r6 r7 r8 r9 : Nat) (sz : Nat) (N : Nat) (fl fh : Nat → Int32) (fs : Nat → Int64) (Q : zSt → Prop) (h : w_X0_init_48 N Q N (0 : Int32) (zB (zA (zA zS0 3 fl) 4 fh) 3 fs)) : Met l yX0_init vs_X0_init rm_X0_init (va_Pc [.ref h0, .ref r1, .ref r2] (fun U => U.heap.size = sz ∧ va_P (dC, dI) vwCl [(h0, .inr (0, [.null, .null, .null, .null, .null, .null, .int 0, .int 0, .long 0])), (r1, .inr (4, [.ref r3, .ref r4, .ref r5, .ref r6, .int 0, .int 0, .int 0, .long 0])), (r3, .inr (3, [.ref r7, .ref r8, .ref r9])), (r4, .inl (cI, 10, .inl (fun _ => 0))), (r5, .inl (cI, 10, .inl (fun _ => 0))), (r6, .inl (cI, 10, .inl (fun _ => 0))), (r7, .inl (cI, 45, .inl fl)), (r8, .inl (cI, 45, .inl fh)), (r9, .inl (cJ, 10, .inr (.inl fs)))] U.heap ∧ va_K (dC, dI) vwCl (m_ty cI cJ cC) U ∧ va_D (fun _ => True) [(h0, .inr (0, [.null, .null, .null, .null, .null, .null, .int 0, .int 0, .long 0])), (r1, .inr (4, [.ref r3, .ref r4, .ref r5, .ref r6, .int 0, .int 0, .int 0, .long 0])), (r3, .inr (3, [.ref r7, .ref r8, .ref r9])), (r4, .inl (cI, 10, .inl (fun _ => 0))), (r5, .inl (cI, 10, .inl (fun _ => 0))), (r6, .inl (cI, 10, .inl (fun _ => 0))), (r7, .inl (cI, 45, .inl fl)), (r8, .inl (cI, 45, .inl fh)), (r9, .inl (cJ, 10, .inr (.inl fs)))])) (va_Qv Q (fun u t => ∃ q1 q2 q3 : Nat, va_P (dC, dI) vwCl [(h0, .inr (0, [.ref r1, .ref r3, .ref r2, .ref q1, .ref q2, .ref q3, .int (u.1 0), .int (u.1 1), .long (u.2.1 0)])), (r1, .inr (4, [.ref r3, .ref r4, .ref r5, .ref r6, .int (u.1 2), .int (u.1 3), .int (u.1 4), .long (u.2.1 1)])), (r3, .inr (3, [.ref r7, .ref r8, .ref r9])), (q1, .inl (cJ, 32, .inr (.inl (u.2.2.2 0)))), (q2, .inl (cJ, 32, .inr (.inl (u.2.2.2 1)))), (q3, .inl (cJ, 10, .inr (.inl (u.2.2.2 2)))), (r4, .inl (cI, 10, .inl (u.2.2.1 0))), (r5, .inl (cI, 10, .inl (u.2.2.1 1))), (r6, .inl (cI, 10, .inl (u.2.2.1 2))), (r7, .inl (cI, 45, .inl (u.2.2.1 3))), (r8, .inl (cI, 45, .inl (u.2.2.1 4))), (r9, .inl (cJ, 10, .inr (.inl (u.2.2.2 3))))] t.heap ∧ va_K (dC, dI) vwCl (m_ty cI cJ cC) t ∧ va_D (va_A [(h0, .inr (0, [.null, .null, .null, .null, .null, .null, .int 0, .int 0, .long 0])), (r1, .inr (4, [.ref r3, .ref r4, .ref r5, .ref r6, .int 0, .int 0, .int 0, .long 0])), (r3, .inr (3, [.ref r7, .ref r8, .ref r9])), (r4, .inl (cI, 10, .inl (fun _ => 0))), (r5, .inl (cI, 10, .inl (fun _ => 0))), (r6, .inl (cI, 10, .inl (fun _ => 0))), (r7, .inl (cI, 45, .inl fl)), (r8, .inl (cI, 45, .inl fh)), (r9, .inl (cJ, 10, .inr (.inl fs)))] sz) [(h0, .inr (0, [.ref r1, .ref r3, .ref r2, .ref q1, .ref q2, .ref q3, .int (u.1 0), .int (u.1 1), .long (u.2.1 0)])), (r1, .inr (4, [.ref r3, .ref r4, .ref r5, .ref r6, .int (u.1 2), .int (u.1 3), .int (u.1 4), .long (u.2.1 1)])), (r3, .inr (3, [.ref r7, .ref r8, .ref r9])), (q1, .inl (cJ, 32, .inr (.inl (u.2.2.2 0)))), (q2, .inl (cJ, 32, .inr (.inl (u.2.2.2 1)))), (q3, .inl (cJ, 10, .inr (.inl (u.2.2.2 2)))), (r4, .inl (cI, 10, .inl (u.2.2.1 0))), (r5, .inl (cI, 10, .inl (u.2.2.1 1))), (r6, .inl (cI, 10, .inl (u.2.2.1 2))), (r7, .inl (cI, 45, .inl (u.2.2.1 3))), (r8, .inl (cI, 45, .inl (u.2.2.1 4))), (r9, .inl (cJ, 10, .inr (.inl (u.2.2.2 3))))]) (va_A [(h0, .inr (0, [.null, .null, .null, .null, .null, .null, .int 0, .int 0, .long 0])), (r1, .inr (4, [.ref r3, .ref r4, .ref r5, .ref r6, .int 0, .int 0, .int 0, .long 0])), (r3, .inr (3, [.ref r7, .ref r8, .ref r9])), (r4, .inl (cI, 10, .inl (fun _ => 0))), (r5, .inl (cI, 10, .inl (fun _ => 0))), (r6, .inl (cI, 10, .inl (fun _ => 0))), (r7, .inl (cI, 45, .inl fl)), (r8, .inl (cI, 45, .inl fh)), (r9, .inl (cJ, 10, .inr (.inl fs)))] sz)) 3 74 (va_A [(h0, .inr (0, [.null, .null, .null, .null, .null, .null, .int 0, .int 0, .long 0])), (r1, .inr (4, [.ref r3, .ref r4, .ref r5, .ref r6, .int 0, .int 0, .int 0, .long 0])), (r3, .inr (3, [.ref r7, .ref r8, .ref r9])), (r4, .inl (cI, 10, .inl (fun _ => 0))), (r5, .inl (cI, 10, .inl (fun _ => 0))), (r6, .inl (cI, 10, .inl (fun _ => 0))), (r7, .inl (cI, 45, .inl fl)), (r8, .inl (cI, 45, .inl fh)), (r9, .inl (cJ, 10, .inr (.inl fs)))] sz) := by
  refine Met.ofW (cc := cX0_init) (maxL := 6) (ret := none) (by decide) rfl ?_
  intro p e s m args below meth c s₁ B hml hv
  obtain ⟨rfl, hsz, hP, hK, hD0⟩ := hv
  have hx := B.exec
  have hb := B.bytes
  have hr := B.returns
  have hts := atoms_spec (ws := vs_X0_init) B.pre
  have hown : s.vm.findClass RX0 = some m.cls := findClass_of_methodNamed B.named
  have hlocks := B.notSynchronized
  have hin2 : meth.name = "<init>" := (name_of_methodNamed B.named B.method).1
  subst hsz
  have hD := hD0.self (sz := s.heap.size)
  generalize hAe : va_A [(h0, .inr (0, [.null, .null, .null, .null, .null, .null, .int 0, .int 0, .long 0])), (r1, .inr (4, [.ref r3, .ref r4, .ref r5, .ref r6, .int 0, .int 0, .int 0, .long 0])), (r3, .inr (3, [.ref r7, .ref r8, .ref r9])), (r4, .inl (cI, 10, .inl (fun _ => 0))), (r5, .inl (cI, 10, .inl (fun _ => 0))), (r6, .inl (cI, 10, .inl (fun _ => 0))), (r7, .inl (cI, 45, .inl fl)), (r8, .inl (cI, 45, .inl fh)), (r9, .inl (cJ, 10, .inr (.inl fs)))] s.heap.size = A at hD ⊢
  have hA : ∀ q : Nat, s.heap.size ≤ q → A q := fun q h => by rw [← hAe]; exact Or.inr h
  have hS : va_S A s.heap s.heap [] := va_S.rf
  have hl := lv_entry ([.ref h0, .ref r1, .ref r2]) (n := 6) (Nat.le_of_ble_eq_true rfl)
  rw [lg_entry_eq]
  generalize (lg_sl ([.ref h0, .ref r1, .ref r2]) ++ List.replicate (6 - (lg_sl ([.ref h0, .ref r1, .ref r2])).length) Slot.unset).toArray = ls at hl ⊢
  have hl : lv_has ls 6 [(0, .ref h0), (1, .ref r1), (2, .ref r2)] := hl
  refine lv_aload_n hx hb dX0_init_0 rfl (lv_at hl 0 rfl) ?_
  refine W.objInit hx hb hown (hts _ (List.mem_cons_of_mem _ mw_216)) (hts _ (List.mem_cons_of_mem _ mw_29)) (hts _ (List.mem_cons_of_mem _ mwx_obj)) rfl (by rw [hml]; exact hl.1) rfl dX0_init_1 (Nat.le_of_ble_eq_true rfl) (Nat.le_of_ble_eq_true rfl) ?_
  refine W.eq (g2 := F0 m 4 ls []) rfl ?_
  refine lv_aload_n hx hb dX0_init_4 rfl (lv_at hl 0 rfl) ?_
  refine lv_bipush (v := (32 : Int32)) hx hb dX0_init_5 (by decide) ?_
  refine znew_l (N' := 32) hx hb (hts _ (List.mem_cons_of_mem _ mw_57)) hK 1 rfl hP hD hS hA (by decide) (by decide) (by decide) (Nat.le_of_ble_eq_true rfl) (Nat.le_of_ble_eq_true rfl) dX0_init_7 (fun q1 H hP hD hS => ?_)
  have hP : va_P (dC, dI) vwCl [(h0, .inr (0, [.null, .null, .null, .null, .null, .null, .int 0, .int 0, .long 0])), (r1, .inr (4, [.ref r3, .ref r4, .ref r5, .ref r6, .int 0, .int 0, .int 0, .long 0])), (r3, .inr (3, [.ref r7, .ref r8, .ref r9])), (r4, .inl (cI, 10, .inl (fun _ => 0))), (r5, .inl (cI, 10, .inl (fun _ => 0))), (r6, .inl (cI, 10, .inl (fun _ => 0))), (r7, .inl (cI, 45, .inl fl)), (r8, .inl (cI, 45, .inl fh)), (r9, .inl (cJ, 10, .inr (.inl fs))), (q1, .inl (cJ, 32, .inr (.inl (fun _ => 0))))] H := hP
  have hD : va_D A [(h0, .inr (0, [.null, .null, .null, .null, .null, .null, .int 0, .int 0, .long 0])), (r1, .inr (4, [.ref r3, .ref r4, .ref r5, .ref r6, .int 0, .int 0, .int 0, .long 0])), (r3, .inr (3, [.ref r7, .ref r8, .ref r9])), (r4, .inl (cI, 10, .inl (fun _ => 0))), (r5, .inl (cI, 10, .inl (fun _ => 0))), (r6, .inl (cI, 10, .inl (fun _ => 0))), (r7, .inl (cI, 45, .inl fl)), (r8, .inl (cI, 45, .inl fh)), (r9, .inl (cJ, 10, .inr (.inl fs))), (q1, .inl (cJ, 32, .inr (.inl (fun _ => 0))))] := hD
  refine va_putF (D := (dC, dI)) (ci := 0) (v := .ref q1) (ty := .array .long) (C := RX0) (T := TX0) (N := 9) hx hb hts (fun w h => List.mem_cons_of_mem _ (inX0 w h)) tyX0 tyX0_ok nmX0 hown hK hP hD hS 0 rfl rfl 3 (by decide) (hts _ (List.mem_cons_of_mem _ mw_223)) (fun _ h9 => h9) rfl hin2 rfl (by decide +kernel) rfl rfl (Nat.le_of_ble_eq_true rfl) dX0_init_9 (fun H locs hP hD hS => ?_)
  have hP : va_P (dC, dI) vwCl [(h0, .inr (0, [.null, .null, .null, .ref q1, .null, .null, .int 0, .int 0, .long 0])), (r1, .inr (4, [.ref r3, .ref r4, .ref r5, .ref r6, .int 0, .int 0, .int 0, .long 0])), (r3, .inr (3, [.ref r7, .ref r8, .ref r9])), (r4, .inl (cI, 10, .inl (fun _ => 0))), (r5, .inl (cI, 10, .inl (fun _ => 0))), (r6, .inl (cI, 10, .inl (fun _ => 0))), (r7, .inl (cI, 45, .inl fl)), (r8, .inl (cI, 45, .inl fh)), (r9, .inl (cJ, 10, .inr (.inl fs))), (q1, .inl (cJ, 32, .inr (.inl (fun _ => 0))))] H := hP
  have hD : va_D A [(h0, .inr (0, [.null, .null, .null, .ref q1, .null, .null, .int 0, .int 0, .long 0])), (r1, .inr (4, [.ref r3, .ref r4, .ref r5, .ref r6, .int 0, .int 0, .int 0, .long 0])), (r3, .inr (3, [.ref r7, .ref r8, .ref r9])), (r4, .inl (cI, 10, .inl (fun _ => 0))), (r5, .inl (cI, 10, .inl (fun _ => 0))), (r6, .inl (cI, 10, .inl (fun _ => 0))), (r7, .inl (cI, 45, .inl fl)), (r8, .inl (cI, 45, .inl fh)), (r9, .inl (cJ, 10, .inr (.inl fs))), (q1, .inl (cJ, 32, .inr (.inl (fun _ => 0))))] := hD
  refine lv_aload_n hx hb dX0_init_12 rfl (lv_at hl 0 rfl) ?_
  refine lv_bipush (v := (32 : Int32)) hx hb dX0_init_13 (by decide) ?_
  refine znew_l (N' := 32) hx hb (hts _ (List.mem_cons_of_mem _ mw_57)) hK 1 rfl hP hD hS hA (by decide) (by decide) (by decide) (Nat.le_of_ble_eq_true rfl) (Nat.le_of_ble_eq_true rfl) dX0_init_15 (fun q2 H hP hD hS => ?_)
  have hP : va_P (dC, dI) vwCl [(h0, .inr (0, [.null, .null, .null, .ref q1, .null, .null, .int 0, .int 0, .long 0])), (r1, .inr (4, [.ref r3, .ref r4, .ref r5, .ref r6, .int 0, .int 0, .int 0, .long 0])), (r3, .inr (3, [.ref r7, .ref r8, .ref r9])), (r4, .inl (cI, 10, .inl (fun _ => 0))), (r5, .inl (cI, 10, .inl (fun _ => 0))), (r6, .inl (cI, 10, .inl (fun _ => 0))), (r7, .inl (cI, 45, .inl fl)), (r8, .inl (cI, 45, .inl fh)), (r9, .inl (cJ, 10, .inr (.inl fs))), (q1, .inl (cJ, 32, .inr (.inl (fun _ => 0)))), (q2, .inl (cJ, 32, .inr (.inl (fun _ => 0))))] H := hP
  have hD : va_D A [(h0, .inr (0, [.null, .null, .null, .ref q1, .null, .null, .int 0, .int 0, .long 0])), (r1, .inr (4, [.ref r3, .ref r4, .ref r5, .ref r6, .int 0, .int 0, .int 0, .long 0])), (r3, .inr (3, [.ref r7, .ref r8, .ref r9])), (r4, .inl (cI, 10, .inl (fun _ => 0))), (r5, .inl (cI, 10, .inl (fun _ => 0))), (r6, .inl (cI, 10, .inl (fun _ => 0))), (r7, .inl (cI, 45, .inl fl)), (r8, .inl (cI, 45, .inl fh)), (r9, .inl (cJ, 10, .inr (.inl fs))), (q1, .inl (cJ, 32, .inr (.inl (fun _ => 0)))), (q2, .inl (cJ, 32, .inr (.inl (fun _ => 0))))] := hD
  refine va_putF (D := (dC, dI)) (ci := 0) (v := .ref q2) (ty := .array .long) (C := RX0) (T := TX0) (N := 9) hx hb hts (fun w h => List.mem_cons_of_mem _ (inX0 w h)) tyX0 tyX0_ok nmX0 hown hK hP hD hS 0 rfl rfl 4 (by decide) (hts _ (List.mem_cons_of_mem _ mw_224)) (fun _ h9 => h9) rfl hin2 rfl (by decide +kernel) rfl rfl (Nat.le_of_ble_eq_true rfl) dX0_init_17 (fun H locs hP hD hS => ?_)
  have hP : va_P (dC, dI) vwCl [(h0, .inr (0, [.null, .null, .null, .ref q1, .ref q2, .null, .int 0, .int 0, .long 0])), (r1, .inr (4, [.ref r3, .ref r4, .ref r5, .ref r6, .int 0, .int 0, .int 0, .long 0])), (r3, .inr (3, [.ref r7, .ref r8, .ref r9])), (r4, .inl (cI, 10, .inl (fun _ => 0))), (r5, .inl (cI, 10, .inl (fun _ => 0))), (r6, .inl (cI, 10, .inl (fun _ => 0))), (r7, .inl (cI, 45, .inl fl)), (r8, .inl (cI, 45, .inl fh)), (r9, .inl (cJ, 10, .inr (.inl fs))), (q1, .inl (cJ, 32, .inr (.inl (fun _ => 0)))), (q2, .inl (cJ, 32, .inr (.inl (fun _ => 0))))] H := hP
  have hD : va_D A [(h0, .inr (0, [.null, .null, .null, .ref q1, .ref q2, .null, .int 0, .int 0, .long 0])), (r1, .inr (4, [.ref r3, .ref r4, .ref r5, .ref r6, .int 0, .int 0, .int 0, .long 0])), (r3, .inr (3, [.ref r7, .ref r8, .ref r9])), (r4, .inl (cI, 10, .inl (fun _ => 0))), (r5, .inl (cI, 10, .inl (fun _ => 0))), (r6, .inl (cI, 10, .inl (fun _ => 0))), (r7, .inl (cI, 45, .inl fl)), (r8, .inl (cI, 45, .inl fh)), (r9, .inl (cJ, 10, .inr (.inl fs))), (q1, .inl (cJ, 32, .inr (.inl (fun _ => 0)))), (q2, .inl (cJ, 32, .inr (.inl (fun _ => 0))))] := hD
  refine lv_aload_n hx hb dX0_init_20 rfl (lv_at hl 0 rfl) ?_
  refine lv_bipush (v := (10 : Int32)) hx hb dX0_init_21 (by decide) ?_
  refine znew_l (N' := 10) hx hb (hts _ (List.mem_cons_of_mem _ mw_57)) hK 1 rfl hP hD hS hA (by decide) (by decide) (by decide) (Nat.le_of_ble_eq_true rfl) (Nat.le_of_ble_eq_true rfl) dX0_init_23 (fun q3 H hP hD hS => ?_)
  have hP : va_P (dC, dI) vwCl [(h0, .inr (0, [.null, .null, .null, .ref q1, .ref q2, .null, .int 0, .int 0, .long 0])), (r1, .inr (4, [.ref r3, .ref r4, .ref r5, .ref r6, .int 0, .int 0, .int 0, .long 0])), (r3, .inr (3, [.ref r7, .ref r8, .ref r9])), (r4, .inl (cI, 10, .inl (fun _ => 0))), (r5, .inl (cI, 10, .inl (fun _ => 0))), (r6, .inl (cI, 10, .inl (fun _ => 0))), (r7, .inl (cI, 45, .inl fl)), (r8, .inl (cI, 45, .inl fh)), (r9, .inl (cJ, 10, .inr (.inl fs))), (q1, .inl (cJ, 32, .inr (.inl (fun _ => 0)))), (q2, .inl (cJ, 32, .inr (.inl (fun _ => 0)))), (q3, .inl (cJ, 10, .inr (.inl (fun _ => 0))))] H := hP
  have hD : va_D A [(h0, .inr (0, [.null, .null, .null, .ref q1, .ref q2, .null, .int 0, .int 0, .long 0])), (r1, .inr (4, [.ref r3, .ref r4, .ref r5, .ref r6, .int 0, .int 0, .int 0, .long 0])), (r3, .inr (3, [.ref r7, .ref r8, .ref r9])), (r4, .inl (cI, 10, .inl (fun _ => 0))), (r5, .inl (cI, 10, .inl (fun _ => 0))), (r6, .inl (cI, 10, .inl (fun _ => 0))), (r7, .inl (cI, 45, .inl fl)), (r8, .inl (cI, 45, .inl fh)), (r9, .inl (cJ, 10, .inr (.inl fs))), (q1, .inl (cJ, 32, .inr (.inl (fun _ => 0)))), (q2, .inl (cJ, 32, .inr (.inl (fun _ => 0)))), (q3, .inl (cJ, 10, .inr (.inl (fun _ => 0))))] := hD
  refine va_putF (D := (dC, dI)) (ci := 0) (v := .ref q3) (ty := .array .long) (C := RX0) (T := TX0) (N := 9) hx hb hts (fun w h => List.mem_cons_of_mem _ (inX0 w h)) tyX0 tyX0_ok nmX0 hown hK hP hD hS 0 rfl rfl 5 (by decide) (hts _ (List.mem_cons_of_mem _ mw_225)) (fun _ h9 => h9) rfl hin2 rfl (by decide +kernel) rfl rfl (Nat.le_of_ble_eq_true rfl) dX0_init_25 (fun H locs hP hD hS => ?_)
  have hP : va_P (dC, dI) vwCl [(h0, .inr (0, [.null, .null, .null, .ref q1, .ref q2, .ref q3, .int 0, .int 0, .long 0])), (r1, .inr (4, [.ref r3, .ref r4, .ref r5, .ref r6, .int 0, .int 0, .int 0, .long 0])), (r3, .inr (3, [.ref r7, .ref r8, .ref r9])), (r4, .inl (cI, 10, .inl (fun _ => 0))), (r5, .inl (cI, 10, .inl (fun _ => 0))), (r6, .inl (cI, 10, .inl (fun _ => 0))), (r7, .inl (cI, 45, .inl fl)), (r8, .inl (cI, 45, .inl fh)), (r9, .inl (cJ, 10, .inr (.inl fs))), (q1, .inl (cJ, 32, .inr (.inl (fun _ => 0)))), (q2, .inl (cJ, 32, .inr (.inl (fun _ => 0)))), (q3, .inl (cJ, 10, .inr (.inl (fun _ => 0))))] H := hP
  have hD : va_D A [(h0, .inr (0, [.null, .null, .null, .ref q1, .ref q2, .ref q3, .int 0, .int 0, .long 0])), (r1, .inr (4, [.ref r3, .ref r4, .ref r5, .ref r6, .int 0, .int 0, .int 0, .long 0])), (r3, .inr (3, [.ref r7, .ref r8, .ref r9])), (r4, .inl (cI, 10, .inl (fun _ => 0))), (r5, .inl (cI, 10, .inl (fun _ => 0))), (r6, .inl (cI, 10, .inl (fun _ => 0))), (r7, .inl (cI, 45, .inl fl)), (r8, .inl (cI, 45, .inl fh)), (r9, .inl (cJ, 10, .inr (.inl fs))), (q1, .inl (cJ, 32, .inr (.inl (fun _ => 0)))), (q2, .inl (cJ, 32, .inr (.inl (fun _ => 0)))), (q3, .inl (cJ, 10, .inr (.inl (fun _ => 0))))] := hD
  refine lv_aload_n hx hb dX0_init_28 rfl (lv_at hl 0 rfl) ?_
  refine lv_aload_n hx hb dX0_init_29 rfl (lv_at hl 1 rfl) ?_
  refine va_putF (D := (dC, dI)) (ci := 0) (v := .ref r1) (ty := .object "TieStreet$People") (C := RX0) (T := TX0) (N := 9) hx hb hts (fun w h => List.mem_cons_of_mem _ (inX0 w h)) tyX0 tyX0_ok nmX0 hown hK hP hD hS 0 rfl rfl 0 (by decide) (hts _ (List.mem_cons_of_mem _ mw_220)) (fun _ h9 => h9) rfl hin2 rfl (by decide +kernel) rfl rfl (Nat.le_of_ble_eq_true rfl) dX0_init_30 (fun H locs hP hD hS => ?_)
  have hP : va_P (dC, dI) vwCl [(h0, .inr (0, [.ref r1, .null, .null, .ref q1, .ref q2, .ref q3, .int 0, .int 0, .long 0])), (r1, .inr (4, [.ref r3, .ref r4, .ref r5, .ref r6, .int 0, .int 0, .int 0, .long 0])), (r3, .inr (3, [.ref r7, .ref r8, .ref r9])), (r4, .inl (cI, 10, .inl (fun _ => 0))), (r5, .inl (cI, 10, .inl (fun _ => 0))), (r6, .inl (cI, 10, .inl (fun _ => 0))), (r7, .inl (cI, 45, .inl fl)), (r8, .inl (cI, 45, .inl fh)), (r9, .inl (cJ, 10, .inr (.inl fs))), (q1, .inl (cJ, 32, .inr (.inl (fun _ => 0)))), (q2, .inl (cJ, 32, .inr (.inl (fun _ => 0)))), (q3, .inl (cJ, 10, .inr (.inl (fun _ => 0))))] H := hP
  have hD : va_D A [(h0, .inr (0, [.ref r1, .null, .null, .ref q1, .ref q2, .ref q3, .int 0, .int 0, .long 0])), (r1, .inr (4, [.ref r3, .ref r4, .ref r5, .ref r6, .int 0, .int 0, .int 0, .long 0])), (r3, .inr (3, [.ref r7, .ref r8, .ref r9])), (r4, .inl (cI, 10, .inl (fun _ => 0))), (r5, .inl (cI, 10, .inl (fun _ => 0))), (r6, .inl (cI, 10, .inl (fun _ => 0))), (r7, .inl (cI, 45, .inl fl)), (r8, .inl (cI, 45, .inl fh)), (r9, .inl (cJ, 10, .inr (.inl fs))), (q1, .inl (cJ, 32, .inr (.inl (fun _ => 0)))), (q2, .inl (cJ, 32, .inr (.inl (fun _ => 0)))), (q3, .inl (cJ, 10, .inr (.inl (fun _ => 0))))] := hD
  refine lv_aload_n hx hb dX0_init_33 rfl (lv_at hl 0 rfl) ?_
  refine lv_aload_n hx hb dX0_init_34 rfl (lv_at hl 1 rfl) ?_
  refine va_get (D := (dC, dI)) (ci := 4) (v := .ref r3) (C := RX4) (T := TX4) (N := 8) hx hb hts (fun w h => List.mem_cons_of_mem _ (inX4 w h)) hown hK hP 1 rfl rfl 0 (by decide) (hts _ (List.mem_cons_of_mem _ mw_65)) (fun _ h9 => h9) rfl dX0_init_35 ?_
  refine va_putF (D := (dC, dI)) (ci := 0) (v := .ref r3) (ty := .object "TieStreet$Pairs") (C := RX0) (T := TX0) (N := 9) hx hb hts (fun w h => List.mem_cons_of_mem _ (inX0 w h)) tyX0 tyX0_ok nmX0 hown hK hP hD hS 0 rfl rfl 1 (by decide) (hts _ (List.mem_cons_of_mem _ mw_221)) (fun _ h9 => h9) rfl hin2 rfl (by decide +kernel) rfl rfl (Nat.le_of_ble_eq_true rfl) dX0_init_38 (fun H locs hP hD hS => ?_)
  have hP : va_P (dC, dI) vwCl [(h0, .inr (0, [.ref r1, .ref r3, .null, .ref q1, .ref q2, .ref q3, .int 0, .int 0, .long 0])), (r1, .inr (4, [.ref r3, .ref r4, .ref r5, .ref r6, .int 0, .int 0, .int 0, .long 0])), (r3, .inr (3, [.ref r7, .ref r8, .ref r9])), (r4, .inl (cI, 10, .inl (fun _ => 0))), (r5, .inl (cI, 10, .inl (fun _ => 0))), (r6, .inl (cI, 10, .inl (fun _ => 0))), (r7, .inl (cI, 45, .inl fl)), (r8, .inl (cI, 45, .inl fh)), (r9, .inl (cJ, 10, .inr (.inl fs))), (q1, .inl (cJ, 32, .inr (.inl (fun _ => 0)))), (q2, .inl (cJ, 32, .inr (.inl (fun _ => 0)))), (q3, .inl (cJ, 10, .inr (.inl (fun _ => 0))))] H := hP
  have hD : va_D A [(h0, .inr (0, [.ref r1, .ref r3, .null, .ref q1, .ref q2, .ref q3, .int 0, .int 0, .long 0])), (r1, .inr (4, [.ref r3, .ref r4, .ref r5, .ref r6, .int 0, .int 0, .int 0, .long 0])), (r3, .inr (3, [.ref r7, .ref r8, .ref r9])), (r4, .inl (cI, 10, .inl (fun _ => 0))), (r5, .inl (cI, 10, .inl (fun _ => 0))), (r6, .inl (cI, 10, .inl (fun _ => 0))), (r7, .inl (cI, 45, .inl fl)), (r8, .inl (cI, 45, .inl fh)), (r9, .inl (cJ, 10, .inr (.inl fs))), (q1, .inl (cJ, 32, .inr (.inl (fun _ => 0)))), (q2, .inl (cJ, 32, .inr (.inl (fun _ => 0)))), (q3, .inl (cJ, 10, .inr (.inl (fun _ => 0))))] := hD
  refine lv_aload_n hx hb dX0_init_41 rfl (lv_at hl 0 rfl) ?_
  refine lv_aload_n hx hb dX0_init_42 rfl (lv_at hl 2 rfl) ?_
  refine va_putF (D := (dC, dI)) (ci := 0) (v := .ref r2) (ty := .object "TieStreet$Worths") (C := RX0) (T := TX0) (N := 9) hx hb hts (fun w h => List.mem_cons_of_mem _ (inX0 w h)) tyX0 tyX0_ok nmX0 hown hK hP hD hS 0 rfl rfl 2 (by decide) (hts _ (List.mem_cons_of_mem _ mw_222)) (fun _ h9 => h9) rfl hin2 rfl (by decide +kernel) rfl rfl (Nat.le_of_ble_eq_true rfl) dX0_init_43 (fun H locs hP hD hS => ?_)
  have hP : va_P (dC, dI) vwCl [(h0, .inr (0, [.ref r1, .ref r3, .ref r2, .ref q1, .ref q2, .ref q3, .int 0, .int 0, .long 0])), (r1, .inr (4, [.ref r3, .ref r4, .ref r5, .ref r6, .int 0, .int 0, .int 0, .long 0])), (r3, .inr (3, [.ref r7, .ref r8, .ref r9])), (r4, .inl (cI, 10, .inl (fun _ => 0))), (r5, .inl (cI, 10, .inl (fun _ => 0))), (r6, .inl (cI, 10, .inl (fun _ => 0))), (r7, .inl (cI, 45, .inl fl)), (r8, .inl (cI, 45, .inl fh)), (r9, .inl (cJ, 10, .inr (.inl fs))), (q1, .inl (cJ, 32, .inr (.inl (fun _ => 0)))), (q2, .inl (cJ, 32, .inr (.inl (fun _ => 0)))), (q3, .inl (cJ, 10, .inr (.inl (fun _ => 0))))] H := hP
  have hD : va_D A [(h0, .inr (0, [.ref r1, .ref r3, .ref r2, .ref q1, .ref q2, .ref q3, .int 0, .int 0, .long 0])), (r1, .inr (4, [.ref r3, .ref r4, .ref r5, .ref r6, .int 0, .int 0, .int 0, .long 0])), (r3, .inr (3, [.ref r7, .ref r8, .ref r9])), (r4, .inl (cI, 10, .inl (fun _ => 0))), (r5, .inl (cI, 10, .inl (fun _ => 0))), (r6, .inl (cI, 10, .inl (fun _ => 0))), (r7, .inl (cI, 45, .inl fl)), (r8, .inl (cI, 45, .inl fh)), (r9, .inl (cJ, 10, .inr (.inl fs))), (q1, .inl (cJ, 32, .inr (.inl (fun _ => 0)))), (q2, .inl (cJ, 32, .inr (.inl (fun _ => 0)))), (q3, .inl (cJ, 10, .inr (.inl (fun _ => 0))))] := hD
  refine lv_iconst (v := (0 : Int32)) hx hb dX0_init_46 (by decide) ?_
  refine lv_istore_n (lv' := [(3, .int (0 : Int32)), (0, .ref h0), (1, .ref r1), (2, .ref r2)]) hx hb dX0_init_47 rfl hl (by decide) rfl (fun ls hl => ?_)
  have hP := hP.sub (ws' := (c_W (zad [h0, r1, r3, q1, q2, q3, r4, r5, r6, r7, r8, r9, r2]) cI cJ cC (zB (zA (zA zS0 3 fl) 4 fh) 3 fs))) [0, 1, 2, 9, 10, 11, 3, 4, 5, 6, 7, 8] rfl
  have hD := hD.sub (ws' := (c_W (zad [h0, r1, r3, q1, q2, q3, r4, r5, r6, r7, r8, r9, r2]) cI cJ cC (zB (zA (zA zS0 3 fl) 4 fh) 3 fs))) [0, 1, 2, 9, 10, 11, 3, 4, 5, 6, 7, 8] (by decide) rfl
  have hAe2 : A = zAW c_n (zad [h0, r1, r3, q1, q2, q3, r4, r5, r6, r7, r8, r9, r2]) s.heap.size := by
    rw [← hAe]
    refine zA_eq (w := (c_W (zad [h0, r1, r3, q1, q2, q3, r4, r5, r6, r7, r8, r9, r2]) cI cJ cC (zB (zA (zA zS0 3 fl) 4 fh) 3 fs))) rfl (by rw [hAe]; exact hD) ?_
    intro q hq
    simp only [List.mem_cons, List.not_mem_nil, or_false] at hq
    rcases hq with hq | hq | hq | hq | hq | hq | hq | hq | hq <;> subst hq
    · exact ⟨0, by decide, rfl⟩
    · exact ⟨1, by decide, rfl⟩
    · exact ⟨2, by decide, rfl⟩
    · exact ⟨6, by decide, rfl⟩
    · exact ⟨7, by decide, rfl⟩
    · exact ⟨8, by decide, rfl⟩
    · exact ⟨9, by decide, rfl⟩
    · exact ⟨10, by decide, rfl⟩
    · exact ⟨11, by decide, rfl⟩
  clear hAe; subst hAe2
  have C0 : zCx p s m meth c _ RX0 cX0_init 6 none vs_X0_init := ⟨hx, hb, hml, hr, hown, hts, hlocks⟩
  refine zW_mono (zMQ_mono (fun o t hq => ?_)) (t_X0_init_48 (ad := (zad [h0, r1, r3, q1, q2, q3, r4, r5, r6, r7, r8, r9, r2])) C0 hK N N (0 : Int32) (zB (zA (zA zS0 3 fl) 4 fh) 3 fs) _ _ _ h hP hD hS (lv_sub hl [1, 0] rfl))
  obtain ⟨⟨u, h1, h2, h3⟩, h4⟩ := hq
  exact ⟨⟨u, h1, h2, q1, q2, q3, h3.1, h3.2.1, h3.2.2⟩, h4⟩
