def rm_X3_init : Room := { frames := 1, cells := 3, slots := 100, locals := 60 }
def vs_X3_init : List Cond := .code yX3_init cX3_init 4 none :: zT
section ql_X3_init
def b_X3_init_40 (N : Nat) (k_32 : Int32 → Int32 → zSt → Prop) (k_40 : Int32 → Int32 → Int32 → zSt → Prop) (Q : zSt → Prop) (x1 : Int32) (x2 : Int32) (x3 : Int32) (σ : zSt) : Prop :=
  (x2 ≤ x3 → ∀ v1 : Int32, v1 = x2 + (1 : Int32) → k_32 x1 v1 σ) ∧ (¬ x2 ≤ x3 → (vp_in x1 45) ∧ (∀ τ2 : zSt, τ2 = zA σ 0 (upd (σ.2.2.1 0) (x1.toNatClampNeg) x3) → (vp_in x1 45) ∧ (∀ τ3 : zSt, τ3 = zA τ2 1 (upd (τ2.2.2.1 1) (x1.toNatClampNeg) x2) → (vp_in x3 10) ∧ ((vp_in x3 10) ∧ (∀ τ4 : zSt, τ4 = zB τ3 0 (vp_updL (τ3.2.2.2 0) (x3.toNatClampNeg) ((τ3.2.2.2 0 x3.toNatClampNeg) ||| ((1 : Int64) <<< (x1.toInt64 &&& 63)))) → (vp_in x2 10) ∧ ((vp_in x2 10) ∧ (∀ τ5 : zSt, τ5 = zB τ4 0 (vp_updL (τ4.2.2.2 0) (x2.toNatClampNeg) ((τ4.2.2.2 0 x2.toNatClampNeg) ||| ((1 : Int64) <<< (x1.toInt64 &&& 63)))) → ∀ v6 : Int32, v6 = x1 + (1 : Int32) → ∀ v7 : Int32, v7 = x3 + (1 : Int32) → k_40 v6 x2 v7 τ5)))))))
def w_X3_init_40 (N : Nat) (k_32 : Int32 → Int32 → zSt → Prop) (Q : zSt → Prop) : Nat → Int32 → Int32 → Int32 → zSt → Prop
  | 0 => fun _ _ _ _ => False
  | f + 1 => b_X3_init_40 N k_32 (w_X3_init_40 N k_32 Q f) Q
def b_X3_init_32 (N : Nat) (k_32 : Int32 → Int32 → zSt → Prop) (Q : zSt → Prop) (x1 : Int32) (x2 : Int32) (σ : zSt) : Prop :=
  ((10 : Int32) ≤ x2 → Q σ) ∧ (¬ (10 : Int32) ≤ x2 → w_X3_init_40 N k_32 Q N x1 x2 (0 : Int32) σ)
def w_X3_init_32 (N : Nat) (Q : zSt → Prop) : Nat → Int32 → Int32 → zSt → Prop
  | 0 => fun _ _ _ => False
  | f + 1 => b_X3_init_32 N (w_X3_init_32 N  Q f) Q
variable {p : Program} {l : Launch} {e : Env} {s : State} {m : MethodId} {args : Array Value} {below : List Frame} {meth : Method} {c : Code} {dC : Nat → ClassId} {dI : Nat → Nat → Nat} {ad : Nat → Nat} {cI cJ cC : ClassId}
set_option maxHeartbeats 4000000 in
set_option maxRecDepth 100000 in
theorem tb_X3_init_40 (C0 : zCx p s m meth c args RX3 cX3_init 4 none vs_X3_init) (hK : va_K (dC, dI) vwCl (p_ty cI cJ cC) s) (N : Nat) {Q : zSt → Prop} {k_32 : Int32 → Int32 → zSt → Prop} (hk_32 : ∀ (x1 : Int32) (x2 : Int32) (σ : zSt) (H : Heap) (locs : List Loc) (ls : Array Slot), k_32 x1 x2 σ → va_P (dC, dI) vwCl (p_W ad cI cJ cC σ) H → va_D (zAW p_n ad s.heap.size) (p_W ad cI cJ cC σ) → va_S (zAW p_n ad s.heap.size) s.heap H locs → lv_has ls 4 [(0, .ref (ad 0)), (1, .int x1), (2, .int x2)] → W p l e rm_X3_init s m args below meth c H locs 3 100 (MQ below (zQv (dC, dI) (p_ty cI cJ cC) (p_W ad cI cJ cC) (zAW p_n ad s.heap.size) Q) args s 3 100 (zAW p_n ad s.heap.size)) (F0 m 32 ls [])) {k_40 : Int32 → Int32 → Int32 → zSt → Prop} (hk_40 : ∀ (x1 : Int32) (x2 : Int32) (x3 : Int32) (σ : zSt) (H : Heap) (locs : List Loc) (ls : Array Slot), k_40 x1 x2 x3 σ → va_P (dC, dI) vwCl (p_W ad cI cJ cC σ) H → va_D (zAW p_n ad s.heap.size) (p_W ad cI cJ cC σ) → va_S (zAW p_n ad s.heap.size) s.heap H locs → lv_has ls 4 [(0, .ref (ad 0)), (1, .int x1), (2, .int x2), (3, .int x3)] → W p l e rm_X3_init s m args below meth c H locs 3 100 (MQ below (zQv (dC, dI) (p_ty cI cJ cC) (p_W ad cI cJ cC) (zAW p_n ad s.heap.size) Q) args s 3 100 (zAW p_n ad s.heap.size)) (F0 m 40 ls [])) : ∀ (x1 : Int32) (x2 : Int32) (x3 : Int32) (σ : zSt) (H : Heap) (locs : List Loc) (ls : Array Slot), b_X3_init_40 N k_32 k_40 Q x1 x2 x3 σ → va_P (dC, dI) vwCl (p_W ad cI cJ cC σ) H → va_D (zAW p_n ad s.heap.size) (p_W ad cI cJ cC σ) → va_S (zAW p_n ad s.heap.size) s.heap H locs → lv_has ls 4 [(0, .ref (ad 0)), (1, .int x1), (2, .int x2), (3, .int x3)] → W p l e rm_X3_init s m args below meth c H locs 3 100 (MQ below (zQv (dC, dI) (p_ty cI cJ cC) (p_W ad cI cJ cC) (zAW p_n ad s.heap.size) Q) args s 3 100 (zAW p_n ad s.heap.size)) (F0 m 40 ls []) := by
  obtain ⟨hx, hb, hml, hr, hown, hts, hlocks⟩ := id C0
  intro x1 x2 x3 σ H locs ls h hP hD hS hl
  unfold b_X3_init_40 at h
  refine lv_iload_n hx hb dX3_init_40 rfl (lv_at hl 3 rfl) ?_
  refine lv_iload_n hx hb dX3_init_41 rfl (lv_at hl 2 rfl) ?_
  refine lv_icmp_ge (tgt := 92) hx hb dX3_init_42 (by decide) (fun hc => ?_) (fun hc => ?_)
  · have h := h.1 hc
    obtain ⟨v1, ev1⟩ : ∃ z : Int32, z = x2 + (1 : Int32) := ⟨_, rfl⟩
    have h := h v1 ev1
    refine lv_iinc (v := v1) (lv' := [(2, .int v1), (0, .ref (ad 0)), (1, .int x1), (3, .int x3)]) hx hb dX3_init_92 hl (k := 2) rfl (by rw [ev1]; rfl) (by decide) rfl (fun ls hl => ?_)
    refine lv_goto (tgt := 32) hx hb dX3_init_95 (by decide) ?_
    exact hk_32 x1 v1 σ _ _ _ h hP hD hS (lv_sub hl [1, 2, 0] rfl)
  · have h := h.2 hc
    refine lv_aload_n hx hb dX3_init_45 rfl (lv_at hl 0 rfl) ?_
    refine pg_0_0 hx hb hts hown hK hP mw_45 dX3_init_46 ?_
    refine lv_iload_n hx hb dX3_init_49 rfl (lv_at hl 1 rfl) ?_
    refine lv_iload_n hx hb dX3_init_50 rfl (lv_at hl 3 rfl) ?_
    refine ps_1 hx hb hK hP hD hS h.1 rfl dX3_init_51 (fun τ2 H locs eτ2 hP hD hS => ?_)
    have h := h.2
    have h := h τ2 eτ2
    refine lv_aload_n hx hb dX3_init_52 rfl (lv_at hl 0 rfl) ?_
    refine pg_0_1 hx hb hts hown hK hP mw_49 dX3_init_53 ?_
    refine lv_iload_n hx hb dX3_init_56 rfl (lv_at hl 1 rfl) ?_
    refine lv_iload_n hx hb dX3_init_57 rfl (lv_at hl 2 rfl) ?_
    refine ps_2 hx hb hK hP hD hS h.1 rfl dX3_init_58 (fun τ3 H locs eτ3 hP hD hS => ?_)
    have h := h.2
    have h := h τ3 eτ3
    refine lv_aload_n hx hb dX3_init_59 rfl (lv_at hl 0 rfl) ?_
    refine pg_0_2 hx hb hts hown hK hP mw_53 dX3_init_60 ?_
    refine lv_iload_n hx hb dX3_init_63 rfl (lv_at hl 3 rfl) ?_
    refine lv_dup2_11 hx hb dX3_init_64 rfl rfl ?_
    refine pa_3 hx hb hK hP h.1 rfl dX3_init_65 ?_
    have h := h.2
    refine lv_lconst (v := (1 : Int64)) hx hb dX3_init_66 (by decide) ?_
    refine lv_iload_n hx hb dX3_init_67 rfl (lv_at hl 1 rfl) ?_
    refine lv_lshl hx hb dX3_init_68 rfl ?_
    refine lv_lor hx hb dX3_init_69 ?_
    refine ps_3 hx hb hK hP hD hS h.1 rfl dX3_init_70 (fun τ4 H locs eτ4 hP hD hS => ?_)
    have h := h.2
    have h := h τ4 eτ4
    refine lv_aload_n hx hb dX3_init_71 rfl (lv_at hl 0 rfl) ?_
    refine pg_0_2 hx hb hts hown hK hP mw_53 dX3_init_72 ?_
    refine lv_iload_n hx hb dX3_init_75 rfl (lv_at hl 2 rfl) ?_
    refine lv_dup2_11 hx hb dX3_init_76 rfl rfl ?_
    refine pa_3 hx hb hK hP h.1 rfl dX3_init_77 ?_
    have h := h.2
    refine lv_lconst (v := (1 : Int64)) hx hb dX3_init_78 (by decide) ?_
    refine lv_iload_n hx hb dX3_init_79 rfl (lv_at hl 1 rfl) ?_
    refine lv_lshl hx hb dX3_init_80 rfl ?_
    refine lv_lor hx hb dX3_init_81 ?_
    refine ps_3 hx hb hK hP hD hS h.1 rfl dX3_init_82 (fun τ5 H locs eτ5 hP hD hS => ?_)
    have h := h.2
    have h := h τ5 eτ5
    obtain ⟨v6, ev6⟩ : ∃ z : Int32, z = x1 + (1 : Int32) := ⟨_, rfl⟩
    have h := h v6 ev6
    refine lv_iinc (v := v6) (lv' := [(1, .int v6), (0, .ref (ad 0)), (2, .int x2), (3, .int x3)]) hx hb dX3_init_83 hl (k := 1) rfl (by rw [ev6]; rfl) (by decide) rfl (fun ls hl => ?_)
    obtain ⟨v7, ev7⟩ : ∃ z : Int32, z = x3 + (1 : Int32) := ⟨_, rfl⟩
    have h := h v7 ev7
    refine lv_iinc (v := v7) (lv' := [(3, .int v7), (1, .int v6), (0, .ref (ad 0)), (2, .int x2)]) hx hb dX3_init_86 hl (k := 3) rfl (by rw [ev7]; rfl) (by decide) rfl (fun ls hl => ?_)
    refine lv_goto (tgt := 40) hx hb dX3_init_89 (by decide) ?_
    exact hk_40 v6 x2 v7 τ5 _ _ _ h hP hD hS (lv_sub hl [2, 1, 3, 0] rfl)
set_option maxHeartbeats 4000000 in
set_option maxRecDepth 100000 in
theorem t_X3_init_40 (C0 : zCx p s m meth c args RX3 cX3_init 4 none vs_X3_init) (hK : va_K (dC, dI) vwCl (p_ty cI cJ cC) s) (N : Nat) {Q : zSt → Prop} {k_32 : Int32 → Int32 → zSt → Prop} (hk_32 : ∀ (x1 : Int32) (x2 : Int32) (σ : zSt) (H : Heap) (locs : List Loc) (ls : Array Slot), k_32 x1 x2 σ → va_P (dC, dI) vwCl (p_W ad cI cJ cC σ) H → va_D (zAW p_n ad s.heap.size) (p_W ad cI cJ cC σ) → va_S (zAW p_n ad s.heap.size) s.heap H locs → lv_has ls 4 [(0, .ref (ad 0)), (1, .int x1), (2, .int x2)] → W p l e rm_X3_init s m args below meth c H locs 3 100 (MQ below (zQv (dC, dI) (p_ty cI cJ cC) (p_W ad cI cJ cC) (zAW p_n ad s.heap.size) Q) args s 3 100 (zAW p_n ad s.heap.size)) (F0 m 32 ls [])) : ∀ (f : Nat) (x1 : Int32) (x2 : Int32) (x3 : Int32) (σ : zSt) (H : Heap) (locs : List Loc) (ls : Array Slot), w_X3_init_40 N k_32 Q f x1 x2 x3 σ → va_P (dC, dI) vwCl (p_W ad cI cJ cC σ) H → va_D (zAW p_n ad s.heap.size) (p_W ad cI cJ cC σ) → va_S (zAW p_n ad s.heap.size) s.heap H locs → lv_has ls 4 [(0, .ref (ad 0)), (1, .int x1), (2, .int x2), (3, .int x3)] → W p l e rm_X3_init s m args below meth c H locs 3 100 (MQ below (zQv (dC, dI) (p_ty cI cJ cC) (p_W ad cI cJ cC) (zAW p_n ad s.heap.size) Q) args s 3 100 (zAW p_n ad s.heap.size)) (F0 m 40 ls []) := by
  intro f
  induction f with
  | zero => intro x1 x2 x3 σ H locs ls h; exact h.elim
  | succ f ih =>
    intro x1 x2 x3 σ H locs ls h hP hD hS hl
    exact tb_X3_init_40 C0 hK N hk_32 (k_40 := w_X3_init_40 N k_32 Q f) ih x1 x2 x3 σ H locs ls h hP hD hS hl
set_option maxHeartbeats 4000000 in
set_option maxRecDepth 100000 in
theorem tb_X3_init_32 (C0 : zCx p s m meth c args RX3 cX3_init 4 none vs_X3_init) (hK : va_K (dC, dI) vwCl (p_ty cI cJ cC) s) (N : Nat) {Q : zSt → Prop} {k_32 : Int32 → Int32 → zSt → Prop} (hk_32 : ∀ (x1 : Int32) (x2 : Int32) (σ : zSt) (H : Heap) (locs : List Loc) (ls : Array Slot), k_32 x1 x2 σ → va_P (dC, dI) vwCl (p_W ad cI cJ cC σ) H → va_D (zAW p_n ad s.heap.size) (p_W ad cI cJ cC σ) → va_S (zAW p_n ad s.heap.size) s.heap H locs → lv_has ls 4 [(0, .ref (ad 0)), (1, .int x1), (2, .int x2)] → W p l e rm_X3_init s m args below meth c H locs 3 100 (MQ below (zQv (dC, dI) (p_ty cI cJ cC) (p_W ad cI cJ cC) (zAW p_n ad s.heap.size) Q) args s 3 100 (zAW p_n ad s.heap.size)) (F0 m 32 ls [])) : ∀ (x1 : Int32) (x2 : Int32) (σ : zSt) (H : Heap) (locs : List Loc) (ls : Array Slot), b_X3_init_32 N k_32 Q x1 x2 σ → va_P (dC, dI) vwCl (p_W ad cI cJ cC σ) H → va_D (zAW p_n ad s.heap.size) (p_W ad cI cJ cC σ) → va_S (zAW p_n ad s.heap.size) s.heap H locs → lv_has ls 4 [(0, .ref (ad 0)), (1, .int x1), (2, .int x2)] → W p l e rm_X3_init s m args below meth c H locs 3 100 (MQ below (zQv (dC, dI) (p_ty cI cJ cC) (p_W ad cI cJ cC) (zAW p_n ad s.heap.size) Q) args s 3 100 (zAW p_n ad s.heap.size)) (F0 m 32 ls []) := by
  obtain ⟨hx, hb, hml, hr, hown, hts, hlocks⟩ := id C0
  intro x1 x2 σ H locs ls h hP hD hS hl
  unfold b_X3_init_32 at h
  refine lv_iload_n hx hb dX3_init_32 rfl (lv_at hl 2 rfl) ?_
  refine lv_bipush (v := (10 : Int32)) hx hb dX3_init_33 (by decide) ?_
  refine lv_icmp_ge (tgt := 98) hx hb dX3_init_35 (by decide) (fun hc => ?_) (fun hc => ?_)
  · have h := h.1 hc
    exact zret_v hx hb hr hlocks hK hP hD hS h dX3_init_98
  · have h := h.2 hc
    refine lv_iconst (v := (0 : Int32)) hx hb dX3_init_38 (by decide) ?_
    refine lv_istore_n (lv' := [(3, .int (0 : Int32)), (0, .ref (ad 0)), (1, .int x1), (2, .int x2)]) hx hb dX3_init_39 rfl hl (by decide) rfl (fun ls hl => ?_)
    exact t_X3_init_40 C0 hK N hk_32 N x1 x2 (0 : Int32) σ _ _ _ h hP hD hS (lv_sub hl [1, 2, 3, 0] rfl)
set_option maxHeartbeats 4000000 in
set_option maxRecDepth 100000 in
theorem t_X3_init_32 (C0 : zCx p s m meth c args RX3 cX3_init 4 none vs_X3_init) (hK : va_K (dC, dI) vwCl (p_ty cI cJ cC) s) (N : Nat) {Q : zSt → Prop} : ∀ (f : Nat) (x1 : Int32) (x2 : Int32) (σ : zSt) (H : Heap) (locs : List Loc) (ls : Array Slot), w_X3_init_32 N  Q f x1 x2 σ → va_P (dC, dI) vwCl (p_W ad cI cJ cC σ) H → va_D (zAW p_n ad s.heap.size) (p_W ad cI cJ cC σ) → va_S (zAW p_n ad s.heap.size) s.heap H locs → lv_has ls 4 [(0, .ref (ad 0)), (1, .int x1), (2, .int x2)] → W p l e rm_X3_init s m args below meth c H locs 3 100 (MQ below (zQv (dC, dI) (p_ty cI cJ cC) (p_W ad cI cJ cC) (zAW p_n ad s.heap.size) Q) args s 3 100 (zAW p_n ad s.heap.size)) (F0 m 32 ls []) := by
  intro f
  induction f with
  | zero => intro x1 x2 σ H locs ls h; exact h.elim
  | succ f ih =>
    intro x1 x2 σ H locs ls h hP hD hS hl
    exact tb_X3_init_32 C0 hK N  (k_32 := w_X3_init_32 N  Q f) ih x1 x2 σ H locs ls h hP hD hS hl
end ql_X3_init
set_option maxHeartbeats 4000000 in
set_option maxRecDepth 100000 in
theorem c_X3_init (l : Launch) (dC : Nat → ClassId) (dI : Nat → Nat → Nat) (cI cJ cC : ClassId) (h0 : Nat) (sz : Nat) (N : Nat) (Q : zSt → Prop) (h : w_X3_init_32 N Q N (0 : Int32) (1 : Int32) (zS0)) : Met l yX3_init vs_X3_init rm_X3_init (va_Pc [.ref h0] (fun U => U.heap.size = sz ∧ va_P (dC, dI) vwCl [(h0, .inr (3, [.null, .null, .null]))] U.heap ∧ va_K (dC, dI) vwCl (m_ty cI cJ cC) U ∧ va_D (fun _ => True) [(h0, .inr (3, [.null, .null, .null]))])) (va_Qv Q (fun u t => ∃ q1 q2 q3 : Nat, va_P (dC, dI) vwCl [(h0, .inr (3, [.ref q1, .ref q2, .ref q3])), (q1, .inl (cI, 45, .inl (u.2.2.1 0))), (q2, .inl (cI, 45, .inl (u.2.2.1 1))), (q3, .inl (cJ, 10, .inr (.inl (u.2.2.2 0))))] t.heap ∧ va_K (dC, dI) vwCl (m_ty cI cJ cC) t ∧ va_D (va_A [(h0, .inr (3, [.null, .null, .null]))] sz) [(h0, .inr (3, [.ref q1, .ref q2, .ref q3])), (q1, .inl (cI, 45, .inl (u.2.2.1 0))), (q2, .inl (cI, 45, .inl (u.2.2.1 1))), (q3, .inl (cJ, 10, .inr (.inl (u.2.2.2 0))))]) (va_A [(h0, .inr (3, [.null, .null, .null]))] sz)) 3 100 (va_A [(h0, .inr (3, [.null, .null, .null]))] sz) := by
  refine Met.ofW (cc := cX3_init) (maxL := 4) (ret := none) (by decide) rfl ?_
  intro p e s m args below meth c s₁ B hml hv
  obtain ⟨rfl, hsz, hP, hK, hD0⟩ := hv
  have hx := B.exec
  have hb := B.bytes
  have hr := B.returns
  have hts := atoms_spec (ws := vs_X3_init) B.pre
  have hown : s.vm.findClass RX3 = some m.cls := findClass_of_methodNamed B.named
  have hlocks := B.notSynchronized
  have hin2 : meth.name = "<init>" := (name_of_methodNamed B.named B.method).1
  subst hsz
  have hD := hD0.self (sz := s.heap.size)
  generalize hAe : va_A [(h0, .inr (3, [.null, .null, .null]))] s.heap.size = A at hD ⊢
  have hA : ∀ q : Nat, s.heap.size ≤ q → A q := fun q h => by rw [← hAe]; exact Or.inr h
  have hS : va_S A s.heap s.heap [] := va_S.rf
  have hl := lv_entry ([.ref h0]) (n := 4) (Nat.le_of_ble_eq_true rfl)
  rw [lg_entry_eq]
  generalize (lg_sl ([.ref h0]) ++ List.replicate (4 - (lg_sl ([.ref h0])).length) Slot.unset).toArray = ls at hl ⊢
  have hl : lv_has ls 4 [(0, .ref h0)] := hl
  refine lv_aload_n hx hb dX3_init_0 rfl (lv_at hl 0 rfl) ?_
  refine W.objInit hx hb hown (hts _ (List.mem_cons_of_mem _ mw_44)) (hts _ (List.mem_cons_of_mem _ mw_29)) (hts _ (List.mem_cons_of_mem _ mwx_obj)) rfl (by rw [hml]; exact hl.1) rfl dX3_init_1 (Nat.le_of_ble_eq_true rfl) (Nat.le_of_ble_eq_true rfl) ?_
  refine W.eq (g2 := F0 m 4 ls []) rfl ?_
  refine lv_aload_n hx hb dX3_init_4 rfl (lv_at hl 0 rfl) ?_
  refine lv_bipush (v := (45 : Int32)) hx hb dX3_init_5 (by decide) ?_
  refine znew_i (N' := 45) hx hb (hts _ (List.mem_cons_of_mem _ mw_38)) hK 0 rfl hP hD hS hA (by decide) (by decide) (by decide) (Nat.le_of_ble_eq_true rfl) (Nat.le_of_ble_eq_true rfl) dX3_init_7 (fun q1 H hP hD hS => ?_)
  have hP : va_P (dC, dI) vwCl [(h0, .inr (3, [.null, .null, .null])), (q1, .inl (cI, 45, .inl (fun _ => 0)))] H := hP
  have hD : va_D A [(h0, .inr (3, [.null, .null, .null])), (q1, .inl (cI, 45, .inl (fun _ => 0)))] := hD
  refine va_putF (D := (dC, dI)) (ci := 3) (v := .ref q1) (ty := .array .int) (C := RX3) (T := TX3) (N := 3) hx hb hts (fun w h => List.mem_cons_of_mem _ (inX3 w h)) tyX3 tyX3_ok nmX3 hown hK hP hD hS 0 rfl rfl 0 (by decide) (hts _ (List.mem_cons_of_mem _ mw_45)) (fun _ h9 => h9) rfl hin2 rfl (by decide +kernel) rfl rfl (Nat.le_of_ble_eq_true rfl) dX3_init_9 (fun H locs hP hD hS => ?_)
  have hP : va_P (dC, dI) vwCl [(h0, .inr (3, [.ref q1, .null, .null])), (q1, .inl (cI, 45, .inl (fun _ => 0)))] H := hP
  have hD : va_D A [(h0, .inr (3, [.ref q1, .null, .null])), (q1, .inl (cI, 45, .inl (fun _ => 0)))] := hD
  refine lv_aload_n hx hb dX3_init_12 rfl (lv_at hl 0 rfl) ?_
  refine lv_bipush (v := (45 : Int32)) hx hb dX3_init_13 (by decide) ?_
  refine znew_i (N' := 45) hx hb (hts _ (List.mem_cons_of_mem _ mw_38)) hK 0 rfl hP hD hS hA (by decide) (by decide) (by decide) (Nat.le_of_ble_eq_true rfl) (Nat.le_of_ble_eq_true rfl) dX3_init_15 (fun q2 H hP hD hS => ?_)
  have hP : va_P (dC, dI) vwCl [(h0, .inr (3, [.ref q1, .null, .null])), (q1, .inl (cI, 45, .inl (fun _ => 0))), (q2, .inl (cI, 45, .inl (fun _ => 0)))] H := hP
  have hD : va_D A [(h0, .inr (3, [.ref q1, .null, .null])), (q1, .inl (cI, 45, .inl (fun _ => 0))), (q2, .inl (cI, 45, .inl (fun _ => 0)))] := hD
  refine va_putF (D := (dC, dI)) (ci := 3) (v := .ref q2) (ty := .array .int) (C := RX3) (T := TX3) (N := 3) hx hb hts (fun w h => List.mem_cons_of_mem _ (inX3 w h)) tyX3 tyX3_ok nmX3 hown hK hP hD hS 0 rfl rfl 1 (by decide) (hts _ (List.mem_cons_of_mem _ mw_49)) (fun _ h9 => h9) rfl hin2 rfl (by decide +kernel) rfl rfl (Nat.le_of_ble_eq_true rfl) dX3_init_17 (fun H locs hP hD hS => ?_)
  have hP : va_P (dC, dI) vwCl [(h0, .inr (3, [.ref q1, .ref q2, .null])), (q1, .inl (cI, 45, .inl (fun _ => 0))), (q2, .inl (cI, 45, .inl (fun _ => 0)))] H := hP
  have hD : va_D A [(h0, .inr (3, [.ref q1, .ref q2, .null])), (q1, .inl (cI, 45, .inl (fun _ => 0))), (q2, .inl (cI, 45, .inl (fun _ => 0)))] := hD
  refine lv_aload_n hx hb dX3_init_20 rfl (lv_at hl 0 rfl) ?_
  refine lv_bipush (v := (10 : Int32)) hx hb dX3_init_21 (by decide) ?_
  refine znew_l (N' := 10) hx hb (hts _ (List.mem_cons_of_mem _ mw_57)) hK 1 rfl hP hD hS hA (by decide) (by decide) (by decide) (Nat.le_of_ble_eq_true rfl) (Nat.le_of_ble_eq_true rfl) dX3_init_23 (fun q3 H hP hD hS => ?_)
  have hP : va_P (dC, dI) vwCl [(h0, .inr (3, [.ref q1, .ref q2, .null])), (q1, .inl (cI, 45, .inl (fun _ => 0))), (q2, .inl (cI, 45, .inl (fun _ => 0))), (q3, .inl (cJ, 10, .inr (.inl (fun _ => 0))))] H := hP
  have hD : va_D A [(h0, .inr (3, [.ref q1, .ref q2, .null])), (q1, .inl (cI, 45, .inl (fun _ => 0))), (q2, .inl (cI, 45, .inl (fun _ => 0))), (q3, .inl (cJ, 10, .inr (.inl (fun _ => 0))))] := hD
  refine va_putF (D := (dC, dI)) (ci := 3) (v := .ref q3) (ty := .array .long) (C := RX3) (T := TX3) (N := 3) hx hb hts (fun w h => List.mem_cons_of_mem _ (inX3 w h)) tyX3 tyX3_ok nmX3 hown hK hP hD hS 0 rfl rfl 2 (by decide) (hts _ (List.mem_cons_of_mem _ mw_53)) (fun _ h9 => h9) rfl hin2 rfl (by decide +kernel) rfl rfl (Nat.le_of_ble_eq_true rfl) dX3_init_25 (fun H locs hP hD hS => ?_)
  have hP : va_P (dC, dI) vwCl [(h0, .inr (3, [.ref q1, .ref q2, .ref q3])), (q1, .inl (cI, 45, .inl (fun _ => 0))), (q2, .inl (cI, 45, .inl (fun _ => 0))), (q3, .inl (cJ, 10, .inr (.inl (fun _ => 0))))] H := hP
  have hD : va_D A [(h0, .inr (3, [.ref q1, .ref q2, .ref q3])), (q1, .inl (cI, 45, .inl (fun _ => 0))), (q2, .inl (cI, 45, .inl (fun _ => 0))), (q3, .inl (cJ, 10, .inr (.inl (fun _ => 0))))] := hD
  refine lv_iconst (v := (0 : Int32)) hx hb dX3_init_28 (by decide) ?_
  refine lv_istore_n (lv' := [(1, .int (0 : Int32)), (0, .ref h0)]) hx hb dX3_init_29 rfl hl (by decide) rfl (fun ls hl => ?_)
  refine lv_iconst (v := (1 : Int32)) hx hb dX3_init_30 (by decide) ?_
  refine lv_istore_n (lv' := [(2, .int (1 : Int32)), (1, .int (0 : Int32)), (0, .ref h0)]) hx hb dX3_init_31 rfl hl (by decide) rfl (fun ls hl => ?_)
  have hP := hP.sub (ws' := (p_W (zad [h0, q1, q2, q3]) cI cJ cC (zS0))) [0, 1, 2, 3] rfl
  have hD := hD.sub (ws' := (p_W (zad [h0, q1, q2, q3]) cI cJ cC (zS0))) [0, 1, 2, 3] (by decide) rfl
  have hAe2 : A = zAW p_n (zad [h0, q1, q2, q3]) s.heap.size := by
    rw [← hAe]
    refine zA_eq (w := (p_W (zad [h0, q1, q2, q3]) cI cJ cC (zS0))) rfl (by rw [hAe]; exact hD) ?_
    intro q hq
    simp only [List.mem_cons, List.not_mem_nil, or_false] at hq
    subst hq; exact ⟨0, by decide, rfl⟩
  clear hAe; subst hAe2
  have C0 : zCx p s m meth c _ RX3 cX3_init 4 none vs_X3_init := ⟨hx, hb, hml, hr, hown, hts, hlocks⟩
  refine zW_mono (zMQ_mono (fun o t hq => ?_)) (t_X3_init_32 (ad := (zad [h0, q1, q2, q3])) C0 hK N N (0 : Int32) (1 : Int32) (zS0) _ _ _ h hP hD hS (lv_sub hl [2, 1, 0] rfl))
  obtain ⟨⟨u, h1, h2, h3⟩, h4⟩ := hq
  exact ⟨⟨u, h1, h2, q1, q2, q3, h3.1, h3.2.1, h3.2.2⟩, h4⟩
