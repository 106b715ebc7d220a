section qt
def b_J7_fill_53178_2_5 (N : Nat) (k_5 : Int32 → Int32 → Int32 → zSt → Prop) (Q : zSt → Prop) (x1 : Int32) (x2 : Int32) (x3 : Int32) (σ : zSt) : Prop :=
  (x3 ≤ x2 → Q σ) ∧ (¬ x3 ≤ x2 → (vp_in x2 10) ∧ (∀ τ1 : zSt, τ1 = zA σ 1 (upd (σ.2.2.1 1) (x2.toNatClampNeg) x1) → ∀ v2 : Int32, v2 = x2 + (1 : Int32) → k_5 x1 v2 x3 τ1))
def w_J7_fill_53178_2_5 (N : Nat) (Q : zSt → Prop) : Nat → Int32 → Int32 → Int32 → zSt → Prop
  | 0 => fun _ _ _ _ => False
  | f + 1 => b_J7_fill_53178_2_5 N (w_J7_fill_53178_2_5 N  Q f) Q
def w_J7_fill_53178_2 (N : Nat) (x1 : Int32) (σ : zSt) (Q : zSt → Prop) : Prop :=
  w_J7_fill_53178_2_5 N Q N x1 (0 : Int32) (10 : Int32) σ
variable {p : Program} {l : Launch} {e : Env} {s : State} {m : MethodId} {args : Array Value} {below : List Frame} {meth : Method} {c : Code} {dC : Nat → ClassId} {dI : Nat → Nat → Nat} {ad : Nat → Nat} {cI cJ : ClassId}
set_option maxHeartbeats 4000000 in
set_option maxRecDepth 100000 in
theorem tb_J7_fill_53178_2_5 (C0 : zCx p s m meth c args RJ7 cJ7_fill_53178 4 none vs_J7_fill_53178) (hK : va_K (dC, dI) vwCl (x_ty cI cJ) s) (N : Nat) {Q : zSt → Prop} {k_5 : Int32 → Int32 → Int32 → zSt → Prop} (hk_5 : ∀ (x1 : Int32) (x2 : Int32) (x3 : Int32) (σ : zSt) (H : Heap) (locs : List Loc) (ls : Array Slot), k_5 x1 x2 x3 σ → va_P (dC, dI) vwCl (x_W ad cI cJ σ) H → va_D (zAW x_n ad s.heap.size) (x_W ad cI cJ σ) → va_S (zAW x_n ad s.heap.size) s.heap H locs → lv_has ls 4 [(0, .ref (ad 16)), (1, .int x1), (2, .int x2), (3, .int x3)] → W p l e rm_J7_fill_53178 s m args below meth c H locs 0 0 (MQ below (zQv (dC, dI) (x_ty cI cJ) (x_W ad cI cJ) (zAW x_n ad s.heap.size) Q) args s 0 0 (zAW x_n ad s.heap.size)) (F0 m 5 ls [])) : ∀ (x1 : Int32) (x2 : Int32) (x3 : Int32) (σ : zSt) (H : Heap) (locs : List Loc) (ls : Array Slot), b_J7_fill_53178_2_5 N k_5 Q x1 x2 x3 σ → va_P (dC, dI) vwCl (x_W ad cI cJ σ) H → va_D (zAW x_n ad s.heap.size) (x_W ad cI cJ σ) → va_S (zAW x_n ad s.heap.size) s.heap H locs → lv_has ls 4 [(0, .ref (ad 16)), (1, .int x1), (2, .int x2), (3, .int x3)] → W p l e rm_J7_fill_53178 s m args below meth c H locs 0 0 (MQ below (zQv (dC, dI) (x_ty cI cJ) (x_W ad cI cJ) (zAW x_n ad s.heap.size) Q) args s 0 0 (zAW x_n ad s.heap.size)) (F0 m 5 ls []) := by
  obtain ⟨hx, hb, hml, hr, hown, hts, hlocks⟩ := id C0
  intro x1 x2 x3 σ H locs ls h hP hD hS hl
  unfold b_J7_fill_53178_2_5 at h
  refine lv_iload_n hx hb dJ7_fill_53178_5 rfl (lv_at hl 2 rfl) ?_
  refine lv_iload_n hx hb dJ7_fill_53178_6 rfl (lv_at hl 3 rfl) ?_
  refine lv_icmp_ge (tgt := 20) hx hb dJ7_fill_53178_7 (by decide) (fun hc => ?_) (fun hc => ?_)
  · have h := h.1 hc
    exact zret_v hx hb hr hlocks hK hP hD hS h dJ7_fill_53178_20
  · have h := h.2 hc
    refine lv_aload_n hx hb dJ7_fill_53178_10 rfl (lv_at hl 0 rfl) ?_
    refine lv_iload_n hx hb dJ7_fill_53178_11 rfl (lv_at hl 2 rfl) ?_
    refine lv_iload_n hx hb dJ7_fill_53178_12 rfl (lv_at hl 1 rfl) ?_
    refine xs_16 hx hb hK hP hD hS h.1 rfl dJ7_fill_53178_13 (fun τ1 H locs eτ1 hP hD hS => ?_)
    have h := h.2
    have h := h τ1 eτ1
    obtain ⟨v2, ev2⟩ : ∃ z : Int32, z = x2 + (1 : Int32) := ⟨_, rfl⟩
    have h := h v2 ev2
    refine lv_iinc (v := v2) (lv' := [(2, .int v2), (0, .ref (ad 16)), (1, .int x1), (3, .int x3)]) hx hb dJ7_fill_53178_14 hl (k := 2) rfl (by rw [ev2]; rfl) (by decide) rfl (fun ls hl => ?_)
    refine lv_goto (tgt := 5) hx hb dJ7_fill_53178_17 (by decide) ?_
    exact hk_5 x1 v2 x3 τ1 _ _ _ h hP hD hS (lv_sub hl [1, 2, 0, 3] rfl)
set_option maxHeartbeats 4000000 in
set_option maxRecDepth 100000 in
theorem t_J7_fill_53178_2_5 (C0 : zCx p s m meth c args RJ7 cJ7_fill_53178 4 none vs_J7_fill_53178) (hK : va_K (dC, dI) vwCl (x_ty cI cJ) s) (N : Nat) {Q : zSt → Prop} : ∀ (f : Nat) (x1 : Int32) (x2 : Int32) (x3 : Int32) (σ : zSt) (H : Heap) (locs : List Loc) (ls : Array Slot), w_J7_fill_53178_2_5 N  Q f x1 x2 x3 σ → va_P (dC, dI) vwCl (x_W ad cI cJ σ) H → va_D (zAW x_n ad s.heap.size) (x_W ad cI cJ σ) → va_S (zAW x_n ad s.heap.size) s.heap H locs → lv_has ls 4 [(0, .ref (ad 16)), (1, .int x1), (2, .int x2), (3, .int x3)] → W p l e rm_J7_fill_53178 s m args below meth c H locs 0 0 (MQ below (zQv (dC, dI) (x_ty cI cJ) (x_W ad cI cJ) (zAW x_n ad s.heap.size) Q) args s 0 0 (zAW x_n ad s.heap.size)) (F0 m 5 ls []) := by
  intro f
  induction f with
  | zero => intro x1 x2 x3 σ H locs ls h; exact h.elim
  | succ f ih =>
    intro x1 x2 x3 σ H locs ls h hP hD hS hl
    exact tb_J7_fill_53178_2_5 C0 hK N  (k_5 := w_J7_fill_53178_2_5 N  Q f) ih x1 x2 x3 σ H locs ls h hP hD hS hl
set_option maxHeartbeats 4000000 in
set_option maxRecDepth 100000 in
theorem t_J7_fill_53178_2_0 (C0 : zCx p s m meth c args RJ7 cJ7_fill_53178 4 none vs_J7_fill_53178) (hK : va_K (dC, dI) vwCl (x_ty cI cJ) s) (N : Nat) {Q : zSt → Prop} : ∀ (x1 : Int32) (σ : zSt) (H : Heap) (locs : List Loc) (ls : Array Slot), w_J7_fill_53178_2 N x1 σ Q → va_P (dC, dI) vwCl (x_W ad cI cJ σ) H → va_D (zAW x_n ad s.heap.size) (x_W ad cI cJ σ) → va_S (zAW x_n ad s.heap.size) s.heap H locs → lv_has ls 4 [(0, .ref (ad 16)), (1, .int x1)] → W p l e rm_J7_fill_53178 s m args below meth c H locs 0 0 (MQ below (zQv (dC, dI) (x_ty cI cJ) (x_W ad cI cJ) (zAW x_n ad s.heap.size) Q) args s 0 0 (zAW x_n ad s.heap.size)) (F0 m 0 ls []) := by
  obtain ⟨hx, hb, hml, hr, hown, hts, hlocks⟩ := id C0
  intro x1 σ H locs ls h hP hD hS hl
  unfold w_J7_fill_53178_2 at h
  refine lv_iconst (v := (0 : Int32)) hx hb dJ7_fill_53178_0 (by decide) ?_
  refine lv_istore_n (lv' := [(2, .int (0 : Int32)), (0, .ref (ad 16)), (1, .int x1)]) hx hb dJ7_fill_53178_1 rfl hl (by decide) rfl (fun ls hl => ?_)
  refine lv_aload_n hx hb dJ7_fill_53178_2 rfl (lv_at hl 1 rfl) ?_
  refine xl_16 hx hb hK hP dJ7_fill_53178_3 ?_
  refine lv_istore_n (lv' := [(3, .int (10 : Int32)), (2, .int (0 : Int32)), (0, .ref (ad 16)), (1, .int x1)]) hx hb dJ7_fill_53178_4 rfl hl (by decide) rfl (fun ls hl => ?_)
  exact t_J7_fill_53178_2_5 C0 hK N  N x1 (0 : Int32) (10 : Int32) σ _ _ _ h hP hD hS (lv_sub hl [2, 3, 1, 0] rfl)
set_option maxHeartbeats 4000000 in
set_option maxRecDepth 100000 in
theorem c_J7_fill_53178_2 (N : Nat) (l : Launch) (dC : Nat → ClassId) (dI : Nat → Nat → Nat) (ad : Nat → Nat) (cI cJ : ClassId) (sz : Nat) (σ : zSt) (x1 : Int32) (Q : zSt → Prop) (h : w_J7_fill_53178_2 N x1 σ Q) : Met l yJ7_fill_53178 vs_J7_fill_53178 rm_J7_fill_53178 (va_Pc [.ref (ad 16), .int x1] (zPc (dC, dI) (x_ty cI cJ) (x_W ad cI cJ) sz σ)) (zQv (dC, dI) (x_ty cI cJ) (x_W ad cI cJ) (zAW x_n ad sz) Q) 0 0 (zAW x_n ad sz) := by
  refine Met.ofW (cc := cJ7_fill_53178) (maxL := 4) (ret := none) (by decide) rfl ?_
  intro p e s m args below meth c s₁ B hml hv
  obtain ⟨rfl, hsz, hP, hK, hD0⟩ := hv
  subst hsz
  have C0 : zCx p s m meth c _ RJ7 cJ7_fill_53178 4 none vs_J7_fill_53178 := ⟨B.exec, B.bytes, hml, B.returns, findClass_of_methodNamed B.named, atoms_spec (ws := vs_J7_fill_53178) B.pre, B.notSynchronized⟩
  have hD := x_D0 (n0 := s.heap.size) hD0
  have hl := lv_entry ([.ref (ad 16), .int x1]) (n := 4) (Nat.le_of_ble_eq_true rfl)
  rw [lg_entry_eq]
  generalize (lg_sl ([.ref (ad 16), .int x1]) ++ List.replicate (4 - (lg_sl ([.ref (ad 16), .int x1])).length) Slot.unset).toArray = ls at hl ⊢
  exact t_J7_fill_53178_2_0 C0 hK N x1 σ _ _ ls h hP hD va_S.rf hl
theorem k_J7_fill_53178_2 (N : Nat) {R : Room} {H : Heap} {locs : List Loc} {cells slots : Nat} {Q2 : State → Prop} {cc : ByteArray} {nL pc index : Nat} {ls : Array Slot} {rest : List Value} {own : String} {c0 : Cond} {σ : zSt} {x1 : Int32} {Q : zSt → Prop} (S0 : CallFix p m c cc nL s args (c0 :: zT) own) (hml : Cond.methodLink own index yJ7_fill_53178 ∈ zT) (hR : rm_J7_fill_53178.frames + 1 ≤ R.frames ∧ 8 + (4 + 11) + rm_J7_fill_53178.locals ≤ R.locals) (h : w_J7_fill_53178_2 N x1 σ Q) (hK : va_K (dC, dI) vwCl (x_ty cI cJ) s) (hP : va_P (dC, dI) vwCl (x_W ad cI cJ σ) H) (hD : va_D (zAW x_n ad s.heap.size) (x_W ad cI cJ σ)) (hS : va_S (zAW x_n ad s.heap.size) s.heap H locs) (hsz : ls.size = nL) (hW : (rest.map fun v => v.category).sum ≤ 8) (hcs : cells ≤ R.cells ∧ slots ≤ R.slots) (hdg : decode cc pc = .ok (.invokestatic index, 3)) (kk : ∀ (τ : zSt) (H1 : Heap) (locs1 : List Loc), Q τ → va_P (dC, dI) vwCl (x_W ad cI cJ τ) H1 → va_D (zAW x_n ad s.heap.size) (x_W ad cI cJ τ) → va_S (zAW x_n ad s.heap.size) s.heap H1 locs1 → W p l e R s m args below meth c H1 locs1 cells slots Q2 (F0 m (pc + 3) ls (rest))) : W p l e R s m args below meth c H locs cells slots Q2 (F0 m pc ls (.int x1 :: .ref (ad 16) :: rest)) :=
  zcs_v [.ref (ad 16), .int x1] S0 (c_J7_fill_53178_2 N l dC dI ad cI cJ H.size σ x1 Q h) (cw_J7_fill_53178 S0.2.2.2.2 hml hR) hK hP hD hS rfl hsz hW rfl hcs hdg kk
end qt
def rm_X11_init : Room := { frames := 5, cells := 61, slots := 26233, locals := 227 }
def vs_X11_init : List Cond := .code yX11_init cX11_init 1 none :: zT
section ql_X11_init
def b_X11_init_211 (N : Nat) (Q : zSt → Prop)  (σ : zSt) : Prop :=
  w_J7_fill_53178_2 N (-1 : Int32) σ (fun τ2 => w_X11_forget N τ2 (fun τ4 => Q τ4))
variable {p : Program} {l : Launch} {e : Env} {s : State} {m : MethodId} {args : Array Value} {below : List Frame} {meth : Method} {c : Code} {dC : Nat → ClassId} {dI : Nat → Nat → Nat} {ad : Nat → Nat} {cI cJ : ClassId}
set_option maxHeartbeats 4000000 in
set_option maxRecDepth 100000 in
theorem t_X11_init_211 (C0 : zCx p s m meth c args RX11 cX11_init 1 none vs_X11_init) (hK : va_K (dC, dI) vwCl (x_ty cI cJ) s) (N : Nat) {Q : zSt → Prop} : ∀  (σ : zSt) (H : Heap) (locs : List Loc) (ls : Array Slot), b_X11_init_211 N  Q  σ → va_P (dC, dI) vwCl (x_W ad cI cJ σ) H → va_D (zAW x_n ad s.heap.size) (x_W ad cI cJ σ) → va_S (zAW x_n ad s.heap.size) s.heap H locs → lv_has ls 1 [(0, .ref (ad 0))] → W p l e rm_X11_init s m args below meth c H locs 61 26233 (MQ below (zQv (dC, dI) (x_ty cI cJ) (x_W ad cI cJ) (zAW x_n ad s.heap.size) Q) args s 61 26233 (zAW x_n ad s.heap.size)) (F0 m 211 ls []) := by
  obtain ⟨hx, hb, hml, hr, hown, hts, hlocks⟩ := id C0
  intro  σ H locs ls h hP hD hS hl
  unfold b_X11_init_211 at h
  refine lv_aload_n hx hb dX11_init_211 rfl (lv_at hl 0 rfl) ?_
  refine xg_0_12 hx hb hts hown hK hP mw_301 dX11_init_212 ?_
  refine lv_iconst (v := (-1 : Int32)) hx hb dX11_init_215 (by decide) ?_
  refine k_J7_fill_53178_2 N ⟨hx, hb, hml, hown, hts⟩ mw_268 ⟨Nat.le_of_ble_eq_true rfl, Nat.le_of_ble_eq_true rfl⟩ h hK hP hD hS hl.1 (rest := []) (Nat.le_of_ble_eq_true rfl) ⟨Nat.le_of_ble_eq_true rfl, Nat.le_of_ble_eq_true rfl⟩ dX11_init_216 (fun τ2 H locs h hP hD hS => ?_)
  refine lv_aload_n hx hb dX11_init_219 rfl (lv_at hl 0 rfl) ?_
  refine k_X11_forget N ⟨hx, hb, hml, hown, hts⟩ mw_271 ⟨Nat.le_of_ble_eq_true rfl, Nat.le_of_ble_eq_true rfl⟩ h hK hP hD hS hl.1 (rest := []) (Nat.le_of_ble_eq_true rfl) ⟨Nat.le_of_ble_eq_true rfl, Nat.le_of_ble_eq_true rfl⟩ dX11_init_220 (fun τ4 H locs h hP hD hS => ?_)
  exact zret_v hx hb hr hlocks hK hP hD hS h dX11_init_223
end ql_X11_init
/-- the state that the field initialisers leave -/
def zX0 (uP uR uC : zSt) : zSt := (zB (zB (zB (zA (zA (zA (zA (zA (zA (zA (zA (zB (zA (zA (zJ (zI (zI (zI (zI (zI (zI (zI (zI (zI (zI (zI (zI (zI (zI (zJ (zI (zI (zI zS0 1 (uC.1 2)) 2 (uC.1 3)) 3 (uC.1 4)) 2 (uC.2.1 1)) 7 (uR.1 0)) 8 (uR.1 1)) 9 (uR.1 2)) 10 (uR.1 3)) 11 (uR.1 4)) 12 (uR.1 5)) 13 (uR.1 6)) 14 (uR.1 7)) 15 (uR.1 8)) 16 (uR.1 9)) 23 (uR.1 10)) 24 (uR.1 11)) 28 (uC.1 0)) 29 (uC.1 1)) 5 (uC.2.1 0)) 3 (uC.2.2.1 3)) 4 (uC.2.2.1 4)) 2 (uC.2.2.2 3)) 5 (uC.2.2.1 0)) 6 (uC.2.2.1 1)) 7 (uC.2.2.1 2)) 14 (uR.2.2.1 0)) 24 (uR.2.2.1 1)) 25 (uR.2.2.1 2)) 26 (uR.2.2.1 3)) 27 (uR.2.2.1 4)) 7 (uC.2.2.2 0)) 8 (uC.2.2.2 1)) 9 (uC.2.2.2 2))
/-- new TieStreet(), as a predicate of the state that it leaves -/
def w_X11_init (N : Nat) (Q : zSt → Prop) : Prop := w_X3_init_32 N (fun uP => w_X5_init_49 N (fun uR => w_X0_init_48 N (fun uC => b_X11_init_211 N Q (zX0 uP uR uC)) N (0 : Int32) (zB (zA (zA zS0 3 (uP.2.2.1 0)) 4 (uP.2.2.1 1)) 3 (uP.2.2.2 0))) N (0 : Int32) (30 : Int32) (0 : Int32) (zI zS0 2 (-1))) N (0 : Int32) (1 : Int32) (zS0)
set_option maxHeartbeats 8000000 in
set_option maxRecDepth 100000 in
theorem c_X11_init (l : Launch) (dC : Nat → ClassId) (dI : Nat → Nat → Nat) (cI cJ cC : ClassId) (h0 qs qv : Nat) (sz : Nat) (N : Nat) (Q : zSt → Prop) (h : w_X11_init N Q) : Met l yX11_init vs_X11_init rm_X11_init (va_Pc [.ref h0] (fun U => U.heap.size = sz ∧ va_P (dC, dI) vwCl [(h0, .inr (11, [.null, .null, .null, .null, .null, .null, .null, .null, .null, .null, .null, .null, .null, .null, .null, .long 0, .long 0]))] U.heap ∧ va_K (dC, dI) vwCl (m_ty cI cJ cC) U ∧ va_D (fun _ => True) [(h0, .inr (11, [.null, .null, .null, .null, .null, .null, .null, .null, .null, .null, .null, .null, .null, .null, .null, .long 0, .long 0]))] ∧ vk_R RX5 36 zOWN qs U ∧ zSf qs qv (va_A [(h0, .inr (11, [.null, .null, .null, .null, .null, .null, .null, .null, .null, .null, .null, .null, .null, .null, .null, .long 0, .long 0]))] sz) U U.heap ∧ va_Nw (.methodLinkNest RX11 9 yX7_init "TieStreet") U ∧ va_Nw (.methodLinkNest RX11 34 yX6_init "TieStreet") U ∧ va_Nw (.methodLinkNest RX11 77 yX2_init "TieStreet") U)) (va_Qv Q (fun u t => ∃ ad : Nat → Nat, ad 0 = h0 ∧ zB2 (dC, dI) (x_ty cI cJ) (x_W ad cI cJ) (va_A [(h0, .inr (11, [.null, .null, .null, .null, .null, .null, .null, .null, .null, .null, .null, .null, .null, .null, .null, .long 0, .long 0]))] sz) u t) (va_A [(h0, .inr (11, [.null, .null, .null, .null, .null, .null, .null, .null, .null, .null, .null, .null, .null, .null, .null, .long 0, .long 0]))] sz)) 61 26233 (va_A [(h0, .inr (11, [.null, .null, .null, .null, .null, .null, .null, .null, .null, .null, .null, .null, .null, .null, .null, .long 0, .long 0]))] sz) := by
  refine Met.ofW (cc := cX11_init) (maxL := 1) (ret := none) (by decide) rfl ?_
  intro p e s m args below meth c s₁ B hml hv
  obtain ⟨rfl, hsz, hP, hK, hD0, hRs, hFs, hn_9, hn_34, hn_77⟩ := hv
  have hx := B.exec
  have hb := B.bytes
  have hr := B.returns
  have hts := atoms_spec (ws := vs_X11_init) B.pre
  have hown : s.vm.findClass RX11 = some m.cls := findClass_of_methodNamed B.named
  have hlocks := B.notSynchronized
  have hin2 : meth.name = "<init>" := (name_of_methodNamed B.named B.method).1
  subst hsz
  have hD := hD0.self (sz := s.heap.size)
  generalize hAe : va_A [(h0, .inr (11, [.null, .null, .null, .null, .null, .null, .null, .null, .null, .null, .null, .null, .null, .null, .null, .long 0, .long 0]))] s.heap.size = A at hD hFs ⊢
  have hA : ∀ q : Nat, s.heap.size ≤ q → A q := fun q h => by rw [← hAe]; exact Or.inr h
  have hS : va_S A s.heap s.heap [] := va_S.rf
  have hl := lv_entry ([.ref h0]) (n := 1) (Nat.le_of_ble_eq_true rfl)
  rw [lg_entry_eq]
  generalize (lg_sl ([.ref h0]) ++ List.replicate (1 - (lg_sl ([.ref h0])).length) Slot.unset).toArray = ls at hl ⊢
  have hl : lv_has ls 1 [(0, .ref h0)] := hl
  unfold w_X11_init at h
  have hP : va_P (dC, dI) vwCl ([(h0, .inr (11, [.null, .null, .null, .null, .null, .null, .null, .null, .null, .null, .null, .null, .null, .null, .null, .long 0, .long 0]))] ++ []) s.heap := hP
  have hD : va_D A ([(h0, .inr (11, [.null, .null, .null, .null, .null, .null, .null, .null, .null, .null, .null, .null, .null, .null, .null, .long 0, .long 0]))] ++ []) := hD
  refine lv_aload_n hx hb dX11_init_0 rfl (lv_at hl 0 rfl) ?_
  refine W.objInit hx hb hown (hts _ (List.mem_cons_of_mem _ mw_28)) (hts _ (List.mem_cons_of_mem _ mw_29)) (hts _ (List.mem_cons_of_mem _ mwx_obj)) rfl (by rw [hml]; exact hl.1) rfl dX11_init_1 (Nat.le_of_ble_eq_true rfl) (Nat.le_of_ble_eq_true rfl) ?_
  refine W.eq (g2 := F0 m 4 ls []) rfl ?_
  refine lv_aload_n hx hb dX11_init_4 rfl (lv_at hl 0 rfl) ?_
  refine va_new (ci := 7) (fs := [.null, .int 0]) (C := RX7) (T := TX7) (N := 2) hx hb hts (fun w h => List.mem_cons_of_mem _ (inX7 w h)) tyX7 tyX7_ok hown (hts _ (List.mem_cons_of_mem _ mw_30)) (hts _ (List.mem_cons_of_mem _ mw_31)) (hts _ (List.mem_cons_of_mem _ mw_2)) hK hP hD hS hA rfl (fun j hj => by rcases (show j = 0 ∨ j = 1 by omega) with rfl | rfl <;> rfl) (Nat.le_of_ble_eq_true rfl) (Nat.le_of_ble_eq_true rfl) dX11_init_5 (fun q1 H hP hD hS => ?_)
  have hpm := zrot ([(h0, .inr (11, [.null, .null, .null, .null, .null, .null, .null, .null, .null, .null, .null, .null, .null, .null, .null, .long 0, .long 0]))] ++ []) ([(q1, .inr (7, [.null, .int 0]))])
  have hP := zP_perm hpm hP
  have hD := zD_perm hpm hD
  clear hpm
  have hP : va_P (dC, dI) vwCl ([(q1, .inr (7, [.null, .int 0]))] ++ ([(h0, .inr (11, [.null, .null, .null, .null, .null, .null, .null, .null, .null, .null, .null, .null, .null, .null, .null, .long 0, .long 0]))] ++ [])) H := hP
  have hD : va_D A ([(q1, .inr (7, [.null, .int 0]))] ++ ([(h0, .inr (11, [.null, .null, .null, .null, .null, .null, .null, .null, .null, .null, .null, .null, .null, .null, .null, .long 0, .long 0]))] ++ [])) := hD
  refine lv_dup hx hb dX11_init_8 rfl ?_
  have hP : va_P (dC, dI) vwCl ([(q1, .inr (7, [.null, .int 0]))] ++ ([(h0, .inr (11, [.null, .null, .null, .null, .null, .null, .null, .null, .null, .null, .null, .null, .null, .null, .null, .long 0, .long 0]))] ++ [])) H := hP
  have hD : va_D A ([(q1, .inr (7, [.null, .int 0]))] ++ ([(h0, .inr (11, [.null, .null, .null, .null, .null, .null, .null, .null, .null, .null, .null, .null, .null, .null, .null, .long 0, .long 0]))] ++ [])) := hD
  have hPc := zP_left hP
  have hDc := zD_left hD
  have hFc := zfree hD hS hA
  refine va_callv (va_runIN (As := []) (rest := [.ref q1, .ref h0]) ⟨hx, hb, hml, hown, hts⟩ (c_X7_init l dC dI cI cJ cC q1 H.size) (⟨va_cnB 0 hts (zG (u := []) (fun w h => absurd h List.not_mem_nil) mw_33) rfl rfl rfl hn_9 (hts _ (List.mem_cons_of_mem _ mw_2)) (by decide +kernel) ⟨Nat.le_of_ble_eq_true rfl, Nat.le_of_ble_eq_true rfl⟩, rfl, (hts _ (List.mem_cons_of_mem _ mw_32))⟩) ⟨fun a U g mk q => by obtain ⟨q0, q1, qP, qK, qD⟩ := q; exact ⟨q0, q1, qP, va_K.moved (u := U) (U := U.calling g mk a) (Vm.Alike.refl U.vm) qK, qD⟩, fun U hU hW => ⟨rfl, by rw [hU], by rw [hU]; exact hPc, va_K.moved hW.alike hK, hDc.weaken (fun _ _ _ _ => trivial)⟩⟩ rfl rfl hl.1 rfl (lv_room (Nat.le_of_ble_eq_true rfl)) dX11_init_9 ⟨Nat.le_of_ble_eq_true rfl, Nat.le_of_ble_eq_true rfl⟩) hS (fun q _ h => hFc q h) hFc (fun u t H1 locs ht hvm hw hB hz1 hk1 hS => ?_)
  obtain ⟨q2, hP1, hK1, hD1⟩ := hB
  rw [ht] at hP1
  obtain ⟨hP, hD⟩ := zjoin hP hD hk1 hFc hP1 hD1
  obtain ⟨w3, ew3⟩ : ∃ z : va_W, z = [(q1, .inr (7, [.ref q2, .int 0])), (q2, .inl (cI, 800, .inl (fun _ => 0)))] := ⟨_, rfl⟩
  have hP : va_P (dC, dI) vwCl (w3 ++ ([(h0, .inr (11, [.null, .null, .null, .null, .null, .null, .null, .null, .null, .null, .null, .null, .null, .null, .null, .long 0, .long 0]))] ++ [])) H1 := by rw [ew3]; exact hP
  have hD : va_D A (w3 ++ ([(h0, .inr (11, [.null, .null, .null, .null, .null, .null, .null, .null, .null, .null, .null, .null, .null, .null, .null, .long 0, .long 0]))] ++ [])) := by rw [ew3]; exact hD
  generalize H1 = H at hP hS ⊢
  clear hP1 hD1 hK1 hPc hDc hFc hk1 hz1
  have hP : va_P (dC, dI) vwCl (w3 ++ ([(h0, .inr (11, [.null, .null, .null, .null, .null, .null, .null, .null, .null, .null, .null, .null, .null, .null, .null, .long 0, .long 0]))] ++ [])) H := hP
  have hD : va_D A (w3 ++ ([(h0, .inr (11, [.null, .null, .null, .null, .null, .null, .null, .null, .null, .null, .null, .null, .null, .null, .null, .long 0, .long 0]))] ++ [])) := hD
  have hpm := ((zal (w3) (List.Perm.refl _)).trans (zswp (w3) ([(h0, .inr (11, [.null, .null, .null, .null, .null, .null, .null, .null, .null, .null, .null, .null, .null, .null, .null, .long 0, .long 0]))]) ([])))
  have hP := zP_perm hpm hP
  have hD := zD_perm hpm hD
  clear hpm
  have hP : va_P (dC, dI) vwCl ([(h0, .inr (11, [.null, .null, .null, .null, .null, .null, .null, .null, .null, .null, .null, .null, .null, .null, .null, .long 0, .long 0]))] ++ (w3 ++ [])) H := hP
  have hD : va_D A ([(h0, .inr (11, [.null, .null, .null, .null, .null, .null, .null, .null, .null, .null, .null, .null, .null, .null, .null, .long 0, .long 0]))] ++ (w3 ++ [])) := hD
  refine va_putF (D := (dC, dI)) (ci := 11) (v := .ref q1) (ty := .object "TieStreet$Tape") (C := RX11) (T := TX11) (N := 17) hx hb hts (fun w h => List.mem_cons_of_mem _ (inX11 w h)) tyX11 tyX11_ok nmX11 hown hK hP hD hS 0 rfl rfl 0 (by decide) (hts _ (List.mem_cons_of_mem _ mw_289)) (fun _ h9 => h9) rfl hin2 rfl (by decide +kernel) rfl rfl (Nat.le_of_ble_eq_true rfl) dX11_init_12 (fun H locs hP hD hS => ?_)
  have hP : va_P (dC, dI) vwCl ([(h0, .inr (11, [.ref q1, .null, .null, .null, .null, .null, .null, .null, .null, .null, .null, .null, .null, .null, .null, .long 0, .long 0]))] ++ (w3 ++ [])) H := hP
  have hD : va_D A ([(h0, .inr (11, [.ref q1, .null, .null, .null, .null, .null, .null, .null, .null, .null, .null, .null, .null, .null, .null, .long 0, .long 0]))] ++ (w3 ++ [])) := hD
  refine lv_aload_n hx hb dX11_init_15 rfl (lv_at hl 0 rfl) ?_
  refine va_new (ci := 3) (fs := [.null, .null, .null]) (C := RX3) (T := TX3) (N := 3) hx hb hts (fun w h => List.mem_cons_of_mem _ (inX3 w h)) tyX3 tyX3_ok hown (hts _ (List.mem_cons_of_mem _ mw_39)) (hts _ (List.mem_cons_of_mem _ mw_40)) (hts _ (List.mem_cons_of_mem _ mw_3)) hK hP hD hS hA rfl (fun j hj => by rcases (show j = 0 ∨ j = 1 ∨ j = 2 by omega) with rfl | rfl | rfl <;> rfl) (Nat.le_of_ble_eq_true rfl) (Nat.le_of_ble_eq_true rfl) dX11_init_16 (fun q4 H hP hD hS => ?_)
  have hpm := zrot ([(h0, .inr (11, [.ref q1, .null, .null, .null, .null, .null, .null, .null, .null, .null, .null, .null, .null, .null, .null, .long 0, .long 0]))] ++ (w3 ++ [])) ([(q4, .inr (3, [.null, .null, .null]))])
  have hP := zP_perm hpm hP
  have hD := zD_perm hpm hD
  clear hpm
  have hP : va_P (dC, dI) vwCl ([(q4, .inr (3, [.null, .null, .null]))] ++ ([(h0, .inr (11, [.ref q1, .null, .null, .null, .null, .null, .null, .null, .null, .null, .null, .null, .null, .null, .null, .long 0, .long 0]))] ++ (w3 ++ []))) H := hP
  have hD : va_D A ([(q4, .inr (3, [.null, .null, .null]))] ++ ([(h0, .inr (11, [.ref q1, .null, .null, .null, .null, .null, .null, .null, .null, .null, .null, .null, .null, .null, .null, .long 0, .long 0]))] ++ (w3 ++ []))) := hD
  refine lv_dup hx hb dX11_init_19 rfl ?_
  have hP : va_P (dC, dI) vwCl ([(q4, .inr (3, [.null, .null, .null]))] ++ ([(h0, .inr (11, [.ref q1, .null, .null, .null, .null, .null, .null, .null, .null, .null, .null, .null, .null, .null, .null, .long 0, .long 0]))] ++ (w3 ++ []))) H := hP
  have hD : va_D A ([(q4, .inr (3, [.null, .null, .null]))] ++ ([(h0, .inr (11, [.ref q1, .null, .null, .null, .null, .null, .null, .null, .null, .null, .null, .null, .null, .null, .null, .long 0, .long 0]))] ++ (w3 ++ []))) := hD
  have hPc := zP_left hP
  have hDc := zD_left hD
  have hFc := zfree hD hS hA
  refine va_callv (va_runI (As := []) (rest := [.ref q4, .ref h0]) ⟨hx, hb, hml, hown, hts⟩ (c_X3_init l dC dI cI cJ cC q4 H.size N _ h) (cwI 0 hts (zG (u := []) (fun w h => absurd h List.not_mem_nil) mw_43) rfl rfl rfl (hts _ (List.mem_cons_of_mem _ mw_3)) (hts _ (List.mem_cons_of_mem _ mw_41)) (hts _ (List.mem_cons_of_mem _ mw_42)) rfl (by decide +kernel) ⟨Nat.le_of_ble_eq_true rfl, Nat.le_of_ble_eq_true rfl⟩) ⟨fun a U g mk q => by obtain ⟨q0, q1, qP, qK, qD⟩ := q; exact ⟨q0, q1, qP, va_K.moved (u := U) (U := U.calling g mk a) (Vm.Alike.refl U.vm) qK, qD⟩, fun U hU hW => ⟨rfl, by rw [hU], by rw [hU]; exact hPc, va_K.moved hW.alike hK, hDc.weaken (fun _ _ _ _ => trivial)⟩⟩ rfl rfl hl.1 rfl (lv_room (Nat.le_of_ble_eq_true rfl)) dX11_init_20 ⟨Nat.le_of_ble_eq_true rfl, Nat.le_of_ble_eq_true rfl⟩) hS (fun q _ h => hFc q h) hFc (fun uP t H1 locs ht hvm hw hB hz1 hk1 hS => ?_)
  obtain ⟨q5, q6, q7, hP1, hK1, hD1⟩ := hB
  rw [ht] at hP1
  obtain ⟨hP, hD⟩ := zjoin hP hD hk1 hFc hP1 hD1
  obtain ⟨w8, ew8⟩ : ∃ z : va_W, z = [(q4, .inr (3, [.ref q5, .ref q6, .ref q7])), (q5, .inl (cI, 45, .inl (uP.2.2.1 0))), (q6, .inl (cI, 45, .inl (uP.2.2.1 1))), (q7, .inl (cJ, 10, .inr (.inl (uP.2.2.2 0))))] := ⟨_, rfl⟩
  have hP : va_P (dC, dI) vwCl (w8 ++ ([(h0, .inr (11, [.ref q1, .null, .null, .null, .null, .null, .null, .null, .null, .null, .null, .null, .null, .null, .null, .long 0, .long 0]))] ++ (w3 ++ []))) H1 := by rw [ew8]; exact hP
  have hD : va_D A (w8 ++ ([(h0, .inr (11, [.ref q1, .null, .null, .null, .null, .null, .null, .null, .null, .null, .null, .null, .null, .null, .null, .long 0, .long 0]))] ++ (w3 ++ []))) := by rw [ew8]; exact hD
  generalize H1 = H at hP hS ⊢
  clear hP1 hD1 hK1 hPc hDc hFc hk1 hz1
  have hP : va_P (dC, dI) vwCl (w8 ++ ([(h0, .inr (11, [.ref q1, .null, .null, .null, .null, .null, .null, .null, .null, .null, .null, .null, .null, .null, .null, .long 0, .long 0]))] ++ (w3 ++ []))) H := hP
  have hD : va_D A (w8 ++ ([(h0, .inr (11, [.ref q1, .null, .null, .null, .null, .null, .null, .null, .null, .null, .null, .null, .null, .null, .null, .long 0, .long 0]))] ++ (w3 ++ []))) := hD
  have h := hw
  have hpm := ((zal (w8) (List.Perm.refl _)).trans (zswp (w8) ([(h0, .inr (11, [.ref q1, .null, .null, .null, .null, .null, .null, .null, .null, .null, .null, .null, .null, .null, .null, .long 0, .long 0]))]) (w3 ++ [])))
  have hP := zP_perm hpm hP
  have hD := zD_perm hpm hD
  clear hpm
  have hP : va_P (dC, dI) vwCl ([(h0, .inr (11, [.ref q1, .null, .null, .null, .null, .null, .null, .null, .null, .null, .null, .null, .null, .null, .null, .long 0, .long 0]))] ++ (w8 ++ (w3 ++ []))) H := hP
  have hD : va_D A ([(h0, .inr (11, [.ref q1, .null, .null, .null, .null, .null, .null, .null, .null, .null, .null, .null, .null, .null, .null, .long 0, .long 0]))] ++ (w8 ++ (w3 ++ []))) := hD
  refine va_putF (D := (dC, dI)) (ci := 11) (v := .ref q4) (ty := .object "TieStreet$Pairs") (C := RX11) (T := TX11) (N := 17) hx hb hts (fun w h => List.mem_cons_of_mem _ (inX11 w h)) tyX11 tyX11_ok nmX11 hown hK hP hD hS 0 rfl rfl 1 (by decide) (hts _ (List.mem_cons_of_mem _ mw_290)) (fun _ h9 => h9) rfl hin2 rfl (by decide +kernel) rfl rfl (Nat.le_of_ble_eq_true rfl) dX11_init_23 (fun H locs hP hD hS => ?_)
  have hP : va_P (dC, dI) vwCl ([(h0, .inr (11, [.ref q1, .ref q4, .null, .null, .null, .null, .null, .null, .null, .null, .null, .null, .null, .null, .null, .long 0, .long 0]))] ++ (w8 ++ (w3 ++ []))) H := hP
  have hD : va_D A ([(h0, .inr (11, [.ref q1, .ref q4, .null, .null, .null, .null, .null, .null, .null, .null, .null, .null, .null, .null, .null, .long 0, .long 0]))] ++ (w8 ++ (w3 ++ []))) := hD
  refine lv_aload_n hx hb dX11_init_26 rfl (lv_at hl 0 rfl) ?_
  refine va_new (ci := 4) (fs := [.null, .null, .null, .null, .int 0, .int 0, .int 0, .long 0]) (C := RX4) (T := TX4) (N := 8) hx hb hts (fun w h => List.mem_cons_of_mem _ (inX4 w h)) tyX4 tyX4_ok hown (hts _ (List.mem_cons_of_mem _ mw_58)) (hts _ (List.mem_cons_of_mem _ mw_59)) (hts _ (List.mem_cons_of_mem _ mw_4)) hK hP hD hS hA rfl (fun j hj => by rcases (show j = 0 ∨ j = 1 ∨ j = 2 ∨ j = 3 ∨ j = 4 ∨ j = 5 ∨ j = 6 ∨ j = 7 by omega) with rfl | rfl | rfl | rfl | rfl | rfl | rfl | rfl <;> rfl) (Nat.le_of_ble_eq_true rfl) (Nat.le_of_ble_eq_true rfl) dX11_init_27 (fun q9 H hP hD hS => ?_)
  have hpm := zrot ([(h0, .inr (11, [.ref q1, .ref q4, .null, .null, .null, .null, .null, .null, .null, .null, .null, .null, .null, .null, .null, .long 0, .long 0]))] ++ (w8 ++ (w3 ++ []))) ([(q9, .inr (4, [.null, .null, .null, .null, .int 0, .int 0, .int 0, .long 0]))])
  have hP := zP_perm hpm hP
  have hD := zD_perm hpm hD
  clear hpm
  have hP : va_P (dC, dI) vwCl ([(q9, .inr (4, [.null, .null, .null, .null, .int 0, .int 0, .int 0, .long 0]))] ++ ([(h0, .inr (11, [.ref q1, .ref q4, .null, .null, .null, .null, .null, .null, .null, .null, .null, .null, .null, .null, .null, .long 0, .long 0]))] ++ (w8 ++ (w3 ++ [])))) H := hP
  have hD : va_D A ([(q9, .inr (4, [.null, .null, .null, .null, .int 0, .int 0, .int 0, .long 0]))] ++ ([(h0, .inr (11, [.ref q1, .ref q4, .null, .null, .null, .null, .null, .null, .null, .null, .null, .null, .null, .null, .null, .long 0, .long 0]))] ++ (w8 ++ (w3 ++ [])))) := hD
  refine lv_dup hx hb dX11_init_30 rfl ?_
  refine lv_aload_n hx hb dX11_init_31 rfl (lv_at hl 0 rfl) ?_
  have hpm := ((zal ([(q9, .inr (4, [.null, .null, .null, .null, .int 0, .int 0, .int 0, .long 0]))]) (List.Perm.refl _)).trans (zswp ([(q9, .inr (4, [.null, .null, .null, .null, .int 0, .int 0, .int 0, .long 0]))]) ([(h0, .inr (11, [.ref q1, .ref q4, .null, .null, .null, .null, .null, .null, .null, .null, .null, .null, .null, .null, .null, .long 0, .long 0]))]) (w8 ++ (w3 ++ []))))
  have hP := zP_perm hpm hP
  have hD := zD_perm hpm hD
  clear hpm
  have hP : va_P (dC, dI) vwCl ([(h0, .inr (11, [.ref q1, .ref q4, .null, .null, .null, .null, .null, .null, .null, .null, .null, .null, .null, .null, .null, .long 0, .long 0]))] ++ ([(q9, .inr (4, [.null, .null, .null, .null, .int 0, .int 0, .int 0, .long 0]))] ++ (w8 ++ (w3 ++ [])))) H := hP
  have hD : va_D A ([(h0, .inr (11, [.ref q1, .ref q4, .null, .null, .null, .null, .null, .null, .null, .null, .null, .null, .null, .null, .null, .long 0, .long 0]))] ++ ([(q9, .inr (4, [.null, .null, .null, .null, .int 0, .int 0, .int 0, .long 0]))] ++ (w8 ++ (w3 ++ [])))) := hD
  refine va_get (D := (dC, dI)) (ci := 11) (v := .ref q4) (C := RX11) (T := TX11) (N := 17) hx hb hts (fun w h => List.mem_cons_of_mem _ (inX11 w h)) hown hK hP 0 rfl rfl 1 (by decide) (hts _ (List.mem_cons_of_mem _ mw_290)) (fun _ h9 => h9) rfl dX11_init_32 ?_
  have hpm := ((zal ([(h0, .inr (11, [.ref q1, .ref q4, .null, .null, .null, .null, .null, .null, .null, .null, .null, .null, .null, .null, .null, .long 0, .long 0]))]) (List.Perm.refl _)).trans (zswp ([(h0, .inr (11, [.ref q1, .ref q4, .null, .null, .null, .null, .null, .null, .null, .null, .null, .null, .null, .null, .null, .long 0, .long 0]))]) ([(q9, .inr (4, [.null, .null, .null, .null, .int 0, .int 0, .int 0, .long 0]))]) (w8 ++ (w3 ++ []))))
  have hP := zP_perm hpm hP
  have hD := zD_perm hpm hD
  clear hpm
  have hP : va_P (dC, dI) vwCl ([(q9, .inr (4, [.null, .null, .null, .null, .int 0, .int 0, .int 0, .long 0]))] ++ ([(h0, .inr (11, [.ref q1, .ref q4, .null, .null, .null, .null, .null, .null, .null, .null, .null, .null, .null, .null, .null, .long 0, .long 0]))] ++ (w8 ++ (w3 ++ [])))) H := hP
  have hD : va_D A ([(q9, .inr (4, [.null, .null, .null, .null, .int 0, .int 0, .int 0, .long 0]))] ++ ([(h0, .inr (11, [.ref q1, .ref q4, .null, .null, .null, .null, .null, .null, .null, .null, .null, .null, .null, .null, .null, .long 0, .long 0]))] ++ (w8 ++ (w3 ++ [])))) := hD
  have hP : va_P (dC, dI) vwCl ([(q9, .inr (4, [.null, .null, .null, .null, .int 0, .int 0, .int 0, .long 0]))] ++ ([(h0, .inr (11, [.ref q1, .ref q4, .null, .null, .null, .null, .null, .null, .null, .null, .null, .null, .null, .null, .null, .long 0, .long 0]))] ++ (w8 ++ (w3 ++ [])))) H := hP
  have hD : va_D A ([(q9, .inr (4, [.null, .null, .null, .null, .int 0, .int 0, .int 0, .long 0]))] ++ ([(h0, .inr (11, [.ref q1, .ref q4, .null, .null, .null, .null, .null, .null, .null, .null, .null, .null, .null, .null, .null, .long 0, .long 0]))] ++ (w8 ++ (w3 ++ [])))) := hD
  have hPc := zP_left hP
  have hDc := zD_left hD
  have hFc := zfree hD hS hA
  refine va_callv (va_runI (As := [.ref q4]) (rest := [.ref q9, .ref h0]) ⟨hx, hb, hml, hown, hts⟩ (c_X4_init l dC dI cI cJ cC q9 q4 H.size) (cwI 1 hts (zG (u := []) (fun w h => absurd h List.not_mem_nil) mw_62) rfl rfl rfl (hts _ (List.mem_cons_of_mem _ mw_4)) (hts _ (List.mem_cons_of_mem _ mw_60)) (hts _ (List.mem_cons_of_mem _ mw_61)) rfl (by decide +kernel) ⟨Nat.le_of_ble_eq_true rfl, Nat.le_of_ble_eq_true rfl⟩) ⟨fun a U g mk q => by obtain ⟨q0, q1, qP, qK, qD⟩ := q; exact ⟨q0, q1, qP, va_K.moved (u := U) (U := U.calling g mk a) (Vm.Alike.refl U.vm) qK, qD⟩, fun U hU hW => ⟨rfl, by rw [hU], by rw [hU]; exact hPc, va_K.moved hW.alike hK, hDc.weaken (fun _ _ _ _ => trivial)⟩⟩ rfl rfl hl.1 rfl (lv_room (Nat.le_of_ble_eq_true rfl)) dX11_init_35 ⟨Nat.le_of_ble_eq_true rfl, Nat.le_of_ble_eq_true rfl⟩) hS (fun q _ h => hFc q h) hFc (fun u t H1 locs ht hvm hw hB hz1 hk1 hS => ?_)
  obtain ⟨q10, q11, q12, hP1, hK1, hD1⟩ := hB
  rw [ht] at hP1
  obtain ⟨hP, hD⟩ := zjoin hP hD hk1 hFc hP1 hD1
  obtain ⟨w13, ew13⟩ : ∃ z : va_W, z = [(q9, .inr (4, [.ref q4, .ref q10, .ref q11, .ref q12, .int 0, .int 0, .int 0, .long 0])), (q10, .inl (cI, 10, .inl (fun _ => 0))), (q11, .inl (cI, 10, .inl (fun _ => 0))), (q12, .inl (cI, 10, .inl (fun _ => 0)))] := ⟨_, rfl⟩
  have hP : va_P (dC, dI) vwCl (w13 ++ ([(h0, .inr (11, [.ref q1, .ref q4, .null, .null, .null, .null, .null, .null, .null, .null, .null, .null, .null, .null, .null, .long 0, .long 0]))] ++ (w8 ++ (w3 ++ [])))) H1 := by rw [ew13]; exact hP
  have hD : va_D A (w13 ++ ([(h0, .inr (11, [.ref q1, .ref q4, .null, .null, .null, .null, .null, .null, .null, .null, .null, .null, .null, .null, .null, .long 0, .long 0]))] ++ (w8 ++ (w3 ++ [])))) := by rw [ew13]; exact hD
  generalize H1 = H at hP hS ⊢
  clear hP1 hD1 hK1 hPc hDc hFc hk1 hz1
  have hP : va_P (dC, dI) vwCl (w13 ++ ([(h0, .inr (11, [.ref q1, .ref q4, .null, .null, .null, .null, .null, .null, .null, .null, .null, .null, .null, .null, .null, .long 0, .long 0]))] ++ (w8 ++ (w3 ++ [])))) H := hP
  have hD : va_D A (w13 ++ ([(h0, .inr (11, [.ref q1, .ref q4, .null, .null, .null, .null, .null, .null, .null, .null, .null, .null, .null, .null, .null, .long 0, .long 0]))] ++ (w8 ++ (w3 ++ [])))) := hD
  have hpm := ((zal (w13) (List.Perm.refl _)).trans (zswp (w13) ([(h0, .inr (11, [.ref q1, .ref q4, .null, .null, .null, .null, .null, .null, .null, .null, .null, .null, .null, .null, .null, .long 0, .long 0]))]) (w8 ++ (w3 ++ []))))
  have hP := zP_perm hpm hP
  have hD := zD_perm hpm hD
  clear hpm
  have hP : va_P (dC, dI) vwCl ([(h0, .inr (11, [.ref q1, .ref q4, .null, .null, .null, .null, .null, .null, .null, .null, .null, .null, .null, .null, .null, .long 0, .long 0]))] ++ (w13 ++ (w8 ++ (w3 ++ [])))) H := hP
  have hD : va_D A ([(h0, .inr (11, [.ref q1, .ref q4, .null, .null, .null, .null, .null, .null, .null, .null, .null, .null, .null, .null, .null, .long 0, .long 0]))] ++ (w13 ++ (w8 ++ (w3 ++ [])))) := hD
  refine va_putF (D := (dC, dI)) (ci := 11) (v := .ref q9) (ty := .object "TieStreet$People") (C := RX11) (T := TX11) (N := 17) hx hb hts (fun w h => List.mem_cons_of_mem _ (inX11 w h)) tyX11 tyX11_ok nmX11 hown hK hP hD hS 0 rfl rfl 2 (by decide) (hts _ (List.mem_cons_of_mem _ mw_291)) (fun _ h9 => h9) rfl hin2 rfl (by decide +kernel) rfl rfl (Nat.le_of_ble_eq_true rfl) dX11_init_38 (fun H locs hP hD hS => ?_)
  have hP : va_P (dC, dI) vwCl ([(h0, .inr (11, [.ref q1, .ref q4, .ref q9, .null, .null, .null, .null, .null, .null, .null, .null, .null, .null, .null, .null, .long 0, .long 0]))] ++ (w13 ++ (w8 ++ (w3 ++ [])))) H := hP
  have hD : va_D A ([(h0, .inr (11, [.ref q1, .ref q4, .ref q9, .null, .null, .null, .null, .null, .null, .null, .null, .null, .null, .null, .null, .long 0, .long 0]))] ++ (w13 ++ (w8 ++ (w3 ++ [])))) := hD
  refine lv_aload_n hx hb dX11_init_41 rfl (lv_at hl 0 rfl) ?_
  refine va_new (ci := 6) (fs := [.null, .null, .null, .null, .null, .null, .null, .int 0, .int 0, .int 0]) (C := RX6) (T := TX6) (N := 10) hx hb hts (fun w h => List.mem_cons_of_mem _ (inX6 w h)) tyX6 tyX6_ok hown (hts _ (List.mem_cons_of_mem _ mw_87)) (hts _ (List.mem_cons_of_mem _ mw_88)) (hts _ (List.mem_cons_of_mem _ mw_5)) hK hP hD hS hA rfl (fun j hj => by rcases (show j = 0 ∨ j = 1 ∨ j = 2 ∨ j = 3 ∨ j = 4 ∨ j = 5 ∨ j = 6 ∨ j = 7 ∨ j = 8 ∨ j = 9 by omega) with rfl | rfl | rfl | rfl | rfl | rfl | rfl | rfl | rfl | rfl <;> rfl) (Nat.le_of_ble_eq_true rfl) (Nat.le_of_ble_eq_true rfl) dX11_init_42 (fun q14 H hP hD hS => ?_)
  have hpm := zrot ([(h0, .inr (11, [.ref q1, .ref q4, .ref q9, .null, .null, .null, .null, .null, .null, .null, .null, .null, .null, .null, .null, .long 0, .long 0]))] ++ (w13 ++ (w8 ++ (w3 ++ [])))) ([(q14, .inr (6, [.null, .null, .null, .null, .null, .null, .null, .int 0, .int 0, .int 0]))])
  have hP := zP_perm hpm hP
  have hD := zD_perm hpm hD
  clear hpm
  have hP : va_P (dC, dI) vwCl ([(q14, .inr (6, [.null, .null, .null, .null, .null, .null, .null, .int 0, .int 0, .int 0]))] ++ ([(h0, .inr (11, [.ref q1, .ref q4, .ref q9, .null, .null, .null, .null, .null, .null, .null, .null, .null, .null, .null, .null, .long 0, .long 0]))] ++ (w13 ++ (w8 ++ (w3 ++ []))))) H := hP
  have hD : va_D A ([(q14, .inr (6, [.null, .null, .null, .null, .null, .null, .null, .int 0, .int 0, .int 0]))] ++ ([(h0, .inr (11, [.ref q1, .ref q4, .ref q9, .null, .null, .null, .null, .null, .null, .null, .null, .null, .null, .null, .null, .long 0, .long 0]))] ++ (w13 ++ (w8 ++ (w3 ++ []))))) := hD
  refine lv_dup hx hb dX11_init_45 rfl ?_
  have hP : va_P (dC, dI) vwCl ([(q14, .inr (6, [.null, .null, .null, .null, .null, .null, .null, .int 0, .int 0, .int 0]))] ++ ([(h0, .inr (11, [.ref q1, .ref q4, .ref q9, .null, .null, .null, .null, .null, .null, .null, .null, .null, .null, .null, .null, .long 0, .long 0]))] ++ (w13 ++ (w8 ++ (w3 ++ []))))) H := hP
  have hD : va_D A ([(q14, .inr (6, [.null, .null, .null, .null, .null, .null, .null, .int 0, .int 0, .int 0]))] ++ ([(h0, .inr (11, [.ref q1, .ref q4, .ref q9, .null, .null, .null, .null, .null, .null, .null, .null, .null, .null, .null, .null, .long 0, .long 0]))] ++ (w13 ++ (w8 ++ (w3 ++ []))))) := hD
  have hPc := zP_left hP
  have hDc := zD_left hD
  have hFc := zfree hD hS hA
  refine va_callv (va_runIN (As := []) (rest := [.ref q14, .ref h0]) ⟨hx, hb, hml, hown, hts⟩ (c_X6_init l dC dI cI cJ cC q14 H.size) (⟨va_cnB 0 hts (zG (u := []) (fun w h => absurd h List.not_mem_nil) mw_90) rfl rfl rfl hn_34 (hts _ (List.mem_cons_of_mem _ mw_5)) (by decide +kernel) ⟨Nat.le_of_ble_eq_true rfl, Nat.le_of_ble_eq_true rfl⟩, rfl, (hts _ (List.mem_cons_of_mem _ mw_89))⟩) ⟨fun a U g mk q => by obtain ⟨q0, q1, qP, qK, qD⟩ := q; exact ⟨q0, q1, qP, va_K.moved (u := U) (U := U.calling g mk a) (Vm.Alike.refl U.vm) qK, qD⟩, fun U hU hW => ⟨rfl, by rw [hU], by rw [hU]; exact hPc, va_K.moved hW.alike hK, hDc.weaken (fun _ _ _ _ => trivial)⟩⟩ rfl rfl hl.1 rfl (lv_room (Nat.le_of_ble_eq_true rfl)) dX11_init_46 ⟨Nat.le_of_ble_eq_true rfl, Nat.le_of_ble_eq_true rfl⟩) hS (fun q _ h => hFc q h) hFc (fun u t H1 locs ht hvm hw hB hz1 hk1 hS => ?_)
  obtain ⟨q15, q16, q17, q18, q19, q20, q21, hP1, hK1, hD1⟩ := hB
  rw [ht] at hP1
  obtain ⟨hP, hD⟩ := zjoin hP hD hk1 hFc hP1 hD1
  obtain ⟨w22, ew22⟩ : ∃ z : va_W, z = [(q14, .inr (6, [.ref q15, .ref q16, .ref q17, .ref q18, .ref q19, .ref q20, .ref q21, .int 0, .int 0, .int 0])), (q15, .inl (cI, 20, .inl (fun _ => 0))), (q16, .inl (cI, 20, .inl (fun _ => 0))), (q17, .inl (cI, 20, .inl (fun _ => 0))), (q18, .inl (cI, 20, .inl (fun _ => 0))), (q19, .inl (cI, 800, .inl (fun _ => 0))), (q20, .inl (cJ, 64, .inr (.inl (fun _ => 0)))), (q21, .inl (cI, 5, .inl (fun _ => 0)))] := ⟨_, rfl⟩
  have hP : va_P (dC, dI) vwCl (w22 ++ ([(h0, .inr (11, [.ref q1, .ref q4, .ref q9, .null, .null, .null, .null, .null, .null, .null, .null, .null, .null, .null, .null, .long 0, .long 0]))] ++ (w13 ++ (w8 ++ (w3 ++ []))))) H1 := by rw [ew22]; exact hP
  have hD : va_D A (w22 ++ ([(h0, .inr (11, [.ref q1, .ref q4, .ref q9, .null, .null, .null, .null, .null, .null, .null, .null, .null, .null, .null, .null, .long 0, .long 0]))] ++ (w13 ++ (w8 ++ (w3 ++ []))))) := by rw [ew22]; exact hD
  generalize H1 = H at hP hS ⊢
  clear hP1 hD1 hK1 hPc hDc hFc hk1 hz1
  have hP : va_P (dC, dI) vwCl (w22 ++ ([(h0, .inr (11, [.ref q1, .ref q4, .ref q9, .null, .null, .null, .null, .null, .null, .null, .null, .null, .null, .null, .null, .long 0, .long 0]))] ++ (w13 ++ (w8 ++ (w3 ++ []))))) H := hP
  have hD : va_D A (w22 ++ ([(h0, .inr (11, [.ref q1, .ref q4, .ref q9, .null, .null, .null, .null, .null, .null, .null, .null, .null, .null, .null, .null, .long 0, .long 0]))] ++ (w13 ++ (w8 ++ (w3 ++ []))))) := hD
  have hpm := ((zal (w22) (List.Perm.refl _)).trans (zswp (w22) ([(h0, .inr (11, [.ref q1, .ref q4, .ref q9, .null, .null, .null, .null, .null, .null, .null, .null, .null, .null, .null, .null, .long 0, .long 0]))]) (w13 ++ (w8 ++ (w3 ++ [])))))
  have hP := zP_perm hpm hP
  have hD := zD_perm hpm hD
  clear hpm
  have hP : va_P (dC, dI) vwCl ([(h0, .inr (11, [.ref q1, .ref q4, .ref q9, .null, .null, .null, .null, .null, .null, .null, .null, .null, .null, .null, .null, .long 0, .long 0]))] ++ (w22 ++ (w13 ++ (w8 ++ (w3 ++ []))))) H := hP
  have hD : va_D A ([(h0, .inr (11, [.ref q1, .ref q4, .ref q9, .null, .null, .null, .null, .null, .null, .null, .null, .null, .null, .null, .null, .long 0, .long 0]))] ++ (w22 ++ (w13 ++ (w8 ++ (w3 ++ []))))) := hD
  refine va_putF (D := (dC, dI)) (ci := 11) (v := .ref q14) (ty := .object "TieStreet$Rules") (C := RX11) (T := TX11) (N := 17) hx hb hts (fun w h => List.mem_cons_of_mem _ (inX11 w h)) tyX11 tyX11_ok nmX11 hown hK hP hD hS 0 rfl rfl 3 (by decide) (hts _ (List.mem_cons_of_mem _ mw_292)) (fun _ h9 => h9) rfl hin2 rfl (by decide +kernel) rfl rfl (Nat.le_of_ble_eq_true rfl) dX11_init_49 (fun H locs hP hD hS => ?_)
  have hP : va_P (dC, dI) vwCl ([(h0, .inr (11, [.ref q1, .ref q4, .ref q9, .ref q14, .null, .null, .null, .null, .null, .null, .null, .null, .null, .null, .null, .long 0, .long 0]))] ++ (w22 ++ (w13 ++ (w8 ++ (w3 ++ []))))) H := hP
  have hD : va_D A ([(h0, .inr (11, [.ref q1, .ref q4, .ref q9, .ref q14, .null, .null, .null, .null, .null, .null, .null, .null, .null, .null, .null, .long 0, .long 0]))] ++ (w22 ++ (w13 ++ (w8 ++ (w3 ++ []))))) := hD
  refine lv_aload_n hx hb dX11_init_52 rfl (lv_at hl 0 rfl) ?_
  refine va_new (ci := 5) (fs := [.null, .null, .null, .null, .int 0, .int 0, .int 0, .int 0, .int 0, .int 0, .int 0, .int 0, .int 0, .int 0]) (C := RX5) (T := TX5) (N := 14) hx hb hts (fun w h => List.mem_cons_of_mem _ (inX5 w h)) tyX5 tyX5_ok hown (hts _ (List.mem_cons_of_mem _ mw_106)) (hts _ (List.mem_cons_of_mem _ mw_107)) (hts _ (List.mem_cons_of_mem _ mw_6)) hK hP hD hS hA rfl (fun j hj => by rcases (show j = 0 ∨ j = 1 ∨ j = 2 ∨ j = 3 ∨ j = 4 ∨ j = 5 ∨ j = 6 ∨ j = 7 ∨ j = 8 ∨ j = 9 ∨ j = 10 ∨ j = 11 ∨ j = 12 ∨ j = 13 by omega) with rfl | rfl | rfl | rfl | rfl | rfl | rfl | rfl | rfl | rfl | rfl | rfl | rfl | rfl <;> rfl) (Nat.le_of_ble_eq_true rfl) (Nat.le_of_ble_eq_true rfl) dX11_init_53 (fun q23 H hP hD hS => ?_)
  have hpm := zrot ([(h0, .inr (11, [.ref q1, .ref q4, .ref q9, .ref q14, .null, .null, .null, .null, .null, .null, .null, .null, .null, .null, .null, .long 0, .long 0]))] ++ (w22 ++ (w13 ++ (w8 ++ (w3 ++ []))))) ([(q23, .inr (5, [.null, .null, .null, .null, .int 0, .int 0, .int 0, .int 0, .int 0, .int 0, .int 0, .int 0, .int 0, .int 0]))])
  have hP := zP_perm hpm hP
  have hD := zD_perm hpm hD
  clear hpm
  have hP : va_P (dC, dI) vwCl ([(q23, .inr (5, [.null, .null, .null, .null, .int 0, .int 0, .int 0, .int 0, .int 0, .int 0, .int 0, .int 0, .int 0, .int 0]))] ++ ([(h0, .inr (11, [.ref q1, .ref q4, .ref q9, .ref q14, .null, .null, .null, .null, .null, .null, .null, .null, .null, .null, .null, .long 0, .long 0]))] ++ (w22 ++ (w13 ++ (w8 ++ (w3 ++ [])))))) H := hP
  have hD : va_D A ([(q23, .inr (5, [.null, .null, .null, .null, .int 0, .int 0, .int 0, .int 0, .int 0, .int 0, .int 0, .int 0, .int 0, .int 0]))] ++ ([(h0, .inr (11, [.ref q1, .ref q4, .ref q9, .ref q14, .null, .null, .null, .null, .null, .null, .null, .null, .null, .null, .null, .long 0, .long 0]))] ++ (w22 ++ (w13 ++ (w8 ++ (w3 ++ [])))))) := hD
  refine lv_dup hx hb dX11_init_56 rfl ?_
  refine lv_aload_n hx hb dX11_init_57 rfl (lv_at hl 0 rfl) ?_
  have hpm := ((zal ([(q23, .inr (5, [.null, .null, .null, .null, .int 0, .int 0, .int 0, .int 0, .int 0, .int 0, .int 0, .int 0, .int 0, .int 0]))]) (List.Perm.refl _)).trans (zswp ([(q23, .inr (5, [.null, .null, .null, .null, .int 0, .int 0, .int 0, .int 0, .int 0, .int 0, .int 0, .int 0, .int 0, .int 0]))]) ([(h0, .inr (11, [.ref q1, .ref q4, .ref q9, .ref q14, .null, .null, .null, .null, .null, .null, .null, .null, .null, .null, .null, .long 0, .long 0]))]) (w22 ++ (w13 ++ (w8 ++ (w3 ++ []))))))
  have hP := zP_perm hpm hP
  have hD := zD_perm hpm hD
  clear hpm
  have hP : va_P (dC, dI) vwCl ([(h0, .inr (11, [.ref q1, .ref q4, .ref q9, .ref q14, .null, .null, .null, .null, .null, .null, .null, .null, .null, .null, .null, .long 0, .long 0]))] ++ ([(q23, .inr (5, [.null, .null, .null, .null, .int 0, .int 0, .int 0, .int 0, .int 0, .int 0, .int 0, .int 0, .int 0, .int 0]))] ++ (w22 ++ (w13 ++ (w8 ++ (w3 ++ [])))))) H := hP
  have hD : va_D A ([(h0, .inr (11, [.ref q1, .ref q4, .ref q9, .ref q14, .null, .null, .null, .null, .null, .null, .null, .null, .null, .null, .null, .long 0, .long 0]))] ++ ([(q23, .inr (5, [.null, .null, .null, .null, .int 0, .int 0, .int 0, .int 0, .int 0, .int 0, .int 0, .int 0, .int 0, .int 0]))] ++ (w22 ++ (w13 ++ (w8 ++ (w3 ++ [])))))) := hD
  refine va_get (D := (dC, dI)) (ci := 11) (v := .ref q1) (C := RX11) (T := TX11) (N := 17) hx hb hts (fun w h => List.mem_cons_of_mem _ (inX11 w h)) hown hK hP 0 rfl rfl 0 (by decide) (hts _ (List.mem_cons_of_mem _ mw_289)) (fun _ h9 => h9) rfl dX11_init_58 ?_
  refine va_new (ci := 4) (fs := [.null, .null, .null, .null, .int 0, .int 0, .int 0, .long 0]) (C := RX4) (T := TX4) (N := 8) hx hb hts (fun w h => List.mem_cons_of_mem _ (inX4 w h)) tyX4 tyX4_ok hown (hts _ (List.mem_cons_of_mem _ mw_58)) (hts _ (List.mem_cons_of_mem _ mw_59)) (hts _ (List.mem_cons_of_mem _ mw_4)) hK hP hD hS hA rfl (fun j hj => by rcases (show j = 0 ∨ j = 1 ∨ j = 2 ∨ j = 3 ∨ j = 4 ∨ j = 5 ∨ j = 6 ∨ j = 7 by omega) with rfl | rfl | rfl | rfl | rfl | rfl | rfl | rfl <;> rfl) (Nat.le_of_ble_eq_true rfl) (Nat.le_of_ble_eq_true rfl) dX11_init_61 (fun q24 H hP hD hS => ?_)
  have hpm := zrot ([(h0, .inr (11, [.ref q1, .ref q4, .ref q9, .ref q14, .null, .null, .null, .null, .null, .null, .null, .null, .null, .null, .null, .long 0, .long 0]))] ++ ([(q23, .inr (5, [.null, .null, .null, .null, .int 0, .int 0, .int 0, .int 0, .int 0, .int 0, .int 0, .int 0, .int 0, .int 0]))] ++ (w22 ++ (w13 ++ (w8 ++ (w3 ++ [])))))) ([(q24, .inr (4, [.null, .null, .null, .null, .int 0, .int 0, .int 0, .long 0]))])
  have hP := zP_perm hpm hP
  have hD := zD_perm hpm hD
  clear hpm
  have hP : va_P (dC, dI) vwCl ([(q24, .inr (4, [.null, .null, .null, .null, .int 0, .int 0, .int 0, .long 0]))] ++ ([(h0, .inr (11, [.ref q1, .ref q4, .ref q9, .ref q14, .null, .null, .null, .null, .null, .null, .null, .null, .null, .null, .null, .long 0, .long 0]))] ++ ([(q23, .inr (5, [.null, .null, .null, .null, .int 0, .int 0, .int 0, .int 0, .int 0, .int 0, .int 0, .int 0, .int 0, .int 0]))] ++ (w22 ++ (w13 ++ (w8 ++ (w3 ++ []))))))) H := hP
  have hD : va_D A ([(q24, .inr (4, [.null, .null, .null, .null, .int 0, .int 0, .int 0, .long 0]))] ++ ([(h0, .inr (11, [.ref q1, .ref q4, .ref q9, .ref q14, .null, .null, .null, .null, .null, .null, .null, .null, .null, .null, .null, .long 0, .long 0]))] ++ ([(q23, .inr (5, [.null, .null, .null, .null, .int 0, .int 0, .int 0, .int 0, .int 0, .int 0, .int 0, .int 0, .int 0, .int 0]))] ++ (w22 ++ (w13 ++ (w8 ++ (w3 ++ []))))))) := hD
  refine lv_dup hx hb dX11_init_64 rfl ?_
  refine lv_aload_n hx hb dX11_init_65 rfl (lv_at hl 0 rfl) ?_
  have hpm := ((zal ([(q24, .inr (4, [.null, .null, .null, .null, .int 0, .int 0, .int 0, .long 0]))]) (List.Perm.refl _)).trans (zswp ([(q24, .inr (4, [.null, .null, .null, .null, .int 0, .int 0, .int 0, .long 0]))]) ([(h0, .inr (11, [.ref q1, .ref q4, .ref q9, .ref q14, .null, .null, .null, .null, .null, .null, .null, .null, .null, .null, .null, .long 0, .long 0]))]) ([(q23, .inr (5, [.null, .null, .null, .null, .int 0, .int 0, .int 0, .int 0, .int 0, .int 0, .int 0, .int 0, .int 0, .int 0]))] ++ (w22 ++ (w13 ++ (w8 ++ (w3 ++ [])))))))
  have hP := zP_perm hpm hP
  have hD := zD_perm hpm hD
  clear hpm
  have hP : va_P (dC, dI) vwCl ([(h0, .inr (11, [.ref q1, .ref q4, .ref q9, .ref q14, .null, .null, .null, .null, .null, .null, .null, .null, .null, .null, .null, .long 0, .long 0]))] ++ ([(q24, .inr (4, [.null, .null, .null, .null, .int 0, .int 0, .int 0, .long 0]))] ++ ([(q23, .inr (5, [.null, .null, .null, .null, .int 0, .int 0, .int 0, .int 0, .int 0, .int 0, .int 0, .int 0, .int 0, .int 0]))] ++ (w22 ++ (w13 ++ (w8 ++ (w3 ++ []))))))) H := hP
  have hD : va_D A ([(h0, .inr (11, [.ref q1, .ref q4, .ref q9, .ref q14, .null, .null, .null, .null, .null, .null, .null, .null, .null, .null, .null, .long 0, .long 0]))] ++ ([(q24, .inr (4, [.null, .null, .null, .null, .int 0, .int 0, .int 0, .long 0]))] ++ ([(q23, .inr (5, [.null, .null, .null, .null, .int 0, .int 0, .int 0, .int 0, .int 0, .int 0, .int 0, .int 0, .int 0, .int 0]))] ++ (w22 ++ (w13 ++ (w8 ++ (w3 ++ []))))))) := hD
  refine va_get (D := (dC, dI)) (ci := 11) (v := .ref q4) (C := RX11) (T := TX11) (N := 17) hx hb hts (fun w h => List.mem_cons_of_mem _ (inX11 w h)) hown hK hP 0 rfl rfl 1 (by decide) (hts _ (List.mem_cons_of_mem _ mw_290)) (fun _ h9 => h9) rfl dX11_init_66 ?_
  have hpm := ((zal ([(h0, .inr (11, [.ref q1, .ref q4, .ref q9, .ref q14, .null, .null, .null, .null, .null, .null, .null, .null, .null, .null, .null, .long 0, .long 0]))]) (List.Perm.refl _)).trans (zswp ([(h0, .inr (11, [.ref q1, .ref q4, .ref q9, .ref q14, .null, .null, .null, .null, .null, .null, .null, .null, .null, .null, .null, .long 0, .long 0]))]) ([(q24, .inr (4, [.null, .null, .null, .null, .int 0, .int 0, .int 0, .long 0]))]) ([(q23, .inr (5, [.null, .null, .null, .null, .int 0, .int 0, .int 0, .int 0, .int 0, .int 0, .int 0, .int 0, .int 0, .int 0]))] ++ (w22 ++ (w13 ++ (w8 ++ (w3 ++ [])))))))
  have hP := zP_perm hpm hP
  have hD := zD_perm hpm hD
  clear hpm
  have hP : va_P (dC, dI) vwCl ([(q24, .inr (4, [.null, .null, .null, .null, .int 0, .int 0, .int 0, .long 0]))] ++ ([(h0, .inr (11, [.ref q1, .ref q4, .ref q9, .ref q14, .null, .null, .null, .null, .null, .null, .null, .null, .null, .null, .null, .long 0, .long 0]))] ++ ([(q23, .inr (5, [.null, .null, .null, .null, .int 0, .int 0, .int 0, .int 0, .int 0, .int 0, .int 0, .int 0, .int 0, .int 0]))] ++ (w22 ++ (w13 ++ (w8 ++ (w3 ++ []))))))) H := hP
  have hD : va_D A ([(q24, .inr (4, [.null, .null, .null, .null, .int 0, .int 0, .int 0, .long 0]))] ++ ([(h0, .inr (11, [.ref q1, .ref q4, .ref q9, .ref q14, .null, .null, .null, .null, .null, .null, .null, .null, .null, .null, .null, .long 0, .long 0]))] ++ ([(q23, .inr (5, [.null, .null, .null, .null, .int 0, .int 0, .int 0, .int 0, .int 0, .int 0, .int 0, .int 0, .int 0, .int 0]))] ++ (w22 ++ (w13 ++ (w8 ++ (w3 ++ []))))))) := hD
  have hP : va_P (dC, dI) vwCl ([(q24, .inr (4, [.null, .null, .null, .null, .int 0, .int 0, .int 0, .long 0]))] ++ ([(h0, .inr (11, [.ref q1, .ref q4, .ref q9, .ref q14, .null, .null, .null, .null, .null, .null, .null, .null, .null, .null, .null, .long 0, .long 0]))] ++ ([(q23, .inr (5, [.null, .null, .null, .null, .int 0, .int 0, .int 0, .int 0, .int 0, .int 0, .int 0, .int 0, .int 0, .int 0]))] ++ (w22 ++ (w13 ++ (w8 ++ (w3 ++ []))))))) H := hP
  have hD : va_D A ([(q24, .inr (4, [.null, .null, .null, .null, .int 0, .int 0, .int 0, .long 0]))] ++ ([(h0, .inr (11, [.ref q1, .ref q4, .ref q9, .ref q14, .null, .null, .null, .null, .null, .null, .null, .null, .null, .null, .null, .long 0, .long 0]))] ++ ([(q23, .inr (5, [.null, .null, .null, .null, .int 0, .int 0, .int 0, .int 0, .int 0, .int 0, .int 0, .int 0, .int 0, .int 0]))] ++ (w22 ++ (w13 ++ (w8 ++ (w3 ++ []))))))) := hD
  have hPc := zP_left hP
  have hDc := zD_left hD
  have hFc := zfree hD hS hA
  refine va_callv (va_runI (As := [.ref q4]) (rest := [.ref q24, .ref q1, .ref q23, .ref q23, .ref h0]) ⟨hx, hb, hml, hown, hts⟩ (c_X4_init l dC dI cI cJ cC q24 q4 H.size) (cwI 1 hts (zG (u := []) (fun w h => absurd h List.not_mem_nil) mw_62) rfl rfl rfl (hts _ (List.mem_cons_of_mem _ mw_4)) (hts _ (List.mem_cons_of_mem _ mw_60)) (hts _ (List.mem_cons_of_mem _ mw_61)) rfl (by decide +kernel) ⟨Nat.le_of_ble_eq_true rfl, Nat.le_of_ble_eq_true rfl⟩) ⟨fun a U g mk q => by obtain ⟨q0, q1, qP, qK, qD⟩ := q; exact ⟨q0, q1, qP, va_K.moved (u := U) (U := U.calling g mk a) (Vm.Alike.refl U.vm) qK, qD⟩, fun U hU hW => ⟨rfl, by rw [hU], by rw [hU]; exact hPc, va_K.moved hW.alike hK, hDc.weaken (fun _ _ _ _ => trivial)⟩⟩ rfl rfl hl.1 rfl (lv_room (Nat.le_of_ble_eq_true rfl)) dX11_init_69 ⟨Nat.le_of_ble_eq_true rfl, Nat.le_of_ble_eq_true rfl⟩) hS (fun q _ h => hFc q h) hFc (fun u t H1 locs ht hvm hw hB hz1 hk1 hS => ?_)
  obtain ⟨q25, q26, q27, hP1, hK1, hD1⟩ := hB
  rw [ht] at hP1
  obtain ⟨hP, hD⟩ := zjoin hP hD hk1 hFc hP1 hD1
  obtain ⟨w28, ew28⟩ : ∃ z : va_W, z = [(q24, .inr (4, [.ref q4, .ref q25, .ref q26, .ref q27, .int 0, .int 0, .int 0, .long 0])), (q25, .inl (cI, 10, .inl (fun _ => 0))), (q26, .inl (cI, 10, .inl (fun _ => 0))), (q27, .inl (cI, 10, .inl (fun _ => 0)))] := ⟨_, rfl⟩
  have hP : va_P (dC, dI) vwCl (w28 ++ ([(h0, .inr (11, [.ref q1, .ref q4, .ref q9, .ref q14, .null, .null, .null, .null, .null, .null, .null, .null, .null, .null, .null, .long 0, .long 0]))] ++ ([(q23, .inr (5, [.null, .null, .null, .null, .int 0, .int 0, .int 0, .int 0, .int 0, .int 0, .int 0, .int 0, .int 0, .int 0]))] ++ (w22 ++ (w13 ++ (w8 ++ (w3 ++ []))))))) H1 := by rw [ew28]; exact hP
  have hD : va_D A (w28 ++ ([(h0, .inr (11, [.ref q1, .ref q4, .ref q9, .ref q14, .null, .null, .null, .null, .null, .null, .null, .null, .null, .null, .null, .long 0, .long 0]))] ++ ([(q23, .inr (5, [.null, .null, .null, .null, .int 0, .int 0, .int 0, .int 0, .int 0, .int 0, .int 0, .int 0, .int 0, .int 0]))] ++ (w22 ++ (w13 ++ (w8 ++ (w3 ++ []))))))) := by rw [ew28]; exact hD
  generalize H1 = H at hP hS ⊢
  clear hP1 hD1 hK1 hPc hDc hFc hk1 hz1
  have hP : va_P (dC, dI) vwCl (w28 ++ ([(h0, .inr (11, [.ref q1, .ref q4, .ref q9, .ref q14, .null, .null, .null, .null, .null, .null, .null, .null, .null, .null, .null, .long 0, .long 0]))] ++ ([(q23, .inr (5, [.null, .null, .null, .null, .int 0, .int 0, .int 0, .int 0, .int 0, .int 0, .int 0, .int 0, .int 0, .int 0]))] ++ (w22 ++ (w13 ++ (w8 ++ (w3 ++ []))))))) H := hP
  have hD : va_D A (w28 ++ ([(h0, .inr (11, [.ref q1, .ref q4, .ref q9, .ref q14, .null, .null, .null, .null, .null, .null, .null, .null, .null, .null, .null, .long 0, .long 0]))] ++ ([(q23, .inr (5, [.null, .null, .null, .null, .int 0, .int 0, .int 0, .int 0, .int 0, .int 0, .int 0, .int 0, .int 0, .int 0]))] ++ (w22 ++ (w13 ++ (w8 ++ (w3 ++ []))))))) := hD
  refine va_new (ci := 6) (fs := [.null, .null, .null, .null, .null, .null, .null, .int 0, .int 0, .int 0]) (C := RX6) (T := TX6) (N := 10) hx hb hts (fun w h => List.mem_cons_of_mem _ (inX6 w h)) tyX6 tyX6_ok hown (hts _ (List.mem_cons_of_mem _ mw_87)) (hts _ (List.mem_cons_of_mem _ mw_88)) (hts _ (List.mem_cons_of_mem _ mw_5)) hK hP hD hS hA rfl (fun j hj => by rcases (show j = 0 ∨ j = 1 ∨ j = 2 ∨ j = 3 ∨ j = 4 ∨ j = 5 ∨ j = 6 ∨ j = 7 ∨ j = 8 ∨ j = 9 by omega) with rfl | rfl | rfl | rfl | rfl | rfl | rfl | rfl | rfl | rfl <;> rfl) (Nat.le_of_ble_eq_true rfl) (Nat.le_of_ble_eq_true rfl) dX11_init_72 (fun q29 H hP hD hS => ?_)
  have hpm := zrot (w28 ++ ([(h0, .inr (11, [.ref q1, .ref q4, .ref q9, .ref q14, .null, .null, .null, .null, .null, .null, .null, .null, .null, .null, .null, .long 0, .long 0]))] ++ ([(q23, .inr (5, [.null, .null, .null, .null, .int 0, .int 0, .int 0, .int 0, .int 0, .int 0, .int 0, .int 0, .int 0, .int 0]))] ++ (w22 ++ (w13 ++ (w8 ++ (w3 ++ []))))))) ([(q29, .inr (6, [.null, .null, .null, .null, .null, .null, .null, .int 0, .int 0, .int 0]))])
  have hP := zP_perm hpm hP
  have hD := zD_perm hpm hD
  clear hpm
  have hP : va_P (dC, dI) vwCl ([(q29, .inr (6, [.null, .null, .null, .null, .null, .null, .null, .int 0, .int 0, .int 0]))] ++ (w28 ++ ([(h0, .inr (11, [.ref q1, .ref q4, .ref q9, .ref q14, .null, .null, .null, .null, .null, .null, .null, .null, .null, .null, .null, .long 0, .long 0]))] ++ ([(q23, .inr (5, [.null, .null, .null, .null, .int 0, .int 0, .int 0, .int 0, .int 0, .int 0, .int 0, .int 0, .int 0, .int 0]))] ++ (w22 ++ (w13 ++ (w8 ++ (w3 ++ [])))))))) H := hP
  have hD : va_D A ([(q29, .inr (6, [.null, .null, .null, .null, .null, .null, .null, .int 0, .int 0, .int 0]))] ++ (w28 ++ ([(h0, .inr (11, [.ref q1, .ref q4, .ref q9, .ref q14, .null, .null, .null, .null, .null, .null, .null, .null, .null, .null, .null, .long 0, .long 0]))] ++ ([(q23, .inr (5, [.null, .null, .null, .null, .int 0, .int 0, .int 0, .int 0, .int 0, .int 0, .int 0, .int 0, .int 0, .int 0]))] ++ (w22 ++ (w13 ++ (w8 ++ (w3 ++ [])))))))) := hD
  refine lv_dup hx hb dX11_init_75 rfl ?_
  have hP : va_P (dC, dI) vwCl ([(q29, .inr (6, [.null, .null, .null, .null, .null, .null, .null, .int 0, .int 0, .int 0]))] ++ (w28 ++ ([(h0, .inr (11, [.ref q1, .ref q4, .ref q9, .ref q14, .null, .null, .null, .null, .null, .null, .null, .null, .null, .null, .null, .long 0, .long 0]))] ++ ([(q23, .inr (5, [.null, .null, .null, .null, .int 0, .int 0, .int 0, .int 0, .int 0, .int 0, .int 0, .int 0, .int 0, .int 0]))] ++ (w22 ++ (w13 ++ (w8 ++ (w3 ++ [])))))))) H := hP
  have hD : va_D A ([(q29, .inr (6, [.null, .null, .null, .null, .null, .null, .null, .int 0, .int 0, .int 0]))] ++ (w28 ++ ([(h0, .inr (11, [.ref q1, .ref q4, .ref q9, .ref q14, .null, .null, .null, .null, .null, .null, .null, .null, .null, .null, .null, .long 0, .long 0]))] ++ ([(q23, .inr (5, [.null, .null, .null, .null, .int 0, .int 0, .int 0, .int 0, .int 0, .int 0, .int 0, .int 0, .int 0, .int 0]))] ++ (w22 ++ (w13 ++ (w8 ++ (w3 ++ [])))))))) := hD
  have hPc := zP_left hP
  have hDc := zD_left hD
  have hFc := zfree hD hS hA
  refine va_callv (va_runIN (As := []) (rest := [.ref q29, .ref q24, .ref q1, .ref q23, .ref q23, .ref h0]) ⟨hx, hb, hml, hown, hts⟩ (c_X6_init l dC dI cI cJ cC q29 H.size) (⟨va_cnB 0 hts (zG (u := []) (fun w h => absurd h List.not_mem_nil) mw_90) rfl rfl rfl hn_34 (hts _ (List.mem_cons_of_mem _ mw_5)) (by decide +kernel) ⟨Nat.le_of_ble_eq_true rfl, Nat.le_of_ble_eq_true rfl⟩, rfl, (hts _ (List.mem_cons_of_mem _ mw_89))⟩) ⟨fun a U g mk q => by obtain ⟨q0, q1, qP, qK, qD⟩ := q; exact ⟨q0, q1, qP, va_K.moved (u := U) (U := U.calling g mk a) (Vm.Alike.refl U.vm) qK, qD⟩, fun U hU hW => ⟨rfl, by rw [hU], by rw [hU]; exact hPc, va_K.moved hW.alike hK, hDc.weaken (fun _ _ _ _ => trivial)⟩⟩ rfl rfl hl.1 rfl (lv_room (Nat.le_of_ble_eq_true rfl)) dX11_init_76 ⟨Nat.le_of_ble_eq_true rfl, Nat.le_of_ble_eq_true rfl⟩) hS (fun q _ h => hFc q h) hFc (fun u t H1 locs ht hvm hw hB hz1 hk1 hS => ?_)
  obtain ⟨q30, q31, q32, q33, q34, q35, q36, hP1, hK1, hD1⟩ := hB
  rw [ht] at hP1
  obtain ⟨hP, hD⟩ := zjoin hP hD hk1 hFc hP1 hD1
  obtain ⟨w37, ew37⟩ : ∃ z : va_W, z = [(q29, .inr (6, [.ref q30, .ref q31, .ref q32, .ref q33, .ref q34, .ref q35, .ref q36, .int 0, .int 0, .int 0])), (q30, .inl (cI, 20, .inl (fun _ => 0))), (q31, .inl (cI, 20, .inl (fun _ => 0))), (q32, .inl (cI, 20, .inl (fun _ => 0))), (q33, .inl (cI, 20, .inl (fun _ => 0))), (q34, .inl (cI, 800, .inl (fun _ => 0))), (q35, .inl (cJ, 64, .inr (.inl (fun _ => 0)))), (q36, .inl (cI, 5, .inl (fun _ => 0)))] := ⟨_, rfl⟩
  have hP : va_P (dC, dI) vwCl (w37 ++ (w28 ++ ([(h0, .inr (11, [.ref q1, .ref q4, .ref q9, .ref q14, .null, .null, .null, .null, .null, .null, .null, .null, .null, .null, .null, .long 0, .long 0]))] ++ ([(q23, .inr (5, [.null, .null, .null, .null, .int 0, .int 0, .int 0, .int 0, .int 0, .int 0, .int 0, .int 0, .int 0, .int 0]))] ++ (w22 ++ (w13 ++ (w8 ++ (w3 ++ [])))))))) H1 := by rw [ew37]; exact hP
  have hD : va_D A (w37 ++ (w28 ++ ([(h0, .inr (11, [.ref q1, .ref q4, .ref q9, .ref q14, .null, .null, .null, .null, .null, .null, .null, .null, .null, .null, .null, .long 0, .long 0]))] ++ ([(q23, .inr (5, [.null, .null, .null, .null, .int 0, .int 0, .int 0, .int 0, .int 0, .int 0, .int 0, .int 0, .int 0, .int 0]))] ++ (w22 ++ (w13 ++ (w8 ++ (w3 ++ [])))))))) := by rw [ew37]; exact hD
  generalize H1 = H at hP hS ⊢
  clear hP1 hD1 hK1 hPc hDc hFc hk1 hz1
  have hP : va_P (dC, dI) vwCl (w37 ++ (w28 ++ ([(h0, .inr (11, [.ref q1, .ref q4, .ref q9, .ref q14, .null, .null, .null, .null, .null, .null, .null, .null, .null, .null, .null, .long 0, .long 0]))] ++ ([(q23, .inr (5, [.null, .null, .null, .null, .int 0, .int 0, .int 0, .int 0, .int 0, .int 0, .int 0, .int 0, .int 0, .int 0]))] ++ (w22 ++ (w13 ++ (w8 ++ (w3 ++ [])))))))) H := hP
  have hD : va_D A (w37 ++ (w28 ++ ([(h0, .inr (11, [.ref q1, .ref q4, .ref q9, .ref q14, .null, .null, .null, .null, .null, .null, .null, .null, .null, .null, .null, .long 0, .long 0]))] ++ ([(q23, .inr (5, [.null, .null, .null, .null, .int 0, .int 0, .int 0, .int 0, .int 0, .int 0, .int 0, .int 0, .int 0, .int 0]))] ++ (w22 ++ (w13 ++ (w8 ++ (w3 ++ [])))))))) := hD
  have hpm := ((zal (w37) (((zal (w28) (((zal ([(h0, .inr (11, [.ref q1, .ref q4, .ref q9, .ref q14, .null, .null, .null, .null, .null, .null, .null, .null, .null, .null, .null, .long 0, .long 0]))]) (List.Perm.refl _)).trans (zswp ([(h0, .inr (11, [.ref q1, .ref q4, .ref q9, .ref q14, .null, .null, .null, .null, .null, .null, .null, .null, .null, .null, .null, .long 0, .long 0]))]) ([(q23, .inr (5, [.null, .null, .null, .null, .int 0, .int 0, .int 0, .int 0, .int 0, .int 0, .int 0, .int 0, .int 0, .int 0]))]) (w22 ++ (w13 ++ (w8 ++ (w3 ++ [])))))))).trans (zswp (w28) ([(q23, .inr (5, [.null, .null, .null, .null, .int 0, .int 0, .int 0, .int 0, .int 0, .int 0, .int 0, .int 0, .int 0, .int 0]))]) ([(h0, .inr (11, [.ref q1, .ref q4, .ref q9, .ref q14, .null, .null, .null, .null, .null, .null, .null, .null, .null, .null, .null, .long 0, .long 0]))] ++ (w22 ++ (w13 ++ (w8 ++ (w3 ++ []))))))))).trans (zswp (w37) ([(q23, .inr (5, [.null, .null, .null, .null, .int 0, .int 0, .int 0, .int 0, .int 0, .int 0, .int 0, .int 0, .int 0, .int 0]))]) (w28 ++ ([(h0, .inr (11, [.ref q1, .ref q4, .ref q9, .ref q14, .null, .null, .null, .null, .null, .null, .null, .null, .null, .null, .null, .long 0, .long 0]))] ++ (w22 ++ (w13 ++ (w8 ++ (w3 ++ []))))))))
  have hP := zP_perm hpm hP
  have hD := zD_perm hpm hD
  clear hpm
  have hP : va_P (dC, dI) vwCl ([(q23, .inr (5, [.null, .null, .null, .null, .int 0, .int 0, .int 0, .int 0, .int 0, .int 0, .int 0, .int 0, .int 0, .int 0]))] ++ (w37 ++ (w28 ++ ([(h0, .inr (11, [.ref q1, .ref q4, .ref q9, .ref q14, .null, .null, .null, .null, .null, .null, .null, .null, .null, .null, .null, .long 0, .long 0]))] ++ (w22 ++ (w13 ++ (w8 ++ (w3 ++ [])))))))) H := hP
  have hD : va_D A ([(q23, .inr (5, [.null, .null, .null, .null, .int 0, .int 0, .int 0, .int 0, .int 0, .int 0, .int 0, .int 0, .int 0, .int 0]))] ++ (w37 ++ (w28 ++ ([(h0, .inr (11, [.ref q1, .ref q4, .ref q9, .ref q14, .null, .null, .null, .null, .null, .null, .null, .null, .null, .null, .null, .long 0, .long 0]))] ++ (w22 ++ (w13 ++ (w8 ++ (w3 ++ [])))))))) := hD
  have hP : va_P (dC, dI) vwCl ([(q23, .inr (5, [.null, .null, .null, .null, .int 0, .int 0, .int 0, .int 0, .int 0, .int 0, .int 0, .int 0, .int 0, .int 0]))] ++ (w37 ++ (w28 ++ ([(h0, .inr (11, [.ref q1, .ref q4, .ref q9, .ref q14, .null, .null, .null, .null, .null, .null, .null, .null, .null, .null, .null, .long 0, .long 0]))] ++ (w22 ++ (w13 ++ (w8 ++ (w3 ++ [])))))))) H := hP
  have hD : va_D A ([(q23, .inr (5, [.null, .null, .null, .null, .int 0, .int 0, .int 0, .int 0, .int 0, .int 0, .int 0, .int 0, .int 0, .int 0]))] ++ (w37 ++ (w28 ++ ([(h0, .inr (11, [.ref q1, .ref q4, .ref q9, .ref q14, .null, .null, .null, .null, .null, .null, .null, .null, .null, .null, .null, .long 0, .long 0]))] ++ (w22 ++ (w13 ++ (w8 ++ (w3 ++ [])))))))) := hD
  have hPc := zP_left hP
  have hDc := zD_left hD
  have hFc := zfree hD hS hA
  refine va_callv (va_runI (As := [.ref q1, .ref q24, .ref q29]) (rest := [.ref q23, .ref h0]) ⟨hx, hb, hml, hown, hts⟩ (c_X5_init l dC dI cI cJ cC q23 q1 q24 q29 qs qv H.size N _ h) (cwI 3 hts (zG (u := []) (fun w h => absurd h List.not_mem_nil) mw_110) rfl rfl rfl (hts _ (List.mem_cons_of_mem _ mw_6)) (hts _ (List.mem_cons_of_mem _ mw_108)) (hts _ (List.mem_cons_of_mem _ mw_109)) rfl (by decide +kernel) ⟨Nat.le_of_ble_eq_true rfl, Nat.le_of_ble_eq_true rfl⟩) ⟨fun a U g mk q => by obtain ⟨q0, q1, qP, qK, qD, qR, qF⟩ := q; exact ⟨q0, q1, qP, va_K.moved (u := U) (U := U.calling g mk a) (Vm.Alike.refl U.vm) qK, qD, vk_R.same (u := U) rfl qR, zSf.moved (u := U) (U := U.calling g mk a) (Vm.Alike.refl U.vm) qF⟩, fun U hU hW => ⟨rfl, by rw [hU], by rw [hU]; exact hPc, va_K.moved hW.alike hK, hDc.weaken (fun _ _ _ _ => trivial), vk_R.warm hW hRs, by rw [hU]; exact zSf.moved hW.alike ((hFs.kept (fun a h9 h8 => hS.2.1 a h9 h8)).narrow hFc)⟩⟩ rfl rfl hl.1 rfl (lv_room (Nat.le_of_ble_eq_true rfl)) dX11_init_79 ⟨Nat.le_of_ble_eq_true rfl, Nat.le_of_ble_eq_true rfl⟩) hS (fun q _ h => hFc q h) hFc (fun uR t H1 locs ht hvm hw hB hz1 hk1 hS => ?_)
  obtain ⟨q38, q39, q40, q41, q42, q43, hP1, hK1, hD1⟩ := hB
  rw [ht] at hP1
  obtain ⟨hP, hD⟩ := zjoin hP hD hk1 hFc hP1 hD1
  obtain ⟨w44, ew44⟩ : ∃ z : va_W, z = [(q23, .inr (5, [.ref q39, .ref q24, .ref q29, .ref q38, .int (uR.1 0), .int (uR.1 1), .int (uR.1 2), .int (uR.1 3), .int (uR.1 4), .int (uR.1 5), .int (uR.1 6), .int (uR.1 7), .int (uR.1 8), .int (uR.1 9)])), (q39, .inr (8, [.ref q1, .ref q40, .ref q41, .ref q42, .ref q43, .int (uR.1 10), .int (uR.1 11)])), (q38, .inl (cI, 19, .inl (uR.2.2.1 0))), (q40, .inl (cI, 801, .inl (uR.2.2.1 1))), (q41, .inl (cI, 801, .inl (uR.2.2.1 2))), (q42, .inl (cI, 801, .inl (uR.2.2.1 3))), (q43, .inl (cI, 801, .inl (uR.2.2.1 4)))] := ⟨_, rfl⟩
  have hP : va_P (dC, dI) vwCl (w44 ++ (w37 ++ (w28 ++ ([(h0, .inr (11, [.ref q1, .ref q4, .ref q9, .ref q14, .null, .null, .null, .null, .null, .null, .null, .null, .null, .null, .null, .long 0, .long 0]))] ++ (w22 ++ (w13 ++ (w8 ++ (w3 ++ [])))))))) H1 := by rw [ew44]; exact hP
  have hD : va_D A (w44 ++ (w37 ++ (w28 ++ ([(h0, .inr (11, [.ref q1, .ref q4, .ref q9, .ref q14, .null, .null, .null, .null, .null, .null, .null, .null, .null, .null, .null, .long 0, .long 0]))] ++ (w22 ++ (w13 ++ (w8 ++ (w3 ++ [])))))))) := by rw [ew44]; exact hD
  generalize H1 = H at hP hS ⊢
  clear hP1 hD1 hK1 hPc hDc hFc hk1 hz1
  have hP : va_P (dC, dI) vwCl (w44 ++ (w37 ++ (w28 ++ ([(h0, .inr (11, [.ref q1, .ref q4, .ref q9, .ref q14, .null, .null, .null, .null, .null, .null, .null, .null, .null, .null, .null, .long 0, .long 0]))] ++ (w22 ++ (w13 ++ (w8 ++ (w3 ++ [])))))))) H := hP
  have hD : va_D A (w44 ++ (w37 ++ (w28 ++ ([(h0, .inr (11, [.ref q1, .ref q4, .ref q9, .ref q14, .null, .null, .null, .null, .null, .null, .null, .null, .null, .null, .null, .long 0, .long 0]))] ++ (w22 ++ (w13 ++ (w8 ++ (w3 ++ [])))))))) := hD
  have h := hw
  have hpm := ((zal (w44) (((zal (w37) (((zal (w28) (List.Perm.refl _)).trans (zswp (w28) ([(h0, .inr (11, [.ref q1, .ref q4, .ref q9, .ref q14, .null, .null, .null, .null, .null, .null, .null, .null, .null, .null, .null, .long 0, .long 0]))]) (w22 ++ (w13 ++ (w8 ++ (w3 ++ [])))))))).trans (zswp (w37) ([(h0, .inr (11, [.ref q1, .ref q4, .ref q9, .ref q14, .null, .null, .null, .null, .null, .null, .null, .null, .null, .null, .null, .long 0, .long 0]))]) (w28 ++ (w22 ++ (w13 ++ (w8 ++ (w3 ++ []))))))))).trans (zswp (w44) ([(h0, .inr (11, [.ref q1, .ref q4, .ref q9, .ref q14, .null, .null, .null, .null, .null, .null, .null, .null, .null, .null, .null, .long 0, .long 0]))]) (w37 ++ (w28 ++ (w22 ++ (w13 ++ (w8 ++ (w3 ++ []))))))))
  have hP := zP_perm hpm hP
  have hD := zD_perm hpm hD
  clear hpm
  have hP : va_P (dC, dI) vwCl ([(h0, .inr (11, [.ref q1, .ref q4, .ref q9, .ref q14, .null, .null, .null, .null, .null, .null, .null, .null, .null, .null, .null, .long 0, .long 0]))] ++ (w44 ++ (w37 ++ (w28 ++ (w22 ++ (w13 ++ (w8 ++ (w3 ++ [])))))))) H := hP
  have hD : va_D A ([(h0, .inr (11, [.ref q1, .ref q4, .ref q9, .ref q14, .null, .null, .null, .null, .null, .null, .null, .null, .null, .null, .null, .long 0, .long 0]))] ++ (w44 ++ (w37 ++ (w28 ++ (w22 ++ (w13 ++ (w8 ++ (w3 ++ [])))))))) := hD
  refine va_putF (D := (dC, dI)) (ci := 11) (v := .ref q23) (ty := .object "TieStreet$Reader") (C := RX11) (T := TX11) (N := 17) hx hb hts (fun w h => List.mem_cons_of_mem _ (inX11 w h)) tyX11 tyX11_ok nmX11 hown hK hP hD hS 0 rfl rfl 4 (by decide) (hts _ (List.mem_cons_of_mem _ mw_293)) (fun _ h9 => h9) rfl hin2 rfl (by decide +kernel) rfl rfl (Nat.le_of_ble_eq_true rfl) dX11_init_82 (fun H locs hP hD hS => ?_)
  have hP : va_P (dC, dI) vwCl ([(h0, .inr (11, [.ref q1, .ref q4, .ref q9, .ref q14, .ref q23, .null, .null, .null, .null, .null, .null, .null, .null, .null, .null, .long 0, .long 0]))] ++ (w44 ++ (w37 ++ (w28 ++ (w22 ++ (w13 ++ (w8 ++ (w3 ++ [])))))))) H := hP
  have hD : va_D A ([(h0, .inr (11, [.ref q1, .ref q4, .ref q9, .ref q14, .ref q23, .null, .null, .null, .null, .null, .null, .null, .null, .null, .null, .long 0, .long 0]))] ++ (w44 ++ (w37 ++ (w28 ++ (w22 ++ (w13 ++ (w8 ++ (w3 ++ [])))))))) := hD
  refine lv_aload_n hx hb dX11_init_85 rfl (lv_at hl 0 rfl) ?_
  refine va_new (ci := 10) (fs := [.null, .null, .null, .null, .null, .null, .int 0, .int 0, .int 0, .long 0]) (C := RX10) (T := TX10) (N := 10) hx hb hts (fun w h => List.mem_cons_of_mem _ (inX10 w h)) tyX10 tyX10_ok hown (hts _ (List.mem_cons_of_mem _ mw_193)) (hts _ (List.mem_cons_of_mem _ mw_194)) (hts _ (List.mem_cons_of_mem _ mw_12)) hK hP hD hS hA rfl (fun j hj => by rcases (show j = 0 ∨ j = 1 ∨ j = 2 ∨ j = 3 ∨ j = 4 ∨ j = 5 ∨ j = 6 ∨ j = 7 ∨ j = 8 ∨ j = 9 by omega) with rfl | rfl | rfl | rfl | rfl | rfl | rfl | rfl | rfl | rfl <;> rfl) (Nat.le_of_ble_eq_true rfl) (Nat.le_of_ble_eq_true rfl) dX11_init_86 (fun q45 H hP hD hS => ?_)
  have hpm := zrot ([(h0, .inr (11, [.ref q1, .ref q4, .ref q9, .ref q14, .ref q23, .null, .null, .null, .null, .null, .null, .null, .null, .null, .null, .long 0, .long 0]))] ++ (w44 ++ (w37 ++ (w28 ++ (w22 ++ (w13 ++ (w8 ++ (w3 ++ [])))))))) ([(q45, .inr (10, [.null, .null, .null, .null, .null, .null, .int 0, .int 0, .int 0, .long 0]))])
  have hP := zP_perm hpm hP
  have hD := zD_perm hpm hD
  clear hpm
  have hP : va_P (dC, dI) vwCl ([(q45, .inr (10, [.null, .null, .null, .null, .null, .null, .int 0, .int 0, .int 0, .long 0]))] ++ ([(h0, .inr (11, [.ref q1, .ref q4, .ref q9, .ref q14, .ref q23, .null, .null, .null, .null, .null, .null, .null, .null, .null, .null, .long 0, .long 0]))] ++ (w44 ++ (w37 ++ (w28 ++ (w22 ++ (w13 ++ (w8 ++ (w3 ++ []))))))))) H := hP
  have hD : va_D A ([(q45, .inr (10, [.null, .null, .null, .null, .null, .null, .int 0, .int 0, .int 0, .long 0]))] ++ ([(h0, .inr (11, [.ref q1, .ref q4, .ref q9, .ref q14, .ref q23, .null, .null, .null, .null, .null, .null, .null, .null, .null, .null, .long 0, .long 0]))] ++ (w44 ++ (w37 ++ (w28 ++ (w22 ++ (w13 ++ (w8 ++ (w3 ++ []))))))))) := hD
  refine lv_dup hx hb dX11_init_89 rfl ?_
  refine lv_aload_n hx hb dX11_init_90 rfl (lv_at hl 0 rfl) ?_
  have hpm := ((zal ([(q45, .inr (10, [.null, .null, .null, .null, .null, .null, .int 0, .int 0, .int 0, .long 0]))]) (List.Perm.refl _)).trans (zswp ([(q45, .inr (10, [.null, .null, .null, .null, .null, .null, .int 0, .int 0, .int 0, .long 0]))]) ([(h0, .inr (11, [.ref q1, .ref q4, .ref q9, .ref q14, .ref q23, .null, .null, .null, .null, .null, .null, .null, .null, .null, .null, .long 0, .long 0]))]) (w44 ++ (w37 ++ (w28 ++ (w22 ++ (w13 ++ (w8 ++ (w3 ++ [])))))))))
  have hP := zP_perm hpm hP
  have hD := zD_perm hpm hD
  clear hpm
  have hP : va_P (dC, dI) vwCl ([(h0, .inr (11, [.ref q1, .ref q4, .ref q9, .ref q14, .ref q23, .null, .null, .null, .null, .null, .null, .null, .null, .null, .null, .long 0, .long 0]))] ++ ([(q45, .inr (10, [.null, .null, .null, .null, .null, .null, .int 0, .int 0, .int 0, .long 0]))] ++ (w44 ++ (w37 ++ (w28 ++ (w22 ++ (w13 ++ (w8 ++ (w3 ++ []))))))))) H := hP
  have hD : va_D A ([(h0, .inr (11, [.ref q1, .ref q4, .ref q9, .ref q14, .ref q23, .null, .null, .null, .null, .null, .null, .null, .null, .null, .null, .long 0, .long 0]))] ++ ([(q45, .inr (10, [.null, .null, .null, .null, .null, .null, .int 0, .int 0, .int 0, .long 0]))] ++ (w44 ++ (w37 ++ (w28 ++ (w22 ++ (w13 ++ (w8 ++ (w3 ++ []))))))))) := hD
  refine va_get (D := (dC, dI)) (ci := 11) (v := .ref q9) (C := RX11) (T := TX11) (N := 17) hx hb hts (fun w h => List.mem_cons_of_mem _ (inX11 w h)) hown hK hP 0 rfl rfl 2 (by decide) (hts _ (List.mem_cons_of_mem _ mw_291)) (fun _ h9 => h9) rfl dX11_init_91 ?_
  refine lv_aload_n hx hb dX11_init_94 rfl (lv_at hl 0 rfl) ?_
  refine va_get (D := (dC, dI)) (ci := 11) (v := .ref q14) (C := RX11) (T := TX11) (N := 17) hx hb hts (fun w h => List.mem_cons_of_mem _ (inX11 w h)) hown hK hP 0 rfl rfl 3 (by decide) (hts _ (List.mem_cons_of_mem _ mw_292)) (fun _ h9 => h9) rfl dX11_init_95 ?_
  have hpm := ((zal ([(h0, .inr (11, [.ref q1, .ref q4, .ref q9, .ref q14, .ref q23, .null, .null, .null, .null, .null, .null, .null, .null, .null, .null, .long 0, .long 0]))]) (List.Perm.refl _)).trans (zswp ([(h0, .inr (11, [.ref q1, .ref q4, .ref q9, .ref q14, .ref q23, .null, .null, .null, .null, .null, .null, .null, .null, .null, .null, .long 0, .long 0]))]) ([(q45, .inr (10, [.null, .null, .null, .null, .null, .null, .int 0, .int 0, .int 0, .long 0]))]) (w44 ++ (w37 ++ (w28 ++ (w22 ++ (w13 ++ (w8 ++ (w3 ++ [])))))))))
  have hP := zP_perm hpm hP
  have hD := zD_perm hpm hD
  clear hpm
  have hP : va_P (dC, dI) vwCl ([(q45, .inr (10, [.null, .null, .null, .null, .null, .null, .int 0, .int 0, .int 0, .long 0]))] ++ ([(h0, .inr (11, [.ref q1, .ref q4, .ref q9, .ref q14, .ref q23, .null, .null, .null, .null, .null, .null, .null, .null, .null, .null, .long 0, .long 0]))] ++ (w44 ++ (w37 ++ (w28 ++ (w22 ++ (w13 ++ (w8 ++ (w3 ++ []))))))))) H := hP
  have hD : va_D A ([(q45, .inr (10, [.null, .null, .null, .null, .null, .null, .int 0, .int 0, .int 0, .long 0]))] ++ ([(h0, .inr (11, [.ref q1, .ref q4, .ref q9, .ref q14, .ref q23, .null, .null, .null, .null, .null, .null, .null, .null, .null, .null, .long 0, .long 0]))] ++ (w44 ++ (w37 ++ (w28 ++ (w22 ++ (w13 ++ (w8 ++ (w3 ++ []))))))))) := hD
  have hP : va_P (dC, dI) vwCl ([(q45, .inr (10, [.null, .null, .null, .null, .null, .null, .int 0, .int 0, .int 0, .long 0]))] ++ ([(h0, .inr (11, [.ref q1, .ref q4, .ref q9, .ref q14, .ref q23, .null, .null, .null, .null, .null, .null, .null, .null, .null, .null, .long 0, .long 0]))] ++ (w44 ++ (w37 ++ (w28 ++ (w22 ++ (w13 ++ (w8 ++ (w3 ++ []))))))))) H := hP
  have hD : va_D A ([(q45, .inr (10, [.null, .null, .null, .null, .null, .null, .int 0, .int 0, .int 0, .long 0]))] ++ ([(h0, .inr (11, [.ref q1, .ref q4, .ref q9, .ref q14, .ref q23, .null, .null, .null, .null, .null, .null, .null, .null, .null, .null, .long 0, .long 0]))] ++ (w44 ++ (w37 ++ (w28 ++ (w22 ++ (w13 ++ (w8 ++ (w3 ++ []))))))))) := hD
  have hPc := zP_left hP
  have hDc := zD_left hD
  have hFc := zfree hD hS hA
  refine va_callv (va_runI (As := [.ref q9, .ref q14]) (rest := [.ref q45, .ref h0]) ⟨hx, hb, hml, hown, hts⟩ (c_X10_init l dC dI cI cJ cC q45 q9 q14 H.size) (cwI 2 hts (zG (u := []) (fun w h => absurd h List.not_mem_nil) mw_197) rfl rfl rfl (hts _ (List.mem_cons_of_mem _ mw_12)) (hts _ (List.mem_cons_of_mem _ mw_195)) (hts _ (List.mem_cons_of_mem _ mw_196)) rfl (by decide +kernel) ⟨Nat.le_of_ble_eq_true rfl, Nat.le_of_ble_eq_true rfl⟩) ⟨fun a U g mk q => by obtain ⟨q0, q1, qP, qK, qD⟩ := q; exact ⟨q0, q1, qP, va_K.moved (u := U) (U := U.calling g mk a) (Vm.Alike.refl U.vm) qK, qD⟩, fun U hU hW => ⟨rfl, by rw [hU], by rw [hU]; exact hPc, va_K.moved hW.alike hK, hDc.weaken (fun _ _ _ _ => trivial)⟩⟩ rfl rfl hl.1 rfl (lv_room (Nat.le_of_ble_eq_true rfl)) dX11_init_98 ⟨Nat.le_of_ble_eq_true rfl, Nat.le_of_ble_eq_true rfl⟩) hS (fun q _ h => hFc q h) hFc (fun u t H1 locs ht hvm hw hB hz1 hk1 hS => ?_)
  obtain ⟨q46, q47, q48, q49, hP1, hK1, hD1⟩ := hB
  rw [ht] at hP1
  obtain ⟨hP, hD⟩ := zjoin hP hD hk1 hFc hP1 hD1
  obtain ⟨w50, ew50⟩ : ∃ z : va_W, z = [(q45, .inr (10, [.ref q9, .ref q14, .ref q46, .ref q47, .ref q48, .ref q49, .int 0, .int 0, .int 0, .long 0])), (q46, .inl (cJ, 8192, .inr (.inl (fun _ => 0)))), (q47, .inl (cJ, 8192, .inr (.inl (fun _ => 0)))), (q48, .inl (cI, 10, .inl (fun _ => 0))), (q49, .inl (cI, 10, .inl (fun _ => 0)))] := ⟨_, rfl⟩
  have hP : va_P (dC, dI) vwCl (w50 ++ ([(h0, .inr (11, [.ref q1, .ref q4, .ref q9, .ref q14, .ref q23, .null, .null, .null, .null, .null, .null, .null, .null, .null, .null, .long 0, .long 0]))] ++ (w44 ++ (w37 ++ (w28 ++ (w22 ++ (w13 ++ (w8 ++ (w3 ++ []))))))))) H1 := by rw [ew50]; exact hP
  have hD : va_D A (w50 ++ ([(h0, .inr (11, [.ref q1, .ref q4, .ref q9, .ref q14, .ref q23, .null, .null, .null, .null, .null, .null, .null, .null, .null, .null, .long 0, .long 0]))] ++ (w44 ++ (w37 ++ (w28 ++ (w22 ++ (w13 ++ (w8 ++ (w3 ++ []))))))))) := by rw [ew50]; exact hD
  generalize H1 = H at hP hS ⊢
  clear hP1 hD1 hK1 hPc hDc hFc hk1 hz1
  have hP : va_P (dC, dI) vwCl (w50 ++ ([(h0, .inr (11, [.ref q1, .ref q4, .ref q9, .ref q14, .ref q23, .null, .null, .null, .null, .null, .null, .null, .null, .null, .null, .long 0, .long 0]))] ++ (w44 ++ (w37 ++ (w28 ++ (w22 ++ (w13 ++ (w8 ++ (w3 ++ []))))))))) H := hP
  have hD : va_D A (w50 ++ ([(h0, .inr (11, [.ref q1, .ref q4, .ref q9, .ref q14, .ref q23, .null, .null, .null, .null, .null, .null, .null, .null, .null, .null, .long 0, .long 0]))] ++ (w44 ++ (w37 ++ (w28 ++ (w22 ++ (w13 ++ (w8 ++ (w3 ++ []))))))))) := hD
  have hpm := ((zal (w50) (List.Perm.refl _)).trans (zswp (w50) ([(h0, .inr (11, [.ref q1, .ref q4, .ref q9, .ref q14, .ref q23, .null, .null, .null, .null, .null, .null, .null, .null, .null, .null, .long 0, .long 0]))]) (w44 ++ (w37 ++ (w28 ++ (w22 ++ (w13 ++ (w8 ++ (w3 ++ [])))))))))
  have hP := zP_perm hpm hP
  have hD := zD_perm hpm hD
  clear hpm
  have hP : va_P (dC, dI) vwCl ([(h0, .inr (11, [.ref q1, .ref q4, .ref q9, .ref q14, .ref q23, .null, .null, .null, .null, .null, .null, .null, .null, .null, .null, .long 0, .long 0]))] ++ (w50 ++ (w44 ++ (w37 ++ (w28 ++ (w22 ++ (w13 ++ (w8 ++ (w3 ++ []))))))))) H := hP
  have hD : va_D A ([(h0, .inr (11, [.ref q1, .ref q4, .ref q9, .ref q14, .ref q23, .null, .null, .null, .null, .null, .null, .null, .null, .null, .null, .long 0, .long 0]))] ++ (w50 ++ (w44 ++ (w37 ++ (w28 ++ (w22 ++ (w13 ++ (w8 ++ (w3 ++ []))))))))) := hD
  refine va_putF (D := (dC, dI)) (ci := 11) (v := .ref q45) (ty := .object "TieStreet$Worths") (C := RX11) (T := TX11) (N := 17) hx hb hts (fun w h => List.mem_cons_of_mem _ (inX11 w h)) tyX11 tyX11_ok nmX11 hown hK hP hD hS 0 rfl rfl 5 (by decide) (hts _ (List.mem_cons_of_mem _ mw_294)) (fun _ h9 => h9) rfl hin2 rfl (by decide +kernel) rfl rfl (Nat.le_of_ble_eq_true rfl) dX11_init_101 (fun H locs hP hD hS => ?_)
  have hP : va_P (dC, dI) vwCl ([(h0, .inr (11, [.ref q1, .ref q4, .ref q9, .ref q14, .ref q23, .ref q45, .null, .null, .null, .null, .null, .null, .null, .null, .null, .long 0, .long 0]))] ++ (w50 ++ (w44 ++ (w37 ++ (w28 ++ (w22 ++ (w13 ++ (w8 ++ (w3 ++ []))))))))) H := hP
  have hD : va_D A ([(h0, .inr (11, [.ref q1, .ref q4, .ref q9, .ref q14, .ref q23, .ref q45, .null, .null, .null, .null, .null, .null, .null, .null, .null, .long 0, .long 0]))] ++ (w50 ++ (w44 ++ (w37 ++ (w28 ++ (w22 ++ (w13 ++ (w8 ++ (w3 ++ []))))))))) := hD
  refine lv_aload_n hx hb dX11_init_104 rfl (lv_at hl 0 rfl) ?_
  refine va_new (ci := 0) (fs := [.null, .null, .null, .null, .null, .null, .int 0, .int 0, .long 0]) (C := RX0) (T := TX0) (N := 9) hx hb hts (fun w h => List.mem_cons_of_mem _ (inX0 w h)) tyX0 tyX0_ok hown (hts _ (List.mem_cons_of_mem _ mw_211)) (hts _ (List.mem_cons_of_mem _ mw_212)) (hts _ (List.mem_cons_of_mem _ mw_13)) hK hP hD hS hA rfl (fun j hj => by rcases (show j = 0 ∨ j = 1 ∨ j = 2 ∨ j = 3 ∨ j = 4 ∨ j = 5 ∨ j = 6 ∨ j = 7 ∨ j = 8 by omega) with rfl | rfl | rfl | rfl | rfl | rfl | rfl | rfl | rfl <;> rfl) (Nat.le_of_ble_eq_true rfl) (Nat.le_of_ble_eq_true rfl) dX11_init_105 (fun q51 H hP hD hS => ?_)
  have hpm := zrot ([(h0, .inr (11, [.ref q1, .ref q4, .ref q9, .ref q14, .ref q23, .ref q45, .null, .null, .null, .null, .null, .null, .null, .null, .null, .long 0, .long 0]))] ++ (w50 ++ (w44 ++ (w37 ++ (w28 ++ (w22 ++ (w13 ++ (w8 ++ (w3 ++ []))))))))) ([(q51, .inr (0, [.null, .null, .null, .null, .null, .null, .int 0, .int 0, .long 0]))])
  have hP := zP_perm hpm hP
  have hD := zD_perm hpm hD
  clear hpm
  have hP : va_P (dC, dI) vwCl ([(q51, .inr (0, [.null, .null, .null, .null, .null, .null, .int 0, .int 0, .long 0]))] ++ ([(h0, .inr (11, [.ref q1, .ref q4, .ref q9, .ref q14, .ref q23, .ref q45, .null, .null, .null, .null, .null, .null, .null, .null, .null, .long 0, .long 0]))] ++ (w50 ++ (w44 ++ (w37 ++ (w28 ++ (w22 ++ (w13 ++ (w8 ++ (w3 ++ [])))))))))) H := hP
  have hD : va_D A ([(q51, .inr (0, [.null, .null, .null, .null, .null, .null, .int 0, .int 0, .long 0]))] ++ ([(h0, .inr (11, [.ref q1, .ref q4, .ref q9, .ref q14, .ref q23, .ref q45, .null, .null, .null, .null, .null, .null, .null, .null, .null, .long 0, .long 0]))] ++ (w50 ++ (w44 ++ (w37 ++ (w28 ++ (w22 ++ (w13 ++ (w8 ++ (w3 ++ [])))))))))) := hD
  refine lv_dup hx hb dX11_init_108 rfl ?_
  refine lv_aload_n hx hb dX11_init_109 rfl (lv_at hl 0 rfl) ?_
  have hpm := ((zal ([(q51, .inr (0, [.null, .null, .null, .null, .null, .null, .int 0, .int 0, .long 0]))]) (List.Perm.refl _)).trans (zswp ([(q51, .inr (0, [.null, .null, .null, .null, .null, .null, .int 0, .int 0, .long 0]))]) ([(h0, .inr (11, [.ref q1, .ref q4, .ref q9, .ref q14, .ref q23, .ref q45, .null, .null, .null, .null, .null, .null, .null, .null, .null, .long 0, .long 0]))]) (w50 ++ (w44 ++ (w37 ++ (w28 ++ (w22 ++ (w13 ++ (w8 ++ (w3 ++ []))))))))))
  have hP := zP_perm hpm hP
  have hD := zD_perm hpm hD
  clear hpm
  have hP : va_P (dC, dI) vwCl ([(h0, .inr (11, [.ref q1, .ref q4, .ref q9, .ref q14, .ref q23, .ref q45, .null, .null, .null, .null, .null, .null, .null, .null, .null, .long 0, .long 0]))] ++ ([(q51, .inr (0, [.null, .null, .null, .null, .null, .null, .int 0, .int 0, .long 0]))] ++ (w50 ++ (w44 ++ (w37 ++ (w28 ++ (w22 ++ (w13 ++ (w8 ++ (w3 ++ [])))))))))) H := hP
  have hD : va_D A ([(h0, .inr (11, [.ref q1, .ref q4, .ref q9, .ref q14, .ref q23, .ref q45, .null, .null, .null, .null, .null, .null, .null, .null, .null, .long 0, .long 0]))] ++ ([(q51, .inr (0, [.null, .null, .null, .null, .null, .null, .int 0, .int 0, .long 0]))] ++ (w50 ++ (w44 ++ (w37 ++ (w28 ++ (w22 ++ (w13 ++ (w8 ++ (w3 ++ [])))))))))) := hD
  refine va_get (D := (dC, dI)) (ci := 11) (v := .ref q9) (C := RX11) (T := TX11) (N := 17) hx hb hts (fun w h => List.mem_cons_of_mem _ (inX11 w h)) hown hK hP 0 rfl rfl 2 (by decide) (hts _ (List.mem_cons_of_mem _ mw_291)) (fun _ h9 => h9) rfl dX11_init_110 ?_
  refine lv_aload_n hx hb dX11_init_113 rfl (lv_at hl 0 rfl) ?_
  refine va_get (D := (dC, dI)) (ci := 11) (v := .ref q45) (C := RX11) (T := TX11) (N := 17) hx hb hts (fun w h => List.mem_cons_of_mem _ (inX11 w h)) hown hK hP 0 rfl rfl 5 (by decide) (hts _ (List.mem_cons_of_mem _ mw_294)) (fun _ h9 => h9) rfl dX11_init_114 ?_
  have hpm := ((zal ([(h0, .inr (11, [.ref q1, .ref q4, .ref q9, .ref q14, .ref q23, .ref q45, .null, .null, .null, .null, .null, .null, .null, .null, .null, .long 0, .long 0]))]) (((zal ([(q51, .inr (0, [.null, .null, .null, .null, .null, .null, .int 0, .int 0, .long 0]))]) (((zal (w50) (((zal (w44) (((zal (w37) (((zal (w28) (((zal (w22) (((zal (w13) (List.Perm.refl _)).trans (zswp (w13) (w8) (w3 ++ []))))).trans (zswp (w22) (w8) (w13 ++ (w3 ++ [])))))).trans (zswp (w28) (w8) (w22 ++ (w13 ++ (w3 ++ []))))))).trans (zswp (w37) (w8) (w28 ++ (w22 ++ (w13 ++ (w3 ++ [])))))))).trans (zswp (w44) (w8) (w37 ++ (w28 ++ (w22 ++ (w13 ++ (w3 ++ []))))))))).trans (zswp (w50) (w8) (w44 ++ (w37 ++ (w28 ++ (w22 ++ (w13 ++ (w3 ++ [])))))))))).trans (zswp ([(q51, .inr (0, [.null, .null, .null, .null, .null, .null, .int 0, .int 0, .long 0]))]) (w8) (w50 ++ (w44 ++ (w37 ++ (w28 ++ (w22 ++ (w13 ++ (w3 ++ []))))))))))).trans (zswp ([(h0, .inr (11, [.ref q1, .ref q4, .ref q9, .ref q14, .ref q23, .ref q45, .null, .null, .null, .null, .null, .null, .null, .null, .null, .long 0, .long 0]))]) (w8) ([(q51, .inr (0, [.null, .null, .null, .null, .null, .null, .int 0, .int 0, .long 0]))] ++ (w50 ++ (w44 ++ (w37 ++ (w28 ++ (w22 ++ (w13 ++ (w3 ++ []))))))))))
  have hP := zP_perm hpm hP
  have hD := zD_perm hpm hD
  clear hpm
  have hP : va_P (dC, dI) vwCl (w8 ++ ([(h0, .inr (11, [.ref q1, .ref q4, .ref q9, .ref q14, .ref q23, .ref q45, .null, .null, .null, .null, .null, .null, .null, .null, .null, .long 0, .long 0]))] ++ ([(q51, .inr (0, [.null, .null, .null, .null, .null, .null, .int 0, .int 0, .long 0]))] ++ (w50 ++ (w44 ++ (w37 ++ (w28 ++ (w22 ++ (w13 ++ (w3 ++ [])))))))))) H := hP
  have hD : va_D A (w8 ++ ([(h0, .inr (11, [.ref q1, .ref q4, .ref q9, .ref q14, .ref q23, .ref q45, .null, .null, .null, .null, .null, .null, .null, .null, .null, .long 0, .long 0]))] ++ ([(q51, .inr (0, [.null, .null, .null, .null, .null, .null, .int 0, .int 0, .long 0]))] ++ (w50 ++ (w44 ++ (w37 ++ (w28 ++ (w22 ++ (w13 ++ (w3 ++ [])))))))))) := hD
  have hpm := ((zal (w8) (((zal ([(h0, .inr (11, [.ref q1, .ref q4, .ref q9, .ref q14, .ref q23, .ref q45, .null, .null, .null, .null, .null, .null, .null, .null, .null, .long 0, .long 0]))]) (((zal ([(q51, .inr (0, [.null, .null, .null, .null, .null, .null, .int 0, .int 0, .long 0]))]) (((zal (w50) (((zal (w44) (((zal (w37) (((zal (w28) (((zal (w22) (List.Perm.refl _)).trans (zswp (w22) (w13) (w3 ++ []))))).trans (zswp (w28) (w13) (w22 ++ (w3 ++ [])))))).trans (zswp (w37) (w13) (w28 ++ (w22 ++ (w3 ++ []))))))).trans (zswp (w44) (w13) (w37 ++ (w28 ++ (w22 ++ (w3 ++ [])))))))).trans (zswp (w50) (w13) (w44 ++ (w37 ++ (w28 ++ (w22 ++ (w3 ++ []))))))))).trans (zswp ([(q51, .inr (0, [.null, .null, .null, .null, .null, .null, .int 0, .int 0, .long 0]))]) (w13) (w50 ++ (w44 ++ (w37 ++ (w28 ++ (w22 ++ (w3 ++ [])))))))))).trans (zswp ([(h0, .inr (11, [.ref q1, .ref q4, .ref q9, .ref q14, .ref q23, .ref q45, .null, .null, .null, .null, .null, .null, .null, .null, .null, .long 0, .long 0]))]) (w13) ([(q51, .inr (0, [.null, .null, .null, .null, .null, .null, .int 0, .int 0, .long 0]))] ++ (w50 ++ (w44 ++ (w37 ++ (w28 ++ (w22 ++ (w3 ++ []))))))))))).trans (zswp (w8) (w13) ([(h0, .inr (11, [.ref q1, .ref q4, .ref q9, .ref q14, .ref q23, .ref q45, .null, .null, .null, .null, .null, .null, .null, .null, .null, .long 0, .long 0]))] ++ ([(q51, .inr (0, [.null, .null, .null, .null, .null, .null, .int 0, .int 0, .long 0]))] ++ (w50 ++ (w44 ++ (w37 ++ (w28 ++ (w22 ++ (w3 ++ []))))))))))
  have hP := zP_perm hpm hP
  have hD := zD_perm hpm hD
  clear hpm
  have hP : va_P (dC, dI) vwCl (w13 ++ (w8 ++ ([(h0, .inr (11, [.ref q1, .ref q4, .ref q9, .ref q14, .ref q23, .ref q45, .null, .null, .null, .null, .null, .null, .null, .null, .null, .long 0, .long 0]))] ++ ([(q51, .inr (0, [.null, .null, .null, .null, .null, .null, .int 0, .int 0, .long 0]))] ++ (w50 ++ (w44 ++ (w37 ++ (w28 ++ (w22 ++ (w3 ++ [])))))))))) H := hP
  have hD : va_D A (w13 ++ (w8 ++ ([(h0, .inr (11, [.ref q1, .ref q4, .ref q9, .ref q14, .ref q23, .ref q45, .null, .null, .null, .null, .null, .null, .null, .null, .null, .long 0, .long 0]))] ++ ([(q51, .inr (0, [.null, .null, .null, .null, .null, .null, .int 0, .int 0, .long 0]))] ++ (w50 ++ (w44 ++ (w37 ++ (w28 ++ (w22 ++ (w3 ++ [])))))))))) := hD
  have hpm := ((zal (w13) (((zal (w8) (((zal ([(h0, .inr (11, [.ref q1, .ref q4, .ref q9, .ref q14, .ref q23, .ref q45, .null, .null, .null, .null, .null, .null, .null, .null, .null, .long 0, .long 0]))]) (List.Perm.refl _)).trans (zswp ([(h0, .inr (11, [.ref q1, .ref q4, .ref q9, .ref q14, .ref q23, .ref q45, .null, .null, .null, .null, .null, .null, .null, .null, .null, .long 0, .long 0]))]) ([(q51, .inr (0, [.null, .null, .null, .null, .null, .null, .int 0, .int 0, .long 0]))]) (w50 ++ (w44 ++ (w37 ++ (w28 ++ (w22 ++ (w3 ++ [])))))))))).trans (zswp (w8) ([(q51, .inr (0, [.null, .null, .null, .null, .null, .null, .int 0, .int 0, .long 0]))]) ([(h0, .inr (11, [.ref q1, .ref q4, .ref q9, .ref q14, .ref q23, .ref q45, .null, .null, .null, .null, .null, .null, .null, .null, .null, .long 0, .long 0]))] ++ (w50 ++ (w44 ++ (w37 ++ (w28 ++ (w22 ++ (w3 ++ []))))))))))).trans (zswp (w13) ([(q51, .inr (0, [.null, .null, .null, .null, .null, .null, .int 0, .int 0, .long 0]))]) (w8 ++ ([(h0, .inr (11, [.ref q1, .ref q4, .ref q9, .ref q14, .ref q23, .ref q45, .null, .null, .null, .null, .null, .null, .null, .null, .null, .long 0, .long 0]))] ++ (w50 ++ (w44 ++ (w37 ++ (w28 ++ (w22 ++ (w3 ++ []))))))))))
  have hP := zP_perm hpm hP
  have hD := zD_perm hpm hD
  clear hpm
  have hP : va_P (dC, dI) vwCl ([(q51, .inr (0, [.null, .null, .null, .null, .null, .null, .int 0, .int 0, .long 0]))] ++ (w13 ++ (w8 ++ ([(h0, .inr (11, [.ref q1, .ref q4, .ref q9, .ref q14, .ref q23, .ref q45, .null, .null, .null, .null, .null, .null, .null, .null, .null, .long 0, .long 0]))] ++ (w50 ++ (w44 ++ (w37 ++ (w28 ++ (w22 ++ (w3 ++ [])))))))))) H := hP
  have hD : va_D A ([(q51, .inr (0, [.null, .null, .null, .null, .null, .null, .int 0, .int 0, .long 0]))] ++ (w13 ++ (w8 ++ ([(h0, .inr (11, [.ref q1, .ref q4, .ref q9, .ref q14, .ref q23, .ref q45, .null, .null, .null, .null, .null, .null, .null, .null, .null, .long 0, .long 0]))] ++ (w50 ++ (w44 ++ (w37 ++ (w28 ++ (w22 ++ (w3 ++ [])))))))))) := hD
  subst ew13
  subst ew8
  have hP : va_P (dC, dI) vwCl ([(q51, .inr (0, [.null, .null, .null, .null, .null, .null, .int 0, .int 0, .long 0])), (q9, .inr (4, [.ref q4, .ref q10, .ref q11, .ref q12, .int 0, .int 0, .int 0, .long 0])), (q10, .inl (cI, 10, .inl (fun _ => 0))), (q11, .inl (cI, 10, .inl (fun _ => 0))), (q12, .inl (cI, 10, .inl (fun _ => 0))), (q4, .inr (3, [.ref q5, .ref q6, .ref q7])), (q5, .inl (cI, 45, .inl (uP.2.2.1 0))), (q6, .inl (cI, 45, .inl (uP.2.2.1 1))), (q7, .inl (cJ, 10, .inr (.inl (uP.2.2.2 0))))] ++ ([(h0, .inr (11, [.ref q1, .ref q4, .ref q9, .ref q14, .ref q23, .ref q45, .null, .null, .null, .null, .null, .null, .null, .null, .null, .long 0, .long 0]))] ++ (w50 ++ (w44 ++ (w37 ++ (w28 ++ (w22 ++ (w3 ++ [])))))))) H := hP
  have hD : va_D A ([(q51, .inr (0, [.null, .null, .null, .null, .null, .null, .int 0, .int 0, .long 0])), (q9, .inr (4, [.ref q4, .ref q10, .ref q11, .ref q12, .int 0, .int 0, .int 0, .long 0])), (q10, .inl (cI, 10, .inl (fun _ => 0))), (q11, .inl (cI, 10, .inl (fun _ => 0))), (q12, .inl (cI, 10, .inl (fun _ => 0))), (q4, .inr (3, [.ref q5, .ref q6, .ref q7])), (q5, .inl (cI, 45, .inl (uP.2.2.1 0))), (q6, .inl (cI, 45, .inl (uP.2.2.1 1))), (q7, .inl (cJ, 10, .inr (.inl (uP.2.2.2 0))))] ++ ([(h0, .inr (11, [.ref q1, .ref q4, .ref q9, .ref q14, .ref q23, .ref q45, .null, .null, .null, .null, .null, .null, .null, .null, .null, .long 0, .long 0]))] ++ (w50 ++ (w44 ++ (w37 ++ (w28 ++ (w22 ++ (w3 ++ [])))))))) := hD
  have hpq : List.Perm ([(q51, .inr (0, [.null, .null, .null, .null, .null, .null, .int 0, .int 0, .long 0])), (q9, .inr (4, [.ref q4, .ref q10, .ref q11, .ref q12, .int 0, .int 0, .int 0, .long 0])), (q10, .inl (cI, 10, .inl (fun _ => 0))), (q11, .inl (cI, 10, .inl (fun _ => 0))), (q12, .inl (cI, 10, .inl (fun _ => 0))), (q4, .inr (3, [.ref q5, .ref q6, .ref q7])), (q5, .inl (cI, 45, .inl (uP.2.2.1 0))), (q6, .inl (cI, 45, .inl (uP.2.2.1 1))), (q7, .inl (cJ, 10, .inr (.inl (uP.2.2.2 0))))] : va_W) [(q51, .inr (0, [.null, .null, .null, .null, .null, .null, .int 0, .int 0, .long 0])), (q9, .inr (4, [.ref q4, .ref q10, .ref q11, .ref q12, .int 0, .int 0, .int 0, .long 0])), (q4, .inr (3, [.ref q5, .ref q6, .ref q7])), (q10, .inl (cI, 10, .inl (fun _ => 0))), (q11, .inl (cI, 10, .inl (fun _ => 0))), (q12, .inl (cI, 10, .inl (fun _ => 0))), (q5, .inl (cI, 45, .inl (uP.2.2.1 0))), (q6, .inl (cI, 45, .inl (uP.2.2.1 1))), (q7, .inl (cJ, 10, .inr (.inl (uP.2.2.2 0))))] := zpermOf [0, 1, 5, 2, 3, 4, 6, 7, 8] rfl rfl
  have hP := zP_perm (hpq.append_right ([(h0, .inr (11, [.ref q1, .ref q4, .ref q9, .ref q14, .ref q23, .ref q45, .null, .null, .null, .null, .null, .null, .null, .null, .null, .long 0, .long 0]))] ++ (w50 ++ (w44 ++ (w37 ++ (w28 ++ (w22 ++ (w3 ++ [])))))))) hP
  have hD := zD_perm (hpq.append_right ([(h0, .inr (11, [.ref q1, .ref q4, .ref q9, .ref q14, .ref q23, .ref q45, .null, .null, .null, .null, .null, .null, .null, .null, .null, .long 0, .long 0]))] ++ (w50 ++ (w44 ++ (w37 ++ (w28 ++ (w22 ++ (w3 ++ [])))))))) hD
  clear hpq
  have hPc := zP_left hP
  have hDc := zD_left hD
  have hFc := zfree hD hS hA
  refine va_callv (va_runI (As := [.ref q9, .ref q45]) (rest := [.ref q51, .ref h0]) ⟨hx, hb, hml, hown, hts⟩ (c_X0_init l dC dI cI cJ cC q51 q9 q45 q4 q10 q11 q12 q5 q6 q7 H.size N (uP.2.2.1 0) (uP.2.2.1 1) (uP.2.2.2 0) _ h) (cwI 2 hts (zG (u := []) (fun w h => absurd h List.not_mem_nil) mw_215) rfl rfl rfl (hts _ (List.mem_cons_of_mem _ mw_13)) (hts _ (List.mem_cons_of_mem _ mw_213)) (hts _ (List.mem_cons_of_mem _ mw_214)) rfl (by decide +kernel) ⟨Nat.le_of_ble_eq_true rfl, Nat.le_of_ble_eq_true rfl⟩) ⟨fun a U g mk q => by obtain ⟨q0, q1, qP, qK, qD⟩ := q; exact ⟨q0, q1, qP, va_K.moved (u := U) (U := U.calling g mk a) (Vm.Alike.refl U.vm) qK, qD⟩, fun U hU hW => ⟨rfl, by rw [hU], by rw [hU]; exact hPc, va_K.moved hW.alike hK, hDc.weaken (fun _ _ _ _ => trivial)⟩⟩ rfl rfl hl.1 rfl (lv_room (Nat.le_of_ble_eq_true rfl)) dX11_init_117 ⟨Nat.le_of_ble_eq_true rfl, Nat.le_of_ble_eq_true rfl⟩) hS (fun q _ h => hFc q h) hFc (fun uC t H1 locs ht hvm hw hB hz1 hk1 hS => ?_)
  obtain ⟨q52, q53, q54, hP1, hK1, hD1⟩ := hB
  rw [ht] at hP1
  obtain ⟨hP, hD⟩ := zjoin hP hD hk1 hFc hP1 hD1
  obtain ⟨w55, ew55⟩ : ∃ z : va_W, z = [(q51, .inr (0, [.ref q9, .ref q4, .ref q45, .ref q52, .ref q53, .ref q54, .int (uC.1 0), .int (uC.1 1), .long (uC.2.1 0)])), (q9, .inr (4, [.ref q4, .ref q10, .ref q11, .ref q12, .int (uC.1 2), .int (uC.1 3), .int (uC.1 4), .long (uC.2.1 1)])), (q4, .inr (3, [.ref q5, .ref q6, .ref q7])), (q52, .inl (cJ, 32, .inr (.inl (uC.2.2.2 0)))), (q53, .inl (cJ, 32, .inr (.inl (uC.2.2.2 1)))), (q54, .inl (cJ, 10, .inr (.inl (uC.2.2.2 2)))), (q10, .inl (cI, 10, .inl (uC.2.2.1 0))), (q11, .inl (cI, 10, .inl (uC.2.2.1 1))), (q12, .inl (cI, 10, .inl (uC.2.2.1 2))), (q5, .inl (cI, 45, .inl (uC.2.2.1 3))), (q6, .inl (cI, 45, .inl (uC.2.2.1 4))), (q7, .inl (cJ, 10, .inr (.inl (uC.2.2.2 3))))] := ⟨_, rfl⟩
  have hP : va_P (dC, dI) vwCl (w55 ++ ([(h0, .inr (11, [.ref q1, .ref q4, .ref q9, .ref q14, .ref q23, .ref q45, .null, .null, .null, .null, .null, .null, .null, .null, .null, .long 0, .long 0]))] ++ (w50 ++ (w44 ++ (w37 ++ (w28 ++ (w22 ++ (w3 ++ [])))))))) H1 := by rw [ew55]; exact hP
  have hD : va_D A (w55 ++ ([(h0, .inr (11, [.ref q1, .ref q4, .ref q9, .ref q14, .ref q23, .ref q45, .null, .null, .null, .null, .null, .null, .null, .null, .null, .long 0, .long 0]))] ++ (w50 ++ (w44 ++ (w37 ++ (w28 ++ (w22 ++ (w3 ++ [])))))))) := by rw [ew55]; exact hD
  generalize H1 = H at hP hS ⊢
  clear hP1 hD1 hK1 hPc hDc hFc hk1 hz1
  have hP : va_P (dC, dI) vwCl (w55 ++ ([(h0, .inr (11, [.ref q1, .ref q4, .ref q9, .ref q14, .ref q23, .ref q45, .null, .null, .null, .null, .null, .null, .null, .null, .null, .long 0, .long 0]))] ++ (w50 ++ (w44 ++ (w37 ++ (w28 ++ (w22 ++ (w3 ++ [])))))))) H := hP
  have hD : va_D A (w55 ++ ([(h0, .inr (11, [.ref q1, .ref q4, .ref q9, .ref q14, .ref q23, .ref q45, .null, .null, .null, .null, .null, .null, .null, .null, .null, .long 0, .long 0]))] ++ (w50 ++ (w44 ++ (w37 ++ (w28 ++ (w22 ++ (w3 ++ [])))))))) := hD
  have h := hw
  have hpm := ((zal (w55) (List.Perm.refl _)).trans (zswp (w55) ([(h0, .inr (11, [.ref q1, .ref q4, .ref q9, .ref q14, .ref q23, .ref q45, .null, .null, .null, .null, .null, .null, .null, .null, .null, .long 0, .long 0]))]) (w50 ++ (w44 ++ (w37 ++ (w28 ++ (w22 ++ (w3 ++ []))))))))
  have hP := zP_perm hpm hP
  have hD := zD_perm hpm hD
  clear hpm
  have hP : va_P (dC, dI) vwCl ([(h0, .inr (11, [.ref q1, .ref q4, .ref q9, .ref q14, .ref q23, .ref q45, .null, .null, .null, .null, .null, .null, .null, .null, .null, .long 0, .long 0]))] ++ (w55 ++ (w50 ++ (w44 ++ (w37 ++ (w28 ++ (w22 ++ (w3 ++ [])))))))) H := hP
  have hD : va_D A ([(h0, .inr (11, [.ref q1, .ref q4, .ref q9, .ref q14, .ref q23, .ref q45, .null, .null, .null, .null, .null, .null, .null, .null, .null, .long 0, .long 0]))] ++ (w55 ++ (w50 ++ (w44 ++ (w37 ++ (w28 ++ (w22 ++ (w3 ++ [])))))))) := hD
  refine va_putF (D := (dC, dI)) (ci := 11) (v := .ref q51) (ty := .object "TieStreet$Changes") (C := RX11) (T := TX11) (N := 17) hx hb hts (fun w h => List.mem_cons_of_mem _ (inX11 w h)) tyX11 tyX11_ok nmX11 hown hK hP hD hS 0 rfl rfl 6 (by decide) (hts _ (List.mem_cons_of_mem _ mw_295)) (fun _ h9 => h9) rfl hin2 rfl (by decide +kernel) rfl rfl (Nat.le_of_ble_eq_true rfl) dX11_init_120 (fun H locs hP hD hS => ?_)
  have hP : va_P (dC, dI) vwCl ([(h0, .inr (11, [.ref q1, .ref q4, .ref q9, .ref q14, .ref q23, .ref q45, .ref q51, .null, .null, .null, .null, .null, .null, .null, .null, .long 0, .long 0]))] ++ (w55 ++ (w50 ++ (w44 ++ (w37 ++ (w28 ++ (w22 ++ (w3 ++ [])))))))) H := hP
  have hD : va_D A ([(h0, .inr (11, [.ref q1, .ref q4, .ref q9, .ref q14, .ref q23, .ref q45, .ref q51, .null, .null, .null, .null, .null, .null, .null, .null, .long 0, .long 0]))] ++ (w55 ++ (w50 ++ (w44 ++ (w37 ++ (w28 ++ (w22 ++ (w3 ++ [])))))))) := hD
  refine lv_aload_n hx hb dX11_init_123 rfl (lv_at hl 0 rfl) ?_
  refine va_new (ci := 9) (fs := [.null, .null, .null, .null, .int 0, .int 0, .int 0]) (C := RX9) (T := TX9) (N := 7) hx hb hts (fun w h => List.mem_cons_of_mem _ (inX9 w h)) tyX9 tyX9_ok hown (hts _ (List.mem_cons_of_mem _ mw_232)) (hts _ (List.mem_cons_of_mem _ mw_233)) (hts _ (List.mem_cons_of_mem _ mw_14)) hK hP hD hS hA rfl (fun j hj => by rcases (show j = 0 ∨ j = 1 ∨ j = 2 ∨ j = 3 ∨ j = 4 ∨ j = 5 ∨ j = 6 by omega) with rfl | rfl | rfl | rfl | rfl | rfl | rfl <;> rfl) (Nat.le_of_ble_eq_true rfl) (Nat.le_of_ble_eq_true rfl) dX11_init_124 (fun q56 H hP hD hS => ?_)
  have hpm := zrot ([(h0, .inr (11, [.ref q1, .ref q4, .ref q9, .ref q14, .ref q23, .ref q45, .ref q51, .null, .null, .null, .null, .null, .null, .null, .null, .long 0, .long 0]))] ++ (w55 ++ (w50 ++ (w44 ++ (w37 ++ (w28 ++ (w22 ++ (w3 ++ [])))))))) ([(q56, .inr (9, [.null, .null, .null, .null, .int 0, .int 0, .int 0]))])
  have hP := zP_perm hpm hP
  have hD := zD_perm hpm hD
  clear hpm
  have hP : va_P (dC, dI) vwCl ([(q56, .inr (9, [.null, .null, .null, .null, .int 0, .int 0, .int 0]))] ++ ([(h0, .inr (11, [.ref q1, .ref q4, .ref q9, .ref q14, .ref q23, .ref q45, .ref q51, .null, .null, .null, .null, .null, .null, .null, .null, .long 0, .long 0]))] ++ (w55 ++ (w50 ++ (w44 ++ (w37 ++ (w28 ++ (w22 ++ (w3 ++ []))))))))) H := hP
  have hD : va_D A ([(q56, .inr (9, [.null, .null, .null, .null, .int 0, .int 0, .int 0]))] ++ ([(h0, .inr (11, [.ref q1, .ref q4, .ref q9, .ref q14, .ref q23, .ref q45, .ref q51, .null, .null, .null, .null, .null, .null, .null, .null, .long 0, .long 0]))] ++ (w55 ++ (w50 ++ (w44 ++ (w37 ++ (w28 ++ (w22 ++ (w3 ++ []))))))))) := hD
  refine lv_dup hx hb dX11_init_127 rfl ?_
  refine lv_aload_n hx hb dX11_init_128 rfl (lv_at hl 0 rfl) ?_
  have hpm := ((zal ([(q56, .inr (9, [.null, .null, .null, .null, .int 0, .int 0, .int 0]))]) (List.Perm.refl _)).trans (zswp ([(q56, .inr (9, [.null, .null, .null, .null, .int 0, .int 0, .int 0]))]) ([(h0, .inr (11, [.ref q1, .ref q4, .ref q9, .ref q14, .ref q23, .ref q45, .ref q51, .null, .null, .null, .null, .null, .null, .null, .null, .long 0, .long 0]))]) (w55 ++ (w50 ++ (w44 ++ (w37 ++ (w28 ++ (w22 ++ (w3 ++ [])))))))))
  have hP := zP_perm hpm hP
  have hD := zD_perm hpm hD
  clear hpm
  have hP : va_P (dC, dI) vwCl ([(h0, .inr (11, [.ref q1, .ref q4, .ref q9, .ref q14, .ref q23, .ref q45, .ref q51, .null, .null, .null, .null, .null, .null, .null, .null, .long 0, .long 0]))] ++ ([(q56, .inr (9, [.null, .null, .null, .null, .int 0, .int 0, .int 0]))] ++ (w55 ++ (w50 ++ (w44 ++ (w37 ++ (w28 ++ (w22 ++ (w3 ++ []))))))))) H := hP
  have hD : va_D A ([(h0, .inr (11, [.ref q1, .ref q4, .ref q9, .ref q14, .ref q23, .ref q45, .ref q51, .null, .null, .null, .null, .null, .null, .null, .null, .long 0, .long 0]))] ++ ([(q56, .inr (9, [.null, .null, .null, .null, .int 0, .int 0, .int 0]))] ++ (w55 ++ (w50 ++ (w44 ++ (w37 ++ (w28 ++ (w22 ++ (w3 ++ []))))))))) := hD
  refine va_get (D := (dC, dI)) (ci := 11) (v := .ref q9) (C := RX11) (T := TX11) (N := 17) hx hb hts (fun w h => List.mem_cons_of_mem _ (inX11 w h)) hown hK hP 0 rfl rfl 2 (by decide) (hts _ (List.mem_cons_of_mem _ mw_291)) (fun _ h9 => h9) rfl dX11_init_129 ?_
  refine lv_aload_n hx hb dX11_init_132 rfl (lv_at hl 0 rfl) ?_
  refine va_get (D := (dC, dI)) (ci := 11) (v := .ref q51) (C := RX11) (T := TX11) (N := 17) hx hb hts (fun w h => List.mem_cons_of_mem _ (inX11 w h)) hown hK hP 0 rfl rfl 6 (by decide) (hts _ (List.mem_cons_of_mem _ mw_295)) (fun _ h9 => h9) rfl dX11_init_133 ?_
  have hpm := ((zal ([(h0, .inr (11, [.ref q1, .ref q4, .ref q9, .ref q14, .ref q23, .ref q45, .ref q51, .null, .null, .null, .null, .null, .null, .null, .null, .long 0, .long 0]))]) (List.Perm.refl _)).trans (zswp ([(h0, .inr (11, [.ref q1, .ref q4, .ref q9, .ref q14, .ref q23, .ref q45, .ref q51, .null, .null, .null, .null, .null, .null, .null, .null, .long 0, .long 0]))]) ([(q56, .inr (9, [.null, .null, .null, .null, .int 0, .int 0, .int 0]))]) (w55 ++ (w50 ++ (w44 ++ (w37 ++ (w28 ++ (w22 ++ (w3 ++ [])))))))))
  have hP := zP_perm hpm hP
  have hD := zD_perm hpm hD
  clear hpm
  have hP : va_P (dC, dI) vwCl ([(q56, .inr (9, [.null, .null, .null, .null, .int 0, .int 0, .int 0]))] ++ ([(h0, .inr (11, [.ref q1, .ref q4, .ref q9, .ref q14, .ref q23, .ref q45, .ref q51, .null, .null, .null, .null, .null, .null, .null, .null, .long 0, .long 0]))] ++ (w55 ++ (w50 ++ (w44 ++ (w37 ++ (w28 ++ (w22 ++ (w3 ++ []))))))))) H := hP
  have hD : va_D A ([(q56, .inr (9, [.null, .null, .null, .null, .int 0, .int 0, .int 0]))] ++ ([(h0, .inr (11, [.ref q1, .ref q4, .ref q9, .ref q14, .ref q23, .ref q45, .ref q51, .null, .null, .null, .null, .null, .null, .null, .null, .long 0, .long 0]))] ++ (w55 ++ (w50 ++ (w44 ++ (w37 ++ (w28 ++ (w22 ++ (w3 ++ []))))))))) := hD
  have hP : va_P (dC, dI) vwCl ([(q56, .inr (9, [.null, .null, .null, .null, .int 0, .int 0, .int 0]))] ++ ([(h0, .inr (11, [.ref q1, .ref q4, .ref q9, .ref q14, .ref q23, .ref q45, .ref q51, .null, .null, .null, .null, .null, .null, .null, .null, .long 0, .long 0]))] ++ (w55 ++ (w50 ++ (w44 ++ (w37 ++ (w28 ++ (w22 ++ (w3 ++ []))))))))) H := hP
  have hD : va_D A ([(q56, .inr (9, [.null, .null, .null, .null, .int 0, .int 0, .int 0]))] ++ ([(h0, .inr (11, [.ref q1, .ref q4, .ref q9, .ref q14, .ref q23, .ref q45, .ref q51, .null, .null, .null, .null, .null, .null, .null, .null, .long 0, .long 0]))] ++ (w55 ++ (w50 ++ (w44 ++ (w37 ++ (w28 ++ (w22 ++ (w3 ++ []))))))))) := hD
  have hPc := zP_left hP
  have hDc := zD_left hD
  have hFc := zfree hD hS hA
  refine va_callv (va_runI (As := [.ref q9, .ref q51]) (rest := [.ref q56, .ref h0]) ⟨hx, hb, hml, hown, hts⟩ (c_X9_init l dC dI cI cJ cC q56 q9 q51 H.size) (cwI 2 hts (zG (u := []) (fun w h => absurd h List.not_mem_nil) mw_236) rfl rfl rfl (hts _ (List.mem_cons_of_mem _ mw_14)) (hts _ (List.mem_cons_of_mem _ mw_234)) (hts _ (List.mem_cons_of_mem _ mw_235)) rfl (by decide +kernel) ⟨Nat.le_of_ble_eq_true rfl, Nat.le_of_ble_eq_true rfl⟩) ⟨fun a U g mk q => by obtain ⟨q0, q1, qP, qK, qD⟩ := q; exact ⟨q0, q1, qP, va_K.moved (u := U) (U := U.calling g mk a) (Vm.Alike.refl U.vm) qK, qD⟩, fun U hU hW => ⟨rfl, by rw [hU], by rw [hU]; exact hPc, va_K.moved hW.alike hK, hDc.weaken (fun _ _ _ _ => trivial)⟩⟩ rfl rfl hl.1 rfl (lv_room (Nat.le_of_ble_eq_true rfl)) dX11_init_136 ⟨Nat.le_of_ble_eq_true rfl, Nat.le_of_ble_eq_true rfl⟩) hS (fun q _ h => hFc q h) hFc (fun u t H1 locs ht hvm hw hB hz1 hk1 hS => ?_)
  obtain ⟨q57, q58, hP1, hK1, hD1⟩ := hB
  rw [ht] at hP1
  obtain ⟨hP, hD⟩ := zjoin hP hD hk1 hFc hP1 hD1
  obtain ⟨w59, ew59⟩ : ∃ z : va_W, z = [(q56, .inr (9, [.ref q9, .ref q51, .ref q57, .ref q58, .int 0, .int 0, .int 0])), (q57, .inl (cJ, 201, .inr (.inl (fun _ => 0)))), (q58, .inl (cI, 45, .inl (fun _ => 0)))] := ⟨_, rfl⟩
  have hP : va_P (dC, dI) vwCl (w59 ++ ([(h0, .inr (11, [.ref q1, .ref q4, .ref q9, .ref q14, .ref q23, .ref q45, .ref q51, .null, .null, .null, .null, .null, .null, .null, .null, .long 0, .long 0]))] ++ (w55 ++ (w50 ++ (w44 ++ (w37 ++ (w28 ++ (w22 ++ (w3 ++ []))))))))) H1 := by rw [ew59]; exact hP
  have hD : va_D A (w59 ++ ([(h0, .inr (11, [.ref q1, .ref q4, .ref q9, .ref q14, .ref q23, .ref q45, .ref q51, .null, .null, .null, .null, .null, .null, .null, .null, .long 0, .long 0]))] ++ (w55 ++ (w50 ++ (w44 ++ (w37 ++ (w28 ++ (w22 ++ (w3 ++ []))))))))) := by rw [ew59]; exact hD
  generalize H1 = H at hP hS ⊢
  clear hP1 hD1 hK1 hPc hDc hFc hk1 hz1
  have hP : va_P (dC, dI) vwCl (w59 ++ ([(h0, .inr (11, [.ref q1, .ref q4, .ref q9, .ref q14, .ref q23, .ref q45, .ref q51, .null, .null, .null, .null, .null, .null, .null, .null, .long 0, .long 0]))] ++ (w55 ++ (w50 ++ (w44 ++ (w37 ++ (w28 ++ (w22 ++ (w3 ++ []))))))))) H := hP
  have hD : va_D A (w59 ++ ([(h0, .inr (11, [.ref q1, .ref q4, .ref q9, .ref q14, .ref q23, .ref q45, .ref q51, .null, .null, .null, .null, .null, .null, .null, .null, .long 0, .long 0]))] ++ (w55 ++ (w50 ++ (w44 ++ (w37 ++ (w28 ++ (w22 ++ (w3 ++ []))))))))) := hD
  have hpm := ((zal (w59) (List.Perm.refl _)).trans (zswp (w59) ([(h0, .inr (11, [.ref q1, .ref q4, .ref q9, .ref q14, .ref q23, .ref q45, .ref q51, .null, .null, .null, .null, .null, .null, .null, .null, .long 0, .long 0]))]) (w55 ++ (w50 ++ (w44 ++ (w37 ++ (w28 ++ (w22 ++ (w3 ++ [])))))))))
  have hP := zP_perm hpm hP
  have hD := zD_perm hpm hD
  clear hpm
  have hP : va_P (dC, dI) vwCl ([(h0, .inr (11, [.ref q1, .ref q4, .ref q9, .ref q14, .ref q23, .ref q45, .ref q51, .null, .null, .null, .null, .null, .null, .null, .null, .long 0, .long 0]))] ++ (w59 ++ (w55 ++ (w50 ++ (w44 ++ (w37 ++ (w28 ++ (w22 ++ (w3 ++ []))))))))) H := hP
  have hD : va_D A ([(h0, .inr (11, [.ref q1, .ref q4, .ref q9, .ref q14, .ref q23, .ref q45, .ref q51, .null, .null, .null, .null, .null, .null, .null, .null, .long 0, .long 0]))] ++ (w59 ++ (w55 ++ (w50 ++ (w44 ++ (w37 ++ (w28 ++ (w22 ++ (w3 ++ []))))))))) := hD
  refine va_putF (D := (dC, dI)) (ci := 11) (v := .ref q56) (ty := .object "TieStreet$Walk") (C := RX11) (T := TX11) (N := 17) hx hb hts (fun w h => List.mem_cons_of_mem _ (inX11 w h)) tyX11 tyX11_ok nmX11 hown hK hP hD hS 0 rfl rfl 7 (by decide) (hts _ (List.mem_cons_of_mem _ mw_296)) (fun _ h9 => h9) rfl hin2 rfl (by decide +kernel) rfl rfl (Nat.le_of_ble_eq_true rfl) dX11_init_139 (fun H locs hP hD hS => ?_)
  have hP : va_P (dC, dI) vwCl ([(h0, .inr (11, [.ref q1, .ref q4, .ref q9, .ref q14, .ref q23, .ref q45, .ref q51, .ref q56, .null, .null, .null, .null, .null, .null, .null, .long 0, .long 0]))] ++ (w59 ++ (w55 ++ (w50 ++ (w44 ++ (w37 ++ (w28 ++ (w22 ++ (w3 ++ []))))))))) H := hP
  have hD : va_D A ([(h0, .inr (11, [.ref q1, .ref q4, .ref q9, .ref q14, .ref q23, .ref q45, .ref q51, .ref q56, .null, .null, .null, .null, .null, .null, .null, .long 0, .long 0]))] ++ (w59 ++ (w55 ++ (w50 ++ (w44 ++ (w37 ++ (w28 ++ (w22 ++ (w3 ++ []))))))))) := hD
  refine lv_aload_n hx hb dX11_init_142 rfl (lv_at hl 0 rfl) ?_
  refine va_new (ci := 2) (fs := [.null, .int 0]) (C := RX2) (T := TX2) (N := 2) hx hb hts (fun w h => List.mem_cons_of_mem _ (inX2 w h)) tyX2 tyX2_ok hown (hts _ (List.mem_cons_of_mem _ mw_248)) (hts _ (List.mem_cons_of_mem _ mw_249)) (hts _ (List.mem_cons_of_mem _ mw_15)) hK hP hD hS hA rfl (fun j hj => by rcases (show j = 0 ∨ j = 1 by omega) with rfl | rfl <;> rfl) (Nat.le_of_ble_eq_true rfl) (Nat.le_of_ble_eq_true rfl) dX11_init_143 (fun q60 H hP hD hS => ?_)
  have hpm := zrot ([(h0, .inr (11, [.ref q1, .ref q4, .ref q9, .ref q14, .ref q23, .ref q45, .ref q51, .ref q56, .null, .null, .null, .null, .null, .null, .null, .long 0, .long 0]))] ++ (w59 ++ (w55 ++ (w50 ++ (w44 ++ (w37 ++ (w28 ++ (w22 ++ (w3 ++ []))))))))) ([(q60, .inr (2, [.null, .int 0]))])
  have hP := zP_perm hpm hP
  have hD := zD_perm hpm hD
  clear hpm
  have hP : va_P (dC, dI) vwCl ([(q60, .inr (2, [.null, .int 0]))] ++ ([(h0, .inr (11, [.ref q1, .ref q4, .ref q9, .ref q14, .ref q23, .ref q45, .ref q51, .ref q56, .null, .null, .null, .null, .null, .null, .null, .long 0, .long 0]))] ++ (w59 ++ (w55 ++ (w50 ++ (w44 ++ (w37 ++ (w28 ++ (w22 ++ (w3 ++ [])))))))))) H := hP
  have hD : va_D A ([(q60, .inr (2, [.null, .int 0]))] ++ ([(h0, .inr (11, [.ref q1, .ref q4, .ref q9, .ref q14, .ref q23, .ref q45, .ref q51, .ref q56, .null, .null, .null, .null, .null, .null, .null, .long 0, .long 0]))] ++ (w59 ++ (w55 ++ (w50 ++ (w44 ++ (w37 ++ (w28 ++ (w22 ++ (w3 ++ [])))))))))) := hD
  refine lv_dup hx hb dX11_init_146 rfl ?_
  have hP : va_P (dC, dI) vwCl ([(q60, .inr (2, [.null, .int 0]))] ++ ([(h0, .inr (11, [.ref q1, .ref q4, .ref q9, .ref q14, .ref q23, .ref q45, .ref q51, .ref q56, .null, .null, .null, .null, .null, .null, .null, .long 0, .long 0]))] ++ (w59 ++ (w55 ++ (w50 ++ (w44 ++ (w37 ++ (w28 ++ (w22 ++ (w3 ++ [])))))))))) H := hP
  have hD : va_D A ([(q60, .inr (2, [.null, .int 0]))] ++ ([(h0, .inr (11, [.ref q1, .ref q4, .ref q9, .ref q14, .ref q23, .ref q45, .ref q51, .ref q56, .null, .null, .null, .null, .null, .null, .null, .long 0, .long 0]))] ++ (w59 ++ (w55 ++ (w50 ++ (w44 ++ (w37 ++ (w28 ++ (w22 ++ (w3 ++ [])))))))))) := hD
  have hPc := zP_left hP
  have hDc := zD_left hD
  have hFc := zfree hD hS hA
  refine va_callv (va_runIN (As := []) (rest := [.ref q60, .ref h0]) ⟨hx, hb, hml, hown, hts⟩ (c_X2_init l dC dI cI cJ cC q60 H.size) (⟨va_cnB 0 hts (zG (u := []) (fun w h => absurd h List.not_mem_nil) mw_251) rfl rfl rfl hn_77 (hts _ (List.mem_cons_of_mem _ mw_15)) (by decide +kernel) ⟨Nat.le_of_ble_eq_true rfl, Nat.le_of_ble_eq_true rfl⟩, rfl, (hts _ (List.mem_cons_of_mem _ mw_250))⟩) ⟨fun a U g mk q => by obtain ⟨q0, q1, qP, qK, qD⟩ := q; exact ⟨q0, q1, qP, va_K.moved (u := U) (U := U.calling g mk a) (Vm.Alike.refl U.vm) qK, qD⟩, fun U hU hW => ⟨rfl, by rw [hU], by rw [hU]; exact hPc, va_K.moved hW.alike hK, hDc.weaken (fun _ _ _ _ => trivial)⟩⟩ rfl rfl hl.1 rfl (lv_room (Nat.le_of_ble_eq_true rfl)) dX11_init_147 ⟨Nat.le_of_ble_eq_true rfl, Nat.le_of_ble_eq_true rfl⟩) hS (fun q _ h => hFc q h) hFc (fun u t H1 locs ht hvm hw hB hz1 hk1 hS => ?_)
  obtain ⟨q61, hP1, hK1, hD1⟩ := hB
  rw [ht] at hP1
  obtain ⟨hP, hD⟩ := zjoin hP hD hk1 hFc hP1 hD1
  obtain ⟨w62, ew62⟩ : ∃ z : va_W, z = [(q60, .inr (2, [.ref q61, .int 0])), (q61, .inl (cI, 5, .inl (fun _ => 0)))] := ⟨_, rfl⟩
  have hP : va_P (dC, dI) vwCl (w62 ++ ([(h0, .inr (11, [.ref q1, .ref q4, .ref q9, .ref q14, .ref q23, .ref q45, .ref q51, .ref q56, .null, .null, .null, .null, .null, .null, .null, .long 0, .long 0]))] ++ (w59 ++ (w55 ++ (w50 ++ (w44 ++ (w37 ++ (w28 ++ (w22 ++ (w3 ++ [])))))))))) H1 := by rw [ew62]; exact hP
  have hD : va_D A (w62 ++ ([(h0, .inr (11, [.ref q1, .ref q4, .ref q9, .ref q14, .ref q23, .ref q45, .ref q51, .ref q56, .null, .null, .null, .null, .null, .null, .null, .long 0, .long 0]))] ++ (w59 ++ (w55 ++ (w50 ++ (w44 ++ (w37 ++ (w28 ++ (w22 ++ (w3 ++ [])))))))))) := by rw [ew62]; exact hD
  generalize H1 = H at hP hS ⊢
  clear hP1 hD1 hK1 hPc hDc hFc hk1 hz1
  have hP : va_P (dC, dI) vwCl (w62 ++ ([(h0, .inr (11, [.ref q1, .ref q4, .ref q9, .ref q14, .ref q23, .ref q45, .ref q51, .ref q56, .null, .null, .null, .null, .null, .null, .null, .long 0, .long 0]))] ++ (w59 ++ (w55 ++ (w50 ++ (w44 ++ (w37 ++ (w28 ++ (w22 ++ (w3 ++ [])))))))))) H := hP
  have hD : va_D A (w62 ++ ([(h0, .inr (11, [.ref q1, .ref q4, .ref q9, .ref q14, .ref q23, .ref q45, .ref q51, .ref q56, .null, .null, .null, .null, .null, .null, .null, .long 0, .long 0]))] ++ (w59 ++ (w55 ++ (w50 ++ (w44 ++ (w37 ++ (w28 ++ (w22 ++ (w3 ++ [])))))))))) := hD
  have hpm := ((zal (w62) (List.Perm.refl _)).trans (zswp (w62) ([(h0, .inr (11, [.ref q1, .ref q4, .ref q9, .ref q14, .ref q23, .ref q45, .ref q51, .ref q56, .null, .null, .null, .null, .null, .null, .null, .long 0, .long 0]))]) (w59 ++ (w55 ++ (w50 ++ (w44 ++ (w37 ++ (w28 ++ (w22 ++ (w3 ++ []))))))))))
  have hP := zP_perm hpm hP
  have hD := zD_perm hpm hD
  clear hpm
  have hP : va_P (dC, dI) vwCl ([(h0, .inr (11, [.ref q1, .ref q4, .ref q9, .ref q14, .ref q23, .ref q45, .ref q51, .ref q56, .null, .null, .null, .null, .null, .null, .null, .long 0, .long 0]))] ++ (w62 ++ (w59 ++ (w55 ++ (w50 ++ (w44 ++ (w37 ++ (w28 ++ (w22 ++ (w3 ++ [])))))))))) H := hP
  have hD : va_D A ([(h0, .inr (11, [.ref q1, .ref q4, .ref q9, .ref q14, .ref q23, .ref q45, .ref q51, .ref q56, .null, .null, .null, .null, .null, .null, .null, .long 0, .long 0]))] ++ (w62 ++ (w59 ++ (w55 ++ (w50 ++ (w44 ++ (w37 ++ (w28 ++ (w22 ++ (w3 ++ [])))))))))) := hD
  refine va_putF (D := (dC, dI)) (ci := 11) (v := .ref q60) (ty := .object "TieStreet$Orders") (C := RX11) (T := TX11) (N := 17) hx hb hts (fun w h => List.mem_cons_of_mem _ (inX11 w h)) tyX11 tyX11_ok nmX11 hown hK hP hD hS 0 rfl rfl 8 (by decide) (hts _ (List.mem_cons_of_mem _ mw_297)) (fun _ h9 => h9) rfl hin2 rfl (by decide +kernel) rfl rfl (Nat.le_of_ble_eq_true rfl) dX11_init_150 (fun H locs hP hD hS => ?_)
  have hP : va_P (dC, dI) vwCl ([(h0, .inr (11, [.ref q1, .ref q4, .ref q9, .ref q14, .ref q23, .ref q45, .ref q51, .ref q56, .ref q60, .null, .null, .null, .null, .null, .null, .long 0, .long 0]))] ++ (w62 ++ (w59 ++ (w55 ++ (w50 ++ (w44 ++ (w37 ++ (w28 ++ (w22 ++ (w3 ++ [])))))))))) H := hP
  have hD : va_D A ([(h0, .inr (11, [.ref q1, .ref q4, .ref q9, .ref q14, .ref q23, .ref q45, .ref q51, .ref q56, .ref q60, .null, .null, .null, .null, .null, .null, .long 0, .long 0]))] ++ (w62 ++ (w59 ++ (w55 ++ (w50 ++ (w44 ++ (w37 ++ (w28 ++ (w22 ++ (w3 ++ [])))))))))) := hD
  refine lv_aload_n hx hb dX11_init_153 rfl (lv_at hl 0 rfl) ?_
  refine va_new (ci := 1) (fs := [.null, .null, .int 0]) (C := RX1) (T := TX1) (N := 3) hx hb hts (fun w h => List.mem_cons_of_mem _ (inX1 w h)) tyX1 tyX1_ok hown (hts _ (List.mem_cons_of_mem _ mw_256)) (hts _ (List.mem_cons_of_mem _ mw_257)) (hts _ (List.mem_cons_of_mem _ mw_16)) hK hP hD hS hA rfl (fun j hj => by rcases (show j = 0 ∨ j = 1 ∨ j = 2 by omega) with rfl | rfl | rfl <;> rfl) (Nat.le_of_ble_eq_true rfl) (Nat.le_of_ble_eq_true rfl) dX11_init_154 (fun q63 H hP hD hS => ?_)
  have hpm := zrot ([(h0, .inr (11, [.ref q1, .ref q4, .ref q9, .ref q14, .ref q23, .ref q45, .ref q51, .ref q56, .ref q60, .null, .null, .null, .null, .null, .null, .long 0, .long 0]))] ++ (w62 ++ (w59 ++ (w55 ++ (w50 ++ (w44 ++ (w37 ++ (w28 ++ (w22 ++ (w3 ++ [])))))))))) ([(q63, .inr (1, [.null, .null, .int 0]))])
  have hP := zP_perm hpm hP
  have hD := zD_perm hpm hD
  clear hpm
  have hP : va_P (dC, dI) vwCl ([(q63, .inr (1, [.null, .null, .int 0]))] ++ ([(h0, .inr (11, [.ref q1, .ref q4, .ref q9, .ref q14, .ref q23, .ref q45, .ref q51, .ref q56, .ref q60, .null, .null, .null, .null, .null, .null, .long 0, .long 0]))] ++ (w62 ++ (w59 ++ (w55 ++ (w50 ++ (w44 ++ (w37 ++ (w28 ++ (w22 ++ (w3 ++ []))))))))))) H := hP
  have hD : va_D A ([(q63, .inr (1, [.null, .null, .int 0]))] ++ ([(h0, .inr (11, [.ref q1, .ref q4, .ref q9, .ref q14, .ref q23, .ref q45, .ref q51, .ref q56, .ref q60, .null, .null, .null, .null, .null, .null, .long 0, .long 0]))] ++ (w62 ++ (w59 ++ (w55 ++ (w50 ++ (w44 ++ (w37 ++ (w28 ++ (w22 ++ (w3 ++ []))))))))))) := hD
  refine lv_dup hx hb dX11_init_157 rfl ?_
  refine lv_sipush (v := (1024 : Int32)) hx hb dX11_init_158 (by decide) ?_
  have hP : va_P (dC, dI) vwCl ([(q63, .inr (1, [.null, .null, .int 0]))] ++ ([(h0, .inr (11, [.ref q1, .ref q4, .ref q9, .ref q14, .ref q23, .ref q45, .ref q51, .ref q56, .ref q60, .null, .null, .null, .null, .null, .null, .long 0, .long 0]))] ++ (w62 ++ (w59 ++ (w55 ++ (w50 ++ (w44 ++ (w37 ++ (w28 ++ (w22 ++ (w3 ++ []))))))))))) H := hP
  have hD : va_D A ([(q63, .inr (1, [.null, .null, .int 0]))] ++ ([(h0, .inr (11, [.ref q1, .ref q4, .ref q9, .ref q14, .ref q23, .ref q45, .ref q51, .ref q56, .ref q60, .null, .null, .null, .null, .null, .null, .long 0, .long 0]))] ++ (w62 ++ (w59 ++ (w55 ++ (w50 ++ (w44 ++ (w37 ++ (w28 ++ (w22 ++ (w3 ++ []))))))))))) := hD
  have hPc := zP_left hP
  have hDc := zD_left hD
  have hFc := zfree hD hS hA
  refine va_callv (va_runI (As := [.int (1024 : Int32)]) (rest := [.ref q63, .ref h0]) ⟨hx, hb, hml, hown, hts⟩ (c_X1_init_1024 l dC dI cI cJ cC q63 H.size) (cwI 1 hts (zG (u := []) (fun w h => absurd h List.not_mem_nil) mw_260) rfl rfl rfl (hts _ (List.mem_cons_of_mem _ mw_16)) (hts _ (List.mem_cons_of_mem _ mw_258)) (hts _ (List.mem_cons_of_mem _ mw_259)) rfl (by decide +kernel) ⟨Nat.le_of_ble_eq_true rfl, Nat.le_of_ble_eq_true rfl⟩) ⟨fun a U g mk q => by obtain ⟨q0, q1, qP, qK, qD⟩ := q; exact ⟨q0, q1, qP, va_K.moved (u := U) (U := U.calling g mk a) (Vm.Alike.refl U.vm) qK, qD⟩, fun U hU hW => ⟨rfl, by rw [hU], by rw [hU]; exact hPc, va_K.moved hW.alike hK, hDc.weaken (fun _ _ _ _ => trivial)⟩⟩ rfl rfl hl.1 rfl (lv_room (Nat.le_of_ble_eq_true rfl)) dX11_init_161 ⟨Nat.le_of_ble_eq_true rfl, Nat.le_of_ble_eq_true rfl⟩) hS (fun q _ h => hFc q h) hFc (fun u t H1 locs ht hvm hw hB hz1 hk1 hS => ?_)
  obtain ⟨q64, q65, hP1, hK1, hD1⟩ := hB
  rw [ht] at hP1
  obtain ⟨hP, hD⟩ := zjoin hP hD hk1 hFc hP1 hD1
  obtain ⟨w66, ew66⟩ : ∃ z : va_W, z = [(q63, .inr (1, [.ref q64, .ref q65, .int 0])), (q64, .inl (cJ, 1024, .inr (.inl (fun _ => 0)))), (q65, .inl (cI, 1024, .inl (fun _ => 0)))] := ⟨_, rfl⟩
  have hP : va_P (dC, dI) vwCl (w66 ++ ([(h0, .inr (11, [.ref q1, .ref q4, .ref q9, .ref q14, .ref q23, .ref q45, .ref q51, .ref q56, .ref q60, .null, .null, .null, .null, .null, .null, .long 0, .long 0]))] ++ (w62 ++ (w59 ++ (w55 ++ (w50 ++ (w44 ++ (w37 ++ (w28 ++ (w22 ++ (w3 ++ []))))))))))) H1 := by rw [ew66]; exact hP
  have hD : va_D A (w66 ++ ([(h0, .inr (11, [.ref q1, .ref q4, .ref q9, .ref q14, .ref q23, .ref q45, .ref q51, .ref q56, .ref q60, .null, .null, .null, .null, .null, .null, .long 0, .long 0]))] ++ (w62 ++ (w59 ++ (w55 ++ (w50 ++ (w44 ++ (w37 ++ (w28 ++ (w22 ++ (w3 ++ []))))))))))) := by rw [ew66]; exact hD
  generalize H1 = H at hP hS ⊢
  clear hP1 hD1 hK1 hPc hDc hFc hk1 hz1
  have hP : va_P (dC, dI) vwCl (w66 ++ ([(h0, .inr (11, [.ref q1, .ref q4, .ref q9, .ref q14, .ref q23, .ref q45, .ref q51, .ref q56, .ref q60, .null, .null, .null, .null, .null, .null, .long 0, .long 0]))] ++ (w62 ++ (w59 ++ (w55 ++ (w50 ++ (w44 ++ (w37 ++ (w28 ++ (w22 ++ (w3 ++ []))))))))))) H := hP
  have hD : va_D A (w66 ++ ([(h0, .inr (11, [.ref q1, .ref q4, .ref q9, .ref q14, .ref q23, .ref q45, .ref q51, .ref q56, .ref q60, .null, .null, .null, .null, .null, .null, .long 0, .long 0]))] ++ (w62 ++ (w59 ++ (w55 ++ (w50 ++ (w44 ++ (w37 ++ (w28 ++ (w22 ++ (w3 ++ []))))))))))) := hD
  have hpm := ((zal (w66) (List.Perm.refl _)).trans (zswp (w66) ([(h0, .inr (11, [.ref q1, .ref q4, .ref q9, .ref q14, .ref q23, .ref q45, .ref q51, .ref q56, .ref q60, .null, .null, .null, .null, .null, .null, .long 0, .long 0]))]) (w62 ++ (w59 ++ (w55 ++ (w50 ++ (w44 ++ (w37 ++ (w28 ++ (w22 ++ (w3 ++ [])))))))))))
  have hP := zP_perm hpm hP
  have hD := zD_perm hpm hD
  clear hpm
  have hP : va_P (dC, dI) vwCl ([(h0, .inr (11, [.ref q1, .ref q4, .ref q9, .ref q14, .ref q23, .ref q45, .ref q51, .ref q56, .ref q60, .null, .null, .null, .null, .null, .null, .long 0, .long 0]))] ++ (w66 ++ (w62 ++ (w59 ++ (w55 ++ (w50 ++ (w44 ++ (w37 ++ (w28 ++ (w22 ++ (w3 ++ []))))))))))) H := hP
  have hD : va_D A ([(h0, .inr (11, [.ref q1, .ref q4, .ref q9, .ref q14, .ref q23, .ref q45, .ref q51, .ref q56, .ref q60, .null, .null, .null, .null, .null, .null, .long 0, .long 0]))] ++ (w66 ++ (w62 ++ (w59 ++ (w55 ++ (w50 ++ (w44 ++ (w37 ++ (w28 ++ (w22 ++ (w3 ++ []))))))))))) := hD
  refine va_putF (D := (dC, dI)) (ci := 11) (v := .ref q63) (ty := .object "TieStreet$NetRow") (C := RX11) (T := TX11) (N := 17) hx hb hts (fun w h => List.mem_cons_of_mem _ (inX11 w h)) tyX11 tyX11_ok nmX11 hown hK hP hD hS 0 rfl rfl 9 (by decide) (hts _ (List.mem_cons_of_mem _ mw_298)) (fun _ h9 => h9) rfl hin2 rfl (by decide +kernel) rfl rfl (Nat.le_of_ble_eq_true rfl) dX11_init_164 (fun H locs hP hD hS => ?_)
  have hP : va_P (dC, dI) vwCl ([(h0, .inr (11, [.ref q1, .ref q4, .ref q9, .ref q14, .ref q23, .ref q45, .ref q51, .ref q56, .ref q60, .ref q63, .null, .null, .null, .null, .null, .long 0, .long 0]))] ++ (w66 ++ (w62 ++ (w59 ++ (w55 ++ (w50 ++ (w44 ++ (w37 ++ (w28 ++ (w22 ++ (w3 ++ []))))))))))) H := hP
  have hD : va_D A ([(h0, .inr (11, [.ref q1, .ref q4, .ref q9, .ref q14, .ref q23, .ref q45, .ref q51, .ref q56, .ref q60, .ref q63, .null, .null, .null, .null, .null, .long 0, .long 0]))] ++ (w66 ++ (w62 ++ (w59 ++ (w55 ++ (w50 ++ (w44 ++ (w37 ++ (w28 ++ (w22 ++ (w3 ++ []))))))))))) := hD
  refine lv_aload_n hx hb dX11_init_167 rfl (lv_at hl 0 rfl) ?_
  refine va_new (ci := 1) (fs := [.null, .null, .int 0]) (C := RX1) (T := TX1) (N := 3) hx hb hts (fun w h => List.mem_cons_of_mem _ (inX1 w h)) tyX1 tyX1_ok hown (hts _ (List.mem_cons_of_mem _ mw_256)) (hts _ (List.mem_cons_of_mem _ mw_257)) (hts _ (List.mem_cons_of_mem _ mw_16)) hK hP hD hS hA rfl (fun j hj => by rcases (show j = 0 ∨ j = 1 ∨ j = 2 by omega) with rfl | rfl | rfl <;> rfl) (Nat.le_of_ble_eq_true rfl) (Nat.le_of_ble_eq_true rfl) dX11_init_168 (fun q67 H hP hD hS => ?_)
  have hpm := zrot ([(h0, .inr (11, [.ref q1, .ref q4, .ref q9, .ref q14, .ref q23, .ref q45, .ref q51, .ref q56, .ref q60, .ref q63, .null, .null, .null, .null, .null, .long 0, .long 0]))] ++ (w66 ++ (w62 ++ (w59 ++ (w55 ++ (w50 ++ (w44 ++ (w37 ++ (w28 ++ (w22 ++ (w3 ++ []))))))))))) ([(q67, .inr (1, [.null, .null, .int 0]))])
  have hP := zP_perm hpm hP
  have hD := zD_perm hpm hD
  clear hpm
  have hP : va_P (dC, dI) vwCl ([(q67, .inr (1, [.null, .null, .int 0]))] ++ ([(h0, .inr (11, [.ref q1, .ref q4, .ref q9, .ref q14, .ref q23, .ref q45, .ref q51, .ref q56, .ref q60, .ref q63, .null, .null, .null, .null, .null, .long 0, .long 0]))] ++ (w66 ++ (w62 ++ (w59 ++ (w55 ++ (w50 ++ (w44 ++ (w37 ++ (w28 ++ (w22 ++ (w3 ++ [])))))))))))) H := hP
  have hD : va_D A ([(q67, .inr (1, [.null, .null, .int 0]))] ++ ([(h0, .inr (11, [.ref q1, .ref q4, .ref q9, .ref q14, .ref q23, .ref q45, .ref q51, .ref q56, .ref q60, .ref q63, .null, .null, .null, .null, .null, .long 0, .long 0]))] ++ (w66 ++ (w62 ++ (w59 ++ (w55 ++ (w50 ++ (w44 ++ (w37 ++ (w28 ++ (w22 ++ (w3 ++ [])))))))))))) := hD
  refine lv_dup hx hb dX11_init_171 rfl ?_
  refine lv_bipush (v := (120 : Int32)) hx hb dX11_init_172 (by decide) ?_
  have hP : va_P (dC, dI) vwCl ([(q67, .inr (1, [.null, .null, .int 0]))] ++ ([(h0, .inr (11, [.ref q1, .ref q4, .ref q9, .ref q14, .ref q23, .ref q45, .ref q51, .ref q56, .ref q60, .ref q63, .null, .null, .null, .null, .null, .long 0, .long 0]))] ++ (w66 ++ (w62 ++ (w59 ++ (w55 ++ (w50 ++ (w44 ++ (w37 ++ (w28 ++ (w22 ++ (w3 ++ [])))))))))))) H := hP
  have hD : va_D A ([(q67, .inr (1, [.null, .null, .int 0]))] ++ ([(h0, .inr (11, [.ref q1, .ref q4, .ref q9, .ref q14, .ref q23, .ref q45, .ref q51, .ref q56, .ref q60, .ref q63, .null, .null, .null, .null, .null, .long 0, .long 0]))] ++ (w66 ++ (w62 ++ (w59 ++ (w55 ++ (w50 ++ (w44 ++ (w37 ++ (w28 ++ (w22 ++ (w3 ++ [])))))))))))) := hD
  have hPc := zP_left hP
  have hDc := zD_left hD
  have hFc := zfree hD hS hA
  refine va_callv (va_runI (As := [.int (120 : Int32)]) (rest := [.ref q67, .ref h0]) ⟨hx, hb, hml, hown, hts⟩ (c_X1_init_120 l dC dI cI cJ cC q67 H.size) (cwI 1 hts (zG (u := []) (fun w h => absurd h List.not_mem_nil) mw_260) rfl rfl rfl (hts _ (List.mem_cons_of_mem _ mw_16)) (hts _ (List.mem_cons_of_mem _ mw_258)) (hts _ (List.mem_cons_of_mem _ mw_259)) rfl (by decide +kernel) ⟨Nat.le_of_ble_eq_true rfl, Nat.le_of_ble_eq_true rfl⟩) ⟨fun a U g mk q => by obtain ⟨q0, q1, qP, qK, qD⟩ := q; exact ⟨q0, q1, qP, va_K.moved (u := U) (U := U.calling g mk a) (Vm.Alike.refl U.vm) qK, qD⟩, fun U hU hW => ⟨rfl, by rw [hU], by rw [hU]; exact hPc, va_K.moved hW.alike hK, hDc.weaken (fun _ _ _ _ => trivial)⟩⟩ rfl rfl hl.1 rfl (lv_room (Nat.le_of_ble_eq_true rfl)) dX11_init_174 ⟨Nat.le_of_ble_eq_true rfl, Nat.le_of_ble_eq_true rfl⟩) hS (fun q _ h => hFc q h) hFc (fun u t H1 locs ht hvm hw hB hz1 hk1 hS => ?_)
  obtain ⟨q68, q69, hP1, hK1, hD1⟩ := hB
  rw [ht] at hP1
  obtain ⟨hP, hD⟩ := zjoin hP hD hk1 hFc hP1 hD1
  obtain ⟨w70, ew70⟩ : ∃ z : va_W, z = [(q67, .inr (1, [.ref q68, .ref q69, .int 0])), (q68, .inl (cJ, 120, .inr (.inl (fun _ => 0)))), (q69, .inl (cI, 120, .inl (fun _ => 0)))] := ⟨_, rfl⟩
  have hP : va_P (dC, dI) vwCl (w70 ++ ([(h0, .inr (11, [.ref q1, .ref q4, .ref q9, .ref q14, .ref q23, .ref q45, .ref q51, .ref q56, .ref q60, .ref q63, .null, .null, .null, .null, .null, .long 0, .long 0]))] ++ (w66 ++ (w62 ++ (w59 ++ (w55 ++ (w50 ++ (w44 ++ (w37 ++ (w28 ++ (w22 ++ (w3 ++ [])))))))))))) H1 := by rw [ew70]; exact hP
  have hD : va_D A (w70 ++ ([(h0, .inr (11, [.ref q1, .ref q4, .ref q9, .ref q14, .ref q23, .ref q45, .ref q51, .ref q56, .ref q60, .ref q63, .null, .null, .null, .null, .null, .long 0, .long 0]))] ++ (w66 ++ (w62 ++ (w59 ++ (w55 ++ (w50 ++ (w44 ++ (w37 ++ (w28 ++ (w22 ++ (w3 ++ [])))))))))))) := by rw [ew70]; exact hD
  generalize H1 = H at hP hS ⊢
  clear hP1 hD1 hK1 hPc hDc hFc hk1 hz1
  have hP : va_P (dC, dI) vwCl (w70 ++ ([(h0, .inr (11, [.ref q1, .ref q4, .ref q9, .ref q14, .ref q23, .ref q45, .ref q51, .ref q56, .ref q60, .ref q63, .null, .null, .null, .null, .null, .long 0, .long 0]))] ++ (w66 ++ (w62 ++ (w59 ++ (w55 ++ (w50 ++ (w44 ++ (w37 ++ (w28 ++ (w22 ++ (w3 ++ [])))))))))))) H := hP
  have hD : va_D A (w70 ++ ([(h0, .inr (11, [.ref q1, .ref q4, .ref q9, .ref q14, .ref q23, .ref q45, .ref q51, .ref q56, .ref q60, .ref q63, .null, .null, .null, .null, .null, .long 0, .long 0]))] ++ (w66 ++ (w62 ++ (w59 ++ (w55 ++ (w50 ++ (w44 ++ (w37 ++ (w28 ++ (w22 ++ (w3 ++ [])))))))))))) := hD
  have hpm := ((zal (w70) (List.Perm.refl _)).trans (zswp (w70) ([(h0, .inr (11, [.ref q1, .ref q4, .ref q9, .ref q14, .ref q23, .ref q45, .ref q51, .ref q56, .ref q60, .ref q63, .null, .null, .null, .null, .null, .long 0, .long 0]))]) (w66 ++ (w62 ++ (w59 ++ (w55 ++ (w50 ++ (w44 ++ (w37 ++ (w28 ++ (w22 ++ (w3 ++ []))))))))))))
  have hP := zP_perm hpm hP
  have hD := zD_perm hpm hD
  clear hpm
  have hP : va_P (dC, dI) vwCl ([(h0, .inr (11, [.ref q1, .ref q4, .ref q9, .ref q14, .ref q23, .ref q45, .ref q51, .ref q56, .ref q60, .ref q63, .null, .null, .null, .null, .null, .long 0, .long 0]))] ++ (w70 ++ (w66 ++ (w62 ++ (w59 ++ (w55 ++ (w50 ++ (w44 ++ (w37 ++ (w28 ++ (w22 ++ (w3 ++ [])))))))))))) H := hP
  have hD : va_D A ([(h0, .inr (11, [.ref q1, .ref q4, .ref q9, .ref q14, .ref q23, .ref q45, .ref q51, .ref q56, .ref q60, .ref q63, .null, .null, .null, .null, .null, .long 0, .long 0]))] ++ (w70 ++ (w66 ++ (w62 ++ (w59 ++ (w55 ++ (w50 ++ (w44 ++ (w37 ++ (w28 ++ (w22 ++ (w3 ++ [])))))))))))) := hD
  refine va_putF (D := (dC, dI)) (ci := 11) (v := .ref q67) (ty := .object "TieStreet$NetRow") (C := RX11) (T := TX11) (N := 17) hx hb hts (fun w h => List.mem_cons_of_mem _ (inX11 w h)) tyX11 tyX11_ok nmX11 hown hK hP hD hS 0 rfl rfl 10 (by decide) (hts _ (List.mem_cons_of_mem _ mw_299)) (fun _ h9 => h9) rfl hin2 rfl (by decide +kernel) rfl rfl (Nat.le_of_ble_eq_true rfl) dX11_init_177 (fun H locs hP hD hS => ?_)
  have hP : va_P (dC, dI) vwCl ([(h0, .inr (11, [.ref q1, .ref q4, .ref q9, .ref q14, .ref q23, .ref q45, .ref q51, .ref q56, .ref q60, .ref q63, .ref q67, .null, .null, .null, .null, .long 0, .long 0]))] ++ (w70 ++ (w66 ++ (w62 ++ (w59 ++ (w55 ++ (w50 ++ (w44 ++ (w37 ++ (w28 ++ (w22 ++ (w3 ++ [])))))))))))) H := hP
  have hD : va_D A ([(h0, .inr (11, [.ref q1, .ref q4, .ref q9, .ref q14, .ref q23, .ref q45, .ref q51, .ref q56, .ref q60, .ref q63, .ref q67, .null, .null, .null, .null, .long 0, .long 0]))] ++ (w70 ++ (w66 ++ (w62 ++ (w59 ++ (w55 ++ (w50 ++ (w44 ++ (w37 ++ (w28 ++ (w22 ++ (w3 ++ [])))))))))))) := hD
  refine lv_aload_n hx hb dX11_init_180 rfl (lv_at hl 0 rfl) ?_
  refine lv_sipush (v := (1024 : Int32)) hx hb dX11_init_181 (by decide) ?_
  refine znew_i (N' := 1024) hx hb (hts _ (List.mem_cons_of_mem _ mw_38)) hK 0 rfl hP hD hS hA (by decide) (by decide) (by decide) (Nat.le_of_ble_eq_true rfl) (Nat.le_of_ble_eq_true rfl) dX11_init_184 (fun q71 H hP hD hS => ?_)
  have hpm := zrot ([(h0, .inr (11, [.ref q1, .ref q4, .ref q9, .ref q14, .ref q23, .ref q45, .ref q51, .ref q56, .ref q60, .ref q63, .ref q67, .null, .null, .null, .null, .long 0, .long 0]))] ++ (w70 ++ (w66 ++ (w62 ++ (w59 ++ (w55 ++ (w50 ++ (w44 ++ (w37 ++ (w28 ++ (w22 ++ (w3 ++ [])))))))))))) ([(q71, .inl (cI, 1024, .inl (fun _ => 0)))])
  have hP := zP_perm hpm hP
  have hD := zD_perm hpm hD
  clear hpm
  have hP : va_P (dC, dI) vwCl ([(q71, .inl (cI, 1024, .inl (fun _ => 0)))] ++ ([(h0, .inr (11, [.ref q1, .ref q4, .ref q9, .ref q14, .ref q23, .ref q45, .ref q51, .ref q56, .ref q60, .ref q63, .ref q67, .null, .null, .null, .null, .long 0, .long 0]))] ++ (w70 ++ (w66 ++ (w62 ++ (w59 ++ (w55 ++ (w50 ++ (w44 ++ (w37 ++ (w28 ++ (w22 ++ (w3 ++ []))))))))))))) H := hP
  have hD : va_D A ([(q71, .inl (cI, 1024, .inl (fun _ => 0)))] ++ ([(h0, .inr (11, [.ref q1, .ref q4, .ref q9, .ref q14, .ref q23, .ref q45, .ref q51, .ref q56, .ref q60, .ref q63, .ref q67, .null, .null, .null, .null, .long 0, .long 0]))] ++ (w70 ++ (w66 ++ (w62 ++ (w59 ++ (w55 ++ (w50 ++ (w44 ++ (w37 ++ (w28 ++ (w22 ++ (w3 ++ []))))))))))))) := hD
  have hpm := ((zal ([(q71, .inl (cI, 1024, .inl (fun _ => 0)))]) (List.Perm.refl _)).trans (zswp ([(q71, .inl (cI, 1024, .inl (fun _ => 0)))]) ([(h0, .inr (11, [.ref q1, .ref q4, .ref q9, .ref q14, .ref q23, .ref q45, .ref q51, .ref q56, .ref q60, .ref q63, .ref q67, .null, .null, .null, .null, .long 0, .long 0]))]) (w70 ++ (w66 ++ (w62 ++ (w59 ++ (w55 ++ (w50 ++ (w44 ++ (w37 ++ (w28 ++ (w22 ++ (w3 ++ [])))))))))))))
  have hP := zP_perm hpm hP
  have hD := zD_perm hpm hD
  clear hpm
  have hP : va_P (dC, dI) vwCl ([(h0, .inr (11, [.ref q1, .ref q4, .ref q9, .ref q14, .ref q23, .ref q45, .ref q51, .ref q56, .ref q60, .ref q63, .ref q67, .null, .null, .null, .null, .long 0, .long 0]))] ++ ([(q71, .inl (cI, 1024, .inl (fun _ => 0)))] ++ (w70 ++ (w66 ++ (w62 ++ (w59 ++ (w55 ++ (w50 ++ (w44 ++ (w37 ++ (w28 ++ (w22 ++ (w3 ++ []))))))))))))) H := hP
  have hD : va_D A ([(h0, .inr (11, [.ref q1, .ref q4, .ref q9, .ref q14, .ref q23, .ref q45, .ref q51, .ref q56, .ref q60, .ref q63, .ref q67, .null, .null, .null, .null, .long 0, .long 0]))] ++ ([(q71, .inl (cI, 1024, .inl (fun _ => 0)))] ++ (w70 ++ (w66 ++ (w62 ++ (w59 ++ (w55 ++ (w50 ++ (w44 ++ (w37 ++ (w28 ++ (w22 ++ (w3 ++ []))))))))))))) := hD
  refine va_putF (D := (dC, dI)) (ci := 11) (v := .ref q71) (ty := .array .int) (C := RX11) (T := TX11) (N := 17) hx hb hts (fun w h => List.mem_cons_of_mem _ (inX11 w h)) tyX11 tyX11_ok nmX11 hown hK hP hD hS 0 rfl rfl 11 (by decide) (hts _ (List.mem_cons_of_mem _ mw_300)) (fun _ h9 => h9) rfl hin2 rfl (by decide +kernel) rfl rfl (Nat.le_of_ble_eq_true rfl) dX11_init_186 (fun H locs hP hD hS => ?_)
  have hP : va_P (dC, dI) vwCl ([(h0, .inr (11, [.ref q1, .ref q4, .ref q9, .ref q14, .ref q23, .ref q45, .ref q51, .ref q56, .ref q60, .ref q63, .ref q67, .ref q71, .null, .null, .null, .long 0, .long 0]))] ++ ([(q71, .inl (cI, 1024, .inl (fun _ => 0)))] ++ (w70 ++ (w66 ++ (w62 ++ (w59 ++ (w55 ++ (w50 ++ (w44 ++ (w37 ++ (w28 ++ (w22 ++ (w3 ++ []))))))))))))) H := hP
  have hD : va_D A ([(h0, .inr (11, [.ref q1, .ref q4, .ref q9, .ref q14, .ref q23, .ref q45, .ref q51, .ref q56, .ref q60, .ref q63, .ref q67, .ref q71, .null, .null, .null, .long 0, .long 0]))] ++ ([(q71, .inl (cI, 1024, .inl (fun _ => 0)))] ++ (w70 ++ (w66 ++ (w62 ++ (w59 ++ (w55 ++ (w50 ++ (w44 ++ (w37 ++ (w28 ++ (w22 ++ (w3 ++ []))))))))))))) := hD
  refine lv_aload_n hx hb dX11_init_189 rfl (lv_at hl 0 rfl) ?_
  refine lv_bipush (v := (10 : Int32)) hx hb dX11_init_190 (by decide) ?_
  refine znew_i (N' := 10) hx hb (hts _ (List.mem_cons_of_mem _ mw_38)) hK 0 rfl hP hD hS hA (by decide) (by decide) (by decide) (Nat.le_of_ble_eq_true rfl) (Nat.le_of_ble_eq_true rfl) dX11_init_192 (fun q72 H hP hD hS => ?_)
  have hpm := zrot ([(h0, .inr (11, [.ref q1, .ref q4, .ref q9, .ref q14, .ref q23, .ref q45, .ref q51, .ref q56, .ref q60, .ref q63, .ref q67, .ref q71, .null, .null, .null, .long 0, .long 0]))] ++ ([(q71, .inl (cI, 1024, .inl (fun _ => 0)))] ++ (w70 ++ (w66 ++ (w62 ++ (w59 ++ (w55 ++ (w50 ++ (w44 ++ (w37 ++ (w28 ++ (w22 ++ (w3 ++ []))))))))))))) ([(q72, .inl (cI, 10, .inl (fun _ => 0)))])
  have hP := zP_perm hpm hP
  have hD := zD_perm hpm hD
  clear hpm
  have hP : va_P (dC, dI) vwCl ([(q72, .inl (cI, 10, .inl (fun _ => 0)))] ++ ([(h0, .inr (11, [.ref q1, .ref q4, .ref q9, .ref q14, .ref q23, .ref q45, .ref q51, .ref q56, .ref q60, .ref q63, .ref q67, .ref q71, .null, .null, .null, .long 0, .long 0]))] ++ ([(q71, .inl (cI, 1024, .inl (fun _ => 0)))] ++ (w70 ++ (w66 ++ (w62 ++ (w59 ++ (w55 ++ (w50 ++ (w44 ++ (w37 ++ (w28 ++ (w22 ++ (w3 ++ [])))))))))))))) H := hP
  have hD : va_D A ([(q72, .inl (cI, 10, .inl (fun _ => 0)))] ++ ([(h0, .inr (11, [.ref q1, .ref q4, .ref q9, .ref q14, .ref q23, .ref q45, .ref q51, .ref q56, .ref q60, .ref q63, .ref q67, .ref q71, .null, .null, .null, .long 0, .long 0]))] ++ ([(q71, .inl (cI, 1024, .inl (fun _ => 0)))] ++ (w70 ++ (w66 ++ (w62 ++ (w59 ++ (w55 ++ (w50 ++ (w44 ++ (w37 ++ (w28 ++ (w22 ++ (w3 ++ [])))))))))))))) := hD
  have hpm := ((zal ([(q72, .inl (cI, 10, .inl (fun _ => 0)))]) (List.Perm.refl _)).trans (zswp ([(q72, .inl (cI, 10, .inl (fun _ => 0)))]) ([(h0, .inr (11, [.ref q1, .ref q4, .ref q9, .ref q14, .ref q23, .ref q45, .ref q51, .ref q56, .ref q60, .ref q63, .ref q67, .ref q71, .null, .null, .null, .long 0, .long 0]))]) ([(q71, .inl (cI, 1024, .inl (fun _ => 0)))] ++ (w70 ++ (w66 ++ (w62 ++ (w59 ++ (w55 ++ (w50 ++ (w44 ++ (w37 ++ (w28 ++ (w22 ++ (w3 ++ []))))))))))))))
  have hP := zP_perm hpm hP
  have hD := zD_perm hpm hD
  clear hpm
  have hP : va_P (dC, dI) vwCl ([(h0, .inr (11, [.ref q1, .ref q4, .ref q9, .ref q14, .ref q23, .ref q45, .ref q51, .ref q56, .ref q60, .ref q63, .ref q67, .ref q71, .null, .null, .null, .long 0, .long 0]))] ++ ([(q72, .inl (cI, 10, .inl (fun _ => 0)))] ++ ([(q71, .inl (cI, 1024, .inl (fun _ => 0)))] ++ (w70 ++ (w66 ++ (w62 ++ (w59 ++ (w55 ++ (w50 ++ (w44 ++ (w37 ++ (w28 ++ (w22 ++ (w3 ++ [])))))))))))))) H := hP
  have hD : va_D A ([(h0, .inr (11, [.ref q1, .ref q4, .ref q9, .ref q14, .ref q23, .ref q45, .ref q51, .ref q56, .ref q60, .ref q63, .ref q67, .ref q71, .null, .null, .null, .long 0, .long 0]))] ++ ([(q72, .inl (cI, 10, .inl (fun _ => 0)))] ++ ([(q71, .inl (cI, 1024, .inl (fun _ => 0)))] ++ (w70 ++ (w66 ++ (w62 ++ (w59 ++ (w55 ++ (w50 ++ (w44 ++ (w37 ++ (w28 ++ (w22 ++ (w3 ++ [])))))))))))))) := hD
  refine va_putF (D := (dC, dI)) (ci := 11) (v := .ref q72) (ty := .array .int) (C := RX11) (T := TX11) (N := 17) hx hb hts (fun w h => List.mem_cons_of_mem _ (inX11 w h)) tyX11 tyX11_ok nmX11 hown hK hP hD hS 0 rfl rfl 12 (by decide) (hts _ (List.mem_cons_of_mem _ mw_301)) (fun _ h9 => h9) rfl hin2 rfl (by decide +kernel) rfl rfl (Nat.le_of_ble_eq_true rfl) dX11_init_194 (fun H locs hP hD hS => ?_)
  have hP : va_P (dC, dI) vwCl ([(h0, .inr (11, [.ref q1, .ref q4, .ref q9, .ref q14, .ref q23, .ref q45, .ref q51, .ref q56, .ref q60, .ref q63, .ref q67, .ref q71, .ref q72, .null, .null, .long 0, .long 0]))] ++ ([(q72, .inl (cI, 10, .inl (fun _ => 0)))] ++ ([(q71, .inl (cI, 1024, .inl (fun _ => 0)))] ++ (w70 ++ (w66 ++ (w62 ++ (w59 ++ (w55 ++ (w50 ++ (w44 ++ (w37 ++ (w28 ++ (w22 ++ (w3 ++ [])))))))))))))) H := hP
  have hD : va_D A ([(h0, .inr (11, [.ref q1, .ref q4, .ref q9, .ref q14, .ref q23, .ref q45, .ref q51, .ref q56, .ref q60, .ref q63, .ref q67, .ref q71, .ref q72, .null, .null, .long 0, .long 0]))] ++ ([(q72, .inl (cI, 10, .inl (fun _ => 0)))] ++ ([(q71, .inl (cI, 1024, .inl (fun _ => 0)))] ++ (w70 ++ (w66 ++ (w62 ++ (w59 ++ (w55 ++ (w50 ++ (w44 ++ (w37 ++ (w28 ++ (w22 ++ (w3 ++ [])))))))))))))) := hD
  refine lv_aload_n hx hb dX11_init_197 rfl (lv_at hl 0 rfl) ?_
  refine lv_iconst (v := (3 : Int32)) hx hb dX11_init_198 (by decide) ?_
  refine znew_l (N' := 3) hx hb (hts _ (List.mem_cons_of_mem _ mw_57)) hK 1 rfl hP hD hS hA (by decide) (by decide) (by decide) (Nat.le_of_ble_eq_true rfl) (Nat.le_of_ble_eq_true rfl) dX11_init_199 (fun q73 H hP hD hS => ?_)
  have hpm := zrot ([(h0, .inr (11, [.ref q1, .ref q4, .ref q9, .ref q14, .ref q23, .ref q45, .ref q51, .ref q56, .ref q60, .ref q63, .ref q67, .ref q71, .ref q72, .null, .null, .long 0, .long 0]))] ++ ([(q72, .inl (cI, 10, .inl (fun _ => 0)))] ++ ([(q71, .inl (cI, 1024, .inl (fun _ => 0)))] ++ (w70 ++ (w66 ++ (w62 ++ (w59 ++ (w55 ++ (w50 ++ (w44 ++ (w37 ++ (w28 ++ (w22 ++ (w3 ++ [])))))))))))))) ([(q73, .inl (cJ, 3, .inr (.inl (fun _ => 0))))])
  have hP := zP_perm hpm hP
  have hD := zD_perm hpm hD
  clear hpm
  have hP : va_P (dC, dI) vwCl ([(q73, .inl (cJ, 3, .inr (.inl (fun _ => 0))))] ++ ([(h0, .inr (11, [.ref q1, .ref q4, .ref q9, .ref q14, .ref q23, .ref q45, .ref q51, .ref q56, .ref q60, .ref q63, .ref q67, .ref q71, .ref q72, .null, .null, .long 0, .long 0]))] ++ ([(q72, .inl (cI, 10, .inl (fun _ => 0)))] ++ ([(q71, .inl (cI, 1024, .inl (fun _ => 0)))] ++ (w70 ++ (w66 ++ (w62 ++ (w59 ++ (w55 ++ (w50 ++ (w44 ++ (w37 ++ (w28 ++ (w22 ++ (w3 ++ []))))))))))))))) H := hP
  have hD : va_D A ([(q73, .inl (cJ, 3, .inr (.inl (fun _ => 0))))] ++ ([(h0, .inr (11, [.ref q1, .ref q4, .ref q9, .ref q14, .ref q23, .ref q45, .ref q51, .ref q56, .ref q60, .ref q63, .ref q67, .ref q71, .ref q72, .null, .null, .long 0, .long 0]))] ++ ([(q72, .inl (cI, 10, .inl (fun _ => 0)))] ++ ([(q71, .inl (cI, 1024, .inl (fun _ => 0)))] ++ (w70 ++ (w66 ++ (w62 ++ (w59 ++ (w55 ++ (w50 ++ (w44 ++ (w37 ++ (w28 ++ (w22 ++ (w3 ++ []))))))))))))))) := hD
  have hpm := ((zal ([(q73, .inl (cJ, 3, .inr (.inl (fun _ => 0))))]) (List.Perm.refl _)).trans (zswp ([(q73, .inl (cJ, 3, .inr (.inl (fun _ => 0))))]) ([(h0, .inr (11, [.ref q1, .ref q4, .ref q9, .ref q14, .ref q23, .ref q45, .ref q51, .ref q56, .ref q60, .ref q63, .ref q67, .ref q71, .ref q72, .null, .null, .long 0, .long 0]))]) ([(q72, .inl (cI, 10, .inl (fun _ => 0)))] ++ ([(q71, .inl (cI, 1024, .inl (fun _ => 0)))] ++ (w70 ++ (w66 ++ (w62 ++ (w59 ++ (w55 ++ (w50 ++ (w44 ++ (w37 ++ (w28 ++ (w22 ++ (w3 ++ [])))))))))))))))
  have hP := zP_perm hpm hP
  have hD := zD_perm hpm hD
  clear hpm
  have hP : va_P (dC, dI) vwCl ([(h0, .inr (11, [.ref q1, .ref q4, .ref q9, .ref q14, .ref q23, .ref q45, .ref q51, .ref q56, .ref q60, .ref q63, .ref q67, .ref q71, .ref q72, .null, .null, .long 0, .long 0]))] ++ ([(q73, .inl (cJ, 3, .inr (.inl (fun _ => 0))))] ++ ([(q72, .inl (cI, 10, .inl (fun _ => 0)))] ++ ([(q71, .inl (cI, 1024, .inl (fun _ => 0)))] ++ (w70 ++ (w66 ++ (w62 ++ (w59 ++ (w55 ++ (w50 ++ (w44 ++ (w37 ++ (w28 ++ (w22 ++ (w3 ++ []))))))))))))))) H := hP
  have hD : va_D A ([(h0, .inr (11, [.ref q1, .ref q4, .ref q9, .ref q14, .ref q23, .ref q45, .ref q51, .ref q56, .ref q60, .ref q63, .ref q67, .ref q71, .ref q72, .null, .null, .long 0, .long 0]))] ++ ([(q73, .inl (cJ, 3, .inr (.inl (fun _ => 0))))] ++ ([(q72, .inl (cI, 10, .inl (fun _ => 0)))] ++ ([(q71, .inl (cI, 1024, .inl (fun _ => 0)))] ++ (w70 ++ (w66 ++ (w62 ++ (w59 ++ (w55 ++ (w50 ++ (w44 ++ (w37 ++ (w28 ++ (w22 ++ (w3 ++ []))))))))))))))) := hD
  refine va_putF (D := (dC, dI)) (ci := 11) (v := .ref q73) (ty := .array .long) (C := RX11) (T := TX11) (N := 17) hx hb hts (fun w h => List.mem_cons_of_mem _ (inX11 w h)) tyX11 tyX11_ok nmX11 hown hK hP hD hS 0 rfl rfl 13 (by decide) (hts _ (List.mem_cons_of_mem _ mw_302)) (fun _ h9 => h9) rfl hin2 rfl (by decide +kernel) rfl rfl (Nat.le_of_ble_eq_true rfl) dX11_init_201 (fun H locs hP hD hS => ?_)
  have hP : va_P (dC, dI) vwCl ([(h0, .inr (11, [.ref q1, .ref q4, .ref q9, .ref q14, .ref q23, .ref q45, .ref q51, .ref q56, .ref q60, .ref q63, .ref q67, .ref q71, .ref q72, .ref q73, .null, .long 0, .long 0]))] ++ ([(q73, .inl (cJ, 3, .inr (.inl (fun _ => 0))))] ++ ([(q72, .inl (cI, 10, .inl (fun _ => 0)))] ++ ([(q71, .inl (cI, 1024, .inl (fun _ => 0)))] ++ (w70 ++ (w66 ++ (w62 ++ (w59 ++ (w55 ++ (w50 ++ (w44 ++ (w37 ++ (w28 ++ (w22 ++ (w3 ++ []))))))))))))))) H := hP
  have hD : va_D A ([(h0, .inr (11, [.ref q1, .ref q4, .ref q9, .ref q14, .ref q23, .ref q45, .ref q51, .ref q56, .ref q60, .ref q63, .ref q67, .ref q71, .ref q72, .ref q73, .null, .long 0, .long 0]))] ++ ([(q73, .inl (cJ, 3, .inr (.inl (fun _ => 0))))] ++ ([(q72, .inl (cI, 10, .inl (fun _ => 0)))] ++ ([(q71, .inl (cI, 1024, .inl (fun _ => 0)))] ++ (w70 ++ (w66 ++ (w62 ++ (w59 ++ (w55 ++ (w50 ++ (w44 ++ (w37 ++ (w28 ++ (w22 ++ (w3 ++ []))))))))))))))) := hD
  refine lv_aload_n hx hb dX11_init_204 rfl (lv_at hl 0 rfl) ?_
  refine lv_iconst (v := (2 : Int32)) hx hb dX11_init_205 (by decide) ?_
  refine znew_l (N' := 2) hx hb (hts _ (List.mem_cons_of_mem _ mw_57)) hK 1 rfl hP hD hS hA (by decide) (by decide) (by decide) (Nat.le_of_ble_eq_true rfl) (Nat.le_of_ble_eq_true rfl) dX11_init_206 (fun q74 H hP hD hS => ?_)
  have hpm := zrot ([(h0, .inr (11, [.ref q1, .ref q4, .ref q9, .ref q14, .ref q23, .ref q45, .ref q51, .ref q56, .ref q60, .ref q63, .ref q67, .ref q71, .ref q72, .ref q73, .null, .long 0, .long 0]))] ++ ([(q73, .inl (cJ, 3, .inr (.inl (fun _ => 0))))] ++ ([(q72, .inl (cI, 10, .inl (fun _ => 0)))] ++ ([(q71, .inl (cI, 1024, .inl (fun _ => 0)))] ++ (w70 ++ (w66 ++ (w62 ++ (w59 ++ (w55 ++ (w50 ++ (w44 ++ (w37 ++ (w28 ++ (w22 ++ (w3 ++ []))))))))))))))) ([(q74, .inl (cJ, 2, .inr (.inl (fun _ => 0))))])
  have hP := zP_perm hpm hP
  have hD := zD_perm hpm hD
  clear hpm
  have hP : va_P (dC, dI) vwCl ([(q74, .inl (cJ, 2, .inr (.inl (fun _ => 0))))] ++ ([(h0, .inr (11, [.ref q1, .ref q4, .ref q9, .ref q14, .ref q23, .ref q45, .ref q51, .ref q56, .ref q60, .ref q63, .ref q67, .ref q71, .ref q72, .ref q73, .null, .long 0, .long 0]))] ++ ([(q73, .inl (cJ, 3, .inr (.inl (fun _ => 0))))] ++ ([(q72, .inl (cI, 10, .inl (fun _ => 0)))] ++ ([(q71, .inl (cI, 1024, .inl (fun _ => 0)))] ++ (w70 ++ (w66 ++ (w62 ++ (w59 ++ (w55 ++ (w50 ++ (w44 ++ (w37 ++ (w28 ++ (w22 ++ (w3 ++ [])))))))))))))))) H := hP
  have hD : va_D A ([(q74, .inl (cJ, 2, .inr (.inl (fun _ => 0))))] ++ ([(h0, .inr (11, [.ref q1, .ref q4, .ref q9, .ref q14, .ref q23, .ref q45, .ref q51, .ref q56, .ref q60, .ref q63, .ref q67, .ref q71, .ref q72, .ref q73, .null, .long 0, .long 0]))] ++ ([(q73, .inl (cJ, 3, .inr (.inl (fun _ => 0))))] ++ ([(q72, .inl (cI, 10, .inl (fun _ => 0)))] ++ ([(q71, .inl (cI, 1024, .inl (fun _ => 0)))] ++ (w70 ++ (w66 ++ (w62 ++ (w59 ++ (w55 ++ (w50 ++ (w44 ++ (w37 ++ (w28 ++ (w22 ++ (w3 ++ [])))))))))))))))) := hD
  have hpm := ((zal ([(q74, .inl (cJ, 2, .inr (.inl (fun _ => 0))))]) (List.Perm.refl _)).trans (zswp ([(q74, .inl (cJ, 2, .inr (.inl (fun _ => 0))))]) ([(h0, .inr (11, [.ref q1, .ref q4, .ref q9, .ref q14, .ref q23, .ref q45, .ref q51, .ref q56, .ref q60, .ref q63, .ref q67, .ref q71, .ref q72, .ref q73, .null, .long 0, .long 0]))]) ([(q73, .inl (cJ, 3, .inr (.inl (fun _ => 0))))] ++ ([(q72, .inl (cI, 10, .inl (fun _ => 0)))] ++ ([(q71, .inl (cI, 1024, .inl (fun _ => 0)))] ++ (w70 ++ (w66 ++ (w62 ++ (w59 ++ (w55 ++ (w50 ++ (w44 ++ (w37 ++ (w28 ++ (w22 ++ (w3 ++ []))))))))))))))))
  have hP := zP_perm hpm hP
  have hD := zD_perm hpm hD
  clear hpm
  have hP : va_P (dC, dI) vwCl ([(h0, .inr (11, [.ref q1, .ref q4, .ref q9, .ref q14, .ref q23, .ref q45, .ref q51, .ref q56, .ref q60, .ref q63, .ref q67, .ref q71, .ref q72, .ref q73, .null, .long 0, .long 0]))] ++ ([(q74, .inl (cJ, 2, .inr (.inl (fun _ => 0))))] ++ ([(q73, .inl (cJ, 3, .inr (.inl (fun _ => 0))))] ++ ([(q72, .inl (cI, 10, .inl (fun _ => 0)))] ++ ([(q71, .inl (cI, 1024, .inl (fun _ => 0)))] ++ (w70 ++ (w66 ++ (w62 ++ (w59 ++ (w55 ++ (w50 ++ (w44 ++ (w37 ++ (w28 ++ (w22 ++ (w3 ++ [])))))))))))))))) H := hP
  have hD : va_D A ([(h0, .inr (11, [.ref q1, .ref q4, .ref q9, .ref q14, .ref q23, .ref q45, .ref q51, .ref q56, .ref q60, .ref q63, .ref q67, .ref q71, .ref q72, .ref q73, .null, .long 0, .long 0]))] ++ ([(q74, .inl (cJ, 2, .inr (.inl (fun _ => 0))))] ++ ([(q73, .inl (cJ, 3, .inr (.inl (fun _ => 0))))] ++ ([(q72, .inl (cI, 10, .inl (fun _ => 0)))] ++ ([(q71, .inl (cI, 1024, .inl (fun _ => 0)))] ++ (w70 ++ (w66 ++ (w62 ++ (w59 ++ (w55 ++ (w50 ++ (w44 ++ (w37 ++ (w28 ++ (w22 ++ (w3 ++ [])))))))))))))))) := hD
  refine va_putF (D := (dC, dI)) (ci := 11) (v := .ref q74) (ty := .array .long) (C := RX11) (T := TX11) (N := 17) hx hb hts (fun w h => List.mem_cons_of_mem _ (inX11 w h)) tyX11 tyX11_ok nmX11 hown hK hP hD hS 0 rfl rfl 14 (by decide) (hts _ (List.mem_cons_of_mem _ mw_303)) (fun _ h9 => h9) rfl hin2 rfl (by decide +kernel) rfl rfl (Nat.le_of_ble_eq_true rfl) dX11_init_208 (fun H locs hP hD hS => ?_)
  have hP : va_P (dC, dI) vwCl ([(h0, .inr (11, [.ref q1, .ref q4, .ref q9, .ref q14, .ref q23, .ref q45, .ref q51, .ref q56, .ref q60, .ref q63, .ref q67, .ref q71, .ref q72, .ref q73, .ref q74, .long 0, .long 0]))] ++ ([(q74, .inl (cJ, 2, .inr (.inl (fun _ => 0))))] ++ ([(q73, .inl (cJ, 3, .inr (.inl (fun _ => 0))))] ++ ([(q72, .inl (cI, 10, .inl (fun _ => 0)))] ++ ([(q71, .inl (cI, 1024, .inl (fun _ => 0)))] ++ (w70 ++ (w66 ++ (w62 ++ (w59 ++ (w55 ++ (w50 ++ (w44 ++ (w37 ++ (w28 ++ (w22 ++ (w3 ++ [])))))))))))))))) H := hP
  have hD : va_D A ([(h0, .inr (11, [.ref q1, .ref q4, .ref q9, .ref q14, .ref q23, .ref q45, .ref q51, .ref q56, .ref q60, .ref q63, .ref q67, .ref q71, .ref q72, .ref q73, .ref q74, .long 0, .long 0]))] ++ ([(q74, .inl (cJ, 2, .inr (.inl (fun _ => 0))))] ++ ([(q73, .inl (cJ, 3, .inr (.inl (fun _ => 0))))] ++ ([(q72, .inl (cI, 10, .inl (fun _ => 0)))] ++ ([(q71, .inl (cI, 1024, .inl (fun _ => 0)))] ++ (w70 ++ (w66 ++ (w62 ++ (w59 ++ (w55 ++ (w50 ++ (w44 ++ (w37 ++ (w28 ++ (w22 ++ (w3 ++ [])))))))))))))))) := hD
  subst ew70
  subst ew66
  subst ew62
  subst ew59
  subst ew55
  subst ew50
  subst ew44
  subst ew37
  subst ew28
  subst ew22
  subst ew3
  have hP := hP.sub (ws' := (x_W (zad [h0, q1, q4, q9, q14, q23, q24, q29, q39, q45, q51, q56, q60, q63, q67, q71, q72, q73, q74, q2, q5, q6, q7, q10, q11, q12, q15, q16, q17, q18, q19, q20, q21, q38, q25, q26, q27, q30, q31, q32, q33, q34, q35, q36, q40, q41, q42, q43, q46, q47, q48, q49, q52, q53, q54, q57, q58, q61, q64, q65, q68, q69]) cI cJ (zX0 uP uR uC))) [0, 60, 18, 17, 52, 33, 48, 40, 34, 28, 16, 13, 11, 8, 5, 4, 3, 2, 1, 61, 25, 26, 27, 22, 23, 24, 53, 54, 55, 56, 57, 58, 59, 35, 49, 50, 51, 41, 42, 43, 44, 45, 46, 47, 36, 37, 38, 39, 29, 30, 31, 32, 19, 20, 21, 14, 15, 12, 9, 10, 6, 7] rfl
  have hD := hD.sub (ws' := (x_W (zad [h0, q1, q4, q9, q14, q23, q24, q29, q39, q45, q51, q56, q60, q63, q67, q71, q72, q73, q74, q2, q5, q6, q7, q10, q11, q12, q15, q16, q17, q18, q19, q20, q21, q38, q25, q26, q27, q30, q31, q32, q33, q34, q35, q36, q40, q41, q42, q43, q46, q47, q48, q49, q52, q53, q54, q57, q58, q61, q64, q65, q68, q69]) cI cJ (zX0 uP uR uC))) [0, 60, 18, 17, 52, 33, 48, 40, 34, 28, 16, 13, 11, 8, 5, 4, 3, 2, 1, 61, 25, 26, 27, 22, 23, 24, 53, 54, 55, 56, 57, 58, 59, 35, 49, 50, 51, 41, 42, 43, 44, 45, 46, 47, 36, 37, 38, 39, 29, 30, 31, 32, 19, 20, 21, 14, 15, 12, 9, 10, 6, 7] (by decide) rfl
  have hAe2 : A = zAW x_n (zad [h0, q1, q4, q9, q14, q23, q24, q29, q39, q45, q51, q56, q60, q63, q67, q71, q72, q73, q74, q2, q5, q6, q7, q10, q11, q12, q15, q16, q17, q18, q19, q20, q21, q38, q25, q26, q27, q30, q31, q32, q33, q34, q35, q36, q40, q41, q42, q43, q46, q47, q48, q49, q52, q53, q54, q57, q58, q61, q64, q65, q68, q69]) s.heap.size := by
    rw [← hAe]
    refine zA_eq (w := (x_W (zad [h0, q1, q4, q9, q14, q23, q24, q29, q39, q45, q51, q56, q60, q63, q67, q71, q72, q73, q74, q2, q5, q6, q7, q10, q11, q12, q15, q16, q17, q18, q19, q20, q21, q38, q25, q26, q27, q30, q31, q32, q33, q34, q35, q36, q40, q41, q42, q43, q46, q47, q48, q49, q52, q53, q54, q57, q58, q61, q64, q65, q68, q69]) cI cJ (zX0 uP uR uC))) rfl (by rw [hAe]; exact hD) ?_
    intro q hq
    simp only [List.mem_cons, List.not_mem_nil, or_false] at hq
    subst hq; exact ⟨0, by decide, rfl⟩
  clear hAe; subst hAe2
  have C0 : zCx p s m meth c _ RX11 cX11_init 1 none vs_X11_init := ⟨hx, hb, hml, hr, hown, hts, hlocks⟩
  refine zW_mono (zMQ_mono (fun o t hq => ?_)) (t_X11_init_211 (ad := (zad [h0, q1, q4, q9, q14, q23, q24, q29, q39, q45, q51, q56, q60, q63, q67, q71, q72, q73, q74, q2, q5, q6, q7, q10, q11, q12, q15, q16, q17, q18, q19, q20, q21, q38, q25, q26, q27, q30, q31, q32, q33, q34, q35, q36, q40, q41, q42, q43, q46, q47, q48, q49, q52, q53, q54, q57, q58, q61, q64, q65, q68, q69])) C0 (hK.sub (tys' := x_ty cI cJ) [0, 1] rfl) N (zX0 uP uR uC) _ _ _ h hP hD hS hl)
  obtain ⟨⟨u, h1, h2, h3⟩, h4⟩ := hq
  exact ⟨⟨u, h1, h2, (zad [h0, q1, q4, q9, q14, q23, q24, q29, q39, q45, q51, q56, q60, q63, q67, q71, q72, q73, q74, q2, q5, q6, q7, q10, q11, q12, q15, q16, q17, q18, q19, q20, q21, q38, q25, q26, q27, q30, q31, q32, q33, q34, q35, q36, q40, q41, q42, q43, q46, q47, q48, q49, q52, q53, q54, q57, q58, q61, q64, q65, q68, q69]), rfl, h3⟩, h4⟩
