section q08
end q08
section q08
def vs_X0_gainers : List Cond := .code yX0_gainers cX0_gainers 7 (some .int) :: zT
def rm_X0_gainers : Room := { frames := 4, cells := 0, slots := 0, locals := 113 }
theorem cw_X0_gainers {rm R : Room} {s : State} {args : Array Value} {own : String} {index : Nat} {c0 : Cond} (hts : ∀ w ∈ c0 :: zT, w.before args s = true) (hml : Cond.methodLink own index yX0_gainers ∈ zT) (hrc : rm.cells = 0) (hrs : rm.slots = 0) (hR : rm.frames + 1 ≤ R.frames ∧ 8 + (7 + 11) + rm.locals ≤ R.locals) : CallW R s args own RX0 index yX0_gainers cX0_gainers 7 (some .int) vs_X0_gainers rm 0 0 2 :=
  zwV 2 hts hml mw_635 mw_1351 mw_13 mw_636 hrc hrs (by decide +kernel) hR
def b_X0_gainers_6 (N : Nat) (k_6 : Int64 → Int64 → Int32 → Int32 → zSt → Prop) (Q : Int32 → zSt → Prop) (x1 : Int64) (x3 : Int64) (x5 : Int32) (x6 : Int32) (σ : zSt) : Prop :=
  ((σ.1 1) ≤ x6 → Q x5 σ) ∧ (¬ (σ.1 1) ≤ x6 → w_X10_of N x3 x6 σ (fun r1 τ2 => (vp_in x6 10) ∧ (((lg_cmp r1 (τ2.2.2.2 9 x6.toNatClampNeg)) ≤ 0 → (vp_in x6 10) ∧ (((lg_cmp ((x3 &&& (x1 ^^^ (-1 : Int64))) &&& (τ2.2.2.2 2 x6.toNatClampNeg)) (0 : Int64)) = 0 → ∀ v3 : Int32, v3 = x6 + (1 : Int32) → k_6 x1 x3 x5 v3 τ2) ∧ (¬ (lg_cmp ((x3 &&& (x1 ^^^ (-1 : Int64))) &&& (τ2.2.2.2 2 x6.toNatClampNeg)) (0 : Int64)) = 0 → Q (0 : Int32) τ2))) ∧ (¬ (lg_cmp r1 (τ2.2.2.2 9 x6.toNatClampNeg)) ≤ 0 → ∀ v4 : Int32, v4 = x5 ||| ((1 : Int32) <<< (x6 &&& 31)) → ∀ v5 : Int32, v5 = x6 + (1 : Int32) → k_6 x1 x3 v4 v5 τ2))))
def w_X0_gainers_6 (N : Nat) (Q : Int32 → zSt → Prop) : Nat → Int64 → Int64 → Int32 → Int32 → zSt → Prop
  | 0 => fun _ _ _ _ _ => False
  | f + 1 => b_X0_gainers_6 N (w_X0_gainers_6 N  Q f) Q
def w_X0_gainers (N : Nat) (x1 : Int64) (x3 : Int64) (σ : zSt) (Q : Int32 → zSt → Prop) : Prop :=
  w_X0_gainers_6 N Q N x1 x3 (0 : Int32) (0 : Int32) σ
variable {p : Program} {l : Launch} {e : Env} {s : State} {m : MethodId} {args : Array Value} {below : List Frame} {meth : Method} {c : Code} {dC : Nat → ClassId} {dI : Nat → Nat → Nat} {ad : Nat → Nat} {cI cJ : ClassId}
set_option maxHeartbeats 4000000 in
set_option maxRecDepth 100000 in
theorem tb_X0_gainers_6 (C0 : zCx p s m meth c args RX0 cX0_gainers 7 (some .int) vs_X0_gainers) (hK : va_K (dC, dI) vwCl (x_ty cI cJ) s) (N : Nat) {Q : Int32 → zSt → Prop} {k_6 : Int64 → Int64 → Int32 → Int32 → zSt → Prop} (hk_6 : ∀ (x1 : Int64) (x3 : Int64) (x5 : Int32) (x6 : Int32) (σ : zSt) (H : Heap) (locs : List Loc) (ls : Array Slot), k_6 x1 x3 x5 x6 σ → va_P (dC, dI) vwCl (x_W ad cI cJ σ) H → va_D (zAW x_n ad s.heap.size) (x_W ad cI cJ σ) → va_S (zAW x_n ad s.heap.size) s.heap H locs → lv_has ls 7 [(0, .ref (ad 10)), (1, .long x1), (3, .long x3), (5, .int x5), (6, .int x6)] → W p l e rm_X0_gainers s m args below meth c H locs 0 0 (MQ below (zQi (dC, dI) (x_ty cI cJ) (x_W ad cI cJ) (zAW x_n ad s.heap.size) Q) args s 0 0 (zAW x_n ad s.heap.size)) (F0 m 6 ls [])) : ∀ (x1 : Int64) (x3 : Int64) (x5 : Int32) (x6 : Int32) (σ : zSt) (H : Heap) (locs : List Loc) (ls : Array Slot), b_X0_gainers_6 N k_6 Q x1 x3 x5 x6 σ → va_P (dC, dI) vwCl (x_W ad cI cJ σ) H → va_D (zAW x_n ad s.heap.size) (x_W ad cI cJ σ) → va_S (zAW x_n ad s.heap.size) s.heap H locs → lv_has ls 7 [(0, .ref (ad 10)), (1, .long x1), (3, .long x3), (5, .int x5), (6, .int x6)] → W p l e rm_X0_gainers s m args below meth c H locs 0 0 (MQ below (zQi (dC, dI) (x_ty cI cJ) (x_W ad cI cJ) (zAW x_n ad s.heap.size) Q) args s 0 0 (zAW x_n ad s.heap.size)) (F0 m 6 ls []) := by
  obtain ⟨hx, hb, hml, hr, hown, hts, hlocks⟩ := id C0
  intro x1 x3 x5 x6 σ H locs ls h hP hD hS hl
  unfold b_X0_gainers_6 at h
  refine lv_iload hx hb dX0_gainers_6 (lv_at hl 4 rfl) ?_
  refine lv_aload_n hx hb dX0_gainers_8 rfl (lv_at hl 0 rfl) ?_
  refine xg_10_0 hx hb hts hown hK hP mw_220 dX0_gainers_9 ?_
  refine xg_3_4 hx hb hts hown hK hP mw_76 dX0_gainers_12 ?_
  refine lv_icmp_ge (tgt := 82) hx hb dX0_gainers_15 (by decide) (fun hc => ?_) (fun hc => ?_)
  · have h := h.1 hc
    refine lv_iload hx hb dX0_gainers_82 (lv_at hl 3 rfl) ?_
    exact zret_i hx hb hr hlocks hK hP hD hS h dX0_gainers_84
  · have h := h.2 hc
    refine lv_aload_n hx hb dX0_gainers_18 rfl (lv_at hl 0 rfl) ?_
    refine xg_10_2 hx hb hts hown hK hP mw_222 dX0_gainers_19 ?_
    refine lv_lload_n hx hb dX0_gainers_22 rfl (lv_at hl 2 rfl) ?_
    refine lv_iload hx hb dX0_gainers_23 (lv_at hl 4 rfl) ?_
    refine k_X10_of N ⟨hx, hb, hml, hown, hts⟩ mw_601 ⟨Nat.le_of_ble_eq_true rfl, Nat.le_of_ble_eq_true rfl⟩ h hK hP hD hS hl.1 (rest := []) (Nat.le_of_ble_eq_true rfl) dX0_gainers_25 (fun r1 τ2 H locs h hP hD hS => ?_)
    refine lv_aload_n hx hb dX0_gainers_28 rfl (lv_at hl 0 rfl) ?_
    refine xg_10_5 hx hb hts hown hK hP mw_225 dX0_gainers_29 ?_
    refine lv_iload hx hb dX0_gainers_32 (lv_at hl 4 rfl) ?_
    refine xa_54 hx hb hK hP h.1 rfl dX0_gainers_34 ?_
    have h := h.2
    refine W.lcmp hx hb dX0_gainers_35 ?_
    refine lv_if_le (tgt := 51) hx hb dX0_gainers_36 (by decide) (fun hc => ?_) (fun hc => ?_)
    · have h := h.1 hc
      refine lv_lload_n hx hb dX0_gainers_51 rfl (lv_at hl 2 rfl) ?_
      refine lv_lload_n hx hb dX0_gainers_52 rfl (lv_at hl 1 rfl) ?_
      refine lv_ldc2 (v := (-1 : Int64)) hx hb hown (hts _ (List.mem_cons_of_mem _ mw_597)) dX0_gainers_53 ?_
      refine lv_lxor hx hb dX0_gainers_56 ?_
      refine lv_land hx hb dX0_gainers_57 ?_
      refine lv_aload_n hx hb dX0_gainers_58 rfl (lv_at hl 0 rfl) ?_
      refine xg_10_1 hx hb hts hown hK hP mw_221 dX0_gainers_59 ?_
      refine xg_2_2 hx hb hts hown hK hP mw_56 dX0_gainers_62 ?_
      refine lv_iload hx hb dX0_gainers_65 (lv_at hl 4 rfl) ?_
      refine xa_22 hx hb hK hP h.1 rfl dX0_gainers_67 ?_
      have h := h.2
      refine lv_land hx hb dX0_gainers_68 ?_
      refine lv_lconst (v := (0 : Int64)) hx hb dX0_gainers_69 (by decide) ?_
      refine W.lcmp hx hb dX0_gainers_70 ?_
      refine lv_if_eq (tgt := 76) hx hb dX0_gainers_71 (by decide) (fun hc => ?_) (fun hc => ?_)
      · have h := h.1 hc
        obtain ⟨v3, ev3⟩ : ∃ z : Int32, z = x6 + (1 : Int32) := ⟨_, rfl⟩
        have h := h v3 ev3
        refine lv_iinc (v := v3) (lv' := [(6, .int v3), (0, .ref (ad 10)), (1, .long x1), (3, .long x3), (5, .int x5)]) hx hb dX0_gainers_76 hl (k := 4) rfl (by rw [ev3]; rfl) (by decide) rfl (fun ls hl => ?_)
        refine lv_goto (tgt := 6) hx hb dX0_gainers_79 (by decide) ?_
        exact hk_6 x1 x3 x5 v3 τ2 _ _ _ h hP hD hS (lv_sub hl [1, 2, 3, 4, 0] rfl)
      · have h := h.2 hc
        refine lv_iconst (v := (0 : Int32)) hx hb dX0_gainers_74 (by decide) ?_
        exact zret_i hx hb hr hlocks hK hP hD hS h dX0_gainers_75
    · have h := h.2 hc
      refine lv_iload hx hb dX0_gainers_39 (lv_at hl 3 rfl) ?_
      refine lv_iconst (v := (1 : Int32)) hx hb dX0_gainers_41 (by decide) ?_
      refine lv_iload hx hb dX0_gainers_42 (lv_at hl 4 rfl) ?_
      refine lv_ishl hx hb dX0_gainers_44 ?_
      refine lv_ior hx hb dX0_gainers_45 ?_
      refine lv_topi (fun v4 ev4 => ?_)
      have h := h v4 ev4
      refine lv_istore (lv' := [(5, .int v4), (0, .ref (ad 10)), (1, .long x1), (3, .long x3), (6, .int x6)]) hx hb dX0_gainers_46 hl (by decide) rfl (fun ls hl => ?_)
      refine lv_goto (tgt := 76) hx hb dX0_gainers_48 (by decide) ?_
      obtain ⟨v5, ev5⟩ : ∃ z : Int32, z = x6 + (1 : Int32) := ⟨_, rfl⟩
      have h := h v5 ev5
      refine lv_iinc (v := v5) (lv' := [(6, .int v5), (5, .int v4), (0, .ref (ad 10)), (1, .long x1), (3, .long x3)]) hx hb dX0_gainers_76 hl (k := 4) rfl (by rw [ev5]; rfl) (by decide) rfl (fun ls hl => ?_)
      refine lv_goto (tgt := 6) hx hb dX0_gainers_79 (by decide) ?_
      exact hk_6 x1 x3 v4 v5 τ2 _ _ _ h hP hD hS (lv_sub hl [2, 3, 4, 1, 0] rfl)
set_option maxHeartbeats 4000000 in
set_option maxRecDepth 100000 in
theorem t_X0_gainers_6 (C0 : zCx p s m meth c args RX0 cX0_gainers 7 (some .int) vs_X0_gainers) (hK : va_K (dC, dI) vwCl (x_ty cI cJ) s) (N : Nat) {Q : Int32 → zSt → Prop} : ∀ (f : Nat) (x1 : Int64) (x3 : Int64) (x5 : Int32) (x6 : Int32) (σ : zSt) (H : Heap) (locs : List Loc) (ls : Array Slot), w_X0_gainers_6 N  Q f x1 x3 x5 x6 σ → va_P (dC, dI) vwCl (x_W ad cI cJ σ) H → va_D (zAW x_n ad s.heap.size) (x_W ad cI cJ σ) → va_S (zAW x_n ad s.heap.size) s.heap H locs → lv_has ls 7 [(0, .ref (ad 10)), (1, .long x1), (3, .long x3), (5, .int x5), (6, .int x6)] → W p l e rm_X0_gainers s m args below meth c H locs 0 0 (MQ below (zQi (dC, dI) (x_ty cI cJ) (x_W ad cI cJ) (zAW x_n ad s.heap.size) Q) args s 0 0 (zAW x_n ad s.heap.size)) (F0 m 6 ls []) := by
  intro f
  induction f with
  | zero => intro x1 x3 x5 x6 σ H locs ls h; exact h.elim
  | succ f ih =>
    intro x1 x3 x5 x6 σ H locs ls h hP hD hS hl
    exact tb_X0_gainers_6 C0 hK N  (k_6 := w_X0_gainers_6 N  Q f) ih x1 x3 x5 x6 σ H locs ls h hP hD hS hl
set_option maxHeartbeats 4000000 in
set_option maxRecDepth 100000 in
theorem t_X0_gainers_0 (C0 : zCx p s m meth c args RX0 cX0_gainers 7 (some .int) vs_X0_gainers) (hK : va_K (dC, dI) vwCl (x_ty cI cJ) s) (N : Nat) {Q : Int32 → zSt → Prop} : ∀ (x1 : Int64) (x3 : Int64) (σ : zSt) (H : Heap) (locs : List Loc) (ls : Array Slot), w_X0_gainers N x1 x3 σ Q → va_P (dC, dI) vwCl (x_W ad cI cJ σ) H → va_D (zAW x_n ad s.heap.size) (x_W ad cI cJ σ) → va_S (zAW x_n ad s.heap.size) s.heap H locs → lv_has ls 7 [(0, .ref (ad 10)), (1, .long x1), (3, .long x3)] → W p l e rm_X0_gainers s m args below meth c H locs 0 0 (MQ below (zQi (dC, dI) (x_ty cI cJ) (x_W ad cI cJ) (zAW x_n ad s.heap.size) Q) args s 0 0 (zAW x_n ad s.heap.size)) (F0 m 0 ls []) := by
  obtain ⟨hx, hb, hml, hr, hown, hts, hlocks⟩ := id C0
  intro x1 x3 σ H locs ls h hP hD hS hl
  unfold w_X0_gainers at h
  refine lv_iconst (v := (0 : Int32)) hx hb dX0_gainers_0 (by decide) ?_
  refine lv_istore (lv' := [(5, .int (0 : Int32)), (0, .ref (ad 10)), (1, .long x1), (3, .long x3)]) hx hb dX0_gainers_1 hl (by decide) rfl (fun ls hl => ?_)
  refine lv_iconst (v := (0 : Int32)) hx hb dX0_gainers_3 (by decide) ?_
  refine lv_istore (lv' := [(6, .int (0 : Int32)), (5, .int (0 : Int32)), (0, .ref (ad 10)), (1, .long x1), (3, .long x3)]) hx hb dX0_gainers_4 hl (by decide) rfl (fun ls hl => ?_)
  exact t_X0_gainers_6 C0 hK N  N x1 x3 (0 : Int32) (0 : Int32) σ _ _ _ h hP hD hS (lv_sub hl [2, 3, 4, 1, 0] rfl)
set_option maxHeartbeats 4000000 in
set_option maxRecDepth 100000 in
theorem c_X0_gainers (N : Nat) (l : Launch) (dC : Nat → ClassId) (dI : Nat → Nat → Nat) (ad : Nat → Nat) (cI cJ : ClassId) (sz : Nat) (σ : zSt) (x1 : Int64) (x3 : Int64) (Q : Int32 → zSt → Prop) (h : w_X0_gainers N x1 x3 σ Q) : Met l yX0_gainers vs_X0_gainers rm_X0_gainers (va_Pc [.ref (ad 10), .long x1, .long x3] (zPc (dC, dI) (x_ty cI cJ) (x_W ad cI cJ) sz σ)) (zQi (dC, dI) (x_ty cI cJ) (x_W ad cI cJ) (zAW x_n ad sz) Q) 0 0 (zAW x_n ad sz) := by
  refine Met.ofW (cc := cX0_gainers) (maxL := 7) (ret := (some .int)) (by decide) rfl ?_
  intro p e s m args below meth c s₁ B hml hv
  obtain ⟨rfl, hsz, hP, hK, hD0⟩ := hv
  subst hsz
  have C0 : zCx p s m meth c _ RX0 cX0_gainers 7 (some .int) vs_X0_gainers := ⟨B.exec, B.bytes, hml, B.returns, findClass_of_methodNamed B.named, atoms_spec (ws := vs_X0_gainers) B.pre, B.notSynchronized⟩
  have hD := x_D0 (n0 := s.heap.size) hD0
  have hl := lv_entry ([.ref (ad 10), .long x1, .long x3]) (n := 7) (Nat.le_of_ble_eq_true rfl)
  rw [lg_entry_eq]
  generalize (lg_sl ([.ref (ad 10), .long x1, .long x3]) ++ List.replicate (7 - (lg_sl ([.ref (ad 10), .long x1, .long x3])).length) Slot.unset).toArray = ls at hl ⊢
  exact t_X0_gainers_0 C0 hK N x1 x3 σ _ _ ls h hP hD va_S.rf hl
theorem k_X0_gainers (N : Nat) {R : Room} {H : Heap} {locs : List Loc} {Q2 : State → Prop} {cc : ByteArray} {nL pc index : Nat} {ls : Array Slot} {rest : List Value} {own : String} {c0 : Cond} {σ : zSt} {x1 : Int64} {x3 : Int64} {Q : Int32 → zSt → Prop} (S0 : CallFix p m c cc nL s args (c0 :: zT) own) (hml : Cond.methodLink own index yX0_gainers ∈ zT) (hR : rm_X0_gainers.frames + 1 ≤ R.frames ∧ 8 + (7 + 11) + rm_X0_gainers.locals ≤ R.locals) (h : w_X0_gainers N x1 x3 σ Q) (hK : va_K (dC, dI) vwCl (x_ty cI cJ) s) (hP : va_P (dC, dI) vwCl (x_W ad cI cJ σ) H) (hD : va_D (zAW x_n ad s.heap.size) (x_W ad cI cJ σ)) (hS : va_S (zAW x_n ad s.heap.size) s.heap H locs) (hsz : ls.size = nL) (hW : (rest.map fun v => v.category).sum ≤ 8) (hdg : decode cc pc = .ok (.invokevirtual index, 3)) (kk : ∀ (r : Int32) (τ : zSt) (H1 : Heap) (locs1 : List Loc), Q r τ → va_P (dC, dI) vwCl (x_W ad cI cJ τ) H1 → va_D (zAW x_n ad s.heap.size) (x_W ad cI cJ τ) → va_S (zAW x_n ad s.heap.size) s.heap H1 locs1 → W p l e R s m args below meth c H1 locs1 0 0 Q2 (F0 m (pc + 3) ls (.int r :: rest))) : W p l e R s m args below meth c H locs 0 0 Q2 (F0 m pc ls (.long x3 :: .long x1 :: .ref (ad 10) :: rest)) :=
  zcv_i (T := TX0) (N' := 9) (k := 10) (ci := 0) (fs := x_f10 ad σ) [.long x1, .long x3] S0 (c_X0_gainers N l dC dI ad cI cJ H.size σ x1 x3 Q h) (cw_X0_gainers S0.2.2.2.2 hml rfl rfl hR) rfl rfl hK hP hD hS rfl hsz hW rfl hdg kk
end q08
section q08
def vs_X0_leastSet : List Cond := .code yX0_leastSet cX0_leastSet 7 (some .int) :: zT
def rm_X0_leastSet : Room := { frames := 0, cells := 0, slots := 0, locals := 0 }
theorem cw_X0_leastSet {rm R : Room} {s : State} {args : Array Value} {own : String} {index : Nat} {c0 : Cond} (hts : ∀ w ∈ c0 :: zT, w.before args s = true) (hml : Cond.methodLink own index yX0_leastSet ∈ zT) (hrc : rm.cells = 0) (hrs : rm.slots = 0) (hR : rm.frames + 1 ≤ R.frames ∧ 8 + (7 + 11) + rm.locals ≤ R.locals) : CallW R s args own RX0 index yX0_leastSet cX0_leastSet 7 (some .int) vs_X0_leastSet rm 0 0 3 :=
  zwV 3 hts hml mw_638 mw_1352 mw_13 mw_639 hrc hrs (by decide +kernel) hR
def b_X0_leastSet_3 (N : Nat) (k_3 : Int32 → Int64 → Int64 → Int32 → zSt → Prop) (Q : Int32 → zSt → Prop) (x1 : Int32) (x2 : Int64) (x4 : Int64) (x6 : Int32) (σ : zSt) : Prop :=
  ((32 : Int32) ≤ x6 → Q (0 : Int32) σ) ∧ (¬ (32 : Int32) ≤ x6 → (x1 < x6 → Q (0 : Int32) σ) ∧ (¬ x1 < x6 → ((x6 &&& (x1 ^^^ (-1 : Int32))) = 0 → (vp_in x6 32) ∧ (((lg_cmp (x2 &&& ((σ.2.2.2 7 x6.toNatClampNeg) ^^^ (-1 : Int64))) (0 : Int64)) = 0 → (vp_in x6 32) ∧ (((lg_cmp (x4 &&& ((σ.2.2.2 8 x6.toNatClampNeg) ^^^ (-1 : Int64))) (0 : Int64)) = 0 → Q x6 σ) ∧ (¬ (lg_cmp (x4 &&& ((σ.2.2.2 8 x6.toNatClampNeg) ^^^ (-1 : Int64))) (0 : Int64)) = 0 → ∀ v3 : Int32, v3 = x6 + (1 : Int32) → k_3 x1 x2 x4 v3 σ))) ∧ (¬ (lg_cmp (x2 &&& ((σ.2.2.2 7 x6.toNatClampNeg) ^^^ (-1 : Int64))) (0 : Int64)) = 0 → ∀ v2 : Int32, v2 = x6 + (1 : Int32) → k_3 x1 x2 x4 v2 σ))) ∧ (¬ (x6 &&& (x1 ^^^ (-1 : Int32))) = 0 → ∀ v1 : Int32, v1 = x6 + (1 : Int32) → k_3 x1 x2 x4 v1 σ)))
def w_X0_leastSet_3 (N : Nat) (Q : Int32 → zSt → Prop) : Nat → Int32 → Int64 → Int64 → Int32 → zSt → Prop
  | 0 => fun _ _ _ _ _ => False
  | f + 1 => b_X0_leastSet_3 N (w_X0_leastSet_3 N  Q f) Q
def w_X0_leastSet (N : Nat) (x1 : Int32) (x2 : Int64) (x4 : Int64) (σ : zSt) (Q : Int32 → zSt → Prop) : Prop :=
  w_X0_leastSet_3 N Q N x1 x2 x4 (1 : Int32) σ
variable {p : Program} {l : Launch} {e : Env} {s : State} {m : MethodId} {args : Array Value} {below : List Frame} {meth : Method} {c : Code} {dC : Nat → ClassId} {dI : Nat → Nat → Nat} {ad : Nat → Nat} {cI cJ : ClassId}
set_option maxHeartbeats 4000000 in
set_option maxRecDepth 100000 in
theorem tb_X0_leastSet_3 (C0 : zCx p s m meth c args RX0 cX0_leastSet 7 (some .int) vs_X0_leastSet) (hK : va_K (dC, dI) vwCl (x_ty cI cJ) s) (N : Nat) {Q : Int32 → zSt → Prop} {k_3 : Int32 → Int64 → Int64 → Int32 → zSt → Prop} (hk_3 : ∀ (x1 : Int32) (x2 : Int64) (x4 : Int64) (x6 : Int32) (σ : zSt) (H : Heap) (locs : List Loc) (ls : Array Slot), k_3 x1 x2 x4 x6 σ → va_P (dC, dI) vwCl (x_W ad cI cJ σ) H → va_D (zAW x_n ad s.heap.size) (x_W ad cI cJ σ) → va_S (zAW x_n ad s.heap.size) s.heap H locs → lv_has ls 7 [(0, .ref (ad 10)), (1, .int x1), (2, .long x2), (4, .long x4), (6, .int x6)] → W p l e rm_X0_leastSet s m args below meth c H locs 0 0 (MQ below (zQi (dC, dI) (x_ty cI cJ) (x_W ad cI cJ) (zAW x_n ad s.heap.size) Q) args s 0 0 (zAW x_n ad s.heap.size)) (F0 m 3 ls [])) : ∀ (x1 : Int32) (x2 : Int64) (x4 : Int64) (x6 : Int32) (σ : zSt) (H : Heap) (locs : List Loc) (ls : Array Slot), b_X0_leastSet_3 N k_3 Q x1 x2 x4 x6 σ → va_P (dC, dI) vwCl (x_W ad cI cJ σ) H → va_D (zAW x_n ad s.heap.size) (x_W ad cI cJ σ) → va_S (zAW x_n ad s.heap.size) s.heap H locs → lv_has ls 7 [(0, .ref (ad 10)), (1, .int x1), (2, .long x2), (4, .long x4), (6, .int x6)] → W p l e rm_X0_leastSet s m args below meth c H locs 0 0 (MQ below (zQi (dC, dI) (x_ty cI cJ) (x_W ad cI cJ) (zAW x_n ad s.heap.size) Q) args s 0 0 (zAW x_n ad s.heap.size)) (F0 m 3 ls []) := by
  obtain ⟨hx, hb, hml, hr, hown, hts, hlocks⟩ := id C0
  intro x1 x2 x4 x6 σ H locs ls h hP hD hS hl
  unfold b_X0_leastSet_3 at h
  refine lv_iload hx hb dX0_leastSet_3 (lv_at hl 4 rfl) ?_
  refine lv_bipush (v := (32 : Int32)) hx hb dX0_leastSet_5 (by decide) ?_
  refine lv_icmp_ge (tgt := 71) hx hb dX0_leastSet_7 (by decide) (fun hc => ?_) (fun hc => ?_)
  · have h := h.1 hc
    refine lv_iconst (v := (0 : Int32)) hx hb dX0_leastSet_71 (by decide) ?_
    exact zret_i hx hb hr hlocks hK hP hD hS h dX0_leastSet_72
  · have h := h.2 hc
    refine lv_iload hx hb dX0_leastSet_10 (lv_at hl 4 rfl) ?_
    refine lv_iload_n hx hb dX0_leastSet_12 rfl (lv_at hl 1 rfl) ?_
    refine lv_icmp_gt (tgt := 71) hx hb dX0_leastSet_13 (by decide) (fun hc => ?_) (fun hc => ?_)
    · have h := h.1 hc
      refine lv_iconst (v := (0 : Int32)) hx hb dX0_leastSet_71 (by decide) ?_
      exact zret_i hx hb hr hlocks hK hP hD hS h dX0_leastSet_72
    · have h := h.2 hc
      refine lv_iload hx hb dX0_leastSet_16 (lv_at hl 4 rfl) ?_
      refine lv_iload_n hx hb dX0_leastSet_18 rfl (lv_at hl 1 rfl) ?_
      refine lv_iconst (v := (-1 : Int32)) hx hb dX0_leastSet_19 (by decide) ?_
      refine lv_ixor hx hb dX0_leastSet_20 ?_
      refine lv_iand hx hb dX0_leastSet_21 ?_
      refine lv_if_ne (tgt := 65) hx hb dX0_leastSet_22 (by decide) (fun hc => ?_) (fun hc => ?_)
      · have h := h.2 hc
        obtain ⟨v1, ev1⟩ : ∃ z : Int32, z = x6 + (1 : Int32) := ⟨_, rfl⟩
        have h := h v1 ev1
        refine lv_iinc (v := v1) (lv' := [(6, .int v1), (0, .ref (ad 10)), (1, .int x1), (2, .long x2), (4, .long x4)]) hx hb dX0_leastSet_65 hl (k := 4) rfl (by rw [ev1]; rfl) (by decide) rfl (fun ls hl => ?_)
        refine lv_goto (tgt := 3) hx hb dX0_leastSet_68 (by decide) ?_
        exact hk_3 x1 x2 x4 v1 σ _ _ _ h hP hD hS (lv_sub hl [1, 2, 3, 4, 0] rfl)
      · have h := h.1 hc
        refine lv_lload_n hx hb dX0_leastSet_25 rfl (lv_at hl 2 rfl) ?_
        refine lv_aload_n hx hb dX0_leastSet_26 rfl (lv_at hl 0 rfl) ?_
        refine xg_10_3 hx hb hts hown hK hP mw_223 dX0_leastSet_27 ?_
        refine lv_iload hx hb dX0_leastSet_30 (lv_at hl 4 rfl) ?_
        refine xa_52 hx hb hK hP h.1 rfl dX0_leastSet_32 ?_
        have h := h.2
        refine lv_ldc2 (v := (-1 : Int64)) hx hb hown (hts _ (List.mem_cons_of_mem _ mw_597)) dX0_leastSet_33 ?_
        refine lv_lxor hx hb dX0_leastSet_36 ?_
        refine lv_land hx hb dX0_leastSet_37 ?_
        refine lv_lconst (v := (0 : Int64)) hx hb dX0_leastSet_38 (by decide) ?_
        refine W.lcmp hx hb dX0_leastSet_39 ?_
        refine lv_if_ne (tgt := 65) hx hb dX0_leastSet_40 (by decide) (fun hc => ?_) (fun hc => ?_)
        · have h := h.2 hc
          obtain ⟨v2, ev2⟩ : ∃ z : Int32, z = x6 + (1 : Int32) := ⟨_, rfl⟩
          have h := h v2 ev2
          refine lv_iinc (v := v2) (lv' := [(6, .int v2), (0, .ref (ad 10)), (1, .int x1), (2, .long x2), (4, .long x4)]) hx hb dX0_leastSet_65 hl (k := 4) rfl (by rw [ev2]; rfl) (by decide) rfl (fun ls hl => ?_)
          refine lv_goto (tgt := 3) hx hb dX0_leastSet_68 (by decide) ?_
          exact hk_3 x1 x2 x4 v2 σ _ _ _ h hP hD hS (lv_sub hl [1, 2, 3, 4, 0] rfl)
        · have h := h.1 hc
          refine lv_lload hx hb dX0_leastSet_43 (lv_at hl 3 rfl) ?_
          refine lv_aload_n hx hb dX0_leastSet_45 rfl (lv_at hl 0 rfl) ?_
          refine xg_10_4 hx hb hts hown hK hP mw_224 dX0_leastSet_46 ?_
          refine lv_iload hx hb dX0_leastSet_49 (lv_at hl 4 rfl) ?_
          refine xa_53 hx hb hK hP h.1 rfl dX0_leastSet_51 ?_
          have h := h.2
          refine lv_ldc2 (v := (-1 : Int64)) hx hb hown (hts _ (List.mem_cons_of_mem _ mw_597)) dX0_leastSet_52 ?_
          refine lv_lxor hx hb dX0_leastSet_55 ?_
          refine lv_land hx hb dX0_leastSet_56 ?_
          refine lv_lconst (v := (0 : Int64)) hx hb dX0_leastSet_57 (by decide) ?_
          refine W.lcmp hx hb dX0_leastSet_58 ?_
          refine lv_if_ne (tgt := 65) hx hb dX0_leastSet_59 (by decide) (fun hc => ?_) (fun hc => ?_)
          · have h := h.2 hc
            obtain ⟨v3, ev3⟩ : ∃ z : Int32, z = x6 + (1 : Int32) := ⟨_, rfl⟩
            have h := h v3 ev3
            refine lv_iinc (v := v3) (lv' := [(6, .int v3), (0, .ref (ad 10)), (1, .int x1), (2, .long x2), (4, .long x4)]) hx hb dX0_leastSet_65 hl (k := 4) rfl (by rw [ev3]; rfl) (by decide) rfl (fun ls hl => ?_)
            refine lv_goto (tgt := 3) hx hb dX0_leastSet_68 (by decide) ?_
            exact hk_3 x1 x2 x4 v3 σ _ _ _ h hP hD hS (lv_sub hl [1, 2, 3, 4, 0] rfl)
          · have h := h.1 hc
            refine lv_iload hx hb dX0_leastSet_62 (lv_at hl 4 rfl) ?_
            exact zret_i hx hb hr hlocks hK hP hD hS h dX0_leastSet_64
set_option maxHeartbeats 4000000 in
set_option maxRecDepth 100000 in
theorem t_X0_leastSet_3 (C0 : zCx p s m meth c args RX0 cX0_leastSet 7 (some .int) vs_X0_leastSet) (hK : va_K (dC, dI) vwCl (x_ty cI cJ) s) (N : Nat) {Q : Int32 → zSt → Prop} : ∀ (f : Nat) (x1 : Int32) (x2 : Int64) (x4 : Int64) (x6 : Int32) (σ : zSt) (H : Heap) (locs : List Loc) (ls : Array Slot), w_X0_leastSet_3 N  Q f x1 x2 x4 x6 σ → va_P (dC, dI) vwCl (x_W ad cI cJ σ) H → va_D (zAW x_n ad s.heap.size) (x_W ad cI cJ σ) → va_S (zAW x_n ad s.heap.size) s.heap H locs → lv_has ls 7 [(0, .ref (ad 10)), (1, .int x1), (2, .long x2), (4, .long x4), (6, .int x6)] → W p l e rm_X0_leastSet s m args below meth c H locs 0 0 (MQ below (zQi (dC, dI) (x_ty cI cJ) (x_W ad cI cJ) (zAW x_n ad s.heap.size) Q) args s 0 0 (zAW x_n ad s.heap.size)) (F0 m 3 ls []) := by
  intro f
  induction f with
  | zero => intro x1 x2 x4 x6 σ H locs ls h; exact h.elim
  | succ f ih =>
    intro x1 x2 x4 x6 σ H locs ls h hP hD hS hl
    exact tb_X0_leastSet_3 C0 hK N  (k_3 := w_X0_leastSet_3 N  Q f) ih x1 x2 x4 x6 σ H locs ls h hP hD hS hl
set_option maxHeartbeats 4000000 in
set_option maxRecDepth 100000 in
theorem t_X0_leastSet_0 (C0 : zCx p s m meth c args RX0 cX0_leastSet 7 (some .int) vs_X0_leastSet) (hK : va_K (dC, dI) vwCl (x_ty cI cJ) s) (N : Nat) {Q : Int32 → zSt → Prop} : ∀ (x1 : Int32) (x2 : Int64) (x4 : Int64) (σ : zSt) (H : Heap) (locs : List Loc) (ls : Array Slot), w_X0_leastSet N x1 x2 x4 σ Q → va_P (dC, dI) vwCl (x_W ad cI cJ σ) H → va_D (zAW x_n ad s.heap.size) (x_W ad cI cJ σ) → va_S (zAW x_n ad s.heap.size) s.heap H locs → lv_has ls 7 [(0, .ref (ad 10)), (1, .int x1), (2, .long x2), (4, .long x4)] → W p l e rm_X0_leastSet s m args below meth c H locs 0 0 (MQ below (zQi (dC, dI) (x_ty cI cJ) (x_W ad cI cJ) (zAW x_n ad s.heap.size) Q) args s 0 0 (zAW x_n ad s.heap.size)) (F0 m 0 ls []) := by
  obtain ⟨hx, hb, hml, hr, hown, hts, hlocks⟩ := id C0
  intro x1 x2 x4 σ H locs ls h hP hD hS hl
  unfold w_X0_leastSet at h
  refine lv_iconst (v := (1 : Int32)) hx hb dX0_leastSet_0 (by decide) ?_
  refine lv_istore (lv' := [(6, .int (1 : Int32)), (0, .ref (ad 10)), (1, .int x1), (2, .long x2), (4, .long x4)]) hx hb dX0_leastSet_1 hl (by decide) rfl (fun ls hl => ?_)
  exact t_X0_leastSet_3 C0 hK N  N x1 x2 x4 (1 : Int32) σ _ _ _ h hP hD hS (lv_sub hl [1, 2, 3, 4, 0] rfl)
set_option maxHeartbeats 4000000 in
set_option maxRecDepth 100000 in
theorem c_X0_leastSet (N : Nat) (l : Launch) (dC : Nat → ClassId) (dI : Nat → Nat → Nat) (ad : Nat → Nat) (cI cJ : ClassId) (sz : Nat) (σ : zSt) (x1 : Int32) (x2 : Int64) (x4 : Int64) (Q : Int32 → zSt → Prop) (h : w_X0_leastSet N x1 x2 x4 σ Q) : Met l yX0_leastSet vs_X0_leastSet rm_X0_leastSet (va_Pc [.ref (ad 10), .int x1, .long x2, .long x4] (zPc (dC, dI) (x_ty cI cJ) (x_W ad cI cJ) sz σ)) (zQi (dC, dI) (x_ty cI cJ) (x_W ad cI cJ) (zAW x_n ad sz) Q) 0 0 (zAW x_n ad sz) := by
  refine Met.ofW (cc := cX0_leastSet) (maxL := 7) (ret := (some .int)) (by decide) rfl ?_
  intro p e s m args below meth c s₁ B hml hv
  obtain ⟨rfl, hsz, hP, hK, hD0⟩ := hv
  subst hsz
  have C0 : zCx p s m meth c _ RX0 cX0_leastSet 7 (some .int) vs_X0_leastSet := ⟨B.exec, B.bytes, hml, B.returns, findClass_of_methodNamed B.named, atoms_spec (ws := vs_X0_leastSet) B.pre, B.notSynchronized⟩
  have hD := x_D0 (n0 := s.heap.size) hD0
  have hl := lv_entry ([.ref (ad 10), .int x1, .long x2, .long x4]) (n := 7) (Nat.le_of_ble_eq_true rfl)
  rw [lg_entry_eq]
  generalize (lg_sl ([.ref (ad 10), .int x1, .long x2, .long x4]) ++ List.replicate (7 - (lg_sl ([.ref (ad 10), .int x1, .long x2, .long x4])).length) Slot.unset).toArray = ls at hl ⊢
  exact t_X0_leastSet_0 C0 hK N x1 x2 x4 σ _ _ ls h hP hD va_S.rf hl
theorem k_X0_leastSet (N : Nat) {R : Room} {H : Heap} {locs : List Loc} {Q2 : State → Prop} {cc : ByteArray} {nL pc index : Nat} {ls : Array Slot} {rest : List Value} {own : String} {c0 : Cond} {σ : zSt} {x1 : Int32} {x2 : Int64} {x4 : Int64} {Q : Int32 → zSt → Prop} (S0 : CallFix p m c cc nL s args (c0 :: zT) own) (hml : Cond.methodLink own index yX0_leastSet ∈ zT) (hR : rm_X0_leastSet.frames + 1 ≤ R.frames ∧ 8 + (7 + 11) + rm_X0_leastSet.locals ≤ R.locals) (h : w_X0_leastSet N x1 x2 x4 σ Q) (hK : va_K (dC, dI) vwCl (x_ty cI cJ) s) (hP : va_P (dC, dI) vwCl (x_W ad cI cJ σ) H) (hD : va_D (zAW x_n ad s.heap.size) (x_W ad cI cJ σ)) (hS : va_S (zAW x_n ad s.heap.size) s.heap H locs) (hsz : ls.size = nL) (hW : (rest.map fun v => v.category).sum ≤ 8) (hdg : decode cc pc = .ok (.invokevirtual index, 3)) (kk : ∀ (r : Int32) (τ : zSt) (H1 : Heap) (locs1 : List Loc), Q r τ → va_P (dC, dI) vwCl (x_W ad cI cJ τ) H1 → va_D (zAW x_n ad s.heap.size) (x_W ad cI cJ τ) → va_S (zAW x_n ad s.heap.size) s.heap H1 locs1 → W p l e R s m args below meth c H1 locs1 0 0 Q2 (F0 m (pc + 3) ls (.int r :: rest))) : W p l e R s m args below meth c H locs 0 0 Q2 (F0 m pc ls (.long x4 :: .long x2 :: .int x1 :: .ref (ad 10) :: rest)) :=
  zcv_i (T := TX0) (N' := 9) (k := 10) (ci := 0) (fs := x_f10 ad σ) [.int x1, .long x2, .long x4] S0 (c_X0_leastSet N l dC dI ad cI cJ H.size σ x1 x2 x4 Q h) (cw_X0_leastSet S0.2.2.2.2 hml rfl rfl hR) rfl rfl hK hP hD hS rfl hsz hW rfl hdg kk
end q08
section q08
def vs_X0_firstSet : List Cond := .code yX0_firstSet cX0_firstSet 8 (some .boolean) :: zT
def rm_X0_firstSet : Room := { frames := 5, cells := 0, slots := 0, locals := 139 }
theorem cw_X0_firstSet {rm R : Room} {s : State} {args : Array Value} {own : String} {index : Nat} {c0 : Cond} (hts : ∀ w ∈ c0 :: zT, w.before args s = true) (hml : Cond.methodLink own index yX0_firstSet ∈ zT) (hrc : rm.cells = 0) (hrs : rm.slots = 0) (hR : rm.frames + 1 ≤ R.frames ∧ 8 + (8 + 11) + rm.locals ≤ R.locals) : CallW R s args own RX0 index yX0_firstSet cX0_firstSet 8 (some .boolean) vs_X0_firstSet rm 0 0 1 :=
  zwV 1 hts hml mw_632 mw_1350 mw_13 mw_633 hrc hrs (by decide +kernel) hR
def b_X0_firstSet_60 (N : Nat) (k_60 : Int64 → Int64 → Int64 → zSt → Prop) (Q : Int32 → zSt → Prop) (x1 : Int64) (x3 : Int64) (x5 : Int64) (σ : zSt) : Prop :=
  (0 ≤ (lg_cmp x5 x3) → Q (0 : Int32) σ) ∧ (¬ 0 ≤ (lg_cmp x5 x3) → w_X0_gainers N x1 x5 σ (fun r1 τ2 => w_X0_leastSet N r1 (x5 &&& (x1 ^^^ (-1 : Int64))) (x1 &&& (x5 ^^^ (-1 : Int64))) τ2 (fun r3 τ4 => (r3 = 0 → ∀ v5 : Int64, v5 = x5 + (1 : Int64) → k_60 x1 x3 v5 τ4) ∧ (¬ r3 = 0 → w_X4_may N x5 τ4 (fun r6 τ7 => (r6 = 0 → ∀ v8 : Int64, v8 = x5 + (1 : Int64) → k_60 x1 x3 v8 τ7) ∧ (¬ r6 = 0 → w_X0_found N (5 : Int32) r3 x5 τ7 (fun r9 τ10 => (zb r9) ∧ Q r9 τ10)))))))
def w_X0_firstSet_60 (N : Nat) (Q : Int32 → zSt → Prop) : Nat → Int64 → Int64 → Int64 → zSt → Prop
  | 0 => fun _ _ _ _ => False
  | f + 1 => b_X0_firstSet_60 N (w_X0_firstSet_60 N  Q f) Q
def b_X0_firstSet_15 (N : Nat) (k_15 : Int64 → Int32 → zSt → Prop) (Q : Int32 → zSt → Prop) (x1 : Int64) (x3 : Int32) (σ : zSt) : Prop :=
  ((σ.1 1) ≤ x3 → ∀ v1 : Int64, v1 = (1 : Int64) <<< ((σ.1 2).toInt64 &&& 63) → w_X0_firstSet_60 N Q N x1 v1 (0 : Int64) σ) ∧ (¬ (σ.1 1) ≤ x3 → w_X10_of N x1 x3 σ (fun r2 τ3 => (vp_in x3 10) ∧ (∀ τ4 : zSt, τ4 = zB τ3 9 (vp_updL (τ3.2.2.2 9) (x3.toNatClampNeg) r2) → ∀ v5 : Int32, v5 = x3 + (1 : Int32) → k_15 x1 v5 τ4)))
def w_X0_firstSet_15 (N : Nat) (Q : Int32 → zSt → Prop) : Nat → Int64 → Int32 → zSt → Prop
  | 0 => fun _ _ _ => False
  | f + 1 => b_X0_firstSet_15 N (w_X0_firstSet_15 N  Q f) Q
def w_X0_firstSet (N : Nat) (x1 : Int64) (σ : zSt) (Q : Int32 → zSt → Prop) : Prop :=
  ((σ.1 1) ≤ (5 : Int32) → w_X0_firstSet_15 N Q N x1 (0 : Int32) σ) ∧ (¬ (σ.1 1) ≤ (5 : Int32) → Q (0 : Int32) σ)
variable {p : Program} {l : Launch} {e : Env} {s : State} {m : MethodId} {args : Array Value} {below : List Frame} {meth : Method} {c : Code} {dC : Nat → ClassId} {dI : Nat → Nat → Nat} {ad : Nat → Nat} {cI cJ : ClassId}
set_option maxHeartbeats 4000000 in
set_option maxRecDepth 100000 in
theorem tb_X0_firstSet_60 (C0 : zCx p s m meth c args RX0 cX0_firstSet 8 (some .boolean) vs_X0_firstSet) (hK : va_K (dC, dI) vwCl (x_ty cI cJ) s) (N : Nat) {Q : Int32 → zSt → Prop} {k_60 : Int64 → Int64 → Int64 → zSt → Prop} (hk_60 : ∀ (x1 : Int64) (x3 : Int64) (x5 : Int64) (σ : zSt) (H : Heap) (locs : List Loc) (ls : Array Slot), k_60 x1 x3 x5 σ → va_P (dC, dI) vwCl (x_W ad cI cJ σ) H → va_D (zAW x_n ad s.heap.size) (x_W ad cI cJ σ) → va_S (zAW x_n ad s.heap.size) s.heap H locs → lv_has ls 8 [(0, .ref (ad 10)), (1, .long x1), (3, .long x3), (5, .long x5)] → W p l e rm_X0_firstSet s m args below meth c H locs 0 0 (MQ below (zQi (dC, dI) (x_ty cI cJ) (x_W ad cI cJ) (zAW x_n ad s.heap.size) Q) args s 0 0 (zAW x_n ad s.heap.size)) (F0 m 60 ls [])) : ∀ (x1 : Int64) (x3 : Int64) (x5 : Int64) (σ : zSt) (H : Heap) (locs : List Loc) (ls : Array Slot), b_X0_firstSet_60 N k_60 Q x1 x3 x5 σ → va_P (dC, dI) vwCl (x_W ad cI cJ σ) H → va_D (zAW x_n ad s.heap.size) (x_W ad cI cJ σ) → va_S (zAW x_n ad s.heap.size) s.heap H locs → lv_has ls 8 [(0, .ref (ad 10)), (1, .long x1), (3, .long x3), (5, .long x5)] → W p l e rm_X0_firstSet s m args below meth c H locs 0 0 (MQ below (zQi (dC, dI) (x_ty cI cJ) (x_W ad cI cJ) (zAW x_n ad s.heap.size) Q) args s 0 0 (zAW x_n ad s.heap.size)) (F0 m 60 ls []) := by
  obtain ⟨hx, hb, hml, hr, hown, hts, hlocks⟩ := id C0
  intro x1 x3 x5 σ H locs ls h hP hD hS hl
  unfold b_X0_firstSet_60 at h
  refine lv_lload hx hb dX0_firstSet_60 (lv_at hl 3 rfl) ?_
  refine lv_lload_n hx hb dX0_firstSet_62 rfl (lv_at hl 2 rfl) ?_
  refine W.lcmp hx hb dX0_firstSet_63 ?_
  refine lv_if_ge (tgt := 132) hx hb dX0_firstSet_64 (by decide) (fun hc => ?_) (fun hc => ?_)
  · have h := h.1 hc
    refine lv_iconst (v := (0 : Int32)) hx hb dX0_firstSet_132 (by decide) ?_
    exact zret_z hx hb hr hlocks hK hP hD hS zb_0 h dX0_firstSet_133
  · have h := h.2 hc
    refine lv_aload_n hx hb dX0_firstSet_67 rfl (lv_at hl 0 rfl) ?_
    refine lv_aload_n hx hb dX0_firstSet_68 rfl (lv_at hl 0 rfl) ?_
    refine lv_lload_n hx hb dX0_firstSet_69 rfl (lv_at hl 1 rfl) ?_
    refine lv_lload hx hb dX0_firstSet_70 (lv_at hl 3 rfl) ?_
    refine k_X0_gainers N ⟨hx, hb, hml, hown, hts⟩ mw_634 ⟨Nat.le_of_ble_eq_true rfl, Nat.le_of_ble_eq_true rfl⟩ h hK hP hD hS hl.1 (rest := [.ref (ad 10)]) (Nat.le_of_ble_eq_true rfl) dX0_firstSet_72 (fun r1 τ2 H locs h hP hD hS => ?_)
    refine lv_lload hx hb dX0_firstSet_75 (lv_at hl 3 rfl) ?_
    refine lv_lload_n hx hb dX0_firstSet_77 rfl (lv_at hl 1 rfl) ?_
    refine lv_ldc2 (v := (-1 : Int64)) hx hb hown (hts _ (List.mem_cons_of_mem _ mw_597)) dX0_firstSet_78 ?_
    refine lv_lxor hx hb dX0_firstSet_81 ?_
    refine lv_land hx hb dX0_firstSet_82 ?_
    refine lv_lload_n hx hb dX0_firstSet_83 rfl (lv_at hl 1 rfl) ?_
    refine lv_lload hx hb dX0_firstSet_84 (lv_at hl 3 rfl) ?_
    refine lv_ldc2 (v := (-1 : Int64)) hx hb hown (hts _ (List.mem_cons_of_mem _ mw_597)) dX0_firstSet_86 ?_
    refine lv_lxor hx hb dX0_firstSet_89 ?_
    refine lv_land hx hb dX0_firstSet_90 ?_
    refine k_X0_leastSet N ⟨hx, hb, hml, hown, hts⟩ mw_637 ⟨Nat.le_of_ble_eq_true rfl, Nat.le_of_ble_eq_true rfl⟩ h hK hP hD hS hl.1 (rest := []) (Nat.le_of_ble_eq_true rfl) dX0_firstSet_91 (fun r3 τ4 H locs h hP hD hS => ?_)
    refine lv_istore (lv' := [(7, .int r3), (0, .ref (ad 10)), (1, .long x1), (3, .long x3), (5, .long x5)]) hx hb dX0_firstSet_94 hl (by decide) rfl (fun ls hl => ?_)
    refine lv_iload hx hb dX0_firstSet_96 (lv_at hl 0 rfl) ?_
    refine lv_if_eq (tgt := 123) hx hb dX0_firstSet_98 (by decide) (fun hc => ?_) (fun hc => ?_)
    · have h := h.1 hc
      refine lv_lload hx hb dX0_firstSet_123 (lv_at hl 4 rfl) ?_
      refine lv_lconst (v := (1 : Int64)) hx hb dX0_firstSet_125 (by decide) ?_
      refine lv_ladd hx hb dX0_firstSet_126 ?_
      refine lv_topl (fun v5 ev5 => ?_)
      have h := h v5 ev5
      refine lv_lstore (lv' := [(5, .long v5), (7, .int r3), (0, .ref (ad 10)), (1, .long x1), (3, .long x3)]) hx hb dX0_firstSet_127 hl (by decide) rfl (fun ls hl => ?_)
      refine lv_goto (tgt := 60) hx hb dX0_firstSet_129 (by decide) ?_
      exact hk_60 x1 x3 v5 τ4 _ _ _ h hP hD hS (lv_sub hl [2, 3, 4, 0] rfl)
    · have h := h.2 hc
      refine lv_aload_n hx hb dX0_firstSet_101 rfl (lv_at hl 1 rfl) ?_
      refine xg_10_0 hx hb hts hown hK hP mw_220 dX0_firstSet_102 ?_
      refine lv_lload hx hb dX0_firstSet_105 (lv_at hl 4 rfl) ?_
      refine k_X4_may N ⟨hx, hb, hml, hown, hts⟩ mw_613 ⟨Nat.le_of_ble_eq_true rfl, Nat.le_of_ble_eq_true rfl⟩ h hK hP hD hS hl.1 (rest := []) (Nat.le_of_ble_eq_true rfl) dX0_firstSet_107 (fun r6 τ7 H locs h hP hD hS => ?_)
      refine lv_if_eq (tgt := 123) hx hb dX0_firstSet_110 (by decide) (fun hc => ?_) (fun hc => ?_)
      · have h := h.1 hc
        refine lv_lload hx hb dX0_firstSet_123 (lv_at hl 4 rfl) ?_
        refine lv_lconst (v := (1 : Int64)) hx hb dX0_firstSet_125 (by decide) ?_
        refine lv_ladd hx hb dX0_firstSet_126 ?_
        refine lv_topl (fun v8 ev8 => ?_)
        have h := h v8 ev8
        refine lv_lstore (lv' := [(5, .long v8), (7, .int r3), (0, .ref (ad 10)), (1, .long x1), (3, .long x3)]) hx hb dX0_firstSet_127 hl (by decide) rfl (fun ls hl => ?_)
        refine lv_goto (tgt := 60) hx hb dX0_firstSet_129 (by decide) ?_
        exact hk_60 x1 x3 v8 τ7 _ _ _ h hP hD hS (lv_sub hl [2, 3, 4, 0] rfl)
      · have h := h.2 hc
        refine lv_aload_n hx hb dX0_firstSet_113 rfl (lv_at hl 1 rfl) ?_
        refine lv_iconst (v := (5 : Int32)) hx hb dX0_firstSet_114 (by decide) ?_
        refine lv_iload hx hb dX0_firstSet_115 (lv_at hl 0 rfl) ?_
        refine lv_lload hx hb dX0_firstSet_117 (lv_at hl 4 rfl) ?_
        refine k_X0_found N ⟨hx, hb, hml, hown, hts⟩ mw_602 ⟨Nat.le_of_ble_eq_true rfl, Nat.le_of_ble_eq_true rfl⟩ h hK hP hD hS hl.1 (rest := []) (Nat.le_of_ble_eq_true rfl) dX0_firstSet_119 (fun r9 τ10 H locs h hP hD hS => ?_)
        exact zret_z hx hb hr hlocks hK hP hD hS h.1 h.2 dX0_firstSet_122
set_option maxHeartbeats 4000000 in
set_option maxRecDepth 100000 in
theorem t_X0_firstSet_60 (C0 : zCx p s m meth c args RX0 cX0_firstSet 8 (some .boolean) vs_X0_firstSet) (hK : va_K (dC, dI) vwCl (x_ty cI cJ) s) (N : Nat) {Q : Int32 → zSt → Prop} : ∀ (f : Nat) (x1 : Int64) (x3 : Int64) (x5 : Int64) (σ : zSt) (H : Heap) (locs : List Loc) (ls : Array Slot), w_X0_firstSet_60 N  Q f x1 x3 x5 σ → va_P (dC, dI) vwCl (x_W ad cI cJ σ) H → va_D (zAW x_n ad s.heap.size) (x_W ad cI cJ σ) → va_S (zAW x_n ad s.heap.size) s.heap H locs → lv_has ls 8 [(0, .ref (ad 10)), (1, .long x1), (3, .long x3), (5, .long x5)] → W p l e rm_X0_firstSet s m args below meth c H locs 0 0 (MQ below (zQi (dC, dI) (x_ty cI cJ) (x_W ad cI cJ) (zAW x_n ad s.heap.size) Q) args s 0 0 (zAW x_n ad s.heap.size)) (F0 m 60 ls []) := by
  intro f
  induction f with
  | zero => intro x1 x3 x5 σ H locs ls h; exact h.elim
  | succ f ih =>
    intro x1 x3 x5 σ H locs ls h hP hD hS hl
    exact tb_X0_firstSet_60 C0 hK N  (k_60 := w_X0_firstSet_60 N  Q f) ih x1 x3 x5 σ H locs ls h hP hD hS hl
set_option maxHeartbeats 4000000 in
set_option maxRecDepth 100000 in
theorem tb_X0_firstSet_15 (C0 : zCx p s m meth c args RX0 cX0_firstSet 8 (some .boolean) vs_X0_firstSet) (hK : va_K (dC, dI) vwCl (x_ty cI cJ) s) (N : Nat) {Q : Int32 → zSt → Prop} {k_15 : Int64 → Int32 → zSt → Prop} (hk_15 : ∀ (x1 : Int64) (x3 : Int32) (σ : zSt) (H : Heap) (locs : List Loc) (ls : Array Slot), k_15 x1 x3 σ → va_P (dC, dI) vwCl (x_W ad cI cJ σ) H → va_D (zAW x_n ad s.heap.size) (x_W ad cI cJ σ) → va_S (zAW x_n ad s.heap.size) s.heap H locs → lv_has ls 8 [(0, .ref (ad 10)), (1, .long x1), (3, .int x3)] → W p l e rm_X0_firstSet s m args below meth c H locs 0 0 (MQ below (zQi (dC, dI) (x_ty cI cJ) (x_W ad cI cJ) (zAW x_n ad s.heap.size) Q) args s 0 0 (zAW x_n ad s.heap.size)) (F0 m 15 ls [])) : ∀ (x1 : Int64) (x3 : Int32) (σ : zSt) (H : Heap) (locs : List Loc) (ls : Array Slot), b_X0_firstSet_15 N k_15 Q x1 x3 σ → va_P (dC, dI) vwCl (x_W ad cI cJ σ) H → va_D (zAW x_n ad s.heap.size) (x_W ad cI cJ σ) → va_S (zAW x_n ad s.heap.size) s.heap H locs → lv_has ls 8 [(0, .ref (ad 10)), (1, .long x1), (3, .int x3)] → W p l e rm_X0_firstSet s m args below meth c H locs 0 0 (MQ below (zQi (dC, dI) (x_ty cI cJ) (x_W ad cI cJ) (zAW x_n ad s.heap.size) Q) args s 0 0 (zAW x_n ad s.heap.size)) (F0 m 15 ls []) := by
  obtain ⟨hx, hb, hml, hr, hown, hts, hlocks⟩ := id C0
  intro x1 x3 σ H locs ls h hP hD hS hl
  unfold b_X0_firstSet_15 at h
  refine lv_iload_n hx hb dX0_firstSet_15 rfl (lv_at hl 2 rfl) ?_
  refine lv_aload_n hx hb dX0_firstSet_16 rfl (lv_at hl 0 rfl) ?_
  refine xg_10_0 hx hb hts hown hK hP mw_220 dX0_firstSet_17 ?_
  refine xg_3_4 hx hb hts hown hK hP mw_76 dX0_firstSet_20 ?_
  refine lv_icmp_ge (tgt := 47) hx hb dX0_firstSet_23 (by decide) (fun hc => ?_) (fun hc => ?_)
  · have h := h.1 hc
    refine lv_lconst (v := (1 : Int64)) hx hb dX0_firstSet_47 (by decide) ?_
    refine lv_aload_n hx hb dX0_firstSet_48 rfl (lv_at hl 0 rfl) ?_
    refine xg_10_0 hx hb hts hown hK hP mw_220 dX0_firstSet_49 ?_
    refine xg_3_5 hx hb hts hown hK hP mw_80 dX0_firstSet_52 ?_
    refine lv_lshl hx hb dX0_firstSet_55 rfl ?_
    refine lv_topl (fun v1 ev1 => ?_)
    have h := h v1 ev1
    refine lv_lstore_n (lv' := [(3, .long v1), (0, .ref (ad 10)), (1, .long x1)]) hx hb dX0_firstSet_56 rfl hl (by decide) rfl (fun ls hl => ?_)
    refine lv_lconst (v := (0 : Int64)) hx hb dX0_firstSet_57 (by decide) ?_
    refine lv_lstore (lv' := [(5, .long (0 : Int64)), (3, .long v1), (0, .ref (ad 10)), (1, .long x1)]) hx hb dX0_firstSet_58 hl (by decide) rfl (fun ls hl => ?_)
    exact t_X0_firstSet_60 C0 hK N  N x1 v1 (0 : Int64) σ _ _ _ h hP hD hS (lv_sub hl [2, 3, 1, 0] rfl)
  · have h := h.2 hc
    refine lv_aload_n hx hb dX0_firstSet_26 rfl (lv_at hl 0 rfl) ?_
    refine xg_10_5 hx hb hts hown hK hP mw_225 dX0_firstSet_27 ?_
    refine lv_iload_n hx hb dX0_firstSet_30 rfl (lv_at hl 2 rfl) ?_
    refine lv_aload_n hx hb dX0_firstSet_31 rfl (lv_at hl 0 rfl) ?_
    refine xg_10_2 hx hb hts hown hK hP mw_222 dX0_firstSet_32 ?_
    refine lv_lload_n hx hb dX0_firstSet_35 rfl (lv_at hl 1 rfl) ?_
    refine lv_iload_n hx hb dX0_firstSet_36 rfl (lv_at hl 2 rfl) ?_
    refine k_X10_of N ⟨hx, hb, hml, hown, hts⟩ mw_601 ⟨Nat.le_of_ble_eq_true rfl, Nat.le_of_ble_eq_true rfl⟩ h hK hP hD hS hl.1 (rest := [.int x3, .ref (ad 54)]) (Nat.le_of_ble_eq_true rfl) dX0_firstSet_37 (fun r2 τ3 H locs h hP hD hS => ?_)
    refine xs_54 hx hb hK hP hD hS h.1 rfl dX0_firstSet_40 (fun τ4 H locs eτ4 hP hD hS => ?_)
    have h := h.2
    have h := h τ4 eτ4
    obtain ⟨v5, ev5⟩ : ∃ z : Int32, z = x3 + (1 : Int32) := ⟨_, rfl⟩
    have h := h v5 ev5
    refine lv_iinc (v := v5) (lv' := [(3, .int v5), (0, .ref (ad 10)), (1, .long x1)]) hx hb dX0_firstSet_41 hl (k := 2) rfl (by rw [ev5]; rfl) (by decide) rfl (fun ls hl => ?_)
    refine lv_goto (tgt := 15) hx hb dX0_firstSet_44 (by decide) ?_
    exact hk_15 x1 v5 τ4 _ _ _ h hP hD hS (lv_sub hl [1, 2, 0] rfl)
set_option maxHeartbeats 4000000 in
set_option maxRecDepth 100000 in
theorem t_X0_firstSet_15 (C0 : zCx p s m meth c args RX0 cX0_firstSet 8 (some .boolean) vs_X0_firstSet) (hK : va_K (dC, dI) vwCl (x_ty cI cJ) s) (N : Nat) {Q : Int32 → zSt → Prop} : ∀ (f : Nat) (x1 : Int64) (x3 : Int32) (σ : zSt) (H : Heap) (locs : List Loc) (ls : Array Slot), w_X0_firstSet_15 N  Q f x1 x3 σ → va_P (dC, dI) vwCl (x_W ad cI cJ σ) H → va_D (zAW x_n ad s.heap.size) (x_W ad cI cJ σ) → va_S (zAW x_n ad s.heap.size) s.heap H locs → lv_has ls 8 [(0, .ref (ad 10)), (1, .long x1), (3, .int x3)] → W p l e rm_X0_firstSet s m args below meth c H locs 0 0 (MQ below (zQi (dC, dI) (x_ty cI cJ) (x_W ad cI cJ) (zAW x_n ad s.heap.size) Q) args s 0 0 (zAW x_n ad s.heap.size)) (F0 m 15 ls []) := by
  intro f
  induction f with
  | zero => intro x1 x3 σ H locs ls h; exact h.elim
  | succ f ih =>
    intro x1 x3 σ H locs ls h hP hD hS hl
    exact tb_X0_firstSet_15 C0 hK N  (k_15 := w_X0_firstSet_15 N  Q f) ih x1 x3 σ H locs ls h hP hD hS hl
set_option maxHeartbeats 4000000 in
set_option maxRecDepth 100000 in
theorem t_X0_firstSet_0 (C0 : zCx p s m meth c args RX0 cX0_firstSet 8 (some .boolean) vs_X0_firstSet) (hK : va_K (dC, dI) vwCl (x_ty cI cJ) s) (N : Nat) {Q : Int32 → zSt → Prop} : ∀ (x1 : Int64) (σ : zSt) (H : Heap) (locs : List Loc) (ls : Array Slot), w_X0_firstSet N x1 σ Q → va_P (dC, dI) vwCl (x_W ad cI cJ σ) H → va_D (zAW x_n ad s.heap.size) (x_W ad cI cJ σ) → va_S (zAW x_n ad s.heap.size) s.heap H locs → lv_has ls 8 [(0, .ref (ad 10)), (1, .long x1)] → W p l e rm_X0_firstSet s m args below meth c H locs 0 0 (MQ below (zQi (dC, dI) (x_ty cI cJ) (x_W ad cI cJ) (zAW x_n ad s.heap.size) Q) args s 0 0 (zAW x_n ad s.heap.size)) (F0 m 0 ls []) := by
  obtain ⟨hx, hb, hml, hr, hown, hts, hlocks⟩ := id C0
  intro x1 σ H locs ls h hP hD hS hl
  unfold w_X0_firstSet at h
  refine lv_aload_n hx hb dX0_firstSet_0 rfl (lv_at hl 0 rfl) ?_
  refine xg_10_0 hx hb hts hown hK hP mw_220 dX0_firstSet_1 ?_
  refine xg_3_4 hx hb hts hown hK hP mw_76 dX0_firstSet_4 ?_
  refine lv_iconst (v := (5 : Int32)) hx hb dX0_firstSet_7 (by decide) ?_
  refine lv_icmp_le (tgt := 13) hx hb dX0_firstSet_8 (by decide) (fun hc => ?_) (fun hc => ?_)
  · have h := h.1 hc
    refine lv_iconst (v := (0 : Int32)) hx hb dX0_firstSet_13 (by decide) ?_
    refine lv_istore_n (lv' := [(3, .int (0 : Int32)), (0, .ref (ad 10)), (1, .long x1)]) hx hb dX0_firstSet_14 rfl hl (by decide) rfl (fun ls hl => ?_)
    exact t_X0_firstSet_15 C0 hK N  N x1 (0 : Int32) σ _ _ _ h hP hD hS (lv_sub hl [1, 2, 0] rfl)
  · have h := h.2 hc
    refine lv_iconst (v := (0 : Int32)) hx hb dX0_firstSet_11 (by decide) ?_
    exact zret_z hx hb hr hlocks hK hP hD hS zb_0 h dX0_firstSet_12
set_option maxHeartbeats 4000000 in
set_option maxRecDepth 100000 in
theorem c_X0_firstSet (N : Nat) (l : Launch) (dC : Nat → ClassId) (dI : Nat → Nat → Nat) (ad : Nat → Nat) (cI cJ : ClassId) (sz : Nat) (σ : zSt) (x1 : Int64) (Q : Int32 → zSt → Prop) (h : w_X0_firstSet N x1 σ Q) : Met l yX0_firstSet vs_X0_firstSet rm_X0_firstSet (va_Pc [.ref (ad 10), .long x1] (zPc (dC, dI) (x_ty cI cJ) (x_W ad cI cJ) sz σ)) (zQi (dC, dI) (x_ty cI cJ) (x_W ad cI cJ) (zAW x_n ad sz) Q) 0 0 (zAW x_n ad sz) := by
  refine Met.ofW (cc := cX0_firstSet) (maxL := 8) (ret := (some .boolean)) (by decide) rfl ?_
  intro p e s m args below meth c s₁ B hml hv
  obtain ⟨rfl, hsz, hP, hK, hD0⟩ := hv
  subst hsz
  have C0 : zCx p s m meth c _ RX0 cX0_firstSet 8 (some .boolean) vs_X0_firstSet := ⟨B.exec, B.bytes, hml, B.returns, findClass_of_methodNamed B.named, atoms_spec (ws := vs_X0_firstSet) B.pre, B.notSynchronized⟩
  have hD := x_D0 (n0 := s.heap.size) hD0
  have hl := lv_entry ([.ref (ad 10), .long x1]) (n := 8) (Nat.le_of_ble_eq_true rfl)
  rw [lg_entry_eq]
  generalize (lg_sl ([.ref (ad 10), .long x1]) ++ List.replicate (8 - (lg_sl ([.ref (ad 10), .long x1])).length) Slot.unset).toArray = ls at hl ⊢
  exact t_X0_firstSet_0 C0 hK N x1 σ _ _ ls h hP hD va_S.rf hl
theorem k_X0_firstSet (N : Nat) {R : Room} {H : Heap} {locs : List Loc} {Q2 : State → Prop} {cc : ByteArray} {nL pc index : Nat} {ls : Array Slot} {rest : List Value} {own : String} {c0 : Cond} {σ : zSt} {x1 : Int64} {Q : Int32 → zSt → Prop} (S0 : CallFix p m c cc nL s args (c0 :: zT) own) (hml : Cond.methodLink own index yX0_firstSet ∈ zT) (hR : rm_X0_firstSet.frames + 1 ≤ R.frames ∧ 8 + (8 + 11) + rm_X0_firstSet.locals ≤ R.locals) (h : w_X0_firstSet N x1 σ Q) (hK : va_K (dC, dI) vwCl (x_ty cI cJ) s) (hP : va_P (dC, dI) vwCl (x_W ad cI cJ σ) H) (hD : va_D (zAW x_n ad s.heap.size) (x_W ad cI cJ σ)) (hS : va_S (zAW x_n ad s.heap.size) s.heap H locs) (hsz : ls.size = nL) (hW : (rest.map fun v => v.category).sum ≤ 8) (hdg : decode cc pc = .ok (.invokevirtual index, 3)) (kk : ∀ (r : Int32) (τ : zSt) (H1 : Heap) (locs1 : List Loc), Q r τ → va_P (dC, dI) vwCl (x_W ad cI cJ τ) H1 → va_D (zAW x_n ad s.heap.size) (x_W ad cI cJ τ) → va_S (zAW x_n ad s.heap.size) s.heap H1 locs1 → W p l e R s m args below meth c H1 locs1 0 0 Q2 (F0 m (pc + 3) ls (.int r :: rest))) : W p l e R s m args below meth c H locs 0 0 Q2 (F0 m pc ls (.long x1 :: .ref (ad 10) :: rest)) :=
  zcv_i (T := TX0) (N' := 9) (k := 10) (ci := 0) (fs := x_f10 ad σ) [.long x1] S0 (c_X0_firstSet N l dC dI ad cI cJ H.size σ x1 Q h) (cw_X0_firstSet S0.2.2.2.2 hml rfl rfl hR) rfl rfl hK hP hD hS rfl hsz hW rfl hdg kk
end q08
section q08
def vs_X0_endRest : List Cond := .code yX0_endRest cX0_endRest 4 (some .boolean) :: zT
def rm_X0_endRest : Room := { frames := 6, cells := 0, slots := 0, locals := 166 }
theorem cw_X0_endRest {rm R : Room} {s : State} {args : Array Value} {own : String} {index : Nat} {c0 : Cond} (hts : ∀ w ∈ c0 :: zT, w.before args s = true) (hml : Cond.methodLink own index yX0_endRest ∈ zT) (hrc : rm.cells = 0) (hrs : rm.slots = 0) (hR : rm.frames + 1 ≤ R.frames ∧ 8 + (4 + 11) + rm.locals ≤ R.locals) : CallW R s args own RX0 index yX0_endRest cX0_endRest 4 (some .boolean) vs_X0_endRest rm 0 0 2 :=
  zwV 2 hts hml mw_591 mw_592 mw_13 mw_593 hrc hrs (by decide +kernel) hR
def w_X0_endRest (N : Nat) (x1 : Int64) (x3 : Int32) (σ : zSt) (Q : Int32 → zSt → Prop) : Prop :=
  (x3 = (0 : Int32) → w_X0_firstCut N x1 σ (fun r1 τ2 => (zb r1) ∧ Q r1 τ2)) ∧ (¬ x3 = (0 : Int32) → (x3 = (1 : Int32) → w_X0_firstCut N x1 σ (fun r3 τ4 => (r3 = 0 → w_X0_firstAdd N x1 τ4 (fun r5 τ6 => (r5 = 0 → Q (0 : Int32) τ6) ∧ (¬ r5 = 0 → Q (1 : Int32) τ6))) ∧ (¬ r3 = 0 → Q (1 : Int32) τ4))) ∧ (¬ x3 = (1 : Int32) → (x3 = (2 : Int32) → w_X0_firstCut N x1 σ (fun r7 τ8 => (r7 = 0 → w_X0_firstAdd N x1 τ8 (fun r9 τ10 => (r9 = 0 → w_X0_firstSeveral N x1 τ10 (fun r11 τ12 => (r11 = 0 → Q (0 : Int32) τ12) ∧ (¬ r11 = 0 → Q (1 : Int32) τ12))) ∧ (¬ r9 = 0 → Q (1 : Int32) τ10))) ∧ (¬ r7 = 0 → Q (1 : Int32) τ8))) ∧ (¬ x3 = (2 : Int32) → (x3 = (3 : Int32) → w_X0_firstCut N x1 σ (fun r13 τ14 => (r13 = 0 → w_X0_firstAdd N x1 τ14 (fun r15 τ16 => (r15 = 0 → w_X0_firstSwap N x1 τ16 (fun r17 τ18 => (r17 = 0 → Q (0 : Int32) τ18) ∧ (¬ r17 = 0 → Q (1 : Int32) τ18))) ∧ (¬ r15 = 0 → Q (1 : Int32) τ16))) ∧ (¬ r13 = 0 → Q (1 : Int32) τ14))) ∧ (¬ x3 = (3 : Int32) → (x3 = (4 : Int32) → w_X0_firstTogether N x1 σ (fun r19 τ20 => (zb r19) ∧ Q r19 τ20)) ∧ (¬ x3 = (4 : Int32) → (x3 = (5 : Int32) → w_X0_firstSet N x1 σ (fun r21 τ22 => (zb r21) ∧ Q r21 τ22)) ∧ (¬ x3 = (5 : Int32) → Q (0 : Int32) σ))))))
variable {p : Program} {l : Launch} {e : Env} {s : State} {m : MethodId} {args : Array Value} {below : List Frame} {meth : Method} {c : Code} {dC : Nat → ClassId} {dI : Nat → Nat → Nat} {ad : Nat → Nat} {cI cJ : ClassId}
set_option maxHeartbeats 4000000 in
set_option maxRecDepth 100000 in
theorem t_X0_endRest_0 (C0 : zCx p s m meth c args RX0 cX0_endRest 4 (some .boolean) vs_X0_endRest) (hK : va_K (dC, dI) vwCl (x_ty cI cJ) s) (N : Nat) {Q : Int32 → zSt → Prop} : ∀ (x1 : Int64) (x3 : Int32) (σ : zSt) (H : Heap) (locs : List Loc) (ls : Array Slot), w_X0_endRest N x1 x3 σ Q → va_P (dC, dI) vwCl (x_W ad cI cJ σ) H → va_D (zAW x_n ad s.heap.size) (x_W ad cI cJ σ) → va_S (zAW x_n ad s.heap.size) s.heap H locs → lv_has ls 4 [(0, .ref (ad 10)), (1, .long x1), (3, .int x3)] → W p l e rm_X0_endRest s m args below meth c H locs 0 0 (MQ below (zQi (dC, dI) (x_ty cI cJ) (x_W ad cI cJ) (zAW x_n ad s.heap.size) Q) args s 0 0 (zAW x_n ad s.heap.size)) (F0 m 0 ls []) := by
  obtain ⟨hx, hb, hml, hr, hown, hts, hlocks⟩ := id C0
  intro x1 x3 σ H locs ls h hP hD hS hl
  unfold w_X0_endRest at h
  refine lv_iload_n hx hb dX0_endRest_0 rfl (lv_at hl 2 rfl) ?_
  by_cases hc0 : x3 = (0 : Int32)
  · have h := h.1 hc0
    refine lv_tableIn (off := 39) (tgt := 40) hx hb dX0_endRest_1 (by rw [hc0]; decide) (by rw [hc0]; decide) (by rw [hc0]; rfl) (by decide) ?_
    refine lv_aload_n hx hb dX0_endRest_40 rfl (lv_at hl 0 rfl) ?_
    refine lv_lload_n hx hb dX0_endRest_41 rfl (lv_at hl 1 rfl) ?_
    refine k_X0_firstCut N ⟨hx, hb, hml, hown, hts⟩ mw_594 ⟨Nat.le_of_ble_eq_true rfl, Nat.le_of_ble_eq_true rfl⟩ h hK hP hD hS hl.1 (rest := []) (Nat.le_of_ble_eq_true rfl) dX0_endRest_42 (fun r1 τ2 H locs h hP hD hS => ?_)
    exact zret_z hx hb hr hlocks hK hP hD hS h.1 h.2 dX0_endRest_45
  · have hn0 := hc0
    have h := h.2 hc0
    by_cases hc1 : x3 = (1 : Int32)
    · have h := h.1 hc1
      refine lv_tableIn (off := 45) (tgt := 46) hx hb dX0_endRest_1 (by rw [hc1]; decide) (by rw [hc1]; decide) (by rw [hc1]; rfl) (by decide) ?_
      refine lv_aload_n hx hb dX0_endRest_46 rfl (lv_at hl 0 rfl) ?_
      refine lv_lload_n hx hb dX0_endRest_47 rfl (lv_at hl 1 rfl) ?_
      refine k_X0_firstCut N ⟨hx, hb, hml, hown, hts⟩ mw_594 ⟨Nat.le_of_ble_eq_true rfl, Nat.le_of_ble_eq_true rfl⟩ h hK hP hD hS hl.1 (rest := []) (Nat.le_of_ble_eq_true rfl) dX0_endRest_48 (fun r3 τ4 H locs h hP hD hS => ?_)
      refine lv_if_ne (tgt := 62) hx hb dX0_endRest_51 (by decide) (fun hc => ?_) (fun hc => ?_)
      · have h := h.2 hc
        refine lv_iconst (v := (1 : Int32)) hx hb dX0_endRest_62 (by decide) ?_
        refine lv_goto (tgt := 67) hx hb dX0_endRest_63 (by decide) ?_
        exact zret_z hx hb hr hlocks hK hP hD hS zb_1 h dX0_endRest_67
      · have h := h.1 hc
        refine lv_aload_n hx hb dX0_endRest_54 rfl (lv_at hl 0 rfl) ?_
        refine lv_lload_n hx hb dX0_endRest_55 rfl (lv_at hl 1 rfl) ?_
        refine k_X0_firstAdd N ⟨hx, hb, hml, hown, hts⟩ mw_605 ⟨Nat.le_of_ble_eq_true rfl, Nat.le_of_ble_eq_true rfl⟩ h hK hP hD hS hl.1 (rest := []) (Nat.le_of_ble_eq_true rfl) dX0_endRest_56 (fun r5 τ6 H locs h hP hD hS => ?_)
        refine lv_if_eq (tgt := 66) hx hb dX0_endRest_59 (by decide) (fun hc => ?_) (fun hc => ?_)
        · have h := h.1 hc
          refine lv_iconst (v := (0 : Int32)) hx hb dX0_endRest_66 (by decide) ?_
          exact zret_z hx hb hr hlocks hK hP hD hS zb_0 h dX0_endRest_67
        · have h := h.2 hc
          refine lv_iconst (v := (1 : Int32)) hx hb dX0_endRest_62 (by decide) ?_
          refine lv_goto (tgt := 67) hx hb dX0_endRest_63 (by decide) ?_
          exact zret_z hx hb hr hlocks hK hP hD hS zb_1 h dX0_endRest_67
    · have hn1 := hc1
      have h := h.2 hc1
      by_cases hc2 : x3 = (2 : Int32)
      · have h := h.1 hc2
        refine lv_tableIn (off := 67) (tgt := 68) hx hb dX0_endRest_1 (by rw [hc2]; decide) (by rw [hc2]; decide) (by rw [hc2]; rfl) (by decide) ?_
        refine lv_aload_n hx hb dX0_endRest_68 rfl (lv_at hl 0 rfl) ?_
        refine lv_lload_n hx hb dX0_endRest_69 rfl (lv_at hl 1 rfl) ?_
        refine k_X0_firstCut N ⟨hx, hb, hml, hown, hts⟩ mw_594 ⟨Nat.le_of_ble_eq_true rfl, Nat.le_of_ble_eq_true rfl⟩ h hK hP hD hS hl.1 (rest := []) (Nat.le_of_ble_eq_true rfl) dX0_endRest_70 (fun r7 τ8 H locs h hP hD hS => ?_)
        refine lv_if_ne (tgt := 92) hx hb dX0_endRest_73 (by decide) (fun hc => ?_) (fun hc => ?_)
        · have h := h.2 hc
          refine lv_iconst (v := (1 : Int32)) hx hb dX0_endRest_92 (by decide) ?_
          refine lv_goto (tgt := 97) hx hb dX0_endRest_93 (by decide) ?_
          exact zret_z hx hb hr hlocks hK hP hD hS zb_1 h dX0_endRest_97
        · have h := h.1 hc
          refine lv_aload_n hx hb dX0_endRest_76 rfl (lv_at hl 0 rfl) ?_
          refine lv_lload_n hx hb dX0_endRest_77 rfl (lv_at hl 1 rfl) ?_
          refine k_X0_firstAdd N ⟨hx, hb, hml, hown, hts⟩ mw_605 ⟨Nat.le_of_ble_eq_true rfl, Nat.le_of_ble_eq_true rfl⟩ h hK hP hD hS hl.1 (rest := []) (Nat.le_of_ble_eq_true rfl) dX0_endRest_78 (fun r9 τ10 H locs h hP hD hS => ?_)
          refine lv_if_ne (tgt := 92) hx hb dX0_endRest_81 (by decide) (fun hc => ?_) (fun hc => ?_)
          · have h := h.2 hc
            refine lv_iconst (v := (1 : Int32)) hx hb dX0_endRest_92 (by decide) ?_
            refine lv_goto (tgt := 97) hx hb dX0_endRest_93 (by decide) ?_
            exact zret_z hx hb hr hlocks hK hP hD hS zb_1 h dX0_endRest_97
          · have h := h.1 hc
            refine lv_aload_n hx hb dX0_endRest_84 rfl (lv_at hl 0 rfl) ?_
            refine lv_lload_n hx hb dX0_endRest_85 rfl (lv_at hl 1 rfl) ?_
            refine k_X0_firstSeveral N ⟨hx, hb, hml, hown, hts⟩ mw_617 ⟨Nat.le_of_ble_eq_true rfl, Nat.le_of_ble_eq_true rfl⟩ h hK hP hD hS hl.1 (rest := []) (Nat.le_of_ble_eq_true rfl) dX0_endRest_86 (fun r11 τ12 H locs h hP hD hS => ?_)
            refine lv_if_eq (tgt := 96) hx hb dX0_endRest_89 (by decide) (fun hc => ?_) (fun hc => ?_)
            · have h := h.1 hc
              refine lv_iconst (v := (0 : Int32)) hx hb dX0_endRest_96 (by decide) ?_
              exact zret_z hx hb hr hlocks hK hP hD hS zb_0 h dX0_endRest_97
            · have h := h.2 hc
              refine lv_iconst (v := (1 : Int32)) hx hb dX0_endRest_92 (by decide) ?_
              refine lv_goto (tgt := 97) hx hb dX0_endRest_93 (by decide) ?_
              exact zret_z hx hb hr hlocks hK hP hD hS zb_1 h dX0_endRest_97
      · have hn2 := hc2
        have h := h.2 hc2
        by_cases hc3 : x3 = (3 : Int32)
        · have h := h.1 hc3
          refine lv_tableIn (off := 97) (tgt := 98) hx hb dX0_endRest_1 (by rw [hc3]; decide) (by rw [hc3]; decide) (by rw [hc3]; rfl) (by decide) ?_
          refine lv_aload_n hx hb dX0_endRest_98 rfl (lv_at hl 0 rfl) ?_
          refine lv_lload_n hx hb dX0_endRest_99 rfl (lv_at hl 1 rfl) ?_
          refine k_X0_firstCut N ⟨hx, hb, hml, hown, hts⟩ mw_594 ⟨Nat.le_of_ble_eq_true rfl, Nat.le_of_ble_eq_true rfl⟩ h hK hP hD hS hl.1 (rest := []) (Nat.le_of_ble_eq_true rfl) dX0_endRest_100 (fun r13 τ14 H locs h hP hD hS => ?_)
          refine lv_if_ne (tgt := 122) hx hb dX0_endRest_103 (by decide) (fun hc => ?_) (fun hc => ?_)
          · have h := h.2 hc
            refine lv_iconst (v := (1 : Int32)) hx hb dX0_endRest_122 (by decide) ?_
            refine lv_goto (tgt := 127) hx hb dX0_endRest_123 (by decide) ?_
            exact zret_z hx hb hr hlocks hK hP hD hS zb_1 h dX0_endRest_127
          · have h := h.1 hc
            refine lv_aload_n hx hb dX0_endRest_106 rfl (lv_at hl 0 rfl) ?_
            refine lv_lload_n hx hb dX0_endRest_107 rfl (lv_at hl 1 rfl) ?_
            refine k_X0_firstAdd N ⟨hx, hb, hml, hown, hts⟩ mw_605 ⟨Nat.le_of_ble_eq_true rfl, Nat.le_of_ble_eq_true rfl⟩ h hK hP hD hS hl.1 (rest := []) (Nat.le_of_ble_eq_true rfl) dX0_endRest_108 (fun r15 τ16 H locs h hP hD hS => ?_)
            refine lv_if_ne (tgt := 122) hx hb dX0_endRest_111 (by decide) (fun hc => ?_) (fun hc => ?_)
            · have h := h.2 hc
              refine lv_iconst (v := (1 : Int32)) hx hb dX0_endRest_122 (by decide) ?_
              refine lv_goto (tgt := 127) hx hb dX0_endRest_123 (by decide) ?_
              exact zret_z hx hb hr hlocks hK hP hD hS zb_1 h dX0_endRest_127
            · have h := h.1 hc
              refine lv_aload_n hx hb dX0_endRest_114 rfl (lv_at hl 0 rfl) ?_
              refine lv_lload_n hx hb dX0_endRest_115 rfl (lv_at hl 1 rfl) ?_
              refine k_X0_firstSwap N ⟨hx, hb, hml, hown, hts⟩ mw_621 ⟨Nat.le_of_ble_eq_true rfl, Nat.le_of_ble_eq_true rfl⟩ h hK hP hD hS hl.1 (rest := []) (Nat.le_of_ble_eq_true rfl) dX0_endRest_116 (fun r17 τ18 H locs h hP hD hS => ?_)
              refine lv_if_eq (tgt := 126) hx hb dX0_endRest_119 (by decide) (fun hc => ?_) (fun hc => ?_)
              · have h := h.1 hc
                refine lv_iconst (v := (0 : Int32)) hx hb dX0_endRest_126 (by decide) ?_
                exact zret_z hx hb hr hlocks hK hP hD hS zb_0 h dX0_endRest_127
              · have h := h.2 hc
                refine lv_iconst (v := (1 : Int32)) hx hb dX0_endRest_122 (by decide) ?_
                refine lv_goto (tgt := 127) hx hb dX0_endRest_123 (by decide) ?_
                exact zret_z hx hb hr hlocks hK hP hD hS zb_1 h dX0_endRest_127
        · have hn3 := hc3
          have h := h.2 hc3
          by_cases hc4 : x3 = (4 : Int32)
          · have h := h.1 hc4
            refine lv_tableIn (off := 127) (tgt := 128) hx hb dX0_endRest_1 (by rw [hc4]; decide) (by rw [hc4]; decide) (by rw [hc4]; rfl) (by decide) ?_
            refine lv_aload_n hx hb dX0_endRest_128 rfl (lv_at hl 0 rfl) ?_
            refine lv_lload_n hx hb dX0_endRest_129 rfl (lv_at hl 1 rfl) ?_
            refine k_X0_firstTogether N ⟨hx, hb, hml, hown, hts⟩ mw_628 ⟨Nat.le_of_ble_eq_true rfl, Nat.le_of_ble_eq_true rfl⟩ h hK hP hD hS hl.1 (rest := []) (Nat.le_of_ble_eq_true rfl) dX0_endRest_130 (fun r19 τ20 H locs h hP hD hS => ?_)
            exact zret_z hx hb hr hlocks hK hP hD hS h.1 h.2 dX0_endRest_133
          · have hn4 := hc4
            have h := h.2 hc4
            by_cases hc5 : x3 = (5 : Int32)
            · have h := h.1 hc5
              refine lv_tableIn (off := 133) (tgt := 134) hx hb dX0_endRest_1 (by rw [hc5]; decide) (by rw [hc5]; decide) (by rw [hc5]; rfl) (by decide) ?_
              refine lv_aload_n hx hb dX0_endRest_134 rfl (lv_at hl 0 rfl) ?_
              refine lv_lload_n hx hb dX0_endRest_135 rfl (lv_at hl 1 rfl) ?_
              refine k_X0_firstSet N ⟨hx, hb, hml, hown, hts⟩ mw_631 ⟨Nat.le_of_ble_eq_true rfl, Nat.le_of_ble_eq_true rfl⟩ h hK hP hD hS hl.1 (rest := []) (Nat.le_of_ble_eq_true rfl) dX0_endRest_136 (fun r21 τ22 H locs h hP hD hS => ?_)
              exact zret_z hx hb hr hlocks hK hP hD hS h.1 h.2 dX0_endRest_139
            · have hn5 := hc5
              have h := h.2 hc5
              refine lv_tableOut (tgt := 140) hx hb dX0_endRest_1 (by have e0 := zne (k := 0) (by decide) hn0; have e1 := zne (k := 1) (by decide) hn1; have e2 := zne (k := 2) (by decide) hn2; have e3 := zne (k := 3) (by decide) hn3; have e4 := zne (k := 4) (by decide) hn4; have e5 := zne (k := 5) (by decide) hn5; omega) (by decide) ?_
              refine lv_iconst (v := (0 : Int32)) hx hb dX0_endRest_140 (by decide) ?_
              exact zret_z hx hb hr hlocks hK hP hD hS zb_0 h dX0_endRest_141
set_option maxHeartbeats 4000000 in
set_option maxRecDepth 100000 in
theorem c_X0_endRest (N : Nat) (l : Launch) (dC : Nat → ClassId) (dI : Nat → Nat → Nat) (ad : Nat → Nat) (cI cJ : ClassId) (sz : Nat) (σ : zSt) (x1 : Int64) (x3 : Int32) (Q : Int32 → zSt → Prop) (h : w_X0_endRest N x1 x3 σ Q) : Met l yX0_endRest vs_X0_endRest rm_X0_endRest (va_Pc [.ref (ad 10), .long x1, .int x3] (zPc (dC, dI) (x_ty cI cJ) (x_W ad cI cJ) sz σ)) (zQi (dC, dI) (x_ty cI cJ) (x_W ad cI cJ) (zAW x_n ad sz) Q) 0 0 (zAW x_n ad sz) := by
  refine Met.ofW (cc := cX0_endRest) (maxL := 4) (ret := (some .boolean)) (by decide) rfl ?_
  intro p e s m args below meth c s₁ B hml hv
  obtain ⟨rfl, hsz, hP, hK, hD0⟩ := hv
  subst hsz
  have C0 : zCx p s m meth c _ RX0 cX0_endRest 4 (some .boolean) vs_X0_endRest := ⟨B.exec, B.bytes, hml, B.returns, findClass_of_methodNamed B.named, atoms_spec (ws := vs_X0_endRest) B.pre, B.notSynchronized⟩
  have hD := x_D0 (n0 := s.heap.size) hD0
  have hl := lv_entry ([.ref (ad 10), .long x1, .int x3]) (n := 4) (Nat.le_of_ble_eq_true rfl)
  rw [lg_entry_eq]
  generalize (lg_sl ([.ref (ad 10), .long x1, .int x3]) ++ List.replicate (4 - (lg_sl ([.ref (ad 10), .long x1, .int x3])).length) Slot.unset).toArray = ls at hl ⊢
  exact t_X0_endRest_0 C0 hK N x1 x3 σ _ _ ls h hP hD va_S.rf hl
theorem k_X0_endRest (N : Nat) {R : Room} {H : Heap} {locs : List Loc} {Q2 : State → Prop} {cc : ByteArray} {nL pc index : Nat} {ls : Array Slot} {rest : List Value} {own : String} {c0 : Cond} {σ : zSt} {x1 : Int64} {x3 : Int32} {Q : Int32 → zSt → Prop} (S0 : CallFix p m c cc nL s args (c0 :: zT) own) (hml : Cond.methodLink own index yX0_endRest ∈ zT) (hR : rm_X0_endRest.frames + 1 ≤ R.frames ∧ 8 + (4 + 11) + rm_X0_endRest.locals ≤ R.locals) (h : w_X0_endRest N x1 x3 σ Q) (hK : va_K (dC, dI) vwCl (x_ty cI cJ) s) (hP : va_P (dC, dI) vwCl (x_W ad cI cJ σ) H) (hD : va_D (zAW x_n ad s.heap.size) (x_W ad cI cJ σ)) (hS : va_S (zAW x_n ad s.heap.size) s.heap H locs) (hsz : ls.size = nL) (hW : (rest.map fun v => v.category).sum ≤ 8) (hdg : decode cc pc = .ok (.invokevirtual index, 3)) (kk : ∀ (r : Int32) (τ : zSt) (H1 : Heap) (locs1 : List Loc), Q r τ → va_P (dC, dI) vwCl (x_W ad cI cJ τ) H1 → va_D (zAW x_n ad s.heap.size) (x_W ad cI cJ τ) → va_S (zAW x_n ad s.heap.size) s.heap H1 locs1 → W p l e R s m args below meth c H1 locs1 0 0 Q2 (F0 m (pc + 3) ls (.int r :: rest))) : W p l e R s m args below meth c H locs 0 0 Q2 (F0 m pc ls (.int x3 :: .long x1 :: .ref (ad 10) :: rest)) :=
  zcv_i (T := TX0) (N' := 9) (k := 10) (ci := 0) (fs := x_f10 ad σ) [.long x1, .int x3] S0 (c_X0_endRest N l dC dI ad cI cJ H.size σ x1 x3 Q h) (cw_X0_endRest S0.2.2.2.2 hml rfl rfl hR) rfl rfl hK hP hD hS rfl hsz hW rfl hdg kk
end q08
section q08
def vs_X11_rest : List Cond := .code yX11_rest cX11_rest 2 (some .int) :: zT
def rm_X11_rest : Room := { frames := 7, cells := 0, slots := 0, locals := 189 }
theorem cw_X11_rest {rm R : Room} {s : State} {args : Array Value} {own : String} {index : Nat} {c0 : Cond} (hts : ∀ w ∈ c0 :: zT, w.before args s = true) (hml : Cond.methodLink own index yX11_rest ∈ zT) (hrc : rm.cells = 0) (hrs : rm.slots = 0) (hR : rm.frames + 1 ≤ R.frames ∧ 8 + (2 + 11) + rm.locals ≤ R.locals) : CallW R s args own RX11 index yX11_rest cX11_rest 2 (some .int) vs_X11_rest rm 0 0 1 :=
  zwV 1 hts hml mw_584 mw_585 mw_1 mw_586 hrc hrs (by decide +kernel) hR
def b_X11_rest_25 (N : Nat) (Q : Int32 → zSt → Prop) (x1 : Int32) (σ : zSt) : Prop :=
  w_X0_endRest N (σ.2.1 0) x1 σ (fun r1 τ2 => (r1 = 0 → Q (1 : Int32) τ2) ∧ (¬ r1 = 0 → ∀ τ3 : zSt, τ3 = zB τ2 0 (vp_updL (τ2.2.2.2 0) 0 (τ2.1 28).toInt64) → ∀ τ4 : zSt, τ4 = zB τ3 0 (vp_updL (τ3.2.2.2 0) 1 (τ3.1 29).toInt64) → ∀ τ5 : zSt, τ5 = zB τ4 0 (vp_updL (τ4.2.2.2 0) 2 (τ4.2.1 5)) → Q (0 : Int32) τ5))
def w_X11_rest (N : Nat) (x1 : Int32) (σ : zSt) (Q : Int32 → zSt → Prop) : Prop :=
  w_X11_isKind N x1 σ (fun r1 τ2 => (r1 = 0 → Q (-1 : Int32) τ2) ∧ (¬ r1 = 0 → (x1 = (5 : Int32) → ((τ2.1 1) ≤ (5 : Int32) → b_X11_rest_25 N Q x1 τ2) ∧ (¬ (τ2.1 1) ≤ (5 : Int32) → Q (-1 : Int32) τ2)) ∧ (¬ x1 = (5 : Int32) → b_X11_rest_25 N Q x1 τ2)))
variable {p : Program} {l : Launch} {e : Env} {s : State} {m : MethodId} {args : Array Value} {below : List Frame} {meth : Method} {c : Code} {dC : Nat → ClassId} {dI : Nat → Nat → Nat} {ad : Nat → Nat} {cI cJ : ClassId}
set_option maxHeartbeats 4000000 in
set_option maxRecDepth 100000 in
theorem t_X11_rest_25 (C0 : zCx p s m meth c args RX11 cX11_rest 2 (some .int) vs_X11_rest) (hK : va_K (dC, dI) vwCl (x_ty cI cJ) s) (N : Nat) {Q : Int32 → zSt → Prop} : ∀ (x1 : Int32) (σ : zSt) (H : Heap) (locs : List Loc) (ls : Array Slot), b_X11_rest_25 N  Q x1 σ → va_P (dC, dI) vwCl (x_W ad cI cJ σ) H → va_D (zAW x_n ad s.heap.size) (x_W ad cI cJ σ) → va_S (zAW x_n ad s.heap.size) s.heap H locs → lv_has ls 2 [(0, .ref (ad 0)), (1, .int x1)] → W p l e rm_X11_rest s m args below meth c H locs 0 0 (MQ below (zQi (dC, dI) (x_ty cI cJ) (x_W ad cI cJ) (zAW x_n ad s.heap.size) Q) args s 0 0 (zAW x_n ad s.heap.size)) (F0 m 25 ls []) := by
  obtain ⟨hx, hb, hml, hr, hown, hts, hlocks⟩ := id C0
  intro x1 σ H locs ls h hP hD hS hl
  unfold b_X11_rest_25 at h
  refine lv_aload_n hx hb dX11_rest_25 rfl (lv_at hl 0 rfl) ?_
  refine xg_0_6 hx hb hts hown hK hP mw_295 dX11_rest_26 ?_
  refine lv_aload_n hx hb dX11_rest_29 rfl (lv_at hl 0 rfl) ?_
  refine xg_0_15 hx hb hts hown hK hP mw_304 dX11_rest_30 ?_
  refine lv_iload_n hx hb dX11_rest_33 rfl (lv_at hl 1 rfl) ?_
  refine k_X0_endRest N ⟨hx, hb, hml, hown, hts⟩ mw_590 ⟨Nat.le_of_ble_eq_true rfl, Nat.le_of_ble_eq_true rfl⟩ h hK hP hD hS hl.1 (rest := []) (Nat.le_of_ble_eq_true rfl) dX11_rest_34 (fun r1 τ2 H locs h hP hD hS => ?_)
  refine lv_if_ne (tgt := 42) hx hb dX11_rest_37 (by decide) (fun hc => ?_) (fun hc => ?_)
  · have h := h.2 hc
    refine lv_aload_n hx hb dX11_rest_42 rfl (lv_at hl 0 rfl) ?_
    refine xg_0_13 hx hb hts hown hK hP mw_302 dX11_rest_43 ?_
    refine lv_iconst (v := (0 : Int32)) hx hb dX11_rest_46 (by decide) ?_
    refine lv_aload_n hx hb dX11_rest_47 rfl (lv_at hl 0 rfl) ?_
    refine xg_0_6 hx hb hts hown hK hP mw_295 dX11_rest_48 ?_
    refine xg_10_6 hx hb hts hown hK hP mw_227 dX11_rest_51 ?_
    refine lv_i2l hx hb dX11_rest_54 rfl ?_
    refine xs_17 (j := 0) hx hb hK hP hD hS (zin (by decide)) (by decide) dX11_rest_55 (fun τ3 H locs eτ3 hP hD hS => ?_)
    have h := h τ3 eτ3
    refine lv_aload_n hx hb dX11_rest_56 rfl (lv_at hl 0 rfl) ?_
    refine xg_0_13 hx hb hts hown hK hP mw_302 dX11_rest_57 ?_
    refine lv_iconst (v := (1 : Int32)) hx hb dX11_rest_60 (by decide) ?_
    refine lv_aload_n hx hb dX11_rest_61 rfl (lv_at hl 0 rfl) ?_
    refine xg_0_6 hx hb hts hown hK hP mw_295 dX11_rest_62 ?_
    refine xg_10_7 hx hb hts hown hK hP mw_229 dX11_rest_65 ?_
    refine lv_i2l hx hb dX11_rest_68 rfl ?_
    refine xs_17 (j := 1) hx hb hK hP hD hS (zin (by decide)) (by decide) dX11_rest_69 (fun τ4 H locs eτ4 hP hD hS => ?_)
    have h := h τ4 eτ4
    refine lv_aload_n hx hb dX11_rest_70 rfl (lv_at hl 0 rfl) ?_
    refine xg_0_13 hx hb hts hown hK hP mw_302 dX11_rest_71 ?_
    refine lv_iconst (v := (2 : Int32)) hx hb dX11_rest_74 (by decide) ?_
    refine lv_aload_n hx hb dX11_rest_75 rfl (lv_at hl 0 rfl) ?_
    refine xg_0_6 hx hb hts hown hK hP mw_295 dX11_rest_76 ?_
    refine xg_10_8 hx hb hts hown hK hP mw_231 dX11_rest_79 ?_
    refine xs_17 (j := 2) hx hb hK hP hD hS (zin (by decide)) (by decide) dX11_rest_82 (fun τ5 H locs eτ5 hP hD hS => ?_)
    have h := h τ5 eτ5
    refine lv_iconst (v := (0 : Int32)) hx hb dX11_rest_83 (by decide) ?_
    exact zret_i hx hb hr hlocks hK hP hD hS h dX11_rest_84
  · have h := h.1 hc
    refine lv_iconst (v := (1 : Int32)) hx hb dX11_rest_40 (by decide) ?_
    exact zret_i hx hb hr hlocks hK hP hD hS h dX11_rest_41
set_option maxHeartbeats 4000000 in
set_option maxRecDepth 100000 in
theorem t_X11_rest_0 (C0 : zCx p s m meth c args RX11 cX11_rest 2 (some .int) vs_X11_rest) (hK : va_K (dC, dI) vwCl (x_ty cI cJ) s) (N : Nat) {Q : Int32 → zSt → Prop} : ∀ (x1 : Int32) (σ : zSt) (H : Heap) (locs : List Loc) (ls : Array Slot), w_X11_rest N x1 σ Q → va_P (dC, dI) vwCl (x_W ad cI cJ σ) H → va_D (zAW x_n ad s.heap.size) (x_W ad cI cJ σ) → va_S (zAW x_n ad s.heap.size) s.heap H locs → lv_has ls 2 [(0, .ref (ad 0)), (1, .int x1)] → W p l e rm_X11_rest s m args below meth c H locs 0 0 (MQ below (zQi (dC, dI) (x_ty cI cJ) (x_W ad cI cJ) (zAW x_n ad s.heap.size) Q) args s 0 0 (zAW x_n ad s.heap.size)) (F0 m 0 ls []) := by
  obtain ⟨hx, hb, hml, hr, hown, hts, hlocks⟩ := id C0
  intro x1 σ H locs ls h hP hD hS hl
  unfold w_X11_rest at h
  refine lv_iload_n hx hb dX11_rest_0 rfl (lv_at hl 1 rfl) ?_
  refine k_X11_isKind N ⟨hx, hb, hml, hown, hts⟩ mw_587 ⟨Nat.le_of_ble_eq_true rfl, Nat.le_of_ble_eq_true rfl⟩ h hK hP hD hS hl.1 (rest := []) (Nat.le_of_ble_eq_true rfl) dX11_rest_1 (fun r1 τ2 H locs h hP hD hS => ?_)
  refine lv_if_eq (tgt := 23) hx hb dX11_rest_4 (by decide) (fun hc => ?_) (fun hc => ?_)
  · have h := h.1 hc
    refine lv_iconst (v := (-1 : Int32)) hx hb dX11_rest_23 (by decide) ?_
    exact zret_i hx hb hr hlocks hK hP hD hS h dX11_rest_24
  · have h := h.2 hc
    refine lv_iload_n hx hb dX11_rest_7 rfl (lv_at hl 1 rfl) ?_
    refine lv_iconst (v := (5 : Int32)) hx hb dX11_rest_8 (by decide) ?_
    refine lv_icmp_ne (tgt := 25) hx hb dX11_rest_9 (by decide) (fun hc => ?_) (fun hc => ?_)
    · have h := h.2 hc
      exact t_X11_rest_25 C0 hK N  x1 τ2 _ _ _ h hP hD hS (lv_sub hl [0, 1] rfl)
    · have h := h.1 hc
      refine lv_aload_n hx hb dX11_rest_12 rfl (lv_at hl 0 rfl) ?_
      refine xg_0_2 hx hb hts hown hK hP mw_291 dX11_rest_13 ?_
      refine xg_3_4 hx hb hts hown hK hP mw_75 dX11_rest_16 ?_
      refine lv_iconst (v := (5 : Int32)) hx hb dX11_rest_19 (by decide) ?_
      refine lv_icmp_le (tgt := 25) hx hb dX11_rest_20 (by decide) (fun hc => ?_) (fun hc => ?_)
      · have h := h.1 hc
        exact t_X11_rest_25 C0 hK N  x1 τ2 _ _ _ h hP hD hS (lv_sub hl [0, 1] rfl)
      · have h := h.2 hc
        refine lv_iconst (v := (-1 : Int32)) hx hb dX11_rest_23 (by decide) ?_
        exact zret_i hx hb hr hlocks hK hP hD hS h dX11_rest_24
set_option maxHeartbeats 4000000 in
set_option maxRecDepth 100000 in
theorem c_X11_rest (N : Nat) (l : Launch) (dC : Nat → ClassId) (dI : Nat → Nat → Nat) (ad : Nat → Nat) (cI cJ : ClassId) (sz : Nat) (σ : zSt) (x1 : Int32) (Q : Int32 → zSt → Prop) (h : w_X11_rest N x1 σ Q) : Met l yX11_rest vs_X11_rest rm_X11_rest (va_Pc [.ref (ad 0), .int x1] (zPc (dC, dI) (x_ty cI cJ) (x_W ad cI cJ) sz σ)) (zQi (dC, dI) (x_ty cI cJ) (x_W ad cI cJ) (zAW x_n ad sz) Q) 0 0 (zAW x_n ad sz) := by
  refine Met.ofW (cc := cX11_rest) (maxL := 2) (ret := (some .int)) (by decide) rfl ?_
  intro p e s m args below meth c s₁ B hml hv
  obtain ⟨rfl, hsz, hP, hK, hD0⟩ := hv
  subst hsz
  have C0 : zCx p s m meth c _ RX11 cX11_rest 2 (some .int) vs_X11_rest := ⟨B.exec, B.bytes, hml, B.returns, findClass_of_methodNamed B.named, atoms_spec (ws := vs_X11_rest) B.pre, B.notSynchronized⟩
  have hD := x_D0 (n0 := s.heap.size) hD0
  have hl := lv_entry ([.ref (ad 0), .int x1]) (n := 2) (Nat.le_of_ble_eq_true rfl)
  rw [lg_entry_eq]
  generalize (lg_sl ([.ref (ad 0), .int x1]) ++ List.replicate (2 - (lg_sl ([.ref (ad 0), .int x1])).length) Slot.unset).toArray = ls at hl ⊢
  exact t_X11_rest_0 C0 hK N x1 σ _ _ ls h hP hD va_S.rf hl
theorem k_X11_rest (N : Nat) {R : Room} {H : Heap} {locs : List Loc} {Q2 : State → Prop} {cc : ByteArray} {nL pc index : Nat} {ls : Array Slot} {rest : List Value} {own : String} {c0 : Cond} {σ : zSt} {x1 : Int32} {Q : Int32 → zSt → Prop} (S0 : CallFix p m c cc nL s args (c0 :: zT) own) (hml : Cond.methodLink own index yX11_rest ∈ zT) (hR : rm_X11_rest.frames + 1 ≤ R.frames ∧ 8 + (2 + 11) + rm_X11_rest.locals ≤ R.locals) (h : w_X11_rest N x1 σ Q) (hK : va_K (dC, dI) vwCl (x_ty cI cJ) s) (hP : va_P (dC, dI) vwCl (x_W ad cI cJ σ) H) (hD : va_D (zAW x_n ad s.heap.size) (x_W ad cI cJ σ)) (hS : va_S (zAW x_n ad s.heap.size) s.heap H locs) (hsz : ls.size = nL) (hW : (rest.map fun v => v.category).sum ≤ 8) (hdg : decode cc pc = .ok (.invokevirtual index, 3)) (kk : ∀ (r : Int32) (τ : zSt) (H1 : Heap) (locs1 : List Loc), Q r τ → va_P (dC, dI) vwCl (x_W ad cI cJ τ) H1 → va_D (zAW x_n ad s.heap.size) (x_W ad cI cJ τ) → va_S (zAW x_n ad s.heap.size) s.heap H1 locs1 → W p l e R s m args below meth c H1 locs1 0 0 Q2 (F0 m (pc + 3) ls (.int r :: rest))) : W p l e R s m args below meth c H locs 0 0 Q2 (F0 m pc ls (.int x1 :: .ref (ad 0) :: rest)) :=
  zcv_i (T := TX11) (N' := 17) (k := 0) (ci := 11) (fs := x_f0 ad σ) [.int x1] S0 (c_X11_rest N l dC dI ad cI cJ H.size σ x1 Q h) (cw_X11_rest S0.2.2.2.2 hml rfl rfl hR) rfl rfl hK hP hD hS rfl hsz hW rfl hdg kk
end q08
section q08
def vs_X11_bars : List Cond := .code yX11_bars cX11_bars 2 (some .long) :: zT
def rm_X11_bars : Room := { frames := 0, cells := 0, slots := 0, locals := 0 }
theorem cw_X11_bars {rm R : Room} {s : State} {args : Array Value} {own : String} {index : Nat} {c0 : Cond} (hts : ∀ w ∈ c0 :: zT, w.before args s = true) (hml : Cond.methodLink own index yX11_bars ∈ zT) (hrc : rm.cells = 0) (hrs : rm.slots = 0) (hR : rm.frames + 1 ≤ R.frames ∧ 8 + (2 + 11) + rm.locals ≤ R.locals) : CallW R s args own RX11 index yX11_bars cX11_bars 2 (some .long) vs_X11_bars rm 0 0 1 :=
  zwV 1 hts hml mw_641 mw_642 mw_1 mw_643 hrc hrs (by decide +kernel) hR
def w_X11_bars (N : Nat) (x1 : Int32) (σ : zSt) (Q : Int64 → zSt → Prop) : Prop :=
  (x1 < 0 → Q (-1 : Int64) σ) ∧ (¬ x1 < 0 → ((3 : Int32) ≤ x1 → Q (-1 : Int64) σ) ∧ (¬ (3 : Int32) ≤ x1 → (vp_in x1 3) ∧ (Q (σ.2.2.2 0 x1.toNatClampNeg) σ)))
variable {p : Program} {l : Launch} {e : Env} {s : State} {m : MethodId} {args : Array Value} {below : List Frame} {meth : Method} {c : Code} {dC : Nat → ClassId} {dI : Nat → Nat → Nat} {ad : Nat → Nat} {cI cJ : ClassId}
set_option maxHeartbeats 4000000 in
set_option maxRecDepth 100000 in
theorem t_X11_bars_0 (C0 : zCx p s m meth c args RX11 cX11_bars 2 (some .long) vs_X11_bars) (hK : va_K (dC, dI) vwCl (x_ty cI cJ) s) (N : Nat) {Q : Int64 → zSt → Prop} : ∀ (x1 : Int32) (σ : zSt) (H : Heap) (locs : List Loc) (ls : Array Slot), w_X11_bars N x1 σ Q → va_P (dC, dI) vwCl (x_W ad cI cJ σ) H → va_D (zAW x_n ad s.heap.size) (x_W ad cI cJ σ) → va_S (zAW x_n ad s.heap.size) s.heap H locs → lv_has ls 2 [(0, .ref (ad 0)), (1, .int x1)] → W p l e rm_X11_bars s m args below meth c H locs 0 0 (MQ below (zQl (dC, dI) (x_ty cI cJ) (x_W ad cI cJ) (zAW x_n ad s.heap.size) Q) args s 0 0 (zAW x_n ad s.heap.size)) (F0 m 0 ls []) := by
  obtain ⟨hx, hb, hml, hr, hown, hts, hlocks⟩ := id C0
  intro x1 σ H locs ls h hP hD hS hl
  unfold w_X11_bars at h
  refine lv_iload_n hx hb dX11_bars_0 rfl (lv_at hl 1 rfl) ?_
  refine lv_if_lt (tgt := 22) hx hb dX11_bars_1 (by decide) (fun hc => ?_) (fun hc => ?_)
  · have h := h.1 hc
    refine lv_ldc2 (v := (-1 : Int64)) hx hb hown (hts _ (List.mem_cons_of_mem _ mw_275)) dX11_bars_22 ?_
    exact zret_l hx hb hr hlocks hK hP hD hS h dX11_bars_25
  · have h := h.2 hc
    refine lv_iload_n hx hb dX11_bars_4 rfl (lv_at hl 1 rfl) ?_
    refine lv_aload_n hx hb dX11_bars_5 rfl (lv_at hl 0 rfl) ?_
    refine xg_0_13 hx hb hts hown hK hP mw_302 dX11_bars_6 ?_
    refine xl_17 hx hb hK hP dX11_bars_9 ?_
    refine lv_icmp_ge (tgt := 22) hx hb dX11_bars_10 (by decide) (fun hc => ?_) (fun hc => ?_)
    · have h := h.1 hc
      refine lv_ldc2 (v := (-1 : Int64)) hx hb hown (hts _ (List.mem_cons_of_mem _ mw_275)) dX11_bars_22 ?_
      exact zret_l hx hb hr hlocks hK hP hD hS h dX11_bars_25
    · have h := h.2 hc
      refine lv_aload_n hx hb dX11_bars_13 rfl (lv_at hl 0 rfl) ?_
      refine xg_0_13 hx hb hts hown hK hP mw_302 dX11_bars_14 ?_
      refine lv_iload_n hx hb dX11_bars_17 rfl (lv_at hl 1 rfl) ?_
      refine xa_17 hx hb hK hP h.1 rfl dX11_bars_18 ?_
      have h := h.2
      refine lv_goto (tgt := 25) hx hb dX11_bars_19 (by decide) ?_
      exact zret_l hx hb hr hlocks hK hP hD hS h dX11_bars_25
set_option maxHeartbeats 4000000 in
set_option maxRecDepth 100000 in
theorem c_X11_bars (N : Nat) (l : Launch) (dC : Nat → ClassId) (dI : Nat → Nat → Nat) (ad : Nat → Nat) (cI cJ : ClassId) (sz : Nat) (σ : zSt) (x1 : Int32) (Q : Int64 → zSt → Prop) (h : w_X11_bars N x1 σ Q) : Met l yX11_bars vs_X11_bars rm_X11_bars (va_Pc [.ref (ad 0), .int x1] (zPc (dC, dI) (x_ty cI cJ) (x_W ad cI cJ) sz σ)) (zQl (dC, dI) (x_ty cI cJ) (x_W ad cI cJ) (zAW x_n ad sz) Q) 0 0 (zAW x_n ad sz) := by
  refine Met.ofW (cc := cX11_bars) (maxL := 2) (ret := (some .long)) (by decide) rfl ?_
  intro p e s m args below meth c s₁ B hml hv
  obtain ⟨rfl, hsz, hP, hK, hD0⟩ := hv
  subst hsz
  have C0 : zCx p s m meth c _ RX11 cX11_bars 2 (some .long) vs_X11_bars := ⟨B.exec, B.bytes, hml, B.returns, findClass_of_methodNamed B.named, atoms_spec (ws := vs_X11_bars) B.pre, B.notSynchronized⟩
  have hD := x_D0 (n0 := s.heap.size) hD0
  have hl := lv_entry ([.ref (ad 0), .int x1]) (n := 2) (Nat.le_of_ble_eq_true rfl)
  rw [lg_entry_eq]
  generalize (lg_sl ([.ref (ad 0), .int x1]) ++ List.replicate (2 - (lg_sl ([.ref (ad 0), .int x1])).length) Slot.unset).toArray = ls at hl ⊢
  exact t_X11_bars_0 C0 hK N x1 σ _ _ ls h hP hD va_S.rf hl
theorem k_X11_bars (N : Nat) {R : Room} {H : Heap} {locs : List Loc} {Q2 : State → Prop} {cc : ByteArray} {nL pc index : Nat} {ls : Array Slot} {rest : List Value} {own : String} {c0 : Cond} {σ : zSt} {x1 : Int32} {Q : Int64 → zSt → Prop} (S0 : CallFix p m c cc nL s args (c0 :: zT) own) (hml : Cond.methodLink own index yX11_bars ∈ zT) (hR : rm_X11_bars.frames + 1 ≤ R.frames ∧ 8 + (2 + 11) + rm_X11_bars.locals ≤ R.locals) (h : w_X11_bars N x1 σ Q) (hK : va_K (dC, dI) vwCl (x_ty cI cJ) s) (hP : va_P (dC, dI) vwCl (x_W ad cI cJ σ) H) (hD : va_D (zAW x_n ad s.heap.size) (x_W ad cI cJ σ)) (hS : va_S (zAW x_n ad s.heap.size) s.heap H locs) (hsz : ls.size = nL) (hW : (rest.map fun v => v.category).sum ≤ 8) (hdg : decode cc pc = .ok (.invokevirtual index, 3)) (kk : ∀ (r : Int64) (τ : zSt) (H1 : Heap) (locs1 : List Loc), Q r τ → va_P (dC, dI) vwCl (x_W ad cI cJ τ) H1 → va_D (zAW x_n ad s.heap.size) (x_W ad cI cJ τ) → va_S (zAW x_n ad s.heap.size) s.heap H1 locs1 → W p l e R s m args below meth c H1 locs1 0 0 Q2 (F0 m (pc + 3) ls (.long r :: rest))) : W p l e R s m args below meth c H locs 0 0 Q2 (F0 m pc ls (.int x1 :: .ref (ad 0) :: rest)) :=
  zcv_l (T := TX11) (N' := 17) (k := 0) (ci := 11) (fs := x_f0 ad σ) [.int x1] S0 (c_X11_bars N l dC dI ad cI cJ H.size σ x1 Q h) (cw_X11_bars S0.2.2.2.2 hml rfl rfl hR) rfl rfl hK hP hD hS rfl hsz hW rfl hdg kk
end q08
section q08
def vs_X9_drawnPair : List Cond := .code yX9_drawnPair cX9_drawnPair 7 (some .int) :: zT
def rm_X9_drawnPair : Room := { frames := 5, cells := 0, slots := 0, locals := 143 }
theorem cw_X9_drawnPair {rm R : Room} {s : State} {args : Array Value} {own : String} {index : Nat} {c0 : Cond} (hts : ∀ w ∈ c0 :: zT, w.before args s = true) (hml : Cond.methodLink own index yX9_drawnPair ∈ zT) (hrc : rm.cells = 0) (hrs : rm.slots = 0) (hR : rm.frames + 1 ≤ R.frames ∧ 8 + (7 + 11) + rm.locals ≤ R.locals) : CallW R s args own RX9 index yX9_drawnPair cX9_drawnPair 7 (some .int) vs_X9_drawnPair rm 0 0 2 :=
  zwV 2 hts hml mw_654 mw_655 mw_14 mw_656 hrc hrs (by decide +kernel) hR
def b_X9_drawnPair_6 (N : Nat) (k_6 : Int64 → Int32 → Int32 → Int32 → zSt → Prop) (Q : Int32 → zSt → Prop) (x1 : Int64) (x3 : Int32) (x4 : Int32) (x5 : Int32) (σ : zSt) : Prop :=
  ((σ.1 2) ≤ x5 → (x4 = 0 → Q (-1 : Int32) σ) ∧ (¬ x4 = 0 → ∀ v1 : Int64, v1 = (((1103515245 : Int64) * x3.toInt64) + (12345 : Int64)) - (((1103515245 : Int64) * x3.toInt64) + (12345 : Int64)) / (2147483648 : Int64) * (2147483648 : Int64) → (¬ x4.toInt64 = 0) ∧ ((vp_in ((v1 / (256 : Int64)) - (v1 / (256 : Int64)) / x4.toInt64 * x4.toInt64).toInt32 45) ∧ (Q (σ.2.2.1 30 ((v1 / (256 : Int64)) - (v1 / (256 : Int64)) / x4.toInt64 * x4.toInt64).toInt32.toNatClampNeg) σ)))) ∧ (¬ (σ.1 2) ≤ x5 → w_X0_moves N x1 x5 σ (fun r2 τ3 => (r2 = 0 → ∀ v4 : Int32, v4 = x5 + (1 : Int32) → k_6 x1 x3 x4 v4 τ3) ∧ (¬ r2 = 0 → (vp_in x4 45) ∧ (∀ τ5 : zSt, τ5 = zA τ3 30 (upd (τ3.2.2.1 30) (x4.toNatClampNeg) x5) → ∀ v6 : Int32, v6 = x4 + (1 : Int32) → ∀ v7 : Int32, v7 = x5 + (1 : Int32) → k_6 x1 x3 v6 v7 τ5))))
def w_X9_drawnPair_6 (N : Nat) (Q : Int32 → zSt → Prop) : Nat → Int64 → Int32 → Int32 → Int32 → zSt → Prop
  | 0 => fun _ _ _ _ _ => False
  | f + 1 => b_X9_drawnPair_6 N (w_X9_drawnPair_6 N  Q f) Q
def w_X9_drawnPair (N : Nat) (x1 : Int64) (x3 : Int32) (σ : zSt) (Q : Int32 → zSt → Prop) : Prop :=
  w_X9_drawnPair_6 N Q N x1 x3 (0 : Int32) (0 : Int32) σ
variable {p : Program} {l : Launch} {e : Env} {s : State} {m : MethodId} {args : Array Value} {below : List Frame} {meth : Method} {c : Code} {dC : Nat → ClassId} {dI : Nat → Nat → Nat} {ad : Nat → Nat} {cI cJ : ClassId}
set_option maxHeartbeats 4000000 in
set_option maxRecDepth 100000 in
theorem tb_X9_drawnPair_6 (C0 : zCx p s m meth c args RX9 cX9_drawnPair 7 (some .int) vs_X9_drawnPair) (hK : va_K (dC, dI) vwCl (x_ty cI cJ) s) (N : Nat) {Q : Int32 → zSt → Prop} {k_6 : Int64 → Int32 → Int32 → Int32 → zSt → Prop} (hk_6 : ∀ (x1 : Int64) (x3 : Int32) (x4 : Int32) (x5 : Int32) (σ : zSt) (H : Heap) (locs : List Loc) (ls : Array Slot), k_6 x1 x3 x4 x5 σ → va_P (dC, dI) vwCl (x_W ad cI cJ σ) H → va_D (zAW x_n ad s.heap.size) (x_W ad cI cJ σ) → va_S (zAW x_n ad s.heap.size) s.heap H locs → lv_has ls 7 [(0, .ref (ad 11)), (1, .long x1), (3, .int x3), (4, .int x4), (5, .int x5)] → W p l e rm_X9_drawnPair s m args below meth c H locs 0 0 (MQ below (zQi (dC, dI) (x_ty cI cJ) (x_W ad cI cJ) (zAW x_n ad s.heap.size) Q) args s 0 0 (zAW x_n ad s.heap.size)) (F0 m 6 ls [])) : ∀ (x1 : Int64) (x3 : Int32) (x4 : Int32) (x5 : Int32) (σ : zSt) (H : Heap) (locs : List Loc) (ls : Array Slot), b_X9_drawnPair_6 N k_6 Q x1 x3 x4 x5 σ → va_P (dC, dI) vwCl (x_W ad cI cJ σ) H → va_D (zAW x_n ad s.heap.size) (x_W ad cI cJ σ) → va_S (zAW x_n ad s.heap.size) s.heap H locs → lv_has ls 7 [(0, .ref (ad 11)), (1, .long x1), (3, .int x3), (4, .int x4), (5, .int x5)] → W p l e rm_X9_drawnPair s m args below meth c H locs 0 0 (MQ below (zQi (dC, dI) (x_ty cI cJ) (x_W ad cI cJ) (zAW x_n ad s.heap.size) Q) args s 0 0 (zAW x_n ad s.heap.size)) (F0 m 6 ls []) := by
  obtain ⟨hx, hb, hml, hr, hown, hts, hlocks⟩ := id C0
  intro x1 x3 x4 x5 σ H locs ls h hP hD hS hl
  unfold b_X9_drawnPair_6 at h
  refine lv_iload hx hb dX9_drawnPair_6 (lv_at hl 4 rfl) ?_
  refine lv_aload_n hx hb dX9_drawnPair_8 rfl (lv_at hl 0 rfl) ?_
  refine xg_11_0 hx hb hts hown hK hP mw_238 dX9_drawnPair_9 ?_
  refine xg_3_5 hx hb hts hown hK hP mw_79 dX9_drawnPair_12 ?_
  refine lv_icmp_ge (tgt := 49) hx hb dX9_drawnPair_15 (by decide) (fun hc => ?_) (fun hc => ?_)
  · have h := h.1 hc
    refine lv_iload hx hb dX9_drawnPair_49 (lv_at hl 3 rfl) ?_
    refine lv_if_ne (tgt := 56) hx hb dX9_drawnPair_51 (by decide) (fun hc => ?_) (fun hc => ?_)
    · have h := h.2 hc
      refine lv_ldc2 (v := (1103515245 : Int64)) hx hb hown (hts _ (List.mem_cons_of_mem _ mw_657)) dX9_drawnPair_56 ?_
      refine lv_iload_n hx hb dX9_drawnPair_59 rfl (lv_at hl 2 rfl) ?_
      refine lv_i2l hx hb dX9_drawnPair_60 rfl ?_
      refine lv_lmul hx hb dX9_drawnPair_61 ?_
      refine lv_ldc2 (v := (12345 : Int64)) hx hb hown (hts _ (List.mem_cons_of_mem _ mw_658)) dX9_drawnPair_62 ?_
      refine lv_ladd hx hb dX9_drawnPair_65 ?_
      refine lv_ldc2 (v := (2147483648 : Int64)) hx hb hown (hts _ (List.mem_cons_of_mem _ mw_659)) dX9_drawnPair_66 ?_
      refine lv_lrem hx hb dX9_drawnPair_69 (by decide) ?_
      refine lv_topl (fun v1 ev1 => ?_)
      have h := h v1 ev1
      refine lv_lstore (lv' := [(5, .long v1), (0, .ref (ad 11)), (1, .long x1), (3, .int x3), (4, .int x4)]) hx hb dX9_drawnPair_70 hl (by decide) rfl (fun ls hl => ?_)
      refine lv_aload_n hx hb dX9_drawnPair_72 rfl (lv_at hl 1 rfl) ?_
      refine xg_11_3 hx hb hts hown hK hP mw_241 dX9_drawnPair_73 ?_
      refine lv_lload hx hb dX9_drawnPair_76 (lv_at hl 0 rfl) ?_
      refine lv_ldc2 (v := (256 : Int64)) hx hb hown (hts _ (List.mem_cons_of_mem _ mw_660)) dX9_drawnPair_78 ?_
      refine lv_ldiv hx hb dX9_drawnPair_81 (by decide) ?_
      refine lv_iload hx hb dX9_drawnPair_82 (lv_at hl 4 rfl) ?_
      refine lv_i2l hx hb dX9_drawnPair_84 rfl ?_
      refine lv_lrem hx hb dX9_drawnPair_85 h.1 ?_
      have h := h.2
      refine lv_l2i hx hb dX9_drawnPair_86 rfl ?_
      refine xa_56 hx hb hK hP h.1 rfl dX9_drawnPair_87 ?_
      have h := h.2
      exact zret_i hx hb hr hlocks hK hP hD hS h dX9_drawnPair_88
    · have h := h.1 hc
      refine lv_iconst (v := (-1 : Int32)) hx hb dX9_drawnPair_54 (by decide) ?_
      exact zret_i hx hb hr hlocks hK hP hD hS h dX9_drawnPair_55
  · have h := h.2 hc
    refine lv_aload_n hx hb dX9_drawnPair_18 rfl (lv_at hl 0 rfl) ?_
    refine xg_11_1 hx hb hts hown hK hP mw_239 dX9_drawnPair_19 ?_
    refine lv_lload_n hx hb dX9_drawnPair_22 rfl (lv_at hl 1 rfl) ?_
    refine lv_iload hx hb dX9_drawnPair_23 (lv_at hl 4 rfl) ?_
    refine k_X0_moves N ⟨hx, hb, hml, hown, hts⟩ mw_652 ⟨Nat.le_of_ble_eq_true rfl, Nat.le_of_ble_eq_true rfl⟩ h hK hP hD hS hl.1 (rest := []) (Nat.le_of_ble_eq_true rfl) dX9_drawnPair_25 (fun r2 τ3 H locs h hP hD hS => ?_)
    refine lv_if_eq (tgt := 43) hx hb dX9_drawnPair_28 (by decide) (fun hc => ?_) (fun hc => ?_)
    · have h := h.1 hc
      obtain ⟨v4, ev4⟩ : ∃ z : Int32, z = x5 + (1 : Int32) := ⟨_, rfl⟩
      have h := h v4 ev4
      refine lv_iinc (v := v4) (lv' := [(5, .int v4), (0, .ref (ad 11)), (1, .long x1), (3, .int x3), (4, .int x4)]) hx hb dX9_drawnPair_43 hl (k := 4) rfl (by rw [ev4]; rfl) (by decide) rfl (fun ls hl => ?_)
      refine lv_goto (tgt := 6) hx hb dX9_drawnPair_46 (by decide) ?_
      exact hk_6 x1 x3 x4 v4 τ3 _ _ _ h hP hD hS (lv_sub hl [1, 2, 3, 4, 0] rfl)
    · have h := h.2 hc
      refine lv_aload_n hx hb dX9_drawnPair_31 rfl (lv_at hl 0 rfl) ?_
      refine xg_11_3 hx hb hts hown hK hP mw_241 dX9_drawnPair_32 ?_
      refine lv_iload hx hb dX9_drawnPair_35 (lv_at hl 3 rfl) ?_
      refine lv_iload hx hb dX9_drawnPair_37 (lv_at hl 4 rfl) ?_
      refine xs_56 hx hb hK hP hD hS h.1 rfl dX9_drawnPair_39 (fun τ5 H locs eτ5 hP hD hS => ?_)
      have h := h.2
      have h := h τ5 eτ5
      obtain ⟨v6, ev6⟩ : ∃ z : Int32, z = x4 + (1 : Int32) := ⟨_, rfl⟩
      have h := h v6 ev6
      refine lv_iinc (v := v6) (lv' := [(4, .int v6), (0, .ref (ad 11)), (1, .long x1), (3, .int x3), (5, .int x5)]) hx hb dX9_drawnPair_40 hl (k := 3) rfl (by rw [ev6]; rfl) (by decide) rfl (fun ls hl => ?_)
      obtain ⟨v7, ev7⟩ : ∃ z : Int32, z = x5 + (1 : Int32) := ⟨_, rfl⟩
      have h := h v7 ev7
      refine lv_iinc (v := v7) (lv' := [(5, .int v7), (4, .int v6), (0, .ref (ad 11)), (1, .long x1), (3, .int x3)]) hx hb dX9_drawnPair_43 hl (k := 4) rfl (by rw [ev7]; rfl) (by decide) rfl (fun ls hl => ?_)
      refine lv_goto (tgt := 6) hx hb dX9_drawnPair_46 (by decide) ?_
      exact hk_6 x1 x3 v6 v7 τ5 _ _ _ h hP hD hS (lv_sub hl [2, 3, 4, 1, 0] rfl)
set_option maxHeartbeats 4000000 in
set_option maxRecDepth 100000 in
theorem t_X9_drawnPair_6 (C0 : zCx p s m meth c args RX9 cX9_drawnPair 7 (some .int) vs_X9_drawnPair) (hK : va_K (dC, dI) vwCl (x_ty cI cJ) s) (N : Nat) {Q : Int32 → zSt → Prop} : ∀ (f : Nat) (x1 : Int64) (x3 : Int32) (x4 : Int32) (x5 : Int32) (σ : zSt) (H : Heap) (locs : List Loc) (ls : Array Slot), w_X9_drawnPair_6 N  Q f x1 x3 x4 x5 σ → va_P (dC, dI) vwCl (x_W ad cI cJ σ) H → va_D (zAW x_n ad s.heap.size) (x_W ad cI cJ σ) → va_S (zAW x_n ad s.heap.size) s.heap H locs → lv_has ls 7 [(0, .ref (ad 11)), (1, .long x1), (3, .int x3), (4, .int x4), (5, .int x5)] → W p l e rm_X9_drawnPair s m args below meth c H locs 0 0 (MQ below (zQi (dC, dI) (x_ty cI cJ) (x_W ad cI cJ) (zAW x_n ad s.heap.size) Q) args s 0 0 (zAW x_n ad s.heap.size)) (F0 m 6 ls []) := by
  intro f
  induction f with
  | zero => intro x1 x3 x4 x5 σ H locs ls h; exact h.elim
  | succ f ih =>
    intro x1 x3 x4 x5 σ H locs ls h hP hD hS hl
    exact tb_X9_drawnPair_6 C0 hK N  (k_6 := w_X9_drawnPair_6 N  Q f) ih x1 x3 x4 x5 σ H locs ls h hP hD hS hl
set_option maxHeartbeats 4000000 in
set_option maxRecDepth 100000 in
theorem t_X9_drawnPair_0 (C0 : zCx p s m meth c args RX9 cX9_drawnPair 7 (some .int) vs_X9_drawnPair) (hK : va_K (dC, dI) vwCl (x_ty cI cJ) s) (N : Nat) {Q : Int32 → zSt → Prop} : ∀ (x1 : Int64) (x3 : Int32) (σ : zSt) (H : Heap) (locs : List Loc) (ls : Array Slot), w_X9_drawnPair N x1 x3 σ Q → va_P (dC, dI) vwCl (x_W ad cI cJ σ) H → va_D (zAW x_n ad s.heap.size) (x_W ad cI cJ σ) → va_S (zAW x_n ad s.heap.size) s.heap H locs → lv_has ls 7 [(0, .ref (ad 11)), (1, .long x1), (3, .int x3)] → W p l e rm_X9_drawnPair s m args below meth c H locs 0 0 (MQ below (zQi (dC, dI) (x_ty cI cJ) (x_W ad cI cJ) (zAW x_n ad s.heap.size) Q) args s 0 0 (zAW x_n ad s.heap.size)) (F0 m 0 ls []) := by
  obtain ⟨hx, hb, hml, hr, hown, hts, hlocks⟩ := id C0
  intro x1 x3 σ H locs ls h hP hD hS hl
  unfold w_X9_drawnPair at h
  refine lv_iconst (v := (0 : Int32)) hx hb dX9_drawnPair_0 (by decide) ?_
  refine lv_istore (lv' := [(4, .int (0 : Int32)), (0, .ref (ad 11)), (1, .long x1), (3, .int x3)]) hx hb dX9_drawnPair_1 hl (by decide) rfl (fun ls hl => ?_)
  refine lv_iconst (v := (0 : Int32)) hx hb dX9_drawnPair_3 (by decide) ?_
  refine lv_istore (lv' := [(5, .int (0 : Int32)), (4, .int (0 : Int32)), (0, .ref (ad 11)), (1, .long x1), (3, .int x3)]) hx hb dX9_drawnPair_4 hl (by decide) rfl (fun ls hl => ?_)
  exact t_X9_drawnPair_6 C0 hK N  N x1 x3 (0 : Int32) (0 : Int32) σ _ _ _ h hP hD hS (lv_sub hl [2, 3, 4, 1, 0] rfl)
set_option maxHeartbeats 4000000 in
set_option maxRecDepth 100000 in
theorem c_X9_drawnPair (N : Nat) (l : Launch) (dC : Nat → ClassId) (dI : Nat → Nat → Nat) (ad : Nat → Nat) (cI cJ : ClassId) (sz : Nat) (σ : zSt) (x1 : Int64) (x3 : Int32) (Q : Int32 → zSt → Prop) (h : w_X9_drawnPair N x1 x3 σ Q) : Met l yX9_drawnPair vs_X9_drawnPair rm_X9_drawnPair (va_Pc [.ref (ad 11), .long x1, .int x3] (zPc (dC, dI) (x_ty cI cJ) (x_W ad cI cJ) sz σ)) (zQi (dC, dI) (x_ty cI cJ) (x_W ad cI cJ) (zAW x_n ad sz) Q) 0 0 (zAW x_n ad sz) := by
  refine Met.ofW (cc := cX9_drawnPair) (maxL := 7) (ret := (some .int)) (by decide) rfl ?_
  intro p e s m args below meth c s₁ B hml hv
  obtain ⟨rfl, hsz, hP, hK, hD0⟩ := hv
  subst hsz
  have C0 : zCx p s m meth c _ RX9 cX9_drawnPair 7 (some .int) vs_X9_drawnPair := ⟨B.exec, B.bytes, hml, B.returns, findClass_of_methodNamed B.named, atoms_spec (ws := vs_X9_drawnPair) B.pre, B.notSynchronized⟩
  have hD := x_D0 (n0 := s.heap.size) hD0
  have hl := lv_entry ([.ref (ad 11), .long x1, .int x3]) (n := 7) (Nat.le_of_ble_eq_true rfl)
  rw [lg_entry_eq]
  generalize (lg_sl ([.ref (ad 11), .long x1, .int x3]) ++ List.replicate (7 - (lg_sl ([.ref (ad 11), .long x1, .int x3])).length) Slot.unset).toArray = ls at hl ⊢
  exact t_X9_drawnPair_0 C0 hK N x1 x3 σ _ _ ls h hP hD va_S.rf hl
theorem k_X9_drawnPair (N : Nat) {R : Room} {H : Heap} {locs : List Loc} {Q2 : State → Prop} {cc : ByteArray} {nL pc index : Nat} {ls : Array Slot} {rest : List Value} {own : String} {c0 : Cond} {σ : zSt} {x1 : Int64} {x3 : Int32} {Q : Int32 → zSt → Prop} (S0 : CallFix p m c cc nL s args (c0 :: zT) own) (hml : Cond.methodLink own index yX9_drawnPair ∈ zT) (hR : rm_X9_drawnPair.frames + 1 ≤ R.frames ∧ 8 + (7 + 11) + rm_X9_drawnPair.locals ≤ R.locals) (h : w_X9_drawnPair N x1 x3 σ Q) (hK : va_K (dC, dI) vwCl (x_ty cI cJ) s) (hP : va_P (dC, dI) vwCl (x_W ad cI cJ σ) H) (hD : va_D (zAW x_n ad s.heap.size) (x_W ad cI cJ σ)) (hS : va_S (zAW x_n ad s.heap.size) s.heap H locs) (hsz : ls.size = nL) (hW : (rest.map fun v => v.category).sum ≤ 8) (hdg : decode cc pc = .ok (.invokevirtual index, 3)) (kk : ∀ (r : Int32) (τ : zSt) (H1 : Heap) (locs1 : List Loc), Q r τ → va_P (dC, dI) vwCl (x_W ad cI cJ τ) H1 → va_D (zAW x_n ad s.heap.size) (x_W ad cI cJ τ) → va_S (zAW x_n ad s.heap.size) s.heap H1 locs1 → W p l e R s m args below meth c H1 locs1 0 0 Q2 (F0 m (pc + 3) ls (.int r :: rest))) : W p l e R s m args below meth c H locs 0 0 Q2 (F0 m pc ls (.int x3 :: .long x1 :: .ref (ad 11) :: rest)) :=
  zcv_i (T := TX9) (N' := 7) (k := 11) (ci := 9) (fs := x_f11 ad σ) [.long x1, .int x3] S0 (c_X9_drawnPair N l dC dI ad cI cJ H.size σ x1 x3 Q h) (cw_X9_drawnPair S0.2.2.2.2 hml rfl rfl hR) rfl rfl hK hP hD hS rfl hsz hW rfl hdg kk
end q08
section q08
def vs_X9_firstPair : List Cond := .code yX9_firstPair cX9_firstPair 4 (some .int) :: zT
def rm_X9_firstPair : Room := { frames := 5, cells := 0, slots := 0, locals := 143 }
theorem cw_X9_firstPair {rm R : Room} {s : State} {args : Array Value} {own : String} {index : Nat} {c0 : Cond} (hts : ∀ w ∈ c0 :: zT, w.before args s = true) (hml : Cond.methodLink own index yX9_firstPair ∈ zT) (hrc : rm.cells = 0) (hrs : rm.slots = 0) (hR : rm.frames + 1 ≤ R.frames ∧ 8 + (4 + 11) + rm.locals ≤ R.locals) : CallW R s args own RX9 index yX9_firstPair cX9_firstPair 4 (some .int) vs_X9_firstPair rm 0 0 1 :=
  zwV 1 hts hml mw_649 mw_650 mw_14 mw_651 hrc hrs (by decide +kernel) hR
def b_X9_firstPair_2 (N : Nat) (k_2 : Int64 → Int32 → zSt → Prop) (Q : Int32 → zSt → Prop) (x1 : Int64) (x3 : Int32) (σ : zSt) : Prop :=
  ((σ.1 2) ≤ x3 → Q (-1 : Int32) σ) ∧ (¬ (σ.1 2) ≤ x3 → w_X0_moves N x1 x3 σ (fun r1 τ2 => (r1 = 0 → ∀ v3 : Int32, v3 = x3 + (1 : Int32) → k_2 x1 v3 τ2) ∧ (¬ r1 = 0 → Q x3 τ2)))
def w_X9_firstPair_2 (N : Nat) (Q : Int32 → zSt → Prop) : Nat → Int64 → Int32 → zSt → Prop
  | 0 => fun _ _ _ => False
  | f + 1 => b_X9_firstPair_2 N (w_X9_firstPair_2 N  Q f) Q
def w_X9_firstPair (N : Nat) (x1 : Int64) (σ : zSt) (Q : Int32 → zSt → Prop) : Prop :=
  w_X9_firstPair_2 N Q N x1 (0 : Int32) σ
variable {p : Program} {l : Launch} {e : Env} {s : State} {m : MethodId} {args : Array Value} {below : List Frame} {meth : Method} {c : Code} {dC : Nat → ClassId} {dI : Nat → Nat → Nat} {ad : Nat → Nat} {cI cJ : ClassId}
set_option maxHeartbeats 4000000 in
set_option maxRecDepth 100000 in
theorem tb_X9_firstPair_2 (C0 : zCx p s m meth c args RX9 cX9_firstPair 4 (some .int) vs_X9_firstPair) (hK : va_K (dC, dI) vwCl (x_ty cI cJ) s) (N : Nat) {Q : Int32 → zSt → Prop} {k_2 : Int64 → Int32 → zSt → Prop} (hk_2 : ∀ (x1 : Int64) (x3 : Int32) (σ : zSt) (H : Heap) (locs : List Loc) (ls : Array Slot), k_2 x1 x3 σ → va_P (dC, dI) vwCl (x_W ad cI cJ σ) H → va_D (zAW x_n ad s.heap.size) (x_W ad cI cJ σ) → va_S (zAW x_n ad s.heap.size) s.heap H locs → lv_has ls 4 [(0, .ref (ad 11)), (1, .long x1), (3, .int x3)] → W p l e rm_X9_firstPair s m args below meth c H locs 0 0 (MQ below (zQi (dC, dI) (x_ty cI cJ) (x_W ad cI cJ) (zAW x_n ad s.heap.size) Q) args s 0 0 (zAW x_n ad s.heap.size)) (F0 m 2 ls [])) : ∀ (x1 : Int64) (x3 : Int32) (σ : zSt) (H : Heap) (locs : List Loc) (ls : Array Slot), b_X9_firstPair_2 N k_2 Q x1 x3 σ → va_P (dC, dI) vwCl (x_W ad cI cJ σ) H → va_D (zAW x_n ad s.heap.size) (x_W ad cI cJ σ) → va_S (zAW x_n ad s.heap.size) s.heap H locs → lv_has ls 4 [(0, .ref (ad 11)), (1, .long x1), (3, .int x3)] → W p l e rm_X9_firstPair s m args below meth c H locs 0 0 (MQ below (zQi (dC, dI) (x_ty cI cJ) (x_W ad cI cJ) (zAW x_n ad s.heap.size) Q) args s 0 0 (zAW x_n ad s.heap.size)) (F0 m 2 ls []) := by
  obtain ⟨hx, hb, hml, hr, hown, hts, hlocks⟩ := id C0
  intro x1 x3 σ H locs ls h hP hD hS hl
  unfold b_X9_firstPair_2 at h
  refine lv_iload_n hx hb dX9_firstPair_2 rfl (lv_at hl 2 rfl) ?_
  refine lv_aload_n hx hb dX9_firstPair_3 rfl (lv_at hl 0 rfl) ?_
  refine xg_11_0 hx hb hts hown hK hP mw_238 dX9_firstPair_4 ?_
  refine xg_3_5 hx hb hts hown hK hP mw_79 dX9_firstPair_7 ?_
  refine lv_icmp_ge (tgt := 33) hx hb dX9_firstPair_10 (by decide) (fun hc => ?_) (fun hc => ?_)
  · have h := h.1 hc
    refine lv_iconst (v := (-1 : Int32)) hx hb dX9_firstPair_33 (by decide) ?_
    exact zret_i hx hb hr hlocks hK hP hD hS h dX9_firstPair_34
  · have h := h.2 hc
    refine lv_aload_n hx hb dX9_firstPair_13 rfl (lv_at hl 0 rfl) ?_
    refine xg_11_1 hx hb hts hown hK hP mw_239 dX9_firstPair_14 ?_
    refine lv_lload_n hx hb dX9_firstPair_17 rfl (lv_at hl 1 rfl) ?_
    refine lv_iload_n hx hb dX9_firstPair_18 rfl (lv_at hl 2 rfl) ?_
    refine k_X0_moves N ⟨hx, hb, hml, hown, hts⟩ mw_652 ⟨Nat.le_of_ble_eq_true rfl, Nat.le_of_ble_eq_true rfl⟩ h hK hP hD hS hl.1 (rest := []) (Nat.le_of_ble_eq_true rfl) dX9_firstPair_19 (fun r1 τ2 H locs h hP hD hS => ?_)
    refine lv_if_eq (tgt := 27) hx hb dX9_firstPair_22 (by decide) (fun hc => ?_) (fun hc => ?_)
    · have h := h.1 hc
      obtain ⟨v3, ev3⟩ : ∃ z : Int32, z = x3 + (1 : Int32) := ⟨_, rfl⟩
      have h := h v3 ev3
      refine lv_iinc (v := v3) (lv' := [(3, .int v3), (0, .ref (ad 11)), (1, .long x1)]) hx hb dX9_firstPair_27 hl (k := 2) rfl (by rw [ev3]; rfl) (by decide) rfl (fun ls hl => ?_)
      refine lv_goto (tgt := 2) hx hb dX9_firstPair_30 (by decide) ?_
      exact hk_2 x1 v3 τ2 _ _ _ h hP hD hS (lv_sub hl [1, 2, 0] rfl)
    · have h := h.2 hc
      refine lv_iload_n hx hb dX9_firstPair_25 rfl (lv_at hl 2 rfl) ?_
      exact zret_i hx hb hr hlocks hK hP hD hS h dX9_firstPair_26
set_option maxHeartbeats 4000000 in
set_option maxRecDepth 100000 in
theorem t_X9_firstPair_2 (C0 : zCx p s m meth c args RX9 cX9_firstPair 4 (some .int) vs_X9_firstPair) (hK : va_K (dC, dI) vwCl (x_ty cI cJ) s) (N : Nat) {Q : Int32 → zSt → Prop} : ∀ (f : Nat) (x1 : Int64) (x3 : Int32) (σ : zSt) (H : Heap) (locs : List Loc) (ls : Array Slot), w_X9_firstPair_2 N  Q f x1 x3 σ → va_P (dC, dI) vwCl (x_W ad cI cJ σ) H → va_D (zAW x_n ad s.heap.size) (x_W ad cI cJ σ) → va_S (zAW x_n ad s.heap.size) s.heap H locs → lv_has ls 4 [(0, .ref (ad 11)), (1, .long x1), (3, .int x3)] → W p l e rm_X9_firstPair s m args below meth c H locs 0 0 (MQ below (zQi (dC, dI) (x_ty cI cJ) (x_W ad cI cJ) (zAW x_n ad s.heap.size) Q) args s 0 0 (zAW x_n ad s.heap.size)) (F0 m 2 ls []) := by
  intro f
  induction f with
  | zero => intro x1 x3 σ H locs ls h; exact h.elim
  | succ f ih =>
    intro x1 x3 σ H locs ls h hP hD hS hl
    exact tb_X9_firstPair_2 C0 hK N  (k_2 := w_X9_firstPair_2 N  Q f) ih x1 x3 σ H locs ls h hP hD hS hl
set_option maxHeartbeats 4000000 in
set_option maxRecDepth 100000 in
theorem t_X9_firstPair_0 (C0 : zCx p s m meth c args RX9 cX9_firstPair 4 (some .int) vs_X9_firstPair) (hK : va_K (dC, dI) vwCl (x_ty cI cJ) s) (N : Nat) {Q : Int32 → zSt → Prop} : ∀ (x1 : Int64) (σ : zSt) (H : Heap) (locs : List Loc) (ls : Array Slot), w_X9_firstPair N x1 σ Q → va_P (dC, dI) vwCl (x_W ad cI cJ σ) H → va_D (zAW x_n ad s.heap.size) (x_W ad cI cJ σ) → va_S (zAW x_n ad s.heap.size) s.heap H locs → lv_has ls 4 [(0, .ref (ad 11)), (1, .long x1)] → W p l e rm_X9_firstPair s m args below meth c H locs 0 0 (MQ below (zQi (dC, dI) (x_ty cI cJ) (x_W ad cI cJ) (zAW x_n ad s.heap.size) Q) args s 0 0 (zAW x_n ad s.heap.size)) (F0 m 0 ls []) := by
  obtain ⟨hx, hb, hml, hr, hown, hts, hlocks⟩ := id C0
  intro x1 σ H locs ls h hP hD hS hl
  unfold w_X9_firstPair at h
  refine lv_iconst (v := (0 : Int32)) hx hb dX9_firstPair_0 (by decide) ?_
  refine lv_istore_n (lv' := [(3, .int (0 : Int32)), (0, .ref (ad 11)), (1, .long x1)]) hx hb dX9_firstPair_1 rfl hl (by decide) rfl (fun ls hl => ?_)
  exact t_X9_firstPair_2 C0 hK N  N x1 (0 : Int32) σ _ _ _ h hP hD hS (lv_sub hl [1, 2, 0] rfl)
set_option maxHeartbeats 4000000 in
set_option maxRecDepth 100000 in
theorem c_X9_firstPair (N : Nat) (l : Launch) (dC : Nat → ClassId) (dI : Nat → Nat → Nat) (ad : Nat → Nat) (cI cJ : ClassId) (sz : Nat) (σ : zSt) (x1 : Int64) (Q : Int32 → zSt → Prop) (h : w_X9_firstPair N x1 σ Q) : Met l yX9_firstPair vs_X9_firstPair rm_X9_firstPair (va_Pc [.ref (ad 11), .long x1] (zPc (dC, dI) (x_ty cI cJ) (x_W ad cI cJ) sz σ)) (zQi (dC, dI) (x_ty cI cJ) (x_W ad cI cJ) (zAW x_n ad sz) Q) 0 0 (zAW x_n ad sz) := by
  refine Met.ofW (cc := cX9_firstPair) (maxL := 4) (ret := (some .int)) (by decide) rfl ?_
  intro p e s m args below meth c s₁ B hml hv
  obtain ⟨rfl, hsz, hP, hK, hD0⟩ := hv
  subst hsz
  have C0 : zCx p s m meth c _ RX9 cX9_firstPair 4 (some .int) vs_X9_firstPair := ⟨B.exec, B.bytes, hml, B.returns, findClass_of_methodNamed B.named, atoms_spec (ws := vs_X9_firstPair) B.pre, B.notSynchronized⟩
  have hD := x_D0 (n0 := s.heap.size) hD0
  have hl := lv_entry ([.ref (ad 11), .long x1]) (n := 4) (Nat.le_of_ble_eq_true rfl)
  rw [lg_entry_eq]
  generalize (lg_sl ([.ref (ad 11), .long x1]) ++ List.replicate (4 - (lg_sl ([.ref (ad 11), .long x1])).length) Slot.unset).toArray = ls at hl ⊢
  exact t_X9_firstPair_0 C0 hK N x1 σ _ _ ls h hP hD va_S.rf hl
theorem k_X9_firstPair (N : Nat) {R : Room} {H : Heap} {locs : List Loc} {Q2 : State → Prop} {cc : ByteArray} {nL pc index : Nat} {ls : Array Slot} {rest : List Value} {own : String} {c0 : Cond} {σ : zSt} {x1 : Int64} {Q : Int32 → zSt → Prop} (S0 : CallFix p m c cc nL s args (c0 :: zT) own) (hml : Cond.methodLink own index yX9_firstPair ∈ zT) (hR : rm_X9_firstPair.frames + 1 ≤ R.frames ∧ 8 + (4 + 11) + rm_X9_firstPair.locals ≤ R.locals) (h : w_X9_firstPair N x1 σ Q) (hK : va_K (dC, dI) vwCl (x_ty cI cJ) s) (hP : va_P (dC, dI) vwCl (x_W ad cI cJ σ) H) (hD : va_D (zAW x_n ad s.heap.size) (x_W ad cI cJ σ)) (hS : va_S (zAW x_n ad s.heap.size) s.heap H locs) (hsz : ls.size = nL) (hW : (rest.map fun v => v.category).sum ≤ 8) (hdg : decode cc pc = .ok (.invokevirtual index, 3)) (kk : ∀ (r : Int32) (τ : zSt) (H1 : Heap) (locs1 : List Loc), Q r τ → va_P (dC, dI) vwCl (x_W ad cI cJ τ) H1 → va_D (zAW x_n ad s.heap.size) (x_W ad cI cJ τ) → va_S (zAW x_n ad s.heap.size) s.heap H1 locs1 → W p l e R s m args below meth c H1 locs1 0 0 Q2 (F0 m (pc + 3) ls (.int r :: rest))) : W p l e R s m args below meth c H locs 0 0 Q2 (F0 m pc ls (.long x1 :: .ref (ad 11) :: rest)) :=
  zcv_i (T := TX9) (N' := 7) (k := 11) (ci := 9) (fs := x_f11 ad σ) [.long x1] S0 (c_X9_firstPair N l dC dI ad cI cJ H.size σ x1 Q h) (cw_X9_firstPair S0.2.2.2.2 hml rfl rfl hR) rfl rfl hK hP hD hS rfl hsz hW rfl hdg kk
end q08
section q08
def vs_X11_step : List Cond := .code yX11_step cX11_step 3 (some .int) :: zT
def rm_X11_step : Room := { frames := 6, cells := 0, slots := 0, locals := 169 }
theorem cw_X11_step {rm R : Room} {s : State} {args : Array Value} {own : String} {index : Nat} {c0 : Cond} (hts : ∀ w ∈ c0 :: zT, w.before args s = true) (hml : Cond.methodLink own index yX11_step ∈ zT) (hrc : rm.cells = 0) (hrs : rm.slots = 0) (hR : rm.frames + 1 ≤ R.frames ∧ 8 + (3 + 11) + rm.locals ≤ R.locals) : CallW R s args own RX11 index yX11_step cX11_step 3 (some .int) vs_X11_step rm 0 0 1 :=
  zwV 1 hts hml mw_645 mw_646 mw_1 mw_647 hrc hrs (by decide +kernel) hR
def b_X11_step_39 (N : Nat) (Q : Int32 → zSt → Prop) (s0 : Int32) (σ : zSt) : Prop :=
  (s0 = (-1 : Int32) → Q s0 σ) ∧ (¬ s0 = (-1 : Int32) → ∀ τ1 : zSt, τ1 = zJ σ 0 ((σ.2.1 0) ^^^ ((1 : Int64) <<< (s0.toInt64 &&& 63))) → Q s0 τ1)
def w_X11_step (N : Nat) (x1 : Int32) (σ : zSt) (Q : Int32 → zSt → Prop) : Prop :=
  ((-1 : Int32) ≤ x1 → (x1 = (-1 : Int32) → w_X9_firstPair N (σ.2.1 0) σ (fun r3 τ4 => b_X11_step_39 N Q r3 τ4)) ∧ (¬ x1 = (-1 : Int32) → w_X9_drawnPair N (σ.2.1 0) x1 σ (fun r1 τ2 => b_X11_step_39 N Q r1 τ2))) ∧ (¬ (-1 : Int32) ≤ x1 → Q (-2 : Int32) σ)
variable {p : Program} {l : Launch} {e : Env} {s : State} {m : MethodId} {args : Array Value} {below : List Frame} {meth : Method} {c : Code} {dC : Nat → ClassId} {dI : Nat → Nat → Nat} {ad : Nat → Nat} {cI cJ : ClassId}
set_option maxHeartbeats 4000000 in
set_option maxRecDepth 100000 in
theorem t_X11_step_39 (C0 : zCx p s m meth c args RX11 cX11_step 3 (some .int) vs_X11_step) (hK : va_K (dC, dI) vwCl (x_ty cI cJ) s) (N : Nat) {Q : Int32 → zSt → Prop} : ∀ (s0 : Int32) (σ : zSt) (H : Heap) (locs : List Loc) (ls : Array Slot), b_X11_step_39 N  Q s0 σ → va_P (dC, dI) vwCl (x_W ad cI cJ σ) H → va_D (zAW x_n ad s.heap.size) (x_W ad cI cJ σ) → va_S (zAW x_n ad s.heap.size) s.heap H locs → lv_has ls 3 [(0, .ref (ad 0))] → W p l e rm_X11_step s m args below meth c H locs 0 0 (MQ below (zQi (dC, dI) (x_ty cI cJ) (x_W ad cI cJ) (zAW x_n ad s.heap.size) Q) args s 0 0 (zAW x_n ad s.heap.size)) (F0 m 39 ls [.int s0]) := by
  obtain ⟨hx, hb, hml, hr, hown, hts, hlocks⟩ := id C0
  intro s0 σ H locs ls h hP hD hS hl
  unfold b_X11_step_39 at h
  refine lv_istore_n (lv' := [(2, .int s0), (0, .ref (ad 0))]) hx hb dX11_step_39 rfl hl (by decide) rfl (fun ls hl => ?_)
  refine lv_iload_n hx hb dX11_step_40 rfl (lv_at hl 0 rfl) ?_
  refine lv_iconst (v := (-1 : Int32)) hx hb dX11_step_41 (by decide) ?_
  refine lv_icmp_eq (tgt := 57) hx hb dX11_step_42 (by decide) (fun hc => ?_) (fun hc => ?_)
  · have h := h.1 hc
    refine lv_iload_n hx hb dX11_step_57 rfl (lv_at hl 0 rfl) ?_
    exact zret_i hx hb hr hlocks hK hP hD hS h dX11_step_58
  · have h := h.2 hc
    refine lv_aload_n hx hb dX11_step_45 rfl (lv_at hl 1 rfl) ?_
    refine lv_dup hx hb dX11_step_46 rfl ?_
    refine xg_0_15 hx hb hts hown hK hP mw_304 dX11_step_47 ?_
    refine lv_lconst (v := (1 : Int64)) hx hb dX11_step_50 (by decide) ?_
    refine lv_iload_n hx hb dX11_step_51 rfl (lv_at hl 0 rfl) ?_
    refine lv_lshl hx hb dX11_step_52 rfl ?_
    refine lv_lxor hx hb dX11_step_53 ?_
    refine xp_0_15 hx hb hts hown hK hP hD hS mw_304 dX11_step_54 (fun τ1 H locs eτ1 hP hD hS => ?_)
    have h := h τ1 eτ1
    refine lv_iload_n hx hb dX11_step_57 rfl (lv_at hl 0 rfl) ?_
    exact zret_i hx hb hr hlocks hK hP hD hS h dX11_step_58
set_option maxHeartbeats 4000000 in
set_option maxRecDepth 100000 in
theorem t_X11_step_0 (C0 : zCx p s m meth c args RX11 cX11_step 3 (some .int) vs_X11_step) (hK : va_K (dC, dI) vwCl (x_ty cI cJ) s) (N : Nat) {Q : Int32 → zSt → Prop} : ∀ (x1 : Int32) (σ : zSt) (H : Heap) (locs : List Loc) (ls : Array Slot), w_X11_step N x1 σ Q → va_P (dC, dI) vwCl (x_W ad cI cJ σ) H → va_D (zAW x_n ad s.heap.size) (x_W ad cI cJ σ) → va_S (zAW x_n ad s.heap.size) s.heap H locs → lv_has ls 3 [(0, .ref (ad 0)), (1, .int x1)] → W p l e rm_X11_step s m args below meth c H locs 0 0 (MQ below (zQi (dC, dI) (x_ty cI cJ) (x_W ad cI cJ) (zAW x_n ad s.heap.size) Q) args s 0 0 (zAW x_n ad s.heap.size)) (F0 m 0 ls []) := by
  obtain ⟨hx, hb, hml, hr, hown, hts, hlocks⟩ := id C0
  intro x1 σ H locs ls h hP hD hS hl
  unfold w_X11_step at h
  refine lv_iload_n hx hb dX11_step_0 rfl (lv_at hl 1 rfl) ?_
  refine lv_iconst (v := (-1 : Int32)) hx hb dX11_step_1 (by decide) ?_
  refine lv_icmp_ge (tgt := 8) hx hb dX11_step_2 (by decide) (fun hc => ?_) (fun hc => ?_)
  · have h := h.1 hc
    refine lv_iload_n hx hb dX11_step_8 rfl (lv_at hl 1 rfl) ?_
    refine lv_iconst (v := (-1 : Int32)) hx hb dX11_step_9 (by decide) ?_
    refine lv_icmp_ne (tgt := 27) hx hb dX11_step_10 (by decide) (fun hc => ?_) (fun hc => ?_)
    · have h := h.2 hc
      refine lv_aload_n hx hb dX11_step_27 rfl (lv_at hl 0 rfl) ?_
      refine xg_0_7 hx hb hts hown hK hP mw_296 dX11_step_28 ?_
      refine lv_aload_n hx hb dX11_step_31 rfl (lv_at hl 0 rfl) ?_
      refine xg_0_15 hx hb hts hown hK hP mw_304 dX11_step_32 ?_
      refine lv_iload_n hx hb dX11_step_35 rfl (lv_at hl 1 rfl) ?_
      refine k_X9_drawnPair N ⟨hx, hb, hml, hown, hts⟩ mw_653 ⟨Nat.le_of_ble_eq_true rfl, Nat.le_of_ble_eq_true rfl⟩ h hK hP hD hS hl.1 (rest := []) (Nat.le_of_ble_eq_true rfl) dX11_step_36 (fun r1 τ2 H locs h hP hD hS => ?_)
      exact t_X11_step_39 C0 hK N  r1 τ2 _ _ _ h hP hD hS (lv_sub hl [0] rfl)
    · have h := h.1 hc
      refine lv_aload_n hx hb dX11_step_13 rfl (lv_at hl 0 rfl) ?_
      refine xg_0_7 hx hb hts hown hK hP mw_296 dX11_step_14 ?_
      refine lv_aload_n hx hb dX11_step_17 rfl (lv_at hl 0 rfl) ?_
      refine xg_0_15 hx hb hts hown hK hP mw_304 dX11_step_18 ?_
      refine k_X9_firstPair N ⟨hx, hb, hml, hown, hts⟩ mw_648 ⟨Nat.le_of_ble_eq_true rfl, Nat.le_of_ble_eq_true rfl⟩ h hK hP hD hS hl.1 (rest := []) (Nat.le_of_ble_eq_true rfl) dX11_step_21 (fun r3 τ4 H locs h hP hD hS => ?_)
      refine lv_goto (tgt := 39) hx hb dX11_step_24 (by decide) ?_
      exact t_X11_step_39 C0 hK N  r3 τ4 _ _ _ h hP hD hS (lv_sub hl [0] rfl)
  · have h := h.2 hc
    refine lv_bipush (v := (-2 : Int32)) hx hb dX11_step_5 (by decide) ?_
    exact zret_i hx hb hr hlocks hK hP hD hS h dX11_step_7
set_option maxHeartbeats 4000000 in
set_option maxRecDepth 100000 in
theorem c_X11_step (N : Nat) (l : Launch) (dC : Nat → ClassId) (dI : Nat → Nat → Nat) (ad : Nat → Nat) (cI cJ : ClassId) (sz : Nat) (σ : zSt) (x1 : Int32) (Q : Int32 → zSt → Prop) (h : w_X11_step N x1 σ Q) : Met l yX11_step vs_X11_step rm_X11_step (va_Pc [.ref (ad 0), .int x1] (zPc (dC, dI) (x_ty cI cJ) (x_W ad cI cJ) sz σ)) (zQi (dC, dI) (x_ty cI cJ) (x_W ad cI cJ) (zAW x_n ad sz) Q) 0 0 (zAW x_n ad sz) := by
  refine Met.ofW (cc := cX11_step) (maxL := 3) (ret := (some .int)) (by decide) rfl ?_
  intro p e s m args below meth c s₁ B hml hv
  obtain ⟨rfl, hsz, hP, hK, hD0⟩ := hv
  subst hsz
  have C0 : zCx p s m meth c _ RX11 cX11_step 3 (some .int) vs_X11_step := ⟨B.exec, B.bytes, hml, B.returns, findClass_of_methodNamed B.named, atoms_spec (ws := vs_X11_step) B.pre, B.notSynchronized⟩
  have hD := x_D0 (n0 := s.heap.size) hD0
  have hl := lv_entry ([.ref (ad 0), .int x1]) (n := 3) (Nat.le_of_ble_eq_true rfl)
  rw [lg_entry_eq]
  generalize (lg_sl ([.ref (ad 0), .int x1]) ++ List.replicate (3 - (lg_sl ([.ref (ad 0), .int x1])).length) Slot.unset).toArray = ls at hl ⊢
  exact t_X11_step_0 C0 hK N x1 σ _ _ ls h hP hD va_S.rf hl
theorem k_X11_step (N : Nat) {R : Room} {H : Heap} {locs : List Loc} {Q2 : State → Prop} {cc : ByteArray} {nL pc index : Nat} {ls : Array Slot} {rest : List Value} {own : String} {c0 : Cond} {σ : zSt} {x1 : Int32} {Q : Int32 → zSt → Prop} (S0 : CallFix p m c cc nL s args (c0 :: zT) own) (hml : Cond.methodLink own index yX11_step ∈ zT) (hR : rm_X11_step.frames + 1 ≤ R.frames ∧ 8 + (3 + 11) + rm_X11_step.locals ≤ R.locals) (h : w_X11_step N x1 σ Q) (hK : va_K (dC, dI) vwCl (x_ty cI cJ) s) (hP : va_P (dC, dI) vwCl (x_W ad cI cJ σ) H) (hD : va_D (zAW x_n ad s.heap.size) (x_W ad cI cJ σ)) (hS : va_S (zAW x_n ad s.heap.size) s.heap H locs) (hsz : ls.size = nL) (hW : (rest.map fun v => v.category).sum ≤ 8) (hdg : decode cc pc = .ok (.invokevirtual index, 3)) (kk : ∀ (r : Int32) (τ : zSt) (H1 : Heap) (locs1 : List Loc), Q r τ → va_P (dC, dI) vwCl (x_W ad cI cJ τ) H1 → va_D (zAW x_n ad s.heap.size) (x_W ad cI cJ τ) → va_S (zAW x_n ad s.heap.size) s.heap H1 locs1 → W p l e R s m args below meth c H1 locs1 0 0 Q2 (F0 m (pc + 3) ls (.int r :: rest))) : W p l e R s m args below meth c H locs 0 0 Q2 (F0 m pc ls (.int x1 :: .ref (ad 0) :: rest)) :=
  zcv_i (T := TX11) (N' := 17) (k := 0) (ci := 11) (fs := x_f0 ad σ) [.int x1] S0 (c_X11_step N l dC dI ad cI cJ H.size σ x1 Q h) (cw_X11_step S0.2.2.2.2 hml rfl rfl hR) rfl rfl hK hP hD hS rfl hsz hW rfl hdg kk
end q08
section q08
def vs_X9_stepsSinceThere : List Cond := .code yX9_stepsSinceThere cX9_stepsSinceThere 2 (some .int) :: zT
def rm_X9_stepsSinceThere : Room := { frames := 0, cells := 0, slots := 0, locals := 0 }
theorem cw_X9_stepsSinceThere {rm R : Room} {s : State} {args : Array Value} {own : String} {index : Nat} {c0 : Cond} (hts : ∀ w ∈ c0 :: zT, w.before args s = true) (hml : Cond.methodLink own index yX9_stepsSinceThere ∈ zT) (hrc : rm.cells = 0) (hrs : rm.slots = 0) (hR : rm.frames + 1 ≤ R.frames ∧ 8 + (2 + 11) + rm.locals ≤ R.locals) : CallW R s args own RX9 index yX9_stepsSinceThere cX9_stepsSinceThere 2 (some .int) vs_X9_stepsSinceThere rm 0 0 0 :=
  zwV 0 hts hml mw_671 mw_1353 mw_14 mw_672 hrc hrs (by decide +kernel) hR
def b_X9_stepsSinceThere_2 (N : Nat) (k_2 : Int32 → zSt → Prop) (Q : Int32 → zSt → Prop) (x1 : Int32) (σ : zSt) : Prop :=
  ((σ.1 30) ≤ x1 → Q (0 : Int32) σ) ∧ (¬ (σ.1 30) ≤ x1 → (vp_in x1 201) ∧ ((vp_in (σ.1 30) 201) ∧ (((lg_cmp (σ.2.2.2 10 x1.toNatClampNeg) (σ.2.2.2 10 (σ.1 30).toNatClampNeg)) = 0 → Q ((σ.1 30) - x1) σ) ∧ (¬ (lg_cmp (σ.2.2.2 10 x1.toNatClampNeg) (σ.2.2.2 10 (σ.1 30).toNatClampNeg)) = 0 → ∀ v1 : Int32, v1 = x1 + (1 : Int32) → k_2 v1 σ))))
def w_X9_stepsSinceThere_2 (N : Nat) (Q : Int32 → zSt → Prop) : Nat → Int32 → zSt → Prop
  | 0 => fun _ _ => False
  | f + 1 => b_X9_stepsSinceThere_2 N (w_X9_stepsSinceThere_2 N  Q f) Q
def w_X9_stepsSinceThere (N : Nat)  (σ : zSt) (Q : Int32 → zSt → Prop) : Prop :=
  w_X9_stepsSinceThere_2 N Q N (0 : Int32) σ
variable {p : Program} {l : Launch} {e : Env} {s : State} {m : MethodId} {args : Array Value} {below : List Frame} {meth : Method} {c : Code} {dC : Nat → ClassId} {dI : Nat → Nat → Nat} {ad : Nat → Nat} {cI cJ : ClassId}
set_option maxHeartbeats 4000000 in
set_option maxRecDepth 100000 in
theorem tb_X9_stepsSinceThere_2 (C0 : zCx p s m meth c args RX9 cX9_stepsSinceThere 2 (some .int) vs_X9_stepsSinceThere) (hK : va_K (dC, dI) vwCl (x_ty cI cJ) s) (N : Nat) {Q : Int32 → zSt → Prop} {k_2 : Int32 → zSt → Prop} (hk_2 : ∀ (x1 : Int32) (σ : zSt) (H : Heap) (locs : List Loc) (ls : Array Slot), k_2 x1 σ → va_P (dC, dI) vwCl (x_W ad cI cJ σ) H → va_D (zAW x_n ad s.heap.size) (x_W ad cI cJ σ) → va_S (zAW x_n ad s.heap.size) s.heap H locs → lv_has ls 2 [(0, .ref (ad 11)), (1, .int x1)] → W p l e rm_X9_stepsSinceThere s m args below meth c H locs 0 0 (MQ below (zQi (dC, dI) (x_ty cI cJ) (x_W ad cI cJ) (zAW x_n ad s.heap.size) Q) args s 0 0 (zAW x_n ad s.heap.size)) (F0 m 2 ls [])) : ∀ (x1 : Int32) (σ : zSt) (H : Heap) (locs : List Loc) (ls : Array Slot), b_X9_stepsSinceThere_2 N k_2 Q x1 σ → va_P (dC, dI) vwCl (x_W ad cI cJ σ) H → va_D (zAW x_n ad s.heap.size) (x_W ad cI cJ σ) → va_S (zAW x_n ad s.heap.size) s.heap H locs → lv_has ls 2 [(0, .ref (ad 11)), (1, .int x1)] → W p l e rm_X9_stepsSinceThere s m args below meth c H locs 0 0 (MQ below (zQi (dC, dI) (x_ty cI cJ) (x_W ad cI cJ) (zAW x_n ad s.heap.size) Q) args s 0 0 (zAW x_n ad s.heap.size)) (F0 m 2 ls []) := by
  obtain ⟨hx, hb, hml, hr, hown, hts, hlocks⟩ := id C0
  intro x1 σ H locs ls h hP hD hS hl
  unfold b_X9_stepsSinceThere_2 at h
  refine lv_iload_n hx hb dX9_stepsSinceThere_2 rfl (lv_at hl 1 rfl) ?_
  refine lv_aload_n hx hb dX9_stepsSinceThere_3 rfl (lv_at hl 0 rfl) ?_
  refine xg_11_4 hx hb hts hown hK hP mw_242 dX9_stepsSinceThere_4 ?_
  refine lv_icmp_ge (tgt := 42) hx hb dX9_stepsSinceThere_7 (by decide) (fun hc => ?_) (fun hc => ?_)
  · have h := h.1 hc
    refine lv_iconst (v := (0 : Int32)) hx hb dX9_stepsSinceThere_42 (by decide) ?_
    exact zret_i hx hb hr hlocks hK hP hD hS h dX9_stepsSinceThere_43
  · have h := h.2 hc
    refine lv_aload_n hx hb dX9_stepsSinceThere_10 rfl (lv_at hl 0 rfl) ?_
    refine xg_11_2 hx hb hts hown hK hP mw_240 dX9_stepsSinceThere_11 ?_
    refine lv_iload_n hx hb dX9_stepsSinceThere_14 rfl (lv_at hl 1 rfl) ?_
    refine xa_55 hx hb hK hP h.1 rfl dX9_stepsSinceThere_15 ?_
    have h := h.2
    refine lv_aload_n hx hb dX9_stepsSinceThere_16 rfl (lv_at hl 0 rfl) ?_
    refine xg_11_2 hx hb hts hown hK hP mw_240 dX9_stepsSinceThere_17 ?_
    refine lv_aload_n hx hb dX9_stepsSinceThere_20 rfl (lv_at hl 0 rfl) ?_
    refine xg_11_4 hx hb hts hown hK hP mw_242 dX9_stepsSinceThere_21 ?_
    refine xa_55 hx hb hK hP h.1 rfl dX9_stepsSinceThere_24 ?_
    have h := h.2
    refine W.lcmp hx hb dX9_stepsSinceThere_25 ?_
    refine lv_if_ne (tgt := 36) hx hb dX9_stepsSinceThere_26 (by decide) (fun hc => ?_) (fun hc => ?_)
    · have h := h.2 hc
      obtain ⟨v1, ev1⟩ : ∃ z : Int32, z = x1 + (1 : Int32) := ⟨_, rfl⟩
      have h := h v1 ev1
      refine lv_iinc (v := v1) (lv' := [(1, .int v1), (0, .ref (ad 11))]) hx hb dX9_stepsSinceThere_36 hl (k := 1) rfl (by rw [ev1]; rfl) (by decide) rfl (fun ls hl => ?_)
      refine lv_goto (tgt := 2) hx hb dX9_stepsSinceThere_39 (by decide) ?_
      exact hk_2 v1 σ _ _ _ h hP hD hS (lv_sub hl [1, 0] rfl)
    · have h := h.1 hc
      refine lv_aload_n hx hb dX9_stepsSinceThere_29 rfl (lv_at hl 0 rfl) ?_
      refine xg_11_4 hx hb hts hown hK hP mw_242 dX9_stepsSinceThere_30 ?_
      refine lv_iload_n hx hb dX9_stepsSinceThere_33 rfl (lv_at hl 1 rfl) ?_
      refine lv_isub hx hb dX9_stepsSinceThere_34 ?_
      exact zret_i hx hb hr hlocks hK hP hD hS h dX9_stepsSinceThere_35
set_option maxHeartbeats 4000000 in
set_option maxRecDepth 100000 in
theorem t_X9_stepsSinceThere_2 (C0 : zCx p s m meth c args RX9 cX9_stepsSinceThere 2 (some .int) vs_X9_stepsSinceThere) (hK : va_K (dC, dI) vwCl (x_ty cI cJ) s) (N : Nat) {Q : Int32 → zSt → Prop} : ∀ (f : Nat) (x1 : Int32) (σ : zSt) (H : Heap) (locs : List Loc) (ls : Array Slot), w_X9_stepsSinceThere_2 N  Q f x1 σ → va_P (dC, dI) vwCl (x_W ad cI cJ σ) H → va_D (zAW x_n ad s.heap.size) (x_W ad cI cJ σ) → va_S (zAW x_n ad s.heap.size) s.heap H locs → lv_has ls 2 [(0, .ref (ad 11)), (1, .int x1)] → W p l e rm_X9_stepsSinceThere s m args below meth c H locs 0 0 (MQ below (zQi (dC, dI) (x_ty cI cJ) (x_W ad cI cJ) (zAW x_n ad s.heap.size) Q) args s 0 0 (zAW x_n ad s.heap.size)) (F0 m 2 ls []) := by
  intro f
  induction f with
  | zero => intro x1 σ H locs ls h; exact h.elim
  | succ f ih =>
    intro x1 σ H locs ls h hP hD hS hl
    exact tb_X9_stepsSinceThere_2 C0 hK N  (k_2 := w_X9_stepsSinceThere_2 N  Q f) ih x1 σ H locs ls h hP hD hS hl
set_option maxHeartbeats 4000000 in
set_option maxRecDepth 100000 in
theorem t_X9_stepsSinceThere_0 (C0 : zCx p s m meth c args RX9 cX9_stepsSinceThere 2 (some .int) vs_X9_stepsSinceThere) (hK : va_K (dC, dI) vwCl (x_ty cI cJ) s) (N : Nat) {Q : Int32 → zSt → Prop} : ∀  (σ : zSt) (H : Heap) (locs : List Loc) (ls : Array Slot), w_X9_stepsSinceThere N  σ Q → va_P (dC, dI) vwCl (x_W ad cI cJ σ) H → va_D (zAW x_n ad s.heap.size) (x_W ad cI cJ σ) → va_S (zAW x_n ad s.heap.size) s.heap H locs → lv_has ls 2 [(0, .ref (ad 11))] → W p l e rm_X9_stepsSinceThere s m args below meth c H locs 0 0 (MQ below (zQi (dC, dI) (x_ty cI cJ) (x_W ad cI cJ) (zAW x_n ad s.heap.size) Q) args s 0 0 (zAW x_n ad s.heap.size)) (F0 m 0 ls []) := by
  obtain ⟨hx, hb, hml, hr, hown, hts, hlocks⟩ := id C0
  intro  σ H locs ls h hP hD hS hl
  unfold w_X9_stepsSinceThere at h
  refine lv_iconst (v := (0 : Int32)) hx hb dX9_stepsSinceThere_0 (by decide) ?_
  refine lv_istore_n (lv' := [(1, .int (0 : Int32)), (0, .ref (ad 11))]) hx hb dX9_stepsSinceThere_1 rfl hl (by decide) rfl (fun ls hl => ?_)
  exact t_X9_stepsSinceThere_2 C0 hK N  N (0 : Int32) σ _ _ _ h hP hD hS (lv_sub hl [1, 0] rfl)
set_option maxHeartbeats 4000000 in
set_option maxRecDepth 100000 in
theorem c_X9_stepsSinceThere (N : Nat) (l : Launch) (dC : Nat → ClassId) (dI : Nat → Nat → Nat) (ad : Nat → Nat) (cI cJ : ClassId) (sz : Nat) (σ : zSt)  (Q : Int32 → zSt → Prop) (h : w_X9_stepsSinceThere N  σ Q) : Met l yX9_stepsSinceThere vs_X9_stepsSinceThere rm_X9_stepsSinceThere (va_Pc [.ref (ad 11)] (zPc (dC, dI) (x_ty cI cJ) (x_W ad cI cJ) sz σ)) (zQi (dC, dI) (x_ty cI cJ) (x_W ad cI cJ) (zAW x_n ad sz) Q) 0 0 (zAW x_n ad sz) := by
  refine Met.ofW (cc := cX9_stepsSinceThere) (maxL := 2) (ret := (some .int)) (by decide) rfl ?_
  intro p e s m args below meth c s₁ B hml hv
  obtain ⟨rfl, hsz, hP, hK, hD0⟩ := hv
  subst hsz
  have C0 : zCx p s m meth c _ RX9 cX9_stepsSinceThere 2 (some .int) vs_X9_stepsSinceThere := ⟨B.exec, B.bytes, hml, B.returns, findClass_of_methodNamed B.named, atoms_spec (ws := vs_X9_stepsSinceThere) B.pre, B.notSynchronized⟩
  have hD := x_D0 (n0 := s.heap.size) hD0
  have hl := lv_entry ([.ref (ad 11)]) (n := 2) (Nat.le_of_ble_eq_true rfl)
  rw [lg_entry_eq]
  generalize (lg_sl ([.ref (ad 11)]) ++ List.replicate (2 - (lg_sl ([.ref (ad 11)])).length) Slot.unset).toArray = ls at hl ⊢
  exact t_X9_stepsSinceThere_0 C0 hK N  σ _ _ ls h hP hD va_S.rf hl
theorem k_X9_stepsSinceThere (N : Nat) {R : Room} {H : Heap} {locs : List Loc} {Q2 : State → Prop} {cc : ByteArray} {nL pc index : Nat} {ls : Array Slot} {rest : List Value} {own : String} {c0 : Cond} {σ : zSt}  {Q : Int32 → zSt → Prop} (S0 : CallFix p m c cc nL s args (c0 :: zT) own) (hml : Cond.methodLink own index yX9_stepsSinceThere ∈ zT) (hR : rm_X9_stepsSinceThere.frames + 1 ≤ R.frames ∧ 8 + (2 + 11) + rm_X9_stepsSinceThere.locals ≤ R.locals) (h : w_X9_stepsSinceThere N  σ Q) (hK : va_K (dC, dI) vwCl (x_ty cI cJ) s) (hP : va_P (dC, dI) vwCl (x_W ad cI cJ σ) H) (hD : va_D (zAW x_n ad s.heap.size) (x_W ad cI cJ σ)) (hS : va_S (zAW x_n ad s.heap.size) s.heap H locs) (hsz : ls.size = nL) (hW : (rest.map fun v => v.category).sum ≤ 8) (hdg : decode cc pc = .ok (.invokevirtual index, 3)) (kk : ∀ (r : Int32) (τ : zSt) (H1 : Heap) (locs1 : List Loc), Q r τ → va_P (dC, dI) vwCl (x_W ad cI cJ τ) H1 → va_D (zAW x_n ad s.heap.size) (x_W ad cI cJ τ) → va_S (zAW x_n ad s.heap.size) s.heap H1 locs1 → W p l e R s m args below meth c H1 locs1 0 0 Q2 (F0 m (pc + 3) ls (.int r :: rest))) : W p l e R s m args below meth c H locs 0 0 Q2 (F0 m pc ls (.ref (ad 11) :: rest)) :=
  zcv_i (T := TX9) (N' := 7) (k := 11) (ci := 9) (fs := x_f11 ad σ) [] S0 (c_X9_stepsSinceThere N l dC dI ad cI cJ H.size σ  Q h) (cw_X9_stepsSinceThere S0.2.2.2.2 hml rfl rfl hR) rfl rfl hK hP hD hS rfl hsz hW rfl hdg kk
end q08
