def rm_X5_init : Room := { frames := 4, cells := 6, slots := 3230, locals := 200 }
def vs_X5_init : List Cond := .code yX5_init cX5_init 8 none :: zT
section ql_X5_init
def b_X5_init_49 (N : Nat) (k_49 : Int32 → Int32 → Int32 → zSt → Prop) (Q : zSt → Prop) (x4 : Int32) (x5 : Int32) (x6 : Int32) (σ : zSt) : Prop :=
  ((85 : Int32) ≤ x6 → Q σ) ∧ (¬ (85 : Int32) ≤ x6 → ((19 : Int32) ≤ x4 → Q σ) ∧ (¬ (19 : Int32) ≤ x4 → (vp_in x6 85) ∧ (∀ v1 : Int32, v1 = zch x6 → (v1 = (32 : Int32) → ∀ v5 : Int32, v5 = x4 + (1 : Int32) → ∀ v6 : Int32, v6 = x6 + (1 : Int32) → k_49 v5 (30 : Int32) v6 σ) ∧ (¬ v1 = (32 : Int32) → ∀ v2 : Int32, v2 = x5 + (-5 : Int32) → (vp_in x4 19) ∧ ((vp_in x4 19) ∧ (∀ τ3 : zSt, τ3 = zA σ 0 (upd (σ.2.2.1 0) (x4.toNatClampNeg) ((σ.2.2.1 0 x4.toNatClampNeg) ||| (((v1 - (97 : Int32)) + (1 : Int32)) <<< (v2 &&& 31)))) → ∀ v4 : Int32, v4 = x6 + (1 : Int32) → k_49 x4 v2 v4 τ3))))))
def w_X5_init_49 (N : Nat) (Q : zSt → Prop) : Nat → Int32 → Int32 → Int32 → zSt → Prop
  | 0 => fun _ _ _ _ => False
  | f + 1 => b_X5_init_49 N (w_X5_init_49 N  Q f) Q
variable {p : Program} {l : Launch} {e : Env} {s : State} {m : MethodId} {args : Array Value} {below : List Frame} {meth : Method} {c : Code} {dC : Nat → ClassId} {dI : Nat → Nat → Nat} {ad : Nat → Nat} {cI cJ cC : ClassId}
set_option maxHeartbeats 4000000 in
set_option maxRecDepth 100000 in
theorem tb_X5_init_49 (C0 : zCx p s m meth c args RX5 cX5_init 8 none vs_X5_init) (hK : va_K (dC, dI) vwCl (r_ty cI cJ cC) s) (N : Nat) {qs qv : Nat} (hRs : vk_R RX5 36 zOWN qs s) (hFs : zSf qs qv (zAW r_n ad s.heap.size) s s.heap) {Q : zSt → Prop} {k_49 : Int32 → Int32 → Int32 → zSt → Prop} (hk_49 : ∀ (x4 : Int32) (x5 : Int32) (x6 : Int32) (σ : zSt) (H : Heap) (locs : List Loc) (ls : Array Slot), k_49 x4 x5 x6 σ → va_P (dC, dI) vwCl (r_W ad cI cJ cC σ) H → va_D (zAW r_n ad s.heap.size) (r_W ad cI cJ cC σ) → va_S (zAW r_n ad s.heap.size) s.heap H locs → lv_has ls 8 [(0, .ref (ad 0)), (4, .int x4), (5, .int x5), (6, .int x6)] → W p l e rm_X5_init s m args below meth c H locs 6 3230 (MQ below (zQv (dC, dI) (r_ty cI cJ cC) (r_W ad cI cJ cC) (zAW r_n ad s.heap.size) Q) args s 6 3230 (zAW r_n ad s.heap.size)) (F0 m 49 ls [])) : ∀ (x4 : Int32) (x5 : Int32) (x6 : Int32) (σ : zSt) (H : Heap) (locs : List Loc) (ls : Array Slot), b_X5_init_49 N k_49 Q x4 x5 x6 σ → va_P (dC, dI) vwCl (r_W ad cI cJ cC σ) H → va_D (zAW r_n ad s.heap.size) (r_W ad cI cJ cC σ) → va_S (zAW r_n ad s.heap.size) s.heap H locs → lv_has ls 8 [(0, .ref (ad 0)), (4, .int x4), (5, .int x5), (6, .int x6)] → W p l e rm_X5_init s m args below meth c H locs 6 3230 (MQ below (zQv (dC, dI) (r_ty cI cJ cC) (r_W ad cI cJ cC) (zAW r_n ad s.heap.size) Q) args s 6 3230 (zAW r_n ad s.heap.size)) (F0 m 49 ls []) := by
  obtain ⟨hx, hb, hml, hr, hown, hts, hlocks⟩ := id C0
  intro x4 x5 x6 σ H locs ls h hP hD hS hl
  unfold b_X5_init_49 at h
  refine lv_iload hx hb dX5_init_49 (lv_at hl 3 rfl) ?_
  refine va_ldcS hx hb hown hRs dX5_init_51 ?_
  refine zlen ⟨hx, hb, hml, hown, hts⟩ mw_130 ⟨Nat.le_of_ble_eq_true rfl, Nat.le_of_ble_eq_true rfl⟩ hFs hP hS hl.1 (Nat.le_of_ble_eq_true rfl) ⟨Nat.le_of_ble_eq_true rfl, Nat.le_of_ble_eq_true rfl⟩ dX5_init_53 (fun H locs hP hS => ?_)
  refine lv_icmp_ge (tgt := 124) hx hb dX5_init_56 (by decide) (fun hc => ?_) (fun hc => ?_)
  · have h := h.1 hc
    exact zret_v hx hb hr hlocks hK hP hD hS h dX5_init_124
  · have h := h.2 hc
    refine lv_iload hx hb dX5_init_59 (lv_at hl 1 rfl) ?_
    refine lv_aload_n hx hb dX5_init_61 rfl (lv_at hl 0 rfl) ?_
    refine rg_0_3 hx hb hts hown hK hP mw_178 dX5_init_62 ?_
    refine rl_2 hx hb hK hP dX5_init_65 ?_
    refine lv_icmp_ge (tgt := 124) hx hb dX5_init_66 (by decide) (fun hc => ?_) (fun hc => ?_)
    · have h := h.1 hc
      exact zret_v hx hb hr hlocks hK hP hD hS h dX5_init_124
    · have h := h.2 hc
      refine va_ldcS hx hb hown hRs dX5_init_69 ?_
      refine lv_iload hx hb dX5_init_71 (lv_at hl 3 rfl) ?_
      refine zcha ⟨hx, hb, hml, hown, hts⟩ mw_139 ⟨Nat.le_of_ble_eq_true rfl, Nat.le_of_ble_eq_true rfl⟩ hFs h.1 hP hS hl.1 (Nat.le_of_ble_eq_true rfl) ⟨Nat.le_of_ble_eq_true rfl, Nat.le_of_ble_eq_true rfl⟩ dX5_init_73 (fun H locs hP hS => ?_)
      have h := h.2
      refine lv_topi (fun v1 ev1 => ?_)
      have h := h v1 ev1
      refine lv_istore (lv' := [(7, .int v1), (0, .ref (ad 0)), (4, .int x4), (5, .int x5), (6, .int x6)]) hx hb dX5_init_76 hl (by decide) rfl (fun ls hl => ?_)
      refine lv_iload hx hb dX5_init_78 (lv_at hl 0 rfl) ?_
      refine lv_bipush (v := (32 : Int32)) hx hb dX5_init_80 (by decide) ?_
      refine lv_icmp_ne (tgt := 95) hx hb dX5_init_82 (by decide) (fun hc => ?_) (fun hc => ?_)
      · have h := h.2 hc
        obtain ⟨v2, ev2⟩ : ∃ z : Int32, z = x5 + (-5 : Int32) := ⟨_, rfl⟩
        have h := h v2 ev2
        refine lv_iinc (v := v2) (lv' := [(5, .int v2), (7, .int v1), (0, .ref (ad 0)), (4, .int x4), (6, .int x6)]) hx hb dX5_init_95 hl (k := 3) rfl (by rw [ev2]; rfl) (by decide) rfl (fun ls hl => ?_)
        refine lv_aload_n hx hb dX5_init_98 rfl (lv_at hl 2 rfl) ?_
        refine rg_0_3 hx hb hts hown hK hP mw_178 dX5_init_99 ?_
        refine lv_iload hx hb dX5_init_102 (lv_at hl 3 rfl) ?_
        refine lv_dup2_11 hx hb dX5_init_104 rfl rfl ?_
        refine ra_2 hx hb hK hP h.1 rfl dX5_init_105 ?_
        have h := h.2
        refine lv_iload hx hb dX5_init_106 (lv_at hl 1 rfl) ?_
        refine lv_bipush (v := (97 : Int32)) hx hb dX5_init_108 (by decide) ?_
        refine lv_isub hx hb dX5_init_110 ?_
        refine lv_iconst (v := (1 : Int32)) hx hb dX5_init_111 (by decide) ?_
        refine lv_iadd hx hb dX5_init_112 ?_
        refine lv_iload hx hb dX5_init_113 (lv_at hl 0 rfl) ?_
        refine lv_ishl hx hb dX5_init_115 ?_
        refine lv_ior hx hb dX5_init_116 ?_
        refine rs_2 hx hb hK hP hD hS h.1 rfl dX5_init_117 (fun τ3 H locs eτ3 hP hD hS => ?_)
        have h := h.2
        have h := h τ3 eτ3
        obtain ⟨v4, ev4⟩ : ∃ z : Int32, z = x6 + (1 : Int32) := ⟨_, rfl⟩
        have h := h v4 ev4
        refine lv_iinc (v := v4) (lv' := [(6, .int v4), (5, .int v2), (7, .int v1), (0, .ref (ad 0)), (4, .int x4)]) hx hb dX5_init_118 hl (k := 4) rfl (by rw [ev4]; rfl) (by decide) rfl (fun ls hl => ?_)
        refine lv_goto (tgt := 49) hx hb dX5_init_121 (by decide) ?_
        exact hk_49 x4 v2 v4 τ3 _ _ _ h hP hD hS (lv_sub hl [3, 4, 1, 0] rfl)
      · have h := h.1 hc
        obtain ⟨v5, ev5⟩ : ∃ z : Int32, z = x4 + (1 : Int32) := ⟨_, rfl⟩
        have h := h v5 ev5
        refine lv_iinc (v := v5) (lv' := [(4, .int v5), (7, .int v1), (0, .ref (ad 0)), (5, .int x5), (6, .int x6)]) hx hb dX5_init_85 hl (k := 2) rfl (by rw [ev5]; rfl) (by decide) rfl (fun ls hl => ?_)
        refine lv_bipush (v := (30 : Int32)) hx hb dX5_init_88 (by decide) ?_
        refine lv_istore (lv' := [(5, .int (30 : Int32)), (4, .int v5), (7, .int v1), (0, .ref (ad 0)), (6, .int x6)]) hx hb dX5_init_90 hl (by decide) rfl (fun ls hl => ?_)
        refine lv_goto (tgt := 118) hx hb dX5_init_92 (by decide) ?_
        obtain ⟨v6, ev6⟩ : ∃ z : Int32, z = x6 + (1 : Int32) := ⟨_, rfl⟩
        have h := h v6 ev6
        refine lv_iinc (v := v6) (lv' := [(6, .int v6), (5, .int (30 : Int32)), (4, .int v5), (7, .int v1), (0, .ref (ad 0))]) hx hb dX5_init_118 hl (k := 4) rfl (by rw [ev6]; rfl) (by decide) rfl (fun ls hl => ?_)
        refine lv_goto (tgt := 49) hx hb dX5_init_121 (by decide) ?_
        exact hk_49 v5 (30 : Int32) v6 σ _ _ _ h hP hD hS (lv_sub hl [4, 2, 1, 0] rfl)
set_option maxHeartbeats 4000000 in
set_option maxRecDepth 100000 in
theorem t_X5_init_49 (C0 : zCx p s m meth c args RX5 cX5_init 8 none vs_X5_init) (hK : va_K (dC, dI) vwCl (r_ty cI cJ cC) s) (N : Nat) {qs qv : Nat} (hRs : vk_R RX5 36 zOWN qs s) (hFs : zSf qs qv (zAW r_n ad s.heap.size) s s.heap) {Q : zSt → Prop} : ∀ (f : Nat) (x4 : Int32) (x5 : Int32) (x6 : Int32) (σ : zSt) (H : Heap) (locs : List Loc) (ls : Array Slot), w_X5_init_49 N  Q f x4 x5 x6 σ → va_P (dC, dI) vwCl (r_W ad cI cJ cC σ) H → va_D (zAW r_n ad s.heap.size) (r_W ad cI cJ cC σ) → va_S (zAW r_n ad s.heap.size) s.heap H locs → lv_has ls 8 [(0, .ref (ad 0)), (4, .int x4), (5, .int x5), (6, .int x6)] → W p l e rm_X5_init s m args below meth c H locs 6 3230 (MQ below (zQv (dC, dI) (r_ty cI cJ cC) (r_W ad cI cJ cC) (zAW r_n ad s.heap.size) Q) args s 6 3230 (zAW r_n ad s.heap.size)) (F0 m 49 ls []) := by
  intro f
  induction f with
  | zero => intro x4 x5 x6 σ H locs ls h; exact h.elim
  | succ f ih =>
    intro x4 x5 x6 σ H locs ls h hP hD hS hl
    exact tb_X5_init_49 C0 hK N hRs hFs  (k_49 := w_X5_init_49 N  Q f) ih x4 x5 x6 σ H locs ls h hP hD hS hl
end ql_X5_init
set_option maxHeartbeats 4000000 in
set_option maxRecDepth 100000 in
theorem c_X5_init (l : Launch) (dC : Nat → ClassId) (dI : Nat → Nat → Nat) (cI cJ cC : ClassId) (h0 r1 r2 r3 qs qv : Nat) (sz : Nat) (N : Nat) (Q : zSt → Prop) (h : w_X5_init_49 N Q N (0 : Int32) (30 : Int32) (0 : Int32) (zI zS0 2 (-1))) : Met l yX5_init vs_X5_init rm_X5_init (va_Pc [.ref h0, .ref r1, .ref r2, .ref r3] (fun U => U.heap.size = sz ∧ va_P (dC, dI) vwCl [(h0, .inr (5, [.null, .null, .null, .null, .int 0, .int 0, .int 0, .int 0, .int 0, .int 0, .int 0, .int 0, .int 0, .int 0]))] U.heap ∧ va_K (dC, dI) vwCl (m_ty cI cJ cC) U ∧ va_D (fun _ => True) [(h0, .inr (5, [.null, .null, .null, .null, .int 0, .int 0, .int 0, .int 0, .int 0, .int 0, .int 0, .int 0, .int 0, .int 0]))] ∧ vk_R RX5 36 zOWN qs U ∧ zSf qs qv (va_A [(h0, .inr (5, [.null, .null, .null, .null, .int 0, .int 0, .int 0, .int 0, .int 0, .int 0, .int 0, .int 0, .int 0, .int 0]))] sz) U U.heap)) (va_Qv Q (fun u t => ∃ q1 q2 q3 q4 q5 q6 : Nat, va_P (dC, dI) vwCl [(h0, .inr (5, [.ref q2, .ref r2, .ref r3, .ref q1, .int (u.1 0), .int (u.1 1), .int (u.1 2), .int (u.1 3), .int (u.1 4), .int (u.1 5), .int (u.1 6), .int (u.1 7), .int (u.1 8), .int (u.1 9)])), (q2, .inr (8, [.ref r1, .ref q3, .ref q4, .ref q5, .ref q6, .int (u.1 10), .int (u.1 11)])), (q1, .inl (cI, 19, .inl (u.2.2.1 0))), (q3, .inl (cI, 801, .inl (u.2.2.1 1))), (q4, .inl (cI, 801, .inl (u.2.2.1 2))), (q5, .inl (cI, 801, .inl (u.2.2.1 3))), (q6, .inl (cI, 801, .inl (u.2.2.1 4)))] t.heap ∧ va_K (dC, dI) vwCl (m_ty cI cJ cC) t ∧ va_D (va_A [(h0, .inr (5, [.null, .null, .null, .null, .int 0, .int 0, .int 0, .int 0, .int 0, .int 0, .int 0, .int 0, .int 0, .int 0]))] sz) [(h0, .inr (5, [.ref q2, .ref r2, .ref r3, .ref q1, .int (u.1 0), .int (u.1 1), .int (u.1 2), .int (u.1 3), .int (u.1 4), .int (u.1 5), .int (u.1 6), .int (u.1 7), .int (u.1 8), .int (u.1 9)])), (q2, .inr (8, [.ref r1, .ref q3, .ref q4, .ref q5, .ref q6, .int (u.1 10), .int (u.1 11)])), (q1, .inl (cI, 19, .inl (u.2.2.1 0))), (q3, .inl (cI, 801, .inl (u.2.2.1 1))), (q4, .inl (cI, 801, .inl (u.2.2.1 2))), (q5, .inl (cI, 801, .inl (u.2.2.1 3))), (q6, .inl (cI, 801, .inl (u.2.2.1 4)))]) (va_A [(h0, .inr (5, [.null, .null, .null, .null, .int 0, .int 0, .int 0, .int 0, .int 0, .int 0, .int 0, .int 0, .int 0, .int 0]))] sz)) 6 3230 (va_A [(h0, .inr (5, [.null, .null, .null, .null, .int 0, .int 0, .int 0, .int 0, .int 0, .int 0, .int 0, .int 0, .int 0, .int 0]))] sz) := by
  refine Met.ofW (cc := cX5_init) (maxL := 8) (ret := none) (by decide) rfl ?_
  intro p e s m args below meth c s₁ B hml hv
  obtain ⟨rfl, hsz, hP, hK, hD0, hRs, hFs⟩ := hv
  have hx := B.exec
  have hb := B.bytes
  have hr := B.returns
  have hts := atoms_spec (ws := vs_X5_init) B.pre
  have hown : s.vm.findClass RX5 = some m.cls := findClass_of_methodNamed B.named
  have hlocks := B.notSynchronized
  have hin2 : meth.name = "<init>" := (name_of_methodNamed B.named B.method).1
  subst hsz
  have hD := hD0.self (sz := s.heap.size)
  generalize hAe : va_A [(h0, .inr (5, [.null, .null, .null, .null, .int 0, .int 0, .int 0, .int 0, .int 0, .int 0, .int 0, .int 0, .int 0, .int 0]))] s.heap.size = A at hD hFs ⊢
  have hA : ∀ q : Nat, s.heap.size ≤ q → A q := fun q h => by rw [← hAe]; exact Or.inr h
  have hS : va_S A s.heap s.heap [] := va_S.rf
  have hl := lv_entry ([.ref h0, .ref r1, .ref r2, .ref r3]) (n := 8) (Nat.le_of_ble_eq_true rfl)
  rw [lg_entry_eq]
  generalize (lg_sl ([.ref h0, .ref r1, .ref r2, .ref r3]) ++ List.replicate (8 - (lg_sl ([.ref h0, .ref r1, .ref r2, .ref r3])).length) Slot.unset).toArray = ls at hl ⊢
  have hl : lv_has ls 8 [(0, .ref h0), (1, .ref r1), (2, .ref r2), (3, .ref r3)] := hl
  refine lv_aload_n hx hb dX5_init_0 rfl (lv_at hl 0 rfl) ?_
  refine W.objInit hx hb hown (hts _ (List.mem_cons_of_mem _ mw_111)) (hts _ (List.mem_cons_of_mem _ mw_29)) (hts _ (List.mem_cons_of_mem _ mwx_obj)) rfl (by rw [hml]; exact hl.1) rfl dX5_init_1 (Nat.le_of_ble_eq_true rfl) (Nat.le_of_ble_eq_true rfl) ?_
  refine W.eq (g2 := F0 m 4 ls []) rfl ?_
  refine lv_aload_n hx hb dX5_init_4 rfl (lv_at hl 0 rfl) ?_
  refine lv_bipush (v := (19 : Int32)) hx hb dX5_init_5 (by decide) ?_
  refine znew_i (N' := 19) hx hb (hts _ (List.mem_cons_of_mem _ mw_38)) hK 0 rfl hP hD hS hA (by decide) (by decide) (by decide) (Nat.le_of_ble_eq_true rfl) (Nat.le_of_ble_eq_true rfl) dX5_init_7 (fun q1 H hP hD hS => ?_)
  have hP : va_P (dC, dI) vwCl [(h0, .inr (5, [.null, .null, .null, .null, .int 0, .int 0, .int 0, .int 0, .int 0, .int 0, .int 0, .int 0, .int 0, .int 0])), (q1, .inl (cI, 19, .inl (fun _ => 0)))] H := hP
  have hD : va_D A [(h0, .inr (5, [.null, .null, .null, .null, .int 0, .int 0, .int 0, .int 0, .int 0, .int 0, .int 0, .int 0, .int 0, .int 0])), (q1, .inl (cI, 19, .inl (fun _ => 0)))] := hD
  refine va_putF (D := (dC, dI)) (ci := 5) (v := .ref q1) (ty := .array .int) (C := RX5) (T := TX5) (N := 14) hx hb hts (fun w h => List.mem_cons_of_mem _ (inX5 w h)) tyX5 tyX5_ok nmX5 hown hK hP hD hS 0 rfl rfl 3 (by decide) (hts _ (List.mem_cons_of_mem _ mw_178)) (fun _ h9 => h9) rfl hin2 rfl (by decide +kernel) rfl rfl (Nat.le_of_ble_eq_true rfl) dX5_init_9 (fun H locs hP hD hS => ?_)
  have hP : va_P (dC, dI) vwCl [(h0, .inr (5, [.null, .null, .null, .ref q1, .int 0, .int 0, .int 0, .int 0, .int 0, .int 0, .int 0, .int 0, .int 0, .int 0])), (q1, .inl (cI, 19, .inl (fun _ => 0)))] H := hP
  have hD : va_D A [(h0, .inr (5, [.null, .null, .null, .ref q1, .int 0, .int 0, .int 0, .int 0, .int 0, .int 0, .int 0, .int 0, .int 0, .int 0])), (q1, .inl (cI, 19, .inl (fun _ => 0)))] := hD
  refine lv_aload_n hx hb dX5_init_12 rfl (lv_at hl 0 rfl) ?_
  refine lv_iconst (v := (-1 : Int32)) hx hb dX5_init_13 (by decide) ?_
  refine va_put (D := (dC, dI)) (ci := 5) (v := .int (-1 : Int32)) (ty := .int) (C := RX5) (T := TX5) (N := 14) hx hb hts (fun w h => List.mem_cons_of_mem _ (inX5 w h)) tyX5 tyX5_ok nmX5 hown hK hP hD hS 0 rfl rfl 6 (by decide) (hts _ (List.mem_cons_of_mem _ mw_183)) (fun _ h9 => h9) rfl (by decide +kernel) rfl rfl (Nat.le_of_ble_eq_true rfl) dX5_init_14 (fun H locs hP hD hS => ?_)
  have hP : va_P (dC, dI) vwCl [(h0, .inr (5, [.null, .null, .null, .ref q1, .int 0, .int 0, .int (-1 : Int32), .int 0, .int 0, .int 0, .int 0, .int 0, .int 0, .int 0])), (q1, .inl (cI, 19, .inl (fun _ => 0)))] H := hP
  have hD : va_D A [(h0, .inr (5, [.null, .null, .null, .ref q1, .int 0, .int 0, .int (-1 : Int32), .int 0, .int 0, .int 0, .int 0, .int 0, .int 0, .int 0])), (q1, .inl (cI, 19, .inl (fun _ => 0)))] := hD
  refine lv_aload_n hx hb dX5_init_17 rfl (lv_at hl 0 rfl) ?_
  refine va_new (ci := 8) (fs := [.null, .null, .null, .null, .null, .int 0, .int 0]) (C := RX8) (T := TX8) (N := 7) hx hb hts (fun w h => List.mem_cons_of_mem _ (inX8 w h)) tyX8 tyX8_ok hown (hts _ (List.mem_cons_of_mem _ mw_112)) (hts _ (List.mem_cons_of_mem _ mw_113)) (hts _ (List.mem_cons_of_mem _ mw_7)) hK hP hD hS hA rfl (fun j hj => by rcases (show j = 0 ∨ j = 1 ∨ j = 2 ∨ j = 3 ∨ j = 4 ∨ j = 5 ∨ j = 6 by omega) with rfl | rfl | rfl | rfl | rfl | rfl | rfl <;> rfl) (Nat.le_of_ble_eq_true rfl) (Nat.le_of_ble_eq_true rfl) dX5_init_18 (fun q2 H hP hD hS => ?_)
  have hP : va_P (dC, dI) vwCl [(h0, .inr (5, [.null, .null, .null, .ref q1, .int 0, .int 0, .int (-1 : Int32), .int 0, .int 0, .int 0, .int 0, .int 0, .int 0, .int 0])), (q1, .inl (cI, 19, .inl (fun _ => 0))), (q2, .inr (8, [.null, .null, .null, .null, .null, .int 0, .int 0]))] H := hP
  have hD : va_D A [(h0, .inr (5, [.null, .null, .null, .ref q1, .int 0, .int 0, .int (-1 : Int32), .int 0, .int 0, .int 0, .int 0, .int 0, .int 0, .int 0])), (q1, .inl (cI, 19, .inl (fun _ => 0))), (q2, .inr (8, [.null, .null, .null, .null, .null, .int 0, .int 0]))] := hD
  refine lv_dup hx hb dX5_init_21 rfl ?_
  refine lv_aload_n hx hb dX5_init_22 rfl (lv_at hl 1 rfl) ?_
  have hPc := hP.sub (ws' := [(q2, .inr (8, [.null, .null, .null, .null, .null, .int 0, .int 0]))]) [2] rfl
  have hDc := hD.sub (ws' := [(q2, .inr (8, [.null, .null, .null, .null, .null, .int 0, .int 0]))]) [2] (by decide) rfl
  have hFc := va_free (wc := [(q2, .inr (8, [.null, .null, .null, .null, .null, .int 0, .int 0]))]) hD hS hA [2] rfl
  refine va_callv (va_runI (As := [.ref r1]) (rest := [.ref q2, .ref h0]) ⟨hx, hb, hml, hown, hts⟩ (c_X8_init l dC dI cI cJ cC q2 r1 H.size) (cwI 1 hts (zG (u := []) (fun w h => absurd h List.not_mem_nil) mw_116) rfl rfl rfl (hts _ (List.mem_cons_of_mem _ mw_7)) (hts _ (List.mem_cons_of_mem _ mw_114)) (hts _ (List.mem_cons_of_mem _ mw_115)) rfl (by decide +kernel) ⟨Nat.le_of_ble_eq_true rfl, Nat.le_of_ble_eq_true rfl⟩) ⟨fun a U g mk q => by obtain ⟨q0, q1, qP, qK, qD⟩ := q; exact ⟨q0, q1, qP, va_K.moved (u := U) (U := U.calling g mk a) (Vm.Alike.refl U.vm) qK, qD⟩, fun U hU hW => ⟨rfl, by rw [hU], by rw [hU]; exact hPc, va_K.moved hW.alike hK, hDc.weaken (fun _ _ _ _ => trivial)⟩⟩ rfl rfl hl.1 rfl (lv_room (Nat.le_of_ble_eq_true rfl)) dX5_init_23 ⟨Nat.le_of_ble_eq_true rfl, Nat.le_of_ble_eq_true rfl⟩) hS (fun q _ h => hFc q h) hFc (fun u t H1 locs ht hvm hw hB hz1 hk1 hS => ?_)
  obtain ⟨q3, q4, q5, q6, hP1, hK1, hD1⟩ := hB
  rw [ht] at hP1
  obtain ⟨hP, hD⟩ := va_join (wr := [(h0, .inr (5, [.null, .null, .null, .ref q1, .int 0, .int 0, .int (-1 : Int32), .int 0, .int 0, .int 0, .int 0, .int 0, .int 0, .int 0])), (q1, .inl (cI, 19, .inl (fun _ => 0)))]) (w1 := [(q2, .inr (8, [.ref r1, .ref q3, .ref q4, .ref q5, .ref q6, .int 0, .int 0])), (q3, .inl (cI, 801, .inl (fun _ => 0))), (q4, .inl (cI, 801, .inl (fun _ => 0))), (q5, .inl (cI, 801, .inl (fun _ => 0))), (q6, .inl (cI, 801, .inl (fun _ => 0)))]) hP hD [2] [0, 1] rfl rfl (by decide) (by decide) hk1 hFc hP1 hD1
  generalize H1 = H at hP hS ⊢
  have hP : va_P (dC, dI) vwCl [(h0, .inr (5, [.null, .null, .null, .ref q1, .int 0, .int 0, .int (-1 : Int32), .int 0, .int 0, .int 0, .int 0, .int 0, .int 0, .int 0])), (q1, .inl (cI, 19, .inl (fun _ => 0))), (q2, .inr (8, [.ref r1, .ref q3, .ref q4, .ref q5, .ref q6, .int 0, .int 0])), (q3, .inl (cI, 801, .inl (fun _ => 0))), (q4, .inl (cI, 801, .inl (fun _ => 0))), (q5, .inl (cI, 801, .inl (fun _ => 0))), (q6, .inl (cI, 801, .inl (fun _ => 0)))] H := hP
  have hD : va_D A [(h0, .inr (5, [.null, .null, .null, .ref q1, .int 0, .int 0, .int (-1 : Int32), .int 0, .int 0, .int 0, .int 0, .int 0, .int 0, .int 0])), (q1, .inl (cI, 19, .inl (fun _ => 0))), (q2, .inr (8, [.ref r1, .ref q3, .ref q4, .ref q5, .ref q6, .int 0, .int 0])), (q3, .inl (cI, 801, .inl (fun _ => 0))), (q4, .inl (cI, 801, .inl (fun _ => 0))), (q5, .inl (cI, 801, .inl (fun _ => 0))), (q6, .inl (cI, 801, .inl (fun _ => 0)))] := hD
  refine va_putF (D := (dC, dI)) (ci := 5) (v := .ref q2) (ty := .object "TieStreet$Tokens") (C := RX5) (T := TX5) (N := 14) hx hb hts (fun w h => List.mem_cons_of_mem _ (inX5 w h)) tyX5 tyX5_ok nmX5 hown hK hP hD hS 0 rfl rfl 0 (by decide) (hts _ (List.mem_cons_of_mem _ mw_173)) (fun _ h9 => h9) rfl hin2 rfl (by decide +kernel) rfl rfl (Nat.le_of_ble_eq_true rfl) dX5_init_26 (fun H locs hP hD hS => ?_)
  have hP : va_P (dC, dI) vwCl [(h0, .inr (5, [.ref q2, .null, .null, .ref q1, .int 0, .int 0, .int (-1 : Int32), .int 0, .int 0, .int 0, .int 0, .int 0, .int 0, .int 0])), (q1, .inl (cI, 19, .inl (fun _ => 0))), (q2, .inr (8, [.ref r1, .ref q3, .ref q4, .ref q5, .ref q6, .int 0, .int 0])), (q3, .inl (cI, 801, .inl (fun _ => 0))), (q4, .inl (cI, 801, .inl (fun _ => 0))), (q5, .inl (cI, 801, .inl (fun _ => 0))), (q6, .inl (cI, 801, .inl (fun _ => 0)))] H := hP
  have hD : va_D A [(h0, .inr (5, [.ref q2, .null, .null, .ref q1, .int 0, .int 0, .int (-1 : Int32), .int 0, .int 0, .int 0, .int 0, .int 0, .int 0, .int 0])), (q1, .inl (cI, 19, .inl (fun _ => 0))), (q2, .inr (8, [.ref r1, .ref q3, .ref q4, .ref q5, .ref q6, .int 0, .int 0])), (q3, .inl (cI, 801, .inl (fun _ => 0))), (q4, .inl (cI, 801, .inl (fun _ => 0))), (q5, .inl (cI, 801, .inl (fun _ => 0))), (q6, .inl (cI, 801, .inl (fun _ => 0)))] := hD
  refine lv_aload_n hx hb dX5_init_29 rfl (lv_at hl 0 rfl) ?_
  refine lv_aload_n hx hb dX5_init_30 rfl (lv_at hl 2 rfl) ?_
  refine va_putF (D := (dC, dI)) (ci := 5) (v := .ref r2) (ty := .object "TieStreet$People") (C := RX5) (T := TX5) (N := 14) hx hb hts (fun w h => List.mem_cons_of_mem _ (inX5 w h)) tyX5 tyX5_ok nmX5 hown hK hP hD hS 0 rfl rfl 1 (by decide) (hts _ (List.mem_cons_of_mem _ mw_174)) (fun _ h9 => h9) rfl hin2 rfl (by decide +kernel) rfl rfl (Nat.le_of_ble_eq_true rfl) dX5_init_31 (fun H locs hP hD hS => ?_)
  have hP : va_P (dC, dI) vwCl [(h0, .inr (5, [.ref q2, .ref r2, .null, .ref q1, .int 0, .int 0, .int (-1 : Int32), .int 0, .int 0, .int 0, .int 0, .int 0, .int 0, .int 0])), (q1, .inl (cI, 19, .inl (fun _ => 0))), (q2, .inr (8, [.ref r1, .ref q3, .ref q4, .ref q5, .ref q6, .int 0, .int 0])), (q3, .inl (cI, 801, .inl (fun _ => 0))), (q4, .inl (cI, 801, .inl (fun _ => 0))), (q5, .inl (cI, 801, .inl (fun _ => 0))), (q6, .inl (cI, 801, .inl (fun _ => 0)))] H := hP
  have hD : va_D A [(h0, .inr (5, [.ref q2, .ref r2, .null, .ref q1, .int 0, .int 0, .int (-1 : Int32), .int 0, .int 0, .int 0, .int 0, .int 0, .int 0, .int 0])), (q1, .inl (cI, 19, .inl (fun _ => 0))), (q2, .inr (8, [.ref r1, .ref q3, .ref q4, .ref q5, .ref q6, .int 0, .int 0])), (q3, .inl (cI, 801, .inl (fun _ => 0))), (q4, .inl (cI, 801, .inl (fun _ => 0))), (q5, .inl (cI, 801, .inl (fun _ => 0))), (q6, .inl (cI, 801, .inl (fun _ => 0)))] := hD
  refine lv_aload_n hx hb dX5_init_34 rfl (lv_at hl 0 rfl) ?_
  refine lv_aload_n hx hb dX5_init_35 rfl (lv_at hl 3 rfl) ?_
  refine va_putF (D := (dC, dI)) (ci := 5) (v := .ref r3) (ty := .object "TieStreet$Rules") (C := RX5) (T := TX5) (N := 14) hx hb hts (fun w h => List.mem_cons_of_mem _ (inX5 w h)) tyX5 tyX5_ok nmX5 hown hK hP hD hS 0 rfl rfl 2 (by decide) (hts _ (List.mem_cons_of_mem _ mw_176)) (fun _ h9 => h9) rfl hin2 rfl (by decide +kernel) rfl rfl (Nat.le_of_ble_eq_true rfl) dX5_init_36 (fun H locs hP hD hS => ?_)
  have hP : va_P (dC, dI) vwCl [(h0, .inr (5, [.ref q2, .ref r2, .ref r3, .ref q1, .int 0, .int 0, .int (-1 : Int32), .int 0, .int 0, .int 0, .int 0, .int 0, .int 0, .int 0])), (q1, .inl (cI, 19, .inl (fun _ => 0))), (q2, .inr (8, [.ref r1, .ref q3, .ref q4, .ref q5, .ref q6, .int 0, .int 0])), (q3, .inl (cI, 801, .inl (fun _ => 0))), (q4, .inl (cI, 801, .inl (fun _ => 0))), (q5, .inl (cI, 801, .inl (fun _ => 0))), (q6, .inl (cI, 801, .inl (fun _ => 0)))] H := hP
  have hD : va_D A [(h0, .inr (5, [.ref q2, .ref r2, .ref r3, .ref q1, .int 0, .int 0, .int (-1 : Int32), .int 0, .int 0, .int 0, .int 0, .int 0, .int 0, .int 0])), (q1, .inl (cI, 19, .inl (fun _ => 0))), (q2, .inr (8, [.ref r1, .ref q3, .ref q4, .ref q5, .ref q6, .int 0, .int 0])), (q3, .inl (cI, 801, .inl (fun _ => 0))), (q4, .inl (cI, 801, .inl (fun _ => 0))), (q5, .inl (cI, 801, .inl (fun _ => 0))), (q6, .inl (cI, 801, .inl (fun _ => 0)))] := hD
  refine lv_iconst (v := (0 : Int32)) hx hb dX5_init_39 (by decide) ?_
  refine lv_istore (lv' := [(4, .int (0 : Int32)), (0, .ref h0), (1, .ref r1), (2, .ref r2), (3, .ref r3)]) hx hb dX5_init_40 hl (by decide) rfl (fun ls hl => ?_)
  refine lv_bipush (v := (30 : Int32)) hx hb dX5_init_42 (by decide) ?_
  refine lv_istore (lv' := [(5, .int (30 : Int32)), (4, .int (0 : Int32)), (0, .ref h0), (1, .ref r1), (2, .ref r2), (3, .ref r3)]) hx hb dX5_init_44 hl (by decide) rfl (fun ls hl => ?_)
  refine lv_iconst (v := (0 : Int32)) hx hb dX5_init_46 (by decide) ?_
  refine lv_istore (lv' := [(6, .int (0 : Int32)), (5, .int (30 : Int32)), (4, .int (0 : Int32)), (0, .ref h0), (1, .ref r1), (2, .ref r2), (3, .ref r3)]) hx hb dX5_init_47 hl (by decide) rfl (fun ls hl => ?_)
  have hP := hP.sub (ws' := (r_W (zad [h0, q2, q1, q3, q4, q5, q6, r1, r2, r3]) cI cJ cC (zI zS0 2 (-1)))) [0, 2, 1, 3, 4, 5, 6] rfl
  have hD := hD.sub (ws' := (r_W (zad [h0, q2, q1, q3, q4, q5, q6, r1, r2, r3]) cI cJ cC (zI zS0 2 (-1)))) [0, 2, 1, 3, 4, 5, 6] (by decide) rfl
  have hAe2 : A = zAW r_n (zad [h0, q2, q1, q3, q4, q5, q6, r1, r2, r3]) s.heap.size := by
    rw [← hAe]
    refine zA_eq (w := (r_W (zad [h0, q2, q1, q3, q4, q5, q6, r1, r2, r3]) cI cJ cC (zI zS0 2 (-1)))) rfl (by rw [hAe]; exact hD) ?_
    intro q hq
    simp only [List.mem_cons, List.not_mem_nil, or_false] at hq
    subst hq; exact ⟨0, by decide, rfl⟩
  clear hAe; subst hAe2
  have C0 : zCx p s m meth c _ RX5 cX5_init 8 none vs_X5_init := ⟨hx, hb, hml, hr, hown, hts, hlocks⟩
  refine zW_mono (zMQ_mono (fun o t hq => ?_)) (t_X5_init_49 (ad := (zad [h0, q2, q1, q3, q4, q5, q6, r1, r2, r3])) C0 hK N hRs hFs N (0 : Int32) (30 : Int32) (0 : Int32) (zI zS0 2 (-1)) _ _ _ h hP hD hS (lv_sub hl [3, 2, 1, 0] rfl))
  obtain ⟨⟨u, h1, h2, h3⟩, h4⟩ := hq
  exact ⟨⟨u, h1, h2, q1, q2, q3, q4, q5, q6, h3.1, h3.2.1, h3.2.2⟩, h4⟩
