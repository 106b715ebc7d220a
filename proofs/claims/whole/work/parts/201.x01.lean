section q01
end q01
section q01
def b_X5_take_97 (N : Nat) (k_97 : Int32 → zSt → Prop) (Q : Int32 → zSt → Prop) (x1 : Int32) (σ : zSt) : Prop :=
  ((19 : Int32) ≤ x1 → Q (1 : Int32) σ) ∧ (¬ (19 : Int32) ≤ x1 → ((σ.1 12) = (1 : Int32) → ((6 : Int32) < (σ.1 14) → Q (1 : Int32) σ) ∧ (¬ (6 : Int32) < (σ.1 14) → (vp_in x1 19) ∧ (((σ.2.2.1 14 x1.toNatClampNeg) = (σ.1 15) → ∀ τ2 : zSt, τ2 = zI σ 16 x1 → ∀ v3 : Int32, v3 = x1 + (1 : Int32) → k_97 v3 τ2) ∧ (¬ (σ.2.2.1 14 x1.toNatClampNeg) = (σ.1 15) → ∀ v1 : Int32, v1 = x1 + (1 : Int32) → k_97 v1 σ)))) ∧ (¬ (σ.1 12) = (1 : Int32) → Q (1 : Int32) σ))
def w_X5_take_97 (N : Nat) (Q : Int32 → zSt → Prop) : Nat → Int32 → zSt → Prop
  | 0 => fun _ _ => False
  | f + 1 => b_X5_take_97 N (w_X5_take_97 N  Q f) Q
def b_X5_take_26 (N : Nat) (Q : Int32 → zSt → Prop)  (σ : zSt) : Prop :=
  (vp_in (σ.1 10) 801) ∧ (∀ τ1 : zSt, τ1 = zI σ 12 (σ.2.2.1 24 (σ.1 10).toNatClampNeg) → (vp_in (τ1.1 10) 801) ∧ (∀ τ2 : zSt, τ2 = zI τ1 13 (τ1.2.2.1 25 (τ1.1 10).toNatClampNeg) → (vp_in (τ2.1 10) 801) ∧ (∀ τ3 : zSt, τ3 = zI τ2 14 (τ2.2.2.1 26 (τ2.1 10).toNatClampNeg) → (vp_in (τ3.1 10) 801) ∧ (∀ τ4 : zSt, τ4 = zI τ3 15 (τ3.2.2.1 27 (τ3.1 10).toNatClampNeg) → ∀ τ5 : zSt, τ5 = zI τ4 16 (-1 : Int32) → w_X5_take_97 N Q N (0 : Int32) τ5))))
def w_X5_take (N : Nat)  (σ : zSt) (Q : Int32 → zSt → Prop) : Prop :=
  ((σ.1 23) ≤ ((σ.1 10) + (1 : Int32)) → b_X5_take_26 N Q σ) ∧ (¬ (σ.1 23) ≤ ((σ.1 10) + (1 : Int32)) → ∀ τ1 : zSt, τ1 = zI σ 10 ((σ.1 10) + (1 : Int32)) → b_X5_take_26 N Q τ1)
variable {p : Program} {l : Launch} {e : Env} {s : State} {m : MethodId} {args : Array Value} {below : List Frame} {meth : Method} {c : Code} {dC : Nat → ClassId} {dI : Nat → Nat → Nat} {ad : Nat → Nat} {cI cJ : ClassId}
set_option maxHeartbeats 4000000 in
set_option maxRecDepth 100000 in
theorem tb_X5_take_97 (C0 : zCx p s m meth c args RX5 cX5_take 2 (some .boolean) vs_X5_take) (hK : va_K (dC, dI) vwCl (x_ty cI cJ) s) (N : Nat) {Q : Int32 → zSt → Prop} {k_97 : Int32 → zSt → Prop} (hk_97 : ∀ (x1 : Int32) (σ : zSt) (H : Heap) (locs : List Loc) (ls : Array Slot), k_97 x1 σ → va_P (dC, dI) vwCl (x_W ad cI cJ σ) H → va_D (zAW x_n ad s.heap.size) (x_W ad cI cJ σ) → va_S (zAW x_n ad s.heap.size) s.heap H locs → lv_has ls 2 [(0, .ref (ad 5)), (1, .int x1)] → W p l e rm_X5_take s m args below meth c H locs 0 0 (MQ below (zQi (dC, dI) (x_ty cI cJ) (x_W ad cI cJ) (zAW x_n ad s.heap.size) Q) args s 0 0 (zAW x_n ad s.heap.size)) (F0 m 97 ls [])) : ∀ (x1 : Int32) (σ : zSt) (H : Heap) (locs : List Loc) (ls : Array Slot), b_X5_take_97 N k_97 Q x1 σ → va_P (dC, dI) vwCl (x_W ad cI cJ σ) H → va_D (zAW x_n ad s.heap.size) (x_W ad cI cJ σ) → va_S (zAW x_n ad s.heap.size) s.heap H locs → lv_has ls 2 [(0, .ref (ad 5)), (1, .int x1)] → W p l e rm_X5_take s m args below meth c H locs 0 0 (MQ below (zQi (dC, dI) (x_ty cI cJ) (x_W ad cI cJ) (zAW x_n ad s.heap.size) Q) args s 0 0 (zAW x_n ad s.heap.size)) (F0 m 97 ls []) := by
  obtain ⟨hx, hb, hml, hr, hown, hts, hlocks⟩ := id C0
  intro x1 σ H locs ls h hP hD hS hl
  unfold b_X5_take_97 at h
  refine lv_iload_n hx hb dX5_take_97 rfl (lv_at hl 1 rfl) ?_
  refine lv_aload_n hx hb dX5_take_98 rfl (lv_at hl 0 rfl) ?_
  refine xg_5_3 hx hb hts hown hK hP mw_178 dX5_take_99 ?_
  refine xl_33 hx hb hK hP dX5_take_102 ?_
  refine lv_icmp_ge (tgt := 147) hx hb dX5_take_103 (by decide) (fun hc => ?_) (fun hc => ?_)
  · have h := h.1 hc
    refine lv_iconst (v := (1 : Int32)) hx hb dX5_take_147 (by decide) ?_
    exact zret_z hx hb hr hlocks hK hP hD hS zb_1 h dX5_take_148
  · have h := h.2 hc
    refine lv_aload_n hx hb dX5_take_106 rfl (lv_at hl 0 rfl) ?_
    refine xg_5_9 hx hb hts hown hK hP mw_187 dX5_take_107 ?_
    refine lv_iconst (v := (1 : Int32)) hx hb dX5_take_110 (by decide) ?_
    refine lv_icmp_ne (tgt := 147) hx hb dX5_take_111 (by decide) (fun hc => ?_) (fun hc => ?_)
    · have h := h.2 hc
      refine lv_iconst (v := (1 : Int32)) hx hb dX5_take_147 (by decide) ?_
      exact zret_z hx hb hr hlocks hK hP hD hS zb_1 h dX5_take_148
    · have h := h.1 hc
      refine lv_aload_n hx hb dX5_take_114 rfl (lv_at hl 0 rfl) ?_
      refine xg_5_11 hx hb hts hown hK hP mw_189 dX5_take_115 ?_
      refine lv_bipush (v := (6 : Int32)) hx hb dX5_take_118 (by decide) ?_
      refine lv_icmp_gt (tgt := 147) hx hb dX5_take_120 (by decide) (fun hc => ?_) (fun hc => ?_)
      · have h := h.1 hc
        refine lv_iconst (v := (1 : Int32)) hx hb dX5_take_147 (by decide) ?_
        exact zret_z hx hb hr hlocks hK hP hD hS zb_1 h dX5_take_148
      · have h := h.2 hc
        refine lv_aload_n hx hb dX5_take_123 rfl (lv_at hl 0 rfl) ?_
        refine xg_5_3 hx hb hts hown hK hP mw_178 dX5_take_124 ?_
        refine lv_iload_n hx hb dX5_take_127 rfl (lv_at hl 1 rfl) ?_
        refine xa_33 hx hb hK hP h.1 rfl dX5_take_128 ?_
        have h := h.2
        refine lv_aload_n hx hb dX5_take_129 rfl (lv_at hl 0 rfl) ?_
        refine xg_5_12 hx hb hts hown hK hP mw_190 dX5_take_130 ?_
        refine lv_icmp_ne (tgt := 141) hx hb dX5_take_133 (by decide) (fun hc => ?_) (fun hc => ?_)
        · have h := h.2 hc
          obtain ⟨v1, ev1⟩ : ∃ z : Int32, z = x1 + (1 : Int32) := ⟨_, rfl⟩
          have h := h v1 ev1
          refine lv_iinc (v := v1) (lv' := [(1, .int v1), (0, .ref (ad 5))]) hx hb dX5_take_141 hl (k := 1) rfl (by rw [ev1]; rfl) (by decide) rfl (fun ls hl => ?_)
          refine lv_goto (tgt := 97) hx hb dX5_take_144 (by decide) ?_
          exact hk_97 v1 σ _ _ _ h hP hD hS (lv_sub hl [1, 0] rfl)
        · have h := h.1 hc
          refine lv_aload_n hx hb dX5_take_136 rfl (lv_at hl 0 rfl) ?_
          refine lv_iload_n hx hb dX5_take_137 rfl (lv_at hl 1 rfl) ?_
          refine xp_5_13 hx hb hts hown hK hP hD hS mw_191 dX5_take_138 (fun τ2 H locs eτ2 hP hD hS => ?_)
          have h := h τ2 eτ2
          obtain ⟨v3, ev3⟩ : ∃ z : Int32, z = x1 + (1 : Int32) := ⟨_, rfl⟩
          have h := h v3 ev3
          refine lv_iinc (v := v3) (lv' := [(1, .int v3), (0, .ref (ad 5))]) hx hb dX5_take_141 hl (k := 1) rfl (by rw [ev3]; rfl) (by decide) rfl (fun ls hl => ?_)
          refine lv_goto (tgt := 97) hx hb dX5_take_144 (by decide) ?_
          exact hk_97 v3 τ2 _ _ _ h hP hD hS (lv_sub hl [1, 0] rfl)
set_option maxHeartbeats 4000000 in
set_option maxRecDepth 100000 in
theorem t_X5_take_97 (C0 : zCx p s m meth c args RX5 cX5_take 2 (some .boolean) vs_X5_take) (hK : va_K (dC, dI) vwCl (x_ty cI cJ) s) (N : Nat) {Q : Int32 → zSt → Prop} : ∀ (f : Nat) (x1 : Int32) (σ : zSt) (H : Heap) (locs : List Loc) (ls : Array Slot), w_X5_take_97 N  Q f x1 σ → va_P (dC, dI) vwCl (x_W ad cI cJ σ) H → va_D (zAW x_n ad s.heap.size) (x_W ad cI cJ σ) → va_S (zAW x_n ad s.heap.size) s.heap H locs → lv_has ls 2 [(0, .ref (ad 5)), (1, .int x1)] → W p l e rm_X5_take s m args below meth c H locs 0 0 (MQ below (zQi (dC, dI) (x_ty cI cJ) (x_W ad cI cJ) (zAW x_n ad s.heap.size) Q) args s 0 0 (zAW x_n ad s.heap.size)) (F0 m 97 ls []) := by
  intro f
  induction f with
  | zero => intro x1 σ H locs ls h; exact h.elim
  | succ f ih =>
    intro x1 σ H locs ls h hP hD hS hl
    exact tb_X5_take_97 C0 hK N  (k_97 := w_X5_take_97 N  Q f) ih x1 σ H locs ls h hP hD hS hl
set_option maxHeartbeats 4000000 in
set_option maxRecDepth 100000 in
theorem t_X5_take_26 (C0 : zCx p s m meth c args RX5 cX5_take 2 (some .boolean) vs_X5_take) (hK : va_K (dC, dI) vwCl (x_ty cI cJ) s) (N : Nat) {Q : Int32 → zSt → Prop} : ∀  (σ : zSt) (H : Heap) (locs : List Loc) (ls : Array Slot), b_X5_take_26 N  Q  σ → va_P (dC, dI) vwCl (x_W ad cI cJ σ) H → va_D (zAW x_n ad s.heap.size) (x_W ad cI cJ σ) → va_S (zAW x_n ad s.heap.size) s.heap H locs → lv_has ls 2 [(0, .ref (ad 5))] → W p l e rm_X5_take s m args below meth c H locs 0 0 (MQ below (zQi (dC, dI) (x_ty cI cJ) (x_W ad cI cJ) (zAW x_n ad s.heap.size) Q) args s 0 0 (zAW x_n ad s.heap.size)) (F0 m 26 ls []) := by
  obtain ⟨hx, hb, hml, hr, hown, hts, hlocks⟩ := id C0
  intro  σ H locs ls h hP hD hS hl
  unfold b_X5_take_26 at h
  refine lv_aload_n hx hb dX5_take_26 rfl (lv_at hl 0 rfl) ?_
  refine lv_aload_n hx hb dX5_take_27 rfl (lv_at hl 0 rfl) ?_
  refine xg_5_0 hx hb hts hown hK hP mw_173 dX5_take_28 ?_
  refine xg_8_1 hx hb hts hown hK hP mw_120 dX5_take_31 ?_
  refine lv_aload_n hx hb dX5_take_34 rfl (lv_at hl 0 rfl) ?_
  refine xg_5_7 hx hb hts hown hK hP mw_185 dX5_take_35 ?_
  refine xa_44 hx hb hK hP h.1 rfl dX5_take_38 ?_
  have h := h.2
  refine xp_5_9 hx hb hts hown hK hP hD hS mw_187 dX5_take_39 (fun τ1 H locs eτ1 hP hD hS => ?_)
  have h := h τ1 eτ1
  refine lv_aload_n hx hb dX5_take_42 rfl (lv_at hl 0 rfl) ?_
  refine lv_aload_n hx hb dX5_take_43 rfl (lv_at hl 0 rfl) ?_
  refine xg_5_0 hx hb hts hown hK hP mw_173 dX5_take_44 ?_
  refine xg_8_2 hx hb hts hown hK hP mw_122 dX5_take_47 ?_
  refine lv_aload_n hx hb dX5_take_50 rfl (lv_at hl 0 rfl) ?_
  refine xg_5_7 hx hb hts hown hK hP mw_185 dX5_take_51 ?_
  refine xa_45 hx hb hK hP h.1 rfl dX5_take_54 ?_
  have h := h.2
  refine xp_5_10 hx hb hts hown hK hP hD hS mw_188 dX5_take_55 (fun τ2 H locs eτ2 hP hD hS => ?_)
  have h := h τ2 eτ2
  refine lv_aload_n hx hb dX5_take_58 rfl (lv_at hl 0 rfl) ?_
  refine lv_aload_n hx hb dX5_take_59 rfl (lv_at hl 0 rfl) ?_
  refine xg_5_0 hx hb hts hown hK hP mw_173 dX5_take_60 ?_
  refine xg_8_3 hx hb hts hown hK hP mw_124 dX5_take_63 ?_
  refine lv_aload_n hx hb dX5_take_66 rfl (lv_at hl 0 rfl) ?_
  refine xg_5_7 hx hb hts hown hK hP mw_185 dX5_take_67 ?_
  refine xa_46 hx hb hK hP h.1 rfl dX5_take_70 ?_
  have h := h.2
  refine xp_5_11 hx hb hts hown hK hP hD hS mw_189 dX5_take_71 (fun τ3 H locs eτ3 hP hD hS => ?_)
  have h := h τ3 eτ3
  refine lv_aload_n hx hb dX5_take_74 rfl (lv_at hl 0 rfl) ?_
  refine lv_aload_n hx hb dX5_take_75 rfl (lv_at hl 0 rfl) ?_
  refine xg_5_0 hx hb hts hown hK hP mw_173 dX5_take_76 ?_
  refine xg_8_4 hx hb hts hown hK hP mw_126 dX5_take_79 ?_
  refine lv_aload_n hx hb dX5_take_82 rfl (lv_at hl 0 rfl) ?_
  refine xg_5_7 hx hb hts hown hK hP mw_185 dX5_take_83 ?_
  refine xa_47 hx hb hK hP h.1 rfl dX5_take_86 ?_
  have h := h.2
  refine xp_5_12 hx hb hts hown hK hP hD hS mw_190 dX5_take_87 (fun τ4 H locs eτ4 hP hD hS => ?_)
  have h := h τ4 eτ4
  refine lv_aload_n hx hb dX5_take_90 rfl (lv_at hl 0 rfl) ?_
  refine lv_iconst (v := (-1 : Int32)) hx hb dX5_take_91 (by decide) ?_
  refine xp_5_13 hx hb hts hown hK hP hD hS mw_191 dX5_take_92 (fun τ5 H locs eτ5 hP hD hS => ?_)
  have h := h τ5 eτ5
  refine lv_iconst (v := (0 : Int32)) hx hb dX5_take_95 (by decide) ?_
  refine lv_istore_n (lv' := [(1, .int (0 : Int32)), (0, .ref (ad 5))]) hx hb dX5_take_96 rfl hl (by decide) rfl (fun ls hl => ?_)
  exact t_X5_take_97 C0 hK N  N (0 : Int32) τ5 _ _ _ h hP hD hS (lv_sub hl [1, 0] rfl)
set_option maxHeartbeats 4000000 in
set_option maxRecDepth 100000 in
theorem t_X5_take_0 (C0 : zCx p s m meth c args RX5 cX5_take 2 (some .boolean) vs_X5_take) (hK : va_K (dC, dI) vwCl (x_ty cI cJ) s) (N : Nat) {Q : Int32 → zSt → Prop} : ∀  (σ : zSt) (H : Heap) (locs : List Loc) (ls : Array Slot), w_X5_take N  σ Q → va_P (dC, dI) vwCl (x_W ad cI cJ σ) H → va_D (zAW x_n ad s.heap.size) (x_W ad cI cJ σ) → va_S (zAW x_n ad s.heap.size) s.heap H locs → lv_has ls 2 [(0, .ref (ad 5))] → W p l e rm_X5_take s m args below meth c H locs 0 0 (MQ below (zQi (dC, dI) (x_ty cI cJ) (x_W ad cI cJ) (zAW x_n ad s.heap.size) Q) args s 0 0 (zAW x_n ad s.heap.size)) (F0 m 0 ls []) := by
  obtain ⟨hx, hb, hml, hr, hown, hts, hlocks⟩ := id C0
  intro  σ H locs ls h hP hD hS hl
  unfold w_X5_take at h
  refine lv_aload_n hx hb dX5_take_0 rfl (lv_at hl 0 rfl) ?_
  refine xg_5_7 hx hb hts hown hK hP mw_185 dX5_take_1 ?_
  refine lv_iconst (v := (1 : Int32)) hx hb dX5_take_4 (by decide) ?_
  refine lv_iadd hx hb dX5_take_5 ?_
  refine lv_aload_n hx hb dX5_take_6 rfl (lv_at hl 0 rfl) ?_
  refine xg_5_0 hx hb hts hown hK hP mw_173 dX5_take_7 ?_
  refine xg_8_5 hx hb hts hown hK hP mw_128 dX5_take_10 ?_
  refine lv_icmp_ge (tgt := 26) hx hb dX5_take_13 (by decide) (fun hc => ?_) (fun hc => ?_)
  · have h := h.1 hc
    exact t_X5_take_26 C0 hK N  σ _ _ _ h hP hD hS (lv_sub hl [0] rfl)
  · have h := h.2 hc
    refine lv_aload_n hx hb dX5_take_16 rfl (lv_at hl 0 rfl) ?_
    refine lv_dup hx hb dX5_take_17 rfl ?_
    refine xg_5_7 hx hb hts hown hK hP mw_185 dX5_take_18 ?_
    refine lv_iconst (v := (1 : Int32)) hx hb dX5_take_21 (by decide) ?_
    refine lv_iadd hx hb dX5_take_22 ?_
    refine xp_5_7 hx hb hts hown hK hP hD hS mw_185 dX5_take_23 (fun τ1 H locs eτ1 hP hD hS => ?_)
    have h := h τ1 eτ1
    exact t_X5_take_26 C0 hK N  τ1 _ _ _ h hP hD hS (lv_sub hl [0] rfl)
set_option maxHeartbeats 4000000 in
set_option maxRecDepth 100000 in
theorem c_X5_take (N : Nat) (l : Launch) (dC : Nat → ClassId) (dI : Nat → Nat → Nat) (ad : Nat → Nat) (cI cJ : ClassId) (sz : Nat) (σ : zSt)  (Q : Int32 → zSt → Prop) (h : w_X5_take N  σ Q) : Met l yX5_take vs_X5_take rm_X5_take (va_Pc [.ref (ad 5)] (zPc (dC, dI) (x_ty cI cJ) (x_W ad cI cJ) sz σ)) (zQi (dC, dI) (x_ty cI cJ) (x_W ad cI cJ) (zAW x_n ad sz) Q) 0 0 (zAW x_n ad sz) := by
  refine Met.ofW (cc := cX5_take) (maxL := 2) (ret := (some .boolean)) (by decide) rfl ?_
  intro p e s m args below meth c s₁ B hml hv
  obtain ⟨rfl, hsz, hP, hK, hD0⟩ := hv
  subst hsz
  have C0 : zCx p s m meth c _ RX5 cX5_take 2 (some .boolean) vs_X5_take := ⟨B.exec, B.bytes, hml, B.returns, findClass_of_methodNamed B.named, atoms_spec (ws := vs_X5_take) B.pre, B.notSynchronized⟩
  have hD := x_D0 (n0 := s.heap.size) hD0
  have hl := lv_entry ([.ref (ad 5)]) (n := 2) (Nat.le_of_ble_eq_true rfl)
  rw [lg_entry_eq]
  generalize (lg_sl ([.ref (ad 5)]) ++ List.replicate (2 - (lg_sl ([.ref (ad 5)])).length) Slot.unset).toArray = ls at hl ⊢
  exact t_X5_take_0 C0 hK N  σ _ _ ls h hP hD va_S.rf hl
theorem k_X5_take (N : Nat) {R : Room} {H : Heap} {locs : List Loc} {cells slots : Nat} {Q2 : State → Prop} {cc : ByteArray} {nL pc index : Nat} {ls : Array Slot} {rest : List Value} {own : String} {c0 : Cond} {σ : zSt}  {Q : Int32 → zSt → Prop} (S0 : CallFix p m c cc nL s args (c0 :: zT) own) (hml : Cond.methodLink own index yX5_take ∈ zT) (hR : rm_X5_take.frames + 1 ≤ R.frames ∧ 8 + (2 + 11) + rm_X5_take.locals ≤ R.locals) (h : w_X5_take N  σ Q) (hK : va_K (dC, dI) vwCl (x_ty cI cJ) s) (hP : va_P (dC, dI) vwCl (x_W ad cI cJ σ) H) (hD : va_D (zAW x_n ad s.heap.size) (x_W ad cI cJ σ)) (hS : va_S (zAW x_n ad s.heap.size) s.heap H locs) (hsz : ls.size = nL) (hW : (rest.map fun v => v.category).sum ≤ 8) (hcs : cells ≤ R.cells ∧ slots ≤ R.slots) (hdg : decode cc pc = .ok (.invokevirtual index, 3)) (kk : ∀ (r : Int32) (τ : zSt) (H1 : Heap) (locs1 : List Loc), Q r τ → va_P (dC, dI) vwCl (x_W ad cI cJ τ) H1 → va_D (zAW x_n ad s.heap.size) (x_W ad cI cJ τ) → va_S (zAW x_n ad s.heap.size) s.heap H1 locs1 → W p l e R s m args below meth c H1 locs1 cells slots Q2 (F0 m (pc + 3) ls (.int r :: rest))) : W p l e R s m args below meth c H locs cells slots Q2 (F0 m pc ls (.ref (ad 5) :: rest)) :=
  zcv_i (T := TX5) (N' := 14) (k := 5) (ci := 5) (fs := x_f5 ad σ) [] S0 (c_X5_take N l dC dI ad cI cJ H.size σ  Q h) (cw_X5_take S0.2.2.2.2 hml rfl rfl hR) rfl rfl hK hP hD hS rfl hsz hW rfl hcs hdg kk
end q01
section q01
def w_X5_fail (N : Nat) (x1 : Int32) (x2 : Int32) (σ : zSt) (Q : Int32 → zSt → Prop) : Prop :=
  ∀ τ1 : zSt, τ1 = zI σ 8 x1 → ∀ τ2 : zSt, τ2 = zI τ1 9 x2 → Q (0 : Int32) τ2
variable {p : Program} {l : Launch} {e : Env} {s : State} {m : MethodId} {args : Array Value} {below : List Frame} {meth : Method} {c : Code} {dC : Nat → ClassId} {dI : Nat → Nat → Nat} {ad : Nat → Nat} {cI cJ : ClassId}
set_option maxHeartbeats 4000000 in
set_option maxRecDepth 100000 in
theorem t_X5_fail_0 (C0 : zCx p s m meth c args RX5 cX5_fail 3 (some .boolean) vs_X5_fail) (hK : va_K (dC, dI) vwCl (x_ty cI cJ) s) (N : Nat) {Q : Int32 → zSt → Prop} : ∀ (x1 : Int32) (x2 : Int32) (σ : zSt) (H : Heap) (locs : List Loc) (ls : Array Slot), w_X5_fail N x1 x2 σ Q → va_P (dC, dI) vwCl (x_W ad cI cJ σ) H → va_D (zAW x_n ad s.heap.size) (x_W ad cI cJ σ) → va_S (zAW x_n ad s.heap.size) s.heap H locs → lv_has ls 3 [(0, .ref (ad 5)), (1, .int x1), (2, .int x2)] → W p l e rm_X5_fail s m args below meth c H locs 0 0 (MQ below (zQi (dC, dI) (x_ty cI cJ) (x_W ad cI cJ) (zAW x_n ad s.heap.size) Q) args s 0 0 (zAW x_n ad s.heap.size)) (F0 m 0 ls []) := by
  obtain ⟨hx, hb, hml, hr, hown, hts, hlocks⟩ := id C0
  intro x1 x2 σ H locs ls h hP hD hS hl
  unfold w_X5_fail at h
  refine lv_aload_n hx hb dX5_fail_0 rfl (lv_at hl 0 rfl) ?_
  refine lv_iload_n hx hb dX5_fail_1 rfl (lv_at hl 1 rfl) ?_
  refine xp_5_5 hx hb hts hown hK hP hD hS mw_181 dX5_fail_2 (fun τ1 H locs eτ1 hP hD hS => ?_)
  have h := h τ1 eτ1
  refine lv_aload_n hx hb dX5_fail_5 rfl (lv_at hl 0 rfl) ?_
  refine lv_iload_n hx hb dX5_fail_6 rfl (lv_at hl 2 rfl) ?_
  refine xp_5_6 hx hb hts hown hK hP hD hS mw_183 dX5_fail_7 (fun τ2 H locs eτ2 hP hD hS => ?_)
  have h := h τ2 eτ2
  refine lv_iconst (v := (0 : Int32)) hx hb dX5_fail_10 (by decide) ?_
  exact zret_z hx hb hr hlocks hK hP hD hS zb_0 h dX5_fail_11
set_option maxHeartbeats 4000000 in
set_option maxRecDepth 100000 in
theorem c_X5_fail (N : Nat) (l : Launch) (dC : Nat → ClassId) (dI : Nat → Nat → Nat) (ad : Nat → Nat) (cI cJ : ClassId) (sz : Nat) (σ : zSt) (x1 : Int32) (x2 : Int32) (Q : Int32 → zSt → Prop) (h : w_X5_fail N x1 x2 σ Q) : Met l yX5_fail vs_X5_fail rm_X5_fail (va_Pc [.ref (ad 5), .int x1, .int x2] (zPc (dC, dI) (x_ty cI cJ) (x_W ad cI cJ) sz σ)) (zQi (dC, dI) (x_ty cI cJ) (x_W ad cI cJ) (zAW x_n ad sz) Q) 0 0 (zAW x_n ad sz) := by
  refine Met.ofW (cc := cX5_fail) (maxL := 3) (ret := (some .boolean)) (by decide) rfl ?_
  intro p e s m args below meth c s₁ B hml hv
  obtain ⟨rfl, hsz, hP, hK, hD0⟩ := hv
  subst hsz
  have C0 : zCx p s m meth c _ RX5 cX5_fail 3 (some .boolean) vs_X5_fail := ⟨B.exec, B.bytes, hml, B.returns, findClass_of_methodNamed B.named, atoms_spec (ws := vs_X5_fail) B.pre, B.notSynchronized⟩
  have hD := x_D0 (n0 := s.heap.size) hD0
  have hl := lv_entry ([.ref (ad 5), .int x1, .int x2]) (n := 3) (Nat.le_of_ble_eq_true rfl)
  rw [lg_entry_eq]
  generalize (lg_sl ([.ref (ad 5), .int x1, .int x2]) ++ List.replicate (3 - (lg_sl ([.ref (ad 5), .int x1, .int x2])).length) Slot.unset).toArray = ls at hl ⊢
  exact t_X5_fail_0 C0 hK N x1 x2 σ _ _ ls h hP hD va_S.rf hl
theorem k_X5_fail (N : Nat) {R : Room} {H : Heap} {locs : List Loc} {cells slots : Nat} {Q2 : State → Prop} {cc : ByteArray} {nL pc index : Nat} {ls : Array Slot} {rest : List Value} {own : String} {c0 : Cond} {σ : zSt} {x1 : Int32} {x2 : Int32} {Q : Int32 → zSt → Prop} (S0 : CallFix p m c cc nL s args (c0 :: zT) own) (hml : Cond.methodLink own index yX5_fail ∈ zT) (hR : rm_X5_fail.frames + 1 ≤ R.frames ∧ 8 + (3 + 11) + rm_X5_fail.locals ≤ R.locals) (h : w_X5_fail N x1 x2 σ Q) (hK : va_K (dC, dI) vwCl (x_ty cI cJ) s) (hP : va_P (dC, dI) vwCl (x_W ad cI cJ σ) H) (hD : va_D (zAW x_n ad s.heap.size) (x_W ad cI cJ σ)) (hS : va_S (zAW x_n ad s.heap.size) s.heap H locs) (hsz : ls.size = nL) (hW : (rest.map fun v => v.category).sum ≤ 8) (hcs : cells ≤ R.cells ∧ slots ≤ R.slots) (hdg : decode cc pc = .ok (.invokevirtual index, 3)) (kk : ∀ (r : Int32) (τ : zSt) (H1 : Heap) (locs1 : List Loc), Q r τ → va_P (dC, dI) vwCl (x_W ad cI cJ τ) H1 → va_D (zAW x_n ad s.heap.size) (x_W ad cI cJ τ) → va_S (zAW x_n ad s.heap.size) s.heap H1 locs1 → W p l e R s m args below meth c H1 locs1 cells slots Q2 (F0 m (pc + 3) ls (.int r :: rest))) : W p l e R s m args below meth c H locs cells slots Q2 (F0 m pc ls (.int x2 :: .int x1 :: .ref (ad 5) :: rest)) :=
  zcv_i (T := TX5) (N' := 14) (k := 5) (ci := 5) (fs := x_f5 ad σ) [.int x1, .int x2] S0 (c_X5_fail N l dC dI ad cI cJ H.size σ x1 x2 Q h) (cw_X5_fail S0.2.2.2.2 hml rfl rfl hR) rfl rfl hK hP hD hS rfl hsz hW rfl hcs hdg kk
end q01
section q01
def b_X5_seesName_16 (N : Nat) (Q : Int32 → zSt → Prop)  (σ : zSt) : Prop :=
  w_X5_fail N (1 : Int32) (σ.1 13) σ (fun r1 τ2 => (zb r1) ∧ Q r1 τ2)
def w_X5_seesName (N : Nat)  (σ : zSt) (Q : Int32 → zSt → Prop) : Prop :=
  ((σ.1 12) = (1 : Int32) → ((σ.1 16) = (-1 : Int32) → ((σ.1 14) ≤ (6 : Int32) → Q (1 : Int32) σ) ∧ (¬ (σ.1 14) ≤ (6 : Int32) → w_X5_fail N (1 : Int32) ((σ.1 13) + (6 : Int32)) σ (fun r1 τ2 => (r1 = 0 → Q (0 : Int32) τ2) ∧ (¬ r1 = 0 → Q (1 : Int32) τ2)))) ∧ (¬ (σ.1 16) = (-1 : Int32) → b_X5_seesName_16 N Q σ)) ∧ (¬ (σ.1 12) = (1 : Int32) → b_X5_seesName_16 N Q σ)
variable {p : Program} {l : Launch} {e : Env} {s : State} {m : MethodId} {args : Array Value} {below : List Frame} {meth : Method} {c : Code} {dC : Nat → ClassId} {dI : Nat → Nat → Nat} {ad : Nat → Nat} {cI cJ : ClassId}
set_option maxHeartbeats 4000000 in
set_option maxRecDepth 100000 in
theorem t_X5_seesName_16 (C0 : zCx p s m meth c args RX5 cX5_seesName 1 (some .boolean) vs_X5_seesName) (hK : va_K (dC, dI) vwCl (x_ty cI cJ) s) (N : Nat) {Q : Int32 → zSt → Prop} : ∀  (σ : zSt) (H : Heap) (locs : List Loc) (ls : Array Slot), b_X5_seesName_16 N  Q  σ → va_P (dC, dI) vwCl (x_W ad cI cJ σ) H → va_D (zAW x_n ad s.heap.size) (x_W ad cI cJ σ) → va_S (zAW x_n ad s.heap.size) s.heap H locs → lv_has ls 1 [(0, .ref (ad 5))] → W p l e rm_X5_seesName s m args below meth c H locs 0 0 (MQ below (zQi (dC, dI) (x_ty cI cJ) (x_W ad cI cJ) (zAW x_n ad s.heap.size) Q) args s 0 0 (zAW x_n ad s.heap.size)) (F0 m 16 ls []) := by
  obtain ⟨hx, hb, hml, hr, hown, hts, hlocks⟩ := id C0
  intro  σ H locs ls h hP hD hS hl
  unfold b_X5_seesName_16 at h
  refine lv_aload_n hx hb dX5_seesName_16 rfl (lv_at hl 0 rfl) ?_
  refine lv_iconst (v := (1 : Int32)) hx hb dX5_seesName_17 (by decide) ?_
  refine lv_aload_n hx hb dX5_seesName_18 rfl (lv_at hl 0 rfl) ?_
  refine xg_5_10 hx hb hts hown hK hP mw_188 dX5_seesName_19 ?_
  refine k_X5_fail N ⟨hx, hb, hml, hown, hts⟩ mw_369 ⟨Nat.le_of_ble_eq_true rfl, Nat.le_of_ble_eq_true rfl⟩ h hK hP hD hS hl.1 (rest := []) (Nat.le_of_ble_eq_true rfl) ⟨Nat.le_of_ble_eq_true rfl, Nat.le_of_ble_eq_true rfl⟩ dX5_seesName_22 (fun r1 τ2 H locs h hP hD hS => ?_)
  exact zret_z hx hb hr hlocks hK hP hD hS h.1 h.2 dX5_seesName_25
set_option maxHeartbeats 4000000 in
set_option maxRecDepth 100000 in
theorem t_X5_seesName_0 (C0 : zCx p s m meth c args RX5 cX5_seesName 1 (some .boolean) vs_X5_seesName) (hK : va_K (dC, dI) vwCl (x_ty cI cJ) s) (N : Nat) {Q : Int32 → zSt → Prop} : ∀  (σ : zSt) (H : Heap) (locs : List Loc) (ls : Array Slot), w_X5_seesName N  σ Q → va_P (dC, dI) vwCl (x_W ad cI cJ σ) H → va_D (zAW x_n ad s.heap.size) (x_W ad cI cJ σ) → va_S (zAW x_n ad s.heap.size) s.heap H locs → lv_has ls 1 [(0, .ref (ad 5))] → W p l e rm_X5_seesName s m args below meth c H locs 0 0 (MQ below (zQi (dC, dI) (x_ty cI cJ) (x_W ad cI cJ) (zAW x_n ad s.heap.size) Q) args s 0 0 (zAW x_n ad s.heap.size)) (F0 m 0 ls []) := by
  obtain ⟨hx, hb, hml, hr, hown, hts, hlocks⟩ := id C0
  intro  σ H locs ls h hP hD hS hl
  unfold w_X5_seesName at h
  refine lv_aload_n hx hb dX5_seesName_0 rfl (lv_at hl 0 rfl) ?_
  refine xg_5_9 hx hb hts hown hK hP mw_187 dX5_seesName_1 ?_
  refine lv_iconst (v := (1 : Int32)) hx hb dX5_seesName_4 (by decide) ?_
  refine lv_icmp_ne (tgt := 16) hx hb dX5_seesName_5 (by decide) (fun hc => ?_) (fun hc => ?_)
  · have h := h.2 hc
    exact t_X5_seesName_16 C0 hK N  σ _ _ _ h hP hD hS (lv_sub hl [0] rfl)
  · have h := h.1 hc
    refine lv_aload_n hx hb dX5_seesName_8 rfl (lv_at hl 0 rfl) ?_
    refine xg_5_13 hx hb hts hown hK hP mw_191 dX5_seesName_9 ?_
    refine lv_iconst (v := (-1 : Int32)) hx hb dX5_seesName_12 (by decide) ?_
    refine lv_icmp_eq (tgt := 26) hx hb dX5_seesName_13 (by decide) (fun hc => ?_) (fun hc => ?_)
    · have h := h.1 hc
      refine lv_aload_n hx hb dX5_seesName_26 rfl (lv_at hl 0 rfl) ?_
      refine xg_5_11 hx hb hts hown hK hP mw_189 dX5_seesName_27 ?_
      refine lv_bipush (v := (6 : Int32)) hx hb dX5_seesName_30 (by decide) ?_
      refine lv_icmp_le (tgt := 50) hx hb dX5_seesName_32 (by decide) (fun hc => ?_) (fun hc => ?_)
      · have h := h.1 hc
        refine lv_iconst (v := (1 : Int32)) hx hb dX5_seesName_50 (by decide) ?_
        refine lv_goto (tgt := 55) hx hb dX5_seesName_51 (by decide) ?_
        exact zret_z hx hb hr hlocks hK hP hD hS zb_1 h dX5_seesName_55
      · have h := h.2 hc
        refine lv_aload_n hx hb dX5_seesName_35 rfl (lv_at hl 0 rfl) ?_
        refine lv_iconst (v := (1 : Int32)) hx hb dX5_seesName_36 (by decide) ?_
        refine lv_aload_n hx hb dX5_seesName_37 rfl (lv_at hl 0 rfl) ?_
        refine xg_5_10 hx hb hts hown hK hP mw_188 dX5_seesName_38 ?_
        refine lv_bipush (v := (6 : Int32)) hx hb dX5_seesName_41 (by decide) ?_
        refine lv_iadd hx hb dX5_seesName_43 ?_
        refine k_X5_fail N ⟨hx, hb, hml, hown, hts⟩ mw_369 ⟨Nat.le_of_ble_eq_true rfl, Nat.le_of_ble_eq_true rfl⟩ h hK hP hD hS hl.1 (rest := []) (Nat.le_of_ble_eq_true rfl) ⟨Nat.le_of_ble_eq_true rfl, Nat.le_of_ble_eq_true rfl⟩ dX5_seesName_44 (fun r1 τ2 H locs h hP hD hS => ?_)
        refine lv_if_eq (tgt := 54) hx hb dX5_seesName_47 (by decide) (fun hc => ?_) (fun hc => ?_)
        · have h := h.1 hc
          refine lv_iconst (v := (0 : Int32)) hx hb dX5_seesName_54 (by decide) ?_
          exact zret_z hx hb hr hlocks hK hP hD hS zb_0 h dX5_seesName_55
        · have h := h.2 hc
          refine lv_iconst (v := (1 : Int32)) hx hb dX5_seesName_50 (by decide) ?_
          refine lv_goto (tgt := 55) hx hb dX5_seesName_51 (by decide) ?_
          exact zret_z hx hb hr hlocks hK hP hD hS zb_1 h dX5_seesName_55
    · have h := h.2 hc
      exact t_X5_seesName_16 C0 hK N  σ _ _ _ h hP hD hS (lv_sub hl [0] rfl)
set_option maxHeartbeats 4000000 in
set_option maxRecDepth 100000 in
theorem c_X5_seesName (N : Nat) (l : Launch) (dC : Nat → ClassId) (dI : Nat → Nat → Nat) (ad : Nat → Nat) (cI cJ : ClassId) (sz : Nat) (σ : zSt)  (Q : Int32 → zSt → Prop) (h : w_X5_seesName N  σ Q) : Met l yX5_seesName vs_X5_seesName rm_X5_seesName (va_Pc [.ref (ad 5)] (zPc (dC, dI) (x_ty cI cJ) (x_W ad cI cJ) sz σ)) (zQi (dC, dI) (x_ty cI cJ) (x_W ad cI cJ) (zAW x_n ad sz) Q) 0 0 (zAW x_n ad sz) := by
  refine Met.ofW (cc := cX5_seesName) (maxL := 1) (ret := (some .boolean)) (by decide) rfl ?_
  intro p e s m args below meth c s₁ B hml hv
  obtain ⟨rfl, hsz, hP, hK, hD0⟩ := hv
  subst hsz
  have C0 : zCx p s m meth c _ RX5 cX5_seesName 1 (some .boolean) vs_X5_seesName := ⟨B.exec, B.bytes, hml, B.returns, findClass_of_methodNamed B.named, atoms_spec (ws := vs_X5_seesName) B.pre, B.notSynchronized⟩
  have hD := x_D0 (n0 := s.heap.size) hD0
  have hl := lv_entry ([.ref (ad 5)]) (n := 1) (Nat.le_of_ble_eq_true rfl)
  rw [lg_entry_eq]
  generalize (lg_sl ([.ref (ad 5)]) ++ List.replicate (1 - (lg_sl ([.ref (ad 5)])).length) Slot.unset).toArray = ls at hl ⊢
  exact t_X5_seesName_0 C0 hK N  σ _ _ ls h hP hD va_S.rf hl
theorem k_X5_seesName (N : Nat) {R : Room} {H : Heap} {locs : List Loc} {cells slots : Nat} {Q2 : State → Prop} {cc : ByteArray} {nL pc index : Nat} {ls : Array Slot} {rest : List Value} {own : String} {c0 : Cond} {σ : zSt}  {Q : Int32 → zSt → Prop} (S0 : CallFix p m c cc nL s args (c0 :: zT) own) (hml : Cond.methodLink own index yX5_seesName ∈ zT) (hR : rm_X5_seesName.frames + 1 ≤ R.frames ∧ 8 + (1 + 11) + rm_X5_seesName.locals ≤ R.locals) (h : w_X5_seesName N  σ Q) (hK : va_K (dC, dI) vwCl (x_ty cI cJ) s) (hP : va_P (dC, dI) vwCl (x_W ad cI cJ σ) H) (hD : va_D (zAW x_n ad s.heap.size) (x_W ad cI cJ σ)) (hS : va_S (zAW x_n ad s.heap.size) s.heap H locs) (hsz : ls.size = nL) (hW : (rest.map fun v => v.category).sum ≤ 8) (hcs : cells ≤ R.cells ∧ slots ≤ R.slots) (hdg : decode cc pc = .ok (.invokevirtual index, 3)) (kk : ∀ (r : Int32) (τ : zSt) (H1 : Heap) (locs1 : List Loc), Q r τ → va_P (dC, dI) vwCl (x_W ad cI cJ τ) H1 → va_D (zAW x_n ad s.heap.size) (x_W ad cI cJ τ) → va_S (zAW x_n ad s.heap.size) s.heap H1 locs1 → W p l e R s m args below meth c H1 locs1 cells slots Q2 (F0 m (pc + 3) ls (.int r :: rest))) : W p l e R s m args below meth c H locs cells slots Q2 (F0 m pc ls (.ref (ad 5) :: rest)) :=
  zcv_i (T := TX5) (N' := 14) (k := 5) (ci := 5) (fs := x_f5 ad σ) [] S0 (c_X5_seesName N l dC dI ad cI cJ H.size σ  Q h) (cw_X5_seesName S0.2.2.2.2 hml rfl rfl hR) rfl rfl hK hP hD hS rfl hsz hW rfl hcs hdg kk
end q01
section q01
def b_X4_numberOf_2 (N : Nat) (k_2 : Int32 → Int32 → zSt → Prop) (Q : Int32 → zSt → Prop) (x1 : Int32) (x2 : Int32) (σ : zSt) : Prop :=
  ((σ.1 17) ≤ x2 → Q (-1 : Int32) σ) ∧ (¬ (σ.1 17) ≤ x2 → (vp_in x2 10) ∧ (((σ.2.2.1 15 x2.toNatClampNeg) = x1 → Q x2 σ) ∧ (¬ (σ.2.2.1 15 x2.toNatClampNeg) = x1 → ∀ v1 : Int32, v1 = x2 + (1 : Int32) → k_2 x1 v1 σ)))
def w_X4_numberOf_2 (N : Nat) (Q : Int32 → zSt → Prop) : Nat → Int32 → Int32 → zSt → Prop
  | 0 => fun _ _ _ => False
  | f + 1 => b_X4_numberOf_2 N (w_X4_numberOf_2 N  Q f) Q
def w_X4_numberOf (N : Nat) (x1 : Int32) (σ : zSt) (Q : Int32 → zSt → Prop) : Prop :=
  w_X4_numberOf_2 N Q N x1 (0 : Int32) σ
variable {p : Program} {l : Launch} {e : Env} {s : State} {m : MethodId} {args : Array Value} {below : List Frame} {meth : Method} {c : Code} {dC : Nat → ClassId} {dI : Nat → Nat → Nat} {ad : Nat → Nat} {cI cJ : ClassId}
set_option maxHeartbeats 4000000 in
set_option maxRecDepth 100000 in
theorem tb_X4_numberOf_2 (C0 : zCx p s m meth c args RX4 cX4_numberOf 3 (some .int) vs_X4_numberOf) (hK : va_K (dC, dI) vwCl (x_ty cI cJ) s) (N : Nat) {Q : Int32 → zSt → Prop} {k_2 : Int32 → Int32 → zSt → Prop} (hk_2 : ∀ (x1 : Int32) (x2 : Int32) (σ : zSt) (H : Heap) (locs : List Loc) (ls : Array Slot), k_2 x1 x2 σ → va_P (dC, dI) vwCl (x_W ad cI cJ σ) H → va_D (zAW x_n ad s.heap.size) (x_W ad cI cJ σ) → va_S (zAW x_n ad s.heap.size) s.heap H locs → lv_has ls 3 [(0, .ref (ad 6)), (1, .int x1), (2, .int x2)] → W p l e rm_X4_numberOf s m args below meth c H locs 0 0 (MQ below (zQi (dC, dI) (x_ty cI cJ) (x_W ad cI cJ) (zAW x_n ad s.heap.size) Q) args s 0 0 (zAW x_n ad s.heap.size)) (F0 m 2 ls [])) : ∀ (x1 : Int32) (x2 : Int32) (σ : zSt) (H : Heap) (locs : List Loc) (ls : Array Slot), b_X4_numberOf_2 N k_2 Q x1 x2 σ → va_P (dC, dI) vwCl (x_W ad cI cJ σ) H → va_D (zAW x_n ad s.heap.size) (x_W ad cI cJ σ) → va_S (zAW x_n ad s.heap.size) s.heap H locs → lv_has ls 3 [(0, .ref (ad 6)), (1, .int x1), (2, .int x2)] → W p l e rm_X4_numberOf s m args below meth c H locs 0 0 (MQ below (zQi (dC, dI) (x_ty cI cJ) (x_W ad cI cJ) (zAW x_n ad s.heap.size) Q) args s 0 0 (zAW x_n ad s.heap.size)) (F0 m 2 ls []) := by
  obtain ⟨hx, hb, hml, hr, hown, hts, hlocks⟩ := id C0
  intro x1 x2 σ H locs ls h hP hD hS hl
  unfold b_X4_numberOf_2 at h
  refine lv_iload_n hx hb dX4_numberOf_2 rfl (lv_at hl 2 rfl) ?_
  refine lv_aload_n hx hb dX4_numberOf_3 rfl (lv_at hl 0 rfl) ?_
  refine xg_6_4 hx hb hts hown hK hP mw_73 dX4_numberOf_4 ?_
  refine lv_icmp_ge (tgt := 28) hx hb dX4_numberOf_7 (by decide) (fun hc => ?_) (fun hc => ?_)
  · have h := h.1 hc
    refine lv_iconst (v := (-1 : Int32)) hx hb dX4_numberOf_28 (by decide) ?_
    exact zret_i hx hb hr hlocks hK hP hD hS h dX4_numberOf_29
  · have h := h.2 hc
    refine lv_aload_n hx hb dX4_numberOf_10 rfl (lv_at hl 0 rfl) ?_
    refine xg_6_1 hx hb hts hown hK hP mw_67 dX4_numberOf_11 ?_
    refine lv_iload_n hx hb dX4_numberOf_14 rfl (lv_at hl 2 rfl) ?_
    refine xa_34 hx hb hK hP h.1 rfl dX4_numberOf_15 ?_
    have h := h.2
    refine lv_iload_n hx hb dX4_numberOf_16 rfl (lv_at hl 1 rfl) ?_
    refine lv_icmp_ne (tgt := 22) hx hb dX4_numberOf_17 (by decide) (fun hc => ?_) (fun hc => ?_)
    · have h := h.2 hc
      obtain ⟨v1, ev1⟩ : ∃ z : Int32, z = x2 + (1 : Int32) := ⟨_, rfl⟩
      have h := h v1 ev1
      refine lv_iinc (v := v1) (lv' := [(2, .int v1), (0, .ref (ad 6)), (1, .int x1)]) hx hb dX4_numberOf_22 hl (k := 2) rfl (by rw [ev1]; rfl) (by decide) rfl (fun ls hl => ?_)
      refine lv_goto (tgt := 2) hx hb dX4_numberOf_25 (by decide) ?_
      exact hk_2 x1 v1 σ _ _ _ h hP hD hS (lv_sub hl [1, 2, 0] rfl)
    · have h := h.1 hc
      refine lv_iload_n hx hb dX4_numberOf_20 rfl (lv_at hl 2 rfl) ?_
      exact zret_i hx hb hr hlocks hK hP hD hS h dX4_numberOf_21
set_option maxHeartbeats 4000000 in
set_option maxRecDepth 100000 in
theorem t_X4_numberOf_2 (C0 : zCx p s m meth c args RX4 cX4_numberOf 3 (some .int) vs_X4_numberOf) (hK : va_K (dC, dI) vwCl (x_ty cI cJ) s) (N : Nat) {Q : Int32 → zSt → Prop} : ∀ (f : Nat) (x1 : Int32) (x2 : Int32) (σ : zSt) (H : Heap) (locs : List Loc) (ls : Array Slot), w_X4_numberOf_2 N  Q f x1 x2 σ → va_P (dC, dI) vwCl (x_W ad cI cJ σ) H → va_D (zAW x_n ad s.heap.size) (x_W ad cI cJ σ) → va_S (zAW x_n ad s.heap.size) s.heap H locs → lv_has ls 3 [(0, .ref (ad 6)), (1, .int x1), (2, .int x2)] → W p l e rm_X4_numberOf s m args below meth c H locs 0 0 (MQ below (zQi (dC, dI) (x_ty cI cJ) (x_W ad cI cJ) (zAW x_n ad s.heap.size) Q) args s 0 0 (zAW x_n ad s.heap.size)) (F0 m 2 ls []) := by
  intro f
  induction f with
  | zero => intro x1 x2 σ H locs ls h; exact h.elim
  | succ f ih =>
    intro x1 x2 σ H locs ls h hP hD hS hl
    exact tb_X4_numberOf_2 C0 hK N  (k_2 := w_X4_numberOf_2 N  Q f) ih x1 x2 σ H locs ls h hP hD hS hl
set_option maxHeartbeats 4000000 in
set_option maxRecDepth 100000 in
theorem t_X4_numberOf_0 (C0 : zCx p s m meth c args RX4 cX4_numberOf 3 (some .int) vs_X4_numberOf) (hK : va_K (dC, dI) vwCl (x_ty cI cJ) s) (N : Nat) {Q : Int32 → zSt → Prop} : ∀ (x1 : Int32) (σ : zSt) (H : Heap) (locs : List Loc) (ls : Array Slot), w_X4_numberOf N x1 σ Q → va_P (dC, dI) vwCl (x_W ad cI cJ σ) H → va_D (zAW x_n ad s.heap.size) (x_W ad cI cJ σ) → va_S (zAW x_n ad s.heap.size) s.heap H locs → lv_has ls 3 [(0, .ref (ad 6)), (1, .int x1)] → W p l e rm_X4_numberOf s m args below meth c H locs 0 0 (MQ below (zQi (dC, dI) (x_ty cI cJ) (x_W ad cI cJ) (zAW x_n ad s.heap.size) Q) args s 0 0 (zAW x_n ad s.heap.size)) (F0 m 0 ls []) := by
  obtain ⟨hx, hb, hml, hr, hown, hts, hlocks⟩ := id C0
  intro x1 σ H locs ls h hP hD hS hl
  unfold w_X4_numberOf at h
  refine lv_iconst (v := (0 : Int32)) hx hb dX4_numberOf_0 (by decide) ?_
  refine lv_istore_n (lv' := [(2, .int (0 : Int32)), (0, .ref (ad 6)), (1, .int x1)]) hx hb dX4_numberOf_1 rfl hl (by decide) rfl (fun ls hl => ?_)
  exact t_X4_numberOf_2 C0 hK N  N x1 (0 : Int32) σ _ _ _ h hP hD hS (lv_sub hl [1, 2, 0] rfl)
set_option maxHeartbeats 4000000 in
set_option maxRecDepth 100000 in
theorem c_X4_numberOf (N : Nat) (l : Launch) (dC : Nat → ClassId) (dI : Nat → Nat → Nat) (ad : Nat → Nat) (cI cJ : ClassId) (sz : Nat) (σ : zSt) (x1 : Int32) (Q : Int32 → zSt → Prop) (h : w_X4_numberOf N x1 σ Q) : Met l yX4_numberOf vs_X4_numberOf rm_X4_numberOf (va_Pc [.ref (ad 6), .int x1] (zPc (dC, dI) (x_ty cI cJ) (x_W ad cI cJ) sz σ)) (zQi (dC, dI) (x_ty cI cJ) (x_W ad cI cJ) (zAW x_n ad sz) Q) 0 0 (zAW x_n ad sz) := by
  refine Met.ofW (cc := cX4_numberOf) (maxL := 3) (ret := (some .int)) (by decide) rfl ?_
  intro p e s m args below meth c s₁ B hml hv
  obtain ⟨rfl, hsz, hP, hK, hD0⟩ := hv
  subst hsz
  have C0 : zCx p s m meth c _ RX4 cX4_numberOf 3 (some .int) vs_X4_numberOf := ⟨B.exec, B.bytes, hml, B.returns, findClass_of_methodNamed B.named, atoms_spec (ws := vs_X4_numberOf) B.pre, B.notSynchronized⟩
  have hD := x_D0 (n0 := s.heap.size) hD0
  have hl := lv_entry ([.ref (ad 6), .int x1]) (n := 3) (Nat.le_of_ble_eq_true rfl)
  rw [lg_entry_eq]
  generalize (lg_sl ([.ref (ad 6), .int x1]) ++ List.replicate (3 - (lg_sl ([.ref (ad 6), .int x1])).length) Slot.unset).toArray = ls at hl ⊢
  exact t_X4_numberOf_0 C0 hK N x1 σ _ _ ls h hP hD va_S.rf hl
theorem k_X4_numberOf (N : Nat) {R : Room} {H : Heap} {locs : List Loc} {cells slots : Nat} {Q2 : State → Prop} {cc : ByteArray} {nL pc index : Nat} {ls : Array Slot} {rest : List Value} {own : String} {c0 : Cond} {σ : zSt} {x1 : Int32} {Q : Int32 → zSt → Prop} (S0 : CallFix p m c cc nL s args (c0 :: zT) own) (hml : Cond.methodLink own index yX4_numberOf ∈ zT) (hR : rm_X4_numberOf.frames + 1 ≤ R.frames ∧ 8 + (3 + 11) + rm_X4_numberOf.locals ≤ R.locals) (h : w_X4_numberOf N x1 σ Q) (hK : va_K (dC, dI) vwCl (x_ty cI cJ) s) (hP : va_P (dC, dI) vwCl (x_W ad cI cJ σ) H) (hD : va_D (zAW x_n ad s.heap.size) (x_W ad cI cJ σ)) (hS : va_S (zAW x_n ad s.heap.size) s.heap H locs) (hsz : ls.size = nL) (hW : (rest.map fun v => v.category).sum ≤ 8) (hcs : cells ≤ R.cells ∧ slots ≤ R.slots) (hdg : decode cc pc = .ok (.invokevirtual index, 3)) (kk : ∀ (r : Int32) (τ : zSt) (H1 : Heap) (locs1 : List Loc), Q r τ → va_P (dC, dI) vwCl (x_W ad cI cJ τ) H1 → va_D (zAW x_n ad s.heap.size) (x_W ad cI cJ τ) → va_S (zAW x_n ad s.heap.size) s.heap H1 locs1 → W p l e R s m args below meth c H1 locs1 cells slots Q2 (F0 m (pc + 3) ls (.int r :: rest))) : W p l e R s m args below meth c H locs cells slots Q2 (F0 m pc ls (.int x1 :: .ref (ad 6) :: rest)) :=
  zcv_i (T := TX4) (N' := 8) (k := 6) (ci := 4) (fs := x_f6 ad σ) [.int x1] S0 (c_X4_numberOf N l dC dI ad cI cJ H.size σ x1 Q h) (cw_X4_numberOf S0.2.2.2.2 hml rfl rfl hR) rfl rfl hK hP hD hS rfl hsz hW rfl hcs hdg kk
end q01
section q01
def w_X5_takeWord (N : Nat) (x1 : Int32) (σ : zSt) (Q : Int32 → zSt → Prop) : Prop :=
  ((σ.1 16) = x1 → w_X5_take N σ (fun r3 τ4 => (zb r3) ∧ Q r3 τ4)) ∧ (¬ (σ.1 16) = x1 → w_X5_fail N (1 : Int32) (σ.1 13) σ (fun r1 τ2 => (zb r1) ∧ Q r1 τ2))
variable {p : Program} {l : Launch} {e : Env} {s : State} {m : MethodId} {args : Array Value} {below : List Frame} {meth : Method} {c : Code} {dC : Nat → ClassId} {dI : Nat → Nat → Nat} {ad : Nat → Nat} {cI cJ : ClassId}
set_option maxHeartbeats 4000000 in
set_option maxRecDepth 100000 in
theorem t_X5_takeWord_0 (C0 : zCx p s m meth c args RX5 cX5_takeWord 2 (some .boolean) vs_X5_takeWord) (hK : va_K (dC, dI) vwCl (x_ty cI cJ) s) (N : Nat) {Q : Int32 → zSt → Prop} : ∀ (x1 : Int32) (σ : zSt) (H : Heap) (locs : List Loc) (ls : Array Slot), w_X5_takeWord N x1 σ Q → va_P (dC, dI) vwCl (x_W ad cI cJ σ) H → va_D (zAW x_n ad s.heap.size) (x_W ad cI cJ σ) → va_S (zAW x_n ad s.heap.size) s.heap H locs → lv_has ls 2 [(0, .ref (ad 5)), (1, .int x1)] → W p l e rm_X5_takeWord s m args below meth c H locs 0 0 (MQ below (zQi (dC, dI) (x_ty cI cJ) (x_W ad cI cJ) (zAW x_n ad s.heap.size) Q) args s 0 0 (zAW x_n ad s.heap.size)) (F0 m 0 ls []) := by
  obtain ⟨hx, hb, hml, hr, hown, hts, hlocks⟩ := id C0
  intro x1 σ H locs ls h hP hD hS hl
  unfold w_X5_takeWord at h
  refine lv_aload_n hx hb dX5_takeWord_0 rfl (lv_at hl 0 rfl) ?_
  refine xg_5_13 hx hb hts hown hK hP mw_191 dX5_takeWord_1 ?_
  refine lv_iload_n hx hb dX5_takeWord_4 rfl (lv_at hl 1 rfl) ?_
  refine lv_icmp_ne (tgt := 15) hx hb dX5_takeWord_5 (by decide) (fun hc => ?_) (fun hc => ?_)
  · have h := h.2 hc
    refine lv_aload_n hx hb dX5_takeWord_15 rfl (lv_at hl 0 rfl) ?_
    refine lv_iconst (v := (1 : Int32)) hx hb dX5_takeWord_16 (by decide) ?_
    refine lv_aload_n hx hb dX5_takeWord_17 rfl (lv_at hl 0 rfl) ?_
    refine xg_5_10 hx hb hts hown hK hP mw_188 dX5_takeWord_18 ?_
    refine k_X5_fail N ⟨hx, hb, hml, hown, hts⟩ mw_369 ⟨Nat.le_of_ble_eq_true rfl, Nat.le_of_ble_eq_true rfl⟩ h hK hP hD hS hl.1 (rest := []) (Nat.le_of_ble_eq_true rfl) ⟨Nat.le_of_ble_eq_true rfl, Nat.le_of_ble_eq_true rfl⟩ dX5_takeWord_21 (fun r1 τ2 H locs h hP hD hS => ?_)
    exact zret_z hx hb hr hlocks hK hP hD hS h.1 h.2 dX5_takeWord_24
  · have h := h.1 hc
    refine lv_aload_n hx hb dX5_takeWord_8 rfl (lv_at hl 0 rfl) ?_
    refine k_X5_take N ⟨hx, hb, hml, hown, hts⟩ mw_363 ⟨Nat.le_of_ble_eq_true rfl, Nat.le_of_ble_eq_true rfl⟩ h hK hP hD hS hl.1 (rest := []) (Nat.le_of_ble_eq_true rfl) ⟨Nat.le_of_ble_eq_true rfl, Nat.le_of_ble_eq_true rfl⟩ dX5_takeWord_9 (fun r3 τ4 H locs h hP hD hS => ?_)
    refine lv_goto (tgt := 24) hx hb dX5_takeWord_12 (by decide) ?_
    exact zret_z hx hb hr hlocks hK hP hD hS h.1 h.2 dX5_takeWord_24
set_option maxHeartbeats 4000000 in
set_option maxRecDepth 100000 in
theorem c_X5_takeWord (N : Nat) (l : Launch) (dC : Nat → ClassId) (dI : Nat → Nat → Nat) (ad : Nat → Nat) (cI cJ : ClassId) (sz : Nat) (σ : zSt) (x1 : Int32) (Q : Int32 → zSt → Prop) (h : w_X5_takeWord N x1 σ Q) : Met l yX5_takeWord vs_X5_takeWord rm_X5_takeWord (va_Pc [.ref (ad 5), .int x1] (zPc (dC, dI) (x_ty cI cJ) (x_W ad cI cJ) sz σ)) (zQi (dC, dI) (x_ty cI cJ) (x_W ad cI cJ) (zAW x_n ad sz) Q) 0 0 (zAW x_n ad sz) := by
  refine Met.ofW (cc := cX5_takeWord) (maxL := 2) (ret := (some .boolean)) (by decide) rfl ?_
  intro p e s m args below meth c s₁ B hml hv
  obtain ⟨rfl, hsz, hP, hK, hD0⟩ := hv
  subst hsz
  have C0 : zCx p s m meth c _ RX5 cX5_takeWord 2 (some .boolean) vs_X5_takeWord := ⟨B.exec, B.bytes, hml, B.returns, findClass_of_methodNamed B.named, atoms_spec (ws := vs_X5_takeWord) B.pre, B.notSynchronized⟩
  have hD := x_D0 (n0 := s.heap.size) hD0
  have hl := lv_entry ([.ref (ad 5), .int x1]) (n := 2) (Nat.le_of_ble_eq_true rfl)
  rw [lg_entry_eq]
  generalize (lg_sl ([.ref (ad 5), .int x1]) ++ List.replicate (2 - (lg_sl ([.ref (ad 5), .int x1])).length) Slot.unset).toArray = ls at hl ⊢
  exact t_X5_takeWord_0 C0 hK N x1 σ _ _ ls h hP hD va_S.rf hl
theorem k_X5_takeWord (N : Nat) {R : Room} {H : Heap} {locs : List Loc} {cells slots : Nat} {Q2 : State → Prop} {cc : ByteArray} {nL pc index : Nat} {ls : Array Slot} {rest : List Value} {own : String} {c0 : Cond} {σ : zSt} {x1 : Int32} {Q : Int32 → zSt → Prop} (S0 : CallFix p m c cc nL s args (c0 :: zT) own) (hml : Cond.methodLink own index yX5_takeWord ∈ zT) (hR : rm_X5_takeWord.frames + 1 ≤ R.frames ∧ 8 + (2 + 11) + rm_X5_takeWord.locals ≤ R.locals) (h : w_X5_takeWord N x1 σ Q) (hK : va_K (dC, dI) vwCl (x_ty cI cJ) s) (hP : va_P (dC, dI) vwCl (x_W ad cI cJ σ) H) (hD : va_D (zAW x_n ad s.heap.size) (x_W ad cI cJ σ)) (hS : va_S (zAW x_n ad s.heap.size) s.heap H locs) (hsz : ls.size = nL) (hW : (rest.map fun v => v.category).sum ≤ 8) (hcs : cells ≤ R.cells ∧ slots ≤ R.slots) (hdg : decode cc pc = .ok (.invokevirtual index, 3)) (kk : ∀ (r : Int32) (τ : zSt) (H1 : Heap) (locs1 : List Loc), Q r τ → va_P (dC, dI) vwCl (x_W ad cI cJ τ) H1 → va_D (zAW x_n ad s.heap.size) (x_W ad cI cJ τ) → va_S (zAW x_n ad s.heap.size) s.heap H1 locs1 → W p l e R s m args below meth c H1 locs1 cells slots Q2 (F0 m (pc + 3) ls (.int r :: rest))) : W p l e R s m args below meth c H locs cells slots Q2 (F0 m pc ls (.int x1 :: .ref (ad 5) :: rest)) :=
  zcv_i (T := TX5) (N' := 14) (k := 5) (ci := 5) (fs := x_f5 ad σ) [.int x1] S0 (c_X5_takeWord N l dC dI ad cI cJ H.size σ x1 Q h) (cw_X5_takeWord S0.2.2.2.2 hml rfl rfl hR) rfl rfl hK hP hD hS rfl hsz hW rfl hcs hdg kk
end q01
section q01
def w_X5_seesNumber (N : Nat) (x1 : Int32) (σ : zSt) (Q : Int32 → zSt → Prop) : Prop :=
  ((σ.1 12) = (2 : Int32) → ((σ.1 14) ≤ (4 : Int32) → ((σ.1 15) ≤ x1 → Q (1 : Int32) σ) ∧ (¬ (σ.1 15) ≤ x1 → w_X5_fail N (2 : Int32) (σ.1 13) σ (fun r1 τ2 => (r1 = 0 → Q (0 : Int32) τ2) ∧ (¬ r1 = 0 → Q (1 : Int32) τ2)))) ∧ (¬ (σ.1 14) ≤ (4 : Int32) → w_X5_fail N (1 : Int32) ((σ.1 13) + (4 : Int32)) σ (fun r3 τ4 => (zb r3) ∧ Q r3 τ4))) ∧ (¬ (σ.1 12) = (2 : Int32) → w_X5_fail N (1 : Int32) (σ.1 13) σ (fun r5 τ6 => (zb r5) ∧ Q r5 τ6))
variable {p : Program} {l : Launch} {e : Env} {s : State} {m : MethodId} {args : Array Value} {below : List Frame} {meth : Method} {c : Code} {dC : Nat → ClassId} {dI : Nat → Nat → Nat} {ad : Nat → Nat} {cI cJ : ClassId}
set_option maxHeartbeats 4000000 in
set_option maxRecDepth 100000 in
theorem t_X5_seesNumber_0 (C0 : zCx p s m meth c args RX5 cX5_seesNumber 2 (some .boolean) vs_X5_seesNumber) (hK : va_K (dC, dI) vwCl (x_ty cI cJ) s) (N : Nat) {Q : Int32 → zSt → Prop} : ∀ (x1 : Int32) (σ : zSt) (H : Heap) (locs : List Loc) (ls : Array Slot), w_X5_seesNumber N x1 σ Q → va_P (dC, dI) vwCl (x_W ad cI cJ σ) H → va_D (zAW x_n ad s.heap.size) (x_W ad cI cJ σ) → va_S (zAW x_n ad s.heap.size) s.heap H locs → lv_has ls 2 [(0, .ref (ad 5)), (1, .int x1)] → W p l e rm_X5_seesNumber s m args below meth c H locs 0 0 (MQ below (zQi (dC, dI) (x_ty cI cJ) (x_W ad cI cJ) (zAW x_n ad s.heap.size) Q) args s 0 0 (zAW x_n ad s.heap.size)) (F0 m 0 ls []) := by
  obtain ⟨hx, hb, hml, hr, hown, hts, hlocks⟩ := id C0
  intro x1 σ H locs ls h hP hD hS hl
  unfold w_X5_seesNumber at h
  refine lv_aload_n hx hb dX5_seesNumber_0 rfl (lv_at hl 0 rfl) ?_
  refine xg_5_9 hx hb hts hown hK hP mw_187 dX5_seesNumber_1 ?_
  refine lv_iconst (v := (2 : Int32)) hx hb dX5_seesNumber_4 (by decide) ?_
  refine lv_icmp_eq (tgt := 18) hx hb dX5_seesNumber_5 (by decide) (fun hc => ?_) (fun hc => ?_)
  · have h := h.1 hc
    refine lv_aload_n hx hb dX5_seesNumber_18 rfl (lv_at hl 0 rfl) ?_
    refine xg_5_11 hx hb hts hown hK hP mw_189 dX5_seesNumber_19 ?_
    refine lv_iconst (v := (4 : Int32)) hx hb dX5_seesNumber_22 (by decide) ?_
    refine lv_icmp_le (tgt := 38) hx hb dX5_seesNumber_23 (by decide) (fun hc => ?_) (fun hc => ?_)
    · have h := h.1 hc
      refine lv_aload_n hx hb dX5_seesNumber_38 rfl (lv_at hl 0 rfl) ?_
      refine xg_5_12 hx hb hts hown hK hP mw_190 dX5_seesNumber_39 ?_
      refine lv_iload_n hx hb dX5_seesNumber_42 rfl (lv_at hl 1 rfl) ?_
      refine lv_icmp_le (tgt := 58) hx hb dX5_seesNumber_43 (by decide) (fun hc => ?_) (fun hc => ?_)
      · have h := h.1 hc
        refine lv_iconst (v := (1 : Int32)) hx hb dX5_seesNumber_58 (by decide) ?_
        refine lv_goto (tgt := 63) hx hb dX5_seesNumber_59 (by decide) ?_
        exact zret_z hx hb hr hlocks hK hP hD hS zb_1 h dX5_seesNumber_63
      · have h := h.2 hc
        refine lv_aload_n hx hb dX5_seesNumber_46 rfl (lv_at hl 0 rfl) ?_
        refine lv_iconst (v := (2 : Int32)) hx hb dX5_seesNumber_47 (by decide) ?_
        refine lv_aload_n hx hb dX5_seesNumber_48 rfl (lv_at hl 0 rfl) ?_
        refine xg_5_10 hx hb hts hown hK hP mw_188 dX5_seesNumber_49 ?_
        refine k_X5_fail N ⟨hx, hb, hml, hown, hts⟩ mw_369 ⟨Nat.le_of_ble_eq_true rfl, Nat.le_of_ble_eq_true rfl⟩ h hK hP hD hS hl.1 (rest := []) (Nat.le_of_ble_eq_true rfl) ⟨Nat.le_of_ble_eq_true rfl, Nat.le_of_ble_eq_true rfl⟩ dX5_seesNumber_52 (fun r1 τ2 H locs h hP hD hS => ?_)
        refine lv_if_eq (tgt := 62) hx hb dX5_seesNumber_55 (by decide) (fun hc => ?_) (fun hc => ?_)
        · have h := h.1 hc
          refine lv_iconst (v := (0 : Int32)) hx hb dX5_seesNumber_62 (by decide) ?_
          exact zret_z hx hb hr hlocks hK hP hD hS zb_0 h dX5_seesNumber_63
        · have h := h.2 hc
          refine lv_iconst (v := (1 : Int32)) hx hb dX5_seesNumber_58 (by decide) ?_
          refine lv_goto (tgt := 63) hx hb dX5_seesNumber_59 (by decide) ?_
          exact zret_z hx hb hr hlocks hK hP hD hS zb_1 h dX5_seesNumber_63
    · have h := h.2 hc
      refine lv_aload_n hx hb dX5_seesNumber_26 rfl (lv_at hl 0 rfl) ?_
      refine lv_iconst (v := (1 : Int32)) hx hb dX5_seesNumber_27 (by decide) ?_
      refine lv_aload_n hx hb dX5_seesNumber_28 rfl (lv_at hl 0 rfl) ?_
      refine xg_5_10 hx hb hts hown hK hP mw_188 dX5_seesNumber_29 ?_
      refine lv_iconst (v := (4 : Int32)) hx hb dX5_seesNumber_32 (by decide) ?_
      refine lv_iadd hx hb dX5_seesNumber_33 ?_
      refine k_X5_fail N ⟨hx, hb, hml, hown, hts⟩ mw_369 ⟨Nat.le_of_ble_eq_true rfl, Nat.le_of_ble_eq_true rfl⟩ h hK hP hD hS hl.1 (rest := []) (Nat.le_of_ble_eq_true rfl) ⟨Nat.le_of_ble_eq_true rfl, Nat.le_of_ble_eq_true rfl⟩ dX5_seesNumber_34 (fun r3 τ4 H locs h hP hD hS => ?_)
      exact zret_z hx hb hr hlocks hK hP hD hS h.1 h.2 dX5_seesNumber_37
  · have h := h.2 hc
    refine lv_aload_n hx hb dX5_seesNumber_8 rfl (lv_at hl 0 rfl) ?_
    refine lv_iconst (v := (1 : Int32)) hx hb dX5_seesNumber_9 (by decide) ?_
    refine lv_aload_n hx hb dX5_seesNumber_10 rfl (lv_at hl 0 rfl) ?_
    refine xg_5_10 hx hb hts hown hK hP mw_188 dX5_seesNumber_11 ?_
    refine k_X5_fail N ⟨hx, hb, hml, hown, hts⟩ mw_369 ⟨Nat.le_of_ble_eq_true rfl, Nat.le_of_ble_eq_true rfl⟩ h hK hP hD hS hl.1 (rest := []) (Nat.le_of_ble_eq_true rfl) ⟨Nat.le_of_ble_eq_true rfl, Nat.le_of_ble_eq_true rfl⟩ dX5_seesNumber_14 (fun r5 τ6 H locs h hP hD hS => ?_)
    exact zret_z hx hb hr hlocks hK hP hD hS h.1 h.2 dX5_seesNumber_17
set_option maxHeartbeats 4000000 in
set_option maxRecDepth 100000 in
theorem c_X5_seesNumber (N : Nat) (l : Launch) (dC : Nat → ClassId) (dI : Nat → Nat → Nat) (ad : Nat → Nat) (cI cJ : ClassId) (sz : Nat) (σ : zSt) (x1 : Int32) (Q : Int32 → zSt → Prop) (h : w_X5_seesNumber N x1 σ Q) : Met l yX5_seesNumber vs_X5_seesNumber rm_X5_seesNumber (va_Pc [.ref (ad 5), .int x1] (zPc (dC, dI) (x_ty cI cJ) (x_W ad cI cJ) sz σ)) (zQi (dC, dI) (x_ty cI cJ) (x_W ad cI cJ) (zAW x_n ad sz) Q) 0 0 (zAW x_n ad sz) := by
  refine Met.ofW (cc := cX5_seesNumber) (maxL := 2) (ret := (some .boolean)) (by decide) rfl ?_
  intro p e s m args below meth c s₁ B hml hv
  obtain ⟨rfl, hsz, hP, hK, hD0⟩ := hv
  subst hsz
  have C0 : zCx p s m meth c _ RX5 cX5_seesNumber 2 (some .boolean) vs_X5_seesNumber := ⟨B.exec, B.bytes, hml, B.returns, findClass_of_methodNamed B.named, atoms_spec (ws := vs_X5_seesNumber) B.pre, B.notSynchronized⟩
  have hD := x_D0 (n0 := s.heap.size) hD0
  have hl := lv_entry ([.ref (ad 5), .int x1]) (n := 2) (Nat.le_of_ble_eq_true rfl)
  rw [lg_entry_eq]
  generalize (lg_sl ([.ref (ad 5), .int x1]) ++ List.replicate (2 - (lg_sl ([.ref (ad 5), .int x1])).length) Slot.unset).toArray = ls at hl ⊢
  exact t_X5_seesNumber_0 C0 hK N x1 σ _ _ ls h hP hD va_S.rf hl
theorem k_X5_seesNumber (N : Nat) {R : Room} {H : Heap} {locs : List Loc} {cells slots : Nat} {Q2 : State → Prop} {cc : ByteArray} {nL pc index : Nat} {ls : Array Slot} {rest : List Value} {own : String} {c0 : Cond} {σ : zSt} {x1 : Int32} {Q : Int32 → zSt → Prop} (S0 : CallFix p m c cc nL s args (c0 :: zT) own) (hml : Cond.methodLink own index yX5_seesNumber ∈ zT) (hR : rm_X5_seesNumber.frames + 1 ≤ R.frames ∧ 8 + (2 + 11) + rm_X5_seesNumber.locals ≤ R.locals) (h : w_X5_seesNumber N x1 σ Q) (hK : va_K (dC, dI) vwCl (x_ty cI cJ) s) (hP : va_P (dC, dI) vwCl (x_W ad cI cJ σ) H) (hD : va_D (zAW x_n ad s.heap.size) (x_W ad cI cJ σ)) (hS : va_S (zAW x_n ad s.heap.size) s.heap H locs) (hsz : ls.size = nL) (hW : (rest.map fun v => v.category).sum ≤ 8) (hcs : cells ≤ R.cells ∧ slots ≤ R.slots) (hdg : decode cc pc = .ok (.invokevirtual index, 3)) (kk : ∀ (r : Int32) (τ : zSt) (H1 : Heap) (locs1 : List Loc), Q r τ → va_P (dC, dI) vwCl (x_W ad cI cJ τ) H1 → va_D (zAW x_n ad s.heap.size) (x_W ad cI cJ τ) → va_S (zAW x_n ad s.heap.size) s.heap H1 locs1 → W p l e R s m args below meth c H1 locs1 cells slots Q2 (F0 m (pc + 3) ls (.int r :: rest))) : W p l e R s m args below meth c H locs cells slots Q2 (F0 m pc ls (.int x1 :: .ref (ad 5) :: rest)) :=
  zcv_i (T := TX5) (N' := 14) (k := 5) (ci := 5) (fs := x_f5 ad σ) [.int x1] S0 (c_X5_seesNumber N l dC dI ad cI cJ H.size σ x1 Q h) (cw_X5_seesNumber S0.2.2.2.2 hml rfl rfl hR) rfl rfl hK hP hD hS rfl hsz hW rfl hcs hdg kk
end q01
section q01
def w_X3_count (N : Nat) (x0 : Int32) (σ : zSt) (Q : Int32 → zSt → Prop) : Prop :=
  Q ((x0 * (x0 - (1 : Int32))) / (2 : Int32)) σ
variable {p : Program} {l : Launch} {e : Env} {s : State} {m : MethodId} {args : Array Value} {below : List Frame} {meth : Method} {c : Code} {dC : Nat → ClassId} {dI : Nat → Nat → Nat} {ad : Nat → Nat} {cI cJ : ClassId}
set_option maxHeartbeats 4000000 in
set_option maxRecDepth 100000 in
theorem t_X3_count_0 (C0 : zCx p s m meth c args RX3 cX3_count 1 (some .int) vs_X3_count) (hK : va_K (dC, dI) vwCl (x_ty cI cJ) s) (N : Nat) {Q : Int32 → zSt → Prop} : ∀ (x0 : Int32) (σ : zSt) (H : Heap) (locs : List Loc) (ls : Array Slot), w_X3_count N x0 σ Q → va_P (dC, dI) vwCl (x_W ad cI cJ σ) H → va_D (zAW x_n ad s.heap.size) (x_W ad cI cJ σ) → va_S (zAW x_n ad s.heap.size) s.heap H locs → lv_has ls 1 [(0, .int x0)] → W p l e rm_X3_count s m args below meth c H locs 0 0 (MQ below (zQi (dC, dI) (x_ty cI cJ) (x_W ad cI cJ) (zAW x_n ad s.heap.size) Q) args s 0 0 (zAW x_n ad s.heap.size)) (F0 m 0 ls []) := by
  obtain ⟨hx, hb, hml, hr, hown, hts, hlocks⟩ := id C0
  intro x0 σ H locs ls h hP hD hS hl
  unfold w_X3_count at h
  refine lv_iload_n hx hb dX3_count_0 rfl (lv_at hl 0 rfl) ?_
  refine lv_iload_n hx hb dX3_count_1 rfl (lv_at hl 0 rfl) ?_
  refine lv_iconst (v := (1 : Int32)) hx hb dX3_count_2 (by decide) ?_
  refine lv_isub hx hb dX3_count_3 ?_
  refine lv_imul hx hb dX3_count_4 ?_
  refine lv_iconst (v := (2 : Int32)) hx hb dX3_count_5 (by decide) ?_
  refine lv_idiv hx hb dX3_count_6 (by decide) ?_
  exact zret_i hx hb hr hlocks hK hP hD hS h dX3_count_7
set_option maxHeartbeats 4000000 in
set_option maxRecDepth 100000 in
theorem c_X3_count (N : Nat) (l : Launch) (dC : Nat → ClassId) (dI : Nat → Nat → Nat) (ad : Nat → Nat) (cI cJ : ClassId) (sz : Nat) (σ : zSt) (x0 : Int32) (Q : Int32 → zSt → Prop) (h : w_X3_count N x0 σ Q) : Met l yX3_count vs_X3_count rm_X3_count (va_Pc [.int x0] (zPc (dC, dI) (x_ty cI cJ) (x_W ad cI cJ) sz σ)) (zQi (dC, dI) (x_ty cI cJ) (x_W ad cI cJ) (zAW x_n ad sz) Q) 0 0 (zAW x_n ad sz) := by
  refine Met.ofW (cc := cX3_count) (maxL := 1) (ret := (some .int)) (by decide) rfl ?_
  intro p e s m args below meth c s₁ B hml hv
  obtain ⟨rfl, hsz, hP, hK, hD0⟩ := hv
  subst hsz
  have C0 : zCx p s m meth c _ RX3 cX3_count 1 (some .int) vs_X3_count := ⟨B.exec, B.bytes, hml, B.returns, findClass_of_methodNamed B.named, atoms_spec (ws := vs_X3_count) B.pre, B.notSynchronized⟩
  have hD := x_D0 (n0 := s.heap.size) hD0
  have hl := lv_entry ([.int x0]) (n := 1) (Nat.le_of_ble_eq_true rfl)
  rw [lg_entry_eq]
  generalize (lg_sl ([.int x0]) ++ List.replicate (1 - (lg_sl ([.int x0])).length) Slot.unset).toArray = ls at hl ⊢
  exact t_X3_count_0 C0 hK N x0 σ _ _ ls h hP hD va_S.rf hl
theorem k_X3_count (N : Nat) {R : Room} {H : Heap} {locs : List Loc} {cells slots : Nat} {Q2 : State → Prop} {cc : ByteArray} {nL pc index : Nat} {ls : Array Slot} {rest : List Value} {own : String} {c0 : Cond} {σ : zSt} {x0 : Int32} {Q : Int32 → zSt → Prop} (S0 : CallFix p m c cc nL s args (c0 :: zT) own) (hml : Cond.methodLink own index yX3_count ∈ zT) (hR : rm_X3_count.frames + 1 ≤ R.frames ∧ 8 + (1 + 11) + rm_X3_count.locals ≤ R.locals) (h : w_X3_count N x0 σ Q) (hK : va_K (dC, dI) vwCl (x_ty cI cJ) s) (hP : va_P (dC, dI) vwCl (x_W ad cI cJ σ) H) (hD : va_D (zAW x_n ad s.heap.size) (x_W ad cI cJ σ)) (hS : va_S (zAW x_n ad s.heap.size) s.heap H locs) (hsz : ls.size = nL) (hW : (rest.map fun v => v.category).sum ≤ 8) (hcs : cells ≤ R.cells ∧ slots ≤ R.slots) (hdg : decode cc pc = .ok (.invokestatic index, 3)) (kk : ∀ (r : Int32) (τ : zSt) (H1 : Heap) (locs1 : List Loc), Q r τ → va_P (dC, dI) vwCl (x_W ad cI cJ τ) H1 → va_D (zAW x_n ad s.heap.size) (x_W ad cI cJ τ) → va_S (zAW x_n ad s.heap.size) s.heap H1 locs1 → W p l e R s m args below meth c H1 locs1 cells slots Q2 (F0 m (pc + 3) ls (.int r :: rest))) : W p l e R s m args below meth c H locs cells slots Q2 (F0 m pc ls (.int x0 :: rest)) :=
  zcs_i [.int x0] S0 (c_X3_count N l dC dI ad cI cJ H.size σ x0 Q h) (cw_X3_count S0.2.2.2.2 hml hR) hK hP hD hS rfl hsz hW rfl hcs hdg kk
end q01
section q01
def w_X4_add (N : Nat) (x1 : Int32) (x2 : Int32) (σ : zSt) (Q : zSt → Prop) : Prop :=
  ((10 : Int32) ≤ (σ.1 17) → Q σ) ∧ (¬ (10 : Int32) ≤ (σ.1 17) → (vp_in (σ.1 17) 10) ∧ (∀ τ1 : zSt, τ1 = zA σ 15 (upd (σ.2.2.1 15) ((σ.1 17).toNatClampNeg) x1) → (vp_in (τ1.1 17) 10) ∧ (∀ τ2 : zSt, τ2 = zA τ1 16 (upd (τ1.2.2.1 16) ((τ1.1 17).toNatClampNeg) x2) → (vp_in (τ2.1 17) 10) ∧ (∀ τ3 : zSt, τ3 = zA τ2 17 (upd (τ2.2.2.1 17) ((τ2.1 17).toNatClampNeg) (9 : Int32)) → ∀ τ4 : zSt, τ4 = zI τ3 17 ((τ3.1 17) + (1 : Int32)) → w_X3_count N (τ4.1 17) τ4 (fun r5 τ6 => ∀ τ7 : zSt, τ7 = zI τ6 18 r5 → Q τ7)))))
variable {p : Program} {l : Launch} {e : Env} {s : State} {m : MethodId} {args : Array Value} {below : List Frame} {meth : Method} {c : Code} {dC : Nat → ClassId} {dI : Nat → Nat → Nat} {ad : Nat → Nat} {cI cJ : ClassId}
set_option maxHeartbeats 4000000 in
set_option maxRecDepth 100000 in
theorem t_X4_add_0 (C0 : zCx p s m meth c args RX4 cX4_add 3 none vs_X4_add) (hK : va_K (dC, dI) vwCl (x_ty cI cJ) s) (N : Nat) {Q : zSt → Prop} : ∀ (x1 : Int32) (x2 : Int32) (σ : zSt) (H : Heap) (locs : List Loc) (ls : Array Slot), w_X4_add N x1 x2 σ Q → va_P (dC, dI) vwCl (x_W ad cI cJ σ) H → va_D (zAW x_n ad s.heap.size) (x_W ad cI cJ σ) → va_S (zAW x_n ad s.heap.size) s.heap H locs → lv_has ls 3 [(0, .ref (ad 6)), (1, .int x1), (2, .int x2)] → W p l e rm_X4_add s m args below meth c H locs 0 0 (MQ below (zQv (dC, dI) (x_ty cI cJ) (x_W ad cI cJ) (zAW x_n ad s.heap.size) Q) args s 0 0 (zAW x_n ad s.heap.size)) (F0 m 0 ls []) := by
  obtain ⟨hx, hb, hml, hr, hown, hts, hlocks⟩ := id C0
  intro x1 x2 σ H locs ls h hP hD hS hl
  unfold w_X4_add at h
  refine lv_aload_n hx hb dX4_add_0 rfl (lv_at hl 0 rfl) ?_
  refine xg_6_4 hx hb hts hown hK hP mw_73 dX4_add_1 ?_
  refine lv_bipush (v := (10 : Int32)) hx hb dX4_add_4 (by decide) ?_
  refine lv_icmp_ge (tgt := 61) hx hb dX4_add_6 (by decide) (fun hc => ?_) (fun hc => ?_)
  · have h := h.1 hc
    exact zret_v hx hb hr hlocks hK hP hD hS h dX4_add_61
  · have h := h.2 hc
    refine lv_aload_n hx hb dX4_add_9 rfl (lv_at hl 0 rfl) ?_
    refine xg_6_1 hx hb hts hown hK hP mw_67 dX4_add_10 ?_
    refine lv_aload_n hx hb dX4_add_13 rfl (lv_at hl 0 rfl) ?_
    refine xg_6_4 hx hb hts hown hK hP mw_73 dX4_add_14 ?_
    refine lv_iload_n hx hb dX4_add_17 rfl (lv_at hl 1 rfl) ?_
    refine xs_34 hx hb hK hP hD hS h.1 rfl dX4_add_18 (fun τ1 H locs eτ1 hP hD hS => ?_)
    have h := h.2
    have h := h τ1 eτ1
    refine lv_aload_n hx hb dX4_add_19 rfl (lv_at hl 0 rfl) ?_
    refine xg_6_2 hx hb hts hown hK hP mw_69 dX4_add_20 ?_
    refine lv_aload_n hx hb dX4_add_23 rfl (lv_at hl 0 rfl) ?_
    refine xg_6_4 hx hb hts hown hK hP mw_73 dX4_add_24 ?_
    refine lv_iload_n hx hb dX4_add_27 rfl (lv_at hl 2 rfl) ?_
    refine xs_35 hx hb hK hP hD hS h.1 rfl dX4_add_28 (fun τ2 H locs eτ2 hP hD hS => ?_)
    have h := h.2
    have h := h τ2 eτ2
    refine lv_aload_n hx hb dX4_add_29 rfl (lv_at hl 0 rfl) ?_
    refine xg_6_3 hx hb hts hown hK hP mw_71 dX4_add_30 ?_
    refine lv_aload_n hx hb dX4_add_33 rfl (lv_at hl 0 rfl) ?_
    refine xg_6_4 hx hb hts hown hK hP mw_73 dX4_add_34 ?_
    refine lv_bipush (v := (9 : Int32)) hx hb dX4_add_37 (by decide) ?_
    refine xs_36 hx hb hK hP hD hS h.1 rfl dX4_add_39 (fun τ3 H locs eτ3 hP hD hS => ?_)
    have h := h.2
    have h := h τ3 eτ3
    refine lv_aload_n hx hb dX4_add_40 rfl (lv_at hl 0 rfl) ?_
    refine lv_dup hx hb dX4_add_41 rfl ?_
    refine xg_6_4 hx hb hts hown hK hP mw_73 dX4_add_42 ?_
    refine lv_iconst (v := (1 : Int32)) hx hb dX4_add_45 (by decide) ?_
    refine lv_iadd hx hb dX4_add_46 ?_
    refine xp_6_4 hx hb hts hown hK hP hD hS mw_73 dX4_add_47 (fun τ4 H locs eτ4 hP hD hS => ?_)
    have h := h τ4 eτ4
    refine lv_aload_n hx hb dX4_add_50 rfl (lv_at hl 0 rfl) ?_
    refine lv_aload_n hx hb dX4_add_51 rfl (lv_at hl 0 rfl) ?_
    refine xg_6_4 hx hb hts hown hK hP mw_73 dX4_add_52 ?_
    refine k_X3_count N ⟨hx, hb, hml, hown, hts⟩ mw_389 ⟨Nat.le_of_ble_eq_true rfl, Nat.le_of_ble_eq_true rfl⟩ h hK hP hD hS hl.1 (rest := [.ref (ad 6)]) (Nat.le_of_ble_eq_true rfl) ⟨Nat.le_of_ble_eq_true rfl, Nat.le_of_ble_eq_true rfl⟩ dX4_add_55 (fun r5 τ6 H locs h hP hD hS => ?_)
    refine xp_6_5 hx hb hts hown hK hP hD hS mw_78 dX4_add_58 (fun τ7 H locs eτ7 hP hD hS => ?_)
    have h := h τ7 eτ7
    exact zret_v hx hb hr hlocks hK hP hD hS h dX4_add_61
set_option maxHeartbeats 4000000 in
set_option maxRecDepth 100000 in
theorem c_X4_add (N : Nat) (l : Launch) (dC : Nat → ClassId) (dI : Nat → Nat → Nat) (ad : Nat → Nat) (cI cJ : ClassId) (sz : Nat) (σ : zSt) (x1 : Int32) (x2 : Int32) (Q : zSt → Prop) (h : w_X4_add N x1 x2 σ Q) : Met l yX4_add vs_X4_add rm_X4_add (va_Pc [.ref (ad 6), .int x1, .int x2] (zPc (dC, dI) (x_ty cI cJ) (x_W ad cI cJ) sz σ)) (zQv (dC, dI) (x_ty cI cJ) (x_W ad cI cJ) (zAW x_n ad sz) Q) 0 0 (zAW x_n ad sz) := by
  refine Met.ofW (cc := cX4_add) (maxL := 3) (ret := none) (by decide) rfl ?_
  intro p e s m args below meth c s₁ B hml hv
  obtain ⟨rfl, hsz, hP, hK, hD0⟩ := hv
  subst hsz
  have C0 : zCx p s m meth c _ RX4 cX4_add 3 none vs_X4_add := ⟨B.exec, B.bytes, hml, B.returns, findClass_of_methodNamed B.named, atoms_spec (ws := vs_X4_add) B.pre, B.notSynchronized⟩
  have hD := x_D0 (n0 := s.heap.size) hD0
  have hl := lv_entry ([.ref (ad 6), .int x1, .int x2]) (n := 3) (Nat.le_of_ble_eq_true rfl)
  rw [lg_entry_eq]
  generalize (lg_sl ([.ref (ad 6), .int x1, .int x2]) ++ List.replicate (3 - (lg_sl ([.ref (ad 6), .int x1, .int x2])).length) Slot.unset).toArray = ls at hl ⊢
  exact t_X4_add_0 C0 hK N x1 x2 σ _ _ ls h hP hD va_S.rf hl
theorem k_X4_add (N : Nat) {R : Room} {H : Heap} {locs : List Loc} {cells slots : Nat} {Q2 : State → Prop} {cc : ByteArray} {nL pc index : Nat} {ls : Array Slot} {rest : List Value} {own : String} {c0 : Cond} {σ : zSt} {x1 : Int32} {x2 : Int32} {Q : zSt → Prop} (S0 : CallFix p m c cc nL s args (c0 :: zT) own) (hml : Cond.methodLink own index yX4_add ∈ zT) (hR : rm_X4_add.frames + 1 ≤ R.frames ∧ 8 + (3 + 11) + rm_X4_add.locals ≤ R.locals) (h : w_X4_add N x1 x2 σ Q) (hK : va_K (dC, dI) vwCl (x_ty cI cJ) s) (hP : va_P (dC, dI) vwCl (x_W ad cI cJ σ) H) (hD : va_D (zAW x_n ad s.heap.size) (x_W ad cI cJ σ)) (hS : va_S (zAW x_n ad s.heap.size) s.heap H locs) (hsz : ls.size = nL) (hW : (rest.map fun v => v.category).sum ≤ 8) (hcs : cells ≤ R.cells ∧ slots ≤ R.slots) (hdg : decode cc pc = .ok (.invokevirtual index, 3)) (kk : ∀ (τ : zSt) (H1 : Heap) (locs1 : List Loc), Q τ → va_P (dC, dI) vwCl (x_W ad cI cJ τ) H1 → va_D (zAW x_n ad s.heap.size) (x_W ad cI cJ τ) → va_S (zAW x_n ad s.heap.size) s.heap H1 locs1 → W p l e R s m args below meth c H1 locs1 cells slots Q2 (F0 m (pc + 3) ls (rest))) : W p l e R s m args below meth c H locs cells slots Q2 (F0 m pc ls (.int x2 :: .int x1 :: .ref (ad 6) :: rest)) :=
  zcv_v (T := TX4) (N' := 8) (k := 6) (ci := 4) (fs := x_f6 ad σ) [.int x1, .int x2] S0 (c_X4_add N l dC dI ad cI cJ H.size σ x1 x2 Q h) (cw_X4_add S0.2.2.2.2 hml rfl rfl hR) rfl rfl hK hP hD hS rfl hsz hW rfl hcs hdg kk
end q01
section q01
def w_X5_readWho (N : Nat)  (σ : zSt) (Q : Int32 → zSt → Prop) : Prop :=
  ((σ.1 17) < (10 : Int32) → w_X5_take N σ (fun r1 τ2 => w_X5_seesName N τ2 (fun r3 τ4 => (r3 = 0 → Q (0 : Int32) τ4) ∧ (¬ r3 = 0 → ∀ v5 : Int32, v5 = τ4.1 15 → w_X4_numberOf N v5 τ4 (fun r6 τ7 => (r6 = (-1 : Int32) → w_X5_take N τ7 (fun r8 τ9 => w_X5_takeWord N (1 : Int32) τ9 (fun r10 τ11 => (r10 = 0 → Q (0 : Int32) τ11) ∧ (¬ r10 = 0 → w_X5_seesNumber N (999 : Int32) τ11 (fun r12 τ13 => (r12 = 0 → Q (0 : Int32) τ13) ∧ (¬ r12 = 0 → w_X4_add N v5 (τ13.1 15) τ13 (fun τ15 => w_X5_take N τ15 (fun r16 τ17 => (zb r16) ∧ Q r16 τ17)))))))) ∧ (¬ r6 = (-1 : Int32) → w_X5_fail N (3 : Int32) (τ7.1 13) τ7 (fun r18 τ19 => (zb r18) ∧ Q r18 τ19))))))) ∧ (¬ (σ.1 17) < (10 : Int32) → w_X5_fail N (5 : Int32) (σ.1 13) σ (fun r20 τ21 => (zb r20) ∧ Q r20 τ21))
variable {p : Program} {l : Launch} {e : Env} {s : State} {m : MethodId} {args : Array Value} {below : List Frame} {meth : Method} {c : Code} {dC : Nat → ClassId} {dI : Nat → Nat → Nat} {ad : Nat → Nat} {cI cJ : ClassId}
set_option maxHeartbeats 4000000 in
set_option maxRecDepth 100000 in
theorem t_X5_readWho_0 (C0 : zCx p s m meth c args RX5 cX5_readWho 2 (some .boolean) vs_X5_readWho) (hK : va_K (dC, dI) vwCl (x_ty cI cJ) s) (N : Nat) {Q : Int32 → zSt → Prop} : ∀  (σ : zSt) (H : Heap) (locs : List Loc) (ls : Array Slot), w_X5_readWho N  σ Q → va_P (dC, dI) vwCl (x_W ad cI cJ σ) H → va_D (zAW x_n ad s.heap.size) (x_W ad cI cJ σ) → va_S (zAW x_n ad s.heap.size) s.heap H locs → lv_has ls 2 [(0, .ref (ad 5))] → W p l e rm_X5_readWho s m args below meth c H locs 0 0 (MQ below (zQi (dC, dI) (x_ty cI cJ) (x_W ad cI cJ) (zAW x_n ad s.heap.size) Q) args s 0 0 (zAW x_n ad s.heap.size)) (F0 m 0 ls []) := by
  obtain ⟨hx, hb, hml, hr, hown, hts, hlocks⟩ := id C0
  intro  σ H locs ls h hP hD hS hl
  unfold w_X5_readWho at h
  refine lv_aload_n hx hb dX5_readWho_0 rfl (lv_at hl 0 rfl) ?_
  refine xg_5_1 hx hb hts hown hK hP mw_174 dX5_readWho_1 ?_
  refine xg_6_4 hx hb hts hown hK hP mw_77 dX5_readWho_4 ?_
  refine lv_bipush (v := (10 : Int32)) hx hb dX5_readWho_7 (by decide) ?_
  refine lv_icmp_lt (tgt := 22) hx hb dX5_readWho_9 (by decide) (fun hc => ?_) (fun hc => ?_)
  · have h := h.1 hc
    refine lv_aload_n hx hb dX5_readWho_22 rfl (lv_at hl 0 rfl) ?_
    refine k_X5_take N ⟨hx, hb, hml, hown, hts⟩ mw_363 ⟨Nat.le_of_ble_eq_true rfl, Nat.le_of_ble_eq_true rfl⟩ h hK hP hD hS hl.1 (rest := []) (Nat.le_of_ble_eq_true rfl) ⟨Nat.le_of_ble_eq_true rfl, Nat.le_of_ble_eq_true rfl⟩ dX5_readWho_23 (fun r1 τ2 H locs h hP hD hS => ?_)
    refine lv_pop hx hb dX5_readWho_26 rfl ?_
    refine lv_aload_n hx hb dX5_readWho_27 rfl (lv_at hl 0 rfl) ?_
    refine k_X5_seesName N ⟨hx, hb, hml, hown, hts⟩ mw_372 ⟨Nat.le_of_ble_eq_true rfl, Nat.le_of_ble_eq_true rfl⟩ h hK hP hD hS hl.1 (rest := []) (Nat.le_of_ble_eq_true rfl) ⟨Nat.le_of_ble_eq_true rfl, Nat.le_of_ble_eq_true rfl⟩ dX5_readWho_28 (fun r3 τ4 H locs h hP hD hS => ?_)
    refine lv_if_ne (tgt := 36) hx hb dX5_readWho_31 (by decide) (fun hc => ?_) (fun hc => ?_)
    · have h := h.2 hc
      refine lv_aload_n hx hb dX5_readWho_36 rfl (lv_at hl 0 rfl) ?_
      refine xg_5_12 hx hb hts hown hK hP mw_190 dX5_readWho_37 ?_
      refine lv_topi (fun v5 ev5 => ?_)
      have h := h v5 ev5
      refine lv_istore_n (lv' := [(1, .int v5), (0, .ref (ad 5))]) hx hb dX5_readWho_40 rfl hl (by decide) rfl (fun ls hl => ?_)
      refine lv_aload_n hx hb dX5_readWho_41 rfl (lv_at hl 1 rfl) ?_
      refine xg_5_1 hx hb hts hown hK hP mw_174 dX5_readWho_42 ?_
      refine lv_iload_n hx hb dX5_readWho_45 rfl (lv_at hl 0 rfl) ?_
      refine k_X4_numberOf N ⟨hx, hb, hml, hown, hts⟩ mw_375 ⟨Nat.le_of_ble_eq_true rfl, Nat.le_of_ble_eq_true rfl⟩ h hK hP hD hS hl.1 (rest := []) (Nat.le_of_ble_eq_true rfl) ⟨Nat.le_of_ble_eq_true rfl, Nat.le_of_ble_eq_true rfl⟩ dX5_readWho_46 (fun r6 τ7 H locs h hP hD hS => ?_)
      refine lv_iconst (v := (-1 : Int32)) hx hb dX5_readWho_49 (by decide) ?_
      refine lv_icmp_eq (tgt := 63) hx hb dX5_readWho_50 (by decide) (fun hc => ?_) (fun hc => ?_)
      · have h := h.1 hc
        refine lv_aload_n hx hb dX5_readWho_63 rfl (lv_at hl 1 rfl) ?_
        refine k_X5_take N ⟨hx, hb, hml, hown, hts⟩ mw_363 ⟨Nat.le_of_ble_eq_true rfl, Nat.le_of_ble_eq_true rfl⟩ h hK hP hD hS hl.1 (rest := []) (Nat.le_of_ble_eq_true rfl) ⟨Nat.le_of_ble_eq_true rfl, Nat.le_of_ble_eq_true rfl⟩ dX5_readWho_64 (fun r8 τ9 H locs h hP hD hS => ?_)
        refine lv_pop hx hb dX5_readWho_67 rfl ?_
        refine lv_aload_n hx hb dX5_readWho_68 rfl (lv_at hl 1 rfl) ?_
        refine lv_iconst (v := (1 : Int32)) hx hb dX5_readWho_69 (by decide) ?_
        refine k_X5_takeWord N ⟨hx, hb, hml, hown, hts⟩ mw_379 ⟨Nat.le_of_ble_eq_true rfl, Nat.le_of_ble_eq_true rfl⟩ h hK hP hD hS hl.1 (rest := []) (Nat.le_of_ble_eq_true rfl) ⟨Nat.le_of_ble_eq_true rfl, Nat.le_of_ble_eq_true rfl⟩ dX5_readWho_70 (fun r10 τ11 H locs h hP hD hS => ?_)
        refine lv_if_eq (tgt := 86) hx hb dX5_readWho_73 (by decide) (fun hc => ?_) (fun hc => ?_)
        · have h := h.1 hc
          refine lv_iconst (v := (0 : Int32)) hx hb dX5_readWho_86 (by decide) ?_
          exact zret_z hx hb hr hlocks hK hP hD hS zb_0 h dX5_readWho_87
        · have h := h.2 hc
          refine lv_aload_n hx hb dX5_readWho_76 rfl (lv_at hl 1 rfl) ?_
          refine lv_sipush (v := (999 : Int32)) hx hb dX5_readWho_77 (by decide) ?_
          refine k_X5_seesNumber N ⟨hx, hb, hml, hown, hts⟩ mw_382 ⟨Nat.le_of_ble_eq_true rfl, Nat.le_of_ble_eq_true rfl⟩ h hK hP hD hS hl.1 (rest := []) (Nat.le_of_ble_eq_true rfl) ⟨Nat.le_of_ble_eq_true rfl, Nat.le_of_ble_eq_true rfl⟩ dX5_readWho_80 (fun r12 τ13 H locs h hP hD hS => ?_)
          refine lv_if_ne (tgt := 88) hx hb dX5_readWho_83 (by decide) (fun hc => ?_) (fun hc => ?_)
          · have h := h.2 hc
            refine lv_aload_n hx hb dX5_readWho_88 rfl (lv_at hl 1 rfl) ?_
            refine xg_5_1 hx hb hts hown hK hP mw_174 dX5_readWho_89 ?_
            refine lv_iload_n hx hb dX5_readWho_92 rfl (lv_at hl 0 rfl) ?_
            refine lv_aload_n hx hb dX5_readWho_93 rfl (lv_at hl 1 rfl) ?_
            refine xg_5_12 hx hb hts hown hK hP mw_190 dX5_readWho_94 ?_
            refine k_X4_add N ⟨hx, hb, hml, hown, hts⟩ mw_385 ⟨Nat.le_of_ble_eq_true rfl, Nat.le_of_ble_eq_true rfl⟩ h hK hP hD hS hl.1 (rest := []) (Nat.le_of_ble_eq_true rfl) ⟨Nat.le_of_ble_eq_true rfl, Nat.le_of_ble_eq_true rfl⟩ dX5_readWho_97 (fun τ15 H locs h hP hD hS => ?_)
            refine lv_aload_n hx hb dX5_readWho_100 rfl (lv_at hl 1 rfl) ?_
            refine k_X5_take N ⟨hx, hb, hml, hown, hts⟩ mw_363 ⟨Nat.le_of_ble_eq_true rfl, Nat.le_of_ble_eq_true rfl⟩ h hK hP hD hS hl.1 (rest := []) (Nat.le_of_ble_eq_true rfl) ⟨Nat.le_of_ble_eq_true rfl, Nat.le_of_ble_eq_true rfl⟩ dX5_readWho_101 (fun r16 τ17 H locs h hP hD hS => ?_)
            exact zret_z hx hb hr hlocks hK hP hD hS h.1 h.2 dX5_readWho_104
          · have h := h.1 hc
            refine lv_iconst (v := (0 : Int32)) hx hb dX5_readWho_86 (by decide) ?_
            exact zret_z hx hb hr hlocks hK hP hD hS zb_0 h dX5_readWho_87
      · have h := h.2 hc
        refine lv_aload_n hx hb dX5_readWho_53 rfl (lv_at hl 1 rfl) ?_
        refine lv_iconst (v := (3 : Int32)) hx hb dX5_readWho_54 (by decide) ?_
        refine lv_aload_n hx hb dX5_readWho_55 rfl (lv_at hl 1 rfl) ?_
        refine xg_5_10 hx hb hts hown hK hP mw_188 dX5_readWho_56 ?_
        refine k_X5_fail N ⟨hx, hb, hml, hown, hts⟩ mw_369 ⟨Nat.le_of_ble_eq_true rfl, Nat.le_of_ble_eq_true rfl⟩ h hK hP hD hS hl.1 (rest := []) (Nat.le_of_ble_eq_true rfl) ⟨Nat.le_of_ble_eq_true rfl, Nat.le_of_ble_eq_true rfl⟩ dX5_readWho_59 (fun r18 τ19 H locs h hP hD hS => ?_)
        exact zret_z hx hb hr hlocks hK hP hD hS h.1 h.2 dX5_readWho_62
    · have h := h.1 hc
      refine lv_iconst (v := (0 : Int32)) hx hb dX5_readWho_34 (by decide) ?_
      exact zret_z hx hb hr hlocks hK hP hD hS zb_0 h dX5_readWho_35
  · have h := h.2 hc
    refine lv_aload_n hx hb dX5_readWho_12 rfl (lv_at hl 0 rfl) ?_
    refine lv_iconst (v := (5 : Int32)) hx hb dX5_readWho_13 (by decide) ?_
    refine lv_aload_n hx hb dX5_readWho_14 rfl (lv_at hl 0 rfl) ?_
    refine xg_5_10 hx hb hts hown hK hP mw_188 dX5_readWho_15 ?_
    refine k_X5_fail N ⟨hx, hb, hml, hown, hts⟩ mw_369 ⟨Nat.le_of_ble_eq_true rfl, Nat.le_of_ble_eq_true rfl⟩ h hK hP hD hS hl.1 (rest := []) (Nat.le_of_ble_eq_true rfl) ⟨Nat.le_of_ble_eq_true rfl, Nat.le_of_ble_eq_true rfl⟩ dX5_readWho_18 (fun r20 τ21 H locs h hP hD hS => ?_)
    exact zret_z hx hb hr hlocks hK hP hD hS h.1 h.2 dX5_readWho_21
set_option maxHeartbeats 4000000 in
set_option maxRecDepth 100000 in
theorem c_X5_readWho (N : Nat) (l : Launch) (dC : Nat → ClassId) (dI : Nat → Nat → Nat) (ad : Nat → Nat) (cI cJ : ClassId) (sz : Nat) (σ : zSt)  (Q : Int32 → zSt → Prop) (h : w_X5_readWho N  σ Q) : Met l yX5_readWho vs_X5_readWho rm_X5_readWho (va_Pc [.ref (ad 5)] (zPc (dC, dI) (x_ty cI cJ) (x_W ad cI cJ) sz σ)) (zQi (dC, dI) (x_ty cI cJ) (x_W ad cI cJ) (zAW x_n ad sz) Q) 0 0 (zAW x_n ad sz) := by
  refine Met.ofW (cc := cX5_readWho) (maxL := 2) (ret := (some .boolean)) (by decide) rfl ?_
  intro p e s m args below meth c s₁ B hml hv
  obtain ⟨rfl, hsz, hP, hK, hD0⟩ := hv
  subst hsz
  have C0 : zCx p s m meth c _ RX5 cX5_readWho 2 (some .boolean) vs_X5_readWho := ⟨B.exec, B.bytes, hml, B.returns, findClass_of_methodNamed B.named, atoms_spec (ws := vs_X5_readWho) B.pre, B.notSynchronized⟩
  have hD := x_D0 (n0 := s.heap.size) hD0
  have hl := lv_entry ([.ref (ad 5)]) (n := 2) (Nat.le_of_ble_eq_true rfl)
  rw [lg_entry_eq]
  generalize (lg_sl ([.ref (ad 5)]) ++ List.replicate (2 - (lg_sl ([.ref (ad 5)])).length) Slot.unset).toArray = ls at hl ⊢
  exact t_X5_readWho_0 C0 hK N  σ _ _ ls h hP hD va_S.rf hl
theorem k_X5_readWho (N : Nat) {R : Room} {H : Heap} {locs : List Loc} {cells slots : Nat} {Q2 : State → Prop} {cc : ByteArray} {nL pc index : Nat} {ls : Array Slot} {rest : List Value} {own : String} {c0 : Cond} {σ : zSt}  {Q : Int32 → zSt → Prop} (S0 : CallFix p m c cc nL s args (c0 :: zT) own) (hml : Cond.methodLink own index yX5_readWho ∈ zT) (hR : rm_X5_readWho.frames + 1 ≤ R.frames ∧ 8 + (2 + 11) + rm_X5_readWho.locals ≤ R.locals) (h : w_X5_readWho N  σ Q) (hK : va_K (dC, dI) vwCl (x_ty cI cJ) s) (hP : va_P (dC, dI) vwCl (x_W ad cI cJ σ) H) (hD : va_D (zAW x_n ad s.heap.size) (x_W ad cI cJ σ)) (hS : va_S (zAW x_n ad s.heap.size) s.heap H locs) (hsz : ls.size = nL) (hW : (rest.map fun v => v.category).sum ≤ 8) (hcs : cells ≤ R.cells ∧ slots ≤ R.slots) (hdg : decode cc pc = .ok (.invokevirtual index, 3)) (kk : ∀ (r : Int32) (τ : zSt) (H1 : Heap) (locs1 : List Loc), Q r τ → va_P (dC, dI) vwCl (x_W ad cI cJ τ) H1 → va_D (zAW x_n ad s.heap.size) (x_W ad cI cJ τ) → va_S (zAW x_n ad s.heap.size) s.heap H1 locs1 → W p l e R s m args below meth c H1 locs1 cells slots Q2 (F0 m (pc + 3) ls (.int r :: rest))) : W p l e R s m args below meth c H locs cells slots Q2 (F0 m pc ls (.ref (ad 5) :: rest)) :=
  zcv_i (T := TX5) (N' := 14) (k := 5) (ci := 5) (fs := x_f5 ad σ) [] S0 (c_X5_readWho N l dC dI ad cI cJ H.size σ  Q h) (cw_X5_readWho S0.2.2.2.2 hml rfl rfl hR) rfl rfl hK hP hD hS rfl hsz hW rfl hcs hdg kk
end q01
section q01
def w_X5_isSign (N : Nat) (x1 : Int32) (σ : zSt) (Q : Int32 → zSt → Prop) : Prop :=
  ((σ.1 12) = (3 : Int32) → ((σ.1 15) = x1 → Q (1 : Int32) σ) ∧ (¬ (σ.1 15) = x1 → Q (0 : Int32) σ)) ∧ (¬ (σ.1 12) = (3 : Int32) → Q (0 : Int32) σ)
variable {p : Program} {l : Launch} {e : Env} {s : State} {m : MethodId} {args : Array Value} {below : List Frame} {meth : Method} {c : Code} {dC : Nat → ClassId} {dI : Nat → Nat → Nat} {ad : Nat → Nat} {cI cJ : ClassId}
set_option maxHeartbeats 4000000 in
set_option maxRecDepth 100000 in
theorem t_X5_isSign_0 (C0 : zCx p s m meth c args RX5 cX5_isSign 2 (some .boolean) vs_X5_isSign) (hK : va_K (dC, dI) vwCl (x_ty cI cJ) s) (N : Nat) {Q : Int32 → zSt → Prop} : ∀ (x1 : Int32) (σ : zSt) (H : Heap) (locs : List Loc) (ls : Array Slot), w_X5_isSign N x1 σ Q → va_P (dC, dI) vwCl (x_W ad cI cJ σ) H → va_D (zAW x_n ad s.heap.size) (x_W ad cI cJ σ) → va_S (zAW x_n ad s.heap.size) s.heap H locs → lv_has ls 2 [(0, .ref (ad 5)), (1, .int x1)] → W p l e rm_X5_isSign s m args below meth c H locs 0 0 (MQ below (zQi (dC, dI) (x_ty cI cJ) (x_W ad cI cJ) (zAW x_n ad s.heap.size) Q) args s 0 0 (zAW x_n ad s.heap.size)) (F0 m 0 ls []) := by
  obtain ⟨hx, hb, hml, hr, hown, hts, hlocks⟩ := id C0
  intro x1 σ H locs ls h hP hD hS hl
  unfold w_X5_isSign at h
  refine lv_aload_n hx hb dX5_isSign_0 rfl (lv_at hl 0 rfl) ?_
  refine xg_5_9 hx hb hts hown hK hP mw_187 dX5_isSign_1 ?_
  refine lv_iconst (v := (3 : Int32)) hx hb dX5_isSign_4 (by decide) ?_
  refine lv_icmp_ne (tgt := 20) hx hb dX5_isSign_5 (by decide) (fun hc => ?_) (fun hc => ?_)
  · have h := h.2 hc
    refine lv_iconst (v := (0 : Int32)) hx hb dX5_isSign_20 (by decide) ?_
    exact zret_z hx hb hr hlocks hK hP hD hS zb_0 h dX5_isSign_21
  · have h := h.1 hc
    refine lv_aload_n hx hb dX5_isSign_8 rfl (lv_at hl 0 rfl) ?_
    refine xg_5_12 hx hb hts hown hK hP mw_190 dX5_isSign_9 ?_
    refine lv_iload_n hx hb dX5_isSign_12 rfl (lv_at hl 1 rfl) ?_
    refine lv_icmp_ne (tgt := 20) hx hb dX5_isSign_13 (by decide) (fun hc => ?_) (fun hc => ?_)
    · have h := h.2 hc
      refine lv_iconst (v := (0 : Int32)) hx hb dX5_isSign_20 (by decide) ?_
      exact zret_z hx hb hr hlocks hK hP hD hS zb_0 h dX5_isSign_21
    · have h := h.1 hc
      refine lv_iconst (v := (1 : Int32)) hx hb dX5_isSign_16 (by decide) ?_
      refine lv_goto (tgt := 21) hx hb dX5_isSign_17 (by decide) ?_
      exact zret_z hx hb hr hlocks hK hP hD hS zb_1 h dX5_isSign_21
set_option maxHeartbeats 4000000 in
set_option maxRecDepth 100000 in
theorem c_X5_isSign (N : Nat) (l : Launch) (dC : Nat → ClassId) (dI : Nat → Nat → Nat) (ad : Nat → Nat) (cI cJ : ClassId) (sz : Nat) (σ : zSt) (x1 : Int32) (Q : Int32 → zSt → Prop) (h : w_X5_isSign N x1 σ Q) : Met l yX5_isSign vs_X5_isSign rm_X5_isSign (va_Pc [.ref (ad 5), .int x1] (zPc (dC, dI) (x_ty cI cJ) (x_W ad cI cJ) sz σ)) (zQi (dC, dI) (x_ty cI cJ) (x_W ad cI cJ) (zAW x_n ad sz) Q) 0 0 (zAW x_n ad sz) := by
  refine Met.ofW (cc := cX5_isSign) (maxL := 2) (ret := (some .boolean)) (by decide) rfl ?_
  intro p e s m args below meth c s₁ B hml hv
  obtain ⟨rfl, hsz, hP, hK, hD0⟩ := hv
  subst hsz
  have C0 : zCx p s m meth c _ RX5 cX5_isSign 2 (some .boolean) vs_X5_isSign := ⟨B.exec, B.bytes, hml, B.returns, findClass_of_methodNamed B.named, atoms_spec (ws := vs_X5_isSign) B.pre, B.notSynchronized⟩
  have hD := x_D0 (n0 := s.heap.size) hD0
  have hl := lv_entry ([.ref (ad 5), .int x1]) (n := 2) (Nat.le_of_ble_eq_true rfl)
  rw [lg_entry_eq]
  generalize (lg_sl ([.ref (ad 5), .int x1]) ++ List.replicate (2 - (lg_sl ([.ref (ad 5), .int x1])).length) Slot.unset).toArray = ls at hl ⊢
  exact t_X5_isSign_0 C0 hK N x1 σ _ _ ls h hP hD va_S.rf hl
theorem k_X5_isSign (N : Nat) {R : Room} {H : Heap} {locs : List Loc} {cells slots : Nat} {Q2 : State → Prop} {cc : ByteArray} {nL pc index : Nat} {ls : Array Slot} {rest : List Value} {own : String} {c0 : Cond} {σ : zSt} {x1 : Int32} {Q : Int32 → zSt → Prop} (S0 : CallFix p m c cc nL s args (c0 :: zT) own) (hml : Cond.methodLink own index yX5_isSign ∈ zT) (hR : rm_X5_isSign.frames + 1 ≤ R.frames ∧ 8 + (2 + 11) + rm_X5_isSign.locals ≤ R.locals) (h : w_X5_isSign N x1 σ Q) (hK : va_K (dC, dI) vwCl (x_ty cI cJ) s) (hP : va_P (dC, dI) vwCl (x_W ad cI cJ σ) H) (hD : va_D (zAW x_n ad s.heap.size) (x_W ad cI cJ σ)) (hS : va_S (zAW x_n ad s.heap.size) s.heap H locs) (hsz : ls.size = nL) (hW : (rest.map fun v => v.category).sum ≤ 8) (hcs : cells ≤ R.cells ∧ slots ≤ R.slots) (hdg : decode cc pc = .ok (.invokevirtual index, 3)) (kk : ∀ (r : Int32) (τ : zSt) (H1 : Heap) (locs1 : List Loc), Q r τ → va_P (dC, dI) vwCl (x_W ad cI cJ τ) H1 → va_D (zAW x_n ad s.heap.size) (x_W ad cI cJ τ) → va_S (zAW x_n ad s.heap.size) s.heap H1 locs1 → W p l e R s m args below meth c H1 locs1 cells slots Q2 (F0 m (pc + 3) ls (.int r :: rest))) : W p l e R s m args below meth c H locs cells slots Q2 (F0 m pc ls (.int x1 :: .ref (ad 5) :: rest)) :=
  zcv_i (T := TX5) (N' := 14) (k := 5) (ci := 5) (fs := x_f5 ad σ) [.int x1] S0 (c_X5_isSign N l dC dI ad cI cJ H.size σ x1 Q h) (cw_X5_isSign S0.2.2.2.2 hml rfl rfl hR) rfl rfl hK hP hD hS rfl hsz hW rfl hcs hdg kk
end q01
section q01
def b_X5_takeSign_40 (N : Nat) (Q : Int32 → zSt → Prop)  (σ : zSt) : Prop :=
  w_X5_take N σ (fun r1 τ2 => (zb r1) ∧ Q r1 τ2)
def b_X5_takeSign_30 (N : Nat) (Q : Int32 → zSt → Prop)  (σ : zSt) : Prop :=
  ∀ τ1 : zSt, τ1 = zI σ 11 ((σ.1 11) - (1 : Int32)) → b_X5_takeSign_40 N Q τ1
def w_X5_takeSign (N : Nat) (x1 : Int32) (σ : zSt) (Q : Int32 → zSt → Prop) : Prop :=
  w_X5_isSign N x1 σ (fun r1 τ2 => (r1 = 0 → w_X5_fail N (1 : Int32) (τ2.1 13) τ2 (fun r3 τ4 => (zb r3) ∧ Q r3 τ4)) ∧ (¬ r1 = 0 → (x1 = (41 : Int32) → b_X5_takeSign_30 N Q τ2) ∧ (¬ x1 = (41 : Int32) → (x1 = (93 : Int32) → b_X5_takeSign_30 N Q τ2) ∧ (¬ x1 = (93 : Int32) → b_X5_takeSign_40 N Q τ2))))
variable {p : Program} {l : Launch} {e : Env} {s : State} {m : MethodId} {args : Array Value} {below : List Frame} {meth : Method} {c : Code} {dC : Nat → ClassId} {dI : Nat → Nat → Nat} {ad : Nat → Nat} {cI cJ : ClassId}
set_option maxHeartbeats 4000000 in
set_option maxRecDepth 100000 in
theorem t_X5_takeSign_40 (C0 : zCx p s m meth c args RX5 cX5_takeSign 2 (some .boolean) vs_X5_takeSign) (hK : va_K (dC, dI) vwCl (x_ty cI cJ) s) (N : Nat) {Q : Int32 → zSt → Prop} : ∀  (σ : zSt) (H : Heap) (locs : List Loc) (ls : Array Slot), b_X5_takeSign_40 N  Q  σ → va_P (dC, dI) vwCl (x_W ad cI cJ σ) H → va_D (zAW x_n ad s.heap.size) (x_W ad cI cJ σ) → va_S (zAW x_n ad s.heap.size) s.heap H locs → lv_has ls 2 [(0, .ref (ad 5))] → W p l e rm_X5_takeSign s m args below meth c H locs 0 0 (MQ below (zQi (dC, dI) (x_ty cI cJ) (x_W ad cI cJ) (zAW x_n ad s.heap.size) Q) args s 0 0 (zAW x_n ad s.heap.size)) (F0 m 40 ls []) := by
  obtain ⟨hx, hb, hml, hr, hown, hts, hlocks⟩ := id C0
  intro  σ H locs ls h hP hD hS hl
  unfold b_X5_takeSign_40 at h
  refine lv_aload_n hx hb dX5_takeSign_40 rfl (lv_at hl 0 rfl) ?_
  refine k_X5_take N ⟨hx, hb, hml, hown, hts⟩ mw_363 ⟨Nat.le_of_ble_eq_true rfl, Nat.le_of_ble_eq_true rfl⟩ h hK hP hD hS hl.1 (rest := []) (Nat.le_of_ble_eq_true rfl) ⟨Nat.le_of_ble_eq_true rfl, Nat.le_of_ble_eq_true rfl⟩ dX5_takeSign_41 (fun r1 τ2 H locs h hP hD hS => ?_)
  exact zret_z hx hb hr hlocks hK hP hD hS h.1 h.2 dX5_takeSign_44
set_option maxHeartbeats 4000000 in
set_option maxRecDepth 100000 in
theorem t_X5_takeSign_30 (C0 : zCx p s m meth c args RX5 cX5_takeSign 2 (some .boolean) vs_X5_takeSign) (hK : va_K (dC, dI) vwCl (x_ty cI cJ) s) (N : Nat) {Q : Int32 → zSt → Prop} : ∀  (σ : zSt) (H : Heap) (locs : List Loc) (ls : Array Slot), b_X5_takeSign_30 N  Q  σ → va_P (dC, dI) vwCl (x_W ad cI cJ σ) H → va_D (zAW x_n ad s.heap.size) (x_W ad cI cJ σ) → va_S (zAW x_n ad s.heap.size) s.heap H locs → lv_has ls 2 [(0, .ref (ad 5))] → W p l e rm_X5_takeSign s m args below meth c H locs 0 0 (MQ below (zQi (dC, dI) (x_ty cI cJ) (x_W ad cI cJ) (zAW x_n ad s.heap.size) Q) args s 0 0 (zAW x_n ad s.heap.size)) (F0 m 30 ls []) := by
  obtain ⟨hx, hb, hml, hr, hown, hts, hlocks⟩ := id C0
  intro  σ H locs ls h hP hD hS hl
  unfold b_X5_takeSign_30 at h
  refine lv_aload_n hx hb dX5_takeSign_30 rfl (lv_at hl 0 rfl) ?_
  refine lv_dup hx hb dX5_takeSign_31 rfl ?_
  refine xg_5_8 hx hb hts hown hK hP mw_186 dX5_takeSign_32 ?_
  refine lv_iconst (v := (1 : Int32)) hx hb dX5_takeSign_35 (by decide) ?_
  refine lv_isub hx hb dX5_takeSign_36 ?_
  refine xp_5_8 hx hb hts hown hK hP hD hS mw_186 dX5_takeSign_37 (fun τ1 H locs eτ1 hP hD hS => ?_)
  have h := h τ1 eτ1
  exact t_X5_takeSign_40 C0 hK N  τ1 _ _ _ h hP hD hS (lv_sub hl [0] rfl)
set_option maxHeartbeats 4000000 in
set_option maxRecDepth 100000 in
theorem t_X5_takeSign_0 (C0 : zCx p s m meth c args RX5 cX5_takeSign 2 (some .boolean) vs_X5_takeSign) (hK : va_K (dC, dI) vwCl (x_ty cI cJ) s) (N : Nat) {Q : Int32 → zSt → Prop} : ∀ (x1 : Int32) (σ : zSt) (H : Heap) (locs : List Loc) (ls : Array Slot), w_X5_takeSign N x1 σ Q → va_P (dC, dI) vwCl (x_W ad cI cJ σ) H → va_D (zAW x_n ad s.heap.size) (x_W ad cI cJ σ) → va_S (zAW x_n ad s.heap.size) s.heap H locs → lv_has ls 2 [(0, .ref (ad 5)), (1, .int x1)] → W p l e rm_X5_takeSign s m args below meth c H locs 0 0 (MQ below (zQi (dC, dI) (x_ty cI cJ) (x_W ad cI cJ) (zAW x_n ad s.heap.size) Q) args s 0 0 (zAW x_n ad s.heap.size)) (F0 m 0 ls []) := by
  obtain ⟨hx, hb, hml, hr, hown, hts, hlocks⟩ := id C0
  intro x1 σ H locs ls h hP hD hS hl
  unfold w_X5_takeSign at h
  refine lv_aload_n hx hb dX5_takeSign_0 rfl (lv_at hl 0 rfl) ?_
  refine lv_iload_n hx hb dX5_takeSign_1 rfl (lv_at hl 1 rfl) ?_
  refine k_X5_isSign N ⟨hx, hb, hml, hown, hts⟩ mw_407 ⟨Nat.le_of_ble_eq_true rfl, Nat.le_of_ble_eq_true rfl⟩ h hK hP hD hS hl.1 (rest := []) (Nat.le_of_ble_eq_true rfl) ⟨Nat.le_of_ble_eq_true rfl, Nat.le_of_ble_eq_true rfl⟩ dX5_takeSign_2 (fun r1 τ2 H locs h hP hD hS => ?_)
  refine lv_if_ne (tgt := 18) hx hb dX5_takeSign_5 (by decide) (fun hc => ?_) (fun hc => ?_)
  · have h := h.2 hc
    refine lv_iload_n hx hb dX5_takeSign_18 rfl (lv_at hl 1 rfl) ?_
    refine lv_bipush (v := (41 : Int32)) hx hb dX5_takeSign_19 (by decide) ?_
    refine lv_icmp_eq (tgt := 30) hx hb dX5_takeSign_21 (by decide) (fun hc => ?_) (fun hc => ?_)
    · have h := h.1 hc
      exact t_X5_takeSign_30 C0 hK N  τ2 _ _ _ h hP hD hS (lv_sub hl [0] rfl)
    · have h := h.2 hc
      refine lv_iload_n hx hb dX5_takeSign_24 rfl (lv_at hl 1 rfl) ?_
      refine lv_bipush (v := (93 : Int32)) hx hb dX5_takeSign_25 (by decide) ?_
      refine lv_icmp_ne (tgt := 40) hx hb dX5_takeSign_27 (by decide) (fun hc => ?_) (fun hc => ?_)
      · have h := h.2 hc
        exact t_X5_takeSign_40 C0 hK N  τ2 _ _ _ h hP hD hS (lv_sub hl [0] rfl)
      · have h := h.1 hc
        exact t_X5_takeSign_30 C0 hK N  τ2 _ _ _ h hP hD hS (lv_sub hl [0] rfl)
  · have h := h.1 hc
    refine lv_aload_n hx hb dX5_takeSign_8 rfl (lv_at hl 0 rfl) ?_
    refine lv_iconst (v := (1 : Int32)) hx hb dX5_takeSign_9 (by decide) ?_
    refine lv_aload_n hx hb dX5_takeSign_10 rfl (lv_at hl 0 rfl) ?_
    refine xg_5_10 hx hb hts hown hK hP mw_188 dX5_takeSign_11 ?_
    refine k_X5_fail N ⟨hx, hb, hml, hown, hts⟩ mw_369 ⟨Nat.le_of_ble_eq_true rfl, Nat.le_of_ble_eq_true rfl⟩ h hK hP hD hS hl.1 (rest := []) (Nat.le_of_ble_eq_true rfl) ⟨Nat.le_of_ble_eq_true rfl, Nat.le_of_ble_eq_true rfl⟩ dX5_takeSign_14 (fun r3 τ4 H locs h hP hD hS => ?_)
    exact zret_z hx hb hr hlocks hK hP hD hS h.1 h.2 dX5_takeSign_17
set_option maxHeartbeats 4000000 in
set_option maxRecDepth 100000 in
theorem c_X5_takeSign (N : Nat) (l : Launch) (dC : Nat → ClassId) (dI : Nat → Nat → Nat) (ad : Nat → Nat) (cI cJ : ClassId) (sz : Nat) (σ : zSt) (x1 : Int32) (Q : Int32 → zSt → Prop) (h : w_X5_takeSign N x1 σ Q) : Met l yX5_takeSign vs_X5_takeSign rm_X5_takeSign (va_Pc [.ref (ad 5), .int x1] (zPc (dC, dI) (x_ty cI cJ) (x_W ad cI cJ) sz σ)) (zQi (dC, dI) (x_ty cI cJ) (x_W ad cI cJ) (zAW x_n ad sz) Q) 0 0 (zAW x_n ad sz) := by
  refine Met.ofW (cc := cX5_takeSign) (maxL := 2) (ret := (some .boolean)) (by decide) rfl ?_
  intro p e s m args below meth c s₁ B hml hv
  obtain ⟨rfl, hsz, hP, hK, hD0⟩ := hv
  subst hsz
  have C0 : zCx p s m meth c _ RX5 cX5_takeSign 2 (some .boolean) vs_X5_takeSign := ⟨B.exec, B.bytes, hml, B.returns, findClass_of_methodNamed B.named, atoms_spec (ws := vs_X5_takeSign) B.pre, B.notSynchronized⟩
  have hD := x_D0 (n0 := s.heap.size) hD0
  have hl := lv_entry ([.ref (ad 5), .int x1]) (n := 2) (Nat.le_of_ble_eq_true rfl)
  rw [lg_entry_eq]
  generalize (lg_sl ([.ref (ad 5), .int x1]) ++ List.replicate (2 - (lg_sl ([.ref (ad 5), .int x1])).length) Slot.unset).toArray = ls at hl ⊢
  exact t_X5_takeSign_0 C0 hK N x1 σ _ _ ls h hP hD va_S.rf hl
theorem k_X5_takeSign (N : Nat) {R : Room} {H : Heap} {locs : List Loc} {cells slots : Nat} {Q2 : State → Prop} {cc : ByteArray} {nL pc index : Nat} {ls : Array Slot} {rest : List Value} {own : String} {c0 : Cond} {σ : zSt} {x1 : Int32} {Q : Int32 → zSt → Prop} (S0 : CallFix p m c cc nL s args (c0 :: zT) own) (hml : Cond.methodLink own index yX5_takeSign ∈ zT) (hR : rm_X5_takeSign.frames + 1 ≤ R.frames ∧ 8 + (2 + 11) + rm_X5_takeSign.locals ≤ R.locals) (h : w_X5_takeSign N x1 σ Q) (hK : va_K (dC, dI) vwCl (x_ty cI cJ) s) (hP : va_P (dC, dI) vwCl (x_W ad cI cJ σ) H) (hD : va_D (zAW x_n ad s.heap.size) (x_W ad cI cJ σ)) (hS : va_S (zAW x_n ad s.heap.size) s.heap H locs) (hsz : ls.size = nL) (hW : (rest.map fun v => v.category).sum ≤ 8) (hcs : cells ≤ R.cells ∧ slots ≤ R.slots) (hdg : decode cc pc = .ok (.invokevirtual index, 3)) (kk : ∀ (r : Int32) (τ : zSt) (H1 : Heap) (locs1 : List Loc), Q r τ → va_P (dC, dI) vwCl (x_W ad cI cJ τ) H1 → va_D (zAW x_n ad s.heap.size) (x_W ad cI cJ τ) → va_S (zAW x_n ad s.heap.size) s.heap H1 locs1 → W p l e R s m args below meth c H1 locs1 cells slots Q2 (F0 m (pc + 3) ls (.int r :: rest))) : W p l e R s m args below meth c H locs cells slots Q2 (F0 m pc ls (.int x1 :: .ref (ad 5) :: rest)) :=
  zcv_i (T := TX5) (N' := 14) (k := 5) (ci := 5) (fs := x_f5 ad σ) [.int x1] S0 (c_X5_takeSign N l dC dI ad cI cJ H.size σ x1 Q h) (cw_X5_takeSign S0.2.2.2.2 hml rfl rfl hR) rfl rfl hK hP hD hS rfl hsz hW rfl hcs hdg kk
end q01
section q01
def w_X5_takeOpening (N : Nat)  (σ : zSt) (Q : Int32 → zSt → Prop) : Prop :=
  ((σ.1 11) < (6 : Int32) → ∀ τ1 : zSt, τ1 = zI σ 11 ((σ.1 11) + (1 : Int32)) → w_X5_take N τ1 (fun r2 τ3 => (zb r2) ∧ Q r2 τ3)) ∧ (¬ (σ.1 11) < (6 : Int32) → w_X5_fail N (4 : Int32) (σ.1 13) σ (fun r4 τ5 => (zb r4) ∧ Q r4 τ5))
variable {p : Program} {l : Launch} {e : Env} {s : State} {m : MethodId} {args : Array Value} {below : List Frame} {meth : Method} {c : Code} {dC : Nat → ClassId} {dI : Nat → Nat → Nat} {ad : Nat → Nat} {cI cJ : ClassId}
set_option maxHeartbeats 4000000 in
set_option maxRecDepth 100000 in
theorem t_X5_takeOpening_0 (C0 : zCx p s m meth c args RX5 cX5_takeOpening 1 (some .boolean) vs_X5_takeOpening) (hK : va_K (dC, dI) vwCl (x_ty cI cJ) s) (N : Nat) {Q : Int32 → zSt → Prop} : ∀  (σ : zSt) (H : Heap) (locs : List Loc) (ls : Array Slot), w_X5_takeOpening N  σ Q → va_P (dC, dI) vwCl (x_W ad cI cJ σ) H → va_D (zAW x_n ad s.heap.size) (x_W ad cI cJ σ) → va_S (zAW x_n ad s.heap.size) s.heap H locs → lv_has ls 1 [(0, .ref (ad 5))] → W p l e rm_X5_takeOpening s m args below meth c H locs 0 0 (MQ below (zQi (dC, dI) (x_ty cI cJ) (x_W ad cI cJ) (zAW x_n ad s.heap.size) Q) args s 0 0 (zAW x_n ad s.heap.size)) (F0 m 0 ls []) := by
  obtain ⟨hx, hb, hml, hr, hown, hts, hlocks⟩ := id C0
  intro  σ H locs ls h hP hD hS hl
  unfold w_X5_takeOpening at h
  refine lv_aload_n hx hb dX5_takeOpening_0 rfl (lv_at hl 0 rfl) ?_
  refine xg_5_8 hx hb hts hown hK hP mw_186 dX5_takeOpening_1 ?_
  refine lv_bipush (v := (6 : Int32)) hx hb dX5_takeOpening_4 (by decide) ?_
  refine lv_icmp_lt (tgt := 19) hx hb dX5_takeOpening_6 (by decide) (fun hc => ?_) (fun hc => ?_)
  · have h := h.1 hc
    refine lv_aload_n hx hb dX5_takeOpening_19 rfl (lv_at hl 0 rfl) ?_
    refine lv_dup hx hb dX5_takeOpening_20 rfl ?_
    refine xg_5_8 hx hb hts hown hK hP mw_186 dX5_takeOpening_21 ?_
    refine lv_iconst (v := (1 : Int32)) hx hb dX5_takeOpening_24 (by decide) ?_
    refine lv_iadd hx hb dX5_takeOpening_25 ?_
    refine xp_5_8 hx hb hts hown hK hP hD hS mw_186 dX5_takeOpening_26 (fun τ1 H locs eτ1 hP hD hS => ?_)
    have h := h τ1 eτ1
    refine lv_aload_n hx hb dX5_takeOpening_29 rfl (lv_at hl 0 rfl) ?_
    refine k_X5_take N ⟨hx, hb, hml, hown, hts⟩ mw_363 ⟨Nat.le_of_ble_eq_true rfl, Nat.le_of_ble_eq_true rfl⟩ h hK hP hD hS hl.1 (rest := []) (Nat.le_of_ble_eq_true rfl) ⟨Nat.le_of_ble_eq_true rfl, Nat.le_of_ble_eq_true rfl⟩ dX5_takeOpening_30 (fun r2 τ3 H locs h hP hD hS => ?_)
    exact zret_z hx hb hr hlocks hK hP hD hS h.1 h.2 dX5_takeOpening_33
  · have h := h.2 hc
    refine lv_aload_n hx hb dX5_takeOpening_9 rfl (lv_at hl 0 rfl) ?_
    refine lv_iconst (v := (4 : Int32)) hx hb dX5_takeOpening_10 (by decide) ?_
    refine lv_aload_n hx hb dX5_takeOpening_11 rfl (lv_at hl 0 rfl) ?_
    refine xg_5_10 hx hb hts hown hK hP mw_188 dX5_takeOpening_12 ?_
    refine k_X5_fail N ⟨hx, hb, hml, hown, hts⟩ mw_369 ⟨Nat.le_of_ble_eq_true rfl, Nat.le_of_ble_eq_true rfl⟩ h hK hP hD hS hl.1 (rest := []) (Nat.le_of_ble_eq_true rfl) ⟨Nat.le_of_ble_eq_true rfl, Nat.le_of_ble_eq_true rfl⟩ dX5_takeOpening_15 (fun r4 τ5 H locs h hP hD hS => ?_)
    exact zret_z hx hb hr hlocks hK hP hD hS h.1 h.2 dX5_takeOpening_18
set_option maxHeartbeats 4000000 in
set_option maxRecDepth 100000 in
theorem c_X5_takeOpening (N : Nat) (l : Launch) (dC : Nat → ClassId) (dI : Nat → Nat → Nat) (ad : Nat → Nat) (cI cJ : ClassId) (sz : Nat) (σ : zSt)  (Q : Int32 → zSt → Prop) (h : w_X5_takeOpening N  σ Q) : Met l yX5_takeOpening vs_X5_takeOpening rm_X5_takeOpening (va_Pc [.ref (ad 5)] (zPc (dC, dI) (x_ty cI cJ) (x_W ad cI cJ) sz σ)) (zQi (dC, dI) (x_ty cI cJ) (x_W ad cI cJ) (zAW x_n ad sz) Q) 0 0 (zAW x_n ad sz) := by
  refine Met.ofW (cc := cX5_takeOpening) (maxL := 1) (ret := (some .boolean)) (by decide) rfl ?_
  intro p e s m args below meth c s₁ B hml hv
  obtain ⟨rfl, hsz, hP, hK, hD0⟩ := hv
  subst hsz
  have C0 : zCx p s m meth c _ RX5 cX5_takeOpening 1 (some .boolean) vs_X5_takeOpening := ⟨B.exec, B.bytes, hml, B.returns, findClass_of_methodNamed B.named, atoms_spec (ws := vs_X5_takeOpening) B.pre, B.notSynchronized⟩
  have hD := x_D0 (n0 := s.heap.size) hD0
  have hl := lv_entry ([.ref (ad 5)]) (n := 1) (Nat.le_of_ble_eq_true rfl)
  rw [lg_entry_eq]
  generalize (lg_sl ([.ref (ad 5)]) ++ List.replicate (1 - (lg_sl ([.ref (ad 5)])).length) Slot.unset).toArray = ls at hl ⊢
  exact t_X5_takeOpening_0 C0 hK N  σ _ _ ls h hP hD va_S.rf hl
theorem k_X5_takeOpening (N : Nat) {R : Room} {H : Heap} {locs : List Loc} {cells slots : Nat} {Q2 : State → Prop} {cc : ByteArray} {nL pc index : Nat} {ls : Array Slot} {rest : List Value} {own : String} {c0 : Cond} {σ : zSt}  {Q : Int32 → zSt → Prop} (S0 : CallFix p m c cc nL s args (c0 :: zT) own) (hml : Cond.methodLink own index yX5_takeOpening ∈ zT) (hR : rm_X5_takeOpening.frames + 1 ≤ R.frames ∧ 8 + (1 + 11) + rm_X5_takeOpening.locals ≤ R.locals) (h : w_X5_takeOpening N  σ Q) (hK : va_K (dC, dI) vwCl (x_ty cI cJ) s) (hP : va_P (dC, dI) vwCl (x_W ad cI cJ σ) H) (hD : va_D (zAW x_n ad s.heap.size) (x_W ad cI cJ σ)) (hS : va_S (zAW x_n ad s.heap.size) s.heap H locs) (hsz : ls.size = nL) (hW : (rest.map fun v => v.category).sum ≤ 8) (hcs : cells ≤ R.cells ∧ slots ≤ R.slots) (hdg : decode cc pc = .ok (.invokevirtual index, 3)) (kk : ∀ (r : Int32) (τ : zSt) (H1 : Heap) (locs1 : List Loc), Q r τ → va_P (dC, dI) vwCl (x_W ad cI cJ τ) H1 → va_D (zAW x_n ad s.heap.size) (x_W ad cI cJ τ) → va_S (zAW x_n ad s.heap.size) s.heap H1 locs1 → W p l e R s m args below meth c H1 locs1 cells slots Q2 (F0 m (pc + 3) ls (.int r :: rest))) : W p l e R s m args below meth c H locs cells slots Q2 (F0 m pc ls (.ref (ad 5) :: rest)) :=
  zcv_i (T := TX5) (N' := 14) (k := 5) (ci := 5) (fs := x_f5 ad σ) [] S0 (c_X5_takeOpening N l dC dI ad cI cJ H.size σ  Q h) (cw_X5_takeOpening S0.2.2.2.2 hml rfl rfl hR) rfl rfl hK hP hD hS rfl hsz hW rfl hcs hdg kk
end q01
section q01
def w_X6_emit (N : Nat) (x1 : Int32) (σ : zSt) (Q : zSt → Prop) : Prop :=
  ((800 : Int32) ≤ (σ.1 21) → Q σ) ∧ (¬ (800 : Int32) ≤ (σ.1 21) → (vp_in (σ.1 21) 800) ∧ (∀ τ1 : zSt, τ1 = zA σ 22 (upd (σ.2.2.1 22) ((σ.1 21).toNatClampNeg) x1) → ∀ τ2 : zSt, τ2 = zI τ1 21 ((τ1.1 21) + (1 : Int32)) → Q τ2))
variable {p : Program} {l : Launch} {e : Env} {s : State} {m : MethodId} {args : Array Value} {below : List Frame} {meth : Method} {c : Code} {dC : Nat → ClassId} {dI : Nat → Nat → Nat} {ad : Nat → Nat} {cI cJ : ClassId}
set_option maxHeartbeats 4000000 in
set_option maxRecDepth 100000 in
theorem t_X6_emit_0 (C0 : zCx p s m meth c args RX6 cX6_emit 2 none vs_X6_emit) (hK : va_K (dC, dI) vwCl (x_ty cI cJ) s) (N : Nat) {Q : zSt → Prop} : ∀ (x1 : Int32) (σ : zSt) (H : Heap) (locs : List Loc) (ls : Array Slot), w_X6_emit N x1 σ Q → va_P (dC, dI) vwCl (x_W ad cI cJ σ) H → va_D (zAW x_n ad s.heap.size) (x_W ad cI cJ σ) → va_S (zAW x_n ad s.heap.size) s.heap H locs → lv_has ls 2 [(0, .ref (ad 7)), (1, .int x1)] → W p l e rm_X6_emit s m args below meth c H locs 0 0 (MQ below (zQv (dC, dI) (x_ty cI cJ) (x_W ad cI cJ) (zAW x_n ad s.heap.size) Q) args s 0 0 (zAW x_n ad s.heap.size)) (F0 m 0 ls []) := by
  obtain ⟨hx, hb, hml, hr, hown, hts, hlocks⟩ := id C0
  intro x1 σ H locs ls h hP hD hS hl
  unfold w_X6_emit at h
  refine lv_aload_n hx hb dX6_emit_0 rfl (lv_at hl 0 rfl) ?_
  refine xg_7_8 hx hb hts hown hK hP mw_102 dX6_emit_1 ?_
  refine lv_aload_n hx hb dX6_emit_4 rfl (lv_at hl 0 rfl) ?_
  refine xg_7_4 hx hb hts hown hK hP mw_96 dX6_emit_5 ?_
  refine xl_41 hx hb hK hP dX6_emit_8 ?_
  refine lv_icmp_ge (tgt := 32) hx hb dX6_emit_9 (by decide) (fun hc => ?_) (fun hc => ?_)
  · have h := h.1 hc
    exact zret_v hx hb hr hlocks hK hP hD hS h dX6_emit_32
  · have h := h.2 hc
    refine lv_aload_n hx hb dX6_emit_12 rfl (lv_at hl 0 rfl) ?_
    refine xg_7_4 hx hb hts hown hK hP mw_96 dX6_emit_13 ?_
    refine lv_aload_n hx hb dX6_emit_16 rfl (lv_at hl 0 rfl) ?_
    refine xg_7_8 hx hb hts hown hK hP mw_102 dX6_emit_17 ?_
    refine lv_iload_n hx hb dX6_emit_20 rfl (lv_at hl 1 rfl) ?_
    refine xs_41 hx hb hK hP hD hS h.1 rfl dX6_emit_21 (fun τ1 H locs eτ1 hP hD hS => ?_)
    have h := h.2
    have h := h τ1 eτ1
    refine lv_aload_n hx hb dX6_emit_22 rfl (lv_at hl 0 rfl) ?_
    refine lv_dup hx hb dX6_emit_23 rfl ?_
    refine xg_7_8 hx hb hts hown hK hP mw_102 dX6_emit_24 ?_
    refine lv_iconst (v := (1 : Int32)) hx hb dX6_emit_27 (by decide) ?_
    refine lv_iadd hx hb dX6_emit_28 ?_
    refine xp_7_8 hx hb hts hown hK hP hD hS mw_102 dX6_emit_29 (fun τ2 H locs eτ2 hP hD hS => ?_)
    have h := h τ2 eτ2
    exact zret_v hx hb hr hlocks hK hP hD hS h dX6_emit_32
set_option maxHeartbeats 4000000 in
set_option maxRecDepth 100000 in
theorem c_X6_emit (N : Nat) (l : Launch) (dC : Nat → ClassId) (dI : Nat → Nat → Nat) (ad : Nat → Nat) (cI cJ : ClassId) (sz : Nat) (σ : zSt) (x1 : Int32) (Q : zSt → Prop) (h : w_X6_emit N x1 σ Q) : Met l yX6_emit vs_X6_emit rm_X6_emit (va_Pc [.ref (ad 7), .int x1] (zPc (dC, dI) (x_ty cI cJ) (x_W ad cI cJ) sz σ)) (zQv (dC, dI) (x_ty cI cJ) (x_W ad cI cJ) (zAW x_n ad sz) Q) 0 0 (zAW x_n ad sz) := by
  refine Met.ofW (cc := cX6_emit) (maxL := 2) (ret := none) (by decide) rfl ?_
  intro p e s m args below meth c s₁ B hml hv
  obtain ⟨rfl, hsz, hP, hK, hD0⟩ := hv
  subst hsz
  have C0 : zCx p s m meth c _ RX6 cX6_emit 2 none vs_X6_emit := ⟨B.exec, B.bytes, hml, B.returns, findClass_of_methodNamed B.named, atoms_spec (ws := vs_X6_emit) B.pre, B.notSynchronized⟩
  have hD := x_D0 (n0 := s.heap.size) hD0
  have hl := lv_entry ([.ref (ad 7), .int x1]) (n := 2) (Nat.le_of_ble_eq_true rfl)
  rw [lg_entry_eq]
  generalize (lg_sl ([.ref (ad 7), .int x1]) ++ List.replicate (2 - (lg_sl ([.ref (ad 7), .int x1])).length) Slot.unset).toArray = ls at hl ⊢
  exact t_X6_emit_0 C0 hK N x1 σ _ _ ls h hP hD va_S.rf hl
theorem k_X6_emit (N : Nat) {R : Room} {H : Heap} {locs : List Loc} {cells slots : Nat} {Q2 : State → Prop} {cc : ByteArray} {nL pc index : Nat} {ls : Array Slot} {rest : List Value} {own : String} {c0 : Cond} {σ : zSt} {x1 : Int32} {Q : zSt → Prop} (S0 : CallFix p m c cc nL s args (c0 :: zT) own) (hml : Cond.methodLink own index yX6_emit ∈ zT) (hR : rm_X6_emit.frames + 1 ≤ R.frames ∧ 8 + (2 + 11) + rm_X6_emit.locals ≤ R.locals) (h : w_X6_emit N x1 σ Q) (hK : va_K (dC, dI) vwCl (x_ty cI cJ) s) (hP : va_P (dC, dI) vwCl (x_W ad cI cJ σ) H) (hD : va_D (zAW x_n ad s.heap.size) (x_W ad cI cJ σ)) (hS : va_S (zAW x_n ad s.heap.size) s.heap H locs) (hsz : ls.size = nL) (hW : (rest.map fun v => v.category).sum ≤ 8) (hcs : cells ≤ R.cells ∧ slots ≤ R.slots) (hdg : decode cc pc = .ok (.invokevirtual index, 3)) (kk : ∀ (τ : zSt) (H1 : Heap) (locs1 : List Loc), Q τ → va_P (dC, dI) vwCl (x_W ad cI cJ τ) H1 → va_D (zAW x_n ad s.heap.size) (x_W ad cI cJ τ) → va_S (zAW x_n ad s.heap.size) s.heap H1 locs1 → W p l e R s m args below meth c H1 locs1 cells slots Q2 (F0 m (pc + 3) ls (rest))) : W p l e R s m args below meth c H locs cells slots Q2 (F0 m pc ls (.int x1 :: .ref (ad 7) :: rest)) :=
  zcv_v (T := TX6) (N' := 10) (k := 7) (ci := 6) (fs := x_f7 ad σ) [.int x1] S0 (c_X6_emit N l dC dI ad cI cJ H.size σ x1 Q h) (cw_X6_emit S0.2.2.2.2 hml rfl rfl hR) rfl rfl hK hP hD hS rfl hsz hW rfl hcs hdg kk
end q01
section q01
def w_X5_readChoice (N : Nat) (S : zSt → (Int32 → zSt → Prop) → Prop) (x1 : Int32) (σ : zSt) (Q : Int32 → zSt → Prop) : Prop :=
  w_X5_take N σ (fun r1 τ2 => w_X5_isSign N (40 : Int32) τ2 (fun r3 τ4 => (r3 = 0 → w_X5_fail N (1 : Int32) (τ4.1 13) τ4 (fun r17 τ18 => (zb r17) ∧ Q r17 τ18)) ∧ (¬ r3 = 0 → w_X5_takeOpening N τ4 (fun r5 τ6 => (r5 = 0 → Q (0 : Int32) τ6) ∧ (¬ r5 = 0 → S τ6 (fun r7 τ8 => (r7 = 0 → Q (0 : Int32) τ8) ∧ (¬ r7 = 0 → w_X5_takeSign N (44 : Int32) τ8 (fun r9 τ10 => (r9 = 0 → Q (0 : Int32) τ10) ∧ (¬ r9 = 0 → S τ10 (fun r11 τ12 => (r11 = 0 → Q (0 : Int32) τ12) ∧ (¬ r11 = 0 → w_X5_takeSign N (41 : Int32) τ12 (fun r13 τ14 => (r13 = 0 → Q (0 : Int32) τ14) ∧ (¬ r13 = 0 → w_X6_emit N x1 τ14 (fun τ16 => Q (1 : Int32) τ16))))))))))))))
variable {p : Program} {l : Launch} {e : Env} {s : State} {m : MethodId} {args : Array Value} {below : List Frame} {meth : Method} {c : Code} {dC : Nat → ClassId} {dI : Nat → Nat → Nat} {ad : Nat → Nat} {cI cJ : ClassId}
set_option maxHeartbeats 4000000 in
set_option maxRecDepth 100000 in
theorem t_X5_readChoice_0 (C0 : zCx p s m meth c args RX5 cX5_readChoice 2 (some .boolean) vs_X5_readChoice) (hK : va_K (dC, dI) vwCl (x_ty cI cJ) s) (N : Nat) {d : Nat} {S : zSt → (Int32 → zSt → Prop) → Prop} (hSm : ∀ (sz : Nat) (σ : zSt) (Q : Int32 → zSt → Prop), S σ Q → Met l yX5_readSum vs_X5_readSum (rmq_sum 0 d) (va_Pc [.ref (ad 5)] (zPc (dC, dI) (x_ty cI cJ) (x_W ad cI cJ) sz σ)) (zQi (dC, dI) (x_ty cI cJ) (x_W ad cI cJ) (zAW x_n ad sz) Q) 0 0 (zAW x_n ad sz)) {Q : Int32 → zSt → Prop} : ∀ (x1 : Int32) (σ : zSt) (H : Heap) (locs : List Loc) (ls : Array Slot), w_X5_readChoice N S x1 σ Q → va_P (dC, dI) vwCl (x_W ad cI cJ σ) H → va_D (zAW x_n ad s.heap.size) (x_W ad cI cJ σ) → va_S (zAW x_n ad s.heap.size) s.heap H locs → lv_has ls 2 [(0, .ref (ad 5)), (1, .int x1)] → W p l e (rmq_sum 1 d) s m args below meth c H locs 0 0 (MQ below (zQi (dC, dI) (x_ty cI cJ) (x_W ad cI cJ) (zAW x_n ad s.heap.size) Q) args s 0 0 (zAW x_n ad s.heap.size)) (F0 m 0 ls []) := by
  obtain ⟨hx, hb, hml, hr, hown, hts, hlocks⟩ := id C0
  intro x1 σ H locs ls h hP hD hS hl
  unfold w_X5_readChoice at h
  refine lv_aload_n hx hb dX5_readChoice_0 rfl (lv_at hl 0 rfl) ?_
  refine k_X5_take N ⟨hx, hb, hml, hown, hts⟩ mw_363 ⟨by dsimp only [rm_X5_take, rmq_sum, rmq_fact]; omega, by dsimp only [rm_X5_take, rmq_sum, rmq_fact]; omega⟩ h hK hP hD hS hl.1 (rest := []) (Nat.le_of_ble_eq_true rfl) ⟨Nat.le_of_ble_eq_true rfl, Nat.le_of_ble_eq_true rfl⟩ dX5_readChoice_1 (fun r1 τ2 H locs h hP hD hS => ?_)
  refine lv_pop hx hb dX5_readChoice_4 rfl ?_
  refine lv_aload_n hx hb dX5_readChoice_5 rfl (lv_at hl 0 rfl) ?_
  refine lv_bipush (v := (40 : Int32)) hx hb dX5_readChoice_6 (by decide) ?_
  refine k_X5_isSign N ⟨hx, hb, hml, hown, hts⟩ mw_407 ⟨by dsimp only [rm_X5_isSign, rmq_sum, rmq_fact]; omega, by dsimp only [rm_X5_isSign, rmq_sum, rmq_fact]; omega⟩ h hK hP hD hS hl.1 (rest := []) (Nat.le_of_ble_eq_true rfl) ⟨Nat.le_of_ble_eq_true rfl, Nat.le_of_ble_eq_true rfl⟩ dX5_readChoice_8 (fun r3 τ4 H locs h hP hD hS => ?_)
  refine lv_if_ne (tgt := 24) hx hb dX5_readChoice_11 (by decide) (fun hc => ?_) (fun hc => ?_)
  · have h := h.2 hc
    refine lv_aload_n hx hb dX5_readChoice_24 rfl (lv_at hl 0 rfl) ?_
    refine k_X5_takeOpening N ⟨hx, hb, hml, hown, hts⟩ mw_410 ⟨by dsimp only [rm_X5_takeOpening, rmq_sum, rmq_fact]; omega, by dsimp only [rm_X5_takeOpening, rmq_sum, rmq_fact]; omega⟩ h hK hP hD hS hl.1 (rest := []) (Nat.le_of_ble_eq_true rfl) ⟨Nat.le_of_ble_eq_true rfl, Nat.le_of_ble_eq_true rfl⟩ dX5_readChoice_25 (fun r5 τ6 H locs h hP hD hS => ?_)
    refine lv_if_eq (tgt := 63) hx hb dX5_readChoice_28 (by decide) (fun hc => ?_) (fun hc => ?_)
    · have h := h.1 hc
      refine lv_iconst (v := (0 : Int32)) hx hb dX5_readChoice_63 (by decide) ?_
      exact zret_z hx hb hr hlocks hK hP hD hS zb_0 h dX5_readChoice_64
    · have h := h.2 hc
      refine lv_aload_n hx hb dX5_readChoice_31 rfl (lv_at hl 0 rfl) ?_
      refine zcv_i [] ⟨hx, hb, hml, hown, hts⟩ (hSm H.size τ6 _ h) (cw_X5_readSum hts mw_393 rfl rfl ⟨by dsimp only [rmq_sum, rmq_fact]; omega, by dsimp only [rmq_sum, rmq_fact]; omega⟩) (T := TX5) (N' := 14) (k := 5) (ci := 5) (fs := x_f5 ad τ6) rfl rfl hK hP hD hS rfl hl.1 (rest := []) (Nat.le_of_ble_eq_true rfl) rfl ⟨Nat.le_of_ble_eq_true rfl, Nat.le_of_ble_eq_true rfl⟩ dX5_readChoice_32 (fun r7 τ8 H locs h hP hD hS => ?_)
      refine lv_if_eq (tgt := 63) hx hb dX5_readChoice_35 (by decide) (fun hc => ?_) (fun hc => ?_)
      · have h := h.1 hc
        refine lv_iconst (v := (0 : Int32)) hx hb dX5_readChoice_63 (by decide) ?_
        exact zret_z hx hb hr hlocks hK hP hD hS zb_0 h dX5_readChoice_64
      · have h := h.2 hc
        refine lv_aload_n hx hb dX5_readChoice_38 rfl (lv_at hl 0 rfl) ?_
        refine lv_bipush (v := (44 : Int32)) hx hb dX5_readChoice_39 (by decide) ?_
        refine k_X5_takeSign N ⟨hx, hb, hml, hown, hts⟩ mw_413 ⟨by dsimp only [rm_X5_takeSign, rmq_sum, rmq_fact]; omega, by dsimp only [rm_X5_takeSign, rmq_sum, rmq_fact]; omega⟩ h hK hP hD hS hl.1 (rest := []) (Nat.le_of_ble_eq_true rfl) ⟨Nat.le_of_ble_eq_true rfl, Nat.le_of_ble_eq_true rfl⟩ dX5_readChoice_41 (fun r9 τ10 H locs h hP hD hS => ?_)
        refine lv_if_eq (tgt := 63) hx hb dX5_readChoice_44 (by decide) (fun hc => ?_) (fun hc => ?_)
        · have h := h.1 hc
          refine lv_iconst (v := (0 : Int32)) hx hb dX5_readChoice_63 (by decide) ?_
          exact zret_z hx hb hr hlocks hK hP hD hS zb_0 h dX5_readChoice_64
        · have h := h.2 hc
          refine lv_aload_n hx hb dX5_readChoice_47 rfl (lv_at hl 0 rfl) ?_
          refine zcv_i [] ⟨hx, hb, hml, hown, hts⟩ (hSm H.size τ10 _ h) (cw_X5_readSum hts mw_393 rfl rfl ⟨by dsimp only [rmq_sum, rmq_fact]; omega, by dsimp only [rmq_sum, rmq_fact]; omega⟩) (T := TX5) (N' := 14) (k := 5) (ci := 5) (fs := x_f5 ad τ10) rfl rfl hK hP hD hS rfl hl.1 (rest := []) (Nat.le_of_ble_eq_true rfl) rfl ⟨Nat.le_of_ble_eq_true rfl, Nat.le_of_ble_eq_true rfl⟩ dX5_readChoice_48 (fun r11 τ12 H locs h hP hD hS => ?_)
          refine lv_if_eq (tgt := 63) hx hb dX5_readChoice_51 (by decide) (fun hc => ?_) (fun hc => ?_)
          · have h := h.1 hc
            refine lv_iconst (v := (0 : Int32)) hx hb dX5_readChoice_63 (by decide) ?_
            exact zret_z hx hb hr hlocks hK hP hD hS zb_0 h dX5_readChoice_64
          · have h := h.2 hc
            refine lv_aload_n hx hb dX5_readChoice_54 rfl (lv_at hl 0 rfl) ?_
            refine lv_bipush (v := (41 : Int32)) hx hb dX5_readChoice_55 (by decide) ?_
            refine k_X5_takeSign N ⟨hx, hb, hml, hown, hts⟩ mw_413 ⟨by dsimp only [rm_X5_takeSign, rmq_sum, rmq_fact]; omega, by dsimp only [rm_X5_takeSign, rmq_sum, rmq_fact]; omega⟩ h hK hP hD hS hl.1 (rest := []) (Nat.le_of_ble_eq_true rfl) ⟨Nat.le_of_ble_eq_true rfl, Nat.le_of_ble_eq_true rfl⟩ dX5_readChoice_57 (fun r13 τ14 H locs h hP hD hS => ?_)
            refine lv_if_ne (tgt := 65) hx hb dX5_readChoice_60 (by decide) (fun hc => ?_) (fun hc => ?_)
            · have h := h.2 hc
              refine lv_aload_n hx hb dX5_readChoice_65 rfl (lv_at hl 0 rfl) ?_
              refine xg_5_2 hx hb hts hown hK hP mw_176 dX5_readChoice_66 ?_
              refine lv_iload_n hx hb dX5_readChoice_69 rfl (lv_at hl 1 rfl) ?_
              refine k_X6_emit N ⟨hx, hb, hml, hown, hts⟩ mw_403 ⟨by dsimp only [rm_X6_emit, rmq_sum, rmq_fact]; omega, by dsimp only [rm_X6_emit, rmq_sum, rmq_fact]; omega⟩ h hK hP hD hS hl.1 (rest := []) (Nat.le_of_ble_eq_true rfl) ⟨Nat.le_of_ble_eq_true rfl, Nat.le_of_ble_eq_true rfl⟩ dX5_readChoice_70 (fun τ16 H locs h hP hD hS => ?_)
              refine lv_iconst (v := (1 : Int32)) hx hb dX5_readChoice_73 (by decide) ?_
              exact zret_z hx hb hr hlocks hK hP hD hS zb_1 h dX5_readChoice_74
            · have h := h.1 hc
              refine lv_iconst (v := (0 : Int32)) hx hb dX5_readChoice_63 (by decide) ?_
              exact zret_z hx hb hr hlocks hK hP hD hS zb_0 h dX5_readChoice_64
  · have h := h.1 hc
    refine lv_aload_n hx hb dX5_readChoice_14 rfl (lv_at hl 0 rfl) ?_
    refine lv_iconst (v := (1 : Int32)) hx hb dX5_readChoice_15 (by decide) ?_
    refine lv_aload_n hx hb dX5_readChoice_16 rfl (lv_at hl 0 rfl) ?_
    refine xg_5_10 hx hb hts hown hK hP mw_188 dX5_readChoice_17 ?_
    refine k_X5_fail N ⟨hx, hb, hml, hown, hts⟩ mw_369 ⟨by dsimp only [rm_X5_fail, rmq_sum, rmq_fact]; omega, by dsimp only [rm_X5_fail, rmq_sum, rmq_fact]; omega⟩ h hK hP hD hS hl.1 (rest := []) (Nat.le_of_ble_eq_true rfl) ⟨Nat.le_of_ble_eq_true rfl, Nat.le_of_ble_eq_true rfl⟩ dX5_readChoice_20 (fun r17 τ18 H locs h hP hD hS => ?_)
    exact zret_z hx hb hr hlocks hK hP hD hS h.1 h.2 dX5_readChoice_23
set_option maxHeartbeats 4000000 in
set_option maxRecDepth 100000 in
theorem c_X5_readChoice (N : Nat) (l : Launch) (dC : Nat → ClassId) (dI : Nat → Nat → Nat) (ad : Nat → Nat) (cI cJ : ClassId) {d : Nat} {S : zSt → (Int32 → zSt → Prop) → Prop} (hSm : ∀ (sz : Nat) (σ : zSt) (Q : Int32 → zSt → Prop), S σ Q → Met l yX5_readSum vs_X5_readSum (rmq_sum 0 d) (va_Pc [.ref (ad 5)] (zPc (dC, dI) (x_ty cI cJ) (x_W ad cI cJ) sz σ)) (zQi (dC, dI) (x_ty cI cJ) (x_W ad cI cJ) (zAW x_n ad sz) Q) 0 0 (zAW x_n ad sz)) (sz : Nat) (σ : zSt) (x1 : Int32) (Q : Int32 → zSt → Prop) (h : w_X5_readChoice N S x1 σ Q) : Met l yX5_readChoice vs_X5_readChoice (rmq_sum 1 d) (va_Pc [.ref (ad 5), .int x1] (zPc (dC, dI) (x_ty cI cJ) (x_W ad cI cJ) sz σ)) (zQi (dC, dI) (x_ty cI cJ) (x_W ad cI cJ) (zAW x_n ad sz) Q) 0 0 (zAW x_n ad sz) := by
  refine Met.ofW (cc := cX5_readChoice) (maxL := 2) (ret := (some .boolean)) (by decide) rfl ?_
  intro p e s m args below meth c s₁ B hml hv
  obtain ⟨rfl, hsz, hP, hK, hD0⟩ := hv
  subst hsz
  have C0 : zCx p s m meth c _ RX5 cX5_readChoice 2 (some .boolean) vs_X5_readChoice := ⟨B.exec, B.bytes, hml, B.returns, findClass_of_methodNamed B.named, atoms_spec (ws := vs_X5_readChoice) B.pre, B.notSynchronized⟩
  have hD := x_D0 (n0 := s.heap.size) hD0
  have hl := lv_entry ([.ref (ad 5), .int x1]) (n := 2) (Nat.le_of_ble_eq_true rfl)
  rw [lg_entry_eq]
  generalize (lg_sl ([.ref (ad 5), .int x1]) ++ List.replicate (2 - (lg_sl ([.ref (ad 5), .int x1])).length) Slot.unset).toArray = ls at hl ⊢
  exact t_X5_readChoice_0 C0 hK N hSm x1 σ _ _ ls h hP hD va_S.rf hl
theorem k_X5_readChoice (N : Nat) {d : Nat} {S : zSt → (Int32 → zSt → Prop) → Prop} (hSm : ∀ (sz : Nat) (σ : zSt) (Q : Int32 → zSt → Prop), S σ Q → Met l yX5_readSum vs_X5_readSum (rmq_sum 0 d) (va_Pc [.ref (ad 5)] (zPc (dC, dI) (x_ty cI cJ) (x_W ad cI cJ) sz σ)) (zQi (dC, dI) (x_ty cI cJ) (x_W ad cI cJ) (zAW x_n ad sz) Q) 0 0 (zAW x_n ad sz)) {R : Room} {H : Heap} {locs : List Loc} {cells slots : Nat} {Q2 : State → Prop} {cc : ByteArray} {nL pc index : Nat} {ls : Array Slot} {rest : List Value} {own : String} {c0 : Cond} {σ : zSt} {x1 : Int32} {Q : Int32 → zSt → Prop} (S0 : CallFix p m c cc nL s args (c0 :: zT) own) (hml : Cond.methodLink own index yX5_readChoice ∈ zT) (hR : (rmq_sum 1 d).frames + 1 ≤ R.frames ∧ 8 + (2 + 11) + (rmq_sum 1 d).locals ≤ R.locals) (h : w_X5_readChoice N S x1 σ Q) (hK : va_K (dC, dI) vwCl (x_ty cI cJ) s) (hP : va_P (dC, dI) vwCl (x_W ad cI cJ σ) H) (hD : va_D (zAW x_n ad s.heap.size) (x_W ad cI cJ σ)) (hS : va_S (zAW x_n ad s.heap.size) s.heap H locs) (hsz : ls.size = nL) (hW : (rest.map fun v => v.category).sum ≤ 8) (hcs : cells ≤ R.cells ∧ slots ≤ R.slots) (hdg : decode cc pc = .ok (.invokevirtual index, 3)) (kk : ∀ (r : Int32) (τ : zSt) (H1 : Heap) (locs1 : List Loc), Q r τ → va_P (dC, dI) vwCl (x_W ad cI cJ τ) H1 → va_D (zAW x_n ad s.heap.size) (x_W ad cI cJ τ) → va_S (zAW x_n ad s.heap.size) s.heap H1 locs1 → W p l e R s m args below meth c H1 locs1 cells slots Q2 (F0 m (pc + 3) ls (.int r :: rest))) : W p l e R s m args below meth c H locs cells slots Q2 (F0 m pc ls (.int x1 :: .ref (ad 5) :: rest)) :=
  zcv_i (T := TX5) (N' := 14) (k := 5) (ci := 5) (fs := x_f5 ad σ) [.int x1] S0 (c_X5_readChoice N l dC dI ad cI cJ hSm H.size σ x1 Q h) (cw_X5_readChoice S0.2.2.2.2 hml rfl rfl hR) rfl rfl hK hP hD hS rfl hsz hW rfl hcs hdg kk
end q01
