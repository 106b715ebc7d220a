section q18
end q18
section q18
def b_X12_who_37 (N : Nat) (Q : zSt → Prop) (x1 : Int32) (x2 : Int64) (σ : zSt) : Prop :=
  (vp_in x1 20) ∧ (∀ τ1 : zSt, τ1 = zB σ 0 (vp_updL (σ.2.2.2 0) (x1.toNatClampNeg) x2) → w_X12_asks N 1 τ1 (fun τ3 => w_X12_number N (0 : Int32) (999 : Int32) τ3 (fun r4 τ5 => (vp_in x1 20) ∧ (∀ τ6 : zSt, τ6 = zA τ5 2 (upd (τ5.2.2.1 2) (x1.toNatClampNeg) r4) → (vp_in x1 20) ∧ (∀ τ7 : zSt, τ7 = zA τ6 3 (upd (τ6.2.2.1 3) (x1.toNatClampNeg) (9 : Int32)) → ∀ τ8 : zSt, τ8 = zA τ7 1 (upd (τ7.2.2.1 1) 0 ((τ7.2.2.1 1 0) + (1 : Int32))) → Q τ8)))))
def w_X12_who (N : Nat)  (σ : zSt) (Q : zSt → Prop) : Prop :=
  ∀ v1 : Int32, v1 = σ.2.2.1 1 0 → w_X12_name N σ (fun r2 τ3 => ((τ3.1 4) = 0 → w_X12_personOf N r2 τ3 (fun r4 τ5 => (r4 = (-1 : Int32) → b_X12_who_37 N Q v1 r2 τ5) ∧ (¬ r4 = (-1 : Int32) → w_X12_fail N (3 : Int32) (τ5.1 8) τ5 (fun τ7 => b_X12_who_37 N Q v1 r2 τ7)))) ∧ (¬ (τ3.1 4) = 0 → b_X12_who_37 N Q v1 r2 τ3))
variable {p : Program} {l : Launch} {e : Env} {s : State} {m : MethodId} {args : Array Value} {below : List Frame} {meth : Method} {c : Code} {dC : Nat → ClassId} {dI : Nat → Nat → Nat} {ad : Nat → Nat} {cI cJ cC : ClassId}
set_option maxHeartbeats 4000000 in
set_option maxRecDepth 100000 in
theorem t_X12_who_37 (C0 : zCx p s m meth c args RX12 cX12_who 4 none vs_X12_who) (hK : va_K (dC, dI) vwCl (m_ty cI cJ cC) s) (N : Nat) {Q : zSt → Prop} : ∀ (x1 : Int32) (x2 : Int64) (σ : zSt) (H : Heap) (locs : List Loc) (ls : Array Slot), b_X12_who_37 N  Q x1 x2 σ → va_P (dC, dI) vwCl (m_W ad cI cJ cC σ) H → va_D (zAW m_n ad s.heap.size) (m_W ad cI cJ cC σ) → va_S (zAW m_n ad s.heap.size) s.heap H locs → lv_has ls 4 [(0, .ref (ad 0)), (1, .int x1), (2, .long x2)] → W p l e rm_X12_who s m args below meth c H locs 0 0 (MQ below (zQv (dC, dI) (m_ty cI cJ cC) (m_W ad cI cJ cC) (zAW m_n ad s.heap.size) Q) args s 0 0 (zAW m_n ad s.heap.size)) (F0 m 37 ls []) := by
  obtain ⟨hx, hb, hml, hr, hown, hts, hlocks⟩ := id C0
  intro x1 x2 σ H locs ls h hP hD hS hl
  unfold b_X12_who_37 at h
  refine lv_aload_n hx hb dX12_who_37 rfl (lv_at hl 0 rfl) ?_
  refine mg_0_30 hx hb hts hown hK hP mw_863 dX12_who_38 ?_
  refine lv_iload_n hx hb dX12_who_41 rfl (lv_at hl 1 rfl) ?_
  refine lv_lload_n hx hb dX12_who_42 rfl (lv_at hl 2 rfl) ?_
  refine ms_3 hx hb hK hP hD hS h.1 rfl dX12_who_43 (fun τ1 H locs eτ1 hP hD hS => ?_)
  have h := h.2
  have h := h τ1 eτ1
  refine lv_aload_n hx hb dX12_who_44 rfl (lv_at hl 0 rfl) ?_
  refine lv_aload_n hx hb dX12_who_45 rfl (lv_at hl 0 rfl) ?_
  refine mg_0_10 hx hb hts hown hK hP mw_843 dX12_who_46 ?_
  refine k_X12_asks N (w := 1) (by decide) ⟨hx, hb, hml, hown, hts⟩ mw_961 ⟨Nat.le_of_ble_eq_true rfl, Nat.le_of_ble_eq_true rfl⟩ h hK hP hD hS hl.1 (rest := []) (Nat.le_of_ble_eq_true rfl) ⟨Nat.le_of_ble_eq_true rfl, Nat.le_of_ble_eq_true rfl⟩ dX12_who_49 (fun τ3 H locs h hP hD hS => ?_)
  refine lv_aload_n hx hb dX12_who_52 rfl (lv_at hl 0 rfl) ?_
  refine mg_0_31 hx hb hts hown hK hP mw_864 dX12_who_53 ?_
  refine lv_iload_n hx hb dX12_who_56 rfl (lv_at hl 1 rfl) ?_
  refine lv_aload_n hx hb dX12_who_57 rfl (lv_at hl 0 rfl) ?_
  refine lv_iconst (v := (0 : Int32)) hx hb dX12_who_58 (by decide) ?_
  refine lv_sipush (v := (999 : Int32)) hx hb dX12_who_59 (by decide) ?_
  refine k_X12_number N ⟨hx, hb, hml, hown, hts⟩ mw_964 ⟨Nat.le_of_ble_eq_true rfl, Nat.le_of_ble_eq_true rfl⟩ h hK hP hD hS hl.1 (rest := [.int x1, .ref (ad 4)]) (Nat.le_of_ble_eq_true rfl) ⟨Nat.le_of_ble_eq_true rfl, Nat.le_of_ble_eq_true rfl⟩ dX12_who_62 (fun r4 τ5 H locs h hP hD hS => ?_)
  refine ms_4 hx hb hK hP hD hS h.1 rfl dX12_who_65 (fun τ6 H locs eτ6 hP hD hS => ?_)
  have h := h.2
  have h := h τ6 eτ6
  refine lv_aload_n hx hb dX12_who_66 rfl (lv_at hl 0 rfl) ?_
  refine mg_0_32 hx hb hts hown hK hP mw_865 dX12_who_67 ?_
  refine lv_iload_n hx hb dX12_who_70 rfl (lv_at hl 1 rfl) ?_
  refine lv_bipush (v := (9 : Int32)) hx hb dX12_who_71 (by decide) ?_
  refine ms_5 hx hb hK hP hD hS h.1 rfl dX12_who_73 (fun τ7 H locs eτ7 hP hD hS => ?_)
  have h := h.2
  have h := h τ7 eτ7
  refine lv_aload_n hx hb dX12_who_74 rfl (lv_at hl 0 rfl) ?_
  refine mg_0_29 hx hb hts hown hK hP mw_862 dX12_who_75 ?_
  refine lv_iconst (v := (0 : Int32)) hx hb dX12_who_78 (by decide) ?_
  refine lv_dup2_11 hx hb dX12_who_79 rfl rfl ?_
  refine ma_2 (j := 0) hx hb hK hP (zin (by decide)) (by decide) dX12_who_80 ?_
  refine lv_iconst (v := (1 : Int32)) hx hb dX12_who_81 (by decide) ?_
  refine lv_iadd hx hb dX12_who_82 ?_
  refine ms_2 (j := 0) hx hb hK hP hD hS (zin (by decide)) (by decide) dX12_who_83 (fun τ8 H locs eτ8 hP hD hS => ?_)
  have h := h τ8 eτ8
  exact zret_v hx hb hr hlocks hK hP hD hS h dX12_who_84
set_option maxHeartbeats 4000000 in
set_option maxRecDepth 100000 in
theorem t_X12_who_0 (C0 : zCx p s m meth c args RX12 cX12_who 4 none vs_X12_who) (hK : va_K (dC, dI) vwCl (m_ty cI cJ cC) s) (N : Nat) {Q : zSt → Prop} : ∀  (σ : zSt) (H : Heap) (locs : List Loc) (ls : Array Slot), w_X12_who N  σ Q → va_P (dC, dI) vwCl (m_W ad cI cJ cC σ) H → va_D (zAW m_n ad s.heap.size) (m_W ad cI cJ cC σ) → va_S (zAW m_n ad s.heap.size) s.heap H locs → lv_has ls 4 [(0, .ref (ad 0))] → W p l e rm_X12_who s m args below meth c H locs 0 0 (MQ below (zQv (dC, dI) (m_ty cI cJ cC) (m_W ad cI cJ cC) (zAW m_n ad s.heap.size) Q) args s 0 0 (zAW m_n ad s.heap.size)) (F0 m 0 ls []) := by
  obtain ⟨hx, hb, hml, hr, hown, hts, hlocks⟩ := id C0
  intro  σ H locs ls h hP hD hS hl
  unfold w_X12_who at h
  refine lv_aload_n hx hb dX12_who_0 rfl (lv_at hl 0 rfl) ?_
  refine mg_0_29 hx hb hts hown hK hP mw_862 dX12_who_1 ?_
  refine lv_iconst (v := (0 : Int32)) hx hb dX12_who_4 (by decide) ?_
  refine ma_2 (j := 0) hx hb hK hP (zin (by decide)) (by decide) dX12_who_5 ?_
  refine lv_topi (fun v1 ev1 => ?_)
  have h := h v1 ev1
  refine lv_istore_n (lv' := [(1, .int v1), (0, .ref (ad 0))]) hx hb dX12_who_6 rfl hl (by decide) rfl (fun ls hl => ?_)
  refine lv_aload_n hx hb dX12_who_7 rfl (lv_at hl 1 rfl) ?_
  refine k_X12_name N ⟨hx, hb, hml, hown, hts⟩ mw_950 ⟨Nat.le_of_ble_eq_true rfl, Nat.le_of_ble_eq_true rfl⟩ h hK hP hD hS hl.1 (rest := []) (Nat.le_of_ble_eq_true rfl) ⟨Nat.le_of_ble_eq_true rfl, Nat.le_of_ble_eq_true rfl⟩ dX12_who_8 (fun r2 τ3 H locs h hP hD hS => ?_)
  refine lv_lstore_n (lv' := [(2, .long r2), (1, .int v1), (0, .ref (ad 0))]) hx hb dX12_who_11 rfl hl (by decide) rfl (fun ls hl => ?_)
  refine lv_aload_n hx hb dX12_who_12 rfl (lv_at hl 2 rfl) ?_
  refine mg_0_5 hx hb hts hown hK hP mw_838 dX12_who_13 ?_
  refine lv_if_ne (tgt := 37) hx hb dX12_who_16 (by decide) (fun hc => ?_) (fun hc => ?_)
  · have h := h.2 hc
    exact t_X12_who_37 C0 hK N  v1 r2 τ3 _ _ _ h hP hD hS (lv_sub hl [2, 1, 0] rfl)
  · have h := h.1 hc
    refine lv_aload_n hx hb dX12_who_19 rfl (lv_at hl 2 rfl) ?_
    refine lv_lload_n hx hb dX12_who_20 rfl (lv_at hl 0 rfl) ?_
    refine k_X12_personOf N ⟨hx, hb, hml, hown, hts⟩ mw_958 ⟨Nat.le_of_ble_eq_true rfl, Nat.le_of_ble_eq_true rfl⟩ h hK hP hD hS hl.1 (rest := []) (Nat.le_of_ble_eq_true rfl) ⟨Nat.le_of_ble_eq_true rfl, Nat.le_of_ble_eq_true rfl⟩ dX12_who_21 (fun r4 τ5 H locs h hP hD hS => ?_)
    refine lv_iconst (v := (-1 : Int32)) hx hb dX12_who_24 (by decide) ?_
    refine lv_icmp_eq (tgt := 37) hx hb dX12_who_25 (by decide) (fun hc => ?_) (fun hc => ?_)
    · have h := h.1 hc
      exact t_X12_who_37 C0 hK N  v1 r2 τ5 _ _ _ h hP hD hS (lv_sub hl [2, 1, 0] rfl)
    · have h := h.2 hc
      refine lv_aload_n hx hb dX12_who_28 rfl (lv_at hl 2 rfl) ?_
      refine lv_iconst (v := (3 : Int32)) hx hb dX12_who_29 (by decide) ?_
      refine lv_aload_n hx hb dX12_who_30 rfl (lv_at hl 2 rfl) ?_
      refine mg_0_28 hx hb hts hown hK hP mw_861 dX12_who_31 ?_
      refine k_X12_fail N ⟨hx, hb, hml, hown, hts⟩ mw_944 ⟨Nat.le_of_ble_eq_true rfl, Nat.le_of_ble_eq_true rfl⟩ h hK hP hD hS hl.1 (rest := []) (Nat.le_of_ble_eq_true rfl) ⟨Nat.le_of_ble_eq_true rfl, Nat.le_of_ble_eq_true rfl⟩ dX12_who_34 (fun τ7 H locs h hP hD hS => ?_)
      exact t_X12_who_37 C0 hK N  v1 r2 τ7 _ _ _ h hP hD hS (lv_sub hl [2, 1, 0] rfl)
set_option maxHeartbeats 4000000 in
set_option maxRecDepth 100000 in
theorem c_X12_who (N : Nat) (l : Launch) (dC : Nat → ClassId) (dI : Nat → Nat → Nat) (ad : Nat → Nat) (cI cJ cC : ClassId) (sz : Nat) (σ : zSt)  (Q : zSt → Prop) (h : w_X12_who N  σ Q) : Met l yX12_who vs_X12_who rm_X12_who (va_Pc [.ref (ad 0)] (zPc (dC, dI) (m_ty cI cJ cC) (m_W ad cI cJ cC) sz σ)) (zQv (dC, dI) (m_ty cI cJ cC) (m_W ad cI cJ cC) (zAW m_n ad sz) Q) 0 0 (zAW m_n ad sz) := by
  refine Met.ofW (cc := cX12_who) (maxL := 4) (ret := none) (by decide) rfl ?_
  intro p e s m args below meth c s₁ B hml hv
  obtain ⟨rfl, hsz, hP, hK, hD0⟩ := hv
  subst hsz
  have C0 : zCx p s m meth c _ RX12 cX12_who 4 none vs_X12_who := ⟨B.exec, B.bytes, hml, B.returns, findClass_of_methodNamed B.named, atoms_spec (ws := vs_X12_who) B.pre, B.notSynchronized⟩
  have hD := m_D0 (n0 := s.heap.size) hD0
  have hl := lv_entry ([.ref (ad 0)]) (n := 4) (Nat.le_of_ble_eq_true rfl)
  rw [lg_entry_eq]
  generalize (lg_sl ([.ref (ad 0)]) ++ List.replicate (4 - (lg_sl ([.ref (ad 0)])).length) Slot.unset).toArray = ls at hl ⊢
  exact t_X12_who_0 C0 hK N  σ _ _ ls h hP hD va_S.rf hl
theorem k_X12_who (N : Nat) {R : Room} {H : Heap} {locs : List Loc} {cells slots : Nat} {Q2 : State → Prop} {cc : ByteArray} {nL pc index : Nat} {ls : Array Slot} {rest : List Value} {own : String} {c0 : Cond} {σ : zSt}  {Q : zSt → Prop} (S0 : CallFix p m c cc nL s args (c0 :: zT) own) (hml : Cond.methodLink own index yX12_who ∈ zT) (hR : rm_X12_who.frames + 1 ≤ R.frames ∧ 8 + (4 + 11) + rm_X12_who.locals ≤ R.locals) (h : w_X12_who N  σ Q) (hK : va_K (dC, dI) vwCl (m_ty cI cJ cC) s) (hP : va_P (dC, dI) vwCl (m_W ad cI cJ cC σ) H) (hD : va_D (zAW m_n ad s.heap.size) (m_W ad cI cJ cC σ)) (hS : va_S (zAW m_n ad s.heap.size) s.heap H locs) (hsz : ls.size = nL) (hW : (rest.map fun v => v.category).sum ≤ 8) (hcs : cells ≤ R.cells ∧ slots ≤ R.slots) (hdg : decode cc pc = .ok (.invokevirtual index, 3)) (kk : ∀ (τ : zSt) (H1 : Heap) (locs1 : List Loc), Q τ → va_P (dC, dI) vwCl (m_W ad cI cJ cC τ) H1 → va_D (zAW m_n ad s.heap.size) (m_W ad cI cJ cC τ) → va_S (zAW m_n ad s.heap.size) s.heap H1 locs1 → W p l e R s m args below meth c H1 locs1 cells slots Q2 (F0 m (pc + 3) ls (rest))) : W p l e R s m args below meth c H locs cells slots Q2 (F0 m pc ls (.ref (ad 0) :: rest)) :=
  zcv_v (T := TX12) (N' := 83) (k := 0) (ci := 12) (fs := m_f0 ad σ) [] S0 (c_X12_who N l dC dI ad cI cJ cC H.size σ  Q h) (cw_X12_who S0.2.2.2.2 hml rfl rfl hR) rfl rfl hK hP hD hS rfl hsz hW rfl hcs hdg kk
end q18
section q18
def b_X12_statement_231 (N : Nat) (Q : zSt → Prop)  (σ : zSt) : Prop :=
  w_X12_asksSign N (59 : Int32) σ (fun τ2 => ∀ τ3 : zSt, τ3 = zI τ2 12 ((τ2.1 12) + (1 : Int32)) → Q τ3)
def b_X12_statement_125 (N : Nat) (Q : zSt → Prop)  (σ : zSt) : Prop :=
  b_X12_statement_231 N Q σ
def b_X12_statement_100 (N : Nat) (Q : zSt → Prop) (x1 : Int32) (x2 : Int32) (σ : zSt) : Prop :=
  ((σ.2.2.1 4 0) = (20 : Int32) → w_X12_fail N (5 : Int32) x1 σ (fun τ4 => b_X12_statement_125 N Q τ4)) ∧ (¬ (σ.2.2.1 4 0) = (20 : Int32) → w_X12_rule N x2 σ (fun τ2 => b_X12_statement_125 N Q τ2))
def b_X12_statement_86 (N : Nat) (Q : zSt → Prop) (x1 : Int32) (s0 : Int32) (σ : zSt) : Prop :=
  (s0 = (1 : Int32) → w_X12_asks N 4 σ (fun τ2 => b_X12_statement_100 N Q x1 s0 τ2)) ∧ (¬ s0 = (1 : Int32) → b_X12_statement_100 N Q x1 s0 σ)
def b_X12_statement_70 (N : Nat) (Q : zSt → Prop) (x1 : Int32) (σ : zSt) : Prop :=
  w_X12_takes N 2 σ (fun r1 τ2 => (r1 = 0 → b_X12_statement_86 N Q x1 (1 : Int32) τ2) ∧ (¬ r1 = 0 → b_X12_statement_86 N Q x1 (0 : Int32) τ2))
def b_X12_statement_191 (N : Nat) (Q : zSt → Prop)  (σ : zSt) : Prop :=
  ∀ τ1 : zSt, τ1 = zA σ 9 (upd (σ.2.2.1 9) 0 ((σ.2.2.1 9 0) + (1 : Int32))) → b_X12_statement_231 N Q τ1
def b_X12_statement_156 (N : Nat) (Q : zSt → Prop)  (σ : zSt) : Prop :=
  w_X12_personTold N (-1 : Int32) σ (fun r1 τ2 => w_X12_personTold N r1 τ2 (fun r3 τ4 => ((τ4.1 4) = 0 → w_X12_pairOf N r1 r3 τ4 (fun r5 τ6 => ∀ τ7 : zSt, τ7 = zB τ6 1 (vp_updL (τ6.2.2.2 1) 0 ((τ4.2.2.2 1 0) ||| ((1 : Int64) <<< (r5.toInt64 &&& 63)))) → b_X12_statement_191 N Q τ7)) ∧ (¬ (τ4.1 4) = 0 → b_X12_statement_191 N Q τ4)))
def w_X12_statement (N : Nat)  (σ : zSt) (Q : zSt → Prop) : Prop :=
  w_X12_look N σ (fun r1 τ2 => ∀ v3 : Int32, v3 = τ2.1 1 → w_X12_takes N 0 τ2 (fun r4 τ5 => (r4 = 0 → w_X12_isHere N 2 τ5 (fun r6 τ7 => (r6 = 0 → w_X12_isHere N 4 τ7 (fun r8 τ9 => (r8 = 0 → w_X12_takes N 5 τ9 (fun r10 τ11 => (r10 = 0 → w_X12_asks N 6 τ11 (fun τ13 => w_X12_personTold N (-1 : Int32) τ13 (fun r14 τ15 => w_X12_number N (0 : Int32) (9 : Int32) τ15 (fun r16 τ17 => (vp_in r14 20) ∧ (∀ τ18 : zSt, τ18 = zA τ17 3 (upd (τ17.2.2.1 3) (r14.toNatClampNeg) r16) → b_X12_statement_231 N Q τ18))))) ∧ (¬ r10 = 0 → ((τ11.2.2.1 9 0) = (20 : Int32) → w_X12_fail N (5 : Int32) v3 τ11 (fun τ20 => b_X12_statement_156 N Q τ20)) ∧ (¬ (τ11.2.2.1 9 0) = (20 : Int32) → b_X12_statement_156 N Q τ11)))) ∧ (¬ r8 = 0 → b_X12_statement_70 N Q v3 τ9))) ∧ (¬ r6 = 0 → b_X12_statement_70 N Q v3 τ7))) ∧ (¬ r4 = 0 → ((τ5.2.2.1 1 0) = (10 : Int32) → w_X12_fail N (5 : Int32) v3 τ5 (fun τ24 => b_X12_statement_231 N Q τ24)) ∧ (¬ (τ5.2.2.1 1 0) = (10 : Int32) → w_X12_who N τ5 (fun τ22 => b_X12_statement_231 N Q τ22)))))
variable {p : Program} {l : Launch} {e : Env} {s : State} {m : MethodId} {args : Array Value} {below : List Frame} {meth : Method} {c : Code} {dC : Nat → ClassId} {dI : Nat → Nat → Nat} {ad : Nat → Nat} {cI cJ cC : ClassId}
set_option maxHeartbeats 4000000 in
set_option maxRecDepth 100000 in
theorem t_X12_statement_231 (C0 : zCx p s m meth c args RX12 cX12_statement 4 none vs_X12_statement) (hK : va_K (dC, dI) vwCl (m_ty cI cJ cC) s) (N : Nat) {Q : zSt → Prop} : ∀  (σ : zSt) (H : Heap) (locs : List Loc) (ls : Array Slot), b_X12_statement_231 N  Q  σ → va_P (dC, dI) vwCl (m_W ad cI cJ cC σ) H → va_D (zAW m_n ad s.heap.size) (m_W ad cI cJ cC σ) → va_S (zAW m_n ad s.heap.size) s.heap H locs → lv_has ls 4 [(0, .ref (ad 0))] → W p l e rm_X12_statement s m args below meth c H locs 0 0 (MQ below (zQv (dC, dI) (m_ty cI cJ cC) (m_W ad cI cJ cC) (zAW m_n ad s.heap.size) Q) args s 0 0 (zAW m_n ad s.heap.size)) (F0 m 231 ls []) := by
  obtain ⟨hx, hb, hml, hr, hown, hts, hlocks⟩ := id C0
  intro  σ H locs ls h hP hD hS hl
  unfold b_X12_statement_231 at h
  refine lv_aload_n hx hb dX12_statement_231 rfl (lv_at hl 0 rfl) ?_
  refine lv_bipush (v := (59 : Int32)) hx hb dX12_statement_232 (by decide) ?_
  refine k_X12_asksSign N ⟨hx, hb, hml, hown, hts⟩ mw_985 ⟨Nat.le_of_ble_eq_true rfl, Nat.le_of_ble_eq_true rfl⟩ h hK hP hD hS hl.1 (rest := []) (Nat.le_of_ble_eq_true rfl) ⟨Nat.le_of_ble_eq_true rfl, Nat.le_of_ble_eq_true rfl⟩ dX12_statement_234 (fun τ2 H locs h hP hD hS => ?_)
  refine lv_aload_n hx hb dX12_statement_237 rfl (lv_at hl 0 rfl) ?_
  refine lv_dup hx hb dX12_statement_238 rfl ?_
  refine mg_0_45 hx hb hts hown hK hP mw_878 dX12_statement_239 ?_
  refine lv_iconst (v := (1 : Int32)) hx hb dX12_statement_242 (by decide) ?_
  refine lv_iadd hx hb dX12_statement_243 ?_
  refine mp_0_45 hx hb hts hown hK hP hD hS mw_878 dX12_statement_244 (fun τ3 H locs eτ3 hP hD hS => ?_)
  have h := h τ3 eτ3
  exact zret_v hx hb hr hlocks hK hP hD hS h dX12_statement_247
set_option maxHeartbeats 4000000 in
set_option maxRecDepth 100000 in
theorem t_X12_statement_125 (C0 : zCx p s m meth c args RX12 cX12_statement 4 none vs_X12_statement) (hK : va_K (dC, dI) vwCl (m_ty cI cJ cC) s) (N : Nat) {Q : zSt → Prop} : ∀  (σ : zSt) (H : Heap) (locs : List Loc) (ls : Array Slot), b_X12_statement_125 N  Q  σ → va_P (dC, dI) vwCl (m_W ad cI cJ cC σ) H → va_D (zAW m_n ad s.heap.size) (m_W ad cI cJ cC σ) → va_S (zAW m_n ad s.heap.size) s.heap H locs → lv_has ls 4 [(0, .ref (ad 0))] → W p l e rm_X12_statement s m args below meth c H locs 0 0 (MQ below (zQv (dC, dI) (m_ty cI cJ cC) (m_W ad cI cJ cC) (zAW m_n ad s.heap.size) Q) args s 0 0 (zAW m_n ad s.heap.size)) (F0 m 125 ls []) := by
  obtain ⟨hx, hb, hml, hr, hown, hts, hlocks⟩ := id C0
  intro  σ H locs ls h hP hD hS hl
  unfold b_X12_statement_125 at h
  refine lv_goto (tgt := 231) hx hb dX12_statement_125 (by decide) ?_
  exact t_X12_statement_231 C0 hK N  σ _ _ _ h hP hD hS (lv_sub hl [0] rfl)
set_option maxHeartbeats 4000000 in
set_option maxRecDepth 100000 in
theorem t_X12_statement_100 (C0 : zCx p s m meth c args RX12 cX12_statement 4 none vs_X12_statement) (hK : va_K (dC, dI) vwCl (m_ty cI cJ cC) s) (N : Nat) {Q : zSt → Prop} : ∀ (x1 : Int32) (x2 : Int32) (σ : zSt) (H : Heap) (locs : List Loc) (ls : Array Slot), b_X12_statement_100 N  Q x1 x2 σ → va_P (dC, dI) vwCl (m_W ad cI cJ cC σ) H → va_D (zAW m_n ad s.heap.size) (m_W ad cI cJ cC σ) → va_S (zAW m_n ad s.heap.size) s.heap H locs → lv_has ls 4 [(0, .ref (ad 0)), (1, .int x1), (2, .int x2)] → W p l e rm_X12_statement s m args below meth c H locs 0 0 (MQ below (zQv (dC, dI) (m_ty cI cJ cC) (m_W ad cI cJ cC) (zAW m_n ad s.heap.size) Q) args s 0 0 (zAW m_n ad s.heap.size)) (F0 m 100 ls []) := by
  obtain ⟨hx, hb, hml, hr, hown, hts, hlocks⟩ := id C0
  intro x1 x2 σ H locs ls h hP hD hS hl
  unfold b_X12_statement_100 at h
  refine lv_aload_n hx hb dX12_statement_100 rfl (lv_at hl 0 rfl) ?_
  refine mg_0_33 hx hb hts hown hK hP mw_866 dX12_statement_101 ?_
  refine lv_iconst (v := (0 : Int32)) hx hb dX12_statement_104 (by decide) ?_
  refine ma_6 (j := 0) hx hb hK hP (zin (by decide)) (by decide) dX12_statement_105 ?_
  refine lv_bipush (v := (20 : Int32)) hx hb dX12_statement_106 (by decide) ?_
  refine lv_icmp_ne (tgt := 120) hx hb dX12_statement_108 (by decide) (fun hc => ?_) (fun hc => ?_)
  · have h := h.2 hc
    refine lv_aload_n hx hb dX12_statement_120 rfl (lv_at hl 0 rfl) ?_
    refine lv_iload_n hx hb dX12_statement_121 rfl (lv_at hl 2 rfl) ?_
    refine k_X12_rule N ⟨hx, hb, hml, hown, hts⟩ mw_973 ⟨Nat.le_of_ble_eq_true rfl, Nat.le_of_ble_eq_true rfl⟩ h hK hP hD hS hl.1 (rest := []) (Nat.le_of_ble_eq_true rfl) ⟨Nat.le_of_ble_eq_true rfl, Nat.le_of_ble_eq_true rfl⟩ dX12_statement_122 (fun τ2 H locs h hP hD hS => ?_)
    exact t_X12_statement_125 C0 hK N  τ2 _ _ _ h hP hD hS (lv_sub hl [0] rfl)
  · have h := h.1 hc
    refine lv_aload_n hx hb dX12_statement_111 rfl (lv_at hl 0 rfl) ?_
    refine lv_iconst (v := (5 : Int32)) hx hb dX12_statement_112 (by decide) ?_
    refine lv_iload_n hx hb dX12_statement_113 rfl (lv_at hl 1 rfl) ?_
    refine k_X12_fail N ⟨hx, hb, hml, hown, hts⟩ mw_944 ⟨Nat.le_of_ble_eq_true rfl, Nat.le_of_ble_eq_true rfl⟩ h hK hP hD hS hl.1 (rest := []) (Nat.le_of_ble_eq_true rfl) ⟨Nat.le_of_ble_eq_true rfl, Nat.le_of_ble_eq_true rfl⟩ dX12_statement_114 (fun τ4 H locs h hP hD hS => ?_)
    refine lv_goto (tgt := 125) hx hb dX12_statement_117 (by decide) ?_
    exact t_X12_statement_125 C0 hK N  τ4 _ _ _ h hP hD hS (lv_sub hl [0] rfl)
set_option maxHeartbeats 4000000 in
set_option maxRecDepth 100000 in
theorem t_X12_statement_86 (C0 : zCx p s m meth c args RX12 cX12_statement 4 none vs_X12_statement) (hK : va_K (dC, dI) vwCl (m_ty cI cJ cC) s) (N : Nat) {Q : zSt → Prop} : ∀ (x1 : Int32) (s0 : Int32) (σ : zSt) (H : Heap) (locs : List Loc) (ls : Array Slot), b_X12_statement_86 N  Q x1 s0 σ → va_P (dC, dI) vwCl (m_W ad cI cJ cC σ) H → va_D (zAW m_n ad s.heap.size) (m_W ad cI cJ cC σ) → va_S (zAW m_n ad s.heap.size) s.heap H locs → lv_has ls 4 [(0, .ref (ad 0)), (1, .int x1)] → W p l e rm_X12_statement s m args below meth c H locs 0 0 (MQ below (zQv (dC, dI) (m_ty cI cJ cC) (m_W ad cI cJ cC) (zAW m_n ad s.heap.size) Q) args s 0 0 (zAW m_n ad s.heap.size)) (F0 m 86 ls [.int s0]) := by
  obtain ⟨hx, hb, hml, hr, hown, hts, hlocks⟩ := id C0
  intro x1 s0 σ H locs ls h hP hD hS hl
  unfold b_X12_statement_86 at h
  refine lv_istore_n (lv' := [(2, .int s0), (0, .ref (ad 0)), (1, .int x1)]) hx hb dX12_statement_86 rfl hl (by decide) rfl (fun ls hl => ?_)
  refine lv_iload_n hx hb dX12_statement_87 rfl (lv_at hl 0 rfl) ?_
  refine lv_iconst (v := (1 : Int32)) hx hb dX12_statement_88 (by decide) ?_
  refine lv_icmp_ne (tgt := 100) hx hb dX12_statement_89 (by decide) (fun hc => ?_) (fun hc => ?_)
  · have h := h.2 hc
    exact t_X12_statement_100 C0 hK N  x1 s0 σ _ _ _ h hP hD hS (lv_sub hl [1, 2, 0] rfl)
  · have h := h.1 hc
    refine lv_aload_n hx hb dX12_statement_92 rfl (lv_at hl 1 rfl) ?_
    refine lv_aload_n hx hb dX12_statement_93 rfl (lv_at hl 1 rfl) ?_
    refine mg_0_13 hx hb hts hown hK hP mw_846 dX12_statement_94 ?_
    refine k_X12_asks N (w := 4) (by decide) ⟨hx, hb, hml, hown, hts⟩ mw_961 ⟨Nat.le_of_ble_eq_true rfl, Nat.le_of_ble_eq_true rfl⟩ h hK hP hD hS hl.1 (rest := []) (Nat.le_of_ble_eq_true rfl) ⟨Nat.le_of_ble_eq_true rfl, Nat.le_of_ble_eq_true rfl⟩ dX12_statement_97 (fun τ2 H locs h hP hD hS => ?_)
    exact t_X12_statement_100 C0 hK N  x1 s0 τ2 _ _ _ h hP hD hS (lv_sub hl [1, 2, 0] rfl)
set_option maxHeartbeats 4000000 in
set_option maxRecDepth 100000 in
theorem t_X12_statement_70 (C0 : zCx p s m meth c args RX12 cX12_statement 4 none vs_X12_statement) (hK : va_K (dC, dI) vwCl (m_ty cI cJ cC) s) (N : Nat) {Q : zSt → Prop} : ∀ (x1 : Int32) (σ : zSt) (H : Heap) (locs : List Loc) (ls : Array Slot), b_X12_statement_70 N  Q x1 σ → va_P (dC, dI) vwCl (m_W ad cI cJ cC σ) H → va_D (zAW m_n ad s.heap.size) (m_W ad cI cJ cC σ) → va_S (zAW m_n ad s.heap.size) s.heap H locs → lv_has ls 4 [(0, .ref (ad 0)), (1, .int x1)] → W p l e rm_X12_statement s m args below meth c H locs 0 0 (MQ below (zQv (dC, dI) (m_ty cI cJ cC) (m_W ad cI cJ cC) (zAW m_n ad s.heap.size) Q) args s 0 0 (zAW m_n ad s.heap.size)) (F0 m 70 ls []) := by
  obtain ⟨hx, hb, hml, hr, hown, hts, hlocks⟩ := id C0
  intro x1 σ H locs ls h hP hD hS hl
  unfold b_X12_statement_70 at h
  refine lv_aload_n hx hb dX12_statement_70 rfl (lv_at hl 0 rfl) ?_
  refine lv_aload_n hx hb dX12_statement_71 rfl (lv_at hl 0 rfl) ?_
  refine mg_0_11 hx hb hts hown hK hP mw_844 dX12_statement_72 ?_
  refine k_X12_takes N (w := 2) (by decide) ⟨hx, hb, hml, hown, hts⟩ mw_935 ⟨Nat.le_of_ble_eq_true rfl, Nat.le_of_ble_eq_true rfl⟩ h hK hP hD hS hl.1 (rest := []) (Nat.le_of_ble_eq_true rfl) ⟨Nat.le_of_ble_eq_true rfl, Nat.le_of_ble_eq_true rfl⟩ dX12_statement_75 (fun r1 τ2 H locs h hP hD hS => ?_)
  refine lv_if_eq (tgt := 85) hx hb dX12_statement_78 (by decide) (fun hc => ?_) (fun hc => ?_)
  · have h := h.1 hc
    refine lv_iconst (v := (1 : Int32)) hx hb dX12_statement_85 (by decide) ?_
    exact t_X12_statement_86 C0 hK N  x1 (1 : Int32) τ2 _ _ _ h hP hD hS (lv_sub hl [0, 1] rfl)
  · have h := h.2 hc
    refine lv_iconst (v := (0 : Int32)) hx hb dX12_statement_81 (by decide) ?_
    refine lv_goto (tgt := 86) hx hb dX12_statement_82 (by decide) ?_
    exact t_X12_statement_86 C0 hK N  x1 (0 : Int32) τ2 _ _ _ h hP hD hS (lv_sub hl [0, 1] rfl)
set_option maxHeartbeats 4000000 in
set_option maxRecDepth 100000 in
theorem t_X12_statement_191 (C0 : zCx p s m meth c args RX12 cX12_statement 4 none vs_X12_statement) (hK : va_K (dC, dI) vwCl (m_ty cI cJ cC) s) (N : Nat) {Q : zSt → Prop} : ∀  (σ : zSt) (H : Heap) (locs : List Loc) (ls : Array Slot), b_X12_statement_191 N  Q  σ → va_P (dC, dI) vwCl (m_W ad cI cJ cC σ) H → va_D (zAW m_n ad s.heap.size) (m_W ad cI cJ cC σ) → va_S (zAW m_n ad s.heap.size) s.heap H locs → lv_has ls 4 [(0, .ref (ad 0))] → W p l e rm_X12_statement s m args below meth c H locs 0 0 (MQ below (zQv (dC, dI) (m_ty cI cJ cC) (m_W ad cI cJ cC) (zAW m_n ad s.heap.size) Q) args s 0 0 (zAW m_n ad s.heap.size)) (F0 m 191 ls []) := by
  obtain ⟨hx, hb, hml, hr, hown, hts, hlocks⟩ := id C0
  intro  σ H locs ls h hP hD hS hl
  unfold b_X12_statement_191 at h
  refine lv_aload_n hx hb dX12_statement_191 rfl (lv_at hl 0 rfl) ?_
  refine mg_0_38 hx hb hts hown hK hP mw_871 dX12_statement_192 ?_
  refine lv_iconst (v := (0 : Int32)) hx hb dX12_statement_195 (by decide) ?_
  refine lv_dup2_11 hx hb dX12_statement_196 rfl rfl ?_
  refine ma_11 (j := 0) hx hb hK hP (zin (by decide)) (by decide) dX12_statement_197 ?_
  refine lv_iconst (v := (1 : Int32)) hx hb dX12_statement_198 (by decide) ?_
  refine lv_iadd hx hb dX12_statement_199 ?_
  refine ms_11 (j := 0) hx hb hK hP hD hS (zin (by decide)) (by decide) dX12_statement_200 (fun τ1 H locs eτ1 hP hD hS => ?_)
  have h := h τ1 eτ1
  refine lv_goto (tgt := 231) hx hb dX12_statement_201 (by decide) ?_
  exact t_X12_statement_231 C0 hK N  τ1 _ _ _ h hP hD hS (lv_sub hl [0] rfl)
set_option maxHeartbeats 4000000 in
set_option maxRecDepth 100000 in
theorem t_X12_statement_156 (C0 : zCx p s m meth c args RX12 cX12_statement 4 none vs_X12_statement) (hK : va_K (dC, dI) vwCl (m_ty cI cJ cC) s) (N : Nat) {Q : zSt → Prop} : ∀  (σ : zSt) (H : Heap) (locs : List Loc) (ls : Array Slot), b_X12_statement_156 N  Q  σ → va_P (dC, dI) vwCl (m_W ad cI cJ cC σ) H → va_D (zAW m_n ad s.heap.size) (m_W ad cI cJ cC σ) → va_S (zAW m_n ad s.heap.size) s.heap H locs → lv_has ls 4 [(0, .ref (ad 0))] → W p l e rm_X12_statement s m args below meth c H locs 0 0 (MQ below (zQv (dC, dI) (m_ty cI cJ cC) (m_W ad cI cJ cC) (zAW m_n ad s.heap.size) Q) args s 0 0 (zAW m_n ad s.heap.size)) (F0 m 156 ls []) := by
  obtain ⟨hx, hb, hml, hr, hown, hts, hlocks⟩ := id C0
  intro  σ H locs ls h hP hD hS hl
  unfold b_X12_statement_156 at h
  refine lv_aload_n hx hb dX12_statement_156 rfl (lv_at hl 0 rfl) ?_
  refine lv_iconst (v := (-1 : Int32)) hx hb dX12_statement_157 (by decide) ?_
  refine k_X12_personTold N ⟨hx, hb, hml, hown, hts⟩ mw_1018 ⟨Nat.le_of_ble_eq_true rfl, Nat.le_of_ble_eq_true rfl⟩ h hK hP hD hS hl.1 (rest := []) (Nat.le_of_ble_eq_true rfl) ⟨Nat.le_of_ble_eq_true rfl, Nat.le_of_ble_eq_true rfl⟩ dX12_statement_158 (fun r1 τ2 H locs h hP hD hS => ?_)
  refine lv_istore_n (lv' := [(2, .int r1), (0, .ref (ad 0))]) hx hb dX12_statement_161 rfl hl (by decide) rfl (fun ls hl => ?_)
  refine lv_aload_n hx hb dX12_statement_162 rfl (lv_at hl 1 rfl) ?_
  refine lv_iload_n hx hb dX12_statement_163 rfl (lv_at hl 0 rfl) ?_
  refine k_X12_personTold N ⟨hx, hb, hml, hown, hts⟩ mw_1018 ⟨Nat.le_of_ble_eq_true rfl, Nat.le_of_ble_eq_true rfl⟩ h hK hP hD hS hl.1 (rest := []) (Nat.le_of_ble_eq_true rfl) ⟨Nat.le_of_ble_eq_true rfl, Nat.le_of_ble_eq_true rfl⟩ dX12_statement_164 (fun r3 τ4 H locs h hP hD hS => ?_)
  refine lv_istore_n (lv' := [(3, .int r3), (2, .int r1), (0, .ref (ad 0))]) hx hb dX12_statement_167 rfl hl (by decide) rfl (fun ls hl => ?_)
  refine lv_aload_n hx hb dX12_statement_168 rfl (lv_at hl 2 rfl) ?_
  refine mg_0_5 hx hb hts hown hK hP mw_838 dX12_statement_169 ?_
  refine lv_if_ne (tgt := 191) hx hb dX12_statement_172 (by decide) (fun hc => ?_) (fun hc => ?_)
  · have h := h.2 hc
    exact t_X12_statement_191 C0 hK N  τ4 _ _ _ h hP hD hS (lv_sub hl [2] rfl)
  · have h := h.1 hc
    refine lv_aload_n hx hb dX12_statement_175 rfl (lv_at hl 2 rfl) ?_
    refine mg_0_39 hx hb hts hown hK hP mw_872 dX12_statement_176 ?_
    refine lv_iconst (v := (0 : Int32)) hx hb dX12_statement_179 (by decide) ?_
    refine lv_dup2_11 hx hb dX12_statement_180 rfl rfl ?_
    refine ma_12 (j := 0) hx hb hK hP (zin (by decide)) (by decide) dX12_statement_181 ?_
    refine lv_lconst (v := (1 : Int64)) hx hb dX12_statement_182 (by decide) ?_
    refine lv_iload_n hx hb dX12_statement_183 rfl (lv_at hl 1 rfl) ?_
    refine lv_iload_n hx hb dX12_statement_184 rfl (lv_at hl 0 rfl) ?_
    refine k_X12_pairOf N ⟨hx, hb, hml, hown, hts⟩ mw_1030 ⟨Nat.le_of_ble_eq_true rfl, Nat.le_of_ble_eq_true rfl⟩ h hK hP hD hS hl.1 (rest := [.long (1 : Int64), .long (τ4.2.2.2 1 0), .int (0 : Int32), .ref (ad 12)]) (Nat.le_of_ble_eq_true rfl) ⟨Nat.le_of_ble_eq_true rfl, Nat.le_of_ble_eq_true rfl⟩ dX12_statement_185 (fun r5 τ6 H locs h hP hD hS => ?_)
    refine lv_lshl hx hb dX12_statement_188 rfl ?_
    refine lv_lor hx hb dX12_statement_189 ?_
    refine ms_12 (j := 0) hx hb hK hP hD hS (zin (by decide)) (by decide) dX12_statement_190 (fun τ7 H locs eτ7 hP hD hS => ?_)
    have h := h τ7 eτ7
    exact t_X12_statement_191 C0 hK N  τ7 _ _ _ h hP hD hS (lv_sub hl [2] rfl)
set_option maxHeartbeats 4000000 in
set_option maxRecDepth 100000 in
theorem t_X12_statement_0 (C0 : zCx p s m meth c args RX12 cX12_statement 4 none vs_X12_statement) (hK : va_K (dC, dI) vwCl (m_ty cI cJ cC) s) (N : Nat) {Q : zSt → Prop} : ∀  (σ : zSt) (H : Heap) (locs : List Loc) (ls : Array Slot), w_X12_statement N  σ Q → va_P (dC, dI) vwCl (m_W ad cI cJ cC σ) H → va_D (zAW m_n ad s.heap.size) (m_W ad cI cJ cC σ) → va_S (zAW m_n ad s.heap.size) s.heap H locs → lv_has ls 4 [(0, .ref (ad 0))] → W p l e rm_X12_statement s m args below meth c H locs 0 0 (MQ below (zQv (dC, dI) (m_ty cI cJ cC) (m_W ad cI cJ cC) (zAW m_n ad s.heap.size) Q) args s 0 0 (zAW m_n ad s.heap.size)) (F0 m 0 ls []) := by
  obtain ⟨hx, hb, hml, hr, hown, hts, hlocks⟩ := id C0
  intro  σ H locs ls h hP hD hS hl
  unfold w_X12_statement at h
  refine lv_aload_n hx hb dX12_statement_0 rfl (lv_at hl 0 rfl) ?_
  refine k_X12_look N ⟨hx, hb, hml, hown, hts⟩ mw_929 ⟨Nat.le_of_ble_eq_true rfl, Nat.le_of_ble_eq_true rfl⟩ h hK hP hD hS hl.1 (rest := []) (Nat.le_of_ble_eq_true rfl) ⟨Nat.le_of_ble_eq_true rfl, Nat.le_of_ble_eq_true rfl⟩ dX12_statement_1 (fun r1 τ2 H locs h hP hD hS => ?_)
  refine lv_pop hx hb dX12_statement_4 rfl ?_
  refine lv_aload_n hx hb dX12_statement_5 rfl (lv_at hl 0 rfl) ?_
  refine mg_0_2 hx hb hts hown hK hP mw_835 dX12_statement_6 ?_
  refine lv_topi (fun v3 ev3 => ?_)
  have h := h v3 ev3
  refine lv_istore_n (lv' := [(1, .int v3), (0, .ref (ad 0))]) hx hb dX12_statement_9 rfl hl (by decide) rfl (fun ls hl => ?_)
  refine lv_aload_n hx hb dX12_statement_10 rfl (lv_at hl 1 rfl) ?_
  refine lv_aload_n hx hb dX12_statement_11 rfl (lv_at hl 1 rfl) ?_
  refine mg_0_9 hx hb hts hown hK hP mw_842 dX12_statement_12 ?_
  refine k_X12_takes N (w := 0) (by decide) ⟨hx, hb, hml, hown, hts⟩ mw_935 ⟨Nat.le_of_ble_eq_true rfl, Nat.le_of_ble_eq_true rfl⟩ h hK hP hD hS hl.1 (rest := []) (Nat.le_of_ble_eq_true rfl) ⟨Nat.le_of_ble_eq_true rfl, Nat.le_of_ble_eq_true rfl⟩ dX12_statement_15 (fun r4 τ5 H locs h hP hD hS => ?_)
  refine lv_if_eq (tgt := 48) hx hb dX12_statement_18 (by decide) (fun hc => ?_) (fun hc => ?_)
  · have h := h.1 hc
    refine lv_aload_n hx hb dX12_statement_48 rfl (lv_at hl 1 rfl) ?_
    refine lv_aload_n hx hb dX12_statement_49 rfl (lv_at hl 1 rfl) ?_
    refine mg_0_11 hx hb hts hown hK hP mw_844 dX12_statement_50 ?_
    refine k_X12_isHere N (w := 2) (by decide) ⟨hx, hb, hml, hown, hts⟩ mw_938 ⟨Nat.le_of_ble_eq_true rfl, Nat.le_of_ble_eq_true rfl⟩ h hK hP hD hS hl.1 (rest := []) (Nat.le_of_ble_eq_true rfl) ⟨Nat.le_of_ble_eq_true rfl, Nat.le_of_ble_eq_true rfl⟩ dX12_statement_53 (fun r6 τ7 H locs h hP hD hS => ?_)
    refine lv_if_ne (tgt := 70) hx hb dX12_statement_56 (by decide) (fun hc => ?_) (fun hc => ?_)
    · have h := h.2 hc
      exact t_X12_statement_70 C0 hK N  v3 τ7 _ _ _ h hP hD hS (lv_sub hl [1, 0] rfl)
    · have h := h.1 hc
      refine lv_aload_n hx hb dX12_statement_59 rfl (lv_at hl 1 rfl) ?_
      refine lv_aload_n hx hb dX12_statement_60 rfl (lv_at hl 1 rfl) ?_
      refine mg_0_13 hx hb hts hown hK hP mw_846 dX12_statement_61 ?_
      refine k_X12_isHere N (w := 4) (by decide) ⟨hx, hb, hml, hown, hts⟩ mw_938 ⟨Nat.le_of_ble_eq_true rfl, Nat.le_of_ble_eq_true rfl⟩ h hK hP hD hS hl.1 (rest := []) (Nat.le_of_ble_eq_true rfl) ⟨Nat.le_of_ble_eq_true rfl, Nat.le_of_ble_eq_true rfl⟩ dX12_statement_64 (fun r8 τ9 H locs h hP hD hS => ?_)
      refine lv_if_eq (tgt := 128) hx hb dX12_statement_67 (by decide) (fun hc => ?_) (fun hc => ?_)
      · have h := h.1 hc
        refine lv_aload_n hx hb dX12_statement_128 rfl (lv_at hl 1 rfl) ?_
        refine lv_aload_n hx hb dX12_statement_129 rfl (lv_at hl 1 rfl) ?_
        refine mg_0_14 hx hb hts hown hK hP mw_847 dX12_statement_130 ?_
        refine k_X12_takes N (w := 5) (by decide) ⟨hx, hb, hml, hown, hts⟩ mw_935 ⟨Nat.le_of_ble_eq_true rfl, Nat.le_of_ble_eq_true rfl⟩ h hK hP hD hS hl.1 (rest := []) (Nat.le_of_ble_eq_true rfl) ⟨Nat.le_of_ble_eq_true rfl, Nat.le_of_ble_eq_true rfl⟩ dX12_statement_133 (fun r10 τ11 H locs h hP hD hS => ?_)
        refine lv_if_eq (tgt := 204) hx hb dX12_statement_136 (by decide) (fun hc => ?_) (fun hc => ?_)
        · have h := h.1 hc
          refine lv_aload_n hx hb dX12_statement_204 rfl (lv_at hl 1 rfl) ?_
          refine lv_aload_n hx hb dX12_statement_205 rfl (lv_at hl 1 rfl) ?_
          refine mg_0_15 hx hb hts hown hK hP mw_848 dX12_statement_206 ?_
          refine k_X12_asks N (w := 6) (by decide) ⟨hx, hb, hml, hown, hts⟩ mw_961 ⟨Nat.le_of_ble_eq_true rfl, Nat.le_of_ble_eq_true rfl⟩ h hK hP hD hS hl.1 (rest := []) (Nat.le_of_ble_eq_true rfl) ⟨Nat.le_of_ble_eq_true rfl, Nat.le_of_ble_eq_true rfl⟩ dX12_statement_209 (fun τ13 H locs h hP hD hS => ?_)
          refine lv_aload_n hx hb dX12_statement_212 rfl (lv_at hl 1 rfl) ?_
          refine lv_iconst (v := (-1 : Int32)) hx hb dX12_statement_213 (by decide) ?_
          refine k_X12_personTold N ⟨hx, hb, hml, hown, hts⟩ mw_1018 ⟨Nat.le_of_ble_eq_true rfl, Nat.le_of_ble_eq_true rfl⟩ h hK hP hD hS hl.1 (rest := []) (Nat.le_of_ble_eq_true rfl) ⟨Nat.le_of_ble_eq_true rfl, Nat.le_of_ble_eq_true rfl⟩ dX12_statement_214 (fun r14 τ15 H locs h hP hD hS => ?_)
          refine lv_istore_n (lv' := [(2, .int r14), (1, .int v3), (0, .ref (ad 0))]) hx hb dX12_statement_217 rfl hl (by decide) rfl (fun ls hl => ?_)
          refine lv_aload_n hx hb dX12_statement_218 rfl (lv_at hl 2 rfl) ?_
          refine mg_0_32 hx hb hts hown hK hP mw_865 dX12_statement_219 ?_
          refine lv_iload_n hx hb dX12_statement_222 rfl (lv_at hl 0 rfl) ?_
          refine lv_aload_n hx hb dX12_statement_223 rfl (lv_at hl 2 rfl) ?_
          refine lv_iconst (v := (0 : Int32)) hx hb dX12_statement_224 (by decide) ?_
          refine lv_bipush (v := (9 : Int32)) hx hb dX12_statement_225 (by decide) ?_
          refine k_X12_number N ⟨hx, hb, hml, hown, hts⟩ mw_964 ⟨Nat.le_of_ble_eq_true rfl, Nat.le_of_ble_eq_true rfl⟩ h hK hP hD hS hl.1 (rest := [.int r14, .ref (ad 5)]) (Nat.le_of_ble_eq_true rfl) ⟨Nat.le_of_ble_eq_true rfl, Nat.le_of_ble_eq_true rfl⟩ dX12_statement_227 (fun r16 τ17 H locs h hP hD hS => ?_)
          refine ms_5 hx hb hK hP hD hS h.1 rfl dX12_statement_230 (fun τ18 H locs eτ18 hP hD hS => ?_)
          have h := h.2
          have h := h τ18 eτ18
          exact t_X12_statement_231 C0 hK N  τ18 _ _ _ h hP hD hS (lv_sub hl [2] rfl)
        · have h := h.2 hc
          refine lv_aload_n hx hb dX12_statement_139 rfl (lv_at hl 1 rfl) ?_
          refine mg_0_38 hx hb hts hown hK hP mw_871 dX12_statement_140 ?_
          refine lv_iconst (v := (0 : Int32)) hx hb dX12_statement_143 (by decide) ?_
          refine ma_11 (j := 0) hx hb hK hP (zin (by decide)) (by decide) dX12_statement_144 ?_
          refine lv_bipush (v := (20 : Int32)) hx hb dX12_statement_145 (by decide) ?_
          refine lv_icmp_ne (tgt := 156) hx hb dX12_statement_147 (by decide) (fun hc => ?_) (fun hc => ?_)
          · have h := h.2 hc
            exact t_X12_statement_156 C0 hK N  τ11 _ _ _ h hP hD hS (lv_sub hl [1] rfl)
          · have h := h.1 hc
            refine lv_aload_n hx hb dX12_statement_150 rfl (lv_at hl 1 rfl) ?_
            refine lv_iconst (v := (5 : Int32)) hx hb dX12_statement_151 (by decide) ?_
            refine lv_iload_n hx hb dX12_statement_152 rfl (lv_at hl 0 rfl) ?_
            refine k_X12_fail N ⟨hx, hb, hml, hown, hts⟩ mw_944 ⟨Nat.le_of_ble_eq_true rfl, Nat.le_of_ble_eq_true rfl⟩ h hK hP hD hS hl.1 (rest := []) (Nat.le_of_ble_eq_true rfl) ⟨Nat.le_of_ble_eq_true rfl, Nat.le_of_ble_eq_true rfl⟩ dX12_statement_153 (fun τ20 H locs h hP hD hS => ?_)
            exact t_X12_statement_156 C0 hK N  τ20 _ _ _ h hP hD hS (lv_sub hl [1] rfl)
      · have h := h.2 hc
        exact t_X12_statement_70 C0 hK N  v3 τ9 _ _ _ h hP hD hS (lv_sub hl [1, 0] rfl)
  · have h := h.2 hc
    refine lv_aload_n hx hb dX12_statement_21 rfl (lv_at hl 1 rfl) ?_
    refine mg_0_29 hx hb hts hown hK hP mw_862 dX12_statement_22 ?_
    refine lv_iconst (v := (0 : Int32)) hx hb dX12_statement_25 (by decide) ?_
    refine ma_2 (j := 0) hx hb hK hP (zin (by decide)) (by decide) dX12_statement_26 ?_
    refine lv_bipush (v := (10 : Int32)) hx hb dX12_statement_27 (by decide) ?_
    refine lv_icmp_ne (tgt := 41) hx hb dX12_statement_29 (by decide) (fun hc => ?_) (fun hc => ?_)
    · have h := h.2 hc
      refine lv_aload_n hx hb dX12_statement_41 rfl (lv_at hl 1 rfl) ?_
      refine k_X12_who N ⟨hx, hb, hml, hown, hts⟩ mw_947 ⟨Nat.le_of_ble_eq_true rfl, Nat.le_of_ble_eq_true rfl⟩ h hK hP hD hS hl.1 (rest := []) (Nat.le_of_ble_eq_true rfl) ⟨Nat.le_of_ble_eq_true rfl, Nat.le_of_ble_eq_true rfl⟩ dX12_statement_42 (fun τ22 H locs h hP hD hS => ?_)
      refine lv_goto (tgt := 231) hx hb dX12_statement_45 (by decide) ?_
      exact t_X12_statement_231 C0 hK N  τ22 _ _ _ h hP hD hS (lv_sub hl [1] rfl)
    · have h := h.1 hc
      refine lv_aload_n hx hb dX12_statement_32 rfl (lv_at hl 1 rfl) ?_
      refine lv_iconst (v := (5 : Int32)) hx hb dX12_statement_33 (by decide) ?_
      refine lv_iload_n hx hb dX12_statement_34 rfl (lv_at hl 0 rfl) ?_
      refine k_X12_fail N ⟨hx, hb, hml, hown, hts⟩ mw_944 ⟨Nat.le_of_ble_eq_true rfl, Nat.le_of_ble_eq_true rfl⟩ h hK hP hD hS hl.1 (rest := []) (Nat.le_of_ble_eq_true rfl) ⟨Nat.le_of_ble_eq_true rfl, Nat.le_of_ble_eq_true rfl⟩ dX12_statement_35 (fun τ24 H locs h hP hD hS => ?_)
      refine lv_goto (tgt := 231) hx hb dX12_statement_38 (by decide) ?_
      exact t_X12_statement_231 C0 hK N  τ24 _ _ _ h hP hD hS (lv_sub hl [1] rfl)
set_option maxHeartbeats 4000000 in
set_option maxRecDepth 100000 in
theorem c_X12_statement (N : Nat) (l : Launch) (dC : Nat → ClassId) (dI : Nat → Nat → Nat) (ad : Nat → Nat) (cI cJ cC : ClassId) (sz : Nat) (σ : zSt)  (Q : zSt → Prop) (h : w_X12_statement N  σ Q) : Met l yX12_statement vs_X12_statement rm_X12_statement (va_Pc [.ref (ad 0)] (zPc (dC, dI) (m_ty cI cJ cC) (m_W ad cI cJ cC) sz σ)) (zQv (dC, dI) (m_ty cI cJ cC) (m_W ad cI cJ cC) (zAW m_n ad sz) Q) 0 0 (zAW m_n ad sz) := by
  refine Met.ofW (cc := cX12_statement) (maxL := 4) (ret := none) (by decide) rfl ?_
  intro p e s m args below meth c s₁ B hml hv
  obtain ⟨rfl, hsz, hP, hK, hD0⟩ := hv
  subst hsz
  have C0 : zCx p s m meth c _ RX12 cX12_statement 4 none vs_X12_statement := ⟨B.exec, B.bytes, hml, B.returns, findClass_of_methodNamed B.named, atoms_spec (ws := vs_X12_statement) B.pre, B.notSynchronized⟩
  have hD := m_D0 (n0 := s.heap.size) hD0
  have hl := lv_entry ([.ref (ad 0)]) (n := 4) (Nat.le_of_ble_eq_true rfl)
  rw [lg_entry_eq]
  generalize (lg_sl ([.ref (ad 0)]) ++ List.replicate (4 - (lg_sl ([.ref (ad 0)])).length) Slot.unset).toArray = ls at hl ⊢
  exact t_X12_statement_0 C0 hK N  σ _ _ ls h hP hD va_S.rf hl
theorem k_X12_statement (N : Nat) {R : Room} {H : Heap} {locs : List Loc} {cells slots : Nat} {Q2 : State → Prop} {cc : ByteArray} {nL pc index : Nat} {ls : Array Slot} {rest : List Value} {own : String} {c0 : Cond} {σ : zSt}  {Q : zSt → Prop} (S0 : CallFix p m c cc nL s args (c0 :: zT) own) (hml : Cond.methodLink own index yX12_statement ∈ zT) (hR : rm_X12_statement.frames + 1 ≤ R.frames ∧ 8 + (4 + 11) + rm_X12_statement.locals ≤ R.locals) (h : w_X12_statement N  σ Q) (hK : va_K (dC, dI) vwCl (m_ty cI cJ cC) s) (hP : va_P (dC, dI) vwCl (m_W ad cI cJ cC σ) H) (hD : va_D (zAW m_n ad s.heap.size) (m_W ad cI cJ cC σ)) (hS : va_S (zAW m_n ad s.heap.size) s.heap H locs) (hsz : ls.size = nL) (hW : (rest.map fun v => v.category).sum ≤ 8) (hcs : cells ≤ R.cells ∧ slots ≤ R.slots) (hdg : decode cc pc = .ok (.invokevirtual index, 3)) (kk : ∀ (τ : zSt) (H1 : Heap) (locs1 : List Loc), Q τ → va_P (dC, dI) vwCl (m_W ad cI cJ cC τ) H1 → va_D (zAW m_n ad s.heap.size) (m_W ad cI cJ cC τ) → va_S (zAW m_n ad s.heap.size) s.heap H1 locs1 → W p l e R s m args below meth c H1 locs1 cells slots Q2 (F0 m (pc + 3) ls (rest))) : W p l e R s m args below meth c H locs cells slots Q2 (F0 m pc ls (.ref (ad 0) :: rest)) :=
  zcv_v (T := TX12) (N' := 83) (k := 0) (ci := 12) (fs := m_f0 ad σ) [] S0 (c_X12_statement N l dC dI ad cI cJ cC H.size σ  Q h) (cw_X12_statement S0.2.2.2.2 hml rfl rfl hR) rfl rfl hK hP hD hS rfl hsz hW rfl hcs hdg kk
end q18
section q18
def b_X12_land_93 (N : Nat) (Q : Int32 → zSt → Prop)  (σ : zSt) : Prop :=
  ∀ τ1 : zSt, τ1 = zI σ 6 (σ.1 4) → ∀ τ2 : zSt, τ2 = zI τ1 7 (τ1.1 5) → ((τ2.1 4) = 0 → w_X12_stands N τ2 (fun τ4 => ∀ τ5 : zSt, τ5 = zJ τ4 0 (0 : Int64) → ∀ τ6 : zSt, τ6 = zI τ5 14 (0 : Int32) → ∀ τ7 : zSt, τ7 = zI τ6 19 (0 : Int32) → ∀ τ8 : zSt, τ8 = zJ τ7 1 (-1 : Int64) → ∀ τ9 : zSt, τ9 = zI τ8 22 (-1 : Int32) → ∀ τ10 : zSt, τ10 = zI τ9 25 (0 : Int32) → ∀ τ11 : zSt, τ11 = zI τ10 27 (0 : Int32) → ∀ τ12 : zSt, τ12 = zI τ11 28 (0 : Int32) → ∀ τ13 : zSt, τ13 = zI τ12 29 (0 : Int32) → Q (τ13.1 12) τ13)) ∧ (¬ (τ2.1 4) = 0 → Q (-1 : Int32) τ2)
def b_X12_land_71 (N : Nat) (k_71 : zSt → Prop) (Q : Int32 → zSt → Prop)  (σ : zSt) : Prop :=
  ((σ.1 4) = 0 → w_X12_look N σ (fun r1 τ2 => (r1 = (-1 : Int32) → b_X12_land_93 N Q τ2) ∧ (¬ r1 = (-1 : Int32) → w_X12_statement N τ2 (fun τ4 => k_71 τ4)))) ∧ (¬ (σ.1 4) = 0 → b_X12_land_93 N Q σ)
def w_X12_land_71 (N : Nat) (Q : Int32 → zSt → Prop) : Nat → zSt → Prop
  | 0 => fun  _ => False
  | f + 1 => b_X12_land_71 N (w_X12_land_71 N  Q f) Q
def w_X12_land (N : Nat)  (σ : zSt) (Q : Int32 → zSt → Prop) : Prop :=
  ∀ τ1 : zSt, τ1 = zI σ 2 (σ.1 0) → ∀ τ2 : zSt, τ2 = zI τ1 0 (0 : Int32) → ∀ τ3 : zSt, τ3 = zI τ2 1 (0 : Int32) → ∀ τ4 : zSt, τ4 = zI τ3 3 (-1 : Int32) → ∀ τ5 : zSt, τ5 = zI τ4 4 (0 : Int32) → ∀ τ6 : zSt, τ6 = zI τ5 5 (-1 : Int32) → ∀ τ7 : zSt, τ7 = zA τ6 1 (upd (τ6.2.2.1 1) 0 (0 : Int32)) → ∀ τ8 : zSt, τ8 = zA τ7 4 (upd (τ7.2.2.1 4) 0 (0 : Int32)) → ∀ τ9 : zSt, τ9 = zA τ8 9 (upd (τ8.2.2.1 9) 0 (0 : Int32)) → ∀ τ10 : zSt, τ10 = zB τ9 1 (vp_updL (τ9.2.2.2 1) 0 (0 : Int64)) → ∀ τ11 : zSt, τ11 = zI τ10 9 (0 : Int32) → ∀ τ12 : zSt, τ12 = zI τ11 12 (0 : Int32) → w_X12_land_71 N Q N τ12
variable {p : Program} {l : Launch} {e : Env} {s : State} {m : MethodId} {args : Array Value} {below : List Frame} {meth : Method} {c : Code} {dC : Nat → ClassId} {dI : Nat → Nat → Nat} {ad : Nat → Nat} {cI cJ cC : ClassId}
set_option maxHeartbeats 4000000 in
set_option maxRecDepth 100000 in
theorem t_X12_land_93 (C0 : zCx p s m meth c args RX12 cX12_land 1 (some .int) vs_X12_land) (hK : va_K (dC, dI) vwCl (m_ty cI cJ cC) s) (N : Nat) {Q : Int32 → zSt → Prop} : ∀  (σ : zSt) (H : Heap) (locs : List Loc) (ls : Array Slot), b_X12_land_93 N  Q  σ → va_P (dC, dI) vwCl (m_W ad cI cJ cC σ) H → va_D (zAW m_n ad s.heap.size) (m_W ad cI cJ cC σ) → va_S (zAW m_n ad s.heap.size) s.heap H locs → lv_has ls 1 [(0, .ref (ad 0))] → W p l e rm_X12_land s m args below meth c H locs 0 0 (MQ below (zQi (dC, dI) (m_ty cI cJ cC) (m_W ad cI cJ cC) (zAW m_n ad s.heap.size) Q) args s 0 0 (zAW m_n ad s.heap.size)) (F0 m 93 ls []) := by
  obtain ⟨hx, hb, hml, hr, hown, hts, hlocks⟩ := id C0
  intro  σ H locs ls h hP hD hS hl
  unfold b_X12_land_93 at h
  refine lv_aload_n hx hb dX12_land_93 rfl (lv_at hl 0 rfl) ?_
  refine lv_aload_n hx hb dX12_land_94 rfl (lv_at hl 0 rfl) ?_
  refine mg_0_5 hx hb hts hown hK hP mw_838 dX12_land_95 ?_
  refine mp_0_7 hx hb hts hown hK hP hD hS mw_840 dX12_land_98 (fun τ1 H locs eτ1 hP hD hS => ?_)
  have h := h τ1 eτ1
  refine lv_aload_n hx hb dX12_land_101 rfl (lv_at hl 0 rfl) ?_
  refine lv_aload_n hx hb dX12_land_102 rfl (lv_at hl 0 rfl) ?_
  refine mg_0_6 hx hb hts hown hK hP mw_839 dX12_land_103 ?_
  refine mp_0_8 hx hb hts hown hK hP hD hS mw_841 dX12_land_106 (fun τ2 H locs eτ2 hP hD hS => ?_)
  have h := h τ2 eτ2
  refine lv_aload_n hx hb dX12_land_109 rfl (lv_at hl 0 rfl) ?_
  refine mg_0_5 hx hb hts hown hK hP mw_838 dX12_land_110 ?_
  refine lv_if_eq (tgt := 118) hx hb dX12_land_113 (by decide) (fun hc => ?_) (fun hc => ?_)
  · have h := h.1 hc
    refine lv_aload_n hx hb dX12_land_118 rfl (lv_at hl 0 rfl) ?_
    refine k_X12_stands N ⟨hx, hb, hml, hown, hts⟩ mw_1033 ⟨Nat.le_of_ble_eq_true rfl, Nat.le_of_ble_eq_true rfl⟩ h hK hP hD hS hl.1 (rest := []) (Nat.le_of_ble_eq_true rfl) ⟨Nat.le_of_ble_eq_true rfl, Nat.le_of_ble_eq_true rfl⟩ dX12_land_119 (fun τ4 H locs h hP hD hS => ?_)
    refine lv_aload_n hx hb dX12_land_122 rfl (lv_at hl 0 rfl) ?_
    refine lv_lconst (v := (0 : Int64)) hx hb dX12_land_123 (by decide) ?_
    refine mp_0_47 hx hb hts hown hK hP hD hS mw_880 dX12_land_124 (fun τ5 H locs eτ5 hP hD hS => ?_)
    have h := h τ5 eτ5
    refine lv_aload_n hx hb dX12_land_127 rfl (lv_at hl 0 rfl) ?_
    refine lv_iconst (v := (0 : Int32)) hx hb dX12_land_128 (by decide) ?_
    refine mp_0_48 hx hb hts hown hK hP hD hS mw_881 dX12_land_129 (fun τ6 H locs eτ6 hP hD hS => ?_)
    have h := h τ6 eτ6
    refine lv_aload_n hx hb dX12_land_132 rfl (lv_at hl 0 rfl) ?_
    refine lv_iconst (v := (0 : Int32)) hx hb dX12_land_133 (by decide) ?_
    refine mp_0_57 hx hb hts hown hK hP hD hS zb_0 mw_890 dX12_land_134 (fun τ7 H locs eτ7 hP hD hS => ?_)
    have h := h τ7 eτ7
    refine lv_aload_n hx hb dX12_land_137 rfl (lv_at hl 0 rfl) ?_
    refine lv_ldc2 (v := (-1 : Int64)) hx hb hown (hts _ (List.mem_cons_of_mem _ mw_832)) dX12_land_138 ?_
    refine mp_0_49 hx hb hts hown hK hP hD hS mw_882 dX12_land_141 (fun τ8 H locs eτ8 hP hD hS => ?_)
    have h := h τ8 eτ8
    refine lv_aload_n hx hb dX12_land_144 rfl (lv_at hl 0 rfl) ?_
    refine lv_iconst (v := (-1 : Int32)) hx hb dX12_land_145 (by decide) ?_
    refine mp_0_63 hx hb hts hown hK hP hD hS mw_896 dX12_land_146 (fun τ9 H locs eτ9 hP hD hS => ?_)
    have h := h τ9 eτ9
    refine lv_aload_n hx hb dX12_land_149 rfl (lv_at hl 0 rfl) ?_
    refine lv_iconst (v := (0 : Int32)) hx hb dX12_land_150 (by decide) ?_
    refine mp_0_70 hx hb hts hown hK hP hD hS zb_0 mw_903 dX12_land_151 (fun τ10 H locs eτ10 hP hD hS => ?_)
    have h := h τ10 eτ10
    refine lv_aload_n hx hb dX12_land_154 rfl (lv_at hl 0 rfl) ?_
    refine lv_iconst (v := (0 : Int32)) hx hb dX12_land_155 (by decide) ?_
    refine mp_0_73 hx hb hts hown hK hP hD hS mw_906 dX12_land_156 (fun τ11 H locs eτ11 hP hD hS => ?_)
    have h := h τ11 eτ11
    refine lv_aload_n hx hb dX12_land_159 rfl (lv_at hl 0 rfl) ?_
    refine lv_iconst (v := (0 : Int32)) hx hb dX12_land_160 (by decide) ?_
    refine mp_0_76 hx hb hts hown hK hP hD hS mw_909 dX12_land_161 (fun τ12 H locs eτ12 hP hD hS => ?_)
    have h := h τ12 eτ12
    refine lv_aload_n hx hb dX12_land_164 rfl (lv_at hl 0 rfl) ?_
    refine lv_iconst (v := (0 : Int32)) hx hb dX12_land_165 (by decide) ?_
    refine mp_0_79 hx hb hts hown hK hP hD hS zb_0 mw_912 dX12_land_166 (fun τ13 H locs eτ13 hP hD hS => ?_)
    have h := h τ13 eτ13
    refine lv_aload_n hx hb dX12_land_169 rfl (lv_at hl 0 rfl) ?_
    refine mg_0_45 hx hb hts hown hK hP mw_878 dX12_land_170 ?_
    exact zret_i hx hb hr hlocks hK hP hD hS h dX12_land_173
  · have h := h.2 hc
    refine lv_iconst (v := (-1 : Int32)) hx hb dX12_land_116 (by decide) ?_
    exact zret_i hx hb hr hlocks hK hP hD hS h dX12_land_117
set_option maxHeartbeats 4000000 in
set_option maxRecDepth 100000 in
theorem tb_X12_land_71 (C0 : zCx p s m meth c args RX12 cX12_land 1 (some .int) vs_X12_land) (hK : va_K (dC, dI) vwCl (m_ty cI cJ cC) s) (N : Nat) {Q : Int32 → zSt → Prop} {k_71 : zSt → Prop} (hk_71 : ∀  (σ : zSt) (H : Heap) (locs : List Loc) (ls : Array Slot), k_71  σ → va_P (dC, dI) vwCl (m_W ad cI cJ cC σ) H → va_D (zAW m_n ad s.heap.size) (m_W ad cI cJ cC σ) → va_S (zAW m_n ad s.heap.size) s.heap H locs → lv_has ls 1 [(0, .ref (ad 0))] → W p l e rm_X12_land s m args below meth c H locs 0 0 (MQ below (zQi (dC, dI) (m_ty cI cJ cC) (m_W ad cI cJ cC) (zAW m_n ad s.heap.size) Q) args s 0 0 (zAW m_n ad s.heap.size)) (F0 m 71 ls [])) : ∀  (σ : zSt) (H : Heap) (locs : List Loc) (ls : Array Slot), b_X12_land_71 N k_71 Q  σ → va_P (dC, dI) vwCl (m_W ad cI cJ cC σ) H → va_D (zAW m_n ad s.heap.size) (m_W ad cI cJ cC σ) → va_S (zAW m_n ad s.heap.size) s.heap H locs → lv_has ls 1 [(0, .ref (ad 0))] → W p l e rm_X12_land s m args below meth c H locs 0 0 (MQ below (zQi (dC, dI) (m_ty cI cJ cC) (m_W ad cI cJ cC) (zAW m_n ad s.heap.size) Q) args s 0 0 (zAW m_n ad s.heap.size)) (F0 m 71 ls []) := by
  obtain ⟨hx, hb, hml, hr, hown, hts, hlocks⟩ := id C0
  intro  σ H locs ls h hP hD hS hl
  unfold b_X12_land_71 at h
  refine lv_aload_n hx hb dX12_land_71 rfl (lv_at hl 0 rfl) ?_
  refine mg_0_5 hx hb hts hown hK hP mw_838 dX12_land_72 ?_
  refine lv_if_ne (tgt := 93) hx hb dX12_land_75 (by decide) (fun hc => ?_) (fun hc => ?_)
  · have h := h.2 hc
    exact t_X12_land_93 C0 hK N  σ _ _ _ h hP hD hS (lv_sub hl [0] rfl)
  · have h := h.1 hc
    refine lv_aload_n hx hb dX12_land_78 rfl (lv_at hl 0 rfl) ?_
    refine k_X12_look N ⟨hx, hb, hml, hown, hts⟩ mw_929 ⟨Nat.le_of_ble_eq_true rfl, Nat.le_of_ble_eq_true rfl⟩ h hK hP hD hS hl.1 (rest := []) (Nat.le_of_ble_eq_true rfl) ⟨Nat.le_of_ble_eq_true rfl, Nat.le_of_ble_eq_true rfl⟩ dX12_land_79 (fun r1 τ2 H locs h hP hD hS => ?_)
    refine lv_iconst (v := (-1 : Int32)) hx hb dX12_land_82 (by decide) ?_
    refine lv_icmp_eq (tgt := 93) hx hb dX12_land_83 (by decide) (fun hc => ?_) (fun hc => ?_)
    · have h := h.1 hc
      exact t_X12_land_93 C0 hK N  τ2 _ _ _ h hP hD hS (lv_sub hl [0] rfl)
    · have h := h.2 hc
      refine lv_aload_n hx hb dX12_land_86 rfl (lv_at hl 0 rfl) ?_
      refine k_X12_statement N ⟨hx, hb, hml, hown, hts⟩ mw_932 ⟨Nat.le_of_ble_eq_true rfl, Nat.le_of_ble_eq_true rfl⟩ h hK hP hD hS hl.1 (rest := []) (Nat.le_of_ble_eq_true rfl) ⟨Nat.le_of_ble_eq_true rfl, Nat.le_of_ble_eq_true rfl⟩ dX12_land_87 (fun τ4 H locs h hP hD hS => ?_)
      refine lv_goto (tgt := 71) hx hb dX12_land_90 (by decide) ?_
      exact hk_71 τ4 _ _ _ h hP hD hS (lv_sub hl [0] rfl)
set_option maxHeartbeats 4000000 in
set_option maxRecDepth 100000 in
theorem t_X12_land_71 (C0 : zCx p s m meth c args RX12 cX12_land 1 (some .int) vs_X12_land) (hK : va_K (dC, dI) vwCl (m_ty cI cJ cC) s) (N : Nat) {Q : Int32 → zSt → Prop} : ∀ (f : Nat)  (σ : zSt) (H : Heap) (locs : List Loc) (ls : Array Slot), w_X12_land_71 N  Q f  σ → va_P (dC, dI) vwCl (m_W ad cI cJ cC σ) H → va_D (zAW m_n ad s.heap.size) (m_W ad cI cJ cC σ) → va_S (zAW m_n ad s.heap.size) s.heap H locs → lv_has ls 1 [(0, .ref (ad 0))] → W p l e rm_X12_land s m args below meth c H locs 0 0 (MQ below (zQi (dC, dI) (m_ty cI cJ cC) (m_W ad cI cJ cC) (zAW m_n ad s.heap.size) Q) args s 0 0 (zAW m_n ad s.heap.size)) (F0 m 71 ls []) := by
  intro f
  induction f with
  | zero => intro  σ H locs ls h; exact h.elim
  | succ f ih =>
    intro  σ H locs ls h hP hD hS hl
    exact tb_X12_land_71 C0 hK N  (k_71 := w_X12_land_71 N  Q f) ih  σ H locs ls h hP hD hS hl
set_option maxHeartbeats 4000000 in
set_option maxRecDepth 100000 in
theorem t_X12_land_0 (C0 : zCx p s m meth c args RX12 cX12_land 1 (some .int) vs_X12_land) (hK : va_K (dC, dI) vwCl (m_ty cI cJ cC) s) (N : Nat) {Q : Int32 → zSt → Prop} : ∀  (σ : zSt) (H : Heap) (locs : List Loc) (ls : Array Slot), w_X12_land N  σ Q → va_P (dC, dI) vwCl (m_W ad cI cJ cC σ) H → va_D (zAW m_n ad s.heap.size) (m_W ad cI cJ cC σ) → va_S (zAW m_n ad s.heap.size) s.heap H locs → lv_has ls 1 [(0, .ref (ad 0))] → W p l e rm_X12_land s m args below meth c H locs 0 0 (MQ below (zQi (dC, dI) (m_ty cI cJ cC) (m_W ad cI cJ cC) (zAW m_n ad s.heap.size) Q) args s 0 0 (zAW m_n ad s.heap.size)) (F0 m 0 ls []) := by
  obtain ⟨hx, hb, hml, hr, hown, hts, hlocks⟩ := id C0
  intro  σ H locs ls h hP hD hS hl
  unfold w_X12_land at h
  refine lv_aload_n hx hb dX12_land_0 rfl (lv_at hl 0 rfl) ?_
  refine lv_aload_n hx hb dX12_land_1 rfl (lv_at hl 0 rfl) ?_
  refine mg_0_1 hx hb hts hown hK hP mw_834 dX12_land_2 ?_
  refine mp_0_3 hx hb hts hown hK hP hD hS mw_836 dX12_land_5 (fun τ1 H locs eτ1 hP hD hS => ?_)
  have h := h τ1 eτ1
  refine lv_aload_n hx hb dX12_land_8 rfl (lv_at hl 0 rfl) ?_
  refine lv_iconst (v := (0 : Int32)) hx hb dX12_land_9 (by decide) ?_
  refine mp_0_1 hx hb hts hown hK hP hD hS mw_834 dX12_land_10 (fun τ2 H locs eτ2 hP hD hS => ?_)
  have h := h τ2 eτ2
  refine lv_aload_n hx hb dX12_land_13 rfl (lv_at hl 0 rfl) ?_
  refine lv_iconst (v := (0 : Int32)) hx hb dX12_land_14 (by decide) ?_
  refine mp_0_2 hx hb hts hown hK hP hD hS mw_835 dX12_land_15 (fun τ3 H locs eτ3 hP hD hS => ?_)
  have h := h τ3 eτ3
  refine lv_aload_n hx hb dX12_land_18 rfl (lv_at hl 0 rfl) ?_
  refine lv_iconst (v := (-1 : Int32)) hx hb dX12_land_19 (by decide) ?_
  refine mp_0_4 hx hb hts hown hK hP hD hS mw_837 dX12_land_20 (fun τ4 H locs eτ4 hP hD hS => ?_)
  have h := h τ4 eτ4
  refine lv_aload_n hx hb dX12_land_23 rfl (lv_at hl 0 rfl) ?_
  refine lv_iconst (v := (0 : Int32)) hx hb dX12_land_24 (by decide) ?_
  refine mp_0_5 hx hb hts hown hK hP hD hS mw_838 dX12_land_25 (fun τ5 H locs eτ5 hP hD hS => ?_)
  have h := h τ5 eτ5
  refine lv_aload_n hx hb dX12_land_28 rfl (lv_at hl 0 rfl) ?_
  refine lv_iconst (v := (-1 : Int32)) hx hb dX12_land_29 (by decide) ?_
  refine mp_0_6 hx hb hts hown hK hP hD hS mw_839 dX12_land_30 (fun τ6 H locs eτ6 hP hD hS => ?_)
  have h := h τ6 eτ6
  refine lv_aload_n hx hb dX12_land_33 rfl (lv_at hl 0 rfl) ?_
  refine mg_0_29 hx hb hts hown hK hP mw_862 dX12_land_34 ?_
  refine lv_iconst (v := (0 : Int32)) hx hb dX12_land_37 (by decide) ?_
  refine lv_iconst (v := (0 : Int32)) hx hb dX12_land_38 (by decide) ?_
  refine ms_2 (j := 0) hx hb hK hP hD hS (zin (by decide)) (by decide) dX12_land_39 (fun τ7 H locs eτ7 hP hD hS => ?_)
  have h := h τ7 eτ7
  refine lv_aload_n hx hb dX12_land_40 rfl (lv_at hl 0 rfl) ?_
  refine mg_0_33 hx hb hts hown hK hP mw_866 dX12_land_41 ?_
  refine lv_iconst (v := (0 : Int32)) hx hb dX12_land_44 (by decide) ?_
  refine lv_iconst (v := (0 : Int32)) hx hb dX12_land_45 (by decide) ?_
  refine ms_6 (j := 0) hx hb hK hP hD hS (zin (by decide)) (by decide) dX12_land_46 (fun τ8 H locs eτ8 hP hD hS => ?_)
  have h := h τ8 eτ8
  refine lv_aload_n hx hb dX12_land_47 rfl (lv_at hl 0 rfl) ?_
  refine mg_0_38 hx hb hts hown hK hP mw_871 dX12_land_48 ?_
  refine lv_iconst (v := (0 : Int32)) hx hb dX12_land_51 (by decide) ?_
  refine lv_iconst (v := (0 : Int32)) hx hb dX12_land_52 (by decide) ?_
  refine ms_11 (j := 0) hx hb hK hP hD hS (zin (by decide)) (by decide) dX12_land_53 (fun τ9 H locs eτ9 hP hD hS => ?_)
  have h := h τ9 eτ9
  refine lv_aload_n hx hb dX12_land_54 rfl (lv_at hl 0 rfl) ?_
  refine mg_0_39 hx hb hts hown hK hP mw_872 dX12_land_55 ?_
  refine lv_iconst (v := (0 : Int32)) hx hb dX12_land_58 (by decide) ?_
  refine lv_lconst (v := (0 : Int64)) hx hb dX12_land_59 (by decide) ?_
  refine ms_12 (j := 0) hx hb hK hP hD hS (zin (by decide)) (by decide) dX12_land_60 (fun τ10 H locs eτ10 hP hD hS => ?_)
  have h := h τ10 eτ10
  refine lv_aload_n hx hb dX12_land_61 rfl (lv_at hl 0 rfl) ?_
  refine lv_iconst (v := (0 : Int32)) hx hb dX12_land_62 (by decide) ?_
  refine mp_0_41 hx hb hts hown hK hP hD hS mw_874 dX12_land_63 (fun τ11 H locs eτ11 hP hD hS => ?_)
  have h := h τ11 eτ11
  refine lv_aload_n hx hb dX12_land_66 rfl (lv_at hl 0 rfl) ?_
  refine lv_iconst (v := (0 : Int32)) hx hb dX12_land_67 (by decide) ?_
  refine mp_0_45 hx hb hts hown hK hP hD hS mw_878 dX12_land_68 (fun τ12 H locs eτ12 hP hD hS => ?_)
  have h := h τ12 eτ12
  exact t_X12_land_71 C0 hK N  N τ12 _ _ _ h hP hD hS (lv_sub hl [0] rfl)
set_option maxHeartbeats 4000000 in
set_option maxRecDepth 100000 in
theorem c_X12_land (N : Nat) (l : Launch) (dC : Nat → ClassId) (dI : Nat → Nat → Nat) (ad : Nat → Nat) (cI cJ cC : ClassId) (sz : Nat) (σ : zSt)  (Q : Int32 → zSt → Prop) (h : w_X12_land N  σ Q) : Met l yX12_land vs_X12_land rm_X12_land (va_Pc [.ref (ad 0)] (zPc (dC, dI) (m_ty cI cJ cC) (m_W ad cI cJ cC) sz σ)) (zQi (dC, dI) (m_ty cI cJ cC) (m_W ad cI cJ cC) (zAW m_n ad sz) Q) 0 0 (zAW m_n ad sz) := by
  refine Met.ofW (cc := cX12_land) (maxL := 1) (ret := (some .int)) (by decide) rfl ?_
  intro p e s m args below meth c s₁ B hml hv
  obtain ⟨rfl, hsz, hP, hK, hD0⟩ := hv
  subst hsz
  have C0 : zCx p s m meth c _ RX12 cX12_land 1 (some .int) vs_X12_land := ⟨B.exec, B.bytes, hml, B.returns, findClass_of_methodNamed B.named, atoms_spec (ws := vs_X12_land) B.pre, B.notSynchronized⟩
  have hD := m_D0 (n0 := s.heap.size) hD0
  have hl := lv_entry ([.ref (ad 0)]) (n := 1) (Nat.le_of_ble_eq_true rfl)
  rw [lg_entry_eq]
  generalize (lg_sl ([.ref (ad 0)]) ++ List.replicate (1 - (lg_sl ([.ref (ad 0)])).length) Slot.unset).toArray = ls at hl ⊢
  exact t_X12_land_0 C0 hK N  σ _ _ ls h hP hD va_S.rf hl
theorem k_X12_land (N : Nat) {R : Room} {H : Heap} {locs : List Loc} {cells slots : Nat} {Q2 : State → Prop} {cc : ByteArray} {nL pc index : Nat} {ls : Array Slot} {rest : List Value} {own : String} {c0 : Cond} {σ : zSt}  {Q : Int32 → zSt → Prop} (S0 : CallFix p m c cc nL s args (c0 :: zT) own) (hml : Cond.methodLink own index yX12_land ∈ zT) (hR : rm_X12_land.frames + 1 ≤ R.frames ∧ 8 + (1 + 11) + rm_X12_land.locals ≤ R.locals) (h : w_X12_land N  σ Q) (hK : va_K (dC, dI) vwCl (m_ty cI cJ cC) s) (hP : va_P (dC, dI) vwCl (m_W ad cI cJ cC σ) H) (hD : va_D (zAW m_n ad s.heap.size) (m_W ad cI cJ cC σ)) (hS : va_S (zAW m_n ad s.heap.size) s.heap H locs) (hsz : ls.size = nL) (hW : (rest.map fun v => v.category).sum ≤ 8) (hcs : cells ≤ R.cells ∧ slots ≤ R.slots) (hdg : decode cc pc = .ok (.invokevirtual index, 3)) (kk : ∀ (r : Int32) (τ : zSt) (H1 : Heap) (locs1 : List Loc), Q r τ → va_P (dC, dI) vwCl (m_W ad cI cJ cC τ) H1 → va_D (zAW m_n ad s.heap.size) (m_W ad cI cJ cC τ) → va_S (zAW m_n ad s.heap.size) s.heap H1 locs1 → W p l e R s m args below meth c H1 locs1 cells slots Q2 (F0 m (pc + 3) ls (.int r :: rest))) : W p l e R s m args below meth c H locs cells slots Q2 (F0 m pc ls (.ref (ad 0) :: rest)) :=
  zcv_i (T := TX12) (N' := 83) (k := 0) (ci := 12) (fs := m_f0 ad σ) [] S0 (c_X12_land N l dC dI ad cI cJ cC H.size σ  Q h) (cw_X12_land S0.2.2.2.2 hml rfl rfl hR) rfl rfl hK hP hD hS rfl hsz hW rfl hcs hdg kk
end q18
section q18
def w_X12_fault (N : Nat) (x1 : Int32) (σ : zSt) (Q : Int32 → zSt → Prop) : Prop :=
  (x1 = 0 → Q (σ.1 6) σ) ∧ (¬ x1 = 0 → (x1 = (1 : Int32) → Q (σ.1 7) σ) ∧ (¬ x1 = (1 : Int32) → Q (-1 : Int32) σ))
variable {p : Program} {l : Launch} {e : Env} {s : State} {m : MethodId} {args : Array Value} {below : List Frame} {meth : Method} {c : Code} {dC : Nat → ClassId} {dI : Nat → Nat → Nat} {ad : Nat → Nat} {cI cJ cC : ClassId}
set_option maxHeartbeats 4000000 in
set_option maxRecDepth 100000 in
theorem t_X12_fault_0 (C0 : zCx p s m meth c args RX12 cX12_fault 2 (some .int) vs_X12_fault) (hK : va_K (dC, dI) vwCl (m_ty cI cJ cC) s) (N : Nat) {Q : Int32 → zSt → Prop} : ∀ (x1 : Int32) (σ : zSt) (H : Heap) (locs : List Loc) (ls : Array Slot), w_X12_fault N x1 σ Q → va_P (dC, dI) vwCl (m_W ad cI cJ cC σ) H → va_D (zAW m_n ad s.heap.size) (m_W ad cI cJ cC σ) → va_S (zAW m_n ad s.heap.size) s.heap H locs → lv_has ls 2 [(0, .ref (ad 0)), (1, .int x1)] → W p l e rm_X12_fault s m args below meth c H locs 0 0 (MQ below (zQi (dC, dI) (m_ty cI cJ cC) (m_W ad cI cJ cC) (zAW m_n ad s.heap.size) Q) args s 0 0 (zAW m_n ad s.heap.size)) (F0 m 0 ls []) := by
  obtain ⟨hx, hb, hml, hr, hown, hts, hlocks⟩ := id C0
  intro x1 σ H locs ls h hP hD hS hl
  unfold w_X12_fault at h
  refine lv_iload_n hx hb dX12_fault_0 rfl (lv_at hl 1 rfl) ?_
  refine lv_if_ne (tgt := 11) hx hb dX12_fault_1 (by decide) (fun hc => ?_) (fun hc => ?_)
  · have h := h.2 hc
    refine lv_iload_n hx hb dX12_fault_11 rfl (lv_at hl 1 rfl) ?_
    refine lv_iconst (v := (1 : Int32)) hx hb dX12_fault_12 (by decide) ?_
    refine lv_icmp_ne (tgt := 23) hx hb dX12_fault_13 (by decide) (fun hc => ?_) (fun hc => ?_)
    · have h := h.2 hc
      refine lv_iconst (v := (-1 : Int32)) hx hb dX12_fault_23 (by decide) ?_
      exact zret_i hx hb hr hlocks hK hP hD hS h dX12_fault_24
    · have h := h.1 hc
      refine lv_aload_n hx hb dX12_fault_16 rfl (lv_at hl 0 rfl) ?_
      refine mg_0_8 hx hb hts hown hK hP mw_841 dX12_fault_17 ?_
      refine lv_goto (tgt := 24) hx hb dX12_fault_20 (by decide) ?_
      exact zret_i hx hb hr hlocks hK hP hD hS h dX12_fault_24
  · have h := h.1 hc
    refine lv_aload_n hx hb dX12_fault_4 rfl (lv_at hl 0 rfl) ?_
    refine mg_0_7 hx hb hts hown hK hP mw_840 dX12_fault_5 ?_
    refine lv_goto (tgt := 24) hx hb dX12_fault_8 (by decide) ?_
    exact zret_i hx hb hr hlocks hK hP hD hS h dX12_fault_24
set_option maxHeartbeats 4000000 in
set_option maxRecDepth 100000 in
theorem c_X12_fault (N : Nat) (l : Launch) (dC : Nat → ClassId) (dI : Nat → Nat → Nat) (ad : Nat → Nat) (cI cJ cC : ClassId) (sz : Nat) (σ : zSt) (x1 : Int32) (Q : Int32 → zSt → Prop) (h : w_X12_fault N x1 σ Q) : Met l yX12_fault vs_X12_fault rm_X12_fault (va_Pc [.ref (ad 0), .int x1] (zPc (dC, dI) (m_ty cI cJ cC) (m_W ad cI cJ cC) sz σ)) (zQi (dC, dI) (m_ty cI cJ cC) (m_W ad cI cJ cC) (zAW m_n ad sz) Q) 0 0 (zAW m_n ad sz) := by
  refine Met.ofW (cc := cX12_fault) (maxL := 2) (ret := (some .int)) (by decide) rfl ?_
  intro p e s m args below meth c s₁ B hml hv
  obtain ⟨rfl, hsz, hP, hK, hD0⟩ := hv
  subst hsz
  have C0 : zCx p s m meth c _ RX12 cX12_fault 2 (some .int) vs_X12_fault := ⟨B.exec, B.bytes, hml, B.returns, findClass_of_methodNamed B.named, atoms_spec (ws := vs_X12_fault) B.pre, B.notSynchronized⟩
  have hD := m_D0 (n0 := s.heap.size) hD0
  have hl := lv_entry ([.ref (ad 0), .int x1]) (n := 2) (Nat.le_of_ble_eq_true rfl)
  rw [lg_entry_eq]
  generalize (lg_sl ([.ref (ad 0), .int x1]) ++ List.replicate (2 - (lg_sl ([.ref (ad 0), .int x1])).length) Slot.unset).toArray = ls at hl ⊢
  exact t_X12_fault_0 C0 hK N x1 σ _ _ ls h hP hD va_S.rf hl
theorem k_X12_fault (N : Nat) {R : Room} {H : Heap} {locs : List Loc} {cells slots : Nat} {Q2 : State → Prop} {cc : ByteArray} {nL pc index : Nat} {ls : Array Slot} {rest : List Value} {own : String} {c0 : Cond} {σ : zSt} {x1 : Int32} {Q : Int32 → zSt → Prop} (S0 : CallFix p m c cc nL s args (c0 :: zT) own) (hml : Cond.methodLink own index yX12_fault ∈ zT) (hR : rm_X12_fault.frames + 1 ≤ R.frames ∧ 8 + (2 + 11) + rm_X12_fault.locals ≤ R.locals) (h : w_X12_fault N x1 σ Q) (hK : va_K (dC, dI) vwCl (m_ty cI cJ cC) s) (hP : va_P (dC, dI) vwCl (m_W ad cI cJ cC σ) H) (hD : va_D (zAW m_n ad s.heap.size) (m_W ad cI cJ cC σ)) (hS : va_S (zAW m_n ad s.heap.size) s.heap H locs) (hsz : ls.size = nL) (hW : (rest.map fun v => v.category).sum ≤ 8) (hcs : cells ≤ R.cells ∧ slots ≤ R.slots) (hdg : decode cc pc = .ok (.invokevirtual index, 3)) (kk : ∀ (r : Int32) (τ : zSt) (H1 : Heap) (locs1 : List Loc), Q r τ → va_P (dC, dI) vwCl (m_W ad cI cJ cC τ) H1 → va_D (zAW m_n ad s.heap.size) (m_W ad cI cJ cC τ) → va_S (zAW m_n ad s.heap.size) s.heap H1 locs1 → W p l e R s m args below meth c H1 locs1 cells slots Q2 (F0 m (pc + 3) ls (.int r :: rest))) : W p l e R s m args below meth c H locs cells slots Q2 (F0 m pc ls (.int x1 :: .ref (ad 0) :: rest)) :=
  zcv_i (T := TX12) (N' := 83) (k := 0) (ci := 12) (fs := m_f0 ad σ) [.int x1] S0 (c_X12_fault N l dC dI ad cI cJ cC H.size σ x1 Q h) (cw_X12_fault S0.2.2.2.2 hml rfl rfl hR) rfl rfl hK hP hD hS rfl hsz hW rfl hcs hdg kk
end q18
section q18
def w_X12_many (N : Nat)  (σ : zSt) (Q : Int32 → zSt → Prop) : Prop :=
  Q (σ.2.2.1 1 1) σ
variable {p : Program} {l : Launch} {e : Env} {s : State} {m : MethodId} {args : Array Value} {below : List Frame} {meth : Method} {c : Code} {dC : Nat → ClassId} {dI : Nat → Nat → Nat} {ad : Nat → Nat} {cI cJ cC : ClassId}
set_option maxHeartbeats 4000000 in
set_option maxRecDepth 100000 in
theorem t_X12_many_0 (C0 : zCx p s m meth c args RX12 cX12_many 1 (some .int) vs_X12_many) (hK : va_K (dC, dI) vwCl (m_ty cI cJ cC) s) (N : Nat) {Q : Int32 → zSt → Prop} : ∀  (σ : zSt) (H : Heap) (locs : List Loc) (ls : Array Slot), w_X12_many N  σ Q → va_P (dC, dI) vwCl (m_W ad cI cJ cC σ) H → va_D (zAW m_n ad s.heap.size) (m_W ad cI cJ cC σ) → va_S (zAW m_n ad s.heap.size) s.heap H locs → lv_has ls 1 [(0, .ref (ad 0))] → W p l e rm_X12_many s m args below meth c H locs 0 0 (MQ below (zQi (dC, dI) (m_ty cI cJ cC) (m_W ad cI cJ cC) (zAW m_n ad s.heap.size) Q) args s 0 0 (zAW m_n ad s.heap.size)) (F0 m 0 ls []) := by
  obtain ⟨hx, hb, hml, hr, hown, hts, hlocks⟩ := id C0
  intro  σ H locs ls h hP hD hS hl
  unfold w_X12_many at h
  refine lv_aload_n hx hb dX12_many_0 rfl (lv_at hl 0 rfl) ?_
  refine mg_0_29 hx hb hts hown hK hP mw_862 dX12_many_1 ?_
  refine lv_iconst (v := (1 : Int32)) hx hb dX12_many_4 (by decide) ?_
  refine ma_2 (j := 1) hx hb hK hP (zin (by decide)) (by decide) dX12_many_5 ?_
  exact zret_i hx hb hr hlocks hK hP hD hS h dX12_many_6
set_option maxHeartbeats 4000000 in
set_option maxRecDepth 100000 in
theorem c_X12_many (N : Nat) (l : Launch) (dC : Nat → ClassId) (dI : Nat → Nat → Nat) (ad : Nat → Nat) (cI cJ cC : ClassId) (sz : Nat) (σ : zSt)  (Q : Int32 → zSt → Prop) (h : w_X12_many N  σ Q) : Met l yX12_many vs_X12_many rm_X12_many (va_Pc [.ref (ad 0)] (zPc (dC, dI) (m_ty cI cJ cC) (m_W ad cI cJ cC) sz σ)) (zQi (dC, dI) (m_ty cI cJ cC) (m_W ad cI cJ cC) (zAW m_n ad sz) Q) 0 0 (zAW m_n ad sz) := by
  refine Met.ofW (cc := cX12_many) (maxL := 1) (ret := (some .int)) (by decide) rfl ?_
  intro p e s m args below meth c s₁ B hml hv
  obtain ⟨rfl, hsz, hP, hK, hD0⟩ := hv
  subst hsz
  have C0 : zCx p s m meth c _ RX12 cX12_many 1 (some .int) vs_X12_many := ⟨B.exec, B.bytes, hml, B.returns, findClass_of_methodNamed B.named, atoms_spec (ws := vs_X12_many) B.pre, B.notSynchronized⟩
  have hD := m_D0 (n0 := s.heap.size) hD0
  have hl := lv_entry ([.ref (ad 0)]) (n := 1) (Nat.le_of_ble_eq_true rfl)
  rw [lg_entry_eq]
  generalize (lg_sl ([.ref (ad 0)]) ++ List.replicate (1 - (lg_sl ([.ref (ad 0)])).length) Slot.unset).toArray = ls at hl ⊢
  exact t_X12_many_0 C0 hK N  σ _ _ ls h hP hD va_S.rf hl
theorem k_X12_many (N : Nat) {R : Room} {H : Heap} {locs : List Loc} {cells slots : Nat} {Q2 : State → Prop} {cc : ByteArray} {nL pc index : Nat} {ls : Array Slot} {rest : List Value} {own : String} {c0 : Cond} {σ : zSt}  {Q : Int32 → zSt → Prop} (S0 : CallFix p m c cc nL s args (c0 :: zT) own) (hml : Cond.methodLink own index yX12_many ∈ zT) (hR : rm_X12_many.frames + 1 ≤ R.frames ∧ 8 + (1 + 11) + rm_X12_many.locals ≤ R.locals) (h : w_X12_many N  σ Q) (hK : va_K (dC, dI) vwCl (m_ty cI cJ cC) s) (hP : va_P (dC, dI) vwCl (m_W ad cI cJ cC σ) H) (hD : va_D (zAW m_n ad s.heap.size) (m_W ad cI cJ cC σ)) (hS : va_S (zAW m_n ad s.heap.size) s.heap H locs) (hsz : ls.size = nL) (hW : (rest.map fun v => v.category).sum ≤ 8) (hcs : cells ≤ R.cells ∧ slots ≤ R.slots) (hdg : decode cc pc = .ok (.invokevirtual index, 3)) (kk : ∀ (r : Int32) (τ : zSt) (H1 : Heap) (locs1 : List Loc), Q r τ → va_P (dC, dI) vwCl (m_W ad cI cJ cC τ) H1 → va_D (zAW m_n ad s.heap.size) (m_W ad cI cJ cC τ) → va_S (zAW m_n ad s.heap.size) s.heap H1 locs1 → W p l e R s m args below meth c H1 locs1 cells slots Q2 (F0 m (pc + 3) ls (.int r :: rest))) : W p l e R s m args below meth c H locs cells slots Q2 (F0 m pc ls (.ref (ad 0) :: rest)) :=
  zcv_i (T := TX12) (N' := 83) (k := 0) (ci := 12) (fs := m_f0 ad σ) [] S0 (c_X12_many N l dC dI ad cI cJ cC H.size σ  Q h) (cw_X12_many S0.2.2.2.2 hml rfl rfl hR) rfl rfl hK hP hD hS rfl hsz hW rfl hcs hdg kk
end q18
section q18
def w_X12_pairs (N : Nat)  (σ : zSt) (Q : Int32 → zSt → Prop) : Prop :=
  w_X12_many N σ (fun r1 τ2 => w_X12_many N τ2 (fun r3 τ4 => Q ((r1 * (r3 - (1 : Int32))) / (2 : Int32)) τ4))
variable {p : Program} {l : Launch} {e : Env} {s : State} {m : MethodId} {args : Array Value} {below : List Frame} {meth : Method} {c : Code} {dC : Nat → ClassId} {dI : Nat → Nat → Nat} {ad : Nat → Nat} {cI cJ cC : ClassId}
set_option maxHeartbeats 4000000 in
set_option maxRecDepth 100000 in
theorem t_X12_pairs_0 (C0 : zCx p s m meth c args RX12 cX12_pairs 1 (some .int) vs_X12_pairs) (hK : va_K (dC, dI) vwCl (m_ty cI cJ cC) s) (N : Nat) {Q : Int32 → zSt → Prop} : ∀  (σ : zSt) (H : Heap) (locs : List Loc) (ls : Array Slot), w_X12_pairs N  σ Q → va_P (dC, dI) vwCl (m_W ad cI cJ cC σ) H → va_D (zAW m_n ad s.heap.size) (m_W ad cI cJ cC σ) → va_S (zAW m_n ad s.heap.size) s.heap H locs → lv_has ls 1 [(0, .ref (ad 0))] → W p l e rm_X12_pairs s m args below meth c H locs 0 0 (MQ below (zQi (dC, dI) (m_ty cI cJ cC) (m_W ad cI cJ cC) (zAW m_n ad s.heap.size) Q) args s 0 0 (zAW m_n ad s.heap.size)) (F0 m 0 ls []) := by
  obtain ⟨hx, hb, hml, hr, hown, hts, hlocks⟩ := id C0
  intro  σ H locs ls h hP hD hS hl
  unfold w_X12_pairs at h
  refine lv_aload_n hx hb dX12_pairs_0 rfl (lv_at hl 0 rfl) ?_
  refine k_X12_many N ⟨hx, hb, hml, hown, hts⟩ mw_1044 ⟨Nat.le_of_ble_eq_true rfl, Nat.le_of_ble_eq_true rfl⟩ h hK hP hD hS hl.1 (rest := []) (Nat.le_of_ble_eq_true rfl) ⟨Nat.le_of_ble_eq_true rfl, Nat.le_of_ble_eq_true rfl⟩ dX12_pairs_1 (fun r1 τ2 H locs h hP hD hS => ?_)
  refine lv_aload_n hx hb dX12_pairs_4 rfl (lv_at hl 0 rfl) ?_
  refine k_X12_many N ⟨hx, hb, hml, hown, hts⟩ mw_1044 ⟨Nat.le_of_ble_eq_true rfl, Nat.le_of_ble_eq_true rfl⟩ h hK hP hD hS hl.1 (rest := [.int r1]) (Nat.le_of_ble_eq_true rfl) ⟨Nat.le_of_ble_eq_true rfl, Nat.le_of_ble_eq_true rfl⟩ dX12_pairs_5 (fun r3 τ4 H locs h hP hD hS => ?_)
  refine lv_iconst (v := (1 : Int32)) hx hb dX12_pairs_8 (by decide) ?_
  refine lv_isub hx hb dX12_pairs_9 ?_
  refine lv_imul hx hb dX12_pairs_10 ?_
  refine lv_iconst (v := (2 : Int32)) hx hb dX12_pairs_11 (by decide) ?_
  refine lv_idiv hx hb dX12_pairs_12 (by decide) ?_
  exact zret_i hx hb hr hlocks hK hP hD hS h dX12_pairs_13
set_option maxHeartbeats 4000000 in
set_option maxRecDepth 100000 in
theorem c_X12_pairs (N : Nat) (l : Launch) (dC : Nat → ClassId) (dI : Nat → Nat → Nat) (ad : Nat → Nat) (cI cJ cC : ClassId) (sz : Nat) (σ : zSt)  (Q : Int32 → zSt → Prop) (h : w_X12_pairs N  σ Q) : Met l yX12_pairs vs_X12_pairs rm_X12_pairs (va_Pc [.ref (ad 0)] (zPc (dC, dI) (m_ty cI cJ cC) (m_W ad cI cJ cC) sz σ)) (zQi (dC, dI) (m_ty cI cJ cC) (m_W ad cI cJ cC) (zAW m_n ad sz) Q) 0 0 (zAW m_n ad sz) := by
  refine Met.ofW (cc := cX12_pairs) (maxL := 1) (ret := (some .int)) (by decide) rfl ?_
  intro p e s m args below meth c s₁ B hml hv
  obtain ⟨rfl, hsz, hP, hK, hD0⟩ := hv
  subst hsz
  have C0 : zCx p s m meth c _ RX12 cX12_pairs 1 (some .int) vs_X12_pairs := ⟨B.exec, B.bytes, hml, B.returns, findClass_of_methodNamed B.named, atoms_spec (ws := vs_X12_pairs) B.pre, B.notSynchronized⟩
  have hD := m_D0 (n0 := s.heap.size) hD0
  have hl := lv_entry ([.ref (ad 0)]) (n := 1) (Nat.le_of_ble_eq_true rfl)
  rw [lg_entry_eq]
  generalize (lg_sl ([.ref (ad 0)]) ++ List.replicate (1 - (lg_sl ([.ref (ad 0)])).length) Slot.unset).toArray = ls at hl ⊢
  exact t_X12_pairs_0 C0 hK N  σ _ _ ls h hP hD va_S.rf hl
theorem k_X12_pairs (N : Nat) {R : Room} {H : Heap} {locs : List Loc} {cells slots : Nat} {Q2 : State → Prop} {cc : ByteArray} {nL pc index : Nat} {ls : Array Slot} {rest : List Value} {own : String} {c0 : Cond} {σ : zSt}  {Q : Int32 → zSt → Prop} (S0 : CallFix p m c cc nL s args (c0 :: zT) own) (hml : Cond.methodLink own index yX12_pairs ∈ zT) (hR : rm_X12_pairs.frames + 1 ≤ R.frames ∧ 8 + (1 + 11) + rm_X12_pairs.locals ≤ R.locals) (h : w_X12_pairs N  σ Q) (hK : va_K (dC, dI) vwCl (m_ty cI cJ cC) s) (hP : va_P (dC, dI) vwCl (m_W ad cI cJ cC σ) H) (hD : va_D (zAW m_n ad s.heap.size) (m_W ad cI cJ cC σ)) (hS : va_S (zAW m_n ad s.heap.size) s.heap H locs) (hsz : ls.size = nL) (hW : (rest.map fun v => v.category).sum ≤ 8) (hcs : cells ≤ R.cells ∧ slots ≤ R.slots) (hdg : decode cc pc = .ok (.invokevirtual index, 3)) (kk : ∀ (r : Int32) (τ : zSt) (H1 : Heap) (locs1 : List Loc), Q r τ → va_P (dC, dI) vwCl (m_W ad cI cJ cC τ) H1 → va_D (zAW m_n ad s.heap.size) (m_W ad cI cJ cC τ) → va_S (zAW m_n ad s.heap.size) s.heap H1 locs1 → W p l e R s m args below meth c H1 locs1 cells slots Q2 (F0 m (pc + 3) ls (.int r :: rest))) : W p l e R s m args below meth c H locs cells slots Q2 (F0 m pc ls (.ref (ad 0) :: rest)) :=
  zcv_i (T := TX12) (N' := 83) (k := 0) (ci := 12) (fs := m_f0 ad σ) [] S0 (c_X12_pairs N l dC dI ad cI cJ cC H.size σ  Q h) (cw_X12_pairs S0.2.2.2.2 hml rfl rfl hR) rfl rfl hK hP hD hS rfl hsz hW rfl hcs hdg kk
end q18
section q18
def b_X12_bits_4 (N : Nat) (k_4 : Int64 → Int32 → Int32 → zSt → Prop) (Q : Int32 → zSt → Prop) (x0 : Int64) (x2 : Int32) (x3 : Int32) (σ : zSt) : Prop :=
  ((45 : Int32) ≤ x3 → Q x2 σ) ∧ (¬ (45 : Int32) ≤ x3 → ∀ v1 : Int32, v1 = x2 + ((x0 >>> (x3.toInt64 &&& 63)) &&& (1 : Int64)).toInt32 → ∀ v2 : Int32, v2 = x3 + (1 : Int32) → k_4 x0 v1 v2 σ)
def w_X12_bits_4 (N : Nat) (Q : Int32 → zSt → Prop) : Nat → Int64 → Int32 → Int32 → zSt → Prop
  | 0 => fun _ _ _ _ => False
  | f + 1 => b_X12_bits_4 N (w_X12_bits_4 N  Q f) Q
def w_X12_bits (N : Nat) (x0 : Int64) (σ : zSt) (Q : Int32 → zSt → Prop) : Prop :=
  w_X12_bits_4 N Q N x0 (0 : Int32) (0 : Int32) σ
variable {p : Program} {l : Launch} {e : Env} {s : State} {m : MethodId} {args : Array Value} {below : List Frame} {meth : Method} {c : Code} {dC : Nat → ClassId} {dI : Nat → Nat → Nat} {ad : Nat → Nat} {cI cJ cC : ClassId}
set_option maxHeartbeats 4000000 in
set_option maxRecDepth 100000 in
theorem tb_X12_bits_4 (C0 : zCx p s m meth c args RX12 cX12_bits 4 (some .int) vs_X12_bits) (hK : va_K (dC, dI) vwCl (m_ty cI cJ cC) s) (N : Nat) {Q : Int32 → zSt → Prop} {k_4 : Int64 → Int32 → Int32 → zSt → Prop} (hk_4 : ∀ (x0 : Int64) (x2 : Int32) (x3 : Int32) (σ : zSt) (H : Heap) (locs : List Loc) (ls : Array Slot), k_4 x0 x2 x3 σ → va_P (dC, dI) vwCl (m_W ad cI cJ cC σ) H → va_D (zAW m_n ad s.heap.size) (m_W ad cI cJ cC σ) → va_S (zAW m_n ad s.heap.size) s.heap H locs → lv_has ls 4 [(0, .long x0), (2, .int x2), (3, .int x3)] → W p l e rm_X12_bits s m args below meth c H locs 0 0 (MQ below (zQi (dC, dI) (m_ty cI cJ cC) (m_W ad cI cJ cC) (zAW m_n ad s.heap.size) Q) args s 0 0 (zAW m_n ad s.heap.size)) (F0 m 4 ls [])) : ∀ (x0 : Int64) (x2 : Int32) (x3 : Int32) (σ : zSt) (H : Heap) (locs : List Loc) (ls : Array Slot), b_X12_bits_4 N k_4 Q x0 x2 x3 σ → va_P (dC, dI) vwCl (m_W ad cI cJ cC σ) H → va_D (zAW m_n ad s.heap.size) (m_W ad cI cJ cC σ) → va_S (zAW m_n ad s.heap.size) s.heap H locs → lv_has ls 4 [(0, .long x0), (2, .int x2), (3, .int x3)] → W p l e rm_X12_bits s m args below meth c H locs 0 0 (MQ below (zQi (dC, dI) (m_ty cI cJ cC) (m_W ad cI cJ cC) (zAW m_n ad s.heap.size) Q) args s 0 0 (zAW m_n ad s.heap.size)) (F0 m 4 ls []) := by
  obtain ⟨hx, hb, hml, hr, hown, hts, hlocks⟩ := id C0
  intro x0 x2 x3 σ H locs ls h hP hD hS hl
  unfold b_X12_bits_4 at h
  refine lv_iload_n hx hb dX12_bits_4 rfl (lv_at hl 2 rfl) ?_
  refine lv_bipush (v := (45 : Int32)) hx hb dX12_bits_5 (by decide) ?_
  refine lv_icmp_ge (tgt := 25) hx hb dX12_bits_7 (by decide) (fun hc => ?_) (fun hc => ?_)
  · have h := h.1 hc
    refine lv_iload_n hx hb dX12_bits_25 rfl (lv_at hl 1 rfl) ?_
    exact zret_i hx hb hr hlocks hK hP hD hS h dX12_bits_26
  · have h := h.2 hc
    refine lv_iload_n hx hb dX12_bits_10 rfl (lv_at hl 1 rfl) ?_
    refine lv_lload_n hx hb dX12_bits_11 rfl (lv_at hl 0 rfl) ?_
    refine lv_iload_n hx hb dX12_bits_12 rfl (lv_at hl 2 rfl) ?_
    refine lv_lshr hx hb dX12_bits_13 rfl ?_
    refine lv_lconst (v := (1 : Int64)) hx hb dX12_bits_14 (by decide) ?_
    refine lv_land hx hb dX12_bits_15 ?_
    refine lv_l2i hx hb dX12_bits_16 rfl ?_
    refine lv_iadd hx hb dX12_bits_17 ?_
    refine lv_topi (fun v1 ev1 => ?_)
    have h := h v1 ev1
    refine lv_istore_n (lv' := [(2, .int v1), (0, .long x0), (3, .int x3)]) hx hb dX12_bits_18 rfl hl (by decide) rfl (fun ls hl => ?_)
    obtain ⟨v2, ev2⟩ : ∃ z : Int32, z = x3 + (1 : Int32) := ⟨_, rfl⟩
    have h := h v2 ev2
    refine lv_iinc (v := v2) (lv' := [(3, .int v2), (2, .int v1), (0, .long x0)]) hx hb dX12_bits_19 hl (k := 2) rfl (by rw [ev2]; rfl) (by decide) rfl (fun ls hl => ?_)
    refine lv_goto (tgt := 4) hx hb dX12_bits_22 (by decide) ?_
    exact hk_4 x0 v1 v2 σ _ _ _ h hP hD hS (lv_sub hl [2, 1, 0] rfl)
set_option maxHeartbeats 4000000 in
set_option maxRecDepth 100000 in
theorem t_X12_bits_4 (C0 : zCx p s m meth c args RX12 cX12_bits 4 (some .int) vs_X12_bits) (hK : va_K (dC, dI) vwCl (m_ty cI cJ cC) s) (N : Nat) {Q : Int32 → zSt → Prop} : ∀ (f : Nat) (x0 : Int64) (x2 : Int32) (x3 : Int32) (σ : zSt) (H : Heap) (locs : List Loc) (ls : Array Slot), w_X12_bits_4 N  Q f x0 x2 x3 σ → va_P (dC, dI) vwCl (m_W ad cI cJ cC σ) H → va_D (zAW m_n ad s.heap.size) (m_W ad cI cJ cC σ) → va_S (zAW m_n ad s.heap.size) s.heap H locs → lv_has ls 4 [(0, .long x0), (2, .int x2), (3, .int x3)] → W p l e rm_X12_bits s m args below meth c H locs 0 0 (MQ below (zQi (dC, dI) (m_ty cI cJ cC) (m_W ad cI cJ cC) (zAW m_n ad s.heap.size) Q) args s 0 0 (zAW m_n ad s.heap.size)) (F0 m 4 ls []) := by
  intro f
  induction f with
  | zero => intro x0 x2 x3 σ H locs ls h; exact h.elim
  | succ f ih =>
    intro x0 x2 x3 σ H locs ls h hP hD hS hl
    exact tb_X12_bits_4 C0 hK N  (k_4 := w_X12_bits_4 N  Q f) ih x0 x2 x3 σ H locs ls h hP hD hS hl
set_option maxHeartbeats 4000000 in
set_option maxRecDepth 100000 in
theorem t_X12_bits_0 (C0 : zCx p s m meth c args RX12 cX12_bits 4 (some .int) vs_X12_bits) (hK : va_K (dC, dI) vwCl (m_ty cI cJ cC) s) (N : Nat) {Q : Int32 → zSt → Prop} : ∀ (x0 : Int64) (σ : zSt) (H : Heap) (locs : List Loc) (ls : Array Slot), w_X12_bits N x0 σ Q → va_P (dC, dI) vwCl (m_W ad cI cJ cC σ) H → va_D (zAW m_n ad s.heap.size) (m_W ad cI cJ cC σ) → va_S (zAW m_n ad s.heap.size) s.heap H locs → lv_has ls 4 [(0, .long x0)] → W p l e rm_X12_bits s m args below meth c H locs 0 0 (MQ below (zQi (dC, dI) (m_ty cI cJ cC) (m_W ad cI cJ cC) (zAW m_n ad s.heap.size) Q) args s 0 0 (zAW m_n ad s.heap.size)) (F0 m 0 ls []) := by
  obtain ⟨hx, hb, hml, hr, hown, hts, hlocks⟩ := id C0
  intro x0 σ H locs ls h hP hD hS hl
  unfold w_X12_bits at h
  refine lv_iconst (v := (0 : Int32)) hx hb dX12_bits_0 (by decide) ?_
  refine lv_istore_n (lv' := [(2, .int (0 : Int32)), (0, .long x0)]) hx hb dX12_bits_1 rfl hl (by decide) rfl (fun ls hl => ?_)
  refine lv_iconst (v := (0 : Int32)) hx hb dX12_bits_2 (by decide) ?_
  refine lv_istore_n (lv' := [(3, .int (0 : Int32)), (2, .int (0 : Int32)), (0, .long x0)]) hx hb dX12_bits_3 rfl hl (by decide) rfl (fun ls hl => ?_)
  exact t_X12_bits_4 C0 hK N  N x0 (0 : Int32) (0 : Int32) σ _ _ _ h hP hD hS (lv_sub hl [2, 1, 0] rfl)
set_option maxHeartbeats 4000000 in
set_option maxRecDepth 100000 in
theorem c_X12_bits (N : Nat) (l : Launch) (dC : Nat → ClassId) (dI : Nat → Nat → Nat) (ad : Nat → Nat) (cI cJ cC : ClassId) (sz : Nat) (σ : zSt) (x0 : Int64) (Q : Int32 → zSt → Prop) (h : w_X12_bits N x0 σ Q) : Met l yX12_bits vs_X12_bits rm_X12_bits (va_Pc [.long x0] (zPc (dC, dI) (m_ty cI cJ cC) (m_W ad cI cJ cC) sz σ)) (zQi (dC, dI) (m_ty cI cJ cC) (m_W ad cI cJ cC) (zAW m_n ad sz) Q) 0 0 (zAW m_n ad sz) := by
  refine Met.ofW (cc := cX12_bits) (maxL := 4) (ret := (some .int)) (by decide) rfl ?_
  intro p e s m args below meth c s₁ B hml hv
  obtain ⟨rfl, hsz, hP, hK, hD0⟩ := hv
  subst hsz
  have C0 : zCx p s m meth c _ RX12 cX12_bits 4 (some .int) vs_X12_bits := ⟨B.exec, B.bytes, hml, B.returns, findClass_of_methodNamed B.named, atoms_spec (ws := vs_X12_bits) B.pre, B.notSynchronized⟩
  have hD := m_D0 (n0 := s.heap.size) hD0
  have hl := lv_entry ([.long x0]) (n := 4) (Nat.le_of_ble_eq_true rfl)
  rw [lg_entry_eq]
  generalize (lg_sl ([.long x0]) ++ List.replicate (4 - (lg_sl ([.long x0])).length) Slot.unset).toArray = ls at hl ⊢
  exact t_X12_bits_0 C0 hK N x0 σ _ _ ls h hP hD va_S.rf hl
theorem k_X12_bits (N : Nat) {R : Room} {H : Heap} {locs : List Loc} {cells slots : Nat} {Q2 : State → Prop} {cc : ByteArray} {nL pc index : Nat} {ls : Array Slot} {rest : List Value} {own : String} {c0 : Cond} {σ : zSt} {x0 : Int64} {Q : Int32 → zSt → Prop} (S0 : CallFix p m c cc nL s args (c0 :: zT) own) (hml : Cond.methodLink own index yX12_bits ∈ zT) (hR : rm_X12_bits.frames + 1 ≤ R.frames ∧ 8 + (4 + 11) + rm_X12_bits.locals ≤ R.locals) (h : w_X12_bits N x0 σ Q) (hK : va_K (dC, dI) vwCl (m_ty cI cJ cC) s) (hP : va_P (dC, dI) vwCl (m_W ad cI cJ cC σ) H) (hD : va_D (zAW m_n ad s.heap.size) (m_W ad cI cJ cC σ)) (hS : va_S (zAW m_n ad s.heap.size) s.heap H locs) (hsz : ls.size = nL) (hW : (rest.map fun v => v.category).sum ≤ 8) (hcs : cells ≤ R.cells ∧ slots ≤ R.slots) (hdg : decode cc pc = .ok (.invokestatic index, 3)) (kk : ∀ (r : Int32) (τ : zSt) (H1 : Heap) (locs1 : List Loc), Q r τ → va_P (dC, dI) vwCl (m_W ad cI cJ cC τ) H1 → va_D (zAW m_n ad s.heap.size) (m_W ad cI cJ cC τ) → va_S (zAW m_n ad s.heap.size) s.heap H1 locs1 → W p l e R s m args below meth c H1 locs1 cells slots Q2 (F0 m (pc + 3) ls (.int r :: rest))) : W p l e R s m args below meth c H locs cells slots Q2 (F0 m pc ls (.long x0 :: rest)) :=
  zcs_i [.long x0] S0 (c_X12_bits N l dC dI ad cI cJ cC H.size σ x0 Q h) (cw_X12_bits S0.2.2.2.2 hml hR) hK hP hD hS rfl hsz hW rfl hcs hdg kk
end q18
section q18
def b_X12_has_52 (N : Nat) (k_52 : Int32 → Int32 → Int32 → zSt → Prop) (Q : Int32 → zSt → Prop) (x1 : Int32) (x2 : Int32) (x3 : Int32) (σ : zSt) : Prop :=
  ((σ.2.2.1 4 1) ≤ x3 → Q x2 σ) ∧ (¬ (σ.2.2.1 4 1) ≤ x3 → (vp_in ((20 : Int32) + x3) 40) ∧ (((σ.2.2.1 5 ((20 : Int32) + x3).toNatClampNeg) = (x1 - (2 : Int32)) → ∀ v2 : Int32, v2 = x2 + (1 : Int32) → ∀ v3 : Int32, v3 = x3 + (1 : Int32) → k_52 x1 v2 v3 σ) ∧ (¬ (σ.2.2.1 5 ((20 : Int32) + x3).toNatClampNeg) = (x1 - (2 : Int32)) → ∀ v1 : Int32, v1 = x3 + (1 : Int32) → k_52 x1 x2 v1 σ)))
def w_X12_has_52 (N : Nat) (Q : Int32 → zSt → Prop) : Nat → Int32 → Int32 → Int32 → zSt → Prop
  | 0 => fun _ _ _ _ => False
  | f + 1 => b_X12_has_52 N (w_X12_has_52 N  Q f) Q
def w_X12_has (N : Nat) (x1 : Int32) (σ : zSt) (Q : Int32 → zSt → Prop) : Prop :=
  (x1 = (0 : Int32) → w_X12_many N σ (fun r1 τ2 => Q r1 τ2)) ∧ (¬ x1 = (0 : Int32) → (x1 = (1 : Int32) → w_X12_pairs N σ (fun r3 τ4 => Q r3 τ4)) ∧ (¬ x1 = (1 : Int32) → (x1 = (2 : Int32) → w_X12_has_52 N Q N x1 (0 : Int32) (0 : Int32) σ) ∧ (¬ x1 = (2 : Int32) → (x1 = (3 : Int32) → w_X12_has_52 N Q N x1 (0 : Int32) (0 : Int32) σ) ∧ (¬ x1 = (3 : Int32) → (x1 = (4 : Int32) → Q (σ.1 14) σ) ∧ (¬ x1 = (4 : Int32) → (x1 = (5 : Int32) → w_X12_bits N (σ.2.1 0) σ (fun r5 τ6 => Q r5 τ6)) ∧ (¬ x1 = (5 : Int32) → Q (-1 : Int32) σ))))))
variable {p : Program} {l : Launch} {e : Env} {s : State} {m : MethodId} {args : Array Value} {below : List Frame} {meth : Method} {c : Code} {dC : Nat → ClassId} {dI : Nat → Nat → Nat} {ad : Nat → Nat} {cI cJ cC : ClassId}
set_option maxHeartbeats 4000000 in
set_option maxRecDepth 100000 in
theorem tb_X12_has_52 (C0 : zCx p s m meth c args RX12 cX12_has 4 (some .int) vs_X12_has) (hK : va_K (dC, dI) vwCl (m_ty cI cJ cC) s) (N : Nat) {Q : Int32 → zSt → Prop} {k_52 : Int32 → Int32 → Int32 → zSt → Prop} (hk_52 : ∀ (x1 : Int32) (x2 : Int32) (x3 : Int32) (σ : zSt) (H : Heap) (locs : List Loc) (ls : Array Slot), k_52 x1 x2 x3 σ → va_P (dC, dI) vwCl (m_W ad cI cJ cC σ) H → va_D (zAW m_n ad s.heap.size) (m_W ad cI cJ cC σ) → va_S (zAW m_n ad s.heap.size) s.heap H locs → lv_has ls 4 [(0, .ref (ad 0)), (1, .int x1), (2, .int x2), (3, .int x3)] → W p l e rm_X12_has s m args below meth c H locs 0 0 (MQ below (zQi (dC, dI) (m_ty cI cJ cC) (m_W ad cI cJ cC) (zAW m_n ad s.heap.size) Q) args s 0 0 (zAW m_n ad s.heap.size)) (F0 m 52 ls [])) : ∀ (x1 : Int32) (x2 : Int32) (x3 : Int32) (σ : zSt) (H : Heap) (locs : List Loc) (ls : Array Slot), b_X12_has_52 N k_52 Q x1 x2 x3 σ → va_P (dC, dI) vwCl (m_W ad cI cJ cC σ) H → va_D (zAW m_n ad s.heap.size) (m_W ad cI cJ cC σ) → va_S (zAW m_n ad s.heap.size) s.heap H locs → lv_has ls 4 [(0, .ref (ad 0)), (1, .int x1), (2, .int x2), (3, .int x3)] → W p l e rm_X12_has s m args below meth c H locs 0 0 (MQ below (zQi (dC, dI) (m_ty cI cJ cC) (m_W ad cI cJ cC) (zAW m_n ad s.heap.size) Q) args s 0 0 (zAW m_n ad s.heap.size)) (F0 m 52 ls []) := by
  obtain ⟨hx, hb, hml, hr, hown, hts, hlocks⟩ := id C0
  intro x1 x2 x3 σ H locs ls h hP hD hS hl
  unfold b_X12_has_52 at h
  refine lv_iload_n hx hb dX12_has_52 rfl (lv_at hl 3 rfl) ?_
  refine lv_aload_n hx hb dX12_has_53 rfl (lv_at hl 0 rfl) ?_
  refine mg_0_33 hx hb hts hown hK hP mw_866 dX12_has_54 ?_
  refine lv_iconst (v := (1 : Int32)) hx hb dX12_has_57 (by decide) ?_
  refine ma_6 (j := 1) hx hb hK hP (zin (by decide)) (by decide) dX12_has_58 ?_
  refine lv_icmp_ge (tgt := 86) hx hb dX12_has_59 (by decide) (fun hc => ?_) (fun hc => ?_)
  · have h := h.1 hc
    refine lv_iload_n hx hb dX12_has_86 rfl (lv_at hl 2 rfl) ?_
    exact zret_i hx hb hr hlocks hK hP hD hS h dX12_has_87
  · have h := h.2 hc
    refine lv_aload_n hx hb dX12_has_62 rfl (lv_at hl 0 rfl) ?_
    refine mg_0_34 hx hb hts hown hK hP mw_867 dX12_has_63 ?_
    refine lv_bipush (v := (20 : Int32)) hx hb dX12_has_66 (by decide) ?_
    refine lv_iload_n hx hb dX12_has_68 rfl (lv_at hl 3 rfl) ?_
    refine lv_iadd hx hb dX12_has_69 ?_
    refine ma_7 hx hb hK hP h.1 rfl dX12_has_70 ?_
    have h := h.2
    refine lv_iload_n hx hb dX12_has_71 rfl (lv_at hl 1 rfl) ?_
    refine lv_iconst (v := (2 : Int32)) hx hb dX12_has_72 (by decide) ?_
    refine lv_isub hx hb dX12_has_73 ?_
    refine lv_icmp_ne (tgt := 80) hx hb dX12_has_74 (by decide) (fun hc => ?_) (fun hc => ?_)
    · have h := h.2 hc
      obtain ⟨v1, ev1⟩ : ∃ z : Int32, z = x3 + (1 : Int32) := ⟨_, rfl⟩
      have h := h v1 ev1
      refine lv_iinc (v := v1) (lv' := [(3, .int v1), (0, .ref (ad 0)), (1, .int x1), (2, .int x2)]) hx hb dX12_has_80 hl (k := 3) rfl (by rw [ev1]; rfl) (by decide) rfl (fun ls hl => ?_)
      refine lv_goto (tgt := 52) hx hb dX12_has_83 (by decide) ?_
      exact hk_52 x1 x2 v1 σ _ _ _ h hP hD hS (lv_sub hl [1, 2, 3, 0] rfl)
    · have h := h.1 hc
      obtain ⟨v2, ev2⟩ : ∃ z : Int32, z = x2 + (1 : Int32) := ⟨_, rfl⟩
      have h := h v2 ev2
      refine lv_iinc (v := v2) (lv' := [(2, .int v2), (0, .ref (ad 0)), (1, .int x1), (3, .int x3)]) hx hb dX12_has_77 hl (k := 2) rfl (by rw [ev2]; rfl) (by decide) rfl (fun ls hl => ?_)
      obtain ⟨v3, ev3⟩ : ∃ z : Int32, z = x3 + (1 : Int32) := ⟨_, rfl⟩
      have h := h v3 ev3
      refine lv_iinc (v := v3) (lv' := [(3, .int v3), (2, .int v2), (0, .ref (ad 0)), (1, .int x1)]) hx hb dX12_has_80 hl (k := 3) rfl (by rw [ev3]; rfl) (by decide) rfl (fun ls hl => ?_)
      refine lv_goto (tgt := 52) hx hb dX12_has_83 (by decide) ?_
      exact hk_52 x1 v2 v3 σ _ _ _ h hP hD hS (lv_sub hl [2, 3, 1, 0] rfl)
set_option maxHeartbeats 4000000 in
set_option maxRecDepth 100000 in
theorem t_X12_has_52 (C0 : zCx p s m meth c args RX12 cX12_has 4 (some .int) vs_X12_has) (hK : va_K (dC, dI) vwCl (m_ty cI cJ cC) s) (N : Nat) {Q : Int32 → zSt → Prop} : ∀ (f : Nat) (x1 : Int32) (x2 : Int32) (x3 : Int32) (σ : zSt) (H : Heap) (locs : List Loc) (ls : Array Slot), w_X12_has_52 N  Q f x1 x2 x3 σ → va_P (dC, dI) vwCl (m_W ad cI cJ cC σ) H → va_D (zAW m_n ad s.heap.size) (m_W ad cI cJ cC σ) → va_S (zAW m_n ad s.heap.size) s.heap H locs → lv_has ls 4 [(0, .ref (ad 0)), (1, .int x1), (2, .int x2), (3, .int x3)] → W p l e rm_X12_has s m args below meth c H locs 0 0 (MQ below (zQi (dC, dI) (m_ty cI cJ cC) (m_W ad cI cJ cC) (zAW m_n ad s.heap.size) Q) args s 0 0 (zAW m_n ad s.heap.size)) (F0 m 52 ls []) := by
  intro f
  induction f with
  | zero => intro x1 x2 x3 σ H locs ls h; exact h.elim
  | succ f ih =>
    intro x1 x2 x3 σ H locs ls h hP hD hS hl
    exact tb_X12_has_52 C0 hK N  (k_52 := w_X12_has_52 N  Q f) ih x1 x2 x3 σ H locs ls h hP hD hS hl
set_option maxHeartbeats 4000000 in
set_option maxRecDepth 100000 in
theorem t_X12_has_0 (C0 : zCx p s m meth c args RX12 cX12_has 4 (some .int) vs_X12_has) (hK : va_K (dC, dI) vwCl (m_ty cI cJ cC) s) (N : Nat) {Q : Int32 → zSt → Prop} : ∀ (x1 : Int32) (σ : zSt) (H : Heap) (locs : List Loc) (ls : Array Slot), w_X12_has N x1 σ Q → va_P (dC, dI) vwCl (m_W ad cI cJ cC σ) H → va_D (zAW m_n ad s.heap.size) (m_W ad cI cJ cC σ) → va_S (zAW m_n ad s.heap.size) s.heap H locs → lv_has ls 4 [(0, .ref (ad 0)), (1, .int x1)] → W p l e rm_X12_has s m args below meth c H locs 0 0 (MQ below (zQi (dC, dI) (m_ty cI cJ cC) (m_W ad cI cJ cC) (zAW m_n ad s.heap.size) Q) args s 0 0 (zAW m_n ad s.heap.size)) (F0 m 0 ls []) := by
  obtain ⟨hx, hb, hml, hr, hown, hts, hlocks⟩ := id C0
  intro x1 σ H locs ls h hP hD hS hl
  unfold w_X12_has at h
  refine lv_iconst (v := (0 : Int32)) hx hb dX12_has_0 (by decide) ?_
  refine lv_istore_n (lv' := [(2, .int (0 : Int32)), (0, .ref (ad 0)), (1, .int x1)]) hx hb dX12_has_1 rfl hl (by decide) rfl (fun ls hl => ?_)
  refine lv_iload_n hx hb dX12_has_2 rfl (lv_at hl 2 rfl) ?_
  by_cases hc0 : x1 = (0 : Int32)
  · have h := h.1 hc0
    refine lv_tableIn (off := 37) (tgt := 40) hx hb dX12_has_3 (by rw [hc0]; decide) (by rw [hc0]; decide) (by rw [hc0]; rfl) (by decide) ?_
    refine lv_aload_n hx hb dX12_has_40 rfl (lv_at hl 1 rfl) ?_
    refine k_X12_many N ⟨hx, hb, hml, hown, hts⟩ mw_1044 ⟨Nat.le_of_ble_eq_true rfl, Nat.le_of_ble_eq_true rfl⟩ h hK hP hD hS hl.1 (rest := []) (Nat.le_of_ble_eq_true rfl) ⟨Nat.le_of_ble_eq_true rfl, Nat.le_of_ble_eq_true rfl⟩ dX12_has_41 (fun r1 τ2 H locs h hP hD hS => ?_)
    exact zret_i hx hb hr hlocks hK hP hD hS h dX12_has_44
  · have hn0 := hc0
    have h := h.2 hc0
    by_cases hc1 : x1 = (1 : Int32)
    · have h := h.1 hc1
      refine lv_tableIn (off := 42) (tgt := 45) hx hb dX12_has_3 (by rw [hc1]; decide) (by rw [hc1]; decide) (by rw [hc1]; rfl) (by decide) ?_
      refine lv_aload_n hx hb dX12_has_45 rfl (lv_at hl 1 rfl) ?_
      refine k_X12_pairs N ⟨hx, hb, hml, hown, hts⟩ mw_1047 ⟨Nat.le_of_ble_eq_true rfl, Nat.le_of_ble_eq_true rfl⟩ h hK hP hD hS hl.1 (rest := []) (Nat.le_of_ble_eq_true rfl) ⟨Nat.le_of_ble_eq_true rfl, Nat.le_of_ble_eq_true rfl⟩ dX12_has_46 (fun r3 τ4 H locs h hP hD hS => ?_)
      exact zret_i hx hb hr hlocks hK hP hD hS h dX12_has_49
    · have hn1 := hc1
      have h := h.2 hc1
      by_cases hc2 : x1 = (2 : Int32)
      · have h := h.1 hc2
        refine lv_tableIn (off := 47) (tgt := 50) hx hb dX12_has_3 (by rw [hc2]; decide) (by rw [hc2]; decide) (by rw [hc2]; rfl) (by decide) ?_
        refine lv_iconst (v := (0 : Int32)) hx hb dX12_has_50 (by decide) ?_
        refine lv_istore_n (lv' := [(3, .int (0 : Int32)), (2, .int (0 : Int32)), (0, .ref (ad 0)), (1, .int x1)]) hx hb dX12_has_51 rfl hl (by decide) rfl (fun ls hl => ?_)
        exact t_X12_has_52 C0 hK N  N x1 (0 : Int32) (0 : Int32) σ _ _ _ h hP hD hS (lv_sub hl [2, 3, 1, 0] rfl)
      · have hn2 := hc2
        have h := h.2 hc2
        by_cases hc3 : x1 = (3 : Int32)
        · have h := h.1 hc3
          refine lv_tableIn (off := 47) (tgt := 50) hx hb dX12_has_3 (by rw [hc3]; decide) (by rw [hc3]; decide) (by rw [hc3]; rfl) (by decide) ?_
          refine lv_iconst (v := (0 : Int32)) hx hb dX12_has_50 (by decide) ?_
          refine lv_istore_n (lv' := [(3, .int (0 : Int32)), (2, .int (0 : Int32)), (0, .ref (ad 0)), (1, .int x1)]) hx hb dX12_has_51 rfl hl (by decide) rfl (fun ls hl => ?_)
          exact t_X12_has_52 C0 hK N  N x1 (0 : Int32) (0 : Int32) σ _ _ _ h hP hD hS (lv_sub hl [2, 3, 1, 0] rfl)
        · have hn3 := hc3
          have h := h.2 hc3
          by_cases hc4 : x1 = (4 : Int32)
          · have h := h.1 hc4
            refine lv_tableIn (off := 85) (tgt := 88) hx hb dX12_has_3 (by rw [hc4]; decide) (by rw [hc4]; decide) (by rw [hc4]; rfl) (by decide) ?_
            refine lv_aload_n hx hb dX12_has_88 rfl (lv_at hl 1 rfl) ?_
            refine mg_0_48 hx hb hts hown hK hP mw_881 dX12_has_89 ?_
            exact zret_i hx hb hr hlocks hK hP hD hS h dX12_has_92
          · have hn4 := hc4
            have h := h.2 hc4
            by_cases hc5 : x1 = (5 : Int32)
            · have h := h.1 hc5
              refine lv_tableIn (off := 90) (tgt := 93) hx hb dX12_has_3 (by rw [hc5]; decide) (by rw [hc5]; decide) (by rw [hc5]; rfl) (by decide) ?_
              refine lv_aload_n hx hb dX12_has_93 rfl (lv_at hl 1 rfl) ?_
              refine mg_0_47 hx hb hts hown hK hP mw_880 dX12_has_94 ?_
              refine k_X12_bits N ⟨hx, hb, hml, hown, hts⟩ mw_1050 ⟨Nat.le_of_ble_eq_true rfl, Nat.le_of_ble_eq_true rfl⟩ h hK hP hD hS hl.1 (rest := []) (Nat.le_of_ble_eq_true rfl) ⟨Nat.le_of_ble_eq_true rfl, Nat.le_of_ble_eq_true rfl⟩ dX12_has_97 (fun r5 τ6 H locs h hP hD hS => ?_)
              exact zret_i hx hb hr hlocks hK hP hD hS h dX12_has_100
            · have hn5 := hc5
              have h := h.2 hc5
              refine lv_tableOut (tgt := 101) hx hb dX12_has_3 (by have e0 := zne (k := 0) (by decide) hn0; have e1 := zne (k := 1) (by decide) hn1; have e2 := zne (k := 2) (by decide) hn2; have e3 := zne (k := 3) (by decide) hn3; have e4 := zne (k := 4) (by decide) hn4; have e5 := zne (k := 5) (by decide) hn5; omega) (by decide) ?_
              refine lv_iconst (v := (-1 : Int32)) hx hb dX12_has_101 (by decide) ?_
              exact zret_i hx hb hr hlocks hK hP hD hS h dX12_has_102
set_option maxHeartbeats 4000000 in
set_option maxRecDepth 100000 in
theorem c_X12_has (N : Nat) (l : Launch) (dC : Nat → ClassId) (dI : Nat → Nat → Nat) (ad : Nat → Nat) (cI cJ cC : ClassId) (sz : Nat) (σ : zSt) (x1 : Int32) (Q : Int32 → zSt → Prop) (h : w_X12_has N x1 σ Q) : Met l yX12_has vs_X12_has rm_X12_has (va_Pc [.ref (ad 0), .int x1] (zPc (dC, dI) (m_ty cI cJ cC) (m_W ad cI cJ cC) sz σ)) (zQi (dC, dI) (m_ty cI cJ cC) (m_W ad cI cJ cC) (zAW m_n ad sz) Q) 0 0 (zAW m_n ad sz) := by
  refine Met.ofW (cc := cX12_has) (maxL := 4) (ret := (some .int)) (by decide) rfl ?_
  intro p e s m args below meth c s₁ B hml hv
  obtain ⟨rfl, hsz, hP, hK, hD0⟩ := hv
  subst hsz
  have C0 : zCx p s m meth c _ RX12 cX12_has 4 (some .int) vs_X12_has := ⟨B.exec, B.bytes, hml, B.returns, findClass_of_methodNamed B.named, atoms_spec (ws := vs_X12_has) B.pre, B.notSynchronized⟩
  have hD := m_D0 (n0 := s.heap.size) hD0
  have hl := lv_entry ([.ref (ad 0), .int x1]) (n := 4) (Nat.le_of_ble_eq_true rfl)
  rw [lg_entry_eq]
  generalize (lg_sl ([.ref (ad 0), .int x1]) ++ List.replicate (4 - (lg_sl ([.ref (ad 0), .int x1])).length) Slot.unset).toArray = ls at hl ⊢
  exact t_X12_has_0 C0 hK N x1 σ _ _ ls h hP hD va_S.rf hl
theorem k_X12_has (N : Nat) {R : Room} {H : Heap} {locs : List Loc} {cells slots : Nat} {Q2 : State → Prop} {cc : ByteArray} {nL pc index : Nat} {ls : Array Slot} {rest : List Value} {own : String} {c0 : Cond} {σ : zSt} {x1 : Int32} {Q : Int32 → zSt → Prop} (S0 : CallFix p m c cc nL s args (c0 :: zT) own) (hml : Cond.methodLink own index yX12_has ∈ zT) (hR : rm_X12_has.frames + 1 ≤ R.frames ∧ 8 + (4 + 11) + rm_X12_has.locals ≤ R.locals) (h : w_X12_has N x1 σ Q) (hK : va_K (dC, dI) vwCl (m_ty cI cJ cC) s) (hP : va_P (dC, dI) vwCl (m_W ad cI cJ cC σ) H) (hD : va_D (zAW m_n ad s.heap.size) (m_W ad cI cJ cC σ)) (hS : va_S (zAW m_n ad s.heap.size) s.heap H locs) (hsz : ls.size = nL) (hW : (rest.map fun v => v.category).sum ≤ 8) (hcs : cells ≤ R.cells ∧ slots ≤ R.slots) (hdg : decode cc pc = .ok (.invokevirtual index, 3)) (kk : ∀ (r : Int32) (τ : zSt) (H1 : Heap) (locs1 : List Loc), Q r τ → va_P (dC, dI) vwCl (m_W ad cI cJ cC τ) H1 → va_D (zAW m_n ad s.heap.size) (m_W ad cI cJ cC τ) → va_S (zAW m_n ad s.heap.size) s.heap H1 locs1 → W p l e R s m args below meth c H1 locs1 cells slots Q2 (F0 m (pc + 3) ls (.int r :: rest))) : W p l e R s m args below meth c H locs cells slots Q2 (F0 m pc ls (.int x1 :: .ref (ad 0) :: rest)) :=
  zcv_i (T := TX12) (N' := 83) (k := 0) (ci := 12) (fs := m_f0 ad σ) [.int x1] S0 (c_X12_has N l dC dI ad cI cJ cC H.size σ x1 Q h) (cw_X12_has S0.2.2.2.2 hml rfl rfl hR) rfl rfl hK hP hD hS rfl hsz hW rfl hcs hdg kk
end q18
section q18
def w_X12_isPerson (N : Nat) (x1 : Int32) (σ : zSt) (Q : Int32 → zSt → Prop) : Prop :=
  w_X12_many N σ (fun r1 τ2 => w_X12_isIn N x1.toInt64 (0 : Int64) (r1 - (1 : Int32)).toInt64 τ2 (fun r3 τ4 => (zb r3) ∧ Q r3 τ4))
variable {p : Program} {l : Launch} {e : Env} {s : State} {m : MethodId} {args : Array Value} {below : List Frame} {meth : Method} {c : Code} {dC : Nat → ClassId} {dI : Nat → Nat → Nat} {ad : Nat → Nat} {cI cJ cC : ClassId}
set_option maxHeartbeats 4000000 in
set_option maxRecDepth 100000 in
theorem t_X12_isPerson_0 (C0 : zCx p s m meth c args RX12 cX12_isPerson 2 (some .boolean) vs_X12_isPerson) (hK : va_K (dC, dI) vwCl (m_ty cI cJ cC) s) (N : Nat) {Q : Int32 → zSt → Prop} : ∀ (x1 : Int32) (σ : zSt) (H : Heap) (locs : List Loc) (ls : Array Slot), w_X12_isPerson N x1 σ Q → va_P (dC, dI) vwCl (m_W ad cI cJ cC σ) H → va_D (zAW m_n ad s.heap.size) (m_W ad cI cJ cC σ) → va_S (zAW m_n ad s.heap.size) s.heap H locs → lv_has ls 2 [(0, .ref (ad 0)), (1, .int x1)] → W p l e rm_X12_isPerson s m args below meth c H locs 0 0 (MQ below (zQi (dC, dI) (m_ty cI cJ cC) (m_W ad cI cJ cC) (zAW m_n ad s.heap.size) Q) args s 0 0 (zAW m_n ad s.heap.size)) (F0 m 0 ls []) := by
  obtain ⟨hx, hb, hml, hr, hown, hts, hlocks⟩ := id C0
  intro x1 σ H locs ls h hP hD hS hl
  unfold w_X12_isPerson at h
  refine lv_iload_n hx hb dX12_isPerson_0 rfl (lv_at hl 1 rfl) ?_
  refine lv_i2l hx hb dX12_isPerson_1 rfl ?_
  refine lv_lconst (v := (0 : Int64)) hx hb dX12_isPerson_2 (by decide) ?_
  refine lv_aload_n hx hb dX12_isPerson_3 rfl (lv_at hl 0 rfl) ?_
  refine k_X12_many N ⟨hx, hb, hml, hown, hts⟩ mw_1044 ⟨Nat.le_of_ble_eq_true rfl, Nat.le_of_ble_eq_true rfl⟩ h hK hP hD hS hl.1 (rest := [.long (0 : Int64), .long x1.toInt64]) (Nat.le_of_ble_eq_true rfl) ⟨Nat.le_of_ble_eq_true rfl, Nat.le_of_ble_eq_true rfl⟩ dX12_isPerson_4 (fun r1 τ2 H locs h hP hD hS => ?_)
  refine lv_iconst (v := (1 : Int32)) hx hb dX12_isPerson_7 (by decide) ?_
  refine lv_isub hx hb dX12_isPerson_8 ?_
  refine lv_i2l hx hb dX12_isPerson_9 rfl ?_
  refine k_X12_isIn N ⟨hx, hb, hml, hown, hts⟩ mw_970 ⟨Nat.le_of_ble_eq_true rfl, Nat.le_of_ble_eq_true rfl⟩ h hK hP hD hS hl.1 (rest := []) (Nat.le_of_ble_eq_true rfl) ⟨Nat.le_of_ble_eq_true rfl, Nat.le_of_ble_eq_true rfl⟩ dX12_isPerson_10 (fun r3 τ4 H locs h hP hD hS => ?_)
  exact zret_z hx hb hr hlocks hK hP hD hS h.1 h.2 dX12_isPerson_13
set_option maxHeartbeats 4000000 in
set_option maxRecDepth 100000 in
theorem c_X12_isPerson (N : Nat) (l : Launch) (dC : Nat → ClassId) (dI : Nat → Nat → Nat) (ad : Nat → Nat) (cI cJ cC : ClassId) (sz : Nat) (σ : zSt) (x1 : Int32) (Q : Int32 → zSt → Prop) (h : w_X12_isPerson N x1 σ Q) : Met l yX12_isPerson vs_X12_isPerson rm_X12_isPerson (va_Pc [.ref (ad 0), .int x1] (zPc (dC, dI) (m_ty cI cJ cC) (m_W ad cI cJ cC) sz σ)) (zQi (dC, dI) (m_ty cI cJ cC) (m_W ad cI cJ cC) (zAW m_n ad sz) Q) 0 0 (zAW m_n ad sz) := by
  refine Met.ofW (cc := cX12_isPerson) (maxL := 2) (ret := (some .boolean)) (by decide) rfl ?_
  intro p e s m args below meth c s₁ B hml hv
  obtain ⟨rfl, hsz, hP, hK, hD0⟩ := hv
  subst hsz
  have C0 : zCx p s m meth c _ RX12 cX12_isPerson 2 (some .boolean) vs_X12_isPerson := ⟨B.exec, B.bytes, hml, B.returns, findClass_of_methodNamed B.named, atoms_spec (ws := vs_X12_isPerson) B.pre, B.notSynchronized⟩
  have hD := m_D0 (n0 := s.heap.size) hD0
  have hl := lv_entry ([.ref (ad 0), .int x1]) (n := 2) (Nat.le_of_ble_eq_true rfl)
  rw [lg_entry_eq]
  generalize (lg_sl ([.ref (ad 0), .int x1]) ++ List.replicate (2 - (lg_sl ([.ref (ad 0), .int x1])).length) Slot.unset).toArray = ls at hl ⊢
  exact t_X12_isPerson_0 C0 hK N x1 σ _ _ ls h hP hD va_S.rf hl
theorem k_X12_isPerson (N : Nat) {R : Room} {H : Heap} {locs : List Loc} {cells slots : Nat} {Q2 : State → Prop} {cc : ByteArray} {nL pc index : Nat} {ls : Array Slot} {rest : List Value} {own : String} {c0 : Cond} {σ : zSt} {x1 : Int32} {Q : Int32 → zSt → Prop} (S0 : CallFix p m c cc nL s args (c0 :: zT) own) (hml : Cond.methodLink own index yX12_isPerson ∈ zT) (hR : rm_X12_isPerson.frames + 1 ≤ R.frames ∧ 8 + (2 + 11) + rm_X12_isPerson.locals ≤ R.locals) (h : w_X12_isPerson N x1 σ Q) (hK : va_K (dC, dI) vwCl (m_ty cI cJ cC) s) (hP : va_P (dC, dI) vwCl (m_W ad cI cJ cC σ) H) (hD : va_D (zAW m_n ad s.heap.size) (m_W ad cI cJ cC σ)) (hS : va_S (zAW m_n ad s.heap.size) s.heap H locs) (hsz : ls.size = nL) (hW : (rest.map fun v => v.category).sum ≤ 8) (hcs : cells ≤ R.cells ∧ slots ≤ R.slots) (hdg : decode cc pc = .ok (.invokevirtual index, 3)) (kk : ∀ (r : Int32) (τ : zSt) (H1 : Heap) (locs1 : List Loc), Q r τ → va_P (dC, dI) vwCl (m_W ad cI cJ cC τ) H1 → va_D (zAW m_n ad s.heap.size) (m_W ad cI cJ cC τ) → va_S (zAW m_n ad s.heap.size) s.heap H1 locs1 → W p l e R s m args below meth c H1 locs1 cells slots Q2 (F0 m (pc + 3) ls (.int r :: rest))) : W p l e R s m args below meth c H locs cells slots Q2 (F0 m pc ls (.int x1 :: .ref (ad 0) :: rest)) :=
  zcv_i (T := TX12) (N' := 83) (k := 0) (ci := 12) (fs := m_f0 ad σ) [.int x1] S0 (c_X12_isPerson N l dC dI ad cI cJ cC H.size σ x1 Q h) (cw_X12_isPerson S0.2.2.2.2 hml rfl rfl hR) rfl rfl hK hP hD hS rfl hsz hW rfl hcs hdg kk
end q18
section q18
def b_X12_letter_73 (N : Nat) (k_73 : Int32 → Int64 → Int32 → zSt → Prop) (Q : Int32 → zSt → Prop) (x2 : Int32) (x3 : Int64) (x6 : Int32) (σ : zSt) : Prop :=
  (x6 ≤ x2 → Q (x3 - x3 / (27 : Int64) * (27 : Int64)).toInt32 σ) ∧ (¬ x6 ≤ x2 → ∀ v1 : Int64, v1 = x3 / (27 : Int64) → ∀ v2 : Int32, v2 = x6 + (-1 : Int32) → k_73 x2 v1 v2 σ)
def w_X12_letter_73 (N : Nat) (Q : Int32 → zSt → Prop) : Nat → Int32 → Int64 → Int32 → zSt → Prop
  | 0 => fun _ _ _ _ => False
  | f + 1 => b_X12_letter_73 N (w_X12_letter_73 N  Q f) Q
def b_X12_letter_38 (N : Nat) (k_38 : Int32 → Int64 → Int32 → Int64 → zSt → Prop) (Q : Int32 → zSt → Prop) (x2 : Int32) (x3 : Int64) (x5 : Int32) (x6 : Int64) (σ : zSt) : Prop :=
  ((lg_cmp x6 (0 : Int64)) ≤ 0 → (x2 < x5 → ∀ v1 : Int32, v1 = x5 - (1 : Int32) → w_X12_letter_73 N Q N x2 x3 v1 σ) ∧ (¬ x2 < x5 → Q (0 : Int32) σ)) ∧ (¬ (lg_cmp x6 (0 : Int64)) ≤ 0 → ∀ v2 : Int32, v2 = x5 + (1 : Int32) → ∀ v3 : Int64, v3 = x6 / (27 : Int64) → k_38 x2 x3 v2 v3 σ)
def w_X12_letter_38 (N : Nat) (Q : Int32 → zSt → Prop) : Nat → Int32 → Int64 → Int32 → Int64 → zSt → Prop
  | 0 => fun _ _ _ _ _ => False
  | f + 1 => b_X12_letter_38 N (w_X12_letter_38 N  Q f) Q
def w_X12_letter (N : Nat) (x1 : Int32) (x2 : Int32) (σ : zSt) (Q : Int32 → zSt → Prop) : Prop :=
  w_X12_isPerson N x1 σ (fun r1 τ2 => (r1 = 0 → Q (-1 : Int32) τ2) ∧ (¬ r1 = 0 → w_X12_isIn N x2.toInt64 (0 : Int64) (5 : Int64) τ2 (fun r3 τ4 => (r3 = 0 → Q (-1 : Int32) τ4) ∧ (¬ r3 = 0 → (vp_in ((10 : Int32) + x1) 20) ∧ (∀ v5 : Int64, v5 = τ4.2.2.2 0 ((10 : Int32) + x1).toNatClampNeg → w_X12_letter_38 N Q N x2 v5 (0 : Int32) v5 τ4)))))
variable {p : Program} {l : Launch} {e : Env} {s : State} {m : MethodId} {args : Array Value} {below : List Frame} {meth : Method} {c : Code} {dC : Nat → ClassId} {dI : Nat → Nat → Nat} {ad : Nat → Nat} {cI cJ cC : ClassId}
set_option maxHeartbeats 4000000 in
set_option maxRecDepth 100000 in
theorem tb_X12_letter_73 (C0 : zCx p s m meth c args RX12 cX12_letter 8 (some .int) vs_X12_letter) (hK : va_K (dC, dI) vwCl (m_ty cI cJ cC) s) (N : Nat) {Q : Int32 → zSt → Prop} {k_73 : Int32 → Int64 → Int32 → zSt → Prop} (hk_73 : ∀ (x2 : Int32) (x3 : Int64) (x6 : Int32) (σ : zSt) (H : Heap) (locs : List Loc) (ls : Array Slot), k_73 x2 x3 x6 σ → va_P (dC, dI) vwCl (m_W ad cI cJ cC σ) H → va_D (zAW m_n ad s.heap.size) (m_W ad cI cJ cC σ) → va_S (zAW m_n ad s.heap.size) s.heap H locs → lv_has ls 8 [(2, .int x2), (3, .long x3), (6, .int x6)] → W p l e rm_X12_letter s m args below meth c H locs 0 0 (MQ below (zQi (dC, dI) (m_ty cI cJ cC) (m_W ad cI cJ cC) (zAW m_n ad s.heap.size) Q) args s 0 0 (zAW m_n ad s.heap.size)) (F0 m 73 ls [])) : ∀ (x2 : Int32) (x3 : Int64) (x6 : Int32) (σ : zSt) (H : Heap) (locs : List Loc) (ls : Array Slot), b_X12_letter_73 N k_73 Q x2 x3 x6 σ → va_P (dC, dI) vwCl (m_W ad cI cJ cC σ) H → va_D (zAW m_n ad s.heap.size) (m_W ad cI cJ cC σ) → va_S (zAW m_n ad s.heap.size) s.heap H locs → lv_has ls 8 [(2, .int x2), (3, .long x3), (6, .int x6)] → W p l e rm_X12_letter s m args below meth c H locs 0 0 (MQ below (zQi (dC, dI) (m_ty cI cJ cC) (m_W ad cI cJ cC) (zAW m_n ad s.heap.size) Q) args s 0 0 (zAW m_n ad s.heap.size)) (F0 m 73 ls []) := by
  obtain ⟨hx, hb, hml, hr, hown, hts, hlocks⟩ := id C0
  intro x2 x3 x6 σ H locs ls h hP hD hS hl
  unfold b_X12_letter_73 at h
  refine lv_iload hx hb dX12_letter_73 (lv_at hl 2 rfl) ?_
  refine lv_iload_n hx hb dX12_letter_75 rfl (lv_at hl 0 rfl) ?_
  refine lv_icmp_le (tgt := 91) hx hb dX12_letter_76 (by decide) (fun hc => ?_) (fun hc => ?_)
  · have h := h.1 hc
    refine lv_lload_n hx hb dX12_letter_91 rfl (lv_at hl 1 rfl) ?_
    refine lv_ldc2 (v := (27 : Int64)) hx hb hown (hts _ (List.mem_cons_of_mem _ mw_956)) dX12_letter_92 ?_
    refine lv_lrem hx hb dX12_letter_95 (by decide) ?_
    refine lv_l2i hx hb dX12_letter_96 rfl ?_
    exact zret_i hx hb hr hlocks hK hP hD hS h dX12_letter_97
  · have h := h.2 hc
    refine lv_lload_n hx hb dX12_letter_79 rfl (lv_at hl 1 rfl) ?_
    refine lv_ldc2 (v := (27 : Int64)) hx hb hown (hts _ (List.mem_cons_of_mem _ mw_956)) dX12_letter_80 ?_
    refine lv_ldiv hx hb dX12_letter_83 (by decide) ?_
    refine lv_topl (fun v1 ev1 => ?_)
    have h := h v1 ev1
    refine lv_lstore_n (lv' := [(3, .long v1), (2, .int x2), (6, .int x6)]) hx hb dX12_letter_84 rfl hl (by decide) rfl (fun ls hl => ?_)
    obtain ⟨v2, ev2⟩ : ∃ z : Int32, z = x6 + (-1 : Int32) := ⟨_, rfl⟩
    have h := h v2 ev2
    refine lv_iinc (v := v2) (lv' := [(6, .int v2), (3, .long v1), (2, .int x2)]) hx hb dX12_letter_85 hl (k := 2) rfl (by rw [ev2]; rfl) (by decide) rfl (fun ls hl => ?_)
    refine lv_goto (tgt := 73) hx hb dX12_letter_88 (by decide) ?_
    exact hk_73 x2 v1 v2 σ _ _ _ h hP hD hS (lv_sub hl [2, 1, 0] rfl)
set_option maxHeartbeats 4000000 in
set_option maxRecDepth 100000 in
theorem t_X12_letter_73 (C0 : zCx p s m meth c args RX12 cX12_letter 8 (some .int) vs_X12_letter) (hK : va_K (dC, dI) vwCl (m_ty cI cJ cC) s) (N : Nat) {Q : Int32 → zSt → Prop} : ∀ (f : Nat) (x2 : Int32) (x3 : Int64) (x6 : Int32) (σ : zSt) (H : Heap) (locs : List Loc) (ls : Array Slot), w_X12_letter_73 N  Q f x2 x3 x6 σ → va_P (dC, dI) vwCl (m_W ad cI cJ cC σ) H → va_D (zAW m_n ad s.heap.size) (m_W ad cI cJ cC σ) → va_S (zAW m_n ad s.heap.size) s.heap H locs → lv_has ls 8 [(2, .int x2), (3, .long x3), (6, .int x6)] → W p l e rm_X12_letter s m args below meth c H locs 0 0 (MQ below (zQi (dC, dI) (m_ty cI cJ cC) (m_W ad cI cJ cC) (zAW m_n ad s.heap.size) Q) args s 0 0 (zAW m_n ad s.heap.size)) (F0 m 73 ls []) := by
  intro f
  induction f with
  | zero => intro x2 x3 x6 σ H locs ls h; exact h.elim
  | succ f ih =>
    intro x2 x3 x6 σ H locs ls h hP hD hS hl
    exact tb_X12_letter_73 C0 hK N  (k_73 := w_X12_letter_73 N  Q f) ih x2 x3 x6 σ H locs ls h hP hD hS hl
set_option maxHeartbeats 4000000 in
set_option maxRecDepth 100000 in
theorem tb_X12_letter_38 (C0 : zCx p s m meth c args RX12 cX12_letter 8 (some .int) vs_X12_letter) (hK : va_K (dC, dI) vwCl (m_ty cI cJ cC) s) (N : Nat) {Q : Int32 → zSt → Prop} {k_38 : Int32 → Int64 → Int32 → Int64 → zSt → Prop} (hk_38 : ∀ (x2 : Int32) (x3 : Int64) (x5 : Int32) (x6 : Int64) (σ : zSt) (H : Heap) (locs : List Loc) (ls : Array Slot), k_38 x2 x3 x5 x6 σ → va_P (dC, dI) vwCl (m_W ad cI cJ cC σ) H → va_D (zAW m_n ad s.heap.size) (m_W ad cI cJ cC σ) → va_S (zAW m_n ad s.heap.size) s.heap H locs → lv_has ls 8 [(2, .int x2), (3, .long x3), (5, .int x5), (6, .long x6)] → W p l e rm_X12_letter s m args below meth c H locs 0 0 (MQ below (zQi (dC, dI) (m_ty cI cJ cC) (m_W ad cI cJ cC) (zAW m_n ad s.heap.size) Q) args s 0 0 (zAW m_n ad s.heap.size)) (F0 m 38 ls [])) : ∀ (x2 : Int32) (x3 : Int64) (x5 : Int32) (x6 : Int64) (σ : zSt) (H : Heap) (locs : List Loc) (ls : Array Slot), b_X12_letter_38 N k_38 Q x2 x3 x5 x6 σ → va_P (dC, dI) vwCl (m_W ad cI cJ cC σ) H → va_D (zAW m_n ad s.heap.size) (m_W ad cI cJ cC σ) → va_S (zAW m_n ad s.heap.size) s.heap H locs → lv_has ls 8 [(2, .int x2), (3, .long x3), (5, .int x5), (6, .long x6)] → W p l e rm_X12_letter s m args below meth c H locs 0 0 (MQ below (zQi (dC, dI) (m_ty cI cJ cC) (m_W ad cI cJ cC) (zAW m_n ad s.heap.size) Q) args s 0 0 (zAW m_n ad s.heap.size)) (F0 m 38 ls []) := by
  obtain ⟨hx, hb, hml, hr, hown, hts, hlocks⟩ := id C0
  intro x2 x3 x5 x6 σ H locs ls h hP hD hS hl
  unfold b_X12_letter_38 at h
  refine lv_lload hx hb dX12_letter_38 (lv_at hl 3 rfl) ?_
  refine lv_lconst (v := (0 : Int64)) hx hb dX12_letter_40 (by decide) ?_
  refine W.lcmp hx hb dX12_letter_41 ?_
  refine lv_if_le (tgt := 59) hx hb dX12_letter_42 (by decide) (fun hc => ?_) (fun hc => ?_)
  · have h := h.1 hc
    refine lv_iload_n hx hb dX12_letter_59 rfl (lv_at hl 0 rfl) ?_
    refine lv_iload hx hb dX12_letter_60 (lv_at hl 2 rfl) ?_
    refine lv_icmp_lt (tgt := 67) hx hb dX12_letter_62 (by decide) (fun hc => ?_) (fun hc => ?_)
    · have h := h.1 hc
      refine lv_iload hx hb dX12_letter_67 (lv_at hl 2 rfl) ?_
      refine lv_iconst (v := (1 : Int32)) hx hb dX12_letter_69 (by decide) ?_
      refine lv_isub hx hb dX12_letter_70 ?_
      refine lv_topi (fun v1 ev1 => ?_)
      have h := h v1 ev1
      refine lv_istore (lv' := [(6, .int v1), (2, .int x2), (3, .long x3), (5, .int x5)]) hx hb dX12_letter_71 hl (by decide) rfl (fun ls hl => ?_)
      exact t_X12_letter_73 C0 hK N  N x2 x3 v1 σ _ _ _ h hP hD hS (lv_sub hl [1, 2, 0] rfl)
    · have h := h.2 hc
      refine lv_iconst (v := (0 : Int32)) hx hb dX12_letter_65 (by decide) ?_
      exact zret_i hx hb hr hlocks hK hP hD hS h dX12_letter_66
  · have h := h.2 hc
    obtain ⟨v2, ev2⟩ : ∃ z : Int32, z = x5 + (1 : Int32) := ⟨_, rfl⟩
    have h := h v2 ev2
    refine lv_iinc (v := v2) (lv' := [(5, .int v2), (2, .int x2), (3, .long x3), (6, .long x6)]) hx hb dX12_letter_45 hl (k := 2) rfl (by rw [ev2]; rfl) (by decide) rfl (fun ls hl => ?_)
    refine lv_lload hx hb dX12_letter_48 (lv_at hl 3 rfl) ?_
    refine lv_ldc2 (v := (27 : Int64)) hx hb hown (hts _ (List.mem_cons_of_mem _ mw_956)) dX12_letter_50 ?_
    refine lv_ldiv hx hb dX12_letter_53 (by decide) ?_
    refine lv_topl (fun v3 ev3 => ?_)
    have h := h v3 ev3
    refine lv_lstore (lv' := [(6, .long v3), (5, .int v2), (2, .int x2), (3, .long x3)]) hx hb dX12_letter_54 hl (by decide) rfl (fun ls hl => ?_)
    refine lv_goto (tgt := 38) hx hb dX12_letter_56 (by decide) ?_
    exact hk_38 x2 x3 v2 v3 σ _ _ _ h hP hD hS (lv_sub hl [2, 3, 1, 0] rfl)
set_option maxHeartbeats 4000000 in
set_option maxRecDepth 100000 in
theorem t_X12_letter_38 (C0 : zCx p s m meth c args RX12 cX12_letter 8 (some .int) vs_X12_letter) (hK : va_K (dC, dI) vwCl (m_ty cI cJ cC) s) (N : Nat) {Q : Int32 → zSt → Prop} : ∀ (f : Nat) (x2 : Int32) (x3 : Int64) (x5 : Int32) (x6 : Int64) (σ : zSt) (H : Heap) (locs : List Loc) (ls : Array Slot), w_X12_letter_38 N  Q f x2 x3 x5 x6 σ → va_P (dC, dI) vwCl (m_W ad cI cJ cC σ) H → va_D (zAW m_n ad s.heap.size) (m_W ad cI cJ cC σ) → va_S (zAW m_n ad s.heap.size) s.heap H locs → lv_has ls 8 [(2, .int x2), (3, .long x3), (5, .int x5), (6, .long x6)] → W p l e rm_X12_letter s m args below meth c H locs 0 0 (MQ below (zQi (dC, dI) (m_ty cI cJ cC) (m_W ad cI cJ cC) (zAW m_n ad s.heap.size) Q) args s 0 0 (zAW m_n ad s.heap.size)) (F0 m 38 ls []) := by
  intro f
  induction f with
  | zero => intro x2 x3 x5 x6 σ H locs ls h; exact h.elim
  | succ f ih =>
    intro x2 x3 x5 x6 σ H locs ls h hP hD hS hl
    exact tb_X12_letter_38 C0 hK N  (k_38 := w_X12_letter_38 N  Q f) ih x2 x3 x5 x6 σ H locs ls h hP hD hS hl
set_option maxHeartbeats 4000000 in
set_option maxRecDepth 100000 in
theorem t_X12_letter_0 (C0 : zCx p s m meth c args RX12 cX12_letter 8 (some .int) vs_X12_letter) (hK : va_K (dC, dI) vwCl (m_ty cI cJ cC) s) (N : Nat) {Q : Int32 → zSt → Prop} : ∀ (x1 : Int32) (x2 : Int32) (σ : zSt) (H : Heap) (locs : List Loc) (ls : Array Slot), w_X12_letter N x1 x2 σ Q → va_P (dC, dI) vwCl (m_W ad cI cJ cC σ) H → va_D (zAW m_n ad s.heap.size) (m_W ad cI cJ cC σ) → va_S (zAW m_n ad s.heap.size) s.heap H locs → lv_has ls 8 [(0, .ref (ad 0)), (1, .int x1), (2, .int x2)] → W p l e rm_X12_letter s m args below meth c H locs 0 0 (MQ below (zQi (dC, dI) (m_ty cI cJ cC) (m_W ad cI cJ cC) (zAW m_n ad s.heap.size) Q) args s 0 0 (zAW m_n ad s.heap.size)) (F0 m 0 ls []) := by
  obtain ⟨hx, hb, hml, hr, hown, hts, hlocks⟩ := id C0
  intro x1 x2 σ H locs ls h hP hD hS hl
  unfold w_X12_letter at h
  refine lv_aload_n hx hb dX12_letter_0 rfl (lv_at hl 0 rfl) ?_
  refine lv_iload_n hx hb dX12_letter_1 rfl (lv_at hl 1 rfl) ?_
  refine k_X12_isPerson N ⟨hx, hb, hml, hown, hts⟩ mw_1057 ⟨Nat.le_of_ble_eq_true rfl, Nat.le_of_ble_eq_true rfl⟩ h hK hP hD hS hl.1 (rest := []) (Nat.le_of_ble_eq_true rfl) ⟨Nat.le_of_ble_eq_true rfl, Nat.le_of_ble_eq_true rfl⟩ dX12_letter_2 (fun r1 τ2 H locs h hP hD hS => ?_)
  refine lv_if_eq (tgt := 20) hx hb dX12_letter_5 (by decide) (fun hc => ?_) (fun hc => ?_)
  · have h := h.1 hc
    refine lv_iconst (v := (-1 : Int32)) hx hb dX12_letter_20 (by decide) ?_
    exact zret_i hx hb hr hlocks hK hP hD hS h dX12_letter_21
  · have h := h.2 hc
    refine lv_iload_n hx hb dX12_letter_8 rfl (lv_at hl 2 rfl) ?_
    refine lv_i2l hx hb dX12_letter_9 rfl ?_
    refine lv_lconst (v := (0 : Int64)) hx hb dX12_letter_10 (by decide) ?_
    refine lv_ldc2 (v := (5 : Int64)) hx hb hown (hts _ (List.mem_cons_of_mem _ mw_1060)) dX12_letter_11 ?_
    refine k_X12_isIn N ⟨hx, hb, hml, hown, hts⟩ mw_970 ⟨Nat.le_of_ble_eq_true rfl, Nat.le_of_ble_eq_true rfl⟩ h hK hP hD hS hl.1 (rest := []) (Nat.le_of_ble_eq_true rfl) ⟨Nat.le_of_ble_eq_true rfl, Nat.le_of_ble_eq_true rfl⟩ dX12_letter_14 (fun r3 τ4 H locs h hP hD hS => ?_)
    refine lv_if_ne (tgt := 22) hx hb dX12_letter_17 (by decide) (fun hc => ?_) (fun hc => ?_)
    · have h := h.2 hc
      refine lv_aload_n hx hb dX12_letter_22 rfl (lv_at hl 0 rfl) ?_
      refine mg_0_30 hx hb hts hown hK hP mw_863 dX12_letter_23 ?_
      refine lv_bipush (v := (10 : Int32)) hx hb dX12_letter_26 (by decide) ?_
      refine lv_iload_n hx hb dX12_letter_28 rfl (lv_at hl 1 rfl) ?_
      refine lv_iadd hx hb dX12_letter_29 ?_
      refine ma_3 hx hb hK hP h.1 rfl dX12_letter_30 ?_
      have h := h.2
      refine lv_topl (fun v5 ev5 => ?_)
      have h := h v5 ev5
      refine lv_lstore_n (lv' := [(3, .long v5), (0, .ref (ad 0)), (1, .int x1), (2, .int x2)]) hx hb dX12_letter_31 rfl hl (by decide) rfl (fun ls hl => ?_)
      refine lv_iconst (v := (0 : Int32)) hx hb dX12_letter_32 (by decide) ?_
      refine lv_istore (lv' := [(5, .int (0 : Int32)), (3, .long v5), (0, .ref (ad 0)), (1, .int x1), (2, .int x2)]) hx hb dX12_letter_33 hl (by decide) rfl (fun ls hl => ?_)
      refine lv_lload_n hx hb dX12_letter_35 rfl (lv_at hl 1 rfl) ?_
      refine lv_lstore (lv' := [(6, .long v5), (5, .int (0 : Int32)), (3, .long v5), (0, .ref (ad 0)), (1, .int x1), (2, .int x2)]) hx hb dX12_letter_36 hl (by decide) rfl (fun ls hl => ?_)
      exact t_X12_letter_38 C0 hK N  N x2 v5 (0 : Int32) v5 τ4 _ _ _ h hP hD hS (lv_sub hl [5, 2, 1, 0] rfl)
    · have h := h.1 hc
      refine lv_iconst (v := (-1 : Int32)) hx hb dX12_letter_20 (by decide) ?_
      exact zret_i hx hb hr hlocks hK hP hD hS h dX12_letter_21
set_option maxHeartbeats 4000000 in
set_option maxRecDepth 100000 in
theorem c_X12_letter (N : Nat) (l : Launch) (dC : Nat → ClassId) (dI : Nat → Nat → Nat) (ad : Nat → Nat) (cI cJ cC : ClassId) (sz : Nat) (σ : zSt) (x1 : Int32) (x2 : Int32) (Q : Int32 → zSt → Prop) (h : w_X12_letter N x1 x2 σ Q) : Met l yX12_letter vs_X12_letter rm_X12_letter (va_Pc [.ref (ad 0), .int x1, .int x2] (zPc (dC, dI) (m_ty cI cJ cC) (m_W ad cI cJ cC) sz σ)) (zQi (dC, dI) (m_ty cI cJ cC) (m_W ad cI cJ cC) (zAW m_n ad sz) Q) 0 0 (zAW m_n ad sz) := by
  refine Met.ofW (cc := cX12_letter) (maxL := 8) (ret := (some .int)) (by decide) rfl ?_
  intro p e s m args below meth c s₁ B hml hv
  obtain ⟨rfl, hsz, hP, hK, hD0⟩ := hv
  subst hsz
  have C0 : zCx p s m meth c _ RX12 cX12_letter 8 (some .int) vs_X12_letter := ⟨B.exec, B.bytes, hml, B.returns, findClass_of_methodNamed B.named, atoms_spec (ws := vs_X12_letter) B.pre, B.notSynchronized⟩
  have hD := m_D0 (n0 := s.heap.size) hD0
  have hl := lv_entry ([.ref (ad 0), .int x1, .int x2]) (n := 8) (Nat.le_of_ble_eq_true rfl)
  rw [lg_entry_eq]
  generalize (lg_sl ([.ref (ad 0), .int x1, .int x2]) ++ List.replicate (8 - (lg_sl ([.ref (ad 0), .int x1, .int x2])).length) Slot.unset).toArray = ls at hl ⊢
  exact t_X12_letter_0 C0 hK N x1 x2 σ _ _ ls h hP hD va_S.rf hl
theorem k_X12_letter (N : Nat) {R : Room} {H : Heap} {locs : List Loc} {cells slots : Nat} {Q2 : State → Prop} {cc : ByteArray} {nL pc index : Nat} {ls : Array Slot} {rest : List Value} {own : String} {c0 : Cond} {σ : zSt} {x1 : Int32} {x2 : Int32} {Q : Int32 → zSt → Prop} (S0 : CallFix p m c cc nL s args (c0 :: zT) own) (hml : Cond.methodLink own index yX12_letter ∈ zT) (hR : rm_X12_letter.frames + 1 ≤ R.frames ∧ 8 + (8 + 11) + rm_X12_letter.locals ≤ R.locals) (h : w_X12_letter N x1 x2 σ Q) (hK : va_K (dC, dI) vwCl (m_ty cI cJ cC) s) (hP : va_P (dC, dI) vwCl (m_W ad cI cJ cC σ) H) (hD : va_D (zAW m_n ad s.heap.size) (m_W ad cI cJ cC σ)) (hS : va_S (zAW m_n ad s.heap.size) s.heap H locs) (hsz : ls.size = nL) (hW : (rest.map fun v => v.category).sum ≤ 8) (hcs : cells ≤ R.cells ∧ slots ≤ R.slots) (hdg : decode cc pc = .ok (.invokevirtual index, 3)) (kk : ∀ (r : Int32) (τ : zSt) (H1 : Heap) (locs1 : List Loc), Q r τ → va_P (dC, dI) vwCl (m_W ad cI cJ cC τ) H1 → va_D (zAW m_n ad s.heap.size) (m_W ad cI cJ cC τ) → va_S (zAW m_n ad s.heap.size) s.heap H1 locs1 → W p l e R s m args below meth c H1 locs1 cells slots Q2 (F0 m (pc + 3) ls (.int r :: rest))) : W p l e R s m args below meth c H locs cells slots Q2 (F0 m pc ls (.int x2 :: .int x1 :: .ref (ad 0) :: rest)) :=
  zcv_i (T := TX12) (N' := 83) (k := 0) (ci := 12) (fs := m_f0 ad σ) [.int x1, .int x2] S0 (c_X12_letter N l dC dI ad cI cJ cC H.size σ x1 x2 Q h) (cw_X12_letter S0.2.2.2.2 hml rfl rfl hR) rfl rfl hK hP hD hS rfl hsz hW rfl hcs hdg kk
end q18
