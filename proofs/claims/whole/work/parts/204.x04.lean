section q04
end q04
section q04
def vs_X11_has : List Cond := .code yX11_has cX11_has 2 (some .int) :: zT
def rm_X11_has : Room := { frames := 1, cells := 0, slots := 0, locals := 23 }
theorem cw_X11_has {rm R : Room} {s : State} {args : Array Value} {own : String} {index : Nat} {c0 : Cond} (hts : ∀ w ∈ c0 :: zT, w.before args s = true) (hml : Cond.methodLink own index yX11_has ∈ zT) (hrc : rm.cells = 0) (hrs : rm.slots = 0) (hR : rm.frames + 1 ≤ R.frames ∧ 8 + (2 + 11) + rm.locals ≤ R.locals) : CallW R s args own RX11 index yX11_has cX11_has 2 (some .int) vs_X11_has rm 0 0 1 :=
  zwV 1 hts hml mw_474 mw_475 mw_1 mw_476 hrc hrs (by decide +kernel) hR
def w_X11_has (N : Nat) (x1 : Int32) (σ : zSt) (Q : Int32 → zSt → Prop) : Prop :=
  (x1 = (0 : Int32) → Q (σ.1 1) σ) ∧ (¬ x1 = (0 : Int32) → (x1 = (1 : Int32) → Q (σ.1 2) σ) ∧ (¬ x1 = (1 : Int32) → (x1 = (2 : Int32) → w_X6_countOf N (0 : Int32) σ (fun r1 τ2 => Q r1 τ2)) ∧ (¬ x1 = (2 : Int32) → (x1 = (3 : Int32) → w_X6_countOf N (1 : Int32) σ (fun r3 τ4 => Q r3 τ4)) ∧ (¬ x1 = (3 : Int32) → (x1 = (4 : Int32) → Q (σ.1 25) σ) ∧ (¬ x1 = (4 : Int32) → (x1 = (5 : Int32) → w_J13_bitCount_95d88 N (σ.2.1 0) σ (fun r5 τ6 => Q r5 τ6)) ∧ (¬ x1 = (5 : Int32) → Q (-1 : Int32) σ))))))
variable {p : Program} {l : Launch} {e : Env} {s : State} {m : MethodId} {args : Array Value} {below : List Frame} {meth : Method} {c : Code} {dC : Nat → ClassId} {dI : Nat → Nat → Nat} {ad : Nat → Nat} {cI cJ : ClassId}
set_option maxHeartbeats 4000000 in
set_option maxRecDepth 100000 in
theorem t_X11_has_0 (C0 : zCx p s m meth c args RX11 cX11_has 2 (some .int) vs_X11_has) (hK : va_K (dC, dI) vwCl (x_ty cI cJ) s) (N : Nat) {Q : Int32 → zSt → Prop} : ∀ (x1 : Int32) (σ : zSt) (H : Heap) (locs : List Loc) (ls : Array Slot), w_X11_has N x1 σ Q → va_P (dC, dI) vwCl (x_W ad cI cJ σ) H → va_D (zAW x_n ad s.heap.size) (x_W ad cI cJ σ) → va_S (zAW x_n ad s.heap.size) s.heap H locs → lv_has ls 2 [(0, .ref (ad 0)), (1, .int x1)] → W p l e rm_X11_has s m args below meth c H locs 0 0 (MQ below (zQi (dC, dI) (x_ty cI cJ) (x_W ad cI cJ) (zAW x_n ad s.heap.size) Q) args s 0 0 (zAW x_n ad s.heap.size)) (F0 m 0 ls []) := by
  obtain ⟨hx, hb, hml, hr, hown, hts, hlocks⟩ := id C0
  intro x1 σ H locs ls h hP hD hS hl
  unfold w_X11_has at h
  refine lv_iload_n hx hb dX11_has_0 rfl (lv_at hl 1 rfl) ?_
  by_cases hc0 : x1 = (0 : Int32)
  · have h := h.1 hc0
    refine lv_tableIn (off := 39) (tgt := 40) hx hb dX11_has_1 (by rw [hc0]; decide) (by rw [hc0]; decide) (by rw [hc0]; rfl) (by decide) ?_
    refine lv_aload_n hx hb dX11_has_40 rfl (lv_at hl 0 rfl) ?_
    refine xg_0_2 hx hb hts hown hK hP mw_291 dX11_has_41 ?_
    refine xg_3_4 hx hb hts hown hK hP mw_75 dX11_has_44 ?_
    exact zret_i hx hb hr hlocks hK hP hD hS h dX11_has_47
  · have hn0 := hc0
    have h := h.2 hc0
    by_cases hc1 : x1 = (1 : Int32)
    · have h := h.1 hc1
      refine lv_tableIn (off := 47) (tgt := 48) hx hb dX11_has_1 (by rw [hc1]; decide) (by rw [hc1]; decide) (by rw [hc1]; rfl) (by decide) ?_
      refine lv_aload_n hx hb dX11_has_48 rfl (lv_at hl 0 rfl) ?_
      refine xg_0_2 hx hb hts hown hK hP mw_291 dX11_has_49 ?_
      refine xg_3_5 hx hb hts hown hK hP mw_81 dX11_has_52 ?_
      exact zret_i hx hb hr hlocks hK hP hD hS h dX11_has_55
    · have hn1 := hc1
      have h := h.2 hc1
      by_cases hc2 : x1 = (2 : Int32)
      · have h := h.1 hc2
        refine lv_tableIn (off := 55) (tgt := 56) hx hb dX11_has_1 (by rw [hc2]; decide) (by rw [hc2]; decide) (by rw [hc2]; rfl) (by decide) ?_
        refine lv_aload_n hx hb dX11_has_56 rfl (lv_at hl 0 rfl) ?_
        refine xg_0_3 hx hb hts hown hK hP mw_292 dX11_has_57 ?_
        refine lv_iconst (v := (0 : Int32)) hx hb dX11_has_60 (by decide) ?_
        refine k_X6_countOf N ⟨hx, hb, hml, hown, hts⟩ mw_477 ⟨Nat.le_of_ble_eq_true rfl, Nat.le_of_ble_eq_true rfl⟩ h hK hP hD hS hl.1 (rest := []) (Nat.le_of_ble_eq_true rfl) dX11_has_61 (fun r1 τ2 H locs h hP hD hS => ?_)
        exact zret_i hx hb hr hlocks hK hP hD hS h dX11_has_64
      · have hn2 := hc2
        have h := h.2 hc2
        by_cases hc3 : x1 = (3 : Int32)
        · have h := h.1 hc3
          refine lv_tableIn (off := 64) (tgt := 65) hx hb dX11_has_1 (by rw [hc3]; decide) (by rw [hc3]; decide) (by rw [hc3]; rfl) (by decide) ?_
          refine lv_aload_n hx hb dX11_has_65 rfl (lv_at hl 0 rfl) ?_
          refine xg_0_3 hx hb hts hown hK hP mw_292 dX11_has_66 ?_
          refine lv_iconst (v := (1 : Int32)) hx hb dX11_has_69 (by decide) ?_
          refine k_X6_countOf N ⟨hx, hb, hml, hown, hts⟩ mw_477 ⟨Nat.le_of_ble_eq_true rfl, Nat.le_of_ble_eq_true rfl⟩ h hK hP hD hS hl.1 (rest := []) (Nat.le_of_ble_eq_true rfl) dX11_has_70 (fun r3 τ4 H locs h hP hD hS => ?_)
          exact zret_i hx hb hr hlocks hK hP hD hS h dX11_has_73
        · have hn3 := hc3
          have h := h.2 hc3
          by_cases hc4 : x1 = (4 : Int32)
          · have h := h.1 hc4
            refine lv_tableIn (off := 73) (tgt := 74) hx hb dX11_has_1 (by rw [hc4]; decide) (by rw [hc4]; decide) (by rw [hc4]; rfl) (by decide) ?_
            refine lv_aload_n hx hb dX11_has_74 rfl (lv_at hl 0 rfl) ?_
            refine xg_0_5 hx hb hts hown hK hP mw_294 dX11_has_75 ?_
            refine xg_9_6 hx hb hts hown hK hP mw_207 dX11_has_78 ?_
            exact zret_i hx hb hr hlocks hK hP hD hS h dX11_has_81
          · have hn4 := hc4
            have h := h.2 hc4
            by_cases hc5 : x1 = (5 : Int32)
            · have h := h.1 hc5
              refine lv_tableIn (off := 81) (tgt := 82) hx hb dX11_has_1 (by rw [hc5]; decide) (by rw [hc5]; decide) (by rw [hc5]; rfl) (by decide) ?_
              refine lv_aload_n hx hb dX11_has_82 rfl (lv_at hl 0 rfl) ?_
              refine xg_0_15 hx hb hts hown hK hP mw_304 dX11_has_83 ?_
              refine k_J13_bitCount_95d88 N ⟨hx, hb, hml, hown, hts⟩ mw_481 ⟨Nat.le_of_ble_eq_true rfl, Nat.le_of_ble_eq_true rfl⟩ h hK hP hD hS hl.1 (rest := []) (Nat.le_of_ble_eq_true rfl) dX11_has_86 (fun r5 τ6 H locs h hP hD hS => ?_)
              exact zret_i hx hb hr hlocks hK hP hD hS h dX11_has_89
            · have hn5 := hc5
              have h := h.2 hc5
              refine lv_tableOut (tgt := 90) hx hb dX11_has_1 (by have e0 := zne (k := 0) (by decide) hn0; have e1 := zne (k := 1) (by decide) hn1; have e2 := zne (k := 2) (by decide) hn2; have e3 := zne (k := 3) (by decide) hn3; have e4 := zne (k := 4) (by decide) hn4; have e5 := zne (k := 5) (by decide) hn5; omega) (by decide) ?_
              refine lv_iconst (v := (-1 : Int32)) hx hb dX11_has_90 (by decide) ?_
              exact zret_i hx hb hr hlocks hK hP hD hS h dX11_has_91
set_option maxHeartbeats 4000000 in
set_option maxRecDepth 100000 in
theorem c_X11_has (N : Nat) (l : Launch) (dC : Nat → ClassId) (dI : Nat → Nat → Nat) (ad : Nat → Nat) (cI cJ : ClassId) (sz : Nat) (σ : zSt) (x1 : Int32) (Q : Int32 → zSt → Prop) (h : w_X11_has N x1 σ Q) : Met l yX11_has vs_X11_has rm_X11_has (va_Pc [.ref (ad 0), .int x1] (zPc (dC, dI) (x_ty cI cJ) (x_W ad cI cJ) sz σ)) (zQi (dC, dI) (x_ty cI cJ) (x_W ad cI cJ) (zAW x_n ad sz) Q) 0 0 (zAW x_n ad sz) := by
  refine Met.ofW (cc := cX11_has) (maxL := 2) (ret := (some .int)) (by decide) rfl ?_
  intro p e s m args below meth c s₁ B hml hv
  obtain ⟨rfl, hsz, hP, hK, hD0⟩ := hv
  subst hsz
  have C0 : zCx p s m meth c _ RX11 cX11_has 2 (some .int) vs_X11_has := ⟨B.exec, B.bytes, hml, B.returns, findClass_of_methodNamed B.named, atoms_spec (ws := vs_X11_has) B.pre, B.notSynchronized⟩
  have hD := x_D0 (n0 := s.heap.size) hD0
  have hl := lv_entry ([.ref (ad 0), .int x1]) (n := 2) (Nat.le_of_ble_eq_true rfl)
  rw [lg_entry_eq]
  generalize (lg_sl ([.ref (ad 0), .int x1]) ++ List.replicate (2 - (lg_sl ([.ref (ad 0), .int x1])).length) Slot.unset).toArray = ls at hl ⊢
  exact t_X11_has_0 C0 hK N x1 σ _ _ ls h hP hD va_S.rf hl
theorem k_X11_has (N : Nat) {R : Room} {H : Heap} {locs : List Loc} {Q2 : State → Prop} {cc : ByteArray} {nL pc index : Nat} {ls : Array Slot} {rest : List Value} {own : String} {c0 : Cond} {σ : zSt} {x1 : Int32} {Q : Int32 → zSt → Prop} (S0 : CallFix p m c cc nL s args (c0 :: zT) own) (hml : Cond.methodLink own index yX11_has ∈ zT) (hR : rm_X11_has.frames + 1 ≤ R.frames ∧ 8 + (2 + 11) + rm_X11_has.locals ≤ R.locals) (h : w_X11_has N x1 σ Q) (hK : va_K (dC, dI) vwCl (x_ty cI cJ) s) (hP : va_P (dC, dI) vwCl (x_W ad cI cJ σ) H) (hD : va_D (zAW x_n ad s.heap.size) (x_W ad cI cJ σ)) (hS : va_S (zAW x_n ad s.heap.size) s.heap H locs) (hsz : ls.size = nL) (hW : (rest.map fun v => v.category).sum ≤ 8) (hdg : decode cc pc = .ok (.invokevirtual index, 3)) (kk : ∀ (r : Int32) (τ : zSt) (H1 : Heap) (locs1 : List Loc), Q r τ → va_P (dC, dI) vwCl (x_W ad cI cJ τ) H1 → va_D (zAW x_n ad s.heap.size) (x_W ad cI cJ τ) → va_S (zAW x_n ad s.heap.size) s.heap H1 locs1 → W p l e R s m args below meth c H1 locs1 0 0 Q2 (F0 m (pc + 3) ls (.int r :: rest))) : W p l e R s m args below meth c H locs 0 0 Q2 (F0 m pc ls (.int x1 :: .ref (ad 0) :: rest)) :=
  zcv_i (T := TX11) (N' := 17) (k := 0) (ci := 11) (fs := x_f0 ad σ) [.int x1] S0 (c_X11_has N l dC dI ad cI cJ H.size σ x1 Q h) (cw_X11_has S0.2.2.2.2 hml rfl rfl hR) rfl rfl hK hP hD hS rfl hsz hW rfl hdg kk
end q04
section q04
def w_X4_isPerson_2 (N : Nat) (x1 : Int32) (σ : zSt) (Q : Int32 → zSt → Prop) : Prop :=
  (x1 < 0 → Q (0 : Int32) σ) ∧ (¬ x1 < 0 → ((σ.1 1) ≤ x1 → Q (0 : Int32) σ) ∧ (¬ (σ.1 1) ≤ x1 → Q (1 : Int32) σ))
variable {p : Program} {l : Launch} {e : Env} {s : State} {m : MethodId} {args : Array Value} {below : List Frame} {meth : Method} {c : Code} {dC : Nat → ClassId} {dI : Nat → Nat → Nat} {ad : Nat → Nat} {cI cJ : ClassId}
set_option maxHeartbeats 4000000 in
set_option maxRecDepth 100000 in
theorem t_X4_isPerson_2_0 (C0 : zCx p s m meth c args RX4 cX4_isPerson 2 (some .boolean) vs_X4_isPerson) (hK : va_K (dC, dI) vwCl (x_ty cI cJ) s) (N : Nat) {Q : Int32 → zSt → Prop} : ∀ (x1 : Int32) (σ : zSt) (H : Heap) (locs : List Loc) (ls : Array Slot), w_X4_isPerson_2 N x1 σ Q → va_P (dC, dI) vwCl (x_W ad cI cJ σ) H → va_D (zAW x_n ad s.heap.size) (x_W ad cI cJ σ) → va_S (zAW x_n ad s.heap.size) s.heap H locs → lv_has ls 2 [(0, .ref (ad 3)), (1, .int x1)] → W p l e rm_X4_isPerson s m args below meth c H locs 0 0 (MQ below (zQi (dC, dI) (x_ty cI cJ) (x_W ad cI cJ) (zAW x_n ad s.heap.size) Q) args s 0 0 (zAW x_n ad s.heap.size)) (F0 m 0 ls []) := by
  obtain ⟨hx, hb, hml, hr, hown, hts, hlocks⟩ := id C0
  intro x1 σ H locs ls h hP hD hS hl
  unfold w_X4_isPerson_2 at h
  refine lv_iload_n hx hb dX4_isPerson_0 rfl (lv_at hl 1 rfl) ?_
  refine lv_if_lt (tgt := 16) hx hb dX4_isPerson_1 (by decide) (fun hc => ?_) (fun hc => ?_)
  · have h := h.1 hc
    refine lv_iconst (v := (0 : Int32)) hx hb dX4_isPerson_16 (by decide) ?_
    exact zret_z hx hb hr hlocks hK hP hD hS zb_0 h dX4_isPerson_17
  · have h := h.2 hc
    refine lv_iload_n hx hb dX4_isPerson_4 rfl (lv_at hl 1 rfl) ?_
    refine lv_aload_n hx hb dX4_isPerson_5 rfl (lv_at hl 0 rfl) ?_
    refine xg_3_4 hx hb hts hown hK hP mw_73 dX4_isPerson_6 ?_
    refine lv_icmp_ge (tgt := 16) hx hb dX4_isPerson_9 (by decide) (fun hc => ?_) (fun hc => ?_)
    · have h := h.1 hc
      refine lv_iconst (v := (0 : Int32)) hx hb dX4_isPerson_16 (by decide) ?_
      exact zret_z hx hb hr hlocks hK hP hD hS zb_0 h dX4_isPerson_17
    · have h := h.2 hc
      refine lv_iconst (v := (1 : Int32)) hx hb dX4_isPerson_12 (by decide) ?_
      refine lv_goto (tgt := 17) hx hb dX4_isPerson_13 (by decide) ?_
      exact zret_z hx hb hr hlocks hK hP hD hS zb_1 h dX4_isPerson_17
set_option maxHeartbeats 4000000 in
set_option maxRecDepth 100000 in
theorem c_X4_isPerson_2 (N : Nat) (l : Launch) (dC : Nat → ClassId) (dI : Nat → Nat → Nat) (ad : Nat → Nat) (cI cJ : ClassId) (sz : Nat) (σ : zSt) (x1 : Int32) (Q : Int32 → zSt → Prop) (h : w_X4_isPerson_2 N x1 σ Q) : Met l yX4_isPerson vs_X4_isPerson rm_X4_isPerson (va_Pc [.ref (ad 3), .int x1] (zPc (dC, dI) (x_ty cI cJ) (x_W ad cI cJ) sz σ)) (zQi (dC, dI) (x_ty cI cJ) (x_W ad cI cJ) (zAW x_n ad sz) Q) 0 0 (zAW x_n ad sz) := by
  refine Met.ofW (cc := cX4_isPerson) (maxL := 2) (ret := (some .boolean)) (by decide) rfl ?_
  intro p e s m args below meth c s₁ B hml hv
  obtain ⟨rfl, hsz, hP, hK, hD0⟩ := hv
  subst hsz
  have C0 : zCx p s m meth c _ RX4 cX4_isPerson 2 (some .boolean) vs_X4_isPerson := ⟨B.exec, B.bytes, hml, B.returns, findClass_of_methodNamed B.named, atoms_spec (ws := vs_X4_isPerson) B.pre, B.notSynchronized⟩
  have hD := x_D0 (n0 := s.heap.size) hD0
  have hl := lv_entry ([.ref (ad 3), .int x1]) (n := 2) (Nat.le_of_ble_eq_true rfl)
  rw [lg_entry_eq]
  generalize (lg_sl ([.ref (ad 3), .int x1]) ++ List.replicate (2 - (lg_sl ([.ref (ad 3), .int x1])).length) Slot.unset).toArray = ls at hl ⊢
  exact t_X4_isPerson_2_0 C0 hK N x1 σ _ _ ls h hP hD va_S.rf hl
theorem k_X4_isPerson_2 (N : Nat) {R : Room} {H : Heap} {locs : List Loc} {Q2 : State → Prop} {cc : ByteArray} {nL pc index : Nat} {ls : Array Slot} {rest : List Value} {own : String} {c0 : Cond} {σ : zSt} {x1 : Int32} {Q : Int32 → zSt → Prop} (S0 : CallFix p m c cc nL s args (c0 :: zT) own) (hml : Cond.methodLink own index yX4_isPerson ∈ zT) (hR : rm_X4_isPerson.frames + 1 ≤ R.frames ∧ 8 + (2 + 11) + rm_X4_isPerson.locals ≤ R.locals) (h : w_X4_isPerson_2 N x1 σ Q) (hK : va_K (dC, dI) vwCl (x_ty cI cJ) s) (hP : va_P (dC, dI) vwCl (x_W ad cI cJ σ) H) (hD : va_D (zAW x_n ad s.heap.size) (x_W ad cI cJ σ)) (hS : va_S (zAW x_n ad s.heap.size) s.heap H locs) (hsz : ls.size = nL) (hW : (rest.map fun v => v.category).sum ≤ 8) (hdg : decode cc pc = .ok (.invokevirtual index, 3)) (kk : ∀ (r : Int32) (τ : zSt) (H1 : Heap) (locs1 : List Loc), Q r τ → va_P (dC, dI) vwCl (x_W ad cI cJ τ) H1 → va_D (zAW x_n ad s.heap.size) (x_W ad cI cJ τ) → va_S (zAW x_n ad s.heap.size) s.heap H1 locs1 → W p l e R s m args below meth c H1 locs1 0 0 Q2 (F0 m (pc + 3) ls (.int r :: rest))) : W p l e R s m args below meth c H locs 0 0 Q2 (F0 m pc ls (.int x1 :: .ref (ad 3) :: rest)) :=
  zcv_i (T := TX4) (N' := 8) (k := 3) (ci := 4) (fs := x_f3 ad σ) [.int x1] S0 (c_X4_isPerson_2 N l dC dI ad cI cJ H.size σ x1 Q h) (cw_X4_isPerson S0.2.2.2.2 hml rfl rfl hR) rfl rfl hK hP hD hS rfl hsz hW rfl hdg kk
end q04
section q04
def vs_X11_letter : List Cond := .code yX11_letter cX11_letter 3 (some .int) :: zT
def rm_X11_letter : Room := { frames := 1, cells := 0, slots := 0, locals := 21 }
theorem cw_X11_letter {rm R : Room} {s : State} {args : Array Value} {own : String} {index : Nat} {c0 : Cond} (hts : ∀ w ∈ c0 :: zT, w.before args s = true) (hml : Cond.methodLink own index yX11_letter ∈ zT) (hrc : rm.cells = 0) (hrs : rm.slots = 0) (hR : rm.frames + 1 ≤ R.frames ∧ 8 + (3 + 11) + rm.locals ≤ R.locals) : CallW R s args own RX11 index yX11_letter cX11_letter 3 (some .int) vs_X11_letter rm 0 0 2 :=
  zwV 2 hts hml mw_488 mw_489 mw_1 mw_490 hrc hrs (by decide +kernel) hR
def w_X11_letter (N : Nat) (x1 : Int32) (x2 : Int32) (σ : zSt) (Q : Int32 → zSt → Prop) : Prop :=
  w_X4_isPerson_2 N x1 σ (fun r1 τ2 => (r1 = 0 → Q (-1 : Int32) τ2) ∧ (¬ r1 = 0 → (x2 < 0 → Q (-1 : Int32) τ2) ∧ (¬ x2 < 0 → (x2 < (6 : Int32) → (vp_in x1 10) ∧ (Q (((τ2.2.2.1 5 x1.toNatClampNeg) >>> (((5 : Int32) * ((5 : Int32) - x2)) &&& 31)) &&& (31 : Int32)) τ2)) ∧ (¬ x2 < (6 : Int32) → Q (-1 : Int32) τ2))))
variable {p : Program} {l : Launch} {e : Env} {s : State} {m : MethodId} {args : Array Value} {below : List Frame} {meth : Method} {c : Code} {dC : Nat → ClassId} {dI : Nat → Nat → Nat} {ad : Nat → Nat} {cI cJ : ClassId}
set_option maxHeartbeats 4000000 in
set_option maxRecDepth 100000 in
theorem t_X11_letter_0 (C0 : zCx p s m meth c args RX11 cX11_letter 3 (some .int) vs_X11_letter) (hK : va_K (dC, dI) vwCl (x_ty cI cJ) s) (N : Nat) {Q : Int32 → zSt → Prop} : ∀ (x1 : Int32) (x2 : Int32) (σ : zSt) (H : Heap) (locs : List Loc) (ls : Array Slot), w_X11_letter N x1 x2 σ Q → va_P (dC, dI) vwCl (x_W ad cI cJ σ) H → va_D (zAW x_n ad s.heap.size) (x_W ad cI cJ σ) → va_S (zAW x_n ad s.heap.size) s.heap H locs → lv_has ls 3 [(0, .ref (ad 0)), (1, .int x1), (2, .int x2)] → W p l e rm_X11_letter s m args below meth c H locs 0 0 (MQ below (zQi (dC, dI) (x_ty cI cJ) (x_W ad cI cJ) (zAW x_n ad s.heap.size) Q) args s 0 0 (zAW x_n ad s.heap.size)) (F0 m 0 ls []) := by
  obtain ⟨hx, hb, hml, hr, hown, hts, hlocks⟩ := id C0
  intro x1 x2 σ H locs ls h hP hD hS hl
  unfold w_X11_letter at h
  refine lv_aload_n hx hb dX11_letter_0 rfl (lv_at hl 0 rfl) ?_
  refine xg_0_2 hx hb hts hown hK hP mw_291 dX11_letter_1 ?_
  refine lv_iload_n hx hb dX11_letter_4 rfl (lv_at hl 1 rfl) ?_
  refine k_X4_isPerson_2 N ⟨hx, hb, hml, hown, hts⟩ mw_491 ⟨Nat.le_of_ble_eq_true rfl, Nat.le_of_ble_eq_true rfl⟩ h hK hP hD hS hl.1 (rest := []) (Nat.le_of_ble_eq_true rfl) dX11_letter_5 (fun r1 τ2 H locs h hP hD hS => ?_)
  refine lv_if_eq (tgt := 21) hx hb dX11_letter_8 (by decide) (fun hc => ?_) (fun hc => ?_)
  · have h := h.1 hc
    refine lv_iconst (v := (-1 : Int32)) hx hb dX11_letter_21 (by decide) ?_
    exact zret_i hx hb hr hlocks hK hP hD hS h dX11_letter_22
  · have h := h.2 hc
    refine lv_iload_n hx hb dX11_letter_11 rfl (lv_at hl 2 rfl) ?_
    refine lv_if_lt (tgt := 21) hx hb dX11_letter_12 (by decide) (fun hc => ?_) (fun hc => ?_)
    · have h := h.1 hc
      refine lv_iconst (v := (-1 : Int32)) hx hb dX11_letter_21 (by decide) ?_
      exact zret_i hx hb hr hlocks hK hP hD hS h dX11_letter_22
    · have h := h.2 hc
      refine lv_iload_n hx hb dX11_letter_15 rfl (lv_at hl 2 rfl) ?_
      refine lv_bipush (v := (6 : Int32)) hx hb dX11_letter_16 (by decide) ?_
      refine lv_icmp_lt (tgt := 23) hx hb dX11_letter_18 (by decide) (fun hc => ?_) (fun hc => ?_)
      · have h := h.1 hc
        refine lv_aload_n hx hb dX11_letter_23 rfl (lv_at hl 0 rfl) ?_
        refine xg_0_2 hx hb hts hown hK hP mw_291 dX11_letter_24 ?_
        refine xg_3_1 hx hb hts hown hK hP mw_68 dX11_letter_27 ?_
        refine lv_iload_n hx hb dX11_letter_30 rfl (lv_at hl 1 rfl) ?_
        refine xa_23 hx hb hK hP h.1 rfl dX11_letter_31 ?_
        have h := h.2
        refine lv_iconst (v := (5 : Int32)) hx hb dX11_letter_32 (by decide) ?_
        refine lv_iconst (v := (5 : Int32)) hx hb dX11_letter_33 (by decide) ?_
        refine lv_iload_n hx hb dX11_letter_34 rfl (lv_at hl 2 rfl) ?_
        refine lv_isub hx hb dX11_letter_35 ?_
        refine lv_imul hx hb dX11_letter_36 ?_
        refine lv_ishr hx hb dX11_letter_37 ?_
        refine lv_bipush (v := (31 : Int32)) hx hb dX11_letter_38 (by decide) ?_
        refine lv_iand hx hb dX11_letter_40 ?_
        exact zret_i hx hb hr hlocks hK hP hD hS h dX11_letter_41
      · have h := h.2 hc
        refine lv_iconst (v := (-1 : Int32)) hx hb dX11_letter_21 (by decide) ?_
        exact zret_i hx hb hr hlocks hK hP hD hS h dX11_letter_22
set_option maxHeartbeats 4000000 in
set_option maxRecDepth 100000 in
theorem c_X11_letter (N : Nat) (l : Launch) (dC : Nat → ClassId) (dI : Nat → Nat → Nat) (ad : Nat → Nat) (cI cJ : ClassId) (sz : Nat) (σ : zSt) (x1 : Int32) (x2 : Int32) (Q : Int32 → zSt → Prop) (h : w_X11_letter N x1 x2 σ Q) : Met l yX11_letter vs_X11_letter rm_X11_letter (va_Pc [.ref (ad 0), .int x1, .int x2] (zPc (dC, dI) (x_ty cI cJ) (x_W ad cI cJ) sz σ)) (zQi (dC, dI) (x_ty cI cJ) (x_W ad cI cJ) (zAW x_n ad sz) Q) 0 0 (zAW x_n ad sz) := by
  refine Met.ofW (cc := cX11_letter) (maxL := 3) (ret := (some .int)) (by decide) rfl ?_
  intro p e s m args below meth c s₁ B hml hv
  obtain ⟨rfl, hsz, hP, hK, hD0⟩ := hv
  subst hsz
  have C0 : zCx p s m meth c _ RX11 cX11_letter 3 (some .int) vs_X11_letter := ⟨B.exec, B.bytes, hml, B.returns, findClass_of_methodNamed B.named, atoms_spec (ws := vs_X11_letter) B.pre, B.notSynchronized⟩
  have hD := x_D0 (n0 := s.heap.size) hD0
  have hl := lv_entry ([.ref (ad 0), .int x1, .int x2]) (n := 3) (Nat.le_of_ble_eq_true rfl)
  rw [lg_entry_eq]
  generalize (lg_sl ([.ref (ad 0), .int x1, .int x2]) ++ List.replicate (3 - (lg_sl ([.ref (ad 0), .int x1, .int x2])).length) Slot.unset).toArray = ls at hl ⊢
  exact t_X11_letter_0 C0 hK N x1 x2 σ _ _ ls h hP hD va_S.rf hl
theorem k_X11_letter (N : Nat) {R : Room} {H : Heap} {locs : List Loc} {Q2 : State → Prop} {cc : ByteArray} {nL pc index : Nat} {ls : Array Slot} {rest : List Value} {own : String} {c0 : Cond} {σ : zSt} {x1 : Int32} {x2 : Int32} {Q : Int32 → zSt → Prop} (S0 : CallFix p m c cc nL s args (c0 :: zT) own) (hml : Cond.methodLink own index yX11_letter ∈ zT) (hR : rm_X11_letter.frames + 1 ≤ R.frames ∧ 8 + (3 + 11) + rm_X11_letter.locals ≤ R.locals) (h : w_X11_letter N x1 x2 σ Q) (hK : va_K (dC, dI) vwCl (x_ty cI cJ) s) (hP : va_P (dC, dI) vwCl (x_W ad cI cJ σ) H) (hD : va_D (zAW x_n ad s.heap.size) (x_W ad cI cJ σ)) (hS : va_S (zAW x_n ad s.heap.size) s.heap H locs) (hsz : ls.size = nL) (hW : (rest.map fun v => v.category).sum ≤ 8) (hdg : decode cc pc = .ok (.invokevirtual index, 3)) (kk : ∀ (r : Int32) (τ : zSt) (H1 : Heap) (locs1 : List Loc), Q r τ → va_P (dC, dI) vwCl (x_W ad cI cJ τ) H1 → va_D (zAW x_n ad s.heap.size) (x_W ad cI cJ τ) → va_S (zAW x_n ad s.heap.size) s.heap H1 locs1 → W p l e R s m args below meth c H1 locs1 0 0 Q2 (F0 m (pc + 3) ls (.int r :: rest))) : W p l e R s m args below meth c H locs 0 0 Q2 (F0 m pc ls (.int x2 :: .int x1 :: .ref (ad 0) :: rest)) :=
  zcv_i (T := TX11) (N' := 17) (k := 0) (ci := 11) (fs := x_f0 ad σ) [.int x1, .int x2] S0 (c_X11_letter N l dC dI ad cI cJ H.size σ x1 x2 Q h) (cw_X11_letter S0.2.2.2.2 hml rfl rfl hR) rfl rfl hK hP hD hS rfl hsz hW rfl hdg kk
end q04
section q04
def vs_X4_isNet : List Cond := .code yX4_isNet cX4_isNet 3 (some .boolean) :: zT
def rm_X4_isNet : Room := { frames := 0, cells := 0, slots := 0, locals := 0 }
theorem cw_X4_isNet {rm R : Room} {s : State} {args : Array Value} {own : String} {index : Nat} {c0 : Cond} (hts : ∀ w ∈ c0 :: zT, w.before args s = true) (hml : Cond.methodLink own index yX4_isNet ∈ zT) (hrc : rm.cells = 0) (hrs : rm.slots = 0) (hR : rm.frames + 1 ≤ R.frames ∧ 8 + (3 + 11) + rm.locals ≤ R.locals) : CallW R s args own RX4 index yX4_isNet cX4_isNet 3 (some .boolean) vs_X4_isNet rm 0 0 1 :=
  zwV 1 hts hml mw_497 mw_498 mw_4 mw_499 hrc hrs (by decide +kernel) hR
def w_X4_isNet (N : Nat) (x1 : Int64) (σ : zSt) (Q : Int32 → zSt → Prop) : Prop :=
  ((lg_cmp x1 (0 : Int64)) < 0 → Q (0 : Int32) σ) ∧ (¬ (lg_cmp x1 (0 : Int64)) < 0 → (0 ≤ (lg_cmp x1 ((1 : Int64) <<< ((σ.1 2).toInt64 &&& 63))) → Q (0 : Int32) σ) ∧ (¬ 0 ≤ (lg_cmp x1 ((1 : Int64) <<< ((σ.1 2).toInt64 &&& 63))) → Q (1 : Int32) σ))
variable {p : Program} {l : Launch} {e : Env} {s : State} {m : MethodId} {args : Array Value} {below : List Frame} {meth : Method} {c : Code} {dC : Nat → ClassId} {dI : Nat → Nat → Nat} {ad : Nat → Nat} {cI cJ : ClassId}
set_option maxHeartbeats 4000000 in
set_option maxRecDepth 100000 in
theorem t_X4_isNet_0 (C0 : zCx p s m meth c args RX4 cX4_isNet 3 (some .boolean) vs_X4_isNet) (hK : va_K (dC, dI) vwCl (x_ty cI cJ) s) (N : Nat) {Q : Int32 → zSt → Prop} : ∀ (x1 : Int64) (σ : zSt) (H : Heap) (locs : List Loc) (ls : Array Slot), w_X4_isNet N x1 σ Q → va_P (dC, dI) vwCl (x_W ad cI cJ σ) H → va_D (zAW x_n ad s.heap.size) (x_W ad cI cJ σ) → va_S (zAW x_n ad s.heap.size) s.heap H locs → lv_has ls 3 [(0, .ref (ad 3)), (1, .long x1)] → W p l e rm_X4_isNet s m args below meth c H locs 0 0 (MQ below (zQi (dC, dI) (x_ty cI cJ) (x_W ad cI cJ) (zAW x_n ad s.heap.size) Q) args s 0 0 (zAW x_n ad s.heap.size)) (F0 m 0 ls []) := by
  obtain ⟨hx, hb, hml, hr, hown, hts, hlocks⟩ := id C0
  intro x1 σ H locs ls h hP hD hS hl
  unfold w_X4_isNet at h
  refine lv_lload_n hx hb dX4_isNet_0 rfl (lv_at hl 1 rfl) ?_
  refine lv_lconst (v := (0 : Int64)) hx hb dX4_isNet_1 (by decide) ?_
  refine W.lcmp hx hb dX4_isNet_2 ?_
  refine lv_if_lt (tgt := 21) hx hb dX4_isNet_3 (by decide) (fun hc => ?_) (fun hc => ?_)
  · have h := h.1 hc
    refine lv_iconst (v := (0 : Int32)) hx hb dX4_isNet_21 (by decide) ?_
    exact zret_z hx hb hr hlocks hK hP hD hS zb_0 h dX4_isNet_22
  · have h := h.2 hc
    refine lv_lload_n hx hb dX4_isNet_6 rfl (lv_at hl 1 rfl) ?_
    refine lv_lconst (v := (1 : Int64)) hx hb dX4_isNet_7 (by decide) ?_
    refine lv_aload_n hx hb dX4_isNet_8 rfl (lv_at hl 0 rfl) ?_
    refine xg_3_5 hx hb hts hown hK hP mw_78 dX4_isNet_9 ?_
    refine lv_lshl hx hb dX4_isNet_12 rfl ?_
    refine W.lcmp hx hb dX4_isNet_13 ?_
    refine lv_if_ge (tgt := 21) hx hb dX4_isNet_14 (by decide) (fun hc => ?_) (fun hc => ?_)
    · have h := h.1 hc
      refine lv_iconst (v := (0 : Int32)) hx hb dX4_isNet_21 (by decide) ?_
      exact zret_z hx hb hr hlocks hK hP hD hS zb_0 h dX4_isNet_22
    · have h := h.2 hc
      refine lv_iconst (v := (1 : Int32)) hx hb dX4_isNet_17 (by decide) ?_
      refine lv_goto (tgt := 22) hx hb dX4_isNet_18 (by decide) ?_
      exact zret_z hx hb hr hlocks hK hP hD hS zb_1 h dX4_isNet_22
set_option maxHeartbeats 4000000 in
set_option maxRecDepth 100000 in
theorem c_X4_isNet (N : Nat) (l : Launch) (dC : Nat → ClassId) (dI : Nat → Nat → Nat) (ad : Nat → Nat) (cI cJ : ClassId) (sz : Nat) (σ : zSt) (x1 : Int64) (Q : Int32 → zSt → Prop) (h : w_X4_isNet N x1 σ Q) : Met l yX4_isNet vs_X4_isNet rm_X4_isNet (va_Pc [.ref (ad 3), .long x1] (zPc (dC, dI) (x_ty cI cJ) (x_W ad cI cJ) sz σ)) (zQi (dC, dI) (x_ty cI cJ) (x_W ad cI cJ) (zAW x_n ad sz) Q) 0 0 (zAW x_n ad sz) := by
  refine Met.ofW (cc := cX4_isNet) (maxL := 3) (ret := (some .boolean)) (by decide) rfl ?_
  intro p e s m args below meth c s₁ B hml hv
  obtain ⟨rfl, hsz, hP, hK, hD0⟩ := hv
  subst hsz
  have C0 : zCx p s m meth c _ RX4 cX4_isNet 3 (some .boolean) vs_X4_isNet := ⟨B.exec, B.bytes, hml, B.returns, findClass_of_methodNamed B.named, atoms_spec (ws := vs_X4_isNet) B.pre, B.notSynchronized⟩
  have hD := x_D0 (n0 := s.heap.size) hD0
  have hl := lv_entry ([.ref (ad 3), .long x1]) (n := 3) (Nat.le_of_ble_eq_true rfl)
  rw [lg_entry_eq]
  generalize (lg_sl ([.ref (ad 3), .long x1]) ++ List.replicate (3 - (lg_sl ([.ref (ad 3), .long x1])).length) Slot.unset).toArray = ls at hl ⊢
  exact t_X4_isNet_0 C0 hK N x1 σ _ _ ls h hP hD va_S.rf hl
theorem k_X4_isNet (N : Nat) {R : Room} {H : Heap} {locs : List Loc} {Q2 : State → Prop} {cc : ByteArray} {nL pc index : Nat} {ls : Array Slot} {rest : List Value} {own : String} {c0 : Cond} {σ : zSt} {x1 : Int64} {Q : Int32 → zSt → Prop} (S0 : CallFix p m c cc nL s args (c0 :: zT) own) (hml : Cond.methodLink own index yX4_isNet ∈ zT) (hR : rm_X4_isNet.frames + 1 ≤ R.frames ∧ 8 + (3 + 11) + rm_X4_isNet.locals ≤ R.locals) (h : w_X4_isNet N x1 σ Q) (hK : va_K (dC, dI) vwCl (x_ty cI cJ) s) (hP : va_P (dC, dI) vwCl (x_W ad cI cJ σ) H) (hD : va_D (zAW x_n ad s.heap.size) (x_W ad cI cJ σ)) (hS : va_S (zAW x_n ad s.heap.size) s.heap H locs) (hsz : ls.size = nL) (hW : (rest.map fun v => v.category).sum ≤ 8) (hdg : decode cc pc = .ok (.invokevirtual index, 3)) (kk : ∀ (r : Int32) (τ : zSt) (H1 : Heap) (locs1 : List Loc), Q r τ → va_P (dC, dI) vwCl (x_W ad cI cJ τ) H1 → va_D (zAW x_n ad s.heap.size) (x_W ad cI cJ τ) → va_S (zAW x_n ad s.heap.size) s.heap H1 locs1 → W p l e R s m args below meth c H1 locs1 0 0 Q2 (F0 m (pc + 3) ls (.int r :: rest))) : W p l e R s m args below meth c H locs 0 0 Q2 (F0 m pc ls (.long x1 :: .ref (ad 3) :: rest)) :=
  zcv_i (T := TX4) (N' := 8) (k := 3) (ci := 4) (fs := x_f3 ad σ) [.long x1] S0 (c_X4_isNet N l dC dI ad cI cJ H.size σ x1 Q h) (cw_X4_isNet S0.2.2.2.2 hml rfl rfl hR) rfl rfl hK hP hD hS rfl hsz hW rfl hdg kk
end q04
section q04
def vs_X4_may : List Cond := .code yX4_may cX4_may 4 (some .boolean) :: zT
def rm_X4_may : Room := { frames := 1, cells := 0, slots := 0, locals := 21 }
theorem cw_X4_may {rm R : Room} {s : State} {args : Array Value} {own : String} {index : Nat} {c0 : Cond} (hts : ∀ w ∈ c0 :: zT, w.before args s = true) (hml : Cond.methodLink own index yX4_may ∈ zT) (hrc : rm.cells = 0) (hrs : rm.slots = 0) (hR : rm.frames + 1 ≤ R.frames ∧ 8 + (4 + 11) + rm.locals ≤ R.locals) : CallW R s args own RX4 index yX4_may cX4_may 4 (some .boolean) vs_X4_may rm 0 0 1 :=
  zwV 1 hts hml mw_501 mw_502 mw_4 mw_503 hrc hrs (by decide +kernel) hR
def b_X4_may_15 (N : Nat) (k_15 : Int64 → Int32 → zSt → Prop) (Q : Int32 → zSt → Prop) (x1 : Int64) (x3 : Int32) (σ : zSt) : Prop :=
  ((σ.1 1) ≤ x3 → Q (1 : Int32) σ) ∧ (¬ (σ.1 1) ≤ x3 → (vp_in x3 10) ∧ (w_J13_bitCount_95d88 N (x1 &&& (σ.2.2.2 2 x3.toNatClampNeg)) σ (fun r1 τ2 => (vp_in x3 10) ∧ ((r1 ≤ (τ2.2.2.1 7 x3.toNatClampNeg) → ∀ v3 : Int32, v3 = x3 + (1 : Int32) → k_15 x1 v3 τ2) ∧ (¬ r1 ≤ (τ2.2.2.1 7 x3.toNatClampNeg) → Q (0 : Int32) τ2)))))
def w_X4_may_15 (N : Nat) (Q : Int32 → zSt → Prop) : Nat → Int64 → Int32 → zSt → Prop
  | 0 => fun _ _ _ => False
  | f + 1 => b_X4_may_15 N (w_X4_may_15 N  Q f) Q
def w_X4_may (N : Nat) (x1 : Int64) (σ : zSt) (Q : Int32 → zSt → Prop) : Prop :=
  ((lg_cmp (x1 &&& (σ.2.1 2)) (0 : Int64)) = 0 → w_X4_may_15 N Q N x1 (0 : Int32) σ) ∧ (¬ (lg_cmp (x1 &&& (σ.2.1 2)) (0 : Int64)) = 0 → Q (0 : Int32) σ)
variable {p : Program} {l : Launch} {e : Env} {s : State} {m : MethodId} {args : Array Value} {below : List Frame} {meth : Method} {c : Code} {dC : Nat → ClassId} {dI : Nat → Nat → Nat} {ad : Nat → Nat} {cI cJ : ClassId}
set_option maxHeartbeats 4000000 in
set_option maxRecDepth 100000 in
theorem tb_X4_may_15 (C0 : zCx p s m meth c args RX4 cX4_may 4 (some .boolean) vs_X4_may) (hK : va_K (dC, dI) vwCl (x_ty cI cJ) s) (N : Nat) {Q : Int32 → zSt → Prop} {k_15 : Int64 → Int32 → zSt → Prop} (hk_15 : ∀ (x1 : Int64) (x3 : Int32) (σ : zSt) (H : Heap) (locs : List Loc) (ls : Array Slot), k_15 x1 x3 σ → va_P (dC, dI) vwCl (x_W ad cI cJ σ) H → va_D (zAW x_n ad s.heap.size) (x_W ad cI cJ σ) → va_S (zAW x_n ad s.heap.size) s.heap H locs → lv_has ls 4 [(0, .ref (ad 3)), (1, .long x1), (3, .int x3)] → W p l e rm_X4_may s m args below meth c H locs 0 0 (MQ below (zQi (dC, dI) (x_ty cI cJ) (x_W ad cI cJ) (zAW x_n ad s.heap.size) Q) args s 0 0 (zAW x_n ad s.heap.size)) (F0 m 15 ls [])) : ∀ (x1 : Int64) (x3 : Int32) (σ : zSt) (H : Heap) (locs : List Loc) (ls : Array Slot), b_X4_may_15 N k_15 Q x1 x3 σ → va_P (dC, dI) vwCl (x_W ad cI cJ σ) H → va_D (zAW x_n ad s.heap.size) (x_W ad cI cJ σ) → va_S (zAW x_n ad s.heap.size) s.heap H locs → lv_has ls 4 [(0, .ref (ad 3)), (1, .long x1), (3, .int x3)] → W p l e rm_X4_may s m args below meth c H locs 0 0 (MQ below (zQi (dC, dI) (x_ty cI cJ) (x_W ad cI cJ) (zAW x_n ad s.heap.size) Q) args s 0 0 (zAW x_n ad s.heap.size)) (F0 m 15 ls []) := by
  obtain ⟨hx, hb, hml, hr, hown, hts, hlocks⟩ := id C0
  intro x1 x3 σ H locs ls h hP hD hS hl
  unfold b_X4_may_15 at h
  refine lv_iload_n hx hb dX4_may_15 rfl (lv_at hl 2 rfl) ?_
  refine lv_aload_n hx hb dX4_may_16 rfl (lv_at hl 0 rfl) ?_
  refine xg_3_4 hx hb hts hown hK hP mw_73 dX4_may_17 ?_
  refine lv_icmp_ge (tgt := 54) hx hb dX4_may_20 (by decide) (fun hc => ?_) (fun hc => ?_)
  · have h := h.1 hc
    refine lv_iconst (v := (1 : Int32)) hx hb dX4_may_54 (by decide) ?_
    exact zret_z hx hb hr hlocks hK hP hD hS zb_1 h dX4_may_55
  · have h := h.2 hc
    refine lv_lload_n hx hb dX4_may_23 rfl (lv_at hl 1 rfl) ?_
    refine lv_aload_n hx hb dX4_may_24 rfl (lv_at hl 0 rfl) ?_
    refine xg_3_0 hx hb hts hown hK hP mw_64 dX4_may_25 ?_
    refine xg_2_2 hx hb hts hown hK hP mw_55 dX4_may_28 ?_
    refine lv_iload_n hx hb dX4_may_31 rfl (lv_at hl 2 rfl) ?_
    refine xa_22 hx hb hK hP h.1 rfl dX4_may_32 ?_
    have h := h.2
    refine lv_land hx hb dX4_may_33 ?_
    refine k_J13_bitCount_95d88 N ⟨hx, hb, hml, hown, hts⟩ mw_504 ⟨Nat.le_of_ble_eq_true rfl, Nat.le_of_ble_eq_true rfl⟩ h hK hP hD hS hl.1 (rest := []) (Nat.le_of_ble_eq_true rfl) dX4_may_34 (fun r1 τ2 H locs h hP hD hS => ?_)
    refine lv_aload_n hx hb dX4_may_37 rfl (lv_at hl 0 rfl) ?_
    refine xg_3_3 hx hb hts hown hK hP mw_71 dX4_may_38 ?_
    refine lv_iload_n hx hb dX4_may_41 rfl (lv_at hl 2 rfl) ?_
    refine xa_25 hx hb hK hP h.1 rfl dX4_may_42 ?_
    have h := h.2
    refine lv_icmp_le (tgt := 48) hx hb dX4_may_43 (by decide) (fun hc => ?_) (fun hc => ?_)
    · have h := h.1 hc
      obtain ⟨v3, ev3⟩ : ∃ z : Int32, z = x3 + (1 : Int32) := ⟨_, rfl⟩
      have h := h v3 ev3
      refine lv_iinc (v := v3) (lv' := [(3, .int v3), (0, .ref (ad 3)), (1, .long x1)]) hx hb dX4_may_48 hl (k := 2) rfl (by rw [ev3]; rfl) (by decide) rfl (fun ls hl => ?_)
      refine lv_goto (tgt := 15) hx hb dX4_may_51 (by decide) ?_
      exact hk_15 x1 v3 τ2 _ _ _ h hP hD hS (lv_sub hl [1, 2, 0] rfl)
    · have h := h.2 hc
      refine lv_iconst (v := (0 : Int32)) hx hb dX4_may_46 (by decide) ?_
      exact zret_z hx hb hr hlocks hK hP hD hS zb_0 h dX4_may_47
set_option maxHeartbeats 4000000 in
set_option maxRecDepth 100000 in
theorem t_X4_may_15 (C0 : zCx p s m meth c args RX4 cX4_may 4 (some .boolean) vs_X4_may) (hK : va_K (dC, dI) vwCl (x_ty cI cJ) s) (N : Nat) {Q : Int32 → zSt → Prop} : ∀ (f : Nat) (x1 : Int64) (x3 : Int32) (σ : zSt) (H : Heap) (locs : List Loc) (ls : Array Slot), w_X4_may_15 N  Q f x1 x3 σ → va_P (dC, dI) vwCl (x_W ad cI cJ σ) H → va_D (zAW x_n ad s.heap.size) (x_W ad cI cJ σ) → va_S (zAW x_n ad s.heap.size) s.heap H locs → lv_has ls 4 [(0, .ref (ad 3)), (1, .long x1), (3, .int x3)] → W p l e rm_X4_may s m args below meth c H locs 0 0 (MQ below (zQi (dC, dI) (x_ty cI cJ) (x_W ad cI cJ) (zAW x_n ad s.heap.size) Q) args s 0 0 (zAW x_n ad s.heap.size)) (F0 m 15 ls []) := by
  intro f
  induction f with
  | zero => intro x1 x3 σ H locs ls h; exact h.elim
  | succ f ih =>
    intro x1 x3 σ H locs ls h hP hD hS hl
    exact tb_X4_may_15 C0 hK N  (k_15 := w_X4_may_15 N  Q f) ih x1 x3 σ H locs ls h hP hD hS hl
set_option maxHeartbeats 4000000 in
set_option maxRecDepth 100000 in
theorem t_X4_may_0 (C0 : zCx p s m meth c args RX4 cX4_may 4 (some .boolean) vs_X4_may) (hK : va_K (dC, dI) vwCl (x_ty cI cJ) s) (N : Nat) {Q : Int32 → zSt → Prop} : ∀ (x1 : Int64) (σ : zSt) (H : Heap) (locs : List Loc) (ls : Array Slot), w_X4_may N x1 σ Q → va_P (dC, dI) vwCl (x_W ad cI cJ σ) H → va_D (zAW x_n ad s.heap.size) (x_W ad cI cJ σ) → va_S (zAW x_n ad s.heap.size) s.heap H locs → lv_has ls 4 [(0, .ref (ad 3)), (1, .long x1)] → W p l e rm_X4_may s m args below meth c H locs 0 0 (MQ below (zQi (dC, dI) (x_ty cI cJ) (x_W ad cI cJ) (zAW x_n ad s.heap.size) Q) args s 0 0 (zAW x_n ad s.heap.size)) (F0 m 0 ls []) := by
  obtain ⟨hx, hb, hml, hr, hown, hts, hlocks⟩ := id C0
  intro x1 σ H locs ls h hP hD hS hl
  unfold w_X4_may at h
  refine lv_lload_n hx hb dX4_may_0 rfl (lv_at hl 1 rfl) ?_
  refine lv_aload_n hx hb dX4_may_1 rfl (lv_at hl 0 rfl) ?_
  refine xg_3_7 hx hb hts hown hK hP mw_85 dX4_may_2 ?_
  refine lv_land hx hb dX4_may_5 ?_
  refine lv_lconst (v := (0 : Int64)) hx hb dX4_may_6 (by decide) ?_
  refine W.lcmp hx hb dX4_may_7 ?_
  refine lv_if_eq (tgt := 13) hx hb dX4_may_8 (by decide) (fun hc => ?_) (fun hc => ?_)
  · have h := h.1 hc
    refine lv_iconst (v := (0 : Int32)) hx hb dX4_may_13 (by decide) ?_
    refine lv_istore_n (lv' := [(3, .int (0 : Int32)), (0, .ref (ad 3)), (1, .long x1)]) hx hb dX4_may_14 rfl hl (by decide) rfl (fun ls hl => ?_)
    exact t_X4_may_15 C0 hK N  N x1 (0 : Int32) σ _ _ _ h hP hD hS (lv_sub hl [1, 2, 0] rfl)
  · have h := h.2 hc
    refine lv_iconst (v := (0 : Int32)) hx hb dX4_may_11 (by decide) ?_
    exact zret_z hx hb hr hlocks hK hP hD hS zb_0 h dX4_may_12
set_option maxHeartbeats 4000000 in
set_option maxRecDepth 100000 in
theorem c_X4_may (N : Nat) (l : Launch) (dC : Nat → ClassId) (dI : Nat → Nat → Nat) (ad : Nat → Nat) (cI cJ : ClassId) (sz : Nat) (σ : zSt) (x1 : Int64) (Q : Int32 → zSt → Prop) (h : w_X4_may N x1 σ Q) : Met l yX4_may vs_X4_may rm_X4_may (va_Pc [.ref (ad 3), .long x1] (zPc (dC, dI) (x_ty cI cJ) (x_W ad cI cJ) sz σ)) (zQi (dC, dI) (x_ty cI cJ) (x_W ad cI cJ) (zAW x_n ad sz) Q) 0 0 (zAW x_n ad sz) := by
  refine Met.ofW (cc := cX4_may) (maxL := 4) (ret := (some .boolean)) (by decide) rfl ?_
  intro p e s m args below meth c s₁ B hml hv
  obtain ⟨rfl, hsz, hP, hK, hD0⟩ := hv
  subst hsz
  have C0 : zCx p s m meth c _ RX4 cX4_may 4 (some .boolean) vs_X4_may := ⟨B.exec, B.bytes, hml, B.returns, findClass_of_methodNamed B.named, atoms_spec (ws := vs_X4_may) B.pre, B.notSynchronized⟩
  have hD := x_D0 (n0 := s.heap.size) hD0
  have hl := lv_entry ([.ref (ad 3), .long x1]) (n := 4) (Nat.le_of_ble_eq_true rfl)
  rw [lg_entry_eq]
  generalize (lg_sl ([.ref (ad 3), .long x1]) ++ List.replicate (4 - (lg_sl ([.ref (ad 3), .long x1])).length) Slot.unset).toArray = ls at hl ⊢
  exact t_X4_may_0 C0 hK N x1 σ _ _ ls h hP hD va_S.rf hl
theorem k_X4_may (N : Nat) {R : Room} {H : Heap} {locs : List Loc} {Q2 : State → Prop} {cc : ByteArray} {nL pc index : Nat} {ls : Array Slot} {rest : List Value} {own : String} {c0 : Cond} {σ : zSt} {x1 : Int64} {Q : Int32 → zSt → Prop} (S0 : CallFix p m c cc nL s args (c0 :: zT) own) (hml : Cond.methodLink own index yX4_may ∈ zT) (hR : rm_X4_may.frames + 1 ≤ R.frames ∧ 8 + (4 + 11) + rm_X4_may.locals ≤ R.locals) (h : w_X4_may N x1 σ Q) (hK : va_K (dC, dI) vwCl (x_ty cI cJ) s) (hP : va_P (dC, dI) vwCl (x_W ad cI cJ σ) H) (hD : va_D (zAW x_n ad s.heap.size) (x_W ad cI cJ σ)) (hS : va_S (zAW x_n ad s.heap.size) s.heap H locs) (hsz : ls.size = nL) (hW : (rest.map fun v => v.category).sum ≤ 8) (hdg : decode cc pc = .ok (.invokevirtual index, 3)) (kk : ∀ (r : Int32) (τ : zSt) (H1 : Heap) (locs1 : List Loc), Q r τ → va_P (dC, dI) vwCl (x_W ad cI cJ τ) H1 → va_D (zAW x_n ad s.heap.size) (x_W ad cI cJ τ) → va_S (zAW x_n ad s.heap.size) s.heap H1 locs1 → W p l e R s m args below meth c H1 locs1 0 0 Q2 (F0 m (pc + 3) ls (.int r :: rest))) : W p l e R s m args below meth c H locs 0 0 Q2 (F0 m pc ls (.long x1 :: .ref (ad 3) :: rest)) :=
  zcv_i (T := TX4) (N' := 8) (k := 3) (ci := 4) (fs := x_f3 ad σ) [.long x1] S0 (c_X4_may N l dC dI ad cI cJ H.size σ x1 Q h) (cw_X4_may S0.2.2.2.2 hml rfl rfl hR) rfl rfl hK hP hD hS rfl hsz hW rfl hdg kk
end q04
section q04
def vs_X11_net : List Cond := .code yX11_net cX11_net 3 (some .boolean) :: zT
def rm_X11_net : Room := { frames := 2, cells := 0, slots := 0, locals := 44 }
theorem cw_X11_net {rm R : Room} {s : State} {args : Array Value} {own : String} {index : Nat} {c0 : Cond} (hts : ∀ w ∈ c0 :: zT, w.before args s = true) (hml : Cond.methodLink own index yX11_net ∈ zT) (hrc : rm.cells = 0) (hrs : rm.slots = 0) (hR : rm.frames + 1 ≤ R.frames ∧ 8 + (3 + 11) + rm.locals ≤ R.locals) : CallW R s args own RX11 index yX11_net cX11_net 3 (some .boolean) vs_X11_net rm 0 0 1 :=
  zwV 1 hts hml mw_493 mw_494 mw_1 mw_495 hrc hrs (by decide +kernel) hR
def w_X11_net (N : Nat) (x1 : Int64) (σ : zSt) (Q : Int32 → zSt → Prop) : Prop :=
  w_X4_isNet N x1 σ (fun r1 τ2 => (r1 = 0 → Q (0 : Int32) τ2) ∧ (¬ r1 = 0 → w_X4_may N x1 τ2 (fun r3 τ4 => (r3 = 0 → Q (0 : Int32) τ4) ∧ (¬ r3 = 0 → ∀ τ5 : zSt, τ5 = zJ τ4 0 x1 → Q (1 : Int32) τ5))))
variable {p : Program} {l : Launch} {e : Env} {s : State} {m : MethodId} {args : Array Value} {below : List Frame} {meth : Method} {c : Code} {dC : Nat → ClassId} {dI : Nat → Nat → Nat} {ad : Nat → Nat} {cI cJ : ClassId}
set_option maxHeartbeats 4000000 in
set_option maxRecDepth 100000 in
theorem t_X11_net_0 (C0 : zCx p s m meth c args RX11 cX11_net 3 (some .boolean) vs_X11_net) (hK : va_K (dC, dI) vwCl (x_ty cI cJ) s) (N : Nat) {Q : Int32 → zSt → Prop} : ∀ (x1 : Int64) (σ : zSt) (H : Heap) (locs : List Loc) (ls : Array Slot), w_X11_net N x1 σ Q → va_P (dC, dI) vwCl (x_W ad cI cJ σ) H → va_D (zAW x_n ad s.heap.size) (x_W ad cI cJ σ) → va_S (zAW x_n ad s.heap.size) s.heap H locs → lv_has ls 3 [(0, .ref (ad 0)), (1, .long x1)] → W p l e rm_X11_net s m args below meth c H locs 0 0 (MQ below (zQi (dC, dI) (x_ty cI cJ) (x_W ad cI cJ) (zAW x_n ad s.heap.size) Q) args s 0 0 (zAW x_n ad s.heap.size)) (F0 m 0 ls []) := by
  obtain ⟨hx, hb, hml, hr, hown, hts, hlocks⟩ := id C0
  intro x1 σ H locs ls h hP hD hS hl
  unfold w_X11_net at h
  refine lv_aload_n hx hb dX11_net_0 rfl (lv_at hl 0 rfl) ?_
  refine xg_0_2 hx hb hts hown hK hP mw_291 dX11_net_1 ?_
  refine lv_lload_n hx hb dX11_net_4 rfl (lv_at hl 1 rfl) ?_
  refine k_X4_isNet N ⟨hx, hb, hml, hown, hts⟩ mw_496 ⟨Nat.le_of_ble_eq_true rfl, Nat.le_of_ble_eq_true rfl⟩ h hK hP hD hS hl.1 (rest := []) (Nat.le_of_ble_eq_true rfl) dX11_net_5 (fun r1 τ2 H locs h hP hD hS => ?_)
  refine lv_if_eq (tgt := 22) hx hb dX11_net_8 (by decide) (fun hc => ?_) (fun hc => ?_)
  · have h := h.1 hc
    refine lv_iconst (v := (0 : Int32)) hx hb dX11_net_22 (by decide) ?_
    exact zret_z hx hb hr hlocks hK hP hD hS zb_0 h dX11_net_23
  · have h := h.2 hc
    refine lv_aload_n hx hb dX11_net_11 rfl (lv_at hl 0 rfl) ?_
    refine xg_0_2 hx hb hts hown hK hP mw_291 dX11_net_12 ?_
    refine lv_lload_n hx hb dX11_net_15 rfl (lv_at hl 1 rfl) ?_
    refine k_X4_may N ⟨hx, hb, hml, hown, hts⟩ mw_500 ⟨Nat.le_of_ble_eq_true rfl, Nat.le_of_ble_eq_true rfl⟩ h hK hP hD hS hl.1 (rest := []) (Nat.le_of_ble_eq_true rfl) dX11_net_16 (fun r3 τ4 H locs h hP hD hS => ?_)
    refine lv_if_ne (tgt := 24) hx hb dX11_net_19 (by decide) (fun hc => ?_) (fun hc => ?_)
    · have h := h.2 hc
      refine lv_aload_n hx hb dX11_net_24 rfl (lv_at hl 0 rfl) ?_
      refine lv_lload_n hx hb dX11_net_25 rfl (lv_at hl 1 rfl) ?_
      refine xp_0_15 hx hb hts hown hK hP hD hS mw_304 dX11_net_26 (fun τ5 H locs eτ5 hP hD hS => ?_)
      have h := h τ5 eτ5
      refine lv_iconst (v := (1 : Int32)) hx hb dX11_net_29 (by decide) ?_
      exact zret_z hx hb hr hlocks hK hP hD hS zb_1 h dX11_net_30
    · have h := h.1 hc
      refine lv_iconst (v := (0 : Int32)) hx hb dX11_net_22 (by decide) ?_
      exact zret_z hx hb hr hlocks hK hP hD hS zb_0 h dX11_net_23
set_option maxHeartbeats 4000000 in
set_option maxRecDepth 100000 in
theorem c_X11_net (N : Nat) (l : Launch) (dC : Nat → ClassId) (dI : Nat → Nat → Nat) (ad : Nat → Nat) (cI cJ : ClassId) (sz : Nat) (σ : zSt) (x1 : Int64) (Q : Int32 → zSt → Prop) (h : w_X11_net N x1 σ Q) : Met l yX11_net vs_X11_net rm_X11_net (va_Pc [.ref (ad 0), .long x1] (zPc (dC, dI) (x_ty cI cJ) (x_W ad cI cJ) sz σ)) (zQi (dC, dI) (x_ty cI cJ) (x_W ad cI cJ) (zAW x_n ad sz) Q) 0 0 (zAW x_n ad sz) := by
  refine Met.ofW (cc := cX11_net) (maxL := 3) (ret := (some .boolean)) (by decide) rfl ?_
  intro p e s m args below meth c s₁ B hml hv
  obtain ⟨rfl, hsz, hP, hK, hD0⟩ := hv
  subst hsz
  have C0 : zCx p s m meth c _ RX11 cX11_net 3 (some .boolean) vs_X11_net := ⟨B.exec, B.bytes, hml, B.returns, findClass_of_methodNamed B.named, atoms_spec (ws := vs_X11_net) B.pre, B.notSynchronized⟩
  have hD := x_D0 (n0 := s.heap.size) hD0
  have hl := lv_entry ([.ref (ad 0), .long x1]) (n := 3) (Nat.le_of_ble_eq_true rfl)
  rw [lg_entry_eq]
  generalize (lg_sl ([.ref (ad 0), .long x1]) ++ List.replicate (3 - (lg_sl ([.ref (ad 0), .long x1])).length) Slot.unset).toArray = ls at hl ⊢
  exact t_X11_net_0 C0 hK N x1 σ _ _ ls h hP hD va_S.rf hl
theorem k_X11_net (N : Nat) {R : Room} {H : Heap} {locs : List Loc} {Q2 : State → Prop} {cc : ByteArray} {nL pc index : Nat} {ls : Array Slot} {rest : List Value} {own : String} {c0 : Cond} {σ : zSt} {x1 : Int64} {Q : Int32 → zSt → Prop} (S0 : CallFix p m c cc nL s args (c0 :: zT) own) (hml : Cond.methodLink own index yX11_net ∈ zT) (hR : rm_X11_net.frames + 1 ≤ R.frames ∧ 8 + (3 + 11) + rm_X11_net.locals ≤ R.locals) (h : w_X11_net N x1 σ Q) (hK : va_K (dC, dI) vwCl (x_ty cI cJ) s) (hP : va_P (dC, dI) vwCl (x_W ad cI cJ σ) H) (hD : va_D (zAW x_n ad s.heap.size) (x_W ad cI cJ σ)) (hS : va_S (zAW x_n ad s.heap.size) s.heap H locs) (hsz : ls.size = nL) (hW : (rest.map fun v => v.category).sum ≤ 8) (hdg : decode cc pc = .ok (.invokevirtual index, 3)) (kk : ∀ (r : Int32) (τ : zSt) (H1 : Heap) (locs1 : List Loc), Q r τ → va_P (dC, dI) vwCl (x_W ad cI cJ τ) H1 → va_D (zAW x_n ad s.heap.size) (x_W ad cI cJ τ) → va_S (zAW x_n ad s.heap.size) s.heap H1 locs1 → W p l e R s m args below meth c H1 locs1 0 0 Q2 (F0 m (pc + 3) ls (.int r :: rest))) : W p l e R s m args below meth c H locs 0 0 Q2 (F0 m pc ls (.long x1 :: .ref (ad 0) :: rest)) :=
  zcv_i (T := TX11) (N' := 17) (k := 0) (ci := 11) (fs := x_f0 ad σ) [.long x1] S0 (c_X11_net N l dC dI ad cI cJ H.size σ x1 Q h) (cw_X11_net S0.2.2.2.2 hml rfl rfl hR) rfl rfl hK hP hD hS rfl hsz hW rfl hdg kk
end q04
section q04
def vs_X11_net_ : List Cond := .code yX11_net_ cX11_net_ 1 (some .long) :: zT
def rm_X11_net_ : Room := { frames := 0, cells := 0, slots := 0, locals := 0 }
theorem cw_X11_net_ {rm R : Room} {s : State} {args : Array Value} {own : String} {index : Nat} {c0 : Cond} (hts : ∀ w ∈ c0 :: zT, w.before args s = true) (hml : Cond.methodLink own index yX11_net_ ∈ zT) (hrc : rm.cells = 0) (hrs : rm.slots = 0) (hR : rm.frames + 1 ≤ R.frames ∧ 8 + (1 + 11) + rm.locals ≤ R.locals) : CallW R s args own RX11 index yX11_net_ cX11_net_ 1 (some .long) vs_X11_net_ rm 0 0 0 :=
  zwV 0 hts hml mw_506 mw_507 mw_1 mw_508 hrc hrs (by decide +kernel) hR
def w_X11_net_ (N : Nat)  (σ : zSt) (Q : Int64 → zSt → Prop) : Prop :=
  Q (σ.2.1 0) σ
variable {p : Program} {l : Launch} {e : Env} {s : State} {m : MethodId} {args : Array Value} {below : List Frame} {meth : Method} {c : Code} {dC : Nat → ClassId} {dI : Nat → Nat → Nat} {ad : Nat → Nat} {cI cJ : ClassId}
set_option maxHeartbeats 4000000 in
set_option maxRecDepth 100000 in
theorem t_X11_net__0 (C0 : zCx p s m meth c args RX11 cX11_net_ 1 (some .long) vs_X11_net_) (hK : va_K (dC, dI) vwCl (x_ty cI cJ) s) (N : Nat) {Q : Int64 → zSt → Prop} : ∀  (σ : zSt) (H : Heap) (locs : List Loc) (ls : Array Slot), w_X11_net_ N  σ Q → va_P (dC, dI) vwCl (x_W ad cI cJ σ) H → va_D (zAW x_n ad s.heap.size) (x_W ad cI cJ σ) → va_S (zAW x_n ad s.heap.size) s.heap H locs → lv_has ls 1 [(0, .ref (ad 0))] → W p l e rm_X11_net_ s m args below meth c H locs 0 0 (MQ below (zQl (dC, dI) (x_ty cI cJ) (x_W ad cI cJ) (zAW x_n ad s.heap.size) Q) args s 0 0 (zAW x_n ad s.heap.size)) (F0 m 0 ls []) := by
  obtain ⟨hx, hb, hml, hr, hown, hts, hlocks⟩ := id C0
  intro  σ H locs ls h hP hD hS hl
  unfold w_X11_net_ at h
  refine lv_aload_n hx hb dX11_net__0 rfl (lv_at hl 0 rfl) ?_
  refine xg_0_15 hx hb hts hown hK hP mw_304 dX11_net__1 ?_
  exact zret_l hx hb hr hlocks hK hP hD hS h dX11_net__4
set_option maxHeartbeats 4000000 in
set_option maxRecDepth 100000 in
theorem c_X11_net_ (N : Nat) (l : Launch) (dC : Nat → ClassId) (dI : Nat → Nat → Nat) (ad : Nat → Nat) (cI cJ : ClassId) (sz : Nat) (σ : zSt)  (Q : Int64 → zSt → Prop) (h : w_X11_net_ N  σ Q) : Met l yX11_net_ vs_X11_net_ rm_X11_net_ (va_Pc [.ref (ad 0)] (zPc (dC, dI) (x_ty cI cJ) (x_W ad cI cJ) sz σ)) (zQl (dC, dI) (x_ty cI cJ) (x_W ad cI cJ) (zAW x_n ad sz) Q) 0 0 (zAW x_n ad sz) := by
  refine Met.ofW (cc := cX11_net_) (maxL := 1) (ret := (some .long)) (by decide) rfl ?_
  intro p e s m args below meth c s₁ B hml hv
  obtain ⟨rfl, hsz, hP, hK, hD0⟩ := hv
  subst hsz
  have C0 : zCx p s m meth c _ RX11 cX11_net_ 1 (some .long) vs_X11_net_ := ⟨B.exec, B.bytes, hml, B.returns, findClass_of_methodNamed B.named, atoms_spec (ws := vs_X11_net_) B.pre, B.notSynchronized⟩
  have hD := x_D0 (n0 := s.heap.size) hD0
  have hl := lv_entry ([.ref (ad 0)]) (n := 1) (Nat.le_of_ble_eq_true rfl)
  rw [lg_entry_eq]
  generalize (lg_sl ([.ref (ad 0)]) ++ List.replicate (1 - (lg_sl ([.ref (ad 0)])).length) Slot.unset).toArray = ls at hl ⊢
  exact t_X11_net__0 C0 hK N  σ _ _ ls h hP hD va_S.rf hl
theorem k_X11_net_ (N : Nat) {R : Room} {H : Heap} {locs : List Loc} {Q2 : State → Prop} {cc : ByteArray} {nL pc index : Nat} {ls : Array Slot} {rest : List Value} {own : String} {c0 : Cond} {σ : zSt}  {Q : Int64 → zSt → Prop} (S0 : CallFix p m c cc nL s args (c0 :: zT) own) (hml : Cond.methodLink own index yX11_net_ ∈ zT) (hR : rm_X11_net_.frames + 1 ≤ R.frames ∧ 8 + (1 + 11) + rm_X11_net_.locals ≤ R.locals) (h : w_X11_net_ N  σ Q) (hK : va_K (dC, dI) vwCl (x_ty cI cJ) s) (hP : va_P (dC, dI) vwCl (x_W ad cI cJ σ) H) (hD : va_D (zAW x_n ad s.heap.size) (x_W ad cI cJ σ)) (hS : va_S (zAW x_n ad s.heap.size) s.heap H locs) (hsz : ls.size = nL) (hW : (rest.map fun v => v.category).sum ≤ 8) (hdg : decode cc pc = .ok (.invokevirtual index, 3)) (kk : ∀ (r : Int64) (τ : zSt) (H1 : Heap) (locs1 : List Loc), Q r τ → va_P (dC, dI) vwCl (x_W ad cI cJ τ) H1 → va_D (zAW x_n ad s.heap.size) (x_W ad cI cJ τ) → va_S (zAW x_n ad s.heap.size) s.heap H1 locs1 → W p l e R s m args below meth c H1 locs1 0 0 Q2 (F0 m (pc + 3) ls (.long r :: rest))) : W p l e R s m args below meth c H locs 0 0 Q2 (F0 m pc ls (.ref (ad 0) :: rest)) :=
  zcv_l (T := TX11) (N' := 17) (k := 0) (ci := 11) (fs := x_f0 ad σ) [] S0 (c_X11_net_ N l dC dI ad cI cJ H.size σ  Q h) (cw_X11_net_ S0.2.2.2.2 hml rfl rfl hR) rfl rfl hK hP hD hS rfl hsz hW rfl hdg kk
end q04
section q04
def vs_X3_within : List Cond := .code yX3_within cX3_within 7 (some .long) :: zT
def rm_X3_within : Room := { frames := 2, cells := 0, slots := 0, locals := 83 }
theorem cw_X3_within {rm R : Room} {s : State} {args : Array Value} {own : String} {index : Nat} {c0 : Cond} (hts : ∀ w ∈ c0 :: zT, w.before args s = true) (hml : Cond.methodLink own index yX3_within ∈ zT) (hrc : rm.cells = 0) (hrs : rm.slots = 0) (hR : rm.frames + 1 ≤ R.frames ∧ 8 + (7 + 11) + rm.locals ≤ R.locals) : CallW R s args own RX3 index yX3_within cX3_within 7 (some .long) vs_X3_within rm 0 0 2 :=
  zwV 2 hts hml mw_514 mw_515 mw_3 mw_516 hrc hrs (by decide +kernel) hR
def b_X3_within_16 (N : Nat) (k_7 : Int32 → Int32 → Int64 → Int32 → zSt → Prop) (k_16 : Int32 → Int32 → Int64 → Int32 → Int32 → zSt → Prop) (Q : Int64 → zSt → Prop) (x1 : Int32) (x2 : Int32) (x3 : Int64) (x5 : Int32) (x6 : Int32) (σ : zSt) : Prop :=
  (x5 ≤ x6 → ∀ v1 : Int32, v1 = x5 + (1 : Int32) → k_7 x1 x2 x3 v1 σ) ∧ (¬ x5 ≤ x6 → w_X3_number N x6 x5 σ (fun r2 τ3 => ∀ v4 : Int64, v4 = x3 ||| ((1 : Int64) <<< (r2.toInt64 &&& 63)) → ∀ v5 : Int32, v5 = x6 + (1 : Int32) → k_16 x1 x2 v4 x5 v5 τ3))
def w_X3_within_16 (N : Nat) (k_7 : Int32 → Int32 → Int64 → Int32 → zSt → Prop) (Q : Int64 → zSt → Prop) : Nat → Int32 → Int32 → Int64 → Int32 → Int32 → zSt → Prop
  | 0 => fun _ _ _ _ _ _ => False
  | f + 1 => b_X3_within_16 N k_7 (w_X3_within_16 N k_7 Q f) Q
def b_X3_within_7 (N : Nat) (k_7 : Int32 → Int32 → Int64 → Int32 → zSt → Prop) (Q : Int64 → zSt → Prop) (x1 : Int32) (x2 : Int32) (x3 : Int64) (x5 : Int32) (σ : zSt) : Prop :=
  (x2 ≤ x5 → Q x3 σ) ∧ (¬ x2 ≤ x5 → w_X3_within_16 N k_7 Q N x1 x2 x3 x5 x1 σ)
def w_X3_within_7 (N : Nat) (Q : Int64 → zSt → Prop) : Nat → Int32 → Int32 → Int64 → Int32 → zSt → Prop
  | 0 => fun _ _ _ _ _ => False
  | f + 1 => b_X3_within_7 N (w_X3_within_7 N  Q f) Q
def w_X3_within (N : Nat) (x1 : Int32) (x2 : Int32) (σ : zSt) (Q : Int64 → zSt → Prop) : Prop :=
  ∀ v1 : Int32, v1 = x1 + (1 : Int32) → w_X3_within_7 N Q N x1 x2 (0 : Int64) v1 σ
variable {p : Program} {l : Launch} {e : Env} {s : State} {m : MethodId} {args : Array Value} {below : List Frame} {meth : Method} {c : Code} {dC : Nat → ClassId} {dI : Nat → Nat → Nat} {ad : Nat → Nat} {cI cJ : ClassId}
set_option maxHeartbeats 4000000 in
set_option maxRecDepth 100000 in
theorem tb_X3_within_16 (C0 : zCx p s m meth c args RX3 cX3_within 7 (some .long) vs_X3_within) (hK : va_K (dC, dI) vwCl (x_ty cI cJ) s) (N : Nat) {Q : Int64 → zSt → Prop} {k_7 : Int32 → Int32 → Int64 → Int32 → zSt → Prop} (hk_7 : ∀ (x1 : Int32) (x2 : Int32) (x3 : Int64) (x5 : Int32) (σ : zSt) (H : Heap) (locs : List Loc) (ls : Array Slot), k_7 x1 x2 x3 x5 σ → va_P (dC, dI) vwCl (x_W ad cI cJ σ) H → va_D (zAW x_n ad s.heap.size) (x_W ad cI cJ σ) → va_S (zAW x_n ad s.heap.size) s.heap H locs → lv_has ls 7 [(1, .int x1), (2, .int x2), (3, .long x3), (5, .int x5)] → W p l e rm_X3_within s m args below meth c H locs 0 0 (MQ below (zQl (dC, dI) (x_ty cI cJ) (x_W ad cI cJ) (zAW x_n ad s.heap.size) Q) args s 0 0 (zAW x_n ad s.heap.size)) (F0 m 7 ls [])) {k_16 : Int32 → Int32 → Int64 → Int32 → Int32 → zSt → Prop} (hk_16 : ∀ (x1 : Int32) (x2 : Int32) (x3 : Int64) (x5 : Int32) (x6 : Int32) (σ : zSt) (H : Heap) (locs : List Loc) (ls : Array Slot), k_16 x1 x2 x3 x5 x6 σ → va_P (dC, dI) vwCl (x_W ad cI cJ σ) H → va_D (zAW x_n ad s.heap.size) (x_W ad cI cJ σ) → va_S (zAW x_n ad s.heap.size) s.heap H locs → lv_has ls 7 [(1, .int x1), (2, .int x2), (3, .long x3), (5, .int x5), (6, .int x6)] → W p l e rm_X3_within s m args below meth c H locs 0 0 (MQ below (zQl (dC, dI) (x_ty cI cJ) (x_W ad cI cJ) (zAW x_n ad s.heap.size) Q) args s 0 0 (zAW x_n ad s.heap.size)) (F0 m 16 ls [])) : ∀ (x1 : Int32) (x2 : Int32) (x3 : Int64) (x5 : Int32) (x6 : Int32) (σ : zSt) (H : Heap) (locs : List Loc) (ls : Array Slot), b_X3_within_16 N k_7 k_16 Q x1 x2 x3 x5 x6 σ → va_P (dC, dI) vwCl (x_W ad cI cJ σ) H → va_D (zAW x_n ad s.heap.size) (x_W ad cI cJ σ) → va_S (zAW x_n ad s.heap.size) s.heap H locs → lv_has ls 7 [(1, .int x1), (2, .int x2), (3, .long x3), (5, .int x5), (6, .int x6)] → W p l e rm_X3_within s m args below meth c H locs 0 0 (MQ below (zQl (dC, dI) (x_ty cI cJ) (x_W ad cI cJ) (zAW x_n ad s.heap.size) Q) args s 0 0 (zAW x_n ad s.heap.size)) (F0 m 16 ls []) := by
  obtain ⟨hx, hb, hml, hr, hown, hts, hlocks⟩ := id C0
  intro x1 x2 x3 x5 x6 σ H locs ls h hP hD hS hl
  unfold b_X3_within_16 at h
  refine lv_iload hx hb dX3_within_16 (lv_at hl 4 rfl) ?_
  refine lv_iload hx hb dX3_within_18 (lv_at hl 3 rfl) ?_
  refine lv_icmp_ge (tgt := 41) hx hb dX3_within_20 (by decide) (fun hc => ?_) (fun hc => ?_)
  · have h := h.1 hc
    obtain ⟨v1, ev1⟩ : ∃ z : Int32, z = x5 + (1 : Int32) := ⟨_, rfl⟩
    have h := h v1 ev1
    refine lv_iinc (v := v1) (lv' := [(5, .int v1), (1, .int x1), (2, .int x2), (3, .long x3), (6, .int x6)]) hx hb dX3_within_41 hl (k := 3) rfl (by rw [ev1]; rfl) (by decide) rfl (fun ls hl => ?_)
    refine lv_goto (tgt := 7) hx hb dX3_within_44 (by decide) ?_
    exact hk_7 x1 x2 x3 v1 σ _ _ _ h hP hD hS (lv_sub hl [1, 2, 3, 0] rfl)
  · have h := h.2 hc
    refine lv_lload_n hx hb dX3_within_23 rfl (lv_at hl 2 rfl) ?_
    refine lv_lconst (v := (1 : Int64)) hx hb dX3_within_24 (by decide) ?_
    refine lv_iload hx hb dX3_within_25 (lv_at hl 4 rfl) ?_
    refine lv_iload hx hb dX3_within_27 (lv_at hl 3 rfl) ?_
    refine k_X3_number N ⟨hx, hb, hml, hown, hts⟩ mw_517 ⟨Nat.le_of_ble_eq_true rfl, Nat.le_of_ble_eq_true rfl⟩ h hK hP hD hS hl.1 (rest := [.long (1 : Int64), .long x3]) (Nat.le_of_ble_eq_true rfl) dX3_within_29 (fun r2 τ3 H locs h hP hD hS => ?_)
    refine lv_lshl hx hb dX3_within_32 rfl ?_
    refine lv_lor hx hb dX3_within_33 ?_
    refine lv_topl (fun v4 ev4 => ?_)
    have h := h v4 ev4
    refine lv_lstore_n (lv' := [(3, .long v4), (1, .int x1), (2, .int x2), (5, .int x5), (6, .int x6)]) hx hb dX3_within_34 rfl hl (by decide) rfl (fun ls hl => ?_)
    obtain ⟨v5, ev5⟩ : ∃ z : Int32, z = x6 + (1 : Int32) := ⟨_, rfl⟩
    have h := h v5 ev5
    refine lv_iinc (v := v5) (lv' := [(6, .int v5), (3, .long v4), (1, .int x1), (2, .int x2), (5, .int x5)]) hx hb dX3_within_35 hl (k := 4) rfl (by rw [ev5]; rfl) (by decide) rfl (fun ls hl => ?_)
    refine lv_goto (tgt := 16) hx hb dX3_within_38 (by decide) ?_
    exact hk_16 x1 x2 v4 x5 v5 τ3 _ _ _ h hP hD hS (lv_sub hl [2, 3, 1, 4, 0] rfl)
set_option maxHeartbeats 4000000 in
set_option maxRecDepth 100000 in
theorem t_X3_within_16 (C0 : zCx p s m meth c args RX3 cX3_within 7 (some .long) vs_X3_within) (hK : va_K (dC, dI) vwCl (x_ty cI cJ) s) (N : Nat) {Q : Int64 → zSt → Prop} {k_7 : Int32 → Int32 → Int64 → Int32 → zSt → Prop} (hk_7 : ∀ (x1 : Int32) (x2 : Int32) (x3 : Int64) (x5 : Int32) (σ : zSt) (H : Heap) (locs : List Loc) (ls : Array Slot), k_7 x1 x2 x3 x5 σ → va_P (dC, dI) vwCl (x_W ad cI cJ σ) H → va_D (zAW x_n ad s.heap.size) (x_W ad cI cJ σ) → va_S (zAW x_n ad s.heap.size) s.heap H locs → lv_has ls 7 [(1, .int x1), (2, .int x2), (3, .long x3), (5, .int x5)] → W p l e rm_X3_within s m args below meth c H locs 0 0 (MQ below (zQl (dC, dI) (x_ty cI cJ) (x_W ad cI cJ) (zAW x_n ad s.heap.size) Q) args s 0 0 (zAW x_n ad s.heap.size)) (F0 m 7 ls [])) : ∀ (f : Nat) (x1 : Int32) (x2 : Int32) (x3 : Int64) (x5 : Int32) (x6 : Int32) (σ : zSt) (H : Heap) (locs : List Loc) (ls : Array Slot), w_X3_within_16 N k_7 Q f x1 x2 x3 x5 x6 σ → va_P (dC, dI) vwCl (x_W ad cI cJ σ) H → va_D (zAW x_n ad s.heap.size) (x_W ad cI cJ σ) → va_S (zAW x_n ad s.heap.size) s.heap H locs → lv_has ls 7 [(1, .int x1), (2, .int x2), (3, .long x3), (5, .int x5), (6, .int x6)] → W p l e rm_X3_within s m args below meth c H locs 0 0 (MQ below (zQl (dC, dI) (x_ty cI cJ) (x_W ad cI cJ) (zAW x_n ad s.heap.size) Q) args s 0 0 (zAW x_n ad s.heap.size)) (F0 m 16 ls []) := by
  intro f
  induction f with
  | zero => intro x1 x2 x3 x5 x6 σ H locs ls h; exact h.elim
  | succ f ih =>
    intro x1 x2 x3 x5 x6 σ H locs ls h hP hD hS hl
    exact tb_X3_within_16 C0 hK N hk_7 (k_16 := w_X3_within_16 N k_7 Q f) ih x1 x2 x3 x5 x6 σ H locs ls h hP hD hS hl
set_option maxHeartbeats 4000000 in
set_option maxRecDepth 100000 in
theorem tb_X3_within_7 (C0 : zCx p s m meth c args RX3 cX3_within 7 (some .long) vs_X3_within) (hK : va_K (dC, dI) vwCl (x_ty cI cJ) s) (N : Nat) {Q : Int64 → zSt → Prop} {k_7 : Int32 → Int32 → Int64 → Int32 → zSt → Prop} (hk_7 : ∀ (x1 : Int32) (x2 : Int32) (x3 : Int64) (x5 : Int32) (σ : zSt) (H : Heap) (locs : List Loc) (ls : Array Slot), k_7 x1 x2 x3 x5 σ → va_P (dC, dI) vwCl (x_W ad cI cJ σ) H → va_D (zAW x_n ad s.heap.size) (x_W ad cI cJ σ) → va_S (zAW x_n ad s.heap.size) s.heap H locs → lv_has ls 7 [(1, .int x1), (2, .int x2), (3, .long x3), (5, .int x5)] → W p l e rm_X3_within s m args below meth c H locs 0 0 (MQ below (zQl (dC, dI) (x_ty cI cJ) (x_W ad cI cJ) (zAW x_n ad s.heap.size) Q) args s 0 0 (zAW x_n ad s.heap.size)) (F0 m 7 ls [])) : ∀ (x1 : Int32) (x2 : Int32) (x3 : Int64) (x5 : Int32) (σ : zSt) (H : Heap) (locs : List Loc) (ls : Array Slot), b_X3_within_7 N k_7 Q x1 x2 x3 x5 σ → va_P (dC, dI) vwCl (x_W ad cI cJ σ) H → va_D (zAW x_n ad s.heap.size) (x_W ad cI cJ σ) → va_S (zAW x_n ad s.heap.size) s.heap H locs → lv_has ls 7 [(1, .int x1), (2, .int x2), (3, .long x3), (5, .int x5)] → W p l e rm_X3_within s m args below meth c H locs 0 0 (MQ below (zQl (dC, dI) (x_ty cI cJ) (x_W ad cI cJ) (zAW x_n ad s.heap.size) Q) args s 0 0 (zAW x_n ad s.heap.size)) (F0 m 7 ls []) := by
  obtain ⟨hx, hb, hml, hr, hown, hts, hlocks⟩ := id C0
  intro x1 x2 x3 x5 σ H locs ls h hP hD hS hl
  unfold b_X3_within_7 at h
  refine lv_iload hx hb dX3_within_7 (lv_at hl 3 rfl) ?_
  refine lv_iload_n hx hb dX3_within_9 rfl (lv_at hl 1 rfl) ?_
  refine lv_icmp_ge (tgt := 47) hx hb dX3_within_10 (by decide) (fun hc => ?_) (fun hc => ?_)
  · have h := h.1 hc
    refine lv_lload_n hx hb dX3_within_47 rfl (lv_at hl 2 rfl) ?_
    exact zret_l hx hb hr hlocks hK hP hD hS h dX3_within_48
  · have h := h.2 hc
    refine lv_iload_n hx hb dX3_within_13 rfl (lv_at hl 0 rfl) ?_
    refine lv_istore (lv' := [(6, .int x1), (1, .int x1), (2, .int x2), (3, .long x3), (5, .int x5)]) hx hb dX3_within_14 hl (by decide) rfl (fun ls hl => ?_)
    exact t_X3_within_16 C0 hK N hk_7 N x1 x2 x3 x5 x1 σ _ _ _ h hP hD hS (lv_sub hl [1, 2, 3, 4, 0] rfl)
set_option maxHeartbeats 4000000 in
set_option maxRecDepth 100000 in
theorem t_X3_within_7 (C0 : zCx p s m meth c args RX3 cX3_within 7 (some .long) vs_X3_within) (hK : va_K (dC, dI) vwCl (x_ty cI cJ) s) (N : Nat) {Q : Int64 → zSt → Prop} : ∀ (f : Nat) (x1 : Int32) (x2 : Int32) (x3 : Int64) (x5 : Int32) (σ : zSt) (H : Heap) (locs : List Loc) (ls : Array Slot), w_X3_within_7 N  Q f x1 x2 x3 x5 σ → va_P (dC, dI) vwCl (x_W ad cI cJ σ) H → va_D (zAW x_n ad s.heap.size) (x_W ad cI cJ σ) → va_S (zAW x_n ad s.heap.size) s.heap H locs → lv_has ls 7 [(1, .int x1), (2, .int x2), (3, .long x3), (5, .int x5)] → W p l e rm_X3_within s m args below meth c H locs 0 0 (MQ below (zQl (dC, dI) (x_ty cI cJ) (x_W ad cI cJ) (zAW x_n ad s.heap.size) Q) args s 0 0 (zAW x_n ad s.heap.size)) (F0 m 7 ls []) := by
  intro f
  induction f with
  | zero => intro x1 x2 x3 x5 σ H locs ls h; exact h.elim
  | succ f ih =>
    intro x1 x2 x3 x5 σ H locs ls h hP hD hS hl
    exact tb_X3_within_7 C0 hK N  (k_7 := w_X3_within_7 N  Q f) ih x1 x2 x3 x5 σ H locs ls h hP hD hS hl
set_option maxHeartbeats 4000000 in
set_option maxRecDepth 100000 in
theorem t_X3_within_0 (C0 : zCx p s m meth c args RX3 cX3_within 7 (some .long) vs_X3_within) (hK : va_K (dC, dI) vwCl (x_ty cI cJ) s) (N : Nat) {Q : Int64 → zSt → Prop} : ∀ (x1 : Int32) (x2 : Int32) (σ : zSt) (H : Heap) (locs : List Loc) (ls : Array Slot), w_X3_within N x1 x2 σ Q → va_P (dC, dI) vwCl (x_W ad cI cJ σ) H → va_D (zAW x_n ad s.heap.size) (x_W ad cI cJ σ) → va_S (zAW x_n ad s.heap.size) s.heap H locs → lv_has ls 7 [(0, .ref (ad 2)), (1, .int x1), (2, .int x2)] → W p l e rm_X3_within s m args below meth c H locs 0 0 (MQ below (zQl (dC, dI) (x_ty cI cJ) (x_W ad cI cJ) (zAW x_n ad s.heap.size) Q) args s 0 0 (zAW x_n ad s.heap.size)) (F0 m 0 ls []) := by
  obtain ⟨hx, hb, hml, hr, hown, hts, hlocks⟩ := id C0
  intro x1 x2 σ H locs ls h hP hD hS hl
  unfold w_X3_within at h
  refine lv_lconst (v := (0 : Int64)) hx hb dX3_within_0 (by decide) ?_
  refine lv_lstore_n (lv' := [(3, .long (0 : Int64)), (0, .ref (ad 2)), (1, .int x1), (2, .int x2)]) hx hb dX3_within_1 rfl hl (by decide) rfl (fun ls hl => ?_)
  refine lv_iload_n hx hb dX3_within_2 rfl (lv_at hl 2 rfl) ?_
  refine lv_iconst (v := (1 : Int32)) hx hb dX3_within_3 (by decide) ?_
  refine lv_iadd hx hb dX3_within_4 ?_
  refine lv_topi (fun v1 ev1 => ?_)
  have h := h v1 ev1
  refine lv_istore (lv' := [(5, .int v1), (3, .long (0 : Int64)), (0, .ref (ad 2)), (1, .int x1), (2, .int x2)]) hx hb dX3_within_5 hl (by decide) rfl (fun ls hl => ?_)
  exact t_X3_within_7 C0 hK N  N x1 x2 (0 : Int64) v1 σ _ _ _ h hP hD hS (lv_sub hl [3, 4, 1, 0] rfl)
set_option maxHeartbeats 4000000 in
set_option maxRecDepth 100000 in
theorem c_X3_within (N : Nat) (l : Launch) (dC : Nat → ClassId) (dI : Nat → Nat → Nat) (ad : Nat → Nat) (cI cJ : ClassId) (sz : Nat) (σ : zSt) (x1 : Int32) (x2 : Int32) (Q : Int64 → zSt → Prop) (h : w_X3_within N x1 x2 σ Q) : Met l yX3_within vs_X3_within rm_X3_within (va_Pc [.ref (ad 2), .int x1, .int x2] (zPc (dC, dI) (x_ty cI cJ) (x_W ad cI cJ) sz σ)) (zQl (dC, dI) (x_ty cI cJ) (x_W ad cI cJ) (zAW x_n ad sz) Q) 0 0 (zAW x_n ad sz) := by
  refine Met.ofW (cc := cX3_within) (maxL := 7) (ret := (some .long)) (by decide) rfl ?_
  intro p e s m args below meth c s₁ B hml hv
  obtain ⟨rfl, hsz, hP, hK, hD0⟩ := hv
  subst hsz
  have C0 : zCx p s m meth c _ RX3 cX3_within 7 (some .long) vs_X3_within := ⟨B.exec, B.bytes, hml, B.returns, findClass_of_methodNamed B.named, atoms_spec (ws := vs_X3_within) B.pre, B.notSynchronized⟩
  have hD := x_D0 (n0 := s.heap.size) hD0
  have hl := lv_entry ([.ref (ad 2), .int x1, .int x2]) (n := 7) (Nat.le_of_ble_eq_true rfl)
  rw [lg_entry_eq]
  generalize (lg_sl ([.ref (ad 2), .int x1, .int x2]) ++ List.replicate (7 - (lg_sl ([.ref (ad 2), .int x1, .int x2])).length) Slot.unset).toArray = ls at hl ⊢
  exact t_X3_within_0 C0 hK N x1 x2 σ _ _ ls h hP hD va_S.rf hl
theorem k_X3_within (N : Nat) {R : Room} {H : Heap} {locs : List Loc} {Q2 : State → Prop} {cc : ByteArray} {nL pc index : Nat} {ls : Array Slot} {rest : List Value} {own : String} {c0 : Cond} {σ : zSt} {x1 : Int32} {x2 : Int32} {Q : Int64 → zSt → Prop} (S0 : CallFix p m c cc nL s args (c0 :: zT) own) (hml : Cond.methodLink own index yX3_within ∈ zT) (hR : rm_X3_within.frames + 1 ≤ R.frames ∧ 8 + (7 + 11) + rm_X3_within.locals ≤ R.locals) (h : w_X3_within N x1 x2 σ Q) (hK : va_K (dC, dI) vwCl (x_ty cI cJ) s) (hP : va_P (dC, dI) vwCl (x_W ad cI cJ σ) H) (hD : va_D (zAW x_n ad s.heap.size) (x_W ad cI cJ σ)) (hS : va_S (zAW x_n ad s.heap.size) s.heap H locs) (hsz : ls.size = nL) (hW : (rest.map fun v => v.category).sum ≤ 8) (hdg : decode cc pc = .ok (.invokevirtual index, 3)) (kk : ∀ (r : Int64) (τ : zSt) (H1 : Heap) (locs1 : List Loc), Q r τ → va_P (dC, dI) vwCl (x_W ad cI cJ τ) H1 → va_D (zAW x_n ad s.heap.size) (x_W ad cI cJ τ) → va_S (zAW x_n ad s.heap.size) s.heap H1 locs1 → W p l e R s m args below meth c H1 locs1 0 0 Q2 (F0 m (pc + 3) ls (.long r :: rest))) : W p l e R s m args below meth c H locs 0 0 Q2 (F0 m pc ls (.int x2 :: .int x1 :: .ref (ad 2) :: rest)) :=
  zcv_l (T := TX3) (N' := 3) (k := 2) (ci := 3) (fs := x_f2 ad σ) [.int x1, .int x2] S0 (c_X3_within N l dC dI ad cI cJ H.size σ x1 x2 Q h) (cw_X3_within S0.2.2.2.2 hml rfl rfl hR) rfl rfl hK hP hD hS rfl hsz hW rfl hdg kk
end q04
section q04
def vs_X3_star : List Cond := .code yX3_star cX3_star 3 (some .long) :: zT
def rm_X3_star : Room := { frames := 1, cells := 0, slots := 0, locals := 20 }
theorem cw_X3_star {rm R : Room} {s : State} {args : Array Value} {own : String} {index : Nat} {c0 : Cond} (hts : ∀ w ∈ c0 :: zT, w.before args s = true) (hml : Cond.methodLink own index yX3_star ∈ zT) (hrc : rm.cells = 0) (hrs : rm.slots = 0) (hR : rm.frames + 1 ≤ R.frames ∧ 8 + (3 + 11) + rm.locals ≤ R.locals) : CallW R s args own RX3 index yX3_star cX3_star 3 (some .long) vs_X3_star rm 0 0 2 :=
  zwV 2 hts hml mw_519 mw_520 mw_3 mw_521 hrc hrs (by decide +kernel) hR
def w_X3_star (N : Nat) (x1 : Int32) (x2 : Int32) (σ : zSt) (Q : Int64 → zSt → Prop) : Prop :=
  (vp_in x1 10) ∧ (w_X3_count N x2 σ (fun r1 τ2 => Q ((σ.2.2.2 2 x1.toNatClampNeg) &&& (((1 : Int64) <<< (r1.toInt64 &&& 63)) - (1 : Int64))) τ2))
variable {p : Program} {l : Launch} {e : Env} {s : State} {m : MethodId} {args : Array Value} {below : List Frame} {meth : Method} {c : Code} {dC : Nat → ClassId} {dI : Nat → Nat → Nat} {ad : Nat → Nat} {cI cJ : ClassId}
set_option maxHeartbeats 4000000 in
set_option maxRecDepth 100000 in
theorem t_X3_star_0 (C0 : zCx p s m meth c args RX3 cX3_star 3 (some .long) vs_X3_star) (hK : va_K (dC, dI) vwCl (x_ty cI cJ) s) (N : Nat) {Q : Int64 → zSt → Prop} : ∀ (x1 : Int32) (x2 : Int32) (σ : zSt) (H : Heap) (locs : List Loc) (ls : Array Slot), w_X3_star N x1 x2 σ Q → va_P (dC, dI) vwCl (x_W ad cI cJ σ) H → va_D (zAW x_n ad s.heap.size) (x_W ad cI cJ σ) → va_S (zAW x_n ad s.heap.size) s.heap H locs → lv_has ls 3 [(0, .ref (ad 2)), (1, .int x1), (2, .int x2)] → W p l e rm_X3_star s m args below meth c H locs 0 0 (MQ below (zQl (dC, dI) (x_ty cI cJ) (x_W ad cI cJ) (zAW x_n ad s.heap.size) Q) args s 0 0 (zAW x_n ad s.heap.size)) (F0 m 0 ls []) := by
  obtain ⟨hx, hb, hml, hr, hown, hts, hlocks⟩ := id C0
  intro x1 x2 σ H locs ls h hP hD hS hl
  unfold w_X3_star at h
  refine lv_aload_n hx hb dX3_star_0 rfl (lv_at hl 0 rfl) ?_
  refine xg_2_2 hx hb hts hown hK hP mw_53 dX3_star_1 ?_
  refine lv_iload_n hx hb dX3_star_4 rfl (lv_at hl 1 rfl) ?_
  refine xa_22 hx hb hK hP h.1 rfl dX3_star_5 ?_
  have h := h.2
  refine lv_lconst (v := (1 : Int64)) hx hb dX3_star_6 (by decide) ?_
  refine lv_iload_n hx hb dX3_star_7 rfl (lv_at hl 2 rfl) ?_
  refine k_X3_count N ⟨hx, hb, hml, hown, hts⟩ mw_522 ⟨Nat.le_of_ble_eq_true rfl, Nat.le_of_ble_eq_true rfl⟩ h hK hP hD hS hl.1 (rest := [.long (1 : Int64), .long (σ.2.2.2 2 x1.toNatClampNeg)]) (Nat.le_of_ble_eq_true rfl) dX3_star_8 (fun r1 τ2 H locs h hP hD hS => ?_)
  refine lv_lshl hx hb dX3_star_11 rfl ?_
  refine lv_lconst (v := (1 : Int64)) hx hb dX3_star_12 (by decide) ?_
  refine lv_lsub hx hb dX3_star_13 ?_
  refine lv_land hx hb dX3_star_14 ?_
  exact zret_l hx hb hr hlocks hK hP hD hS h dX3_star_15
set_option maxHeartbeats 4000000 in
set_option maxRecDepth 100000 in
theorem c_X3_star (N : Nat) (l : Launch) (dC : Nat → ClassId) (dI : Nat → Nat → Nat) (ad : Nat → Nat) (cI cJ : ClassId) (sz : Nat) (σ : zSt) (x1 : Int32) (x2 : Int32) (Q : Int64 → zSt → Prop) (h : w_X3_star N x1 x2 σ Q) : Met l yX3_star vs_X3_star rm_X3_star (va_Pc [.ref (ad 2), .int x1, .int x2] (zPc (dC, dI) (x_ty cI cJ) (x_W ad cI cJ) sz σ)) (zQl (dC, dI) (x_ty cI cJ) (x_W ad cI cJ) (zAW x_n ad sz) Q) 0 0 (zAW x_n ad sz) := by
  refine Met.ofW (cc := cX3_star) (maxL := 3) (ret := (some .long)) (by decide) rfl ?_
  intro p e s m args below meth c s₁ B hml hv
  obtain ⟨rfl, hsz, hP, hK, hD0⟩ := hv
  subst hsz
  have C0 : zCx p s m meth c _ RX3 cX3_star 3 (some .long) vs_X3_star := ⟨B.exec, B.bytes, hml, B.returns, findClass_of_methodNamed B.named, atoms_spec (ws := vs_X3_star) B.pre, B.notSynchronized⟩
  have hD := x_D0 (n0 := s.heap.size) hD0
  have hl := lv_entry ([.ref (ad 2), .int x1, .int x2]) (n := 3) (Nat.le_of_ble_eq_true rfl)
  rw [lg_entry_eq]
  generalize (lg_sl ([.ref (ad 2), .int x1, .int x2]) ++ List.replicate (3 - (lg_sl ([.ref (ad 2), .int x1, .int x2])).length) Slot.unset).toArray = ls at hl ⊢
  exact t_X3_star_0 C0 hK N x1 x2 σ _ _ ls h hP hD va_S.rf hl
theorem k_X3_star (N : Nat) {R : Room} {H : Heap} {locs : List Loc} {Q2 : State → Prop} {cc : ByteArray} {nL pc index : Nat} {ls : Array Slot} {rest : List Value} {own : String} {c0 : Cond} {σ : zSt} {x1 : Int32} {x2 : Int32} {Q : Int64 → zSt → Prop} (S0 : CallFix p m c cc nL s args (c0 :: zT) own) (hml : Cond.methodLink own index yX3_star ∈ zT) (hR : rm_X3_star.frames + 1 ≤ R.frames ∧ 8 + (3 + 11) + rm_X3_star.locals ≤ R.locals) (h : w_X3_star N x1 x2 σ Q) (hK : va_K (dC, dI) vwCl (x_ty cI cJ) s) (hP : va_P (dC, dI) vwCl (x_W ad cI cJ σ) H) (hD : va_D (zAW x_n ad s.heap.size) (x_W ad cI cJ σ)) (hS : va_S (zAW x_n ad s.heap.size) s.heap H locs) (hsz : ls.size = nL) (hW : (rest.map fun v => v.category).sum ≤ 8) (hdg : decode cc pc = .ok (.invokevirtual index, 3)) (kk : ∀ (r : Int64) (τ : zSt) (H1 : Heap) (locs1 : List Loc), Q r τ → va_P (dC, dI) vwCl (x_W ad cI cJ τ) H1 → va_D (zAW x_n ad s.heap.size) (x_W ad cI cJ τ) → va_S (zAW x_n ad s.heap.size) s.heap H1 locs1 → W p l e R s m args below meth c H1 locs1 0 0 Q2 (F0 m (pc + 3) ls (.long r :: rest))) : W p l e R s m args below meth c H locs 0 0 Q2 (F0 m pc ls (.int x2 :: .int x1 :: .ref (ad 2) :: rest)) :=
  zcv_l (T := TX3) (N' := 3) (k := 2) (ci := 3) (fs := x_f2 ad σ) [.int x1, .int x2] S0 (c_X3_star N l dC dI ad cI cJ H.size σ x1 x2 Q h) (cw_X3_star S0.2.2.2.2 hml rfl rfl hR) rfl rfl hK hP hD hS rfl hsz hW rfl hdg kk
end q04
section q04
def vs_X3_circle : List Cond := .code yX3_circle cX3_circle 9 (some .long) :: zT
def rm_X3_circle : Room := { frames := 2, cells := 0, slots := 0, locals := 83 }
theorem cw_X3_circle {rm R : Room} {s : State} {args : Array Value} {own : String} {index : Nat} {c0 : Cond} (hts : ∀ w ∈ c0 :: zT, w.before args s = true) (hml : Cond.methodLink own index yX3_circle ∈ zT) (hrc : rm.cells = 0) (hrs : rm.slots = 0) (hR : rm.frames + 1 ≤ R.frames ∧ 8 + (9 + 11) + rm.locals ≤ R.locals) : CallW R s args own RX3 index yX3_circle cX3_circle 9 (some .long) vs_X3_circle rm 0 0 3 :=
  zwV 3 hts hml mw_524 mw_525 mw_3 mw_526 hrc hrs (by decide +kernel) hR
def b_X3_circle_12 (N : Nat) (k_12 : Int32 → Int32 → Int32 → Int64 → Int32 → Int32 → Int32 → zSt → Prop) (Q : Int64 → zSt → Prop) (x1 : Int32) (x2 : Int32) (x3 : Int32) (x4 : Int64) (x6 : Int32) (x7 : Int32) (x8 : Int32) (σ : zSt) : Prop :=
  (x1 ≤ x8 → (x3 = 0 → Q x4 σ) ∧ (¬ x3 = 0 → (x6 = x7 → Q x4 σ) ∧ (¬ x6 = x7 → w_X3_number N x6 x7 σ (fun r1 τ2 => Q (x4 ||| ((1 : Int64) <<< (r1.toInt64 &&& 63))) τ2)))) ∧ (¬ x1 ≤ x8 → (x8 = x2 → ∀ v3 : Int32, v3 = x8 + (1 : Int32) → k_12 x1 x2 x3 x4 x6 x7 v3 σ) ∧ (¬ x8 = x2 → (x7 = (-1 : Int32) → ∀ v8 : Int32, v8 = x8 + (1 : Int32) → k_12 x1 x2 x3 x4 x8 x8 v8 σ) ∧ (¬ x7 = (-1 : Int32) → w_X3_number N x7 x8 σ (fun r4 τ5 => ∀ v6 : Int64, v6 = x4 ||| ((1 : Int64) <<< (r4.toInt64 &&& 63)) → ∀ v7 : Int32, v7 = x8 + (1 : Int32) → k_12 x1 x2 x3 v6 x6 x8 v7 τ5))))
def w_X3_circle_12 (N : Nat) (Q : Int64 → zSt → Prop) : Nat → Int32 → Int32 → Int32 → Int64 → Int32 → Int32 → Int32 → zSt → Prop
  | 0 => fun _ _ _ _ _ _ _ _ => False
  | f + 1 => b_X3_circle_12 N (w_X3_circle_12 N  Q f) Q
def w_X3_circle (N : Nat) (x1 : Int32) (x2 : Int32) (x3 : Int32) (σ : zSt) (Q : Int64 → zSt → Prop) : Prop :=
  w_X3_circle_12 N Q N x1 x2 x3 (0 : Int64) (-1 : Int32) (-1 : Int32) (0 : Int32) σ
variable {p : Program} {l : Launch} {e : Env} {s : State} {m : MethodId} {args : Array Value} {below : List Frame} {meth : Method} {c : Code} {dC : Nat → ClassId} {dI : Nat → Nat → Nat} {ad : Nat → Nat} {cI cJ : ClassId}
set_option maxHeartbeats 4000000 in
set_option maxRecDepth 100000 in
theorem tb_X3_circle_12 (C0 : zCx p s m meth c args RX3 cX3_circle 9 (some .long) vs_X3_circle) (hK : va_K (dC, dI) vwCl (x_ty cI cJ) s) (N : Nat) {Q : Int64 → zSt → Prop} {k_12 : Int32 → Int32 → Int32 → Int64 → Int32 → Int32 → Int32 → zSt → Prop} (hk_12 : ∀ (x1 : Int32) (x2 : Int32) (x3 : Int32) (x4 : Int64) (x6 : Int32) (x7 : Int32) (x8 : Int32) (σ : zSt) (H : Heap) (locs : List Loc) (ls : Array Slot), k_12 x1 x2 x3 x4 x6 x7 x8 σ → va_P (dC, dI) vwCl (x_W ad cI cJ σ) H → va_D (zAW x_n ad s.heap.size) (x_W ad cI cJ σ) → va_S (zAW x_n ad s.heap.size) s.heap H locs → lv_has ls 9 [(1, .int x1), (2, .int x2), (3, .int x3), (4, .long x4), (6, .int x6), (7, .int x7), (8, .int x8)] → W p l e rm_X3_circle s m args below meth c H locs 0 0 (MQ below (zQl (dC, dI) (x_ty cI cJ) (x_W ad cI cJ) (zAW x_n ad s.heap.size) Q) args s 0 0 (zAW x_n ad s.heap.size)) (F0 m 12 ls [])) : ∀ (x1 : Int32) (x2 : Int32) (x3 : Int32) (x4 : Int64) (x6 : Int32) (x7 : Int32) (x8 : Int32) (σ : zSt) (H : Heap) (locs : List Loc) (ls : Array Slot), b_X3_circle_12 N k_12 Q x1 x2 x3 x4 x6 x7 x8 σ → va_P (dC, dI) vwCl (x_W ad cI cJ σ) H → va_D (zAW x_n ad s.heap.size) (x_W ad cI cJ σ) → va_S (zAW x_n ad s.heap.size) s.heap H locs → lv_has ls 9 [(1, .int x1), (2, .int x2), (3, .int x3), (4, .long x4), (6, .int x6), (7, .int x7), (8, .int x8)] → W p l e rm_X3_circle s m args below meth c H locs 0 0 (MQ below (zQl (dC, dI) (x_ty cI cJ) (x_W ad cI cJ) (zAW x_n ad s.heap.size) Q) args s 0 0 (zAW x_n ad s.heap.size)) (F0 m 12 ls []) := by
  obtain ⟨hx, hb, hml, hr, hown, hts, hlocks⟩ := id C0
  intro x1 x2 x3 x4 x6 x7 x8 σ H locs ls h hP hD hS hl
  unfold b_X3_circle_12 at h
  refine lv_iload hx hb dX3_circle_12 (lv_at hl 6 rfl) ?_
  refine lv_iload_n hx hb dX3_circle_14 rfl (lv_at hl 0 rfl) ?_
  refine lv_icmp_ge (tgt := 61) hx hb dX3_circle_15 (by decide) (fun hc => ?_) (fun hc => ?_)
  · have h := h.1 hc
    refine lv_iload_n hx hb dX3_circle_61 rfl (lv_at hl 2 rfl) ?_
    refine lv_if_eq (tgt := 87) hx hb dX3_circle_62 (by decide) (fun hc => ?_) (fun hc => ?_)
    · have h := h.1 hc
      refine lv_lload hx hb dX3_circle_87 (lv_at hl 3 rfl) ?_
      exact zret_l hx hb hr hlocks hK hP hD hS h dX3_circle_89
    · have h := h.2 hc
      refine lv_iload hx hb dX3_circle_65 (lv_at hl 4 rfl) ?_
      refine lv_iload hx hb dX3_circle_67 (lv_at hl 5 rfl) ?_
      refine lv_icmp_eq (tgt := 87) hx hb dX3_circle_69 (by decide) (fun hc => ?_) (fun hc => ?_)
      · have h := h.1 hc
        refine lv_lload hx hb dX3_circle_87 (lv_at hl 3 rfl) ?_
        exact zret_l hx hb hr hlocks hK hP hD hS h dX3_circle_89
      · have h := h.2 hc
        refine lv_lload hx hb dX3_circle_72 (lv_at hl 3 rfl) ?_
        refine lv_lconst (v := (1 : Int64)) hx hb dX3_circle_74 (by decide) ?_
        refine lv_iload hx hb dX3_circle_75 (lv_at hl 4 rfl) ?_
        refine lv_iload hx hb dX3_circle_77 (lv_at hl 5 rfl) ?_
        refine k_X3_number N ⟨hx, hb, hml, hown, hts⟩ mw_517 ⟨Nat.le_of_ble_eq_true rfl, Nat.le_of_ble_eq_true rfl⟩ h hK hP hD hS hl.1 (rest := [.long (1 : Int64), .long x4]) (Nat.le_of_ble_eq_true rfl) dX3_circle_79 (fun r1 τ2 H locs h hP hD hS => ?_)
        refine lv_lshl hx hb dX3_circle_82 rfl ?_
        refine lv_lor hx hb dX3_circle_83 ?_
        refine lv_goto (tgt := 89) hx hb dX3_circle_84 (by decide) ?_
        exact zret_l hx hb hr hlocks hK hP hD hS h dX3_circle_89
  · have h := h.2 hc
    refine lv_iload hx hb dX3_circle_18 (lv_at hl 6 rfl) ?_
    refine lv_iload_n hx hb dX3_circle_20 rfl (lv_at hl 1 rfl) ?_
    refine lv_icmp_eq (tgt := 55) hx hb dX3_circle_21 (by decide) (fun hc => ?_) (fun hc => ?_)
    · have h := h.1 hc
      obtain ⟨v3, ev3⟩ : ∃ z : Int32, z = x8 + (1 : Int32) := ⟨_, rfl⟩
      have h := h v3 ev3
      refine lv_iinc (v := v3) (lv' := [(8, .int v3), (1, .int x1), (2, .int x2), (3, .int x3), (4, .long x4), (6, .int x6), (7, .int x7)]) hx hb dX3_circle_55 hl (k := 6) rfl (by rw [ev3]; rfl) (by decide) rfl (fun ls hl => ?_)
      refine lv_goto (tgt := 12) hx hb dX3_circle_58 (by decide) ?_
      exact hk_12 x1 x2 x3 x4 x6 x7 v3 σ _ _ _ h hP hD hS (lv_sub hl [1, 2, 3, 4, 5, 6, 0] rfl)
    · have h := h.2 hc
      refine lv_iload hx hb dX3_circle_24 (lv_at hl 5 rfl) ?_
      refine lv_iconst (v := (-1 : Int32)) hx hb dX3_circle_26 (by decide) ?_
      refine lv_icmp_ne (tgt := 37) hx hb dX3_circle_27 (by decide) (fun hc => ?_) (fun hc => ?_)
      · have h := h.2 hc
        refine lv_lload hx hb dX3_circle_37 (lv_at hl 3 rfl) ?_
        refine lv_lconst (v := (1 : Int64)) hx hb dX3_circle_39 (by decide) ?_
        refine lv_iload hx hb dX3_circle_40 (lv_at hl 5 rfl) ?_
        refine lv_iload hx hb dX3_circle_42 (lv_at hl 6 rfl) ?_
        refine k_X3_number N ⟨hx, hb, hml, hown, hts⟩ mw_517 ⟨Nat.le_of_ble_eq_true rfl, Nat.le_of_ble_eq_true rfl⟩ h hK hP hD hS hl.1 (rest := [.long (1 : Int64), .long x4]) (Nat.le_of_ble_eq_true rfl) dX3_circle_44 (fun r4 τ5 H locs h hP hD hS => ?_)
        refine lv_lshl hx hb dX3_circle_47 rfl ?_
        refine lv_lor hx hb dX3_circle_48 ?_
        refine lv_topl (fun v6 ev6 => ?_)
        have h := h v6 ev6
        refine lv_lstore (lv' := [(4, .long v6), (1, .int x1), (2, .int x2), (3, .int x3), (6, .int x6), (7, .int x7), (8, .int x8)]) hx hb dX3_circle_49 hl (by decide) rfl (fun ls hl => ?_)
        refine lv_iload hx hb dX3_circle_51 (lv_at hl 6 rfl) ?_
        refine lv_istore (lv' := [(7, .int x8), (4, .long v6), (1, .int x1), (2, .int x2), (3, .int x3), (6, .int x6), (8, .int x8)]) hx hb dX3_circle_53 hl (by decide) rfl (fun ls hl => ?_)
        obtain ⟨v7, ev7⟩ : ∃ z : Int32, z = x8 + (1 : Int32) := ⟨_, rfl⟩
        have h := h v7 ev7
        refine lv_iinc (v := v7) (lv' := [(8, .int v7), (7, .int x8), (4, .long v6), (1, .int x1), (2, .int x2), (3, .int x3), (6, .int x6)]) hx hb dX3_circle_55 hl (k := 6) rfl (by rw [ev7]; rfl) (by decide) rfl (fun ls hl => ?_)
        refine lv_goto (tgt := 12) hx hb dX3_circle_58 (by decide) ?_
        exact hk_12 x1 x2 x3 v6 x6 x8 v7 τ5 _ _ _ h hP hD hS (lv_sub hl [3, 4, 5, 2, 6, 1, 0] rfl)
      · have h := h.1 hc
        refine lv_iload hx hb dX3_circle_30 (lv_at hl 6 rfl) ?_
        refine lv_istore (lv' := [(6, .int x8), (1, .int x1), (2, .int x2), (3, .int x3), (4, .long x4), (7, .int x7), (8, .int x8)]) hx hb dX3_circle_32 hl (by decide) rfl (fun ls hl => ?_)
        refine lv_goto (tgt := 51) hx hb dX3_circle_34 (by decide) ?_
        refine lv_iload hx hb dX3_circle_51 (lv_at hl 6 rfl) ?_
        refine lv_istore (lv' := [(7, .int x8), (6, .int x8), (1, .int x1), (2, .int x2), (3, .int x3), (4, .long x4), (8, .int x8)]) hx hb dX3_circle_53 hl (by decide) rfl (fun ls hl => ?_)
        obtain ⟨v8, ev8⟩ : ∃ z : Int32, z = x8 + (1 : Int32) := ⟨_, rfl⟩
        have h := h v8 ev8
        refine lv_iinc (v := v8) (lv' := [(8, .int v8), (7, .int x8), (6, .int x8), (1, .int x1), (2, .int x2), (3, .int x3), (4, .long x4)]) hx hb dX3_circle_55 hl (k := 6) rfl (by rw [ev8]; rfl) (by decide) rfl (fun ls hl => ?_)
        refine lv_goto (tgt := 12) hx hb dX3_circle_58 (by decide) ?_
        exact hk_12 x1 x2 x3 x4 x8 x8 v8 σ _ _ _ h hP hD hS (lv_sub hl [3, 4, 5, 6, 2, 1, 0] rfl)
set_option maxHeartbeats 4000000 in
set_option maxRecDepth 100000 in
theorem t_X3_circle_12 (C0 : zCx p s m meth c args RX3 cX3_circle 9 (some .long) vs_X3_circle) (hK : va_K (dC, dI) vwCl (x_ty cI cJ) s) (N : Nat) {Q : Int64 → zSt → Prop} : ∀ (f : Nat) (x1 : Int32) (x2 : Int32) (x3 : Int32) (x4 : Int64) (x6 : Int32) (x7 : Int32) (x8 : Int32) (σ : zSt) (H : Heap) (locs : List Loc) (ls : Array Slot), w_X3_circle_12 N  Q f x1 x2 x3 x4 x6 x7 x8 σ → va_P (dC, dI) vwCl (x_W ad cI cJ σ) H → va_D (zAW x_n ad s.heap.size) (x_W ad cI cJ σ) → va_S (zAW x_n ad s.heap.size) s.heap H locs → lv_has ls 9 [(1, .int x1), (2, .int x2), (3, .int x3), (4, .long x4), (6, .int x6), (7, .int x7), (8, .int x8)] → W p l e rm_X3_circle s m args below meth c H locs 0 0 (MQ below (zQl (dC, dI) (x_ty cI cJ) (x_W ad cI cJ) (zAW x_n ad s.heap.size) Q) args s 0 0 (zAW x_n ad s.heap.size)) (F0 m 12 ls []) := by
  intro f
  induction f with
  | zero => intro x1 x2 x3 x4 x6 x7 x8 σ H locs ls h; exact h.elim
  | succ f ih =>
    intro x1 x2 x3 x4 x6 x7 x8 σ H locs ls h hP hD hS hl
    exact tb_X3_circle_12 C0 hK N  (k_12 := w_X3_circle_12 N  Q f) ih x1 x2 x3 x4 x6 x7 x8 σ H locs ls h hP hD hS hl
set_option maxHeartbeats 4000000 in
set_option maxRecDepth 100000 in
theorem t_X3_circle_0 (C0 : zCx p s m meth c args RX3 cX3_circle 9 (some .long) vs_X3_circle) (hK : va_K (dC, dI) vwCl (x_ty cI cJ) s) (N : Nat) {Q : Int64 → zSt → Prop} : ∀ (x1 : Int32) (x2 : Int32) (x3 : Int32) (σ : zSt) (H : Heap) (locs : List Loc) (ls : Array Slot), w_X3_circle N x1 x2 x3 σ Q → va_P (dC, dI) vwCl (x_W ad cI cJ σ) H → va_D (zAW x_n ad s.heap.size) (x_W ad cI cJ σ) → va_S (zAW x_n ad s.heap.size) s.heap H locs → lv_has ls 9 [(0, .ref (ad 2)), (1, .int x1), (2, .int x2), (3, .int x3)] → W p l e rm_X3_circle s m args below meth c H locs 0 0 (MQ below (zQl (dC, dI) (x_ty cI cJ) (x_W ad cI cJ) (zAW x_n ad s.heap.size) Q) args s 0 0 (zAW x_n ad s.heap.size)) (F0 m 0 ls []) := by
  obtain ⟨hx, hb, hml, hr, hown, hts, hlocks⟩ := id C0
  intro x1 x2 x3 σ H locs ls h hP hD hS hl
  unfold w_X3_circle at h
  refine lv_lconst (v := (0 : Int64)) hx hb dX3_circle_0 (by decide) ?_
  refine lv_lstore (lv' := [(4, .long (0 : Int64)), (0, .ref (ad 2)), (1, .int x1), (2, .int x2), (3, .int x3)]) hx hb dX3_circle_1 hl (by decide) rfl (fun ls hl => ?_)
  refine lv_iconst (v := (-1 : Int32)) hx hb dX3_circle_3 (by decide) ?_
  refine lv_istore (lv' := [(6, .int (-1 : Int32)), (4, .long (0 : Int64)), (0, .ref (ad 2)), (1, .int x1), (2, .int x2), (3, .int x3)]) hx hb dX3_circle_4 hl (by decide) rfl (fun ls hl => ?_)
  refine lv_iconst (v := (-1 : Int32)) hx hb dX3_circle_6 (by decide) ?_
  refine lv_istore (lv' := [(7, .int (-1 : Int32)), (6, .int (-1 : Int32)), (4, .long (0 : Int64)), (0, .ref (ad 2)), (1, .int x1), (2, .int x2), (3, .int x3)]) hx hb dX3_circle_7 hl (by decide) rfl (fun ls hl => ?_)
  refine lv_iconst (v := (0 : Int32)) hx hb dX3_circle_9 (by decide) ?_
  refine lv_istore (lv' := [(8, .int (0 : Int32)), (7, .int (-1 : Int32)), (6, .int (-1 : Int32)), (4, .long (0 : Int64)), (0, .ref (ad 2)), (1, .int x1), (2, .int x2), (3, .int x3)]) hx hb dX3_circle_10 hl (by decide) rfl (fun ls hl => ?_)
  exact t_X3_circle_12 C0 hK N  N x1 x2 x3 (0 : Int64) (-1 : Int32) (-1 : Int32) (0 : Int32) σ _ _ _ h hP hD hS (lv_sub hl [5, 6, 7, 3, 2, 1, 0] rfl)
set_option maxHeartbeats 4000000 in
set_option maxRecDepth 100000 in
theorem c_X3_circle (N : Nat) (l : Launch) (dC : Nat → ClassId) (dI : Nat → Nat → Nat) (ad : Nat → Nat) (cI cJ : ClassId) (sz : Nat) (σ : zSt) (x1 : Int32) (x2 : Int32) (x3 : Int32) (Q : Int64 → zSt → Prop) (h : w_X3_circle N x1 x2 x3 σ Q) : Met l yX3_circle vs_X3_circle rm_X3_circle (va_Pc [.ref (ad 2), .int x1, .int x2, .int x3] (zPc (dC, dI) (x_ty cI cJ) (x_W ad cI cJ) sz σ)) (zQl (dC, dI) (x_ty cI cJ) (x_W ad cI cJ) (zAW x_n ad sz) Q) 0 0 (zAW x_n ad sz) := by
  refine Met.ofW (cc := cX3_circle) (maxL := 9) (ret := (some .long)) (by decide) rfl ?_
  intro p e s m args below meth c s₁ B hml hv
  obtain ⟨rfl, hsz, hP, hK, hD0⟩ := hv
  subst hsz
  have C0 : zCx p s m meth c _ RX3 cX3_circle 9 (some .long) vs_X3_circle := ⟨B.exec, B.bytes, hml, B.returns, findClass_of_methodNamed B.named, atoms_spec (ws := vs_X3_circle) B.pre, B.notSynchronized⟩
  have hD := x_D0 (n0 := s.heap.size) hD0
  have hl := lv_entry ([.ref (ad 2), .int x1, .int x2, .int x3]) (n := 9) (Nat.le_of_ble_eq_true rfl)
  rw [lg_entry_eq]
  generalize (lg_sl ([.ref (ad 2), .int x1, .int x2, .int x3]) ++ List.replicate (9 - (lg_sl ([.ref (ad 2), .int x1, .int x2, .int x3])).length) Slot.unset).toArray = ls at hl ⊢
  exact t_X3_circle_0 C0 hK N x1 x2 x3 σ _ _ ls h hP hD va_S.rf hl
theorem k_X3_circle (N : Nat) {R : Room} {H : Heap} {locs : List Loc} {Q2 : State → Prop} {cc : ByteArray} {nL pc index : Nat} {ls : Array Slot} {rest : List Value} {own : String} {c0 : Cond} {σ : zSt} {x1 : Int32} {x2 : Int32} {x3 : Int32} {Q : Int64 → zSt → Prop} (S0 : CallFix p m c cc nL s args (c0 :: zT) own) (hml : Cond.methodLink own index yX3_circle ∈ zT) (hR : rm_X3_circle.frames + 1 ≤ R.frames ∧ 8 + (9 + 11) + rm_X3_circle.locals ≤ R.locals) (h : w_X3_circle N x1 x2 x3 σ Q) (hK : va_K (dC, dI) vwCl (x_ty cI cJ) s) (hP : va_P (dC, dI) vwCl (x_W ad cI cJ σ) H) (hD : va_D (zAW x_n ad s.heap.size) (x_W ad cI cJ σ)) (hS : va_S (zAW x_n ad s.heap.size) s.heap H locs) (hsz : ls.size = nL) (hW : (rest.map fun v => v.category).sum ≤ 8) (hdg : decode cc pc = .ok (.invokevirtual index, 3)) (kk : ∀ (r : Int64) (τ : zSt) (H1 : Heap) (locs1 : List Loc), Q r τ → va_P (dC, dI) vwCl (x_W ad cI cJ τ) H1 → va_D (zAW x_n ad s.heap.size) (x_W ad cI cJ τ) → va_S (zAW x_n ad s.heap.size) s.heap H1 locs1 → W p l e R s m args below meth c H1 locs1 0 0 Q2 (F0 m (pc + 3) ls (.long r :: rest))) : W p l e R s m args below meth c H locs 0 0 Q2 (F0 m pc ls (.int x3 :: .int x2 :: .int x1 :: .ref (ad 2) :: rest)) :=
  zcv_l (T := TX3) (N' := 3) (k := 2) (ci := 3) (fs := x_f2 ad σ) [.int x1, .int x2, .int x3] S0 (c_X3_circle N l dC dI ad cI cJ H.size σ x1 x2 x3 Q h) (cw_X3_circle S0.2.2.2.2 hml rfl rfl hR) rfl rfl hK hP hD hS rfl hsz hW rfl hdg kk
end q04
section q04
def vs_X11_shape : List Cond := .code yX11_shape cX11_shape 4 (some .long) :: zT
def rm_X11_shape : Room := { frames := 3, cells := 0, slots := 0, locals := 111 }
theorem cw_X11_shape {rm R : Room} {s : State} {args : Array Value} {own : String} {index : Nat} {c0 : Cond} (hts : ∀ w ∈ c0 :: zT, w.before args s = true) (hml : Cond.methodLink own index yX11_shape ∈ zT) (hrc : rm.cells = 0) (hrs : rm.slots = 0) (hR : rm.frames + 1 ≤ R.frames ∧ 8 + (4 + 11) + rm.locals ≤ R.locals) : CallW R s args own RX11 index yX11_shape cX11_shape 4 (some .long) vs_X11_shape rm 0 0 2 :=
  zwV 2 hts hml mw_510 mw_511 mw_1 mw_512 hrc hrs (by decide +kernel) hR
def w_X11_shape (N : Nat) (x1 : Int32) (x2 : Int32) (σ : zSt) (Q : Int64 → zSt → Prop) : Prop :=
  ∀ v1 : Int32, v1 = σ.1 1 → (x1 = (0 : Int32) → Q (0 : Int64) σ) ∧ (¬ x1 = (0 : Int32) → (x1 = (1 : Int32) → w_X3_within N (0 : Int32) v1 σ (fun r2 τ3 => Q r2 τ3)) ∧ (¬ x1 = (1 : Int32) → (x1 = (2 : Int32) → w_X4_isPerson_2 N x2 σ (fun r4 τ5 => (r4 = 0 → Q (-1 : Int64) τ5) ∧ (¬ r4 = 0 → w_X3_star N x2 v1 τ5 (fun r6 τ7 => Q r6 τ7)))) ∧ (¬ x1 = (2 : Int32) → (x1 = (3 : Int32) → w_X3_circle N v1 v1 (0 : Int32) σ (fun r8 τ9 => Q r8 τ9)) ∧ (¬ x1 = (3 : Int32) → (x1 = (4 : Int32) → (v1 < (3 : Int32) → Q (-1 : Int64) σ) ∧ (¬ v1 < (3 : Int32) → w_X3_circle N v1 v1 (1 : Int32) σ (fun r10 τ11 => Q r10 τ11))) ∧ (¬ x1 = (4 : Int32) → (x1 = (5 : Int32) → w_X4_isPerson_2 N x2 σ (fun r12 τ13 => (r12 = 0 → Q (-1 : Int64) τ13) ∧ (¬ r12 = 0 → w_X3_within N (0 : Int32) x2 τ13 (fun r14 τ15 => w_X3_within N x2 v1 τ15 (fun r16 τ17 => Q (r14 ||| r16) τ17))))) ∧ (¬ x1 = (5 : Int32) → (x1 = (6 : Int32) → w_X4_isPerson_2 N x2 σ (fun r18 τ19 => (r18 = 0 → Q (-1 : Int64) τ19) ∧ (¬ r18 = 0 → (v1 < (4 : Int32) → Q (-1 : Int64) τ19) ∧ (¬ v1 < (4 : Int32) → w_X3_circle N v1 x2 (1 : Int32) τ19 (fun r20 τ21 => w_X3_star N x2 v1 τ21 (fun r22 τ23 => Q (r20 ||| r22) τ23)))))) ∧ (¬ x1 = (6 : Int32) → Q (-1 : Int64) σ)))))))
variable {p : Program} {l : Launch} {e : Env} {s : State} {m : MethodId} {args : Array Value} {below : List Frame} {meth : Method} {c : Code} {dC : Nat → ClassId} {dI : Nat → Nat → Nat} {ad : Nat → Nat} {cI cJ : ClassId}
set_option maxHeartbeats 4000000 in
set_option maxRecDepth 100000 in
theorem t_X11_shape_0 (C0 : zCx p s m meth c args RX11 cX11_shape 4 (some .long) vs_X11_shape) (hK : va_K (dC, dI) vwCl (x_ty cI cJ) s) (N : Nat) {Q : Int64 → zSt → Prop} : ∀ (x1 : Int32) (x2 : Int32) (σ : zSt) (H : Heap) (locs : List Loc) (ls : Array Slot), w_X11_shape N x1 x2 σ Q → va_P (dC, dI) vwCl (x_W ad cI cJ σ) H → va_D (zAW x_n ad s.heap.size) (x_W ad cI cJ σ) → va_S (zAW x_n ad s.heap.size) s.heap H locs → lv_has ls 4 [(0, .ref (ad 0)), (1, .int x1), (2, .int x2)] → W p l e rm_X11_shape s m args below meth c H locs 0 0 (MQ below (zQl (dC, dI) (x_ty cI cJ) (x_W ad cI cJ) (zAW x_n ad s.heap.size) Q) args s 0 0 (zAW x_n ad s.heap.size)) (F0 m 0 ls []) := by
  obtain ⟨hx, hb, hml, hr, hown, hts, hlocks⟩ := id C0
  intro x1 x2 σ H locs ls h hP hD hS hl
  unfold w_X11_shape at h
  refine lv_aload_n hx hb dX11_shape_0 rfl (lv_at hl 0 rfl) ?_
  refine xg_0_2 hx hb hts hown hK hP mw_291 dX11_shape_1 ?_
  refine xg_3_4 hx hb hts hown hK hP mw_75 dX11_shape_4 ?_
  refine lv_topi (fun v1 ev1 => ?_)
  have h := h v1 ev1
  refine lv_istore_n (lv' := [(3, .int v1), (0, .ref (ad 0)), (1, .int x1), (2, .int x2)]) hx hb dX11_shape_7 rfl hl (by decide) rfl (fun ls hl => ?_)
  refine lv_iload_n hx hb dX11_shape_8 rfl (lv_at hl 2 rfl) ?_
  by_cases hc0 : x1 = (0 : Int32)
  · have h := h.1 hc0
    refine lv_tableIn (off := 43) (tgt := 52) hx hb dX11_shape_9 (by rw [hc0]; decide) (by rw [hc0]; decide) (by rw [hc0]; rfl) (by decide) ?_
    refine lv_lconst (v := (0 : Int64)) hx hb dX11_shape_52 (by decide) ?_
    exact zret_l hx hb hr hlocks hK hP hD hS h dX11_shape_53
  · have hn0 := hc0
    have h := h.2 hc0
    by_cases hc1 : x1 = (1 : Int32)
    · have h := h.1 hc1
      refine lv_tableIn (off := 45) (tgt := 54) hx hb dX11_shape_9 (by rw [hc1]; decide) (by rw [hc1]; decide) (by rw [hc1]; rfl) (by decide) ?_
      refine lv_aload_n hx hb dX11_shape_54 rfl (lv_at hl 1 rfl) ?_
      refine xg_0_1 hx hb hts hown hK hP mw_290 dX11_shape_55 ?_
      refine lv_iconst (v := (0 : Int32)) hx hb dX11_shape_58 (by decide) ?_
      refine lv_iload_n hx hb dX11_shape_59 rfl (lv_at hl 0 rfl) ?_
      refine k_X3_within N ⟨hx, hb, hml, hown, hts⟩ mw_513 ⟨Nat.le_of_ble_eq_true rfl, Nat.le_of_ble_eq_true rfl⟩ h hK hP hD hS hl.1 (rest := []) (Nat.le_of_ble_eq_true rfl) dX11_shape_60 (fun r2 τ3 H locs h hP hD hS => ?_)
      exact zret_l hx hb hr hlocks hK hP hD hS h dX11_shape_63
    · have hn1 := hc1
      have h := h.2 hc1
      by_cases hc2 : x1 = (2 : Int32)
      · have h := h.1 hc2
        refine lv_tableIn (off := 55) (tgt := 64) hx hb dX11_shape_9 (by rw [hc2]; decide) (by rw [hc2]; decide) (by rw [hc2]; rfl) (by decide) ?_
        refine lv_aload_n hx hb dX11_shape_64 rfl (lv_at hl 1 rfl) ?_
        refine xg_0_2 hx hb hts hown hK hP mw_291 dX11_shape_65 ?_
        refine lv_iload_n hx hb dX11_shape_68 rfl (lv_at hl 3 rfl) ?_
        refine k_X4_isPerson_2 N ⟨hx, hb, hml, hown, hts⟩ mw_491 ⟨Nat.le_of_ble_eq_true rfl, Nat.le_of_ble_eq_true rfl⟩ h hK hP hD hS hl.1 (rest := []) (Nat.le_of_ble_eq_true rfl) dX11_shape_69 (fun r4 τ5 H locs h hP hD hS => ?_)
        refine lv_if_eq (tgt := 87) hx hb dX11_shape_72 (by decide) (fun hc => ?_) (fun hc => ?_)
        · have h := h.1 hc
          refine lv_ldc2 (v := (-1 : Int64)) hx hb hown (hts _ (List.mem_cons_of_mem _ mw_275)) dX11_shape_87 ?_
          exact zret_l hx hb hr hlocks hK hP hD hS h dX11_shape_90
        · have h := h.2 hc
          refine lv_aload_n hx hb dX11_shape_75 rfl (lv_at hl 1 rfl) ?_
          refine xg_0_1 hx hb hts hown hK hP mw_290 dX11_shape_76 ?_
          refine lv_iload_n hx hb dX11_shape_79 rfl (lv_at hl 3 rfl) ?_
          refine lv_iload_n hx hb dX11_shape_80 rfl (lv_at hl 0 rfl) ?_
          refine k_X3_star N ⟨hx, hb, hml, hown, hts⟩ mw_518 ⟨Nat.le_of_ble_eq_true rfl, Nat.le_of_ble_eq_true rfl⟩ h hK hP hD hS hl.1 (rest := []) (Nat.le_of_ble_eq_true rfl) dX11_shape_81 (fun r6 τ7 H locs h hP hD hS => ?_)
          refine lv_goto (tgt := 90) hx hb dX11_shape_84 (by decide) ?_
          exact zret_l hx hb hr hlocks hK hP hD hS h dX11_shape_90
      · have hn2 := hc2
        have h := h.2 hc2
        by_cases hc3 : x1 = (3 : Int32)
        · have h := h.1 hc3
          refine lv_tableIn (off := 82) (tgt := 91) hx hb dX11_shape_9 (by rw [hc3]; decide) (by rw [hc3]; decide) (by rw [hc3]; rfl) (by decide) ?_
          refine lv_aload_n hx hb dX11_shape_91 rfl (lv_at hl 1 rfl) ?_
          refine xg_0_1 hx hb hts hown hK hP mw_290 dX11_shape_92 ?_
          refine lv_iload_n hx hb dX11_shape_95 rfl (lv_at hl 0 rfl) ?_
          refine lv_iload_n hx hb dX11_shape_96 rfl (lv_at hl 0 rfl) ?_
          refine lv_iconst (v := (0 : Int32)) hx hb dX11_shape_97 (by decide) ?_
          refine k_X3_circle N ⟨hx, hb, hml, hown, hts⟩ mw_523 ⟨Nat.le_of_ble_eq_true rfl, Nat.le_of_ble_eq_true rfl⟩ h hK hP hD hS hl.1 (rest := []) (Nat.le_of_ble_eq_true rfl) dX11_shape_98 (fun r8 τ9 H locs h hP hD hS => ?_)
          exact zret_l hx hb hr hlocks hK hP hD hS h dX11_shape_101
        · have hn3 := hc3
          have h := h.2 hc3
          by_cases hc4 : x1 = (4 : Int32)
          · have h := h.1 hc4
            refine lv_tableIn (off := 93) (tgt := 102) hx hb dX11_shape_9 (by rw [hc4]; decide) (by rw [hc4]; decide) (by rw [hc4]; rfl) (by decide) ?_
            refine lv_iload_n hx hb dX11_shape_102 rfl (lv_at hl 0 rfl) ?_
            refine lv_iconst (v := (3 : Int32)) hx hb dX11_shape_103 (by decide) ?_
            refine lv_icmp_lt (tgt := 120) hx hb dX11_shape_104 (by decide) (fun hc => ?_) (fun hc => ?_)
            · have h := h.1 hc
              refine lv_ldc2 (v := (-1 : Int64)) hx hb hown (hts _ (List.mem_cons_of_mem _ mw_275)) dX11_shape_120 ?_
              exact zret_l hx hb hr hlocks hK hP hD hS h dX11_shape_123
            · have h := h.2 hc
              refine lv_aload_n hx hb dX11_shape_107 rfl (lv_at hl 1 rfl) ?_
              refine xg_0_1 hx hb hts hown hK hP mw_290 dX11_shape_108 ?_
              refine lv_iload_n hx hb dX11_shape_111 rfl (lv_at hl 0 rfl) ?_
              refine lv_iload_n hx hb dX11_shape_112 rfl (lv_at hl 0 rfl) ?_
              refine lv_iconst (v := (1 : Int32)) hx hb dX11_shape_113 (by decide) ?_
              refine k_X3_circle N ⟨hx, hb, hml, hown, hts⟩ mw_523 ⟨Nat.le_of_ble_eq_true rfl, Nat.le_of_ble_eq_true rfl⟩ h hK hP hD hS hl.1 (rest := []) (Nat.le_of_ble_eq_true rfl) dX11_shape_114 (fun r10 τ11 H locs h hP hD hS => ?_)
              refine lv_goto (tgt := 123) hx hb dX11_shape_117 (by decide) ?_
              exact zret_l hx hb hr hlocks hK hP hD hS h dX11_shape_123
          · have hn4 := hc4
            have h := h.2 hc4
            by_cases hc5 : x1 = (5 : Int32)
            · have h := h.1 hc5
              refine lv_tableIn (off := 115) (tgt := 124) hx hb dX11_shape_9 (by rw [hc5]; decide) (by rw [hc5]; decide) (by rw [hc5]; rfl) (by decide) ?_
              refine lv_aload_n hx hb dX11_shape_124 rfl (lv_at hl 1 rfl) ?_
              refine xg_0_2 hx hb hts hown hK hP mw_291 dX11_shape_125 ?_
              refine lv_iload_n hx hb dX11_shape_128 rfl (lv_at hl 3 rfl) ?_
              refine k_X4_isPerson_2 N ⟨hx, hb, hml, hown, hts⟩ mw_491 ⟨Nat.le_of_ble_eq_true rfl, Nat.le_of_ble_eq_true rfl⟩ h hK hP hD hS hl.1 (rest := []) (Nat.le_of_ble_eq_true rfl) dX11_shape_129 (fun r12 τ13 H locs h hP hD hS => ?_)
              refine lv_if_eq (tgt := 157) hx hb dX11_shape_132 (by decide) (fun hc => ?_) (fun hc => ?_)
              · have h := h.1 hc
                refine lv_ldc2 (v := (-1 : Int64)) hx hb hown (hts _ (List.mem_cons_of_mem _ mw_275)) dX11_shape_157 ?_
                exact zret_l hx hb hr hlocks hK hP hD hS h dX11_shape_160
              · have h := h.2 hc
                refine lv_aload_n hx hb dX11_shape_135 rfl (lv_at hl 1 rfl) ?_
                refine xg_0_1 hx hb hts hown hK hP mw_290 dX11_shape_136 ?_
                refine lv_iconst (v := (0 : Int32)) hx hb dX11_shape_139 (by decide) ?_
                refine lv_iload_n hx hb dX11_shape_140 rfl (lv_at hl 3 rfl) ?_
                refine k_X3_within N ⟨hx, hb, hml, hown, hts⟩ mw_513 ⟨Nat.le_of_ble_eq_true rfl, Nat.le_of_ble_eq_true rfl⟩ h hK hP hD hS hl.1 (rest := []) (Nat.le_of_ble_eq_true rfl) dX11_shape_141 (fun r14 τ15 H locs h hP hD hS => ?_)
                refine lv_aload_n hx hb dX11_shape_144 rfl (lv_at hl 1 rfl) ?_
                refine xg_0_1 hx hb hts hown hK hP mw_290 dX11_shape_145 ?_
                refine lv_iload_n hx hb dX11_shape_148 rfl (lv_at hl 3 rfl) ?_
                refine lv_iload_n hx hb dX11_shape_149 rfl (lv_at hl 0 rfl) ?_
                refine k_X3_within N ⟨hx, hb, hml, hown, hts⟩ mw_513 ⟨Nat.le_of_ble_eq_true rfl, Nat.le_of_ble_eq_true rfl⟩ h hK hP hD hS hl.1 (rest := [.long r14]) (Nat.le_of_ble_eq_true rfl) dX11_shape_150 (fun r16 τ17 H locs h hP hD hS => ?_)
                refine lv_lor hx hb dX11_shape_153 ?_
                refine lv_goto (tgt := 160) hx hb dX11_shape_154 (by decide) ?_
                exact zret_l hx hb hr hlocks hK hP hD hS h dX11_shape_160
            · have hn5 := hc5
              have h := h.2 hc5
              by_cases hc6 : x1 = (6 : Int32)
              · have h := h.1 hc6
                refine lv_tableIn (off := 152) (tgt := 161) hx hb dX11_shape_9 (by rw [hc6]; decide) (by rw [hc6]; decide) (by rw [hc6]; rfl) (by decide) ?_
                refine lv_aload_n hx hb dX11_shape_161 rfl (lv_at hl 1 rfl) ?_
                refine xg_0_2 hx hb hts hown hK hP mw_291 dX11_shape_162 ?_
                refine lv_iload_n hx hb dX11_shape_165 rfl (lv_at hl 3 rfl) ?_
                refine k_X4_isPerson_2 N ⟨hx, hb, hml, hown, hts⟩ mw_491 ⟨Nat.le_of_ble_eq_true rfl, Nat.le_of_ble_eq_true rfl⟩ h hK hP hD hS hl.1 (rest := []) (Nat.le_of_ble_eq_true rfl) dX11_shape_166 (fun r18 τ19 H locs h hP hD hS => ?_)
                refine lv_if_eq (tgt := 200) hx hb dX11_shape_169 (by decide) (fun hc => ?_) (fun hc => ?_)
                · have h := h.1 hc
                  refine lv_ldc2 (v := (-1 : Int64)) hx hb hown (hts _ (List.mem_cons_of_mem _ mw_275)) dX11_shape_200 ?_
                  exact zret_l hx hb hr hlocks hK hP hD hS h dX11_shape_203
                · have h := h.2 hc
                  refine lv_iload_n hx hb dX11_shape_172 rfl (lv_at hl 0 rfl) ?_
                  refine lv_iconst (v := (4 : Int32)) hx hb dX11_shape_173 (by decide) ?_
                  refine lv_icmp_lt (tgt := 200) hx hb dX11_shape_174 (by decide) (fun hc => ?_) (fun hc => ?_)
                  · have h := h.1 hc
                    refine lv_ldc2 (v := (-1 : Int64)) hx hb hown (hts _ (List.mem_cons_of_mem _ mw_275)) dX11_shape_200 ?_
                    exact zret_l hx hb hr hlocks hK hP hD hS h dX11_shape_203
                  · have h := h.2 hc
                    refine lv_aload_n hx hb dX11_shape_177 rfl (lv_at hl 1 rfl) ?_
                    refine xg_0_1 hx hb hts hown hK hP mw_290 dX11_shape_178 ?_
                    refine lv_iload_n hx hb dX11_shape_181 rfl (lv_at hl 0 rfl) ?_
                    refine lv_iload_n hx hb dX11_shape_182 rfl (lv_at hl 3 rfl) ?_
                    refine lv_iconst (v := (1 : Int32)) hx hb dX11_shape_183 (by decide) ?_
                    refine k_X3_circle N ⟨hx, hb, hml, hown, hts⟩ mw_523 ⟨Nat.le_of_ble_eq_true rfl, Nat.le_of_ble_eq_true rfl⟩ h hK hP hD hS hl.1 (rest := []) (Nat.le_of_ble_eq_true rfl) dX11_shape_184 (fun r20 τ21 H locs h hP hD hS => ?_)
                    refine lv_aload_n hx hb dX11_shape_187 rfl (lv_at hl 1 rfl) ?_
                    refine xg_0_1 hx hb hts hown hK hP mw_290 dX11_shape_188 ?_
                    refine lv_iload_n hx hb dX11_shape_191 rfl (lv_at hl 3 rfl) ?_
                    refine lv_iload_n hx hb dX11_shape_192 rfl (lv_at hl 0 rfl) ?_
                    refine k_X3_star N ⟨hx, hb, hml, hown, hts⟩ mw_518 ⟨Nat.le_of_ble_eq_true rfl, Nat.le_of_ble_eq_true rfl⟩ h hK hP hD hS hl.1 (rest := [.long r20]) (Nat.le_of_ble_eq_true rfl) dX11_shape_193 (fun r22 τ23 H locs h hP hD hS => ?_)
                    refine lv_lor hx hb dX11_shape_196 ?_
                    refine lv_goto (tgt := 203) hx hb dX11_shape_197 (by decide) ?_
                    exact zret_l hx hb hr hlocks hK hP hD hS h dX11_shape_203
              · have hn6 := hc6
                have h := h.2 hc6
                refine lv_tableOut (tgt := 204) hx hb dX11_shape_9 (by have e0 := zne (k := 0) (by decide) hn0; have e1 := zne (k := 1) (by decide) hn1; have e2 := zne (k := 2) (by decide) hn2; have e3 := zne (k := 3) (by decide) hn3; have e4 := zne (k := 4) (by decide) hn4; have e5 := zne (k := 5) (by decide) hn5; have e6 := zne (k := 6) (by decide) hn6; omega) (by decide) ?_
                refine lv_ldc2 (v := (-1 : Int64)) hx hb hown (hts _ (List.mem_cons_of_mem _ mw_275)) dX11_shape_204 ?_
                exact zret_l hx hb hr hlocks hK hP hD hS h dX11_shape_207
set_option maxHeartbeats 4000000 in
set_option maxRecDepth 100000 in
theorem c_X11_shape (N : Nat) (l : Launch) (dC : Nat → ClassId) (dI : Nat → Nat → Nat) (ad : Nat → Nat) (cI cJ : ClassId) (sz : Nat) (σ : zSt) (x1 : Int32) (x2 : Int32) (Q : Int64 → zSt → Prop) (h : w_X11_shape N x1 x2 σ Q) : Met l yX11_shape vs_X11_shape rm_X11_shape (va_Pc [.ref (ad 0), .int x1, .int x2] (zPc (dC, dI) (x_ty cI cJ) (x_W ad cI cJ) sz σ)) (zQl (dC, dI) (x_ty cI cJ) (x_W ad cI cJ) (zAW x_n ad sz) Q) 0 0 (zAW x_n ad sz) := by
  refine Met.ofW (cc := cX11_shape) (maxL := 4) (ret := (some .long)) (by decide) rfl ?_
  intro p e s m args below meth c s₁ B hml hv
  obtain ⟨rfl, hsz, hP, hK, hD0⟩ := hv
  subst hsz
  have C0 : zCx p s m meth c _ RX11 cX11_shape 4 (some .long) vs_X11_shape := ⟨B.exec, B.bytes, hml, B.returns, findClass_of_methodNamed B.named, atoms_spec (ws := vs_X11_shape) B.pre, B.notSynchronized⟩
  have hD := x_D0 (n0 := s.heap.size) hD0
  have hl := lv_entry ([.ref (ad 0), .int x1, .int x2]) (n := 4) (Nat.le_of_ble_eq_true rfl)
  rw [lg_entry_eq]
  generalize (lg_sl ([.ref (ad 0), .int x1, .int x2]) ++ List.replicate (4 - (lg_sl ([.ref (ad 0), .int x1, .int x2])).length) Slot.unset).toArray = ls at hl ⊢
  exact t_X11_shape_0 C0 hK N x1 x2 σ _ _ ls h hP hD va_S.rf hl
theorem k_X11_shape (N : Nat) {R : Room} {H : Heap} {locs : List Loc} {Q2 : State → Prop} {cc : ByteArray} {nL pc index : Nat} {ls : Array Slot} {rest : List Value} {own : String} {c0 : Cond} {σ : zSt} {x1 : Int32} {x2 : Int32} {Q : Int64 → zSt → Prop} (S0 : CallFix p m c cc nL s args (c0 :: zT) own) (hml : Cond.methodLink own index yX11_shape ∈ zT) (hR : rm_X11_shape.frames + 1 ≤ R.frames ∧ 8 + (4 + 11) + rm_X11_shape.locals ≤ R.locals) (h : w_X11_shape N x1 x2 σ Q) (hK : va_K (dC, dI) vwCl (x_ty cI cJ) s) (hP : va_P (dC, dI) vwCl (x_W ad cI cJ σ) H) (hD : va_D (zAW x_n ad s.heap.size) (x_W ad cI cJ σ)) (hS : va_S (zAW x_n ad s.heap.size) s.heap H locs) (hsz : ls.size = nL) (hW : (rest.map fun v => v.category).sum ≤ 8) (hdg : decode cc pc = .ok (.invokevirtual index, 3)) (kk : ∀ (r : Int64) (τ : zSt) (H1 : Heap) (locs1 : List Loc), Q r τ → va_P (dC, dI) vwCl (x_W ad cI cJ τ) H1 → va_D (zAW x_n ad s.heap.size) (x_W ad cI cJ τ) → va_S (zAW x_n ad s.heap.size) s.heap H1 locs1 → W p l e R s m args below meth c H1 locs1 0 0 Q2 (F0 m (pc + 3) ls (.long r :: rest))) : W p l e R s m args below meth c H locs 0 0 Q2 (F0 m pc ls (.int x2 :: .int x1 :: .ref (ad 0) :: rest)) :=
  zcv_l (T := TX11) (N' := 17) (k := 0) (ci := 11) (fs := x_f0 ad σ) [.int x1, .int x2] S0 (c_X11_shape N l dC dI ad cI cJ H.size σ x1 x2 Q h) (cw_X11_shape S0.2.2.2.2 hml rfl rfl hR) rfl rfl hK hP hD hS rfl hsz hW rfl hdg kk
end q04
section q04
def vs_X11_canBeExtra : List Cond := .code yX11_canBeExtra cX11_canBeExtra 1 (some .boolean) :: zT
def rm_X11_canBeExtra : Room := { frames := 0, cells := 0, slots := 0, locals := 0 }
theorem cw_X11_canBeExtra {R : Room} {s : State} {args : Array Value} {own : String} {index : Nat} {c0 : Cond} (hts : ∀ w ∈ c0 :: zT, w.before args s = true) (hml : Cond.methodLink own index yX11_canBeExtra ∈ zT) (hR : rm_X11_canBeExtra.frames + 1 ≤ R.frames ∧ 8 + (1 + 11) + rm_X11_canBeExtra.locals ≤ R.locals) : CallB R s args own index yX11_canBeExtra cX11_canBeExtra 1 (some .boolean) vs_X11_canBeExtra rm_X11_canBeExtra 0 0 1 ∧ (Cond.static yX11_canBeExtra).before args s = true :=
  zwS 1 hts hml mw_532 mw_1 mw_533 rfl rfl (by decide +kernel) hR
def w_X11_canBeExtra (N : Nat) (x0 : Int32) (σ : zSt) (Q : Int32 → zSt → Prop) : Prop :=
  (x0 < (-1000 : Int32) → Q (0 : Int32) σ) ∧ (¬ x0 < (-1000 : Int32) → ((1000 : Int32) < x0 → Q (0 : Int32) σ) ∧ (¬ (1000 : Int32) < x0 → Q (1 : Int32) σ))
variable {p : Program} {l : Launch} {e : Env} {s : State} {m : MethodId} {args : Array Value} {below : List Frame} {meth : Method} {c : Code} {dC : Nat → ClassId} {dI : Nat → Nat → Nat} {ad : Nat → Nat} {cI cJ : ClassId}
set_option maxHeartbeats 4000000 in
set_option maxRecDepth 100000 in
theorem t_X11_canBeExtra_0 (C0 : zCx p s m meth c args RX11 cX11_canBeExtra 1 (some .boolean) vs_X11_canBeExtra) (hK : va_K (dC, dI) vwCl (x_ty cI cJ) s) (N : Nat) {Q : Int32 → zSt → Prop} : ∀ (x0 : Int32) (σ : zSt) (H : Heap) (locs : List Loc) (ls : Array Slot), w_X11_canBeExtra N x0 σ Q → va_P (dC, dI) vwCl (x_W ad cI cJ σ) H → va_D (zAW x_n ad s.heap.size) (x_W ad cI cJ σ) → va_S (zAW x_n ad s.heap.size) s.heap H locs → lv_has ls 1 [(0, .int x0)] → W p l e rm_X11_canBeExtra s m args below meth c H locs 0 0 (MQ below (zQi (dC, dI) (x_ty cI cJ) (x_W ad cI cJ) (zAW x_n ad s.heap.size) Q) args s 0 0 (zAW x_n ad s.heap.size)) (F0 m 0 ls []) := by
  obtain ⟨hx, hb, hml, hr, hown, hts, hlocks⟩ := id C0
  intro x0 σ H locs ls h hP hD hS hl
  unfold w_X11_canBeExtra at h
  refine lv_iload_n hx hb dX11_canBeExtra_0 rfl (lv_at hl 0 rfl) ?_
  refine lv_sipush (v := (-1000 : Int32)) hx hb dX11_canBeExtra_1 (by decide) ?_
  refine lv_icmp_lt (tgt := 18) hx hb dX11_canBeExtra_4 (by decide) (fun hc => ?_) (fun hc => ?_)
  · have h := h.1 hc
    refine lv_iconst (v := (0 : Int32)) hx hb dX11_canBeExtra_18 (by decide) ?_
    exact zret_z hx hb hr hlocks hK hP hD hS zb_0 h dX11_canBeExtra_19
  · have h := h.2 hc
    refine lv_iload_n hx hb dX11_canBeExtra_7 rfl (lv_at hl 0 rfl) ?_
    refine lv_sipush (v := (1000 : Int32)) hx hb dX11_canBeExtra_8 (by decide) ?_
    refine lv_icmp_gt (tgt := 18) hx hb dX11_canBeExtra_11 (by decide) (fun hc => ?_) (fun hc => ?_)
    · have h := h.1 hc
      refine lv_iconst (v := (0 : Int32)) hx hb dX11_canBeExtra_18 (by decide) ?_
      exact zret_z hx hb hr hlocks hK hP hD hS zb_0 h dX11_canBeExtra_19
    · have h := h.2 hc
      refine lv_iconst (v := (1 : Int32)) hx hb dX11_canBeExtra_14 (by decide) ?_
      refine lv_goto (tgt := 19) hx hb dX11_canBeExtra_15 (by decide) ?_
      exact zret_z hx hb hr hlocks hK hP hD hS zb_1 h dX11_canBeExtra_19
set_option maxHeartbeats 4000000 in
set_option maxRecDepth 100000 in
theorem c_X11_canBeExtra (N : Nat) (l : Launch) (dC : Nat → ClassId) (dI : Nat → Nat → Nat) (ad : Nat → Nat) (cI cJ : ClassId) (sz : Nat) (σ : zSt) (x0 : Int32) (Q : Int32 → zSt → Prop) (h : w_X11_canBeExtra N x0 σ Q) : Met l yX11_canBeExtra vs_X11_canBeExtra rm_X11_canBeExtra (va_Pc [.int x0] (zPc (dC, dI) (x_ty cI cJ) (x_W ad cI cJ) sz σ)) (zQi (dC, dI) (x_ty cI cJ) (x_W ad cI cJ) (zAW x_n ad sz) Q) 0 0 (zAW x_n ad sz) := by
  refine Met.ofW (cc := cX11_canBeExtra) (maxL := 1) (ret := (some .boolean)) (by decide) rfl ?_
  intro p e s m args below meth c s₁ B hml hv
  obtain ⟨rfl, hsz, hP, hK, hD0⟩ := hv
  subst hsz
  have C0 : zCx p s m meth c _ RX11 cX11_canBeExtra 1 (some .boolean) vs_X11_canBeExtra := ⟨B.exec, B.bytes, hml, B.returns, findClass_of_methodNamed B.named, atoms_spec (ws := vs_X11_canBeExtra) B.pre, B.notSynchronized⟩
  have hD := x_D0 (n0 := s.heap.size) hD0
  have hl := lv_entry ([.int x0]) (n := 1) (Nat.le_of_ble_eq_true rfl)
  rw [lg_entry_eq]
  generalize (lg_sl ([.int x0]) ++ List.replicate (1 - (lg_sl ([.int x0])).length) Slot.unset).toArray = ls at hl ⊢
  exact t_X11_canBeExtra_0 C0 hK N x0 σ _ _ ls h hP hD va_S.rf hl
theorem k_X11_canBeExtra (N : Nat) {R : Room} {H : Heap} {locs : List Loc} {Q2 : State → Prop} {cc : ByteArray} {nL pc index : Nat} {ls : Array Slot} {rest : List Value} {own : String} {c0 : Cond} {σ : zSt} {x0 : Int32} {Q : Int32 → zSt → Prop} (S0 : CallFix p m c cc nL s args (c0 :: zT) own) (hml : Cond.methodLink own index yX11_canBeExtra ∈ zT) (hR : rm_X11_canBeExtra.frames + 1 ≤ R.frames ∧ 8 + (1 + 11) + rm_X11_canBeExtra.locals ≤ R.locals) (h : w_X11_canBeExtra N x0 σ Q) (hK : va_K (dC, dI) vwCl (x_ty cI cJ) s) (hP : va_P (dC, dI) vwCl (x_W ad cI cJ σ) H) (hD : va_D (zAW x_n ad s.heap.size) (x_W ad cI cJ σ)) (hS : va_S (zAW x_n ad s.heap.size) s.heap H locs) (hsz : ls.size = nL) (hW : (rest.map fun v => v.category).sum ≤ 8) (hdg : decode cc pc = .ok (.invokestatic index, 3)) (kk : ∀ (r : Int32) (τ : zSt) (H1 : Heap) (locs1 : List Loc), Q r τ → va_P (dC, dI) vwCl (x_W ad cI cJ τ) H1 → va_D (zAW x_n ad s.heap.size) (x_W ad cI cJ τ) → va_S (zAW x_n ad s.heap.size) s.heap H1 locs1 → W p l e R s m args below meth c H1 locs1 0 0 Q2 (F0 m (pc + 3) ls (.int r :: rest))) : W p l e R s m args below meth c H locs 0 0 Q2 (F0 m pc ls (.int x0 :: rest)) :=
  zcs_i [.int x0] S0 (c_X11_canBeExtra N l dC dI ad cI cJ H.size σ x0 Q h) (cw_X11_canBeExtra S0.2.2.2.2 hml hR) hK hP hD hS rfl hsz hW rfl hdg kk
end q04
section q04
def vs_X11_extra : List Cond := .code yX11_extra cX11_extra 2 (some .boolean) :: zT
def rm_X11_extra : Room := { frames := 1, cells := 0, slots := 0, locals := 20 }
theorem cw_X11_extra {rm R : Room} {s : State} {args : Array Value} {own : String} {index : Nat} {c0 : Cond} (hts : ∀ w ∈ c0 :: zT, w.before args s = true) (hml : Cond.methodLink own index yX11_extra ∈ zT) (hrc : rm.cells = 0) (hrs : rm.slots = 0) (hR : rm.frames + 1 ≤ R.frames ∧ 8 + (2 + 11) + rm.locals ≤ R.locals) : CallW R s args own RX11 index yX11_extra cX11_extra 2 (some .boolean) vs_X11_extra rm 0 0 1 :=
  zwV 1 hts hml mw_528 mw_529 mw_1 mw_530 hrc hrs (by decide +kernel) hR
def w_X11_extra (N : Nat) (x1 : Int32) (σ : zSt) (Q : Int32 → zSt → Prop) : Prop :=
  w_X11_canBeExtra N x1 σ (fun r1 τ2 => (r1 = 0 → Q (0 : Int32) τ2) ∧ (¬ r1 = 0 → ∀ τ3 : zSt, τ3 = zI τ2 25 x1 → Q (1 : Int32) τ3))
variable {p : Program} {l : Launch} {e : Env} {s : State} {m : MethodId} {args : Array Value} {below : List Frame} {meth : Method} {c : Code} {dC : Nat → ClassId} {dI : Nat → Nat → Nat} {ad : Nat → Nat} {cI cJ : ClassId}
set_option maxHeartbeats 4000000 in
set_option maxRecDepth 100000 in
theorem t_X11_extra_0 (C0 : zCx p s m meth c args RX11 cX11_extra 2 (some .boolean) vs_X11_extra) (hK : va_K (dC, dI) vwCl (x_ty cI cJ) s) (N : Nat) {Q : Int32 → zSt → Prop} : ∀ (x1 : Int32) (σ : zSt) (H : Heap) (locs : List Loc) (ls : Array Slot), w_X11_extra N x1 σ Q → va_P (dC, dI) vwCl (x_W ad cI cJ σ) H → va_D (zAW x_n ad s.heap.size) (x_W ad cI cJ σ) → va_S (zAW x_n ad s.heap.size) s.heap H locs → lv_has ls 2 [(0, .ref (ad 0)), (1, .int x1)] → W p l e rm_X11_extra s m args below meth c H locs 0 0 (MQ below (zQi (dC, dI) (x_ty cI cJ) (x_W ad cI cJ) (zAW x_n ad s.heap.size) Q) args s 0 0 (zAW x_n ad s.heap.size)) (F0 m 0 ls []) := by
  obtain ⟨hx, hb, hml, hr, hown, hts, hlocks⟩ := id C0
  intro x1 σ H locs ls h hP hD hS hl
  unfold w_X11_extra at h
  refine lv_iload_n hx hb dX11_extra_0 rfl (lv_at hl 1 rfl) ?_
  refine k_X11_canBeExtra N ⟨hx, hb, hml, hown, hts⟩ mw_531 ⟨Nat.le_of_ble_eq_true rfl, Nat.le_of_ble_eq_true rfl⟩ h hK hP hD hS hl.1 (rest := []) (Nat.le_of_ble_eq_true rfl) dX11_extra_1 (fun r1 τ2 H locs h hP hD hS => ?_)
  refine lv_if_ne (tgt := 9) hx hb dX11_extra_4 (by decide) (fun hc => ?_) (fun hc => ?_)
  · have h := h.2 hc
    refine lv_aload_n hx hb dX11_extra_9 rfl (lv_at hl 0 rfl) ?_
    refine xg_0_5 hx hb hts hown hK hP mw_294 dX11_extra_10 ?_
    refine lv_iload_n hx hb dX11_extra_13 rfl (lv_at hl 1 rfl) ?_
    refine xp_9_6 hx hb hts hown hK hP hD hS mw_207 dX11_extra_14 (fun τ3 H locs eτ3 hP hD hS => ?_)
    have h := h τ3 eτ3
    refine lv_iconst (v := (1 : Int32)) hx hb dX11_extra_17 (by decide) ?_
    exact zret_z hx hb hr hlocks hK hP hD hS zb_1 h dX11_extra_18
  · have h := h.1 hc
    refine lv_iconst (v := (0 : Int32)) hx hb dX11_extra_7 (by decide) ?_
    exact zret_z hx hb hr hlocks hK hP hD hS zb_0 h dX11_extra_8
set_option maxHeartbeats 4000000 in
set_option maxRecDepth 100000 in
theorem c_X11_extra (N : Nat) (l : Launch) (dC : Nat → ClassId) (dI : Nat → Nat → Nat) (ad : Nat → Nat) (cI cJ : ClassId) (sz : Nat) (σ : zSt) (x1 : Int32) (Q : Int32 → zSt → Prop) (h : w_X11_extra N x1 σ Q) : Met l yX11_extra vs_X11_extra rm_X11_extra (va_Pc [.ref (ad 0), .int x1] (zPc (dC, dI) (x_ty cI cJ) (x_W ad cI cJ) sz σ)) (zQi (dC, dI) (x_ty cI cJ) (x_W ad cI cJ) (zAW x_n ad sz) Q) 0 0 (zAW x_n ad sz) := by
  refine Met.ofW (cc := cX11_extra) (maxL := 2) (ret := (some .boolean)) (by decide) rfl ?_
  intro p e s m args below meth c s₁ B hml hv
  obtain ⟨rfl, hsz, hP, hK, hD0⟩ := hv
  subst hsz
  have C0 : zCx p s m meth c _ RX11 cX11_extra 2 (some .boolean) vs_X11_extra := ⟨B.exec, B.bytes, hml, B.returns, findClass_of_methodNamed B.named, atoms_spec (ws := vs_X11_extra) B.pre, B.notSynchronized⟩
  have hD := x_D0 (n0 := s.heap.size) hD0
  have hl := lv_entry ([.ref (ad 0), .int x1]) (n := 2) (Nat.le_of_ble_eq_true rfl)
  rw [lg_entry_eq]
  generalize (lg_sl ([.ref (ad 0), .int x1]) ++ List.replicate (2 - (lg_sl ([.ref (ad 0), .int x1])).length) Slot.unset).toArray = ls at hl ⊢
  exact t_X11_extra_0 C0 hK N x1 σ _ _ ls h hP hD va_S.rf hl
theorem k_X11_extra (N : Nat) {R : Room} {H : Heap} {locs : List Loc} {Q2 : State → Prop} {cc : ByteArray} {nL pc index : Nat} {ls : Array Slot} {rest : List Value} {own : String} {c0 : Cond} {σ : zSt} {x1 : Int32} {Q : Int32 → zSt → Prop} (S0 : CallFix p m c cc nL s args (c0 :: zT) own) (hml : Cond.methodLink own index yX11_extra ∈ zT) (hR : rm_X11_extra.frames + 1 ≤ R.frames ∧ 8 + (2 + 11) + rm_X11_extra.locals ≤ R.locals) (h : w_X11_extra N x1 σ Q) (hK : va_K (dC, dI) vwCl (x_ty cI cJ) s) (hP : va_P (dC, dI) vwCl (x_W ad cI cJ σ) H) (hD : va_D (zAW x_n ad s.heap.size) (x_W ad cI cJ σ)) (hS : va_S (zAW x_n ad s.heap.size) s.heap H locs) (hsz : ls.size = nL) (hW : (rest.map fun v => v.category).sum ≤ 8) (hdg : decode cc pc = .ok (.invokevirtual index, 3)) (kk : ∀ (r : Int32) (τ : zSt) (H1 : Heap) (locs1 : List Loc), Q r τ → va_P (dC, dI) vwCl (x_W ad cI cJ τ) H1 → va_D (zAW x_n ad s.heap.size) (x_W ad cI cJ τ) → va_S (zAW x_n ad s.heap.size) s.heap H1 locs1 → W p l e R s m args below meth c H1 locs1 0 0 Q2 (F0 m (pc + 3) ls (.int r :: rest))) : W p l e R s m args below meth c H locs 0 0 Q2 (F0 m pc ls (.int x1 :: .ref (ad 0) :: rest)) :=
  zcv_i (T := TX11) (N' := 17) (k := 0) (ci := 11) (fs := x_f0 ad σ) [.int x1] S0 (c_X11_extra N l dC dI ad cI cJ H.size σ x1 Q h) (cw_X11_extra S0.2.2.2.2 hml rfl rfl hR) rfl rfl hK hP hD hS rfl hsz hW rfl hdg kk
end q04
section q04
def vs_X10_lay : List Cond := .code yX10_lay cX10_lay 5 none :: zT
def rm_X10_lay : Room := { frames := 0, cells := 0, slots := 0, locals := 0 }
theorem cw_X10_lay {rm R : Room} {s : State} {args : Array Value} {own : String} {index : Nat} {c0 : Cond} (hts : ∀ w ∈ c0 :: zT, w.before args s = true) (hml : Cond.methodLink own index yX10_lay ∈ zT) (hrc : rm.cells = 0) (hrs : rm.slots = 0) (hR : rm.frames + 1 ≤ R.frames ∧ 8 + (5 + 11) + rm.locals ≤ R.locals) : CallW R s args own RX10 index yX10_lay cX10_lay 5 none vs_X10_lay rm 0 0 1 :=
  zwV 1 hts hml mw_550 mw_551 mw_12 mw_552 hrc hrs (by decide +kernel) hR
def b_X10_lay_50 (N : Nat) (k_50 : Int64 → Int32 → zSt → Prop) (Q : zSt → Prop) (x1 : Int64) (x4 : Int32) (σ : zSt) : Prop :=
  ((σ.1 2) ≤ x4 → Q σ) ∧ (¬ (σ.1 2) ≤ x4 → ((lg_cmp ((x1 >>> (x4.toInt64 &&& 63)) &&& (1 : Int64)) (0 : Int64)) = 0 → ∀ v1 : Int32, v1 = x4 + (1 : Int32) → k_50 x1 v1 σ) ∧ (¬ (lg_cmp ((x1 >>> (x4.toInt64 &&& 63)) &&& (1 : Int64)) (0 : Int64)) = 0 → (vp_in x4 45) ∧ ((vp_in (σ.2.2.1 3 x4.toNatClampNeg) 10) ∧ ((vp_in x4 45) ∧ ((vp_in (σ.2.2.1 3 x4.toNatClampNeg) 10) ∧ (∀ τ2 : zSt, τ2 = zA σ 28 (upd (σ.2.2.1 28) ((σ.2.2.1 3 x4.toNatClampNeg).toNatClampNeg) ((σ.2.2.1 28 (σ.2.2.1 3 x4.toNatClampNeg).toNatClampNeg) ||| ((1 : Int32) <<< ((σ.2.2.1 4 x4.toNatClampNeg) &&& 31)))) → (vp_in x4 45) ∧ ((vp_in (τ2.2.2.1 4 x4.toNatClampNeg) 10) ∧ ((vp_in x4 45) ∧ ((vp_in (τ2.2.2.1 4 x4.toNatClampNeg) 10) ∧ (∀ τ3 : zSt, τ3 = zA τ2 28 (upd (τ2.2.2.1 28) ((τ2.2.2.1 4 x4.toNatClampNeg).toNatClampNeg) ((τ2.2.2.1 28 (τ2.2.2.1 4 x4.toNatClampNeg).toNatClampNeg) ||| ((1 : Int32) <<< ((τ2.2.2.1 3 x4.toNatClampNeg) &&& 31)))) → ∀ v4 : Int32, v4 = x4 + (1 : Int32) → k_50 x1 v4 τ3))))))))))
def w_X10_lay_50 (N : Nat) (Q : zSt → Prop) : Nat → Int64 → Int32 → zSt → Prop
  | 0 => fun _ _ _ => False
  | f + 1 => b_X10_lay_50 N (w_X10_lay_50 N  Q f) Q
def b_X10_lay_17 (N : Nat) (k_17 : Int64 → Int32 → zSt → Prop) (Q : zSt → Prop) (x1 : Int64) (x3 : Int32) (σ : zSt) : Prop :=
  ((10 : Int32) ≤ x3 → w_X10_lay_50 N Q N x1 (0 : Int32) σ) ∧ (¬ (10 : Int32) ≤ x3 → (vp_in x3 10) ∧ (∀ τ1 : zSt, τ1 = zA σ 28 (upd (σ.2.2.1 28) (x3.toNatClampNeg) (0 : Int32)) → ∀ v2 : Int32, v2 = x3 + (1 : Int32) → k_17 x1 v2 τ1))
def w_X10_lay_17 (N : Nat) (Q : zSt → Prop) : Nat → Int64 → Int32 → zSt → Prop
  | 0 => fun _ _ _ => False
  | f + 1 => b_X10_lay_17 N (w_X10_lay_17 N  Q f) Q
def w_X10_lay (N : Nat) (x1 : Int64) (σ : zSt) (Q : zSt → Prop) : Prop :=
  ((lg_cmp x1 (σ.2.1 4)) = 0 → Q σ) ∧ (¬ (lg_cmp x1 (σ.2.1 4)) = 0 → ∀ τ1 : zSt, τ1 = zJ σ 4 x1 → w_X10_lay_17 N Q N x1 (0 : Int32) τ1)
variable {p : Program} {l : Launch} {e : Env} {s : State} {m : MethodId} {args : Array Value} {below : List Frame} {meth : Method} {c : Code} {dC : Nat → ClassId} {dI : Nat → Nat → Nat} {ad : Nat → Nat} {cI cJ : ClassId}
set_option maxHeartbeats 4000000 in
set_option maxRecDepth 100000 in
theorem tb_X10_lay_50 (C0 : zCx p s m meth c args RX10 cX10_lay 5 none vs_X10_lay) (hK : va_K (dC, dI) vwCl (x_ty cI cJ) s) (N : Nat) {Q : zSt → Prop} {k_50 : Int64 → Int32 → zSt → Prop} (hk_50 : ∀ (x1 : Int64) (x4 : Int32) (σ : zSt) (H : Heap) (locs : List Loc) (ls : Array Slot), k_50 x1 x4 σ → va_P (dC, dI) vwCl (x_W ad cI cJ σ) H → va_D (zAW x_n ad s.heap.size) (x_W ad cI cJ σ) → va_S (zAW x_n ad s.heap.size) s.heap H locs → lv_has ls 5 [(0, .ref (ad 9)), (1, .long x1), (3, .ref (ad 2)), (4, .int x4)] → W p l e rm_X10_lay s m args below meth c H locs 0 0 (MQ below (zQv (dC, dI) (x_ty cI cJ) (x_W ad cI cJ) (zAW x_n ad s.heap.size) Q) args s 0 0 (zAW x_n ad s.heap.size)) (F0 m 50 ls [])) : ∀ (x1 : Int64) (x4 : Int32) (σ : zSt) (H : Heap) (locs : List Loc) (ls : Array Slot), b_X10_lay_50 N k_50 Q x1 x4 σ → va_P (dC, dI) vwCl (x_W ad cI cJ σ) H → va_D (zAW x_n ad s.heap.size) (x_W ad cI cJ σ) → va_S (zAW x_n ad s.heap.size) s.heap H locs → lv_has ls 5 [(0, .ref (ad 9)), (1, .long x1), (3, .ref (ad 2)), (4, .int x4)] → W p l e rm_X10_lay s m args below meth c H locs 0 0 (MQ below (zQv (dC, dI) (x_ty cI cJ) (x_W ad cI cJ) (zAW x_n ad s.heap.size) Q) args s 0 0 (zAW x_n ad s.heap.size)) (F0 m 50 ls []) := by
  obtain ⟨hx, hb, hml, hr, hown, hts, hlocks⟩ := id C0
  intro x1 x4 σ H locs ls h hP hD hS hl
  unfold b_X10_lay_50 at h
  refine lv_iload hx hb dX10_lay_50 (lv_at hl 3 rfl) ?_
  refine lv_aload_n hx hb dX10_lay_52 rfl (lv_at hl 0 rfl) ?_
  refine xg_9_0 hx hb hts hown hK hP mw_199 dX10_lay_53 ?_
  refine xg_3_5 hx hb hts hown hK hP mw_82 dX10_lay_56 ?_
  refine lv_icmp_ge (tgt := 127) hx hb dX10_lay_59 (by decide) (fun hc => ?_) (fun hc => ?_)
  · have h := h.1 hc
    exact zret_v hx hb hr hlocks hK hP hD hS h dX10_lay_127
  · have h := h.2 hc
    refine lv_lload_n hx hb dX10_lay_62 rfl (lv_at hl 1 rfl) ?_
    refine lv_iload hx hb dX10_lay_63 (lv_at hl 3 rfl) ?_
    refine lv_lshr hx hb dX10_lay_65 rfl ?_
    refine lv_lconst (v := (1 : Int64)) hx hb dX10_lay_66 (by decide) ?_
    refine lv_land hx hb dX10_lay_67 ?_
    refine lv_lconst (v := (0 : Int64)) hx hb dX10_lay_68 (by decide) ?_
    refine W.lcmp hx hb dX10_lay_69 ?_
    refine lv_if_eq (tgt := 121) hx hb dX10_lay_70 (by decide) (fun hc => ?_) (fun hc => ?_)
    · have h := h.1 hc
      obtain ⟨v1, ev1⟩ : ∃ z : Int32, z = x4 + (1 : Int32) := ⟨_, rfl⟩
      have h := h v1 ev1
      refine lv_iinc (v := v1) (lv' := [(4, .int v1), (0, .ref (ad 9)), (1, .long x1), (3, .ref (ad 2))]) hx hb dX10_lay_121 hl (k := 3) rfl (by rw [ev1]; rfl) (by decide) rfl (fun ls hl => ?_)
      refine lv_goto (tgt := 50) hx hb dX10_lay_124 (by decide) ?_
      exact hk_50 x1 v1 σ _ _ _ h hP hD hS (lv_sub hl [1, 2, 3, 0] rfl)
    · have h := h.2 hc
      refine lv_aload_n hx hb dX10_lay_73 rfl (lv_at hl 0 rfl) ?_
      refine xg_9_4 hx hb hts hown hK hP mw_203 dX10_lay_74 ?_
      refine lv_aload_n hx hb dX10_lay_77 rfl (lv_at hl 2 rfl) ?_
      refine xg_2_0 hx hb hts hown hK hP mw_47 dX10_lay_78 ?_
      refine lv_iload hx hb dX10_lay_81 (lv_at hl 3 rfl) ?_
      refine xa_20 hx hb hK hP h.1 rfl dX10_lay_83 ?_
      have h := h.2
      refine lv_dup2_11 hx hb dX10_lay_84 rfl rfl ?_
      refine xa_50 hx hb hK hP h.1 rfl dX10_lay_85 ?_
      have h := h.2
      refine lv_iconst (v := (1 : Int32)) hx hb dX10_lay_86 (by decide) ?_
      refine lv_aload_n hx hb dX10_lay_87 rfl (lv_at hl 2 rfl) ?_
      refine xg_2_1 hx hb hts hown hK hP mw_51 dX10_lay_88 ?_
      refine lv_iload hx hb dX10_lay_91 (lv_at hl 3 rfl) ?_
      refine xa_21 hx hb hK hP h.1 rfl dX10_lay_93 ?_
      have h := h.2
      refine lv_ishl hx hb dX10_lay_94 ?_
      refine lv_ior hx hb dX10_lay_95 ?_
      refine xs_50 hx hb hK hP hD hS h.1 rfl dX10_lay_96 (fun τ2 H locs eτ2 hP hD hS => ?_)
      have h := h.2
      have h := h τ2 eτ2
      refine lv_aload_n hx hb dX10_lay_97 rfl (lv_at hl 0 rfl) ?_
      refine xg_9_4 hx hb hts hown hK hP mw_203 dX10_lay_98 ?_
      refine lv_aload_n hx hb dX10_lay_101 rfl (lv_at hl 2 rfl) ?_
      refine xg_2_1 hx hb hts hown hK hP mw_51 dX10_lay_102 ?_
      refine lv_iload hx hb dX10_lay_105 (lv_at hl 3 rfl) ?_
      refine xa_21 hx hb hK hP h.1 rfl dX10_lay_107 ?_
      have h := h.2
      refine lv_dup2_11 hx hb dX10_lay_108 rfl rfl ?_
      refine xa_50 hx hb hK hP h.1 rfl dX10_lay_109 ?_
      have h := h.2
      refine lv_iconst (v := (1 : Int32)) hx hb dX10_lay_110 (by decide) ?_
      refine lv_aload_n hx hb dX10_lay_111 rfl (lv_at hl 2 rfl) ?_
      refine xg_2_0 hx hb hts hown hK hP mw_47 dX10_lay_112 ?_
      refine lv_iload hx hb dX10_lay_115 (lv_at hl 3 rfl) ?_
      refine xa_20 hx hb hK hP h.1 rfl dX10_lay_117 ?_
      have h := h.2
      refine lv_ishl hx hb dX10_lay_118 ?_
      refine lv_ior hx hb dX10_lay_119 ?_
      refine xs_50 hx hb hK hP hD hS h.1 rfl dX10_lay_120 (fun τ3 H locs eτ3 hP hD hS => ?_)
      have h := h.2
      have h := h τ3 eτ3
      obtain ⟨v4, ev4⟩ : ∃ z : Int32, z = x4 + (1 : Int32) := ⟨_, rfl⟩
      have h := h v4 ev4
      refine lv_iinc (v := v4) (lv' := [(4, .int v4), (0, .ref (ad 9)), (1, .long x1), (3, .ref (ad 2))]) hx hb dX10_lay_121 hl (k := 3) rfl (by rw [ev4]; rfl) (by decide) rfl (fun ls hl => ?_)
      refine lv_goto (tgt := 50) hx hb dX10_lay_124 (by decide) ?_
      exact hk_50 x1 v4 τ3 _ _ _ h hP hD hS (lv_sub hl [1, 2, 3, 0] rfl)
set_option maxHeartbeats 4000000 in
set_option maxRecDepth 100000 in
theorem t_X10_lay_50 (C0 : zCx p s m meth c args RX10 cX10_lay 5 none vs_X10_lay) (hK : va_K (dC, dI) vwCl (x_ty cI cJ) s) (N : Nat) {Q : zSt → Prop} : ∀ (f : Nat) (x1 : Int64) (x4 : Int32) (σ : zSt) (H : Heap) (locs : List Loc) (ls : Array Slot), w_X10_lay_50 N  Q f x1 x4 σ → va_P (dC, dI) vwCl (x_W ad cI cJ σ) H → va_D (zAW x_n ad s.heap.size) (x_W ad cI cJ σ) → va_S (zAW x_n ad s.heap.size) s.heap H locs → lv_has ls 5 [(0, .ref (ad 9)), (1, .long x1), (3, .ref (ad 2)), (4, .int x4)] → W p l e rm_X10_lay s m args below meth c H locs 0 0 (MQ below (zQv (dC, dI) (x_ty cI cJ) (x_W ad cI cJ) (zAW x_n ad s.heap.size) Q) args s 0 0 (zAW x_n ad s.heap.size)) (F0 m 50 ls []) := by
  intro f
  induction f with
  | zero => intro x1 x4 σ H locs ls h; exact h.elim
  | succ f ih =>
    intro x1 x4 σ H locs ls h hP hD hS hl
    exact tb_X10_lay_50 C0 hK N  (k_50 := w_X10_lay_50 N  Q f) ih x1 x4 σ H locs ls h hP hD hS hl
set_option maxHeartbeats 4000000 in
set_option maxRecDepth 100000 in
theorem tb_X10_lay_17 (C0 : zCx p s m meth c args RX10 cX10_lay 5 none vs_X10_lay) (hK : va_K (dC, dI) vwCl (x_ty cI cJ) s) (N : Nat) {Q : zSt → Prop} {k_17 : Int64 → Int32 → zSt → Prop} (hk_17 : ∀ (x1 : Int64) (x3 : Int32) (σ : zSt) (H : Heap) (locs : List Loc) (ls : Array Slot), k_17 x1 x3 σ → va_P (dC, dI) vwCl (x_W ad cI cJ σ) H → va_D (zAW x_n ad s.heap.size) (x_W ad cI cJ σ) → va_S (zAW x_n ad s.heap.size) s.heap H locs → lv_has ls 5 [(0, .ref (ad 9)), (1, .long x1), (3, .int x3)] → W p l e rm_X10_lay s m args below meth c H locs 0 0 (MQ below (zQv (dC, dI) (x_ty cI cJ) (x_W ad cI cJ) (zAW x_n ad s.heap.size) Q) args s 0 0 (zAW x_n ad s.heap.size)) (F0 m 17 ls [])) : ∀ (x1 : Int64) (x3 : Int32) (σ : zSt) (H : Heap) (locs : List Loc) (ls : Array Slot), b_X10_lay_17 N k_17 Q x1 x3 σ → va_P (dC, dI) vwCl (x_W ad cI cJ σ) H → va_D (zAW x_n ad s.heap.size) (x_W ad cI cJ σ) → va_S (zAW x_n ad s.heap.size) s.heap H locs → lv_has ls 5 [(0, .ref (ad 9)), (1, .long x1), (3, .int x3)] → W p l e rm_X10_lay s m args below meth c H locs 0 0 (MQ below (zQv (dC, dI) (x_ty cI cJ) (x_W ad cI cJ) (zAW x_n ad s.heap.size) Q) args s 0 0 (zAW x_n ad s.heap.size)) (F0 m 17 ls []) := by
  obtain ⟨hx, hb, hml, hr, hown, hts, hlocks⟩ := id C0
  intro x1 x3 σ H locs ls h hP hD hS hl
  unfold b_X10_lay_17 at h
  refine lv_iload_n hx hb dX10_lay_17 rfl (lv_at hl 2 rfl) ?_
  refine lv_aload_n hx hb dX10_lay_18 rfl (lv_at hl 0 rfl) ?_
  refine xg_9_4 hx hb hts hown hK hP mw_203 dX10_lay_19 ?_
  refine xl_50 hx hb hK hP dX10_lay_22 ?_
  refine lv_icmp_ge (tgt := 39) hx hb dX10_lay_23 (by decide) (fun hc => ?_) (fun hc => ?_)
  · have h := h.1 hc
    refine lv_aload_n hx hb dX10_lay_39 rfl (lv_at hl 0 rfl) ?_
    refine xg_9_0 hx hb hts hown hK hP mw_199 dX10_lay_40 ?_
    refine xg_3_0 hx hb hts hown hK hP mw_66 dX10_lay_43 ?_
    refine lv_astore_n (lv' := [(3, .ref (ad 2)), (0, .ref (ad 9)), (1, .long x1)]) hx hb dX10_lay_46 rfl hl (by decide) rfl (fun ls hl => ?_)
    refine lv_iconst (v := (0 : Int32)) hx hb dX10_lay_47 (by decide) ?_
    refine lv_istore (lv' := [(4, .int (0 : Int32)), (3, .ref (ad 2)), (0, .ref (ad 9)), (1, .long x1)]) hx hb dX10_lay_48 hl (by decide) rfl (fun ls hl => ?_)
    exact t_X10_lay_50 C0 hK N  N x1 (0 : Int32) σ _ _ _ h hP hD hS (lv_sub hl [2, 3, 1, 0] rfl)
  · have h := h.2 hc
    refine lv_aload_n hx hb dX10_lay_26 rfl (lv_at hl 0 rfl) ?_
    refine xg_9_4 hx hb hts hown hK hP mw_203 dX10_lay_27 ?_
    refine lv_iload_n hx hb dX10_lay_30 rfl (lv_at hl 2 rfl) ?_
    refine lv_iconst (v := (0 : Int32)) hx hb dX10_lay_31 (by decide) ?_
    refine xs_50 hx hb hK hP hD hS h.1 rfl dX10_lay_32 (fun τ1 H locs eτ1 hP hD hS => ?_)
    have h := h.2
    have h := h τ1 eτ1
    obtain ⟨v2, ev2⟩ : ∃ z : Int32, z = x3 + (1 : Int32) := ⟨_, rfl⟩
    have h := h v2 ev2
    refine lv_iinc (v := v2) (lv' := [(3, .int v2), (0, .ref (ad 9)), (1, .long x1)]) hx hb dX10_lay_33 hl (k := 2) rfl (by rw [ev2]; rfl) (by decide) rfl (fun ls hl => ?_)
    refine lv_goto (tgt := 17) hx hb dX10_lay_36 (by decide) ?_
    exact hk_17 x1 v2 τ1 _ _ _ h hP hD hS (lv_sub hl [1, 2, 0] rfl)
set_option maxHeartbeats 4000000 in
set_option maxRecDepth 100000 in
theorem t_X10_lay_17 (C0 : zCx p s m meth c args RX10 cX10_lay 5 none vs_X10_lay) (hK : va_K (dC, dI) vwCl (x_ty cI cJ) s) (N : Nat) {Q : zSt → Prop} : ∀ (f : Nat) (x1 : Int64) (x3 : Int32) (σ : zSt) (H : Heap) (locs : List Loc) (ls : Array Slot), w_X10_lay_17 N  Q f x1 x3 σ → va_P (dC, dI) vwCl (x_W ad cI cJ σ) H → va_D (zAW x_n ad s.heap.size) (x_W ad cI cJ σ) → va_S (zAW x_n ad s.heap.size) s.heap H locs → lv_has ls 5 [(0, .ref (ad 9)), (1, .long x1), (3, .int x3)] → W p l e rm_X10_lay s m args below meth c H locs 0 0 (MQ below (zQv (dC, dI) (x_ty cI cJ) (x_W ad cI cJ) (zAW x_n ad s.heap.size) Q) args s 0 0 (zAW x_n ad s.heap.size)) (F0 m 17 ls []) := by
  intro f
  induction f with
  | zero => intro x1 x3 σ H locs ls h; exact h.elim
  | succ f ih =>
    intro x1 x3 σ H locs ls h hP hD hS hl
    exact tb_X10_lay_17 C0 hK N  (k_17 := w_X10_lay_17 N  Q f) ih x1 x3 σ H locs ls h hP hD hS hl
set_option maxHeartbeats 4000000 in
set_option maxRecDepth 100000 in
theorem t_X10_lay_0 (C0 : zCx p s m meth c args RX10 cX10_lay 5 none vs_X10_lay) (hK : va_K (dC, dI) vwCl (x_ty cI cJ) s) (N : Nat) {Q : zSt → Prop} : ∀ (x1 : Int64) (σ : zSt) (H : Heap) (locs : List Loc) (ls : Array Slot), w_X10_lay N x1 σ Q → va_P (dC, dI) vwCl (x_W ad cI cJ σ) H → va_D (zAW x_n ad s.heap.size) (x_W ad cI cJ σ) → va_S (zAW x_n ad s.heap.size) s.heap H locs → lv_has ls 5 [(0, .ref (ad 9)), (1, .long x1)] → W p l e rm_X10_lay s m args below meth c H locs 0 0 (MQ below (zQv (dC, dI) (x_ty cI cJ) (x_W ad cI cJ) (zAW x_n ad s.heap.size) Q) args s 0 0 (zAW x_n ad s.heap.size)) (F0 m 0 ls []) := by
  obtain ⟨hx, hb, hml, hr, hown, hts, hlocks⟩ := id C0
  intro x1 σ H locs ls h hP hD hS hl
  unfold w_X10_lay at h
  refine lv_lload_n hx hb dX10_lay_0 rfl (lv_at hl 1 rfl) ?_
  refine lv_aload_n hx hb dX10_lay_1 rfl (lv_at hl 0 rfl) ?_
  refine xg_9_9 hx hb hts hown hK hP mw_210 dX10_lay_2 ?_
  refine W.lcmp hx hb dX10_lay_5 ?_
  refine lv_if_ne (tgt := 10) hx hb dX10_lay_6 (by decide) (fun hc => ?_) (fun hc => ?_)
  · have h := h.2 hc
    refine lv_aload_n hx hb dX10_lay_10 rfl (lv_at hl 0 rfl) ?_
    refine lv_lload_n hx hb dX10_lay_11 rfl (lv_at hl 1 rfl) ?_
    refine xp_9_9 hx hb hts hown hK hP hD hS mw_210 dX10_lay_12 (fun τ1 H locs eτ1 hP hD hS => ?_)
    have h := h τ1 eτ1
    refine lv_iconst (v := (0 : Int32)) hx hb dX10_lay_15 (by decide) ?_
    refine lv_istore_n (lv' := [(3, .int (0 : Int32)), (0, .ref (ad 9)), (1, .long x1)]) hx hb dX10_lay_16 rfl hl (by decide) rfl (fun ls hl => ?_)
    exact t_X10_lay_17 C0 hK N  N x1 (0 : Int32) τ1 _ _ _ h hP hD hS (lv_sub hl [1, 2, 0] rfl)
  · have h := h.1 hc
    exact zret_v hx hb hr hlocks hK hP hD hS h dX10_lay_9
set_option maxHeartbeats 4000000 in
set_option maxRecDepth 100000 in
theorem c_X10_lay (N : Nat) (l : Launch) (dC : Nat → ClassId) (dI : Nat → Nat → Nat) (ad : Nat → Nat) (cI cJ : ClassId) (sz : Nat) (σ : zSt) (x1 : Int64) (Q : zSt → Prop) (h : w_X10_lay N x1 σ Q) : Met l yX10_lay vs_X10_lay rm_X10_lay (va_Pc [.ref (ad 9), .long x1] (zPc (dC, dI) (x_ty cI cJ) (x_W ad cI cJ) sz σ)) (zQv (dC, dI) (x_ty cI cJ) (x_W ad cI cJ) (zAW x_n ad sz) Q) 0 0 (zAW x_n ad sz) := by
  refine Met.ofW (cc := cX10_lay) (maxL := 5) (ret := none) (by decide) rfl ?_
  intro p e s m args below meth c s₁ B hml hv
  obtain ⟨rfl, hsz, hP, hK, hD0⟩ := hv
  subst hsz
  have C0 : zCx p s m meth c _ RX10 cX10_lay 5 none vs_X10_lay := ⟨B.exec, B.bytes, hml, B.returns, findClass_of_methodNamed B.named, atoms_spec (ws := vs_X10_lay) B.pre, B.notSynchronized⟩
  have hD := x_D0 (n0 := s.heap.size) hD0
  have hl := lv_entry ([.ref (ad 9), .long x1]) (n := 5) (Nat.le_of_ble_eq_true rfl)
  rw [lg_entry_eq]
  generalize (lg_sl ([.ref (ad 9), .long x1]) ++ List.replicate (5 - (lg_sl ([.ref (ad 9), .long x1])).length) Slot.unset).toArray = ls at hl ⊢
  exact t_X10_lay_0 C0 hK N x1 σ _ _ ls h hP hD va_S.rf hl
theorem k_X10_lay (N : Nat) {R : Room} {H : Heap} {locs : List Loc} {Q2 : State → Prop} {cc : ByteArray} {nL pc index : Nat} {ls : Array Slot} {rest : List Value} {own : String} {c0 : Cond} {σ : zSt} {x1 : Int64} {Q : zSt → Prop} (S0 : CallFix p m c cc nL s args (c0 :: zT) own) (hml : Cond.methodLink own index yX10_lay ∈ zT) (hR : rm_X10_lay.frames + 1 ≤ R.frames ∧ 8 + (5 + 11) + rm_X10_lay.locals ≤ R.locals) (h : w_X10_lay N x1 σ Q) (hK : va_K (dC, dI) vwCl (x_ty cI cJ) s) (hP : va_P (dC, dI) vwCl (x_W ad cI cJ σ) H) (hD : va_D (zAW x_n ad s.heap.size) (x_W ad cI cJ σ)) (hS : va_S (zAW x_n ad s.heap.size) s.heap H locs) (hsz : ls.size = nL) (hW : (rest.map fun v => v.category).sum ≤ 8) (hdg : decode cc pc = .ok (.invokevirtual index, 3)) (kk : ∀ (τ : zSt) (H1 : Heap) (locs1 : List Loc), Q τ → va_P (dC, dI) vwCl (x_W ad cI cJ τ) H1 → va_D (zAW x_n ad s.heap.size) (x_W ad cI cJ τ) → va_S (zAW x_n ad s.heap.size) s.heap H1 locs1 → W p l e R s m args below meth c H1 locs1 0 0 Q2 (F0 m (pc + 3) ls (rest))) : W p l e R s m args below meth c H locs 0 0 Q2 (F0 m pc ls (.long x1 :: .ref (ad 9) :: rest)) :=
  zcv_v (T := TX10) (N' := 10) (k := 9) (ci := 10) (fs := x_f9 ad σ) [.long x1] S0 (c_X10_lay N l dC dI ad cI cJ H.size σ x1 Q h) (cw_X10_lay S0.2.2.2.2 hml rfl rfl hR) rfl rfl hK hP hD hS rfl hsz hW rfl hdg kk
end q04
