section q02
end q02
section q02
def vs_X5_readPart : List Cond := .code yX5_readPart cX5_readPart 1 (some .boolean) :: zT
theorem cw_X5_readPart {rm R : Room} {s : State} {args : Array Value} {own : String} {index : Nat} {c0 : Cond} (hts : ∀ w ∈ c0 :: zT, w.before args s = true) (hml : Cond.methodLink own index yX5_readPart ∈ zT) (hrc : rm.cells = 0) (hrs : rm.slots = 0) (hR : rm.frames + 1 ≤ R.frames ∧ 8 + (1 + 11) + rm.locals ≤ R.locals) : CallW R s args own RX5 index yX5_readPart cX5_readPart 1 (some .boolean) vs_X5_readPart rm 0 0 0 :=
  zwV 0 hts hml mw_400 mw_1328 mw_6 mw_401 hrc hrs (by decide +kernel) hR
def b_X5_readPart_109 (N : Nat) (S : zSt → (Int32 → zSt → Prop) → Prop) (Q : Int32 → zSt → Prop) (s0 : Int32) (σ : zSt) : Prop :=
  w_X5_readChoice N S s0 σ (fun r1 τ2 => (zb r1) ∧ Q r1 τ2)
def b_X5_readPart_94 (N : Nat) (S : zSt → (Int32 → zSt → Prop) → Prop) (Q : Int32 → zSt → Prop)  (σ : zSt) : Prop :=
  ((σ.1 16) = (17 : Int32) → b_X5_readPart_109 N S Q (4 : Int32) σ) ∧ (¬ (σ.1 16) = (17 : Int32) → b_X5_readPart_109 N S Q (5 : Int32) σ)
def b_X5_readPart_153 (N : Nat) (S : zSt → (Int32 → zSt → Prop) → Prop) (Q : Int32 → zSt → Prop)  (σ : zSt) : Prop :=
  w_X5_fail N (1 : Int32) (σ.1 13) σ (fun r1 τ2 => (zb r1) ∧ Q r1 τ2)
def w_X5_readPart (N : Nat) (S : zSt → (Int32 → zSt → Prop) → Prop)  (σ : zSt) (Q : Int32 → zSt → Prop) : Prop :=
  ((σ.1 12) = (2 : Int32) → w_X5_seesNumber N (1000000 : Int32) σ (fun r13 τ14 => (r13 = 0 → Q (0 : Int32) τ14) ∧ (¬ r13 = 0 → w_X6_emit N ((100 : Int32) + (τ14.1 15)) τ14 (fun τ16 => w_X5_take N τ16 (fun r17 τ18 => (zb r17) ∧ Q r17 τ18))))) ∧ (¬ (σ.1 12) = (2 : Int32) → w_X5_isSign N (40 : Int32) σ (fun r1 τ2 => (r1 = 0 → ((τ2.1 16) = (17 : Int32) → b_X5_readPart_94 N S Q τ2) ∧ (¬ (τ2.1 16) = (17 : Int32) → ((τ2.1 16) = (18 : Int32) → b_X5_readPart_94 N S Q τ2) ∧ (¬ (τ2.1 16) = (18 : Int32) → ((τ2.1 16) < (12 : Int32) → b_X5_readPart_153 N S Q τ2) ∧ (¬ (τ2.1 16) < (12 : Int32) → ((16 : Int32) < (τ2.1 16) → b_X5_readPart_153 N S Q τ2) ∧ (¬ (16 : Int32) < (τ2.1 16) → w_X6_emit N (((20 : Int32) + (τ2.1 16)) - (12 : Int32)) τ2 (fun τ4 => w_X5_take N τ4 (fun r5 τ6 => (zb r5) ∧ Q r5 τ6))))))) ∧ (¬ r1 = 0 → w_X5_takeOpening N τ2 (fun r7 τ8 => (r7 = 0 → Q (0 : Int32) τ8) ∧ (¬ r7 = 0 → S τ8 (fun r9 τ10 => (r9 = 0 → Q (0 : Int32) τ10) ∧ (¬ r9 = 0 → w_X5_takeSign N (41 : Int32) τ10 (fun r11 τ12 => (r11 = 0 → Q (0 : Int32) τ12) ∧ (¬ r11 = 0 → Q (1 : Int32) τ12)))))))))
variable {p : Program} {l : Launch} {e : Env} {s : State} {m : MethodId} {args : Array Value} {below : List Frame} {meth : Method} {c : Code} {dC : Nat → ClassId} {dI : Nat → Nat → Nat} {ad : Nat → Nat} {cI cJ : ClassId}
set_option maxHeartbeats 4000000 in
set_option maxRecDepth 100000 in
theorem t_X5_readPart_109 (C0 : zCx p s m meth c args RX5 cX5_readPart 1 (some .boolean) vs_X5_readPart) (hK : va_K (dC, dI) vwCl (x_ty cI cJ) s) (N : Nat) {d : Nat} {S : zSt → (Int32 → zSt → Prop) → Prop} (hSm : ∀ (sz : Nat) (σ : zSt) (Q : Int32 → zSt → Prop), S σ Q → Met l yX5_readSum vs_X5_readSum (rmq_sum 0 d) (va_Pc [.ref (ad 5)] (zPc (dC, dI) (x_ty cI cJ) (x_W ad cI cJ) sz σ)) (zQi (dC, dI) (x_ty cI cJ) (x_W ad cI cJ) (zAW x_n ad sz) Q) 0 0 (zAW x_n ad sz)) {Q : Int32 → zSt → Prop} : ∀ (s0 : Int32) (σ : zSt) (H : Heap) (locs : List Loc) (ls : Array Slot), b_X5_readPart_109 N S  Q s0 σ → va_P (dC, dI) vwCl (x_W ad cI cJ σ) H → va_D (zAW x_n ad s.heap.size) (x_W ad cI cJ σ) → va_S (zAW x_n ad s.heap.size) s.heap H locs → lv_has ls 1 [] → W p l e (rmq_sum 2 d) s m args below meth c H locs 0 0 (MQ below (zQi (dC, dI) (x_ty cI cJ) (x_W ad cI cJ) (zAW x_n ad s.heap.size) Q) args s 0 0 (zAW x_n ad s.heap.size)) (F0 m 109 ls [.int s0, .ref (ad 5)]) := by
  obtain ⟨hx, hb, hml, hr, hown, hts, hlocks⟩ := id C0
  intro s0 σ H locs ls h hP hD hS hl
  unfold b_X5_readPart_109 at h
  refine k_X5_readChoice N hSm ⟨hx, hb, hml, hown, hts⟩ mw_416 ⟨by dsimp only [rmq_sum, rmq_fact]; omega, by dsimp only [rmq_sum, rmq_fact]; omega⟩ h hK hP hD hS hl.1 (rest := []) (Nat.le_of_ble_eq_true rfl) dX5_readPart_109 (fun r1 τ2 H locs h hP hD hS => ?_)
  exact zret_z hx hb hr hlocks hK hP hD hS h.1 h.2 dX5_readPart_112
set_option maxHeartbeats 4000000 in
set_option maxRecDepth 100000 in
theorem t_X5_readPart_94 (C0 : zCx p s m meth c args RX5 cX5_readPart 1 (some .boolean) vs_X5_readPart) (hK : va_K (dC, dI) vwCl (x_ty cI cJ) s) (N : Nat) {d : Nat} {S : zSt → (Int32 → zSt → Prop) → Prop} (hSm : ∀ (sz : Nat) (σ : zSt) (Q : Int32 → zSt → Prop), S σ Q → Met l yX5_readSum vs_X5_readSum (rmq_sum 0 d) (va_Pc [.ref (ad 5)] (zPc (dC, dI) (x_ty cI cJ) (x_W ad cI cJ) sz σ)) (zQi (dC, dI) (x_ty cI cJ) (x_W ad cI cJ) (zAW x_n ad sz) Q) 0 0 (zAW x_n ad sz)) {Q : Int32 → zSt → Prop} : ∀  (σ : zSt) (H : Heap) (locs : List Loc) (ls : Array Slot), b_X5_readPart_94 N S  Q  σ → va_P (dC, dI) vwCl (x_W ad cI cJ σ) H → va_D (zAW x_n ad s.heap.size) (x_W ad cI cJ σ) → va_S (zAW x_n ad s.heap.size) s.heap H locs → lv_has ls 1 [(0, .ref (ad 5))] → W p l e (rmq_sum 2 d) s m args below meth c H locs 0 0 (MQ below (zQi (dC, dI) (x_ty cI cJ) (x_W ad cI cJ) (zAW x_n ad s.heap.size) Q) args s 0 0 (zAW x_n ad s.heap.size)) (F0 m 94 ls []) := by
  obtain ⟨hx, hb, hml, hr, hown, hts, hlocks⟩ := id C0
  intro  σ H locs ls h hP hD hS hl
  unfold b_X5_readPart_94 at h
  refine lv_aload_n hx hb dX5_readPart_94 rfl (lv_at hl 0 rfl) ?_
  refine lv_aload_n hx hb dX5_readPart_95 rfl (lv_at hl 0 rfl) ?_
  refine xg_5_13 hx hb hts hown hK hP mw_191 dX5_readPart_96 ?_
  refine lv_bipush (v := (17 : Int32)) hx hb dX5_readPart_99 (by decide) ?_
  refine lv_icmp_ne (tgt := 108) hx hb dX5_readPart_101 (by decide) (fun hc => ?_) (fun hc => ?_)
  · have h := h.2 hc
    refine lv_iconst (v := (5 : Int32)) hx hb dX5_readPart_108 (by decide) ?_
    exact t_X5_readPart_109 C0 hK N hSm  (5 : Int32) σ _ _ _ h hP hD hS (lv_sub hl [] rfl)
  · have h := h.1 hc
    refine lv_iconst (v := (4 : Int32)) hx hb dX5_readPart_104 (by decide) ?_
    refine lv_goto (tgt := 109) hx hb dX5_readPart_105 (by decide) ?_
    exact t_X5_readPart_109 C0 hK N hSm  (4 : Int32) σ _ _ _ h hP hD hS (lv_sub hl [] rfl)
set_option maxHeartbeats 4000000 in
set_option maxRecDepth 100000 in
theorem t_X5_readPart_153 (C0 : zCx p s m meth c args RX5 cX5_readPart 1 (some .boolean) vs_X5_readPart) (hK : va_K (dC, dI) vwCl (x_ty cI cJ) s) (N : Nat) {d : Nat} {S : zSt → (Int32 → zSt → Prop) → Prop} (hSm : ∀ (sz : Nat) (σ : zSt) (Q : Int32 → zSt → Prop), S σ Q → Met l yX5_readSum vs_X5_readSum (rmq_sum 0 d) (va_Pc [.ref (ad 5)] (zPc (dC, dI) (x_ty cI cJ) (x_W ad cI cJ) sz σ)) (zQi (dC, dI) (x_ty cI cJ) (x_W ad cI cJ) (zAW x_n ad sz) Q) 0 0 (zAW x_n ad sz)) {Q : Int32 → zSt → Prop} : ∀  (σ : zSt) (H : Heap) (locs : List Loc) (ls : Array Slot), b_X5_readPart_153 N S  Q  σ → va_P (dC, dI) vwCl (x_W ad cI cJ σ) H → va_D (zAW x_n ad s.heap.size) (x_W ad cI cJ σ) → va_S (zAW x_n ad s.heap.size) s.heap H locs → lv_has ls 1 [(0, .ref (ad 5))] → W p l e (rmq_sum 2 d) s m args below meth c H locs 0 0 (MQ below (zQi (dC, dI) (x_ty cI cJ) (x_W ad cI cJ) (zAW x_n ad s.heap.size) Q) args s 0 0 (zAW x_n ad s.heap.size)) (F0 m 153 ls []) := by
  obtain ⟨hx, hb, hml, hr, hown, hts, hlocks⟩ := id C0
  intro  σ H locs ls h hP hD hS hl
  unfold b_X5_readPart_153 at h
  refine lv_aload_n hx hb dX5_readPart_153 rfl (lv_at hl 0 rfl) ?_
  refine lv_iconst (v := (1 : Int32)) hx hb dX5_readPart_154 (by decide) ?_
  refine lv_aload_n hx hb dX5_readPart_155 rfl (lv_at hl 0 rfl) ?_
  refine xg_5_10 hx hb hts hown hK hP mw_188 dX5_readPart_156 ?_
  refine k_X5_fail N ⟨hx, hb, hml, hown, hts⟩ mw_369 ⟨by dsimp only [rm_X5_fail, rmq_sum, rmq_fact]; omega, by dsimp only [rm_X5_fail, rmq_sum, rmq_fact]; omega⟩ h hK hP hD hS hl.1 (rest := []) (Nat.le_of_ble_eq_true rfl) dX5_readPart_159 (fun r1 τ2 H locs h hP hD hS => ?_)
  exact zret_z hx hb hr hlocks hK hP hD hS h.1 h.2 dX5_readPart_162
set_option maxHeartbeats 4000000 in
set_option maxRecDepth 100000 in
theorem t_X5_readPart_0 (C0 : zCx p s m meth c args RX5 cX5_readPart 1 (some .boolean) vs_X5_readPart) (hK : va_K (dC, dI) vwCl (x_ty cI cJ) s) (N : Nat) {d : Nat} {S : zSt → (Int32 → zSt → Prop) → Prop} (hSm : ∀ (sz : Nat) (σ : zSt) (Q : Int32 → zSt → Prop), S σ Q → Met l yX5_readSum vs_X5_readSum (rmq_sum 0 d) (va_Pc [.ref (ad 5)] (zPc (dC, dI) (x_ty cI cJ) (x_W ad cI cJ) sz σ)) (zQi (dC, dI) (x_ty cI cJ) (x_W ad cI cJ) (zAW x_n ad sz) Q) 0 0 (zAW x_n ad sz)) {Q : Int32 → zSt → Prop} : ∀  (σ : zSt) (H : Heap) (locs : List Loc) (ls : Array Slot), w_X5_readPart N S  σ Q → va_P (dC, dI) vwCl (x_W ad cI cJ σ) H → va_D (zAW x_n ad s.heap.size) (x_W ad cI cJ σ) → va_S (zAW x_n ad s.heap.size) s.heap H locs → lv_has ls 1 [(0, .ref (ad 5))] → W p l e (rmq_sum 2 d) s m args below meth c H locs 0 0 (MQ below (zQi (dC, dI) (x_ty cI cJ) (x_W ad cI cJ) (zAW x_n ad s.heap.size) Q) args s 0 0 (zAW x_n ad s.heap.size)) (F0 m 0 ls []) := by
  obtain ⟨hx, hb, hml, hr, hown, hts, hlocks⟩ := id C0
  intro  σ H locs ls h hP hD hS hl
  unfold w_X5_readPart at h
  refine lv_aload_n hx hb dX5_readPart_0 rfl (lv_at hl 0 rfl) ?_
  refine xg_5_9 hx hb hts hown hK hP mw_187 dX5_readPart_1 ?_
  refine lv_iconst (v := (2 : Int32)) hx hb dX5_readPart_4 (by decide) ?_
  refine lv_icmp_ne (tgt := 38) hx hb dX5_readPart_5 (by decide) (fun hc => ?_) (fun hc => ?_)
  · have h := h.2 hc
    refine lv_aload_n hx hb dX5_readPart_38 rfl (lv_at hl 0 rfl) ?_
    refine lv_bipush (v := (40 : Int32)) hx hb dX5_readPart_39 (by decide) ?_
    refine k_X5_isSign N ⟨hx, hb, hml, hown, hts⟩ mw_407 ⟨by dsimp only [rm_X5_isSign, rmq_sum, rmq_fact]; omega, by dsimp only [rm_X5_isSign, rmq_sum, rmq_fact]; omega⟩ h hK hP hD hS hl.1 (rest := []) (Nat.le_of_ble_eq_true rfl) dX5_readPart_41 (fun r1 τ2 H locs h hP hD hS => ?_)
    refine lv_if_eq (tgt := 76) hx hb dX5_readPart_44 (by decide) (fun hc => ?_) (fun hc => ?_)
    · have h := h.1 hc
      refine lv_aload_n hx hb dX5_readPart_76 rfl (lv_at hl 0 rfl) ?_
      refine xg_5_13 hx hb hts hown hK hP mw_191 dX5_readPart_77 ?_
      refine lv_bipush (v := (17 : Int32)) hx hb dX5_readPart_80 (by decide) ?_
      refine lv_icmp_eq (tgt := 94) hx hb dX5_readPart_82 (by decide) (fun hc => ?_) (fun hc => ?_)
      · have h := h.1 hc
        exact t_X5_readPart_94 C0 hK N hSm  τ2 _ _ _ h hP hD hS (lv_sub hl [0] rfl)
      · have h := h.2 hc
        refine lv_aload_n hx hb dX5_readPart_85 rfl (lv_at hl 0 rfl) ?_
        refine xg_5_13 hx hb hts hown hK hP mw_191 dX5_readPart_86 ?_
        refine lv_bipush (v := (18 : Int32)) hx hb dX5_readPart_89 (by decide) ?_
        refine lv_icmp_ne (tgt := 113) hx hb dX5_readPart_91 (by decide) (fun hc => ?_) (fun hc => ?_)
        · have h := h.2 hc
          refine lv_aload_n hx hb dX5_readPart_113 rfl (lv_at hl 0 rfl) ?_
          refine xg_5_13 hx hb hts hown hK hP mw_191 dX5_readPart_114 ?_
          refine lv_bipush (v := (12 : Int32)) hx hb dX5_readPart_117 (by decide) ?_
          refine lv_icmp_lt (tgt := 153) hx hb dX5_readPart_119 (by decide) (fun hc => ?_) (fun hc => ?_)
          · have h := h.1 hc
            exact t_X5_readPart_153 C0 hK N hSm  τ2 _ _ _ h hP hD hS (lv_sub hl [0] rfl)
          · have h := h.2 hc
            refine lv_aload_n hx hb dX5_readPart_122 rfl (lv_at hl 0 rfl) ?_
            refine xg_5_13 hx hb hts hown hK hP mw_191 dX5_readPart_123 ?_
            refine lv_bipush (v := (16 : Int32)) hx hb dX5_readPart_126 (by decide) ?_
            refine lv_icmp_gt (tgt := 153) hx hb dX5_readPart_128 (by decide) (fun hc => ?_) (fun hc => ?_)
            · have h := h.1 hc
              exact t_X5_readPart_153 C0 hK N hSm  τ2 _ _ _ h hP hD hS (lv_sub hl [0] rfl)
            · have h := h.2 hc
              refine lv_aload_n hx hb dX5_readPart_131 rfl (lv_at hl 0 rfl) ?_
              refine xg_5_2 hx hb hts hown hK hP mw_176 dX5_readPart_132 ?_
              refine lv_bipush (v := (20 : Int32)) hx hb dX5_readPart_135 (by decide) ?_
              refine lv_aload_n hx hb dX5_readPart_137 rfl (lv_at hl 0 rfl) ?_
              refine xg_5_13 hx hb hts hown hK hP mw_191 dX5_readPart_138 ?_
              refine lv_iadd hx hb dX5_readPart_141 ?_
              refine lv_bipush (v := (12 : Int32)) hx hb dX5_readPart_142 (by decide) ?_
              refine lv_isub hx hb dX5_readPart_144 ?_
              refine k_X6_emit N ⟨hx, hb, hml, hown, hts⟩ mw_403 ⟨by dsimp only [rm_X6_emit, rmq_sum, rmq_fact]; omega, by dsimp only [rm_X6_emit, rmq_sum, rmq_fact]; omega⟩ h hK hP hD hS hl.1 (rest := []) (Nat.le_of_ble_eq_true rfl) dX5_readPart_145 (fun τ4 H locs h hP hD hS => ?_)
              refine lv_aload_n hx hb dX5_readPart_148 rfl (lv_at hl 0 rfl) ?_
              refine k_X5_take N ⟨hx, hb, hml, hown, hts⟩ mw_363 ⟨by dsimp only [rm_X5_take, rmq_sum, rmq_fact]; omega, by dsimp only [rm_X5_take, rmq_sum, rmq_fact]; omega⟩ h hK hP hD hS hl.1 (rest := []) (Nat.le_of_ble_eq_true rfl) dX5_readPart_149 (fun r5 τ6 H locs h hP hD hS => ?_)
              exact zret_z hx hb hr hlocks hK hP hD hS h.1 h.2 dX5_readPart_152
        · have h := h.1 hc
          exact t_X5_readPart_94 C0 hK N hSm  τ2 _ _ _ h hP hD hS (lv_sub hl [0] rfl)
    · have h := h.2 hc
      refine lv_aload_n hx hb dX5_readPart_47 rfl (lv_at hl 0 rfl) ?_
      refine k_X5_takeOpening N ⟨hx, hb, hml, hown, hts⟩ mw_410 ⟨by dsimp only [rm_X5_takeOpening, rmq_sum, rmq_fact]; omega, by dsimp only [rm_X5_takeOpening, rmq_sum, rmq_fact]; omega⟩ h hK hP hD hS hl.1 (rest := []) (Nat.le_of_ble_eq_true rfl) dX5_readPart_48 (fun r7 τ8 H locs h hP hD hS => ?_)
      refine lv_if_eq (tgt := 74) hx hb dX5_readPart_51 (by decide) (fun hc => ?_) (fun hc => ?_)
      · have h := h.1 hc
        refine lv_iconst (v := (0 : Int32)) hx hb dX5_readPart_74 (by decide) ?_
        exact zret_z hx hb hr hlocks hK hP hD hS zb_0 h dX5_readPart_75
      · have h := h.2 hc
        refine lv_aload_n hx hb dX5_readPart_54 rfl (lv_at hl 0 rfl) ?_
        refine zcv_i [] ⟨hx, hb, hml, hown, hts⟩ (hSm H.size τ8 _ h) (cw_X5_readSum hts mw_393 ⟨by dsimp only [rmq_sum, rmq_fact]; omega, by dsimp only [rmq_sum, rmq_fact]; omega⟩) rfl rfl hK hP hD hS rfl hl.1 (Nat.le_of_ble_eq_true rfl) (rest := []) rfl dX5_readPart_55 (fun r9 τ10 H locs h hP hD hS => ?_)
        refine lv_if_eq (tgt := 74) hx hb dX5_readPart_58 (by decide) (fun hc => ?_) (fun hc => ?_)
        · have h := h.1 hc
          refine lv_iconst (v := (0 : Int32)) hx hb dX5_readPart_74 (by decide) ?_
          exact zret_z hx hb hr hlocks hK hP hD hS zb_0 h dX5_readPart_75
        · have h := h.2 hc
          refine lv_aload_n hx hb dX5_readPart_61 rfl (lv_at hl 0 rfl) ?_
          refine lv_bipush (v := (41 : Int32)) hx hb dX5_readPart_62 (by decide) ?_
          refine k_X5_takeSign N ⟨hx, hb, hml, hown, hts⟩ mw_413 ⟨by dsimp only [rm_X5_takeSign, rmq_sum, rmq_fact]; omega, by dsimp only [rm_X5_takeSign, rmq_sum, rmq_fact]; omega⟩ h hK hP hD hS hl.1 (rest := []) (Nat.le_of_ble_eq_true rfl) dX5_readPart_64 (fun r11 τ12 H locs h hP hD hS => ?_)
          refine lv_if_eq (tgt := 74) hx hb dX5_readPart_67 (by decide) (fun hc => ?_) (fun hc => ?_)
          · have h := h.1 hc
            refine lv_iconst (v := (0 : Int32)) hx hb dX5_readPart_74 (by decide) ?_
            exact zret_z hx hb hr hlocks hK hP hD hS zb_0 h dX5_readPart_75
          · have h := h.2 hc
            refine lv_iconst (v := (1 : Int32)) hx hb dX5_readPart_70 (by decide) ?_
            refine lv_goto (tgt := 75) hx hb dX5_readPart_71 (by decide) ?_
            exact zret_z hx hb hr hlocks hK hP hD hS zb_1 h dX5_readPart_75
  · have h := h.1 hc
    refine lv_aload_n hx hb dX5_readPart_8 rfl (lv_at hl 0 rfl) ?_
    refine lv_ldc (v := (1000000 : Int32)) hx hb hown (hts _ (List.mem_cons_of_mem _ mw_402)) dX5_readPart_9 ?_
    refine k_X5_seesNumber N ⟨hx, hb, hml, hown, hts⟩ mw_382 ⟨by dsimp only [rm_X5_seesNumber, rmq_sum, rmq_fact]; omega, by dsimp only [rm_X5_seesNumber, rmq_sum, rmq_fact]; omega⟩ h hK hP hD hS hl.1 (rest := []) (Nat.le_of_ble_eq_true rfl) dX5_readPart_11 (fun r13 τ14 H locs h hP hD hS => ?_)
    refine lv_if_ne (tgt := 19) hx hb dX5_readPart_14 (by decide) (fun hc => ?_) (fun hc => ?_)
    · have h := h.2 hc
      refine lv_aload_n hx hb dX5_readPart_19 rfl (lv_at hl 0 rfl) ?_
      refine xg_5_2 hx hb hts hown hK hP mw_176 dX5_readPart_20 ?_
      refine lv_bipush (v := (100 : Int32)) hx hb dX5_readPart_23 (by decide) ?_
      refine lv_aload_n hx hb dX5_readPart_25 rfl (lv_at hl 0 rfl) ?_
      refine xg_5_12 hx hb hts hown hK hP mw_190 dX5_readPart_26 ?_
      refine lv_iadd hx hb dX5_readPart_29 ?_
      refine k_X6_emit N ⟨hx, hb, hml, hown, hts⟩ mw_403 ⟨by dsimp only [rm_X6_emit, rmq_sum, rmq_fact]; omega, by dsimp only [rm_X6_emit, rmq_sum, rmq_fact]; omega⟩ h hK hP hD hS hl.1 (rest := []) (Nat.le_of_ble_eq_true rfl) dX5_readPart_30 (fun τ16 H locs h hP hD hS => ?_)
      refine lv_aload_n hx hb dX5_readPart_33 rfl (lv_at hl 0 rfl) ?_
      refine k_X5_take N ⟨hx, hb, hml, hown, hts⟩ mw_363 ⟨by dsimp only [rm_X5_take, rmq_sum, rmq_fact]; omega, by dsimp only [rm_X5_take, rmq_sum, rmq_fact]; omega⟩ h hK hP hD hS hl.1 (rest := []) (Nat.le_of_ble_eq_true rfl) dX5_readPart_34 (fun r17 τ18 H locs h hP hD hS => ?_)
      exact zret_z hx hb hr hlocks hK hP hD hS h.1 h.2 dX5_readPart_37
    · have h := h.1 hc
      refine lv_iconst (v := (0 : Int32)) hx hb dX5_readPart_17 (by decide) ?_
      exact zret_z hx hb hr hlocks hK hP hD hS zb_0 h dX5_readPart_18
set_option maxHeartbeats 4000000 in
set_option maxRecDepth 100000 in
theorem c_X5_readPart (N : Nat) (l : Launch) (dC : Nat → ClassId) (dI : Nat → Nat → Nat) (ad : Nat → Nat) (cI cJ : ClassId) {d : Nat} {S : zSt → (Int32 → zSt → Prop) → Prop} (hSm : ∀ (sz : Nat) (σ : zSt) (Q : Int32 → zSt → Prop), S σ Q → Met l yX5_readSum vs_X5_readSum (rmq_sum 0 d) (va_Pc [.ref (ad 5)] (zPc (dC, dI) (x_ty cI cJ) (x_W ad cI cJ) sz σ)) (zQi (dC, dI) (x_ty cI cJ) (x_W ad cI cJ) (zAW x_n ad sz) Q) 0 0 (zAW x_n ad sz)) (sz : Nat) (σ : zSt)  (Q : Int32 → zSt → Prop) (h : w_X5_readPart N S  σ Q) : Met l yX5_readPart vs_X5_readPart (rmq_sum 2 d) (va_Pc [.ref (ad 5)] (zPc (dC, dI) (x_ty cI cJ) (x_W ad cI cJ) sz σ)) (zQi (dC, dI) (x_ty cI cJ) (x_W ad cI cJ) (zAW x_n ad sz) Q) 0 0 (zAW x_n ad sz) := by
  refine Met.ofW (cc := cX5_readPart) (maxL := 1) (ret := (some .boolean)) (by decide) rfl ?_
  intro p e s m args below meth c s₁ B hml hv
  obtain ⟨rfl, hsz, hP, hK, hD0⟩ := hv
  subst hsz
  have C0 : zCx p s m meth c _ RX5 cX5_readPart 1 (some .boolean) vs_X5_readPart := ⟨B.exec, B.bytes, hml, B.returns, findClass_of_methodNamed B.named, atoms_spec (ws := vs_X5_readPart) B.pre, B.notSynchronized⟩
  have hD := x_D0 (n0 := s.heap.size) hD0
  have hl := lv_entry ([.ref (ad 5)]) (n := 1) (Nat.le_of_ble_eq_true rfl)
  rw [lg_entry_eq]
  generalize (lg_sl ([.ref (ad 5)]) ++ List.replicate (1 - (lg_sl ([.ref (ad 5)])).length) Slot.unset).toArray = ls at hl ⊢
  exact t_X5_readPart_0 C0 hK N hSm  σ _ _ ls h hP hD va_S.rf hl
theorem k_X5_readPart (N : Nat) {d : Nat} {S : zSt → (Int32 → zSt → Prop) → Prop} (hSm : ∀ (sz : Nat) (σ : zSt) (Q : Int32 → zSt → Prop), S σ Q → Met l yX5_readSum vs_X5_readSum (rmq_sum 0 d) (va_Pc [.ref (ad 5)] (zPc (dC, dI) (x_ty cI cJ) (x_W ad cI cJ) sz σ)) (zQi (dC, dI) (x_ty cI cJ) (x_W ad cI cJ) (zAW x_n ad sz) Q) 0 0 (zAW x_n ad sz)) {R : Room} {H : Heap} {locs : List Loc} {Q2 : State → Prop} {cc : ByteArray} {nL pc index : Nat} {ls : Array Slot} {rest : List Value} {own : String} {c0 : Cond} {σ : zSt}  {Q : Int32 → zSt → Prop} (S0 : CallFix p m c cc nL s args (c0 :: zT) own) (hml : Cond.methodLink own index yX5_readPart ∈ zT) (hR : (rmq_sum 2 d).frames + 1 ≤ R.frames ∧ 8 + (1 + 11) + (rmq_sum 2 d).locals ≤ R.locals) (h : w_X5_readPart N S  σ Q) (hK : va_K (dC, dI) vwCl (x_ty cI cJ) s) (hP : va_P (dC, dI) vwCl (x_W ad cI cJ σ) H) (hD : va_D (zAW x_n ad s.heap.size) (x_W ad cI cJ σ)) (hS : va_S (zAW x_n ad s.heap.size) s.heap H locs) (hsz : ls.size = nL) (hW : (rest.map fun v => v.category).sum ≤ 8) (hdg : decode cc pc = .ok (.invokevirtual index, 3)) (kk : ∀ (r : Int32) (τ : zSt) (H1 : Heap) (locs1 : List Loc), Q r τ → va_P (dC, dI) vwCl (x_W ad cI cJ τ) H1 → va_D (zAW x_n ad s.heap.size) (x_W ad cI cJ τ) → va_S (zAW x_n ad s.heap.size) s.heap H1 locs1 → W p l e R s m args below meth c H1 locs1 0 0 Q2 (F0 m (pc + 3) ls (.int r :: rest))) : W p l e R s m args below meth c H locs 0 0 Q2 (F0 m pc ls (.ref (ad 5) :: rest)) :=
  zcv_i (T := TX5) (N' := 14) (k := 5) (ci := 5) (fs := x_f5 ad σ) [] S0 (c_X5_readPart N l dC dI ad cI cJ hSm H.size σ  Q h) (cw_X5_readPart S0.2.2.2.2 hml rfl rfl hR) rfl rfl hK hP hD hS rfl hsz hW rfl hdg kk
end q02
section q02
def vs_X5_readProduct : List Cond := .code yX5_readProduct cX5_readProduct 3 (some .boolean) :: zT
theorem cw_X5_readProduct {rm R : Room} {s : State} {args : Array Value} {own : String} {index : Nat} {c0 : Cond} (hts : ∀ w ∈ c0 :: zT, w.before args s = true) (hml : Cond.methodLink own index yX5_readProduct ∈ zT) (hrc : rm.cells = 0) (hrs : rm.slots = 0) (hR : rm.frames + 1 ≤ R.frames ∧ 8 + (3 + 11) + rm.locals ≤ R.locals) : CallW R s args own RX5 index yX5_readProduct cX5_readProduct 3 (some .boolean) vs_X5_readProduct rm 0 0 0 :=
  zwV 0 hts hml mw_397 mw_1327 mw_6 mw_398 hrc hrs (by decide +kernel) hR
def b_X5_readProduct_50 (N : Nat) (S : zSt → (Int32 → zSt → Prop) → Prop) (k_11 : Int32 → zSt → Prop) (Q : Int32 → zSt → Prop) (x1 : Int32) (s0 : Int32) (σ : zSt) : Prop :=
  w_X5_take N σ (fun r1 τ2 => w_X5_readPart N S τ2 (fun r3 τ4 => (r3 = 0 → Q (0 : Int32) τ4) ∧ (¬ r3 = 0 → w_X6_emit N s0 τ4 (fun τ6 => ∀ v7 : Int32, v7 = x1 + (1 : Int32) → k_11 v7 τ6))))
def b_X5_readProduct_36 (N : Nat) (S : zSt → (Int32 → zSt → Prop) → Prop) (k_11 : Int32 → zSt → Prop) (Q : Int32 → zSt → Prop) (x1 : Int32) (σ : zSt) : Prop :=
  w_X5_isSign N (42 : Int32) σ (fun r1 τ2 => (r1 = 0 → b_X5_readProduct_50 N S k_11 Q x1 (3 : Int32) τ2) ∧ (¬ r1 = 0 → b_X5_readProduct_50 N S k_11 Q x1 (2 : Int32) τ2))
def b_X5_readProduct_11 (N : Nat) (S : zSt → (Int32 → zSt → Prop) → Prop) (k_11 : Int32 → zSt → Prop) (Q : Int32 → zSt → Prop) (x1 : Int32) (σ : zSt) : Prop :=
  ((800 : Int32) ≤ x1 → Q (1 : Int32) σ) ∧ (¬ (800 : Int32) ≤ x1 → w_X5_isSign N (42 : Int32) σ (fun r1 τ2 => (r1 = 0 → w_X5_isSign N (47 : Int32) τ2 (fun r3 τ4 => (r3 = 0 → Q (1 : Int32) τ4) ∧ (¬ r3 = 0 → b_X5_readProduct_36 N S k_11 Q x1 τ4))) ∧ (¬ r1 = 0 → b_X5_readProduct_36 N S k_11 Q x1 τ2)))
def w_X5_readProduct_11 (N : Nat) (S : zSt → (Int32 → zSt → Prop) → Prop) (Q : Int32 → zSt → Prop) : Nat → Int32 → zSt → Prop
  | 0 => fun _ _ => False
  | f + 1 => b_X5_readProduct_11 N S (w_X5_readProduct_11 N S  Q f) Q
def w_X5_readProduct (N : Nat) (S : zSt → (Int32 → zSt → Prop) → Prop)  (σ : zSt) (Q : Int32 → zSt → Prop) : Prop :=
  w_X5_readPart N S σ (fun r1 τ2 => (r1 = 0 → Q (0 : Int32) τ2) ∧ (¬ r1 = 0 → w_X5_readProduct_11 N S Q N (0 : Int32) τ2))
variable {p : Program} {l : Launch} {e : Env} {s : State} {m : MethodId} {args : Array Value} {below : List Frame} {meth : Method} {c : Code} {dC : Nat → ClassId} {dI : Nat → Nat → Nat} {ad : Nat → Nat} {cI cJ : ClassId}
set_option maxHeartbeats 4000000 in
set_option maxRecDepth 100000 in
theorem t_X5_readProduct_50 (C0 : zCx p s m meth c args RX5 cX5_readProduct 3 (some .boolean) vs_X5_readProduct) (hK : va_K (dC, dI) vwCl (x_ty cI cJ) s) (N : Nat) {d : Nat} {S : zSt → (Int32 → zSt → Prop) → Prop} (hSm : ∀ (sz : Nat) (σ : zSt) (Q : Int32 → zSt → Prop), S σ Q → Met l yX5_readSum vs_X5_readSum (rmq_sum 0 d) (va_Pc [.ref (ad 5)] (zPc (dC, dI) (x_ty cI cJ) (x_W ad cI cJ) sz σ)) (zQi (dC, dI) (x_ty cI cJ) (x_W ad cI cJ) (zAW x_n ad sz) Q) 0 0 (zAW x_n ad sz)) {Q : Int32 → zSt → Prop} {k_11 : Int32 → zSt → Prop} (hk_11 : ∀ (x1 : Int32) (σ : zSt) (H : Heap) (locs : List Loc) (ls : Array Slot), k_11 x1 σ → va_P (dC, dI) vwCl (x_W ad cI cJ σ) H → va_D (zAW x_n ad s.heap.size) (x_W ad cI cJ σ) → va_S (zAW x_n ad s.heap.size) s.heap H locs → lv_has ls 3 [(0, .ref (ad 5)), (1, .int x1)] → W p l e (rmq_sum 3 d) s m args below meth c H locs 0 0 (MQ below (zQi (dC, dI) (x_ty cI cJ) (x_W ad cI cJ) (zAW x_n ad s.heap.size) Q) args s 0 0 (zAW x_n ad s.heap.size)) (F0 m 11 ls [])) : ∀ (x1 : Int32) (s0 : Int32) (σ : zSt) (H : Heap) (locs : List Loc) (ls : Array Slot), b_X5_readProduct_50 N S k_11 Q x1 s0 σ → va_P (dC, dI) vwCl (x_W ad cI cJ σ) H → va_D (zAW x_n ad s.heap.size) (x_W ad cI cJ σ) → va_S (zAW x_n ad s.heap.size) s.heap H locs → lv_has ls 3 [(0, .ref (ad 5)), (1, .int x1)] → W p l e (rmq_sum 3 d) s m args below meth c H locs 0 0 (MQ below (zQi (dC, dI) (x_ty cI cJ) (x_W ad cI cJ) (zAW x_n ad s.heap.size) Q) args s 0 0 (zAW x_n ad s.heap.size)) (F0 m 50 ls [.int s0]) := by
  obtain ⟨hx, hb, hml, hr, hown, hts, hlocks⟩ := id C0
  intro x1 s0 σ H locs ls h hP hD hS hl
  unfold b_X5_readProduct_50 at h
  refine lv_istore_n (lv' := [(2, .int s0), (0, .ref (ad 5)), (1, .int x1)]) hx hb dX5_readProduct_50 rfl hl (by decide) rfl (fun ls hl => ?_)
  refine lv_aload_n hx hb dX5_readProduct_51 rfl (lv_at hl 1 rfl) ?_
  refine k_X5_take N ⟨hx, hb, hml, hown, hts⟩ mw_363 ⟨by dsimp only [rm_X5_take, rmq_sum, rmq_fact]; omega, by dsimp only [rm_X5_take, rmq_sum, rmq_fact]; omega⟩ h hK hP hD hS hl.1 (rest := []) (Nat.le_of_ble_eq_true rfl) dX5_readProduct_52 (fun r1 τ2 H locs h hP hD hS => ?_)
  refine lv_pop hx hb dX5_readProduct_55 rfl ?_
  refine lv_aload_n hx hb dX5_readProduct_56 rfl (lv_at hl 1 rfl) ?_
  refine k_X5_readPart N hSm ⟨hx, hb, hml, hown, hts⟩ mw_399 ⟨by dsimp only [rmq_sum, rmq_fact]; omega, by dsimp only [rmq_sum, rmq_fact]; omega⟩ h hK hP hD hS hl.1 (rest := []) (Nat.le_of_ble_eq_true rfl) dX5_readProduct_57 (fun r3 τ4 H locs h hP hD hS => ?_)
  refine lv_if_ne (tgt := 65) hx hb dX5_readProduct_60 (by decide) (fun hc => ?_) (fun hc => ?_)
  · have h := h.2 hc
    refine lv_aload_n hx hb dX5_readProduct_65 rfl (lv_at hl 1 rfl) ?_
    refine xg_5_2 hx hb hts hown hK hP mw_176 dX5_readProduct_66 ?_
    refine lv_iload_n hx hb dX5_readProduct_69 rfl (lv_at hl 0 rfl) ?_
    refine k_X6_emit N ⟨hx, hb, hml, hown, hts⟩ mw_403 ⟨by dsimp only [rm_X6_emit, rmq_sum, rmq_fact]; omega, by dsimp only [rm_X6_emit, rmq_sum, rmq_fact]; omega⟩ h hK hP hD hS hl.1 (rest := []) (Nat.le_of_ble_eq_true rfl) dX5_readProduct_70 (fun τ6 H locs h hP hD hS => ?_)
    obtain ⟨v7, ev7⟩ : ∃ z : Int32, z = x1 + (1 : Int32) := ⟨_, rfl⟩
    have h := h v7 ev7
    refine lv_iinc (v := v7) (lv' := [(1, .int v7), (2, .int s0), (0, .ref (ad 5))]) hx hb dX5_readProduct_73 hl (k := 2) rfl (by rw [ev7]; rfl) (by decide) rfl (fun ls hl => ?_)
    refine lv_goto (tgt := 11) hx hb dX5_readProduct_76 (by decide) ?_
    exact hk_11 v7 τ6 _ _ _ h hP hD hS (lv_sub hl [2, 0] rfl)
  · have h := h.1 hc
    refine lv_iconst (v := (0 : Int32)) hx hb dX5_readProduct_63 (by decide) ?_
    exact zret_z hx hb hr hlocks hK hP hD hS zb_0 h dX5_readProduct_64
set_option maxHeartbeats 4000000 in
set_option maxRecDepth 100000 in
theorem t_X5_readProduct_36 (C0 : zCx p s m meth c args RX5 cX5_readProduct 3 (some .boolean) vs_X5_readProduct) (hK : va_K (dC, dI) vwCl (x_ty cI cJ) s) (N : Nat) {d : Nat} {S : zSt → (Int32 → zSt → Prop) → Prop} (hSm : ∀ (sz : Nat) (σ : zSt) (Q : Int32 → zSt → Prop), S σ Q → Met l yX5_readSum vs_X5_readSum (rmq_sum 0 d) (va_Pc [.ref (ad 5)] (zPc (dC, dI) (x_ty cI cJ) (x_W ad cI cJ) sz σ)) (zQi (dC, dI) (x_ty cI cJ) (x_W ad cI cJ) (zAW x_n ad sz) Q) 0 0 (zAW x_n ad sz)) {Q : Int32 → zSt → Prop} {k_11 : Int32 → zSt → Prop} (hk_11 : ∀ (x1 : Int32) (σ : zSt) (H : Heap) (locs : List Loc) (ls : Array Slot), k_11 x1 σ → va_P (dC, dI) vwCl (x_W ad cI cJ σ) H → va_D (zAW x_n ad s.heap.size) (x_W ad cI cJ σ) → va_S (zAW x_n ad s.heap.size) s.heap H locs → lv_has ls 3 [(0, .ref (ad 5)), (1, .int x1)] → W p l e (rmq_sum 3 d) s m args below meth c H locs 0 0 (MQ below (zQi (dC, dI) (x_ty cI cJ) (x_W ad cI cJ) (zAW x_n ad s.heap.size) Q) args s 0 0 (zAW x_n ad s.heap.size)) (F0 m 11 ls [])) : ∀ (x1 : Int32) (σ : zSt) (H : Heap) (locs : List Loc) (ls : Array Slot), b_X5_readProduct_36 N S k_11 Q x1 σ → va_P (dC, dI) vwCl (x_W ad cI cJ σ) H → va_D (zAW x_n ad s.heap.size) (x_W ad cI cJ σ) → va_S (zAW x_n ad s.heap.size) s.heap H locs → lv_has ls 3 [(0, .ref (ad 5)), (1, .int x1)] → W p l e (rmq_sum 3 d) s m args below meth c H locs 0 0 (MQ below (zQi (dC, dI) (x_ty cI cJ) (x_W ad cI cJ) (zAW x_n ad s.heap.size) Q) args s 0 0 (zAW x_n ad s.heap.size)) (F0 m 36 ls []) := by
  obtain ⟨hx, hb, hml, hr, hown, hts, hlocks⟩ := id C0
  intro x1 σ H locs ls h hP hD hS hl
  unfold b_X5_readProduct_36 at h
  refine lv_aload_n hx hb dX5_readProduct_36 rfl (lv_at hl 0 rfl) ?_
  refine lv_bipush (v := (42 : Int32)) hx hb dX5_readProduct_37 (by decide) ?_
  refine k_X5_isSign N ⟨hx, hb, hml, hown, hts⟩ mw_407 ⟨by dsimp only [rm_X5_isSign, rmq_sum, rmq_fact]; omega, by dsimp only [rm_X5_isSign, rmq_sum, rmq_fact]; omega⟩ h hK hP hD hS hl.1 (rest := []) (Nat.le_of_ble_eq_true rfl) dX5_readProduct_39 (fun r1 τ2 H locs h hP hD hS => ?_)
  refine lv_if_eq (tgt := 49) hx hb dX5_readProduct_42 (by decide) (fun hc => ?_) (fun hc => ?_)
  · have h := h.1 hc
    refine lv_iconst (v := (3 : Int32)) hx hb dX5_readProduct_49 (by decide) ?_
    exact t_X5_readProduct_50 C0 hK N hSm hk_11 x1 (3 : Int32) τ2 _ _ _ h hP hD hS (lv_sub hl [0, 1] rfl)
  · have h := h.2 hc
    refine lv_iconst (v := (2 : Int32)) hx hb dX5_readProduct_45 (by decide) ?_
    refine lv_goto (tgt := 50) hx hb dX5_readProduct_46 (by decide) ?_
    exact t_X5_readProduct_50 C0 hK N hSm hk_11 x1 (2 : Int32) τ2 _ _ _ h hP hD hS (lv_sub hl [0, 1] rfl)
set_option maxHeartbeats 4000000 in
set_option maxRecDepth 100000 in
theorem tb_X5_readProduct_11 (C0 : zCx p s m meth c args RX5 cX5_readProduct 3 (some .boolean) vs_X5_readProduct) (hK : va_K (dC, dI) vwCl (x_ty cI cJ) s) (N : Nat) {d : Nat} {S : zSt → (Int32 → zSt → Prop) → Prop} (hSm : ∀ (sz : Nat) (σ : zSt) (Q : Int32 → zSt → Prop), S σ Q → Met l yX5_readSum vs_X5_readSum (rmq_sum 0 d) (va_Pc [.ref (ad 5)] (zPc (dC, dI) (x_ty cI cJ) (x_W ad cI cJ) sz σ)) (zQi (dC, dI) (x_ty cI cJ) (x_W ad cI cJ) (zAW x_n ad sz) Q) 0 0 (zAW x_n ad sz)) {Q : Int32 → zSt → Prop} {k_11 : Int32 → zSt → Prop} (hk_11 : ∀ (x1 : Int32) (σ : zSt) (H : Heap) (locs : List Loc) (ls : Array Slot), k_11 x1 σ → va_P (dC, dI) vwCl (x_W ad cI cJ σ) H → va_D (zAW x_n ad s.heap.size) (x_W ad cI cJ σ) → va_S (zAW x_n ad s.heap.size) s.heap H locs → lv_has ls 3 [(0, .ref (ad 5)), (1, .int x1)] → W p l e (rmq_sum 3 d) s m args below meth c H locs 0 0 (MQ below (zQi (dC, dI) (x_ty cI cJ) (x_W ad cI cJ) (zAW x_n ad s.heap.size) Q) args s 0 0 (zAW x_n ad s.heap.size)) (F0 m 11 ls [])) : ∀ (x1 : Int32) (σ : zSt) (H : Heap) (locs : List Loc) (ls : Array Slot), b_X5_readProduct_11 N S k_11 Q x1 σ → va_P (dC, dI) vwCl (x_W ad cI cJ σ) H → va_D (zAW x_n ad s.heap.size) (x_W ad cI cJ σ) → va_S (zAW x_n ad s.heap.size) s.heap H locs → lv_has ls 3 [(0, .ref (ad 5)), (1, .int x1)] → W p l e (rmq_sum 3 d) s m args below meth c H locs 0 0 (MQ below (zQi (dC, dI) (x_ty cI cJ) (x_W ad cI cJ) (zAW x_n ad s.heap.size) Q) args s 0 0 (zAW x_n ad s.heap.size)) (F0 m 11 ls []) := by
  obtain ⟨hx, hb, hml, hr, hown, hts, hlocks⟩ := id C0
  intro x1 σ H locs ls h hP hD hS hl
  unfold b_X5_readProduct_11 at h
  refine lv_iload_n hx hb dX5_readProduct_11 rfl (lv_at hl 1 rfl) ?_
  refine lv_sipush (v := (800 : Int32)) hx hb dX5_readProduct_12 (by decide) ?_
  refine lv_icmp_ge (tgt := 79) hx hb dX5_readProduct_15 (by decide) (fun hc => ?_) (fun hc => ?_)
  · have h := h.1 hc
    refine lv_iconst (v := (1 : Int32)) hx hb dX5_readProduct_79 (by decide) ?_
    exact zret_z hx hb hr hlocks hK hP hD hS zb_1 h dX5_readProduct_80
  · have h := h.2 hc
    refine lv_aload_n hx hb dX5_readProduct_18 rfl (lv_at hl 0 rfl) ?_
    refine lv_bipush (v := (42 : Int32)) hx hb dX5_readProduct_19 (by decide) ?_
    refine k_X5_isSign N ⟨hx, hb, hml, hown, hts⟩ mw_407 ⟨by dsimp only [rm_X5_isSign, rmq_sum, rmq_fact]; omega, by dsimp only [rm_X5_isSign, rmq_sum, rmq_fact]; omega⟩ h hK hP hD hS hl.1 (rest := []) (Nat.le_of_ble_eq_true rfl) dX5_readProduct_21 (fun r1 τ2 H locs h hP hD hS => ?_)
    refine lv_if_ne (tgt := 36) hx hb dX5_readProduct_24 (by decide) (fun hc => ?_) (fun hc => ?_)
    · have h := h.2 hc
      exact t_X5_readProduct_36 C0 hK N hSm hk_11 x1 τ2 _ _ _ h hP hD hS (lv_sub hl [0, 1] rfl)
    · have h := h.1 hc
      refine lv_aload_n hx hb dX5_readProduct_27 rfl (lv_at hl 0 rfl) ?_
      refine lv_bipush (v := (47 : Int32)) hx hb dX5_readProduct_28 (by decide) ?_
      refine k_X5_isSign N ⟨hx, hb, hml, hown, hts⟩ mw_407 ⟨by dsimp only [rm_X5_isSign, rmq_sum, rmq_fact]; omega, by dsimp only [rm_X5_isSign, rmq_sum, rmq_fact]; omega⟩ h hK hP hD hS hl.1 (rest := []) (Nat.le_of_ble_eq_true rfl) dX5_readProduct_30 (fun r3 τ4 H locs h hP hD hS => ?_)
      refine lv_if_eq (tgt := 79) hx hb dX5_readProduct_33 (by decide) (fun hc => ?_) (fun hc => ?_)
      · have h := h.1 hc
        refine lv_iconst (v := (1 : Int32)) hx hb dX5_readProduct_79 (by decide) ?_
        exact zret_z hx hb hr hlocks hK hP hD hS zb_1 h dX5_readProduct_80
      · have h := h.2 hc
        exact t_X5_readProduct_36 C0 hK N hSm hk_11 x1 τ4 _ _ _ h hP hD hS (lv_sub hl [0, 1] rfl)
set_option maxHeartbeats 4000000 in
set_option maxRecDepth 100000 in
theorem t_X5_readProduct_11 (C0 : zCx p s m meth c args RX5 cX5_readProduct 3 (some .boolean) vs_X5_readProduct) (hK : va_K (dC, dI) vwCl (x_ty cI cJ) s) (N : Nat) {d : Nat} {S : zSt → (Int32 → zSt → Prop) → Prop} (hSm : ∀ (sz : Nat) (σ : zSt) (Q : Int32 → zSt → Prop), S σ Q → Met l yX5_readSum vs_X5_readSum (rmq_sum 0 d) (va_Pc [.ref (ad 5)] (zPc (dC, dI) (x_ty cI cJ) (x_W ad cI cJ) sz σ)) (zQi (dC, dI) (x_ty cI cJ) (x_W ad cI cJ) (zAW x_n ad sz) Q) 0 0 (zAW x_n ad sz)) {Q : Int32 → zSt → Prop} : ∀ (f : Nat) (x1 : Int32) (σ : zSt) (H : Heap) (locs : List Loc) (ls : Array Slot), w_X5_readProduct_11 N S  Q f x1 σ → va_P (dC, dI) vwCl (x_W ad cI cJ σ) H → va_D (zAW x_n ad s.heap.size) (x_W ad cI cJ σ) → va_S (zAW x_n ad s.heap.size) s.heap H locs → lv_has ls 3 [(0, .ref (ad 5)), (1, .int x1)] → W p l e (rmq_sum 3 d) s m args below meth c H locs 0 0 (MQ below (zQi (dC, dI) (x_ty cI cJ) (x_W ad cI cJ) (zAW x_n ad s.heap.size) Q) args s 0 0 (zAW x_n ad s.heap.size)) (F0 m 11 ls []) := by
  intro f
  induction f with
  | zero => intro x1 σ H locs ls h; exact h.elim
  | succ f ih =>
    intro x1 σ H locs ls h hP hD hS hl
    exact tb_X5_readProduct_11 C0 hK N hSm  (k_11 := w_X5_readProduct_11 N S  Q f) ih x1 σ H locs ls h hP hD hS hl
set_option maxHeartbeats 4000000 in
set_option maxRecDepth 100000 in
theorem t_X5_readProduct_0 (C0 : zCx p s m meth c args RX5 cX5_readProduct 3 (some .boolean) vs_X5_readProduct) (hK : va_K (dC, dI) vwCl (x_ty cI cJ) s) (N : Nat) {d : Nat} {S : zSt → (Int32 → zSt → Prop) → Prop} (hSm : ∀ (sz : Nat) (σ : zSt) (Q : Int32 → zSt → Prop), S σ Q → Met l yX5_readSum vs_X5_readSum (rmq_sum 0 d) (va_Pc [.ref (ad 5)] (zPc (dC, dI) (x_ty cI cJ) (x_W ad cI cJ) sz σ)) (zQi (dC, dI) (x_ty cI cJ) (x_W ad cI cJ) (zAW x_n ad sz) Q) 0 0 (zAW x_n ad sz)) {Q : Int32 → zSt → Prop} : ∀  (σ : zSt) (H : Heap) (locs : List Loc) (ls : Array Slot), w_X5_readProduct N S  σ Q → va_P (dC, dI) vwCl (x_W ad cI cJ σ) H → va_D (zAW x_n ad s.heap.size) (x_W ad cI cJ σ) → va_S (zAW x_n ad s.heap.size) s.heap H locs → lv_has ls 3 [(0, .ref (ad 5))] → W p l e (rmq_sum 3 d) s m args below meth c H locs 0 0 (MQ below (zQi (dC, dI) (x_ty cI cJ) (x_W ad cI cJ) (zAW x_n ad s.heap.size) Q) args s 0 0 (zAW x_n ad s.heap.size)) (F0 m 0 ls []) := by
  obtain ⟨hx, hb, hml, hr, hown, hts, hlocks⟩ := id C0
  intro  σ H locs ls h hP hD hS hl
  unfold w_X5_readProduct at h
  refine lv_aload_n hx hb dX5_readProduct_0 rfl (lv_at hl 0 rfl) ?_
  refine k_X5_readPart N hSm ⟨hx, hb, hml, hown, hts⟩ mw_399 ⟨by dsimp only [rmq_sum, rmq_fact]; omega, by dsimp only [rmq_sum, rmq_fact]; omega⟩ h hK hP hD hS hl.1 (rest := []) (Nat.le_of_ble_eq_true rfl) dX5_readProduct_1 (fun r1 τ2 H locs h hP hD hS => ?_)
  refine lv_if_ne (tgt := 9) hx hb dX5_readProduct_4 (by decide) (fun hc => ?_) (fun hc => ?_)
  · have h := h.2 hc
    refine lv_iconst (v := (0 : Int32)) hx hb dX5_readProduct_9 (by decide) ?_
    refine lv_istore_n (lv' := [(1, .int (0 : Int32)), (0, .ref (ad 5))]) hx hb dX5_readProduct_10 rfl hl (by decide) rfl (fun ls hl => ?_)
    exact t_X5_readProduct_11 C0 hK N hSm  N (0 : Int32) τ2 _ _ _ h hP hD hS (lv_sub hl [1, 0] rfl)
  · have h := h.1 hc
    refine lv_iconst (v := (0 : Int32)) hx hb dX5_readProduct_7 (by decide) ?_
    exact zret_z hx hb hr hlocks hK hP hD hS zb_0 h dX5_readProduct_8
set_option maxHeartbeats 4000000 in
set_option maxRecDepth 100000 in
theorem c_X5_readProduct (N : Nat) (l : Launch) (dC : Nat → ClassId) (dI : Nat → Nat → Nat) (ad : Nat → Nat) (cI cJ : ClassId) {d : Nat} {S : zSt → (Int32 → zSt → Prop) → Prop} (hSm : ∀ (sz : Nat) (σ : zSt) (Q : Int32 → zSt → Prop), S σ Q → Met l yX5_readSum vs_X5_readSum (rmq_sum 0 d) (va_Pc [.ref (ad 5)] (zPc (dC, dI) (x_ty cI cJ) (x_W ad cI cJ) sz σ)) (zQi (dC, dI) (x_ty cI cJ) (x_W ad cI cJ) (zAW x_n ad sz) Q) 0 0 (zAW x_n ad sz)) (sz : Nat) (σ : zSt)  (Q : Int32 → zSt → Prop) (h : w_X5_readProduct N S  σ Q) : Met l yX5_readProduct vs_X5_readProduct (rmq_sum 3 d) (va_Pc [.ref (ad 5)] (zPc (dC, dI) (x_ty cI cJ) (x_W ad cI cJ) sz σ)) (zQi (dC, dI) (x_ty cI cJ) (x_W ad cI cJ) (zAW x_n ad sz) Q) 0 0 (zAW x_n ad sz) := by
  refine Met.ofW (cc := cX5_readProduct) (maxL := 3) (ret := (some .boolean)) (by decide) rfl ?_
  intro p e s m args below meth c s₁ B hml hv
  obtain ⟨rfl, hsz, hP, hK, hD0⟩ := hv
  subst hsz
  have C0 : zCx p s m meth c _ RX5 cX5_readProduct 3 (some .boolean) vs_X5_readProduct := ⟨B.exec, B.bytes, hml, B.returns, findClass_of_methodNamed B.named, atoms_spec (ws := vs_X5_readProduct) B.pre, B.notSynchronized⟩
  have hD := x_D0 (n0 := s.heap.size) hD0
  have hl := lv_entry ([.ref (ad 5)]) (n := 3) (Nat.le_of_ble_eq_true rfl)
  rw [lg_entry_eq]
  generalize (lg_sl ([.ref (ad 5)]) ++ List.replicate (3 - (lg_sl ([.ref (ad 5)])).length) Slot.unset).toArray = ls at hl ⊢
  exact t_X5_readProduct_0 C0 hK N hSm  σ _ _ ls h hP hD va_S.rf hl
theorem k_X5_readProduct (N : Nat) {d : Nat} {S : zSt → (Int32 → zSt → Prop) → Prop} (hSm : ∀ (sz : Nat) (σ : zSt) (Q : Int32 → zSt → Prop), S σ Q → Met l yX5_readSum vs_X5_readSum (rmq_sum 0 d) (va_Pc [.ref (ad 5)] (zPc (dC, dI) (x_ty cI cJ) (x_W ad cI cJ) sz σ)) (zQi (dC, dI) (x_ty cI cJ) (x_W ad cI cJ) (zAW x_n ad sz) Q) 0 0 (zAW x_n ad sz)) {R : Room} {H : Heap} {locs : List Loc} {Q2 : State → Prop} {cc : ByteArray} {nL pc index : Nat} {ls : Array Slot} {rest : List Value} {own : String} {c0 : Cond} {σ : zSt}  {Q : Int32 → zSt → Prop} (S0 : CallFix p m c cc nL s args (c0 :: zT) own) (hml : Cond.methodLink own index yX5_readProduct ∈ zT) (hR : (rmq_sum 3 d).frames + 1 ≤ R.frames ∧ 8 + (3 + 11) + (rmq_sum 3 d).locals ≤ R.locals) (h : w_X5_readProduct N S  σ Q) (hK : va_K (dC, dI) vwCl (x_ty cI cJ) s) (hP : va_P (dC, dI) vwCl (x_W ad cI cJ σ) H) (hD : va_D (zAW x_n ad s.heap.size) (x_W ad cI cJ σ)) (hS : va_S (zAW x_n ad s.heap.size) s.heap H locs) (hsz : ls.size = nL) (hW : (rest.map fun v => v.category).sum ≤ 8) (hdg : decode cc pc = .ok (.invokevirtual index, 3)) (kk : ∀ (r : Int32) (τ : zSt) (H1 : Heap) (locs1 : List Loc), Q r τ → va_P (dC, dI) vwCl (x_W ad cI cJ τ) H1 → va_D (zAW x_n ad s.heap.size) (x_W ad cI cJ τ) → va_S (zAW x_n ad s.heap.size) s.heap H1 locs1 → W p l e R s m args below meth c H1 locs1 0 0 Q2 (F0 m (pc + 3) ls (.int r :: rest))) : W p l e R s m args below meth c H locs 0 0 Q2 (F0 m pc ls (.ref (ad 5) :: rest)) :=
  zcv_i (T := TX5) (N' := 14) (k := 5) (ci := 5) (fs := x_f5 ad σ) [] S0 (c_X5_readProduct N l dC dI ad cI cJ hSm H.size σ  Q h) (cw_X5_readProduct S0.2.2.2.2 hml rfl rfl hR) rfl rfl hK hP hD hS rfl hsz hW rfl hdg kk
end q02
section q02
def vs_X5_readSum : List Cond := .code yX5_readSum cX5_readSum 3 (some .boolean) :: zT
theorem cw_X5_readSum {rm R : Room} {s : State} {args : Array Value} {own : String} {index : Nat} {c0 : Cond} (hts : ∀ w ∈ c0 :: zT, w.before args s = true) (hml : Cond.methodLink own index yX5_readSum ∈ zT) (hrc : rm.cells = 0) (hrs : rm.slots = 0) (hR : rm.frames + 1 ≤ R.frames ∧ 8 + (3 + 11) + rm.locals ≤ R.locals) : CallW R s args own RX5 index yX5_readSum cX5_readSum 3 (some .boolean) vs_X5_readSum rm 0 0 0 :=
  zwV 0 hts hml mw_394 mw_1326 mw_6 mw_395 hrc hrs (by decide +kernel) hR
def b_X5_readSum_50 (N : Nat) (S : zSt → (Int32 → zSt → Prop) → Prop) (k_11 : Int32 → zSt → Prop) (Q : Int32 → zSt → Prop) (x1 : Int32) (s0 : Int32) (σ : zSt) : Prop :=
  w_X5_take N σ (fun r1 τ2 => w_X5_readProduct N S τ2 (fun r3 τ4 => (r3 = 0 → Q (0 : Int32) τ4) ∧ (¬ r3 = 0 → w_X6_emit N s0 τ4 (fun τ6 => ∀ v7 : Int32, v7 = x1 + (1 : Int32) → k_11 v7 τ6))))
def b_X5_readSum_36 (N : Nat) (S : zSt → (Int32 → zSt → Prop) → Prop) (k_11 : Int32 → zSt → Prop) (Q : Int32 → zSt → Prop) (x1 : Int32) (σ : zSt) : Prop :=
  w_X5_isSign N (43 : Int32) σ (fun r1 τ2 => (r1 = 0 → b_X5_readSum_50 N S k_11 Q x1 (1 : Int32) τ2) ∧ (¬ r1 = 0 → b_X5_readSum_50 N S k_11 Q x1 (0 : Int32) τ2))
def b_X5_readSum_11 (N : Nat) (S : zSt → (Int32 → zSt → Prop) → Prop) (k_11 : Int32 → zSt → Prop) (Q : Int32 → zSt → Prop) (x1 : Int32) (σ : zSt) : Prop :=
  ((800 : Int32) ≤ x1 → Q (1 : Int32) σ) ∧ (¬ (800 : Int32) ≤ x1 → w_X5_isSign N (43 : Int32) σ (fun r1 τ2 => (r1 = 0 → w_X5_isSign N (45 : Int32) τ2 (fun r3 τ4 => (r3 = 0 → Q (1 : Int32) τ4) ∧ (¬ r3 = 0 → b_X5_readSum_36 N S k_11 Q x1 τ4))) ∧ (¬ r1 = 0 → b_X5_readSum_36 N S k_11 Q x1 τ2)))
def w_X5_readSum_11 (N : Nat) (S : zSt → (Int32 → zSt → Prop) → Prop) (Q : Int32 → zSt → Prop) : Nat → Int32 → zSt → Prop
  | 0 => fun _ _ => False
  | f + 1 => b_X5_readSum_11 N S (w_X5_readSum_11 N S  Q f) Q
def wb_X5_readSum (N : Nat) (S : zSt → (Int32 → zSt → Prop) → Prop)  (σ : zSt) (Q : Int32 → zSt → Prop) : Prop :=
  w_X5_readProduct N S σ (fun r1 τ2 => (r1 = 0 → Q (0 : Int32) τ2) ∧ (¬ r1 = 0 → w_X5_readSum_11 N S Q N (0 : Int32) τ2))
def w_X5_readSum (N : Nat) : Nat → zSt → (Int32 → zSt → Prop) → Prop
  | 0 => fun _ _ => False
  | d + 1 => wb_X5_readSum N (w_X5_readSum N d)
variable {p : Program} {l : Launch} {e : Env} {s : State} {m : MethodId} {args : Array Value} {below : List Frame} {meth : Method} {c : Code} {dC : Nat → ClassId} {dI : Nat → Nat → Nat} {ad : Nat → Nat} {cI cJ : ClassId}
set_option maxHeartbeats 4000000 in
set_option maxRecDepth 100000 in
theorem t_X5_readSum_50 (C0 : zCx p s m meth c args RX5 cX5_readSum 3 (some .boolean) vs_X5_readSum) (hK : va_K (dC, dI) vwCl (x_ty cI cJ) s) (N : Nat) {d : Nat} {S : zSt → (Int32 → zSt → Prop) → Prop} (hSm : ∀ (sz : Nat) (σ : zSt) (Q : Int32 → zSt → Prop), S σ Q → Met l yX5_readSum vs_X5_readSum (rmq_sum 0 d) (va_Pc [.ref (ad 5)] (zPc (dC, dI) (x_ty cI cJ) (x_W ad cI cJ) sz σ)) (zQi (dC, dI) (x_ty cI cJ) (x_W ad cI cJ) (zAW x_n ad sz) Q) 0 0 (zAW x_n ad sz)) {Q : Int32 → zSt → Prop} {k_11 : Int32 → zSt → Prop} (hk_11 : ∀ (x1 : Int32) (σ : zSt) (H : Heap) (locs : List Loc) (ls : Array Slot), k_11 x1 σ → va_P (dC, dI) vwCl (x_W ad cI cJ σ) H → va_D (zAW x_n ad s.heap.size) (x_W ad cI cJ σ) → va_S (zAW x_n ad s.heap.size) s.heap H locs → lv_has ls 3 [(0, .ref (ad 5)), (1, .int x1)] → W p l e (rmq_sum 0 (d + 1)) s m args below meth c H locs 0 0 (MQ below (zQi (dC, dI) (x_ty cI cJ) (x_W ad cI cJ) (zAW x_n ad s.heap.size) Q) args s 0 0 (zAW x_n ad s.heap.size)) (F0 m 11 ls [])) : ∀ (x1 : Int32) (s0 : Int32) (σ : zSt) (H : Heap) (locs : List Loc) (ls : Array Slot), b_X5_readSum_50 N S k_11 Q x1 s0 σ → va_P (dC, dI) vwCl (x_W ad cI cJ σ) H → va_D (zAW x_n ad s.heap.size) (x_W ad cI cJ σ) → va_S (zAW x_n ad s.heap.size) s.heap H locs → lv_has ls 3 [(0, .ref (ad 5)), (1, .int x1)] → W p l e (rmq_sum 0 (d + 1)) s m args below meth c H locs 0 0 (MQ below (zQi (dC, dI) (x_ty cI cJ) (x_W ad cI cJ) (zAW x_n ad s.heap.size) Q) args s 0 0 (zAW x_n ad s.heap.size)) (F0 m 50 ls [.int s0]) := by
  obtain ⟨hx, hb, hml, hr, hown, hts, hlocks⟩ := id C0
  intro x1 s0 σ H locs ls h hP hD hS hl
  unfold b_X5_readSum_50 at h
  refine lv_istore_n (lv' := [(2, .int s0), (0, .ref (ad 5)), (1, .int x1)]) hx hb dX5_readSum_50 rfl hl (by decide) rfl (fun ls hl => ?_)
  refine lv_aload_n hx hb dX5_readSum_51 rfl (lv_at hl 1 rfl) ?_
  refine k_X5_take N ⟨hx, hb, hml, hown, hts⟩ mw_363 ⟨by dsimp only [rm_X5_take, rmq_sum, rmq_fact]; omega, by dsimp only [rm_X5_take, rmq_sum, rmq_fact]; omega⟩ h hK hP hD hS hl.1 (rest := []) (Nat.le_of_ble_eq_true rfl) dX5_readSum_52 (fun r1 τ2 H locs h hP hD hS => ?_)
  refine lv_pop hx hb dX5_readSum_55 rfl ?_
  refine lv_aload_n hx hb dX5_readSum_56 rfl (lv_at hl 1 rfl) ?_
  refine k_X5_readProduct N hSm ⟨hx, hb, hml, hown, hts⟩ mw_396 ⟨by dsimp only [rmq_sum, rmq_fact]; omega, by dsimp only [rmq_sum, rmq_fact]; omega⟩ h hK hP hD hS hl.1 (rest := []) (Nat.le_of_ble_eq_true rfl) dX5_readSum_57 (fun r3 τ4 H locs h hP hD hS => ?_)
  refine lv_if_ne (tgt := 65) hx hb dX5_readSum_60 (by decide) (fun hc => ?_) (fun hc => ?_)
  · have h := h.2 hc
    refine lv_aload_n hx hb dX5_readSum_65 rfl (lv_at hl 1 rfl) ?_
    refine xg_5_2 hx hb hts hown hK hP mw_176 dX5_readSum_66 ?_
    refine lv_iload_n hx hb dX5_readSum_69 rfl (lv_at hl 0 rfl) ?_
    refine k_X6_emit N ⟨hx, hb, hml, hown, hts⟩ mw_403 ⟨by dsimp only [rm_X6_emit, rmq_sum, rmq_fact]; omega, by dsimp only [rm_X6_emit, rmq_sum, rmq_fact]; omega⟩ h hK hP hD hS hl.1 (rest := []) (Nat.le_of_ble_eq_true rfl) dX5_readSum_70 (fun τ6 H locs h hP hD hS => ?_)
    obtain ⟨v7, ev7⟩ : ∃ z : Int32, z = x1 + (1 : Int32) := ⟨_, rfl⟩
    have h := h v7 ev7
    refine lv_iinc (v := v7) (lv' := [(1, .int v7), (2, .int s0), (0, .ref (ad 5))]) hx hb dX5_readSum_73 hl (k := 2) rfl (by rw [ev7]; rfl) (by decide) rfl (fun ls hl => ?_)
    refine lv_goto (tgt := 11) hx hb dX5_readSum_76 (by decide) ?_
    exact hk_11 v7 τ6 _ _ _ h hP hD hS (lv_sub hl [2, 0] rfl)
  · have h := h.1 hc
    refine lv_iconst (v := (0 : Int32)) hx hb dX5_readSum_63 (by decide) ?_
    exact zret_z hx hb hr hlocks hK hP hD hS zb_0 h dX5_readSum_64
set_option maxHeartbeats 4000000 in
set_option maxRecDepth 100000 in
theorem t_X5_readSum_36 (C0 : zCx p s m meth c args RX5 cX5_readSum 3 (some .boolean) vs_X5_readSum) (hK : va_K (dC, dI) vwCl (x_ty cI cJ) s) (N : Nat) {d : Nat} {S : zSt → (Int32 → zSt → Prop) → Prop} (hSm : ∀ (sz : Nat) (σ : zSt) (Q : Int32 → zSt → Prop), S σ Q → Met l yX5_readSum vs_X5_readSum (rmq_sum 0 d) (va_Pc [.ref (ad 5)] (zPc (dC, dI) (x_ty cI cJ) (x_W ad cI cJ) sz σ)) (zQi (dC, dI) (x_ty cI cJ) (x_W ad cI cJ) (zAW x_n ad sz) Q) 0 0 (zAW x_n ad sz)) {Q : Int32 → zSt → Prop} {k_11 : Int32 → zSt → Prop} (hk_11 : ∀ (x1 : Int32) (σ : zSt) (H : Heap) (locs : List Loc) (ls : Array Slot), k_11 x1 σ → va_P (dC, dI) vwCl (x_W ad cI cJ σ) H → va_D (zAW x_n ad s.heap.size) (x_W ad cI cJ σ) → va_S (zAW x_n ad s.heap.size) s.heap H locs → lv_has ls 3 [(0, .ref (ad 5)), (1, .int x1)] → W p l e (rmq_sum 0 (d + 1)) s m args below meth c H locs 0 0 (MQ below (zQi (dC, dI) (x_ty cI cJ) (x_W ad cI cJ) (zAW x_n ad s.heap.size) Q) args s 0 0 (zAW x_n ad s.heap.size)) (F0 m 11 ls [])) : ∀ (x1 : Int32) (σ : zSt) (H : Heap) (locs : List Loc) (ls : Array Slot), b_X5_readSum_36 N S k_11 Q x1 σ → va_P (dC, dI) vwCl (x_W ad cI cJ σ) H → va_D (zAW x_n ad s.heap.size) (x_W ad cI cJ σ) → va_S (zAW x_n ad s.heap.size) s.heap H locs → lv_has ls 3 [(0, .ref (ad 5)), (1, .int x1)] → W p l e (rmq_sum 0 (d + 1)) s m args below meth c H locs 0 0 (MQ below (zQi (dC, dI) (x_ty cI cJ) (x_W ad cI cJ) (zAW x_n ad s.heap.size) Q) args s 0 0 (zAW x_n ad s.heap.size)) (F0 m 36 ls []) := by
  obtain ⟨hx, hb, hml, hr, hown, hts, hlocks⟩ := id C0
  intro x1 σ H locs ls h hP hD hS hl
  unfold b_X5_readSum_36 at h
  refine lv_aload_n hx hb dX5_readSum_36 rfl (lv_at hl 0 rfl) ?_
  refine lv_bipush (v := (43 : Int32)) hx hb dX5_readSum_37 (by decide) ?_
  refine k_X5_isSign N ⟨hx, hb, hml, hown, hts⟩ mw_407 ⟨by dsimp only [rm_X5_isSign, rmq_sum, rmq_fact]; omega, by dsimp only [rm_X5_isSign, rmq_sum, rmq_fact]; omega⟩ h hK hP hD hS hl.1 (rest := []) (Nat.le_of_ble_eq_true rfl) dX5_readSum_39 (fun r1 τ2 H locs h hP hD hS => ?_)
  refine lv_if_eq (tgt := 49) hx hb dX5_readSum_42 (by decide) (fun hc => ?_) (fun hc => ?_)
  · have h := h.1 hc
    refine lv_iconst (v := (1 : Int32)) hx hb dX5_readSum_49 (by decide) ?_
    exact t_X5_readSum_50 C0 hK N hSm hk_11 x1 (1 : Int32) τ2 _ _ _ h hP hD hS (lv_sub hl [0, 1] rfl)
  · have h := h.2 hc
    refine lv_iconst (v := (0 : Int32)) hx hb dX5_readSum_45 (by decide) ?_
    refine lv_goto (tgt := 50) hx hb dX5_readSum_46 (by decide) ?_
    exact t_X5_readSum_50 C0 hK N hSm hk_11 x1 (0 : Int32) τ2 _ _ _ h hP hD hS (lv_sub hl [0, 1] rfl)
set_option maxHeartbeats 4000000 in
set_option maxRecDepth 100000 in
theorem tb_X5_readSum_11 (C0 : zCx p s m meth c args RX5 cX5_readSum 3 (some .boolean) vs_X5_readSum) (hK : va_K (dC, dI) vwCl (x_ty cI cJ) s) (N : Nat) {d : Nat} {S : zSt → (Int32 → zSt → Prop) → Prop} (hSm : ∀ (sz : Nat) (σ : zSt) (Q : Int32 → zSt → Prop), S σ Q → Met l yX5_readSum vs_X5_readSum (rmq_sum 0 d) (va_Pc [.ref (ad 5)] (zPc (dC, dI) (x_ty cI cJ) (x_W ad cI cJ) sz σ)) (zQi (dC, dI) (x_ty cI cJ) (x_W ad cI cJ) (zAW x_n ad sz) Q) 0 0 (zAW x_n ad sz)) {Q : Int32 → zSt → Prop} {k_11 : Int32 → zSt → Prop} (hk_11 : ∀ (x1 : Int32) (σ : zSt) (H : Heap) (locs : List Loc) (ls : Array Slot), k_11 x1 σ → va_P (dC, dI) vwCl (x_W ad cI cJ σ) H → va_D (zAW x_n ad s.heap.size) (x_W ad cI cJ σ) → va_S (zAW x_n ad s.heap.size) s.heap H locs → lv_has ls 3 [(0, .ref (ad 5)), (1, .int x1)] → W p l e (rmq_sum 0 (d + 1)) s m args below meth c H locs 0 0 (MQ below (zQi (dC, dI) (x_ty cI cJ) (x_W ad cI cJ) (zAW x_n ad s.heap.size) Q) args s 0 0 (zAW x_n ad s.heap.size)) (F0 m 11 ls [])) : ∀ (x1 : Int32) (σ : zSt) (H : Heap) (locs : List Loc) (ls : Array Slot), b_X5_readSum_11 N S k_11 Q x1 σ → va_P (dC, dI) vwCl (x_W ad cI cJ σ) H → va_D (zAW x_n ad s.heap.size) (x_W ad cI cJ σ) → va_S (zAW x_n ad s.heap.size) s.heap H locs → lv_has ls 3 [(0, .ref (ad 5)), (1, .int x1)] → W p l e (rmq_sum 0 (d + 1)) s m args below meth c H locs 0 0 (MQ below (zQi (dC, dI) (x_ty cI cJ) (x_W ad cI cJ) (zAW x_n ad s.heap.size) Q) args s 0 0 (zAW x_n ad s.heap.size)) (F0 m 11 ls []) := by
  obtain ⟨hx, hb, hml, hr, hown, hts, hlocks⟩ := id C0
  intro x1 σ H locs ls h hP hD hS hl
  unfold b_X5_readSum_11 at h
  refine lv_iload_n hx hb dX5_readSum_11 rfl (lv_at hl 1 rfl) ?_
  refine lv_sipush (v := (800 : Int32)) hx hb dX5_readSum_12 (by decide) ?_
  refine lv_icmp_ge (tgt := 79) hx hb dX5_readSum_15 (by decide) (fun hc => ?_) (fun hc => ?_)
  · have h := h.1 hc
    refine lv_iconst (v := (1 : Int32)) hx hb dX5_readSum_79 (by decide) ?_
    exact zret_z hx hb hr hlocks hK hP hD hS zb_1 h dX5_readSum_80
  · have h := h.2 hc
    refine lv_aload_n hx hb dX5_readSum_18 rfl (lv_at hl 0 rfl) ?_
    refine lv_bipush (v := (43 : Int32)) hx hb dX5_readSum_19 (by decide) ?_
    refine k_X5_isSign N ⟨hx, hb, hml, hown, hts⟩ mw_407 ⟨by dsimp only [rm_X5_isSign, rmq_sum, rmq_fact]; omega, by dsimp only [rm_X5_isSign, rmq_sum, rmq_fact]; omega⟩ h hK hP hD hS hl.1 (rest := []) (Nat.le_of_ble_eq_true rfl) dX5_readSum_21 (fun r1 τ2 H locs h hP hD hS => ?_)
    refine lv_if_ne (tgt := 36) hx hb dX5_readSum_24 (by decide) (fun hc => ?_) (fun hc => ?_)
    · have h := h.2 hc
      exact t_X5_readSum_36 C0 hK N hSm hk_11 x1 τ2 _ _ _ h hP hD hS (lv_sub hl [0, 1] rfl)
    · have h := h.1 hc
      refine lv_aload_n hx hb dX5_readSum_27 rfl (lv_at hl 0 rfl) ?_
      refine lv_bipush (v := (45 : Int32)) hx hb dX5_readSum_28 (by decide) ?_
      refine k_X5_isSign N ⟨hx, hb, hml, hown, hts⟩ mw_407 ⟨by dsimp only [rm_X5_isSign, rmq_sum, rmq_fact]; omega, by dsimp only [rm_X5_isSign, rmq_sum, rmq_fact]; omega⟩ h hK hP hD hS hl.1 (rest := []) (Nat.le_of_ble_eq_true rfl) dX5_readSum_30 (fun r3 τ4 H locs h hP hD hS => ?_)
      refine lv_if_eq (tgt := 79) hx hb dX5_readSum_33 (by decide) (fun hc => ?_) (fun hc => ?_)
      · have h := h.1 hc
        refine lv_iconst (v := (1 : Int32)) hx hb dX5_readSum_79 (by decide) ?_
        exact zret_z hx hb hr hlocks hK hP hD hS zb_1 h dX5_readSum_80
      · have h := h.2 hc
        exact t_X5_readSum_36 C0 hK N hSm hk_11 x1 τ4 _ _ _ h hP hD hS (lv_sub hl [0, 1] rfl)
set_option maxHeartbeats 4000000 in
set_option maxRecDepth 100000 in
theorem t_X5_readSum_11 (C0 : zCx p s m meth c args RX5 cX5_readSum 3 (some .boolean) vs_X5_readSum) (hK : va_K (dC, dI) vwCl (x_ty cI cJ) s) (N : Nat) {d : Nat} {S : zSt → (Int32 → zSt → Prop) → Prop} (hSm : ∀ (sz : Nat) (σ : zSt) (Q : Int32 → zSt → Prop), S σ Q → Met l yX5_readSum vs_X5_readSum (rmq_sum 0 d) (va_Pc [.ref (ad 5)] (zPc (dC, dI) (x_ty cI cJ) (x_W ad cI cJ) sz σ)) (zQi (dC, dI) (x_ty cI cJ) (x_W ad cI cJ) (zAW x_n ad sz) Q) 0 0 (zAW x_n ad sz)) {Q : Int32 → zSt → Prop} : ∀ (f : Nat) (x1 : Int32) (σ : zSt) (H : Heap) (locs : List Loc) (ls : Array Slot), w_X5_readSum_11 N S  Q f x1 σ → va_P (dC, dI) vwCl (x_W ad cI cJ σ) H → va_D (zAW x_n ad s.heap.size) (x_W ad cI cJ σ) → va_S (zAW x_n ad s.heap.size) s.heap H locs → lv_has ls 3 [(0, .ref (ad 5)), (1, .int x1)] → W p l e (rmq_sum 0 (d + 1)) s m args below meth c H locs 0 0 (MQ below (zQi (dC, dI) (x_ty cI cJ) (x_W ad cI cJ) (zAW x_n ad s.heap.size) Q) args s 0 0 (zAW x_n ad s.heap.size)) (F0 m 11 ls []) := by
  intro f
  induction f with
  | zero => intro x1 σ H locs ls h; exact h.elim
  | succ f ih =>
    intro x1 σ H locs ls h hP hD hS hl
    exact tb_X5_readSum_11 C0 hK N hSm  (k_11 := w_X5_readSum_11 N S  Q f) ih x1 σ H locs ls h hP hD hS hl
set_option maxHeartbeats 4000000 in
set_option maxRecDepth 100000 in
theorem t_X5_readSum_0 (C0 : zCx p s m meth c args RX5 cX5_readSum 3 (some .boolean) vs_X5_readSum) (hK : va_K (dC, dI) vwCl (x_ty cI cJ) s) (N : Nat) {d : Nat} {S : zSt → (Int32 → zSt → Prop) → Prop} (hSm : ∀ (sz : Nat) (σ : zSt) (Q : Int32 → zSt → Prop), S σ Q → Met l yX5_readSum vs_X5_readSum (rmq_sum 0 d) (va_Pc [.ref (ad 5)] (zPc (dC, dI) (x_ty cI cJ) (x_W ad cI cJ) sz σ)) (zQi (dC, dI) (x_ty cI cJ) (x_W ad cI cJ) (zAW x_n ad sz) Q) 0 0 (zAW x_n ad sz)) {Q : Int32 → zSt → Prop} : ∀  (σ : zSt) (H : Heap) (locs : List Loc) (ls : Array Slot), wb_X5_readSum N S  σ Q → va_P (dC, dI) vwCl (x_W ad cI cJ σ) H → va_D (zAW x_n ad s.heap.size) (x_W ad cI cJ σ) → va_S (zAW x_n ad s.heap.size) s.heap H locs → lv_has ls 3 [(0, .ref (ad 5))] → W p l e (rmq_sum 0 (d + 1)) s m args below meth c H locs 0 0 (MQ below (zQi (dC, dI) (x_ty cI cJ) (x_W ad cI cJ) (zAW x_n ad s.heap.size) Q) args s 0 0 (zAW x_n ad s.heap.size)) (F0 m 0 ls []) := by
  obtain ⟨hx, hb, hml, hr, hown, hts, hlocks⟩ := id C0
  intro  σ H locs ls h hP hD hS hl
  unfold wb_X5_readSum at h
  refine lv_aload_n hx hb dX5_readSum_0 rfl (lv_at hl 0 rfl) ?_
  refine k_X5_readProduct N hSm ⟨hx, hb, hml, hown, hts⟩ mw_396 ⟨by dsimp only [rmq_sum, rmq_fact]; omega, by dsimp only [rmq_sum, rmq_fact]; omega⟩ h hK hP hD hS hl.1 (rest := []) (Nat.le_of_ble_eq_true rfl) dX5_readSum_1 (fun r1 τ2 H locs h hP hD hS => ?_)
  refine lv_if_ne (tgt := 9) hx hb dX5_readSum_4 (by decide) (fun hc => ?_) (fun hc => ?_)
  · have h := h.2 hc
    refine lv_iconst (v := (0 : Int32)) hx hb dX5_readSum_9 (by decide) ?_
    refine lv_istore_n (lv' := [(1, .int (0 : Int32)), (0, .ref (ad 5))]) hx hb dX5_readSum_10 rfl hl (by decide) rfl (fun ls hl => ?_)
    exact t_X5_readSum_11 C0 hK N hSm  N (0 : Int32) τ2 _ _ _ h hP hD hS (lv_sub hl [1, 0] rfl)
  · have h := h.1 hc
    refine lv_iconst (v := (0 : Int32)) hx hb dX5_readSum_7 (by decide) ?_
    exact zret_z hx hb hr hlocks hK hP hD hS zb_0 h dX5_readSum_8
set_option maxHeartbeats 4000000 in
set_option maxRecDepth 100000 in
theorem cb_X5_readSum (N : Nat) (l : Launch) (dC : Nat → ClassId) (dI : Nat → Nat → Nat) (ad : Nat → Nat) (cI cJ : ClassId) {d : Nat} {S : zSt → (Int32 → zSt → Prop) → Prop} (hSm : ∀ (sz : Nat) (σ : zSt) (Q : Int32 → zSt → Prop), S σ Q → Met l yX5_readSum vs_X5_readSum (rmq_sum 0 d) (va_Pc [.ref (ad 5)] (zPc (dC, dI) (x_ty cI cJ) (x_W ad cI cJ) sz σ)) (zQi (dC, dI) (x_ty cI cJ) (x_W ad cI cJ) (zAW x_n ad sz) Q) 0 0 (zAW x_n ad sz)) (sz : Nat) (σ : zSt)  (Q : Int32 → zSt → Prop) (h : wb_X5_readSum N S  σ Q) : Met l yX5_readSum vs_X5_readSum (rmq_sum 0 (d + 1)) (va_Pc [.ref (ad 5)] (zPc (dC, dI) (x_ty cI cJ) (x_W ad cI cJ) sz σ)) (zQi (dC, dI) (x_ty cI cJ) (x_W ad cI cJ) (zAW x_n ad sz) Q) 0 0 (zAW x_n ad sz) := by
  refine Met.ofW (cc := cX5_readSum) (maxL := 3) (ret := (some .boolean)) (by decide) rfl ?_
  intro p e s m args below meth c s₁ B hml hv
  obtain ⟨rfl, hsz, hP, hK, hD0⟩ := hv
  subst hsz
  have C0 : zCx p s m meth c _ RX5 cX5_readSum 3 (some .boolean) vs_X5_readSum := ⟨B.exec, B.bytes, hml, B.returns, findClass_of_methodNamed B.named, atoms_spec (ws := vs_X5_readSum) B.pre, B.notSynchronized⟩
  have hD := x_D0 (n0 := s.heap.size) hD0
  have hl := lv_entry ([.ref (ad 5)]) (n := 3) (Nat.le_of_ble_eq_true rfl)
  rw [lg_entry_eq]
  generalize (lg_sl ([.ref (ad 5)]) ++ List.replicate (3 - (lg_sl ([.ref (ad 5)])).length) Slot.unset).toArray = ls at hl ⊢
  exact t_X5_readSum_0 C0 hK N hSm  σ _ _ ls h hP hD va_S.rf hl
theorem c_X5_readSum (N : Nat) (l : Launch) (dC : Nat → ClassId) (dI : Nat → Nat → Nat) (ad : Nat → Nat) (cI cJ : ClassId) (d sz : Nat) (σ : zSt) (Q : Int32 → zSt → Prop) (h : w_X5_readSum N d σ Q) : Met l yX5_readSum vs_X5_readSum (rmq_sum 0 d) (va_Pc [.ref (ad 5)] (zPc (dC, dI) (x_ty cI cJ) (x_W ad cI cJ) sz σ)) (zQi (dC, dI) (x_ty cI cJ) (x_W ad cI cJ) (zAW x_n ad sz) Q) 0 0 (zAW x_n ad sz) := by
  induction d generalizing sz σ Q with
  | zero => exact h.elim
  | succ d ih => exact cb_X5_readSum N l dC dI ad cI cJ (S := w_X5_readSum N d) (fun sz σ Q h => ih sz σ Q h) sz σ Q h
theorem k_X5_readSum (N : Nat) {d : Nat} {R : Room} {H : Heap} {locs : List Loc} {Q2 : State → Prop} {cc : ByteArray} {nL pc index : Nat} {ls : Array Slot} {rest : List Value} {own : String} {c0 : Cond} {σ : zSt}  {Q : Int32 → zSt → Prop} (S0 : CallFix p m c cc nL s args (c0 :: zT) own) (hml : Cond.methodLink own index yX5_readSum ∈ zT) (hR : (rmq_sum 0 d).frames + 1 ≤ R.frames ∧ 8 + (3 + 11) + (rmq_sum 0 d).locals ≤ R.locals) (h : w_X5_readSum N d  σ Q) (hK : va_K (dC, dI) vwCl (x_ty cI cJ) s) (hP : va_P (dC, dI) vwCl (x_W ad cI cJ σ) H) (hD : va_D (zAW x_n ad s.heap.size) (x_W ad cI cJ σ)) (hS : va_S (zAW x_n ad s.heap.size) s.heap H locs) (hsz : ls.size = nL) (hW : (rest.map fun v => v.category).sum ≤ 8) (hdg : decode cc pc = .ok (.invokevirtual index, 3)) (kk : ∀ (r : Int32) (τ : zSt) (H1 : Heap) (locs1 : List Loc), Q r τ → va_P (dC, dI) vwCl (x_W ad cI cJ τ) H1 → va_D (zAW x_n ad s.heap.size) (x_W ad cI cJ τ) → va_S (zAW x_n ad s.heap.size) s.heap H1 locs1 → W p l e R s m args below meth c H1 locs1 0 0 Q2 (F0 m (pc + 3) ls (.int r :: rest))) : W p l e R s m args below meth c H locs 0 0 Q2 (F0 m pc ls (.ref (ad 5) :: rest)) :=
  zcv_i (T := TX5) (N' := 14) (k := 5) (ci := 5) (fs := x_f5 ad σ) [] S0 (c_X5_readSum N l dC dI ad cI cJ d H.size σ  Q h) (cw_X5_readSum S0.2.2.2.2 hml rfl rfl hR) rfl rfl hK hP hD hS rfl hsz hW rfl hdg kk
end q02
section q02
def vs_X5_readBoth : List Cond := .code yX5_readBoth cX5_readBoth 2 (some .boolean) :: zT
theorem cw_X5_readBoth {rm R : Room} {s : State} {args : Array Value} {own : String} {index : Nat} {c0 : Cond} (hts : ∀ w ∈ c0 :: zT, w.before args s = true) (hml : Cond.methodLink own index yX5_readBoth ∈ zT) (hrc : rm.cells = 0) (hrs : rm.slots = 0) (hR : rm.frames + 1 ≤ R.frames ∧ 8 + (2 + 11) + rm.locals ≤ R.locals) : CallW R s args own RX5 index yX5_readBoth cX5_readBoth 2 (some .boolean) vs_X5_readBoth rm 0 0 0 :=
  zwV 0 hts hml mw_423 mw_1334 mw_6 mw_424 hrc hrs (by decide +kernel) hR
def b_X5_readBoth_11 (N : Nat) (S : zSt → (Int32 → zSt → Prop) → Prop) (k_11 : Int32 → zSt → Prop) (Q : Int32 → zSt → Prop) (x1 : Int32) (σ : zSt) : Prop :=
  ((800 : Int32) ≤ x1 → Q (1 : Int32) σ) ∧ (¬ (800 : Int32) ≤ x1 → ((σ.1 16) = (8 : Int32) → w_X5_take N σ (fun r1 τ2 => S τ2 (fun r3 τ4 => (r3 = 0 → Q (0 : Int32) τ4) ∧ (¬ r3 = 0 → w_X6_emit N (9 : Int32) τ4 (fun τ6 => ∀ v7 : Int32, v7 = x1 + (1 : Int32) → k_11 v7 τ6))))) ∧ (¬ (σ.1 16) = (8 : Int32) → Q (1 : Int32) σ))
def w_X5_readBoth_11 (N : Nat) (S : zSt → (Int32 → zSt → Prop) → Prop) (Q : Int32 → zSt → Prop) : Nat → Int32 → zSt → Prop
  | 0 => fun _ _ => False
  | f + 1 => b_X5_readBoth_11 N S (w_X5_readBoth_11 N S  Q f) Q
def w_X5_readBoth (N : Nat) (S : zSt → (Int32 → zSt → Prop) → Prop)  (σ : zSt) (Q : Int32 → zSt → Prop) : Prop :=
  S σ (fun r1 τ2 => (r1 = 0 → Q (0 : Int32) τ2) ∧ (¬ r1 = 0 → w_X5_readBoth_11 N S Q N (0 : Int32) τ2))
variable {p : Program} {l : Launch} {e : Env} {s : State} {m : MethodId} {args : Array Value} {below : List Frame} {meth : Method} {c : Code} {dC : Nat → ClassId} {dI : Nat → Nat → Nat} {ad : Nat → Nat} {cI cJ : ClassId}
set_option maxHeartbeats 4000000 in
set_option maxRecDepth 100000 in
theorem tb_X5_readBoth_11 (C0 : zCx p s m meth c args RX5 cX5_readBoth 2 (some .boolean) vs_X5_readBoth) (hK : va_K (dC, dI) vwCl (x_ty cI cJ) s) (N : Nat) {d : Nat} {S : zSt → (Int32 → zSt → Prop) → Prop} (hSm : ∀ (sz : Nat) (σ : zSt) (Q : Int32 → zSt → Prop), S σ Q → Met l yX5_readFact vs_X5_readFact (rmq_fact 0 d) (va_Pc [.ref (ad 5)] (zPc (dC, dI) (x_ty cI cJ) (x_W ad cI cJ) sz σ)) (zQi (dC, dI) (x_ty cI cJ) (x_W ad cI cJ) (zAW x_n ad sz) Q) 0 0 (zAW x_n ad sz)) {Q : Int32 → zSt → Prop} {k_11 : Int32 → zSt → Prop} (hk_11 : ∀ (x1 : Int32) (σ : zSt) (H : Heap) (locs : List Loc) (ls : Array Slot), k_11 x1 σ → va_P (dC, dI) vwCl (x_W ad cI cJ σ) H → va_D (zAW x_n ad s.heap.size) (x_W ad cI cJ σ) → va_S (zAW x_n ad s.heap.size) s.heap H locs → lv_has ls 2 [(0, .ref (ad 5)), (1, .int x1)] → W p l e (rmq_fact 1 d) s m args below meth c H locs 0 0 (MQ below (zQi (dC, dI) (x_ty cI cJ) (x_W ad cI cJ) (zAW x_n ad s.heap.size) Q) args s 0 0 (zAW x_n ad s.heap.size)) (F0 m 11 ls [])) : ∀ (x1 : Int32) (σ : zSt) (H : Heap) (locs : List Loc) (ls : Array Slot), b_X5_readBoth_11 N S k_11 Q x1 σ → va_P (dC, dI) vwCl (x_W ad cI cJ σ) H → va_D (zAW x_n ad s.heap.size) (x_W ad cI cJ σ) → va_S (zAW x_n ad s.heap.size) s.heap H locs → lv_has ls 2 [(0, .ref (ad 5)), (1, .int x1)] → W p l e (rmq_fact 1 d) s m args below meth c H locs 0 0 (MQ below (zQi (dC, dI) (x_ty cI cJ) (x_W ad cI cJ) (zAW x_n ad s.heap.size) Q) args s 0 0 (zAW x_n ad s.heap.size)) (F0 m 11 ls []) := by
  obtain ⟨hx, hb, hml, hr, hown, hts, hlocks⟩ := id C0
  intro x1 σ H locs ls h hP hD hS hl
  unfold b_X5_readBoth_11 at h
  refine lv_iload_n hx hb dX5_readBoth_11 rfl (lv_at hl 1 rfl) ?_
  refine lv_sipush (v := (800 : Int32)) hx hb dX5_readBoth_12 (by decide) ?_
  refine lv_icmp_ge (tgt := 56) hx hb dX5_readBoth_15 (by decide) (fun hc => ?_) (fun hc => ?_)
  · have h := h.1 hc
    refine lv_iconst (v := (1 : Int32)) hx hb dX5_readBoth_56 (by decide) ?_
    exact zret_z hx hb hr hlocks hK hP hD hS zb_1 h dX5_readBoth_57
  · have h := h.2 hc
    refine lv_aload_n hx hb dX5_readBoth_18 rfl (lv_at hl 0 rfl) ?_
    refine xg_5_13 hx hb hts hown hK hP mw_191 dX5_readBoth_19 ?_
    refine lv_bipush (v := (8 : Int32)) hx hb dX5_readBoth_22 (by decide) ?_
    refine lv_icmp_ne (tgt := 56) hx hb dX5_readBoth_24 (by decide) (fun hc => ?_) (fun hc => ?_)
    · have h := h.2 hc
      refine lv_iconst (v := (1 : Int32)) hx hb dX5_readBoth_56 (by decide) ?_
      exact zret_z hx hb hr hlocks hK hP hD hS zb_1 h dX5_readBoth_57
    · have h := h.1 hc
      refine lv_aload_n hx hb dX5_readBoth_27 rfl (lv_at hl 0 rfl) ?_
      refine k_X5_take N ⟨hx, hb, hml, hown, hts⟩ mw_363 ⟨by dsimp only [rm_X5_take, rmq_sum, rmq_fact]; omega, by dsimp only [rm_X5_take, rmq_sum, rmq_fact]; omega⟩ h hK hP hD hS hl.1 (rest := []) (Nat.le_of_ble_eq_true rfl) dX5_readBoth_28 (fun r1 τ2 H locs h hP hD hS => ?_)
      refine lv_pop hx hb dX5_readBoth_31 rfl ?_
      refine lv_aload_n hx hb dX5_readBoth_32 rfl (lv_at hl 0 rfl) ?_
      refine zcv_i [] ⟨hx, hb, hml, hown, hts⟩ (hSm H.size τ2 _ h) (cw_X5_readFact hts mw_425 ⟨by dsimp only [rmq_sum, rmq_fact]; omega, by dsimp only [rmq_sum, rmq_fact]; omega⟩) rfl rfl hK hP hD hS rfl hl.1 (Nat.le_of_ble_eq_true rfl) (rest := []) rfl dX5_readBoth_33 (fun r3 τ4 H locs h hP hD hS => ?_)
      refine lv_if_ne (tgt := 41) hx hb dX5_readBoth_36 (by decide) (fun hc => ?_) (fun hc => ?_)
      · have h := h.2 hc
        refine lv_aload_n hx hb dX5_readBoth_41 rfl (lv_at hl 0 rfl) ?_
        refine xg_5_2 hx hb hts hown hK hP mw_176 dX5_readBoth_42 ?_
        refine lv_bipush (v := (9 : Int32)) hx hb dX5_readBoth_45 (by decide) ?_
        refine k_X6_emit N ⟨hx, hb, hml, hown, hts⟩ mw_403 ⟨by dsimp only [rm_X6_emit, rmq_sum, rmq_fact]; omega, by dsimp only [rm_X6_emit, rmq_sum, rmq_fact]; omega⟩ h hK hP hD hS hl.1 (rest := []) (Nat.le_of_ble_eq_true rfl) dX5_readBoth_47 (fun τ6 H locs h hP hD hS => ?_)
        obtain ⟨v7, ev7⟩ : ∃ z : Int32, z = x1 + (1 : Int32) := ⟨_, rfl⟩
        have h := h v7 ev7
        refine lv_iinc (v := v7) (lv' := [(1, .int v7), (0, .ref (ad 5))]) hx hb dX5_readBoth_50 hl (k := 1) rfl (by rw [ev7]; rfl) (by decide) rfl (fun ls hl => ?_)
        refine lv_goto (tgt := 11) hx hb dX5_readBoth_53 (by decide) ?_
        exact hk_11 v7 τ6 _ _ _ h hP hD hS (lv_sub hl [1, 0] rfl)
      · have h := h.1 hc
        refine lv_iconst (v := (0 : Int32)) hx hb dX5_readBoth_39 (by decide) ?_
        exact zret_z hx hb hr hlocks hK hP hD hS zb_0 h dX5_readBoth_40
set_option maxHeartbeats 4000000 in
set_option maxRecDepth 100000 in
theorem t_X5_readBoth_11 (C0 : zCx p s m meth c args RX5 cX5_readBoth 2 (some .boolean) vs_X5_readBoth) (hK : va_K (dC, dI) vwCl (x_ty cI cJ) s) (N : Nat) {d : Nat} {S : zSt → (Int32 → zSt → Prop) → Prop} (hSm : ∀ (sz : Nat) (σ : zSt) (Q : Int32 → zSt → Prop), S σ Q → Met l yX5_readFact vs_X5_readFact (rmq_fact 0 d) (va_Pc [.ref (ad 5)] (zPc (dC, dI) (x_ty cI cJ) (x_W ad cI cJ) sz σ)) (zQi (dC, dI) (x_ty cI cJ) (x_W ad cI cJ) (zAW x_n ad sz) Q) 0 0 (zAW x_n ad sz)) {Q : Int32 → zSt → Prop} : ∀ (f : Nat) (x1 : Int32) (σ : zSt) (H : Heap) (locs : List Loc) (ls : Array Slot), w_X5_readBoth_11 N S  Q f x1 σ → va_P (dC, dI) vwCl (x_W ad cI cJ σ) H → va_D (zAW x_n ad s.heap.size) (x_W ad cI cJ σ) → va_S (zAW x_n ad s.heap.size) s.heap H locs → lv_has ls 2 [(0, .ref (ad 5)), (1, .int x1)] → W p l e (rmq_fact 1 d) s m args below meth c H locs 0 0 (MQ below (zQi (dC, dI) (x_ty cI cJ) (x_W ad cI cJ) (zAW x_n ad s.heap.size) Q) args s 0 0 (zAW x_n ad s.heap.size)) (F0 m 11 ls []) := by
  intro f
  induction f with
  | zero => intro x1 σ H locs ls h; exact h.elim
  | succ f ih =>
    intro x1 σ H locs ls h hP hD hS hl
    exact tb_X5_readBoth_11 C0 hK N hSm  (k_11 := w_X5_readBoth_11 N S  Q f) ih x1 σ H locs ls h hP hD hS hl
set_option maxHeartbeats 4000000 in
set_option maxRecDepth 100000 in
theorem t_X5_readBoth_0 (C0 : zCx p s m meth c args RX5 cX5_readBoth 2 (some .boolean) vs_X5_readBoth) (hK : va_K (dC, dI) vwCl (x_ty cI cJ) s) (N : Nat) {d : Nat} {S : zSt → (Int32 → zSt → Prop) → Prop} (hSm : ∀ (sz : Nat) (σ : zSt) (Q : Int32 → zSt → Prop), S σ Q → Met l yX5_readFact vs_X5_readFact (rmq_fact 0 d) (va_Pc [.ref (ad 5)] (zPc (dC, dI) (x_ty cI cJ) (x_W ad cI cJ) sz σ)) (zQi (dC, dI) (x_ty cI cJ) (x_W ad cI cJ) (zAW x_n ad sz) Q) 0 0 (zAW x_n ad sz)) {Q : Int32 → zSt → Prop} : ∀  (σ : zSt) (H : Heap) (locs : List Loc) (ls : Array Slot), w_X5_readBoth N S  σ Q → va_P (dC, dI) vwCl (x_W ad cI cJ σ) H → va_D (zAW x_n ad s.heap.size) (x_W ad cI cJ σ) → va_S (zAW x_n ad s.heap.size) s.heap H locs → lv_has ls 2 [(0, .ref (ad 5))] → W p l e (rmq_fact 1 d) s m args below meth c H locs 0 0 (MQ below (zQi (dC, dI) (x_ty cI cJ) (x_W ad cI cJ) (zAW x_n ad s.heap.size) Q) args s 0 0 (zAW x_n ad s.heap.size)) (F0 m 0 ls []) := by
  obtain ⟨hx, hb, hml, hr, hown, hts, hlocks⟩ := id C0
  intro  σ H locs ls h hP hD hS hl
  unfold w_X5_readBoth at h
  refine lv_aload_n hx hb dX5_readBoth_0 rfl (lv_at hl 0 rfl) ?_
  refine zcv_i [] ⟨hx, hb, hml, hown, hts⟩ (hSm H.size σ _ h) (cw_X5_readFact hts mw_425 ⟨by dsimp only [rmq_sum, rmq_fact]; omega, by dsimp only [rmq_sum, rmq_fact]; omega⟩) rfl rfl hK hP hD hS rfl hl.1 (Nat.le_of_ble_eq_true rfl) (rest := []) rfl dX5_readBoth_1 (fun r1 τ2 H locs h hP hD hS => ?_)
  refine lv_if_ne (tgt := 9) hx hb dX5_readBoth_4 (by decide) (fun hc => ?_) (fun hc => ?_)
  · have h := h.2 hc
    refine lv_iconst (v := (0 : Int32)) hx hb dX5_readBoth_9 (by decide) ?_
    refine lv_istore_n (lv' := [(1, .int (0 : Int32)), (0, .ref (ad 5))]) hx hb dX5_readBoth_10 rfl hl (by decide) rfl (fun ls hl => ?_)
    exact t_X5_readBoth_11 C0 hK N hSm  N (0 : Int32) τ2 _ _ _ h hP hD hS (lv_sub hl [1, 0] rfl)
  · have h := h.1 hc
    refine lv_iconst (v := (0 : Int32)) hx hb dX5_readBoth_7 (by decide) ?_
    exact zret_z hx hb hr hlocks hK hP hD hS zb_0 h dX5_readBoth_8
set_option maxHeartbeats 4000000 in
set_option maxRecDepth 100000 in
theorem c_X5_readBoth (N : Nat) (l : Launch) (dC : Nat → ClassId) (dI : Nat → Nat → Nat) (ad : Nat → Nat) (cI cJ : ClassId) {d : Nat} {S : zSt → (Int32 → zSt → Prop) → Prop} (hSm : ∀ (sz : Nat) (σ : zSt) (Q : Int32 → zSt → Prop), S σ Q → Met l yX5_readFact vs_X5_readFact (rmq_fact 0 d) (va_Pc [.ref (ad 5)] (zPc (dC, dI) (x_ty cI cJ) (x_W ad cI cJ) sz σ)) (zQi (dC, dI) (x_ty cI cJ) (x_W ad cI cJ) (zAW x_n ad sz) Q) 0 0 (zAW x_n ad sz)) (sz : Nat) (σ : zSt)  (Q : Int32 → zSt → Prop) (h : w_X5_readBoth N S  σ Q) : Met l yX5_readBoth vs_X5_readBoth (rmq_fact 1 d) (va_Pc [.ref (ad 5)] (zPc (dC, dI) (x_ty cI cJ) (x_W ad cI cJ) sz σ)) (zQi (dC, dI) (x_ty cI cJ) (x_W ad cI cJ) (zAW x_n ad sz) Q) 0 0 (zAW x_n ad sz) := by
  refine Met.ofW (cc := cX5_readBoth) (maxL := 2) (ret := (some .boolean)) (by decide) rfl ?_
  intro p e s m args below meth c s₁ B hml hv
  obtain ⟨rfl, hsz, hP, hK, hD0⟩ := hv
  subst hsz
  have C0 : zCx p s m meth c _ RX5 cX5_readBoth 2 (some .boolean) vs_X5_readBoth := ⟨B.exec, B.bytes, hml, B.returns, findClass_of_methodNamed B.named, atoms_spec (ws := vs_X5_readBoth) B.pre, B.notSynchronized⟩
  have hD := x_D0 (n0 := s.heap.size) hD0
  have hl := lv_entry ([.ref (ad 5)]) (n := 2) (Nat.le_of_ble_eq_true rfl)
  rw [lg_entry_eq]
  generalize (lg_sl ([.ref (ad 5)]) ++ List.replicate (2 - (lg_sl ([.ref (ad 5)])).length) Slot.unset).toArray = ls at hl ⊢
  exact t_X5_readBoth_0 C0 hK N hSm  σ _ _ ls h hP hD va_S.rf hl
theorem k_X5_readBoth (N : Nat) {d : Nat} {S : zSt → (Int32 → zSt → Prop) → Prop} (hSm : ∀ (sz : Nat) (σ : zSt) (Q : Int32 → zSt → Prop), S σ Q → Met l yX5_readFact vs_X5_readFact (rmq_fact 0 d) (va_Pc [.ref (ad 5)] (zPc (dC, dI) (x_ty cI cJ) (x_W ad cI cJ) sz σ)) (zQi (dC, dI) (x_ty cI cJ) (x_W ad cI cJ) (zAW x_n ad sz) Q) 0 0 (zAW x_n ad sz)) {R : Room} {H : Heap} {locs : List Loc} {Q2 : State → Prop} {cc : ByteArray} {nL pc index : Nat} {ls : Array Slot} {rest : List Value} {own : String} {c0 : Cond} {σ : zSt}  {Q : Int32 → zSt → Prop} (S0 : CallFix p m c cc nL s args (c0 :: zT) own) (hml : Cond.methodLink own index yX5_readBoth ∈ zT) (hR : (rmq_fact 1 d).frames + 1 ≤ R.frames ∧ 8 + (2 + 11) + (rmq_fact 1 d).locals ≤ R.locals) (h : w_X5_readBoth N S  σ Q) (hK : va_K (dC, dI) vwCl (x_ty cI cJ) s) (hP : va_P (dC, dI) vwCl (x_W ad cI cJ σ) H) (hD : va_D (zAW x_n ad s.heap.size) (x_W ad cI cJ σ)) (hS : va_S (zAW x_n ad s.heap.size) s.heap H locs) (hsz : ls.size = nL) (hW : (rest.map fun v => v.category).sum ≤ 8) (hdg : decode cc pc = .ok (.invokevirtual index, 3)) (kk : ∀ (r : Int32) (τ : zSt) (H1 : Heap) (locs1 : List Loc), Q r τ → va_P (dC, dI) vwCl (x_W ad cI cJ τ) H1 → va_D (zAW x_n ad s.heap.size) (x_W ad cI cJ τ) → va_S (zAW x_n ad s.heap.size) s.heap H1 locs1 → W p l e R s m args below meth c H1 locs1 0 0 Q2 (F0 m (pc + 3) ls (.int r :: rest))) : W p l e R s m args below meth c H locs 0 0 Q2 (F0 m pc ls (.ref (ad 5) :: rest)) :=
  zcv_i (T := TX5) (N' := 14) (k := 5) (ci := 5) (fs := x_f5 ad σ) [] S0 (c_X5_readBoth N l dC dI ad cI cJ hSm H.size σ  Q h) (cw_X5_readBoth S0.2.2.2.2 hml rfl rfl hR) rfl rfl hK hP hD hS rfl hsz hW rfl hdg kk
end q02
section q02
def vs_X5_readTest : List Cond := .code yX5_readTest cX5_readTest 2 (some .boolean) :: zT
theorem cw_X5_readTest {rm R : Room} {s : State} {args : Array Value} {own : String} {index : Nat} {c0 : Cond} (hts : ∀ w ∈ c0 :: zT, w.before args s = true) (hml : Cond.methodLink own index yX5_readTest ∈ zT) (hrc : rm.cells = 0) (hrs : rm.slots = 0) (hR : rm.frames + 1 ≤ R.frames ∧ 8 + (2 + 11) + rm.locals ≤ R.locals) : CallW R s args own RX5 index yX5_readTest cX5_readTest 2 (some .boolean) vs_X5_readTest rm 0 0 0 :=
  zwV 0 hts hml mw_420 mw_1333 mw_6 mw_421 hrc hrs (by decide +kernel) hR
def b_X5_readTest_11 (N : Nat) (S : zSt → (Int32 → zSt → Prop) → Prop) (k_11 : Int32 → zSt → Prop) (Q : Int32 → zSt → Prop) (x1 : Int32) (σ : zSt) : Prop :=
  ((800 : Int32) ≤ x1 → Q (1 : Int32) σ) ∧ (¬ (800 : Int32) ≤ x1 → ((σ.1 16) = (7 : Int32) → w_X5_take N σ (fun r1 τ2 => w_X5_readBoth N S τ2 (fun r3 τ4 => (r3 = 0 → Q (0 : Int32) τ4) ∧ (¬ r3 = 0 → w_X6_emit N (10 : Int32) τ4 (fun τ6 => ∀ v7 : Int32, v7 = x1 + (1 : Int32) → k_11 v7 τ6))))) ∧ (¬ (σ.1 16) = (7 : Int32) → Q (1 : Int32) σ))
def w_X5_readTest_11 (N : Nat) (S : zSt → (Int32 → zSt → Prop) → Prop) (Q : Int32 → zSt → Prop) : Nat → Int32 → zSt → Prop
  | 0 => fun _ _ => False
  | f + 1 => b_X5_readTest_11 N S (w_X5_readTest_11 N S  Q f) Q
def w_X5_readTest (N : Nat) (S : zSt → (Int32 → zSt → Prop) → Prop)  (σ : zSt) (Q : Int32 → zSt → Prop) : Prop :=
  w_X5_readBoth N S σ (fun r1 τ2 => (r1 = 0 → Q (0 : Int32) τ2) ∧ (¬ r1 = 0 → w_X5_readTest_11 N S Q N (0 : Int32) τ2))
variable {p : Program} {l : Launch} {e : Env} {s : State} {m : MethodId} {args : Array Value} {below : List Frame} {meth : Method} {c : Code} {dC : Nat → ClassId} {dI : Nat → Nat → Nat} {ad : Nat → Nat} {cI cJ : ClassId}
set_option maxHeartbeats 4000000 in
set_option maxRecDepth 100000 in
theorem tb_X5_readTest_11 (C0 : zCx p s m meth c args RX5 cX5_readTest 2 (some .boolean) vs_X5_readTest) (hK : va_K (dC, dI) vwCl (x_ty cI cJ) s) (N : Nat) {d : Nat} {S : zSt → (Int32 → zSt → Prop) → Prop} (hSm : ∀ (sz : Nat) (σ : zSt) (Q : Int32 → zSt → Prop), S σ Q → Met l yX5_readFact vs_X5_readFact (rmq_fact 0 d) (va_Pc [.ref (ad 5)] (zPc (dC, dI) (x_ty cI cJ) (x_W ad cI cJ) sz σ)) (zQi (dC, dI) (x_ty cI cJ) (x_W ad cI cJ) (zAW x_n ad sz) Q) 0 0 (zAW x_n ad sz)) {Q : Int32 → zSt → Prop} {k_11 : Int32 → zSt → Prop} (hk_11 : ∀ (x1 : Int32) (σ : zSt) (H : Heap) (locs : List Loc) (ls : Array Slot), k_11 x1 σ → va_P (dC, dI) vwCl (x_W ad cI cJ σ) H → va_D (zAW x_n ad s.heap.size) (x_W ad cI cJ σ) → va_S (zAW x_n ad s.heap.size) s.heap H locs → lv_has ls 2 [(0, .ref (ad 5)), (1, .int x1)] → W p l e (rmq_fact 2 d) s m args below meth c H locs 0 0 (MQ below (zQi (dC, dI) (x_ty cI cJ) (x_W ad cI cJ) (zAW x_n ad s.heap.size) Q) args s 0 0 (zAW x_n ad s.heap.size)) (F0 m 11 ls [])) : ∀ (x1 : Int32) (σ : zSt) (H : Heap) (locs : List Loc) (ls : Array Slot), b_X5_readTest_11 N S k_11 Q x1 σ → va_P (dC, dI) vwCl (x_W ad cI cJ σ) H → va_D (zAW x_n ad s.heap.size) (x_W ad cI cJ σ) → va_S (zAW x_n ad s.heap.size) s.heap H locs → lv_has ls 2 [(0, .ref (ad 5)), (1, .int x1)] → W p l e (rmq_fact 2 d) s m args below meth c H locs 0 0 (MQ below (zQi (dC, dI) (x_ty cI cJ) (x_W ad cI cJ) (zAW x_n ad s.heap.size) Q) args s 0 0 (zAW x_n ad s.heap.size)) (F0 m 11 ls []) := by
  obtain ⟨hx, hb, hml, hr, hown, hts, hlocks⟩ := id C0
  intro x1 σ H locs ls h hP hD hS hl
  unfold b_X5_readTest_11 at h
  refine lv_iload_n hx hb dX5_readTest_11 rfl (lv_at hl 1 rfl) ?_
  refine lv_sipush (v := (800 : Int32)) hx hb dX5_readTest_12 (by decide) ?_
  refine lv_icmp_ge (tgt := 56) hx hb dX5_readTest_15 (by decide) (fun hc => ?_) (fun hc => ?_)
  · have h := h.1 hc
    refine lv_iconst (v := (1 : Int32)) hx hb dX5_readTest_56 (by decide) ?_
    exact zret_z hx hb hr hlocks hK hP hD hS zb_1 h dX5_readTest_57
  · have h := h.2 hc
    refine lv_aload_n hx hb dX5_readTest_18 rfl (lv_at hl 0 rfl) ?_
    refine xg_5_13 hx hb hts hown hK hP mw_191 dX5_readTest_19 ?_
    refine lv_bipush (v := (7 : Int32)) hx hb dX5_readTest_22 (by decide) ?_
    refine lv_icmp_ne (tgt := 56) hx hb dX5_readTest_24 (by decide) (fun hc => ?_) (fun hc => ?_)
    · have h := h.2 hc
      refine lv_iconst (v := (1 : Int32)) hx hb dX5_readTest_56 (by decide) ?_
      exact zret_z hx hb hr hlocks hK hP hD hS zb_1 h dX5_readTest_57
    · have h := h.1 hc
      refine lv_aload_n hx hb dX5_readTest_27 rfl (lv_at hl 0 rfl) ?_
      refine k_X5_take N ⟨hx, hb, hml, hown, hts⟩ mw_363 ⟨by dsimp only [rm_X5_take, rmq_sum, rmq_fact]; omega, by dsimp only [rm_X5_take, rmq_sum, rmq_fact]; omega⟩ h hK hP hD hS hl.1 (rest := []) (Nat.le_of_ble_eq_true rfl) dX5_readTest_28 (fun r1 τ2 H locs h hP hD hS => ?_)
      refine lv_pop hx hb dX5_readTest_31 rfl ?_
      refine lv_aload_n hx hb dX5_readTest_32 rfl (lv_at hl 0 rfl) ?_
      refine k_X5_readBoth N hSm ⟨hx, hb, hml, hown, hts⟩ mw_422 ⟨by dsimp only [rmq_sum, rmq_fact]; omega, by dsimp only [rmq_sum, rmq_fact]; omega⟩ h hK hP hD hS hl.1 (rest := []) (Nat.le_of_ble_eq_true rfl) dX5_readTest_33 (fun r3 τ4 H locs h hP hD hS => ?_)
      refine lv_if_ne (tgt := 41) hx hb dX5_readTest_36 (by decide) (fun hc => ?_) (fun hc => ?_)
      · have h := h.2 hc
        refine lv_aload_n hx hb dX5_readTest_41 rfl (lv_at hl 0 rfl) ?_
        refine xg_5_2 hx hb hts hown hK hP mw_176 dX5_readTest_42 ?_
        refine lv_bipush (v := (10 : Int32)) hx hb dX5_readTest_45 (by decide) ?_
        refine k_X6_emit N ⟨hx, hb, hml, hown, hts⟩ mw_403 ⟨by dsimp only [rm_X6_emit, rmq_sum, rmq_fact]; omega, by dsimp only [rm_X6_emit, rmq_sum, rmq_fact]; omega⟩ h hK hP hD hS hl.1 (rest := []) (Nat.le_of_ble_eq_true rfl) dX5_readTest_47 (fun τ6 H locs h hP hD hS => ?_)
        obtain ⟨v7, ev7⟩ : ∃ z : Int32, z = x1 + (1 : Int32) := ⟨_, rfl⟩
        have h := h v7 ev7
        refine lv_iinc (v := v7) (lv' := [(1, .int v7), (0, .ref (ad 5))]) hx hb dX5_readTest_50 hl (k := 1) rfl (by rw [ev7]; rfl) (by decide) rfl (fun ls hl => ?_)
        refine lv_goto (tgt := 11) hx hb dX5_readTest_53 (by decide) ?_
        exact hk_11 v7 τ6 _ _ _ h hP hD hS (lv_sub hl [1, 0] rfl)
      · have h := h.1 hc
        refine lv_iconst (v := (0 : Int32)) hx hb dX5_readTest_39 (by decide) ?_
        exact zret_z hx hb hr hlocks hK hP hD hS zb_0 h dX5_readTest_40
set_option maxHeartbeats 4000000 in
set_option maxRecDepth 100000 in
theorem t_X5_readTest_11 (C0 : zCx p s m meth c args RX5 cX5_readTest 2 (some .boolean) vs_X5_readTest) (hK : va_K (dC, dI) vwCl (x_ty cI cJ) s) (N : Nat) {d : Nat} {S : zSt → (Int32 → zSt → Prop) → Prop} (hSm : ∀ (sz : Nat) (σ : zSt) (Q : Int32 → zSt → Prop), S σ Q → Met l yX5_readFact vs_X5_readFact (rmq_fact 0 d) (va_Pc [.ref (ad 5)] (zPc (dC, dI) (x_ty cI cJ) (x_W ad cI cJ) sz σ)) (zQi (dC, dI) (x_ty cI cJ) (x_W ad cI cJ) (zAW x_n ad sz) Q) 0 0 (zAW x_n ad sz)) {Q : Int32 → zSt → Prop} : ∀ (f : Nat) (x1 : Int32) (σ : zSt) (H : Heap) (locs : List Loc) (ls : Array Slot), w_X5_readTest_11 N S  Q f x1 σ → va_P (dC, dI) vwCl (x_W ad cI cJ σ) H → va_D (zAW x_n ad s.heap.size) (x_W ad cI cJ σ) → va_S (zAW x_n ad s.heap.size) s.heap H locs → lv_has ls 2 [(0, .ref (ad 5)), (1, .int x1)] → W p l e (rmq_fact 2 d) s m args below meth c H locs 0 0 (MQ below (zQi (dC, dI) (x_ty cI cJ) (x_W ad cI cJ) (zAW x_n ad s.heap.size) Q) args s 0 0 (zAW x_n ad s.heap.size)) (F0 m 11 ls []) := by
  intro f
  induction f with
  | zero => intro x1 σ H locs ls h; exact h.elim
  | succ f ih =>
    intro x1 σ H locs ls h hP hD hS hl
    exact tb_X5_readTest_11 C0 hK N hSm  (k_11 := w_X5_readTest_11 N S  Q f) ih x1 σ H locs ls h hP hD hS hl
set_option maxHeartbeats 4000000 in
set_option maxRecDepth 100000 in
theorem t_X5_readTest_0 (C0 : zCx p s m meth c args RX5 cX5_readTest 2 (some .boolean) vs_X5_readTest) (hK : va_K (dC, dI) vwCl (x_ty cI cJ) s) (N : Nat) {d : Nat} {S : zSt → (Int32 → zSt → Prop) → Prop} (hSm : ∀ (sz : Nat) (σ : zSt) (Q : Int32 → zSt → Prop), S σ Q → Met l yX5_readFact vs_X5_readFact (rmq_fact 0 d) (va_Pc [.ref (ad 5)] (zPc (dC, dI) (x_ty cI cJ) (x_W ad cI cJ) sz σ)) (zQi (dC, dI) (x_ty cI cJ) (x_W ad cI cJ) (zAW x_n ad sz) Q) 0 0 (zAW x_n ad sz)) {Q : Int32 → zSt → Prop} : ∀  (σ : zSt) (H : Heap) (locs : List Loc) (ls : Array Slot), w_X5_readTest N S  σ Q → va_P (dC, dI) vwCl (x_W ad cI cJ σ) H → va_D (zAW x_n ad s.heap.size) (x_W ad cI cJ σ) → va_S (zAW x_n ad s.heap.size) s.heap H locs → lv_has ls 2 [(0, .ref (ad 5))] → W p l e (rmq_fact 2 d) s m args below meth c H locs 0 0 (MQ below (zQi (dC, dI) (x_ty cI cJ) (x_W ad cI cJ) (zAW x_n ad s.heap.size) Q) args s 0 0 (zAW x_n ad s.heap.size)) (F0 m 0 ls []) := by
  obtain ⟨hx, hb, hml, hr, hown, hts, hlocks⟩ := id C0
  intro  σ H locs ls h hP hD hS hl
  unfold w_X5_readTest at h
  refine lv_aload_n hx hb dX5_readTest_0 rfl (lv_at hl 0 rfl) ?_
  refine k_X5_readBoth N hSm ⟨hx, hb, hml, hown, hts⟩ mw_422 ⟨by dsimp only [rmq_sum, rmq_fact]; omega, by dsimp only [rmq_sum, rmq_fact]; omega⟩ h hK hP hD hS hl.1 (rest := []) (Nat.le_of_ble_eq_true rfl) dX5_readTest_1 (fun r1 τ2 H locs h hP hD hS => ?_)
  refine lv_if_ne (tgt := 9) hx hb dX5_readTest_4 (by decide) (fun hc => ?_) (fun hc => ?_)
  · have h := h.2 hc
    refine lv_iconst (v := (0 : Int32)) hx hb dX5_readTest_9 (by decide) ?_
    refine lv_istore_n (lv' := [(1, .int (0 : Int32)), (0, .ref (ad 5))]) hx hb dX5_readTest_10 rfl hl (by decide) rfl (fun ls hl => ?_)
    exact t_X5_readTest_11 C0 hK N hSm  N (0 : Int32) τ2 _ _ _ h hP hD hS (lv_sub hl [1, 0] rfl)
  · have h := h.1 hc
    refine lv_iconst (v := (0 : Int32)) hx hb dX5_readTest_7 (by decide) ?_
    exact zret_z hx hb hr hlocks hK hP hD hS zb_0 h dX5_readTest_8
set_option maxHeartbeats 4000000 in
set_option maxRecDepth 100000 in
theorem c_X5_readTest (N : Nat) (l : Launch) (dC : Nat → ClassId) (dI : Nat → Nat → Nat) (ad : Nat → Nat) (cI cJ : ClassId) {d : Nat} {S : zSt → (Int32 → zSt → Prop) → Prop} (hSm : ∀ (sz : Nat) (σ : zSt) (Q : Int32 → zSt → Prop), S σ Q → Met l yX5_readFact vs_X5_readFact (rmq_fact 0 d) (va_Pc [.ref (ad 5)] (zPc (dC, dI) (x_ty cI cJ) (x_W ad cI cJ) sz σ)) (zQi (dC, dI) (x_ty cI cJ) (x_W ad cI cJ) (zAW x_n ad sz) Q) 0 0 (zAW x_n ad sz)) (sz : Nat) (σ : zSt)  (Q : Int32 → zSt → Prop) (h : w_X5_readTest N S  σ Q) : Met l yX5_readTest vs_X5_readTest (rmq_fact 2 d) (va_Pc [.ref (ad 5)] (zPc (dC, dI) (x_ty cI cJ) (x_W ad cI cJ) sz σ)) (zQi (dC, dI) (x_ty cI cJ) (x_W ad cI cJ) (zAW x_n ad sz) Q) 0 0 (zAW x_n ad sz) := by
  refine Met.ofW (cc := cX5_readTest) (maxL := 2) (ret := (some .boolean)) (by decide) rfl ?_
  intro p e s m args below meth c s₁ B hml hv
  obtain ⟨rfl, hsz, hP, hK, hD0⟩ := hv
  subst hsz
  have C0 : zCx p s m meth c _ RX5 cX5_readTest 2 (some .boolean) vs_X5_readTest := ⟨B.exec, B.bytes, hml, B.returns, findClass_of_methodNamed B.named, atoms_spec (ws := vs_X5_readTest) B.pre, B.notSynchronized⟩
  have hD := x_D0 (n0 := s.heap.size) hD0
  have hl := lv_entry ([.ref (ad 5)]) (n := 2) (Nat.le_of_ble_eq_true rfl)
  rw [lg_entry_eq]
  generalize (lg_sl ([.ref (ad 5)]) ++ List.replicate (2 - (lg_sl ([.ref (ad 5)])).length) Slot.unset).toArray = ls at hl ⊢
  exact t_X5_readTest_0 C0 hK N hSm  σ _ _ ls h hP hD va_S.rf hl
theorem k_X5_readTest (N : Nat) {d : Nat} {S : zSt → (Int32 → zSt → Prop) → Prop} (hSm : ∀ (sz : Nat) (σ : zSt) (Q : Int32 → zSt → Prop), S σ Q → Met l yX5_readFact vs_X5_readFact (rmq_fact 0 d) (va_Pc [.ref (ad 5)] (zPc (dC, dI) (x_ty cI cJ) (x_W ad cI cJ) sz σ)) (zQi (dC, dI) (x_ty cI cJ) (x_W ad cI cJ) (zAW x_n ad sz) Q) 0 0 (zAW x_n ad sz)) {R : Room} {H : Heap} {locs : List Loc} {Q2 : State → Prop} {cc : ByteArray} {nL pc index : Nat} {ls : Array Slot} {rest : List Value} {own : String} {c0 : Cond} {σ : zSt}  {Q : Int32 → zSt → Prop} (S0 : CallFix p m c cc nL s args (c0 :: zT) own) (hml : Cond.methodLink own index yX5_readTest ∈ zT) (hR : (rmq_fact 2 d).frames + 1 ≤ R.frames ∧ 8 + (2 + 11) + (rmq_fact 2 d).locals ≤ R.locals) (h : w_X5_readTest N S  σ Q) (hK : va_K (dC, dI) vwCl (x_ty cI cJ) s) (hP : va_P (dC, dI) vwCl (x_W ad cI cJ σ) H) (hD : va_D (zAW x_n ad s.heap.size) (x_W ad cI cJ σ)) (hS : va_S (zAW x_n ad s.heap.size) s.heap H locs) (hsz : ls.size = nL) (hW : (rest.map fun v => v.category).sum ≤ 8) (hdg : decode cc pc = .ok (.invokevirtual index, 3)) (kk : ∀ (r : Int32) (τ : zSt) (H1 : Heap) (locs1 : List Loc), Q r τ → va_P (dC, dI) vwCl (x_W ad cI cJ τ) H1 → va_D (zAW x_n ad s.heap.size) (x_W ad cI cJ τ) → va_S (zAW x_n ad s.heap.size) s.heap H1 locs1 → W p l e R s m args below meth c H1 locs1 0 0 Q2 (F0 m (pc + 3) ls (.int r :: rest))) : W p l e R s m args below meth c H locs 0 0 Q2 (F0 m pc ls (.ref (ad 5) :: rest)) :=
  zcv_i (T := TX5) (N' := 14) (k := 5) (ci := 5) (fs := x_f5 ad σ) [] S0 (c_X5_readTest N l dC dI ad cI cJ hSm H.size σ  Q h) (cw_X5_readTest S0.2.2.2.2 hml rfl rfl hR) rfl rfl hK hP hD hS rfl hsz hW rfl hdg kk
end q02
section q02
def vs_X6_add : List Cond := .code yX6_add cX6_add 4 none :: zT
def rm_X6_add : Room := { frames := 0, cells := 0, slots := 0, locals := 0 }
theorem cw_X6_add {rm R : Room} {s : State} {args : Array Value} {own : String} {index : Nat} {c0 : Cond} (hts : ∀ w ∈ c0 :: zT, w.before args s = true) (hml : Cond.methodLink own index yX6_add ∈ zT) (hrc : rm.cells = 0) (hrs : rm.slots = 0) (hR : rm.frames + 1 ≤ R.frames ∧ 8 + (4 + 11) + rm.locals ≤ R.locals) : CallW R s args own RX6 index yX6_add cX6_add 4 none vs_X6_add rm 0 0 3 :=
  zwV 3 hts hml mw_435 mw_436 mw_5 mw_437 hrc hrs (by decide +kernel) hR
def w_X6_add (N : Nat) (x1 : Int32) (x2 : Int32) (x3 : Int32) (σ : zSt) (Q : zSt → Prop) : Prop :=
  ((20 : Int32) ≤ (σ.1 20) → Q σ) ∧ (¬ (20 : Int32) ≤ (σ.1 20) → (vp_in (σ.1 20) 20) ∧ (∀ τ1 : zSt, τ1 = zA σ 18 (upd (σ.2.2.1 18) ((σ.1 20).toNatClampNeg) x1) → (vp_in (τ1.1 20) 20) ∧ (∀ τ2 : zSt, τ2 = zA τ1 19 (upd (τ1.2.2.1 19) ((τ1.1 20).toNatClampNeg) x2) → (vp_in (τ2.1 20) 20) ∧ (∀ τ3 : zSt, τ3 = zA τ2 20 (upd (τ2.2.2.1 20) ((τ2.1 20).toNatClampNeg) x3) → (vp_in (τ3.1 20) 20) ∧ (∀ τ4 : zSt, τ4 = zA τ3 21 (upd (τ3.2.2.1 21) ((τ3.1 20).toNatClampNeg) (τ3.1 21)) → ∀ τ5 : zSt, τ5 = zI τ4 20 ((τ4.1 20) + (1 : Int32)) → Q τ5)))))
variable {p : Program} {l : Launch} {e : Env} {s : State} {m : MethodId} {args : Array Value} {below : List Frame} {meth : Method} {c : Code} {dC : Nat → ClassId} {dI : Nat → Nat → Nat} {ad : Nat → Nat} {cI cJ : ClassId}
set_option maxHeartbeats 4000000 in
set_option maxRecDepth 100000 in
theorem t_X6_add_0 (C0 : zCx p s m meth c args RX6 cX6_add 4 none vs_X6_add) (hK : va_K (dC, dI) vwCl (x_ty cI cJ) s) (N : Nat) {Q : zSt → Prop} : ∀ (x1 : Int32) (x2 : Int32) (x3 : Int32) (σ : zSt) (H : Heap) (locs : List Loc) (ls : Array Slot), w_X6_add N x1 x2 x3 σ Q → va_P (dC, dI) vwCl (x_W ad cI cJ σ) H → va_D (zAW x_n ad s.heap.size) (x_W ad cI cJ σ) → va_S (zAW x_n ad s.heap.size) s.heap H locs → lv_has ls 4 [(0, .ref (ad 7)), (1, .int x1), (2, .int x2), (3, .int x3)] → W p l e rm_X6_add s m args below meth c H locs 0 0 (MQ below (zQv (dC, dI) (x_ty cI cJ) (x_W ad cI cJ) (zAW x_n ad s.heap.size) Q) args s 0 0 (zAW x_n ad s.heap.size)) (F0 m 0 ls []) := by
  obtain ⟨hx, hb, hml, hr, hown, hts, hlocks⟩ := id C0
  intro x1 x2 x3 σ H locs ls h hP hD hS hl
  unfold w_X6_add at h
  refine lv_aload_n hx hb dX6_add_0 rfl (lv_at hl 0 rfl) ?_
  refine xg_7_7 hx hb hts hown hK hP mw_100 dX6_add_1 ?_
  refine lv_bipush (v := (20 : Int32)) hx hb dX6_add_4 (by decide) ?_
  refine lv_icmp_ge (tgt := 62) hx hb dX6_add_6 (by decide) (fun hc => ?_) (fun hc => ?_)
  · have h := h.1 hc
    exact zret_v hx hb hr hlocks hK hP hD hS h dX6_add_62
  · have h := h.2 hc
    refine lv_aload_n hx hb dX6_add_9 rfl (lv_at hl 0 rfl) ?_
    refine xg_7_0 hx hb hts hown hK hP mw_92 dX6_add_10 ?_
    refine lv_aload_n hx hb dX6_add_13 rfl (lv_at hl 0 rfl) ?_
    refine xg_7_7 hx hb hts hown hK hP mw_100 dX6_add_14 ?_
    refine lv_iload_n hx hb dX6_add_17 rfl (lv_at hl 1 rfl) ?_
    refine xs_37 hx hb hK hP hD hS h.1 rfl dX6_add_18 (fun τ1 H locs eτ1 hP hD hS => ?_)
    have h := h.2
    have h := h τ1 eτ1
    refine lv_aload_n hx hb dX6_add_19 rfl (lv_at hl 0 rfl) ?_
    refine xg_7_1 hx hb hts hown hK hP mw_93 dX6_add_20 ?_
    refine lv_aload_n hx hb dX6_add_23 rfl (lv_at hl 0 rfl) ?_
    refine xg_7_7 hx hb hts hown hK hP mw_100 dX6_add_24 ?_
    refine lv_iload_n hx hb dX6_add_27 rfl (lv_at hl 2 rfl) ?_
    refine xs_38 hx hb hK hP hD hS h.1 rfl dX6_add_28 (fun τ2 H locs eτ2 hP hD hS => ?_)
    have h := h.2
    have h := h τ2 eτ2
    refine lv_aload_n hx hb dX6_add_29 rfl (lv_at hl 0 rfl) ?_
    refine xg_7_2 hx hb hts hown hK hP mw_94 dX6_add_30 ?_
    refine lv_aload_n hx hb dX6_add_33 rfl (lv_at hl 0 rfl) ?_
    refine xg_7_7 hx hb hts hown hK hP mw_100 dX6_add_34 ?_
    refine lv_iload_n hx hb dX6_add_37 rfl (lv_at hl 3 rfl) ?_
    refine xs_39 hx hb hK hP hD hS h.1 rfl dX6_add_38 (fun τ3 H locs eτ3 hP hD hS => ?_)
    have h := h.2
    have h := h τ3 eτ3
    refine lv_aload_n hx hb dX6_add_39 rfl (lv_at hl 0 rfl) ?_
    refine xg_7_3 hx hb hts hown hK hP mw_95 dX6_add_40 ?_
    refine lv_aload_n hx hb dX6_add_43 rfl (lv_at hl 0 rfl) ?_
    refine xg_7_7 hx hb hts hown hK hP mw_100 dX6_add_44 ?_
    refine lv_aload_n hx hb dX6_add_47 rfl (lv_at hl 0 rfl) ?_
    refine xg_7_8 hx hb hts hown hK hP mw_102 dX6_add_48 ?_
    refine xs_40 hx hb hK hP hD hS h.1 rfl dX6_add_51 (fun τ4 H locs eτ4 hP hD hS => ?_)
    have h := h.2
    have h := h τ4 eτ4
    refine lv_aload_n hx hb dX6_add_52 rfl (lv_at hl 0 rfl) ?_
    refine lv_dup hx hb dX6_add_53 rfl ?_
    refine xg_7_7 hx hb hts hown hK hP mw_100 dX6_add_54 ?_
    refine lv_iconst (v := (1 : Int32)) hx hb dX6_add_57 (by decide) ?_
    refine lv_iadd hx hb dX6_add_58 ?_
    refine xp_7_7 hx hb hts hown hK hP hD hS mw_100 dX6_add_59 (fun τ5 H locs eτ5 hP hD hS => ?_)
    have h := h τ5 eτ5
    exact zret_v hx hb hr hlocks hK hP hD hS h dX6_add_62
set_option maxHeartbeats 4000000 in
set_option maxRecDepth 100000 in
theorem c_X6_add (N : Nat) (l : Launch) (dC : Nat → ClassId) (dI : Nat → Nat → Nat) (ad : Nat → Nat) (cI cJ : ClassId) (sz : Nat) (σ : zSt) (x1 : Int32) (x2 : Int32) (x3 : Int32) (Q : zSt → Prop) (h : w_X6_add N x1 x2 x3 σ Q) : Met l yX6_add vs_X6_add rm_X6_add (va_Pc [.ref (ad 7), .int x1, .int x2, .int x3] (zPc (dC, dI) (x_ty cI cJ) (x_W ad cI cJ) sz σ)) (zQv (dC, dI) (x_ty cI cJ) (x_W ad cI cJ) (zAW x_n ad sz) Q) 0 0 (zAW x_n ad sz) := by
  refine Met.ofW (cc := cX6_add) (maxL := 4) (ret := none) (by decide) rfl ?_
  intro p e s m args below meth c s₁ B hml hv
  obtain ⟨rfl, hsz, hP, hK, hD0⟩ := hv
  subst hsz
  have C0 : zCx p s m meth c _ RX6 cX6_add 4 none vs_X6_add := ⟨B.exec, B.bytes, hml, B.returns, findClass_of_methodNamed B.named, atoms_spec (ws := vs_X6_add) B.pre, B.notSynchronized⟩
  have hD := x_D0 (n0 := s.heap.size) hD0
  have hl := lv_entry ([.ref (ad 7), .int x1, .int x2, .int x3]) (n := 4) (Nat.le_of_ble_eq_true rfl)
  rw [lg_entry_eq]
  generalize (lg_sl ([.ref (ad 7), .int x1, .int x2, .int x3]) ++ List.replicate (4 - (lg_sl ([.ref (ad 7), .int x1, .int x2, .int x3])).length) Slot.unset).toArray = ls at hl ⊢
  exact t_X6_add_0 C0 hK N x1 x2 x3 σ _ _ ls h hP hD va_S.rf hl
theorem k_X6_add (N : Nat) {R : Room} {H : Heap} {locs : List Loc} {Q2 : State → Prop} {cc : ByteArray} {nL pc index : Nat} {ls : Array Slot} {rest : List Value} {own : String} {c0 : Cond} {σ : zSt} {x1 : Int32} {x2 : Int32} {x3 : Int32} {Q : zSt → Prop} (S0 : CallFix p m c cc nL s args (c0 :: zT) own) (hml : Cond.methodLink own index yX6_add ∈ zT) (hR : rm_X6_add.frames + 1 ≤ R.frames ∧ 8 + (4 + 11) + rm_X6_add.locals ≤ R.locals) (h : w_X6_add N x1 x2 x3 σ Q) (hK : va_K (dC, dI) vwCl (x_ty cI cJ) s) (hP : va_P (dC, dI) vwCl (x_W ad cI cJ σ) H) (hD : va_D (zAW x_n ad s.heap.size) (x_W ad cI cJ σ)) (hS : va_S (zAW x_n ad s.heap.size) s.heap H locs) (hsz : ls.size = nL) (hW : (rest.map fun v => v.category).sum ≤ 8) (hdg : decode cc pc = .ok (.invokevirtual index, 3)) (kk : ∀ (τ : zSt) (H1 : Heap) (locs1 : List Loc), Q τ → va_P (dC, dI) vwCl (x_W ad cI cJ τ) H1 → va_D (zAW x_n ad s.heap.size) (x_W ad cI cJ τ) → va_S (zAW x_n ad s.heap.size) s.heap H1 locs1 → W p l e R s m args below meth c H1 locs1 0 0 Q2 (F0 m (pc + 3) ls (rest))) : W p l e R s m args below meth c H locs 0 0 Q2 (F0 m pc ls (.int x3 :: .int x2 :: .int x1 :: .ref (ad 7) :: rest)) :=
  zcv_v (T := TX6) (N' := 10) (k := 7) (ci := 6) (fs := x_f7 ad σ) [.int x1, .int x2, .int x3] S0 (c_X6_add N l dC dI ad cI cJ H.size σ x1 x2 x3 Q h) (cw_X6_add S0.2.2.2.2 hml rfl rfl hR) rfl rfl hK hP hD hS rfl hsz hW rfl hdg kk
end q02
section q02
def vs_X5_readRule : List Cond := .code yX5_readRule cX5_readRule 4 (some .boolean) :: zT
def rm_X5_readRule : Room := { frames := 100, cells := 0, slots := 0, locals := 3391 }
theorem cw_X5_readRule {rm R : Room} {s : State} {args : Array Value} {own : String} {index : Nat} {c0 : Cond} (hts : ∀ w ∈ c0 :: zT, w.before args s = true) (hml : Cond.methodLink own index yX5_readRule ∈ zT) (hrc : rm.cells = 0) (hrs : rm.slots = 0) (hR : rm.frames + 1 ≤ R.frames ∧ 8 + (4 + 11) + rm.locals ≤ R.locals) : CallW R s args own RX5 index yX5_readRule cX5_readRule 4 (some .boolean) vs_X5_readRule rm 0 0 1 :=
  zwV 1 hts hml mw_391 mw_1325 mw_6 mw_392 hrc hrs (by decide +kernel) hR
def w_X5_readRule (N : Nat) (x1 : Int32) (σ : zSt) (Q : Int32 → zSt → Prop) : Prop :=
  ((σ.1 20) < (20 : Int32) → w_X5_take N σ (fun r1 τ2 => ∀ v3 : Int32, v3 = τ2.1 21 → w_X5_readSum N 9 τ2 (fun r4 τ5 => (r4 = 0 → Q (0 : Int32) τ5) ∧ (¬ r4 = 0 → w_X5_takeWord N (3 : Int32) τ5 (fun r6 τ7 => (r6 = 0 → Q (0 : Int32) τ7) ∧ (¬ r6 = 0 → ∀ v8 : Int32, v8 = τ7.1 21 → w_X5_readTest N (w_X5_readFact N 9) τ7 (fun r9 τ10 => (r9 = 0 → Q (0 : Int32) τ10) ∧ (¬ r9 = 0 → w_X6_add N x1 v3 v8 τ10 (fun τ12 => Q (1 : Int32) τ12))))))))) ∧ (¬ (σ.1 20) < (20 : Int32) → w_X5_fail N (5 : Int32) (σ.1 13) σ (fun r13 τ14 => (zb r13) ∧ Q r13 τ14))
variable {p : Program} {l : Launch} {e : Env} {s : State} {m : MethodId} {args : Array Value} {below : List Frame} {meth : Method} {c : Code} {dC : Nat → ClassId} {dI : Nat → Nat → Nat} {ad : Nat → Nat} {cI cJ : ClassId}
set_option maxHeartbeats 4000000 in
set_option maxRecDepth 100000 in
theorem t_X5_readRule_0 (C0 : zCx p s m meth c args RX5 cX5_readRule 4 (some .boolean) vs_X5_readRule) (hK : va_K (dC, dI) vwCl (x_ty cI cJ) s) (N : Nat) {Q : Int32 → zSt → Prop} : ∀ (x1 : Int32) (σ : zSt) (H : Heap) (locs : List Loc) (ls : Array Slot), w_X5_readRule N x1 σ Q → va_P (dC, dI) vwCl (x_W ad cI cJ σ) H → va_D (zAW x_n ad s.heap.size) (x_W ad cI cJ σ) → va_S (zAW x_n ad s.heap.size) s.heap H locs → lv_has ls 4 [(0, .ref (ad 5)), (1, .int x1)] → W p l e rm_X5_readRule s m args below meth c H locs 0 0 (MQ below (zQi (dC, dI) (x_ty cI cJ) (x_W ad cI cJ) (zAW x_n ad s.heap.size) Q) args s 0 0 (zAW x_n ad s.heap.size)) (F0 m 0 ls []) := by
  obtain ⟨hx, hb, hml, hr, hown, hts, hlocks⟩ := id C0
  intro x1 σ H locs ls h hP hD hS hl
  unfold w_X5_readRule at h
  refine lv_aload_n hx hb dX5_readRule_0 rfl (lv_at hl 0 rfl) ?_
  refine xg_5_2 hx hb hts hown hK hP mw_176 dX5_readRule_1 ?_
  refine xg_7_7 hx hb hts hown hK hP mw_101 dX5_readRule_4 ?_
  refine lv_bipush (v := (20 : Int32)) hx hb dX5_readRule_7 (by decide) ?_
  refine lv_icmp_lt (tgt := 22) hx hb dX5_readRule_9 (by decide) (fun hc => ?_) (fun hc => ?_)
  · have h := h.1 hc
    refine lv_aload_n hx hb dX5_readRule_22 rfl (lv_at hl 0 rfl) ?_
    refine k_X5_take N ⟨hx, hb, hml, hown, hts⟩ mw_363 ⟨Nat.le_of_ble_eq_true rfl, Nat.le_of_ble_eq_true rfl⟩ h hK hP hD hS hl.1 (rest := []) (Nat.le_of_ble_eq_true rfl) dX5_readRule_23 (fun r1 τ2 H locs h hP hD hS => ?_)
    refine lv_pop hx hb dX5_readRule_26 rfl ?_
    refine lv_aload_n hx hb dX5_readRule_27 rfl (lv_at hl 0 rfl) ?_
    refine xg_5_2 hx hb hts hown hK hP mw_176 dX5_readRule_28 ?_
    refine xg_7_8 hx hb hts hown hK hP mw_103 dX5_readRule_31 ?_
    refine lv_topi (fun v3 ev3 => ?_)
    have h := h v3 ev3
    refine lv_istore_n (lv' := [(2, .int v3), (0, .ref (ad 5)), (1, .int x1)]) hx hb dX5_readRule_34 rfl hl (by decide) rfl (fun ls hl => ?_)
    refine lv_aload_n hx hb dX5_readRule_35 rfl (lv_at hl 1 rfl) ?_
    refine k_X5_readSum N (d := 9) ⟨hx, hb, hml, hown, hts⟩ mw_393 ⟨Nat.le_of_ble_eq_true rfl, Nat.le_of_ble_eq_true rfl⟩ h hK hP hD hS hl.1 (rest := []) (Nat.le_of_ble_eq_true rfl) dX5_readRule_36 (fun r4 τ5 H locs h hP hD hS => ?_)
    refine lv_if_eq (tgt := 50) hx hb dX5_readRule_39 (by decide) (fun hc => ?_) (fun hc => ?_)
    · have h := h.1 hc
      refine lv_iconst (v := (0 : Int32)) hx hb dX5_readRule_50 (by decide) ?_
      exact zret_z hx hb hr hlocks hK hP hD hS zb_0 h dX5_readRule_51
    · have h := h.2 hc
      refine lv_aload_n hx hb dX5_readRule_42 rfl (lv_at hl 1 rfl) ?_
      refine lv_iconst (v := (3 : Int32)) hx hb dX5_readRule_43 (by decide) ?_
      refine k_X5_takeWord N ⟨hx, hb, hml, hown, hts⟩ mw_379 ⟨Nat.le_of_ble_eq_true rfl, Nat.le_of_ble_eq_true rfl⟩ h hK hP hD hS hl.1 (rest := []) (Nat.le_of_ble_eq_true rfl) dX5_readRule_44 (fun r6 τ7 H locs h hP hD hS => ?_)
      refine lv_if_ne (tgt := 52) hx hb dX5_readRule_47 (by decide) (fun hc => ?_) (fun hc => ?_)
      · have h := h.2 hc
        refine lv_aload_n hx hb dX5_readRule_52 rfl (lv_at hl 1 rfl) ?_
        refine xg_5_2 hx hb hts hown hK hP mw_176 dX5_readRule_53 ?_
        refine xg_7_8 hx hb hts hown hK hP mw_103 dX5_readRule_56 ?_
        refine lv_topi (fun v8 ev8 => ?_)
        have h := h v8 ev8
        refine lv_istore_n (lv' := [(3, .int v8), (2, .int v3), (0, .ref (ad 5)), (1, .int x1)]) hx hb dX5_readRule_59 rfl hl (by decide) rfl (fun ls hl => ?_)
        refine lv_aload_n hx hb dX5_readRule_60 rfl (lv_at hl 2 rfl) ?_
        refine k_X5_readTest N (d := 9) (fun sz σ Q h => c_X5_readFact N l dC dI ad cI cJ 9 sz σ Q h) ⟨hx, hb, hml, hown, hts⟩ mw_419 ⟨Nat.le_of_ble_eq_true rfl, Nat.le_of_ble_eq_true rfl⟩ h hK hP hD hS hl.1 (rest := []) (Nat.le_of_ble_eq_true rfl) dX5_readRule_61 (fun r9 τ10 H locs h hP hD hS => ?_)
        refine lv_if_ne (tgt := 69) hx hb dX5_readRule_64 (by decide) (fun hc => ?_) (fun hc => ?_)
        · have h := h.2 hc
          refine lv_aload_n hx hb dX5_readRule_69 rfl (lv_at hl 2 rfl) ?_
          refine xg_5_2 hx hb hts hown hK hP mw_176 dX5_readRule_70 ?_
          refine lv_iload_n hx hb dX5_readRule_73 rfl (lv_at hl 3 rfl) ?_
          refine lv_iload_n hx hb dX5_readRule_74 rfl (lv_at hl 1 rfl) ?_
          refine lv_iload_n hx hb dX5_readRule_75 rfl (lv_at hl 0 rfl) ?_
          refine k_X6_add N ⟨hx, hb, hml, hown, hts⟩ mw_434 ⟨Nat.le_of_ble_eq_true rfl, Nat.le_of_ble_eq_true rfl⟩ h hK hP hD hS hl.1 (rest := []) (Nat.le_of_ble_eq_true rfl) dX5_readRule_76 (fun τ12 H locs h hP hD hS => ?_)
          refine lv_iconst (v := (1 : Int32)) hx hb dX5_readRule_79 (by decide) ?_
          exact zret_z hx hb hr hlocks hK hP hD hS zb_1 h dX5_readRule_80
        · have h := h.1 hc
          refine lv_iconst (v := (0 : Int32)) hx hb dX5_readRule_67 (by decide) ?_
          exact zret_z hx hb hr hlocks hK hP hD hS zb_0 h dX5_readRule_68
      · have h := h.1 hc
        refine lv_iconst (v := (0 : Int32)) hx hb dX5_readRule_50 (by decide) ?_
        exact zret_z hx hb hr hlocks hK hP hD hS zb_0 h dX5_readRule_51
  · have h := h.2 hc
    refine lv_aload_n hx hb dX5_readRule_12 rfl (lv_at hl 0 rfl) ?_
    refine lv_iconst (v := (5 : Int32)) hx hb dX5_readRule_13 (by decide) ?_
    refine lv_aload_n hx hb dX5_readRule_14 rfl (lv_at hl 0 rfl) ?_
    refine xg_5_10 hx hb hts hown hK hP mw_188 dX5_readRule_15 ?_
    refine k_X5_fail N ⟨hx, hb, hml, hown, hts⟩ mw_369 ⟨Nat.le_of_ble_eq_true rfl, Nat.le_of_ble_eq_true rfl⟩ h hK hP hD hS hl.1 (rest := []) (Nat.le_of_ble_eq_true rfl) dX5_readRule_18 (fun r13 τ14 H locs h hP hD hS => ?_)
    exact zret_z hx hb hr hlocks hK hP hD hS h.1 h.2 dX5_readRule_21
set_option maxHeartbeats 4000000 in
set_option maxRecDepth 100000 in
theorem c_X5_readRule (N : Nat) (l : Launch) (dC : Nat → ClassId) (dI : Nat → Nat → Nat) (ad : Nat → Nat) (cI cJ : ClassId) (sz : Nat) (σ : zSt) (x1 : Int32) (Q : Int32 → zSt → Prop) (h : w_X5_readRule N x1 σ Q) : Met l yX5_readRule vs_X5_readRule rm_X5_readRule (va_Pc [.ref (ad 5), .int x1] (zPc (dC, dI) (x_ty cI cJ) (x_W ad cI cJ) sz σ)) (zQi (dC, dI) (x_ty cI cJ) (x_W ad cI cJ) (zAW x_n ad sz) Q) 0 0 (zAW x_n ad sz) := by
  refine Met.ofW (cc := cX5_readRule) (maxL := 4) (ret := (some .boolean)) (by decide) rfl ?_
  intro p e s m args below meth c s₁ B hml hv
  obtain ⟨rfl, hsz, hP, hK, hD0⟩ := hv
  subst hsz
  have C0 : zCx p s m meth c _ RX5 cX5_readRule 4 (some .boolean) vs_X5_readRule := ⟨B.exec, B.bytes, hml, B.returns, findClass_of_methodNamed B.named, atoms_spec (ws := vs_X5_readRule) B.pre, B.notSynchronized⟩
  have hD := x_D0 (n0 := s.heap.size) hD0
  have hl := lv_entry ([.ref (ad 5), .int x1]) (n := 4) (Nat.le_of_ble_eq_true rfl)
  rw [lg_entry_eq]
  generalize (lg_sl ([.ref (ad 5), .int x1]) ++ List.replicate (4 - (lg_sl ([.ref (ad 5), .int x1])).length) Slot.unset).toArray = ls at hl ⊢
  exact t_X5_readRule_0 C0 hK N x1 σ _ _ ls h hP hD va_S.rf hl
theorem k_X5_readRule (N : Nat) {R : Room} {H : Heap} {locs : List Loc} {Q2 : State → Prop} {cc : ByteArray} {nL pc index : Nat} {ls : Array Slot} {rest : List Value} {own : String} {c0 : Cond} {σ : zSt} {x1 : Int32} {Q : Int32 → zSt → Prop} (S0 : CallFix p m c cc nL s args (c0 :: zT) own) (hml : Cond.methodLink own index yX5_readRule ∈ zT) (hR : rm_X5_readRule.frames + 1 ≤ R.frames ∧ 8 + (4 + 11) + rm_X5_readRule.locals ≤ R.locals) (h : w_X5_readRule N x1 σ Q) (hK : va_K (dC, dI) vwCl (x_ty cI cJ) s) (hP : va_P (dC, dI) vwCl (x_W ad cI cJ σ) H) (hD : va_D (zAW x_n ad s.heap.size) (x_W ad cI cJ σ)) (hS : va_S (zAW x_n ad s.heap.size) s.heap H locs) (hsz : ls.size = nL) (hW : (rest.map fun v => v.category).sum ≤ 8) (hdg : decode cc pc = .ok (.invokevirtual index, 3)) (kk : ∀ (r : Int32) (τ : zSt) (H1 : Heap) (locs1 : List Loc), Q r τ → va_P (dC, dI) vwCl (x_W ad cI cJ τ) H1 → va_D (zAW x_n ad s.heap.size) (x_W ad cI cJ τ) → va_S (zAW x_n ad s.heap.size) s.heap H1 locs1 → W p l e R s m args below meth c H1 locs1 0 0 Q2 (F0 m (pc + 3) ls (.int r :: rest))) : W p l e R s m args below meth c H locs 0 0 Q2 (F0 m pc ls (.int x1 :: .ref (ad 5) :: rest)) :=
  zcv_i (T := TX5) (N' := 14) (k := 5) (ci := 5) (fs := x_f5 ad σ) [.int x1] S0 (c_X5_readRule N l dC dI ad cI cJ H.size σ x1 Q h) (cw_X5_readRule S0.2.2.2.2 hml rfl rfl hR) rfl rfl hK hP hD hS rfl hsz hW rfl hdg kk
end q02
section q02
def vs_X5_seesPerson : List Cond := .code yX5_seesPerson cX5_seesPerson 3 (some .boolean) :: zT
def rm_X5_seesPerson : Room := { frames := 2, cells := 0, slots := 0, locals := 42 }
theorem cw_X5_seesPerson {rm R : Room} {s : State} {args : Array Value} {own : String} {index : Nat} {c0 : Cond} (hts : ∀ w ∈ c0 :: zT, w.before args s = true) (hml : Cond.methodLink own index yX5_seesPerson ∈ zT) (hrc : rm.cells = 0) (hrs : rm.slots = 0) (hR : rm.frames + 1 ≤ R.frames ∧ 8 + (3 + 11) + rm.locals ≤ R.locals) : CallW R s args own RX5 index yX5_seesPerson cX5_seesPerson 3 (some .boolean) vs_X5_seesPerson rm 0 0 1 :=
  zwV 1 hts hml mw_429 mw_1336 mw_6 mw_430 hrc hrs (by decide +kernel) hR
def b_X5_seesPerson_31 (N : Nat) (Q : Int32 → zSt → Prop)  (σ : zSt) : Prop :=
  w_X5_fail N (3 : Int32) (σ.1 13) σ (fun r1 τ2 => (r1 = 0 → Q (0 : Int32) τ2) ∧ (¬ r1 = 0 → Q (1 : Int32) τ2))
def w_X5_seesPerson (N : Nat) (x1 : Int32) (σ : zSt) (Q : Int32 → zSt → Prop) : Prop :=
  w_X5_seesName N σ (fun r1 τ2 => (r1 = 0 → Q (0 : Int32) τ2) ∧ (¬ r1 = 0 → w_X4_numberOf N (τ2.1 15) τ2 (fun r3 τ4 => (r3 = (-1 : Int32) → b_X5_seesPerson_31 N Q τ4) ∧ (¬ r3 = (-1 : Int32) → (r3 = x1 → b_X5_seesPerson_31 N Q τ4) ∧ (¬ r3 = x1 → Q (1 : Int32) τ4)))))
variable {p : Program} {l : Launch} {e : Env} {s : State} {m : MethodId} {args : Array Value} {below : List Frame} {meth : Method} {c : Code} {dC : Nat → ClassId} {dI : Nat → Nat → Nat} {ad : Nat → Nat} {cI cJ : ClassId}
set_option maxHeartbeats 4000000 in
set_option maxRecDepth 100000 in
theorem t_X5_seesPerson_31 (C0 : zCx p s m meth c args RX5 cX5_seesPerson 3 (some .boolean) vs_X5_seesPerson) (hK : va_K (dC, dI) vwCl (x_ty cI cJ) s) (N : Nat) {Q : Int32 → zSt → Prop} : ∀  (σ : zSt) (H : Heap) (locs : List Loc) (ls : Array Slot), b_X5_seesPerson_31 N  Q  σ → va_P (dC, dI) vwCl (x_W ad cI cJ σ) H → va_D (zAW x_n ad s.heap.size) (x_W ad cI cJ σ) → va_S (zAW x_n ad s.heap.size) s.heap H locs → lv_has ls 3 [(0, .ref (ad 5))] → W p l e rm_X5_seesPerson s m args below meth c H locs 0 0 (MQ below (zQi (dC, dI) (x_ty cI cJ) (x_W ad cI cJ) (zAW x_n ad s.heap.size) Q) args s 0 0 (zAW x_n ad s.heap.size)) (F0 m 31 ls []) := by
  obtain ⟨hx, hb, hml, hr, hown, hts, hlocks⟩ := id C0
  intro  σ H locs ls h hP hD hS hl
  unfold b_X5_seesPerson_31 at h
  refine lv_aload_n hx hb dX5_seesPerson_31 rfl (lv_at hl 0 rfl) ?_
  refine lv_iconst (v := (3 : Int32)) hx hb dX5_seesPerson_32 (by decide) ?_
  refine lv_aload_n hx hb dX5_seesPerson_33 rfl (lv_at hl 0 rfl) ?_
  refine xg_5_10 hx hb hts hown hK hP mw_188 dX5_seesPerson_34 ?_
  refine k_X5_fail N ⟨hx, hb, hml, hown, hts⟩ mw_369 ⟨Nat.le_of_ble_eq_true rfl, Nat.le_of_ble_eq_true rfl⟩ h hK hP hD hS hl.1 (rest := []) (Nat.le_of_ble_eq_true rfl) dX5_seesPerson_37 (fun r1 τ2 H locs h hP hD hS => ?_)
  refine lv_if_eq (tgt := 47) hx hb dX5_seesPerson_40 (by decide) (fun hc => ?_) (fun hc => ?_)
  · have h := h.1 hc
    refine lv_iconst (v := (0 : Int32)) hx hb dX5_seesPerson_47 (by decide) ?_
    exact zret_z hx hb hr hlocks hK hP hD hS zb_0 h dX5_seesPerson_48
  · have h := h.2 hc
    refine lv_iconst (v := (1 : Int32)) hx hb dX5_seesPerson_43 (by decide) ?_
    refine lv_goto (tgt := 48) hx hb dX5_seesPerson_44 (by decide) ?_
    exact zret_z hx hb hr hlocks hK hP hD hS zb_1 h dX5_seesPerson_48
set_option maxHeartbeats 4000000 in
set_option maxRecDepth 100000 in
theorem t_X5_seesPerson_0 (C0 : zCx p s m meth c args RX5 cX5_seesPerson 3 (some .boolean) vs_X5_seesPerson) (hK : va_K (dC, dI) vwCl (x_ty cI cJ) s) (N : Nat) {Q : Int32 → zSt → Prop} : ∀ (x1 : Int32) (σ : zSt) (H : Heap) (locs : List Loc) (ls : Array Slot), w_X5_seesPerson N x1 σ Q → va_P (dC, dI) vwCl (x_W ad cI cJ σ) H → va_D (zAW x_n ad s.heap.size) (x_W ad cI cJ σ) → va_S (zAW x_n ad s.heap.size) s.heap H locs → lv_has ls 3 [(0, .ref (ad 5)), (1, .int x1)] → W p l e rm_X5_seesPerson s m args below meth c H locs 0 0 (MQ below (zQi (dC, dI) (x_ty cI cJ) (x_W ad cI cJ) (zAW x_n ad s.heap.size) Q) args s 0 0 (zAW x_n ad s.heap.size)) (F0 m 0 ls []) := by
  obtain ⟨hx, hb, hml, hr, hown, hts, hlocks⟩ := id C0
  intro x1 σ H locs ls h hP hD hS hl
  unfold w_X5_seesPerson at h
  refine lv_aload_n hx hb dX5_seesPerson_0 rfl (lv_at hl 0 rfl) ?_
  refine k_X5_seesName N ⟨hx, hb, hml, hown, hts⟩ mw_372 ⟨Nat.le_of_ble_eq_true rfl, Nat.le_of_ble_eq_true rfl⟩ h hK hP hD hS hl.1 (rest := []) (Nat.le_of_ble_eq_true rfl) dX5_seesPerson_1 (fun r1 τ2 H locs h hP hD hS => ?_)
  refine lv_if_ne (tgt := 9) hx hb dX5_seesPerson_4 (by decide) (fun hc => ?_) (fun hc => ?_)
  · have h := h.2 hc
    refine lv_aload_n hx hb dX5_seesPerson_9 rfl (lv_at hl 0 rfl) ?_
    refine xg_5_1 hx hb hts hown hK hP mw_174 dX5_seesPerson_10 ?_
    refine lv_aload_n hx hb dX5_seesPerson_13 rfl (lv_at hl 0 rfl) ?_
    refine xg_5_12 hx hb hts hown hK hP mw_190 dX5_seesPerson_14 ?_
    refine k_X4_numberOf N ⟨hx, hb, hml, hown, hts⟩ mw_375 ⟨Nat.le_of_ble_eq_true rfl, Nat.le_of_ble_eq_true rfl⟩ h hK hP hD hS hl.1 (rest := []) (Nat.le_of_ble_eq_true rfl) dX5_seesPerson_17 (fun r3 τ4 H locs h hP hD hS => ?_)
    refine lv_istore_n (lv' := [(2, .int r3), (0, .ref (ad 5)), (1, .int x1)]) hx hb dX5_seesPerson_20 rfl hl (by decide) rfl (fun ls hl => ?_)
    refine lv_iload_n hx hb dX5_seesPerson_21 rfl (lv_at hl 0 rfl) ?_
    refine lv_iconst (v := (-1 : Int32)) hx hb dX5_seesPerson_22 (by decide) ?_
    refine lv_icmp_eq (tgt := 31) hx hb dX5_seesPerson_23 (by decide) (fun hc => ?_) (fun hc => ?_)
    · have h := h.1 hc
      exact t_X5_seesPerson_31 C0 hK N  τ4 _ _ _ h hP hD hS (lv_sub hl [1] rfl)
    · have h := h.2 hc
      refine lv_iload_n hx hb dX5_seesPerson_26 rfl (lv_at hl 0 rfl) ?_
      refine lv_iload_n hx hb dX5_seesPerson_27 rfl (lv_at hl 2 rfl) ?_
      refine lv_icmp_ne (tgt := 43) hx hb dX5_seesPerson_28 (by decide) (fun hc => ?_) (fun hc => ?_)
      · have h := h.2 hc
        refine lv_iconst (v := (1 : Int32)) hx hb dX5_seesPerson_43 (by decide) ?_
        refine lv_goto (tgt := 48) hx hb dX5_seesPerson_44 (by decide) ?_
        exact zret_z hx hb hr hlocks hK hP hD hS zb_1 h dX5_seesPerson_48
      · have h := h.1 hc
        exact t_X5_seesPerson_31 C0 hK N  τ4 _ _ _ h hP hD hS (lv_sub hl [1] rfl)
  · have h := h.1 hc
    refine lv_iconst (v := (0 : Int32)) hx hb dX5_seesPerson_7 (by decide) ?_
    exact zret_z hx hb hr hlocks hK hP hD hS zb_0 h dX5_seesPerson_8
set_option maxHeartbeats 4000000 in
set_option maxRecDepth 100000 in
theorem c_X5_seesPerson (N : Nat) (l : Launch) (dC : Nat → ClassId) (dI : Nat → Nat → Nat) (ad : Nat → Nat) (cI cJ : ClassId) (sz : Nat) (σ : zSt) (x1 : Int32) (Q : Int32 → zSt → Prop) (h : w_X5_seesPerson N x1 σ Q) : Met l yX5_seesPerson vs_X5_seesPerson rm_X5_seesPerson (va_Pc [.ref (ad 5), .int x1] (zPc (dC, dI) (x_ty cI cJ) (x_W ad cI cJ) sz σ)) (zQi (dC, dI) (x_ty cI cJ) (x_W ad cI cJ) (zAW x_n ad sz) Q) 0 0 (zAW x_n ad sz) := by
  refine Met.ofW (cc := cX5_seesPerson) (maxL := 3) (ret := (some .boolean)) (by decide) rfl ?_
  intro p e s m args below meth c s₁ B hml hv
  obtain ⟨rfl, hsz, hP, hK, hD0⟩ := hv
  subst hsz
  have C0 : zCx p s m meth c _ RX5 cX5_seesPerson 3 (some .boolean) vs_X5_seesPerson := ⟨B.exec, B.bytes, hml, B.returns, findClass_of_methodNamed B.named, atoms_spec (ws := vs_X5_seesPerson) B.pre, B.notSynchronized⟩
  have hD := x_D0 (n0 := s.heap.size) hD0
  have hl := lv_entry ([.ref (ad 5), .int x1]) (n := 3) (Nat.le_of_ble_eq_true rfl)
  rw [lg_entry_eq]
  generalize (lg_sl ([.ref (ad 5), .int x1]) ++ List.replicate (3 - (lg_sl ([.ref (ad 5), .int x1])).length) Slot.unset).toArray = ls at hl ⊢
  exact t_X5_seesPerson_0 C0 hK N x1 σ _ _ ls h hP hD va_S.rf hl
theorem k_X5_seesPerson (N : Nat) {R : Room} {H : Heap} {locs : List Loc} {Q2 : State → Prop} {cc : ByteArray} {nL pc index : Nat} {ls : Array Slot} {rest : List Value} {own : String} {c0 : Cond} {σ : zSt} {x1 : Int32} {Q : Int32 → zSt → Prop} (S0 : CallFix p m c cc nL s args (c0 :: zT) own) (hml : Cond.methodLink own index yX5_seesPerson ∈ zT) (hR : rm_X5_seesPerson.frames + 1 ≤ R.frames ∧ 8 + (3 + 11) + rm_X5_seesPerson.locals ≤ R.locals) (h : w_X5_seesPerson N x1 σ Q) (hK : va_K (dC, dI) vwCl (x_ty cI cJ) s) (hP : va_P (dC, dI) vwCl (x_W ad cI cJ σ) H) (hD : va_D (zAW x_n ad s.heap.size) (x_W ad cI cJ σ)) (hS : va_S (zAW x_n ad s.heap.size) s.heap H locs) (hsz : ls.size = nL) (hW : (rest.map fun v => v.category).sum ≤ 8) (hdg : decode cc pc = .ok (.invokevirtual index, 3)) (kk : ∀ (r : Int32) (τ : zSt) (H1 : Heap) (locs1 : List Loc), Q r τ → va_P (dC, dI) vwCl (x_W ad cI cJ τ) H1 → va_D (zAW x_n ad s.heap.size) (x_W ad cI cJ τ) → va_S (zAW x_n ad s.heap.size) s.heap H1 locs1 → W p l e R s m args below meth c H1 locs1 0 0 Q2 (F0 m (pc + 3) ls (.int r :: rest))) : W p l e R s m args below meth c H locs 0 0 Q2 (F0 m pc ls (.int x1 :: .ref (ad 5) :: rest)) :=
  zcv_i (T := TX5) (N' := 14) (k := 5) (ci := 5) (fs := x_f5 ad σ) [.int x1] S0 (c_X5_seesPerson N l dC dI ad cI cJ H.size σ x1 Q h) (cw_X5_seesPerson S0.2.2.2.2 hml rfl rfl hR) rfl rfl hK hP hD hS rfl hsz hW rfl hdg kk
end q02
section q02
def vs_X3_number : List Cond := .code yX3_number cX3_number 4 (some .int) :: zT
def rm_X3_number : Room := { frames := 1, cells := 0, slots := 0, locals := 60 }
theorem cw_X3_number {R : Room} {s : State} {args : Array Value} {own : String} {index : Nat} {c0 : Cond} (hts : ∀ w ∈ c0 :: zT, w.before args s = true) (hml : Cond.methodLink own index yX3_number ∈ zT) (hR : rm_X3_number.frames + 1 ≤ R.frames ∧ 8 + (4 + 11) + rm_X3_number.locals ≤ R.locals) : CallB R s args own index yX3_number cX3_number 4 (some .int) vs_X3_number rm_X3_number 0 0 2 ∧ (Cond.static yX3_number).before args s = true :=
  zwS 2 hts hml mw_442 mw_3 mw_443 rfl rfl (by decide +kernel) hR
def w_X3_number (N : Nat) (x0 : Int32) (x1 : Int32) (σ : zSt) (Q : Int32 → zSt → Prop) : Prop :=
  ∀ v1 : Int32, v1 = if x0 < x1 then x0 else x1 → ∀ v2 : Int32, v2 = if x0 < x1 then x1 else x0 → Q (((v2 * (v2 - (1 : Int32))) / (2 : Int32)) + v1) σ
variable {p : Program} {l : Launch} {e : Env} {s : State} {m : MethodId} {args : Array Value} {below : List Frame} {meth : Method} {c : Code} {dC : Nat → ClassId} {dI : Nat → Nat → Nat} {ad : Nat → Nat} {cI cJ : ClassId}
set_option maxHeartbeats 4000000 in
set_option maxRecDepth 100000 in
theorem t_X3_number_0 (C0 : zCx p s m meth c args RX3 cX3_number 4 (some .int) vs_X3_number) (hK : va_K (dC, dI) vwCl (x_ty cI cJ) s) (N : Nat) {Q : Int32 → zSt → Prop} : ∀ (x0 : Int32) (x1 : Int32) (σ : zSt) (H : Heap) (locs : List Loc) (ls : Array Slot), w_X3_number N x0 x1 σ Q → va_P (dC, dI) vwCl (x_W ad cI cJ σ) H → va_D (zAW x_n ad s.heap.size) (x_W ad cI cJ σ) → va_S (zAW x_n ad s.heap.size) s.heap H locs → lv_has ls 4 [(0, .int x0), (1, .int x1)] → W p l e rm_X3_number s m args below meth c H locs 0 0 (MQ below (zQi (dC, dI) (x_ty cI cJ) (x_W ad cI cJ) (zAW x_n ad s.heap.size) Q) args s 0 0 (zAW x_n ad s.heap.size)) (F0 m 0 ls []) := by
  obtain ⟨hx, hb, hml, hr, hown, hts, hlocks⟩ := id C0
  intro x0 x1 σ H locs ls h hP hD hS hl
  unfold w_X3_number at h
  refine lv_iload_n hx hb dX3_number_0 rfl (lv_at hl 0 rfl) ?_
  refine lv_iload_n hx hb dX3_number_1 rfl (lv_at hl 1 rfl) ?_
  refine va_mmin hx hb (hml.trans hl.1.symm) hown (hts _ (List.mem_cons_of_mem _ mw_444)) (hts _ (List.mem_cons_of_mem _ mw_445)) (hts _ (List.mem_cons_of_mem _ mw_19)) (hts _ (List.mem_cons_of_mem _ mw_446)) (Nat.le_of_ble_eq_true rfl) (Nat.le_of_ble_eq_true rfl) (Nat.zero_le _) (Nat.zero_le _) dX3_number_2 ?_
  refine lv_topi (fun v1 ev1 => ?_)
  have h := h v1 ev1
  refine lv_istore_n (lv' := [(2, .int v1), (0, .int x0), (1, .int x1)]) hx hb dX3_number_5 rfl hl (by decide) rfl (fun ls hl => ?_)
  refine lv_iload_n hx hb dX3_number_6 rfl (lv_at hl 1 rfl) ?_
  refine lv_iload_n hx hb dX3_number_7 rfl (lv_at hl 2 rfl) ?_
  refine va_mmax hx hb (hml.trans hl.1.symm) hown (hts _ (List.mem_cons_of_mem _ mw_447)) (hts _ (List.mem_cons_of_mem _ mw_448)) (hts _ (List.mem_cons_of_mem _ mw_19)) (hts _ (List.mem_cons_of_mem _ mw_449)) (Nat.le_of_ble_eq_true rfl) (Nat.le_of_ble_eq_true rfl) (Nat.zero_le _) (Nat.zero_le _) dX3_number_8 ?_
  refine lv_topi (fun v2 ev2 => ?_)
  have h := h v2 ev2
  refine lv_istore_n (lv' := [(3, .int v2), (2, .int v1), (0, .int x0), (1, .int x1)]) hx hb dX3_number_11 rfl hl (by decide) rfl (fun ls hl => ?_)
  refine lv_iload_n hx hb dX3_number_12 rfl (lv_at hl 0 rfl) ?_
  refine lv_iload_n hx hb dX3_number_13 rfl (lv_at hl 0 rfl) ?_
  refine lv_iconst (v := (1 : Int32)) hx hb dX3_number_14 (by decide) ?_
  refine lv_isub hx hb dX3_number_15 ?_
  refine lv_imul hx hb dX3_number_16 ?_
  refine lv_iconst (v := (2 : Int32)) hx hb dX3_number_17 (by decide) ?_
  refine lv_idiv hx hb dX3_number_18 (by decide) ?_
  refine lv_iload_n hx hb dX3_number_19 rfl (lv_at hl 1 rfl) ?_
  refine lv_iadd hx hb dX3_number_20 ?_
  exact zret_i hx hb hr hlocks hK hP hD hS h dX3_number_21
set_option maxHeartbeats 4000000 in
set_option maxRecDepth 100000 in
theorem c_X3_number (N : Nat) (l : Launch) (dC : Nat → ClassId) (dI : Nat → Nat → Nat) (ad : Nat → Nat) (cI cJ : ClassId) (sz : Nat) (σ : zSt) (x0 : Int32) (x1 : Int32) (Q : Int32 → zSt → Prop) (h : w_X3_number N x0 x1 σ Q) : Met l yX3_number vs_X3_number rm_X3_number (va_Pc [.int x0, .int x1] (zPc (dC, dI) (x_ty cI cJ) (x_W ad cI cJ) sz σ)) (zQi (dC, dI) (x_ty cI cJ) (x_W ad cI cJ) (zAW x_n ad sz) Q) 0 0 (zAW x_n ad sz) := by
  refine Met.ofW (cc := cX3_number) (maxL := 4) (ret := (some .int)) (by decide) rfl ?_
  intro p e s m args below meth c s₁ B hml hv
  obtain ⟨rfl, hsz, hP, hK, hD0⟩ := hv
  subst hsz
  have C0 : zCx p s m meth c _ RX3 cX3_number 4 (some .int) vs_X3_number := ⟨B.exec, B.bytes, hml, B.returns, findClass_of_methodNamed B.named, atoms_spec (ws := vs_X3_number) B.pre, B.notSynchronized⟩
  have hD := x_D0 (n0 := s.heap.size) hD0
  have hl := lv_entry ([.int x0, .int x1]) (n := 4) (Nat.le_of_ble_eq_true rfl)
  rw [lg_entry_eq]
  generalize (lg_sl ([.int x0, .int x1]) ++ List.replicate (4 - (lg_sl ([.int x0, .int x1])).length) Slot.unset).toArray = ls at hl ⊢
  exact t_X3_number_0 C0 hK N x0 x1 σ _ _ ls h hP hD va_S.rf hl
theorem k_X3_number (N : Nat) {R : Room} {H : Heap} {locs : List Loc} {Q2 : State → Prop} {cc : ByteArray} {nL pc index : Nat} {ls : Array Slot} {rest : List Value} {own : String} {c0 : Cond} {σ : zSt} {x0 : Int32} {x1 : Int32} {Q : Int32 → zSt → Prop} (S0 : CallFix p m c cc nL s args (c0 :: zT) own) (hml : Cond.methodLink own index yX3_number ∈ zT) (hR : rm_X3_number.frames + 1 ≤ R.frames ∧ 8 + (4 + 11) + rm_X3_number.locals ≤ R.locals) (h : w_X3_number N x0 x1 σ Q) (hK : va_K (dC, dI) vwCl (x_ty cI cJ) s) (hP : va_P (dC, dI) vwCl (x_W ad cI cJ σ) H) (hD : va_D (zAW x_n ad s.heap.size) (x_W ad cI cJ σ)) (hS : va_S (zAW x_n ad s.heap.size) s.heap H locs) (hsz : ls.size = nL) (hW : (rest.map fun v => v.category).sum ≤ 8) (hdg : decode cc pc = .ok (.invokestatic index, 3)) (kk : ∀ (r : Int32) (τ : zSt) (H1 : Heap) (locs1 : List Loc), Q r τ → va_P (dC, dI) vwCl (x_W ad cI cJ τ) H1 → va_D (zAW x_n ad s.heap.size) (x_W ad cI cJ τ) → va_S (zAW x_n ad s.heap.size) s.heap H1 locs1 → W p l e R s m args below meth c H1 locs1 0 0 Q2 (F0 m (pc + 3) ls (.int r :: rest))) : W p l e R s m args below meth c H locs 0 0 Q2 (F0 m pc ls (.int x1 :: .int x0 :: rest)) :=
  zcs_i [.int x0, .int x1] S0 (c_X3_number N l dC dI ad cI cJ H.size σ x0 x1 Q h) (cw_X3_number S0.2.2.2.2 hml hR) hK hP hD hS rfl hsz hW rfl hdg kk
end q02
section q02
def vs_X5_readBar : List Cond := .code yX5_readBar cX5_readBar 2 (some .boolean) :: zT
def rm_X5_readBar : Room := { frames := 3, cells := 0, slots := 0, locals := 83 }
theorem cw_X5_readBar {rm R : Room} {s : State} {args : Array Value} {own : String} {index : Nat} {c0 : Cond} (hts : ∀ w ∈ c0 :: zT, w.before args s = true) (hml : Cond.methodLink own index yX5_readBar ∈ zT) (hrc : rm.cells = 0) (hrs : rm.slots = 0) (hR : rm.frames + 1 ≤ R.frames ∧ 8 + (2 + 11) + rm.locals ≤ R.locals) : CallW R s args own RX5 index yX5_readBar cX5_readBar 2 (some .boolean) vs_X5_readBar rm 0 0 0 :=
  zwV 0 hts hml mw_439 mw_1338 mw_6 mw_440 hrc hrs (by decide +kernel) hR
def w_X5_readBar (N : Nat)  (σ : zSt) (Q : Int32 → zSt → Prop) : Prop :=
  ((σ.1 19) < (20 : Int32) → w_X5_take N σ (fun r1 τ2 => w_X5_seesPerson N (-1 : Int32) τ2 (fun r3 τ4 => (r3 = 0 → Q (0 : Int32) τ4) ∧ (¬ r3 = 0 → w_X4_numberOf N (τ4.1 15) τ4 (fun r5 τ6 => w_X5_take N τ6 (fun r7 τ8 => w_X5_seesPerson N r5 τ8 (fun r9 τ10 => (r9 = 0 → Q (0 : Int32) τ10) ∧ (¬ r9 = 0 → w_X4_numberOf N (τ10.1 15) τ10 (fun r11 τ12 => w_X3_number N r5 r11 τ12 (fun r13 τ14 => ∀ τ15 : zSt, τ15 = zJ τ14 3 ((τ10.2.1 3) ||| ((1 : Int64) <<< (r13.toInt64 &&& 63))) → ∀ τ16 : zSt, τ16 = zI τ15 19 ((τ15.1 19) + (1 : Int32)) → w_X5_take N τ16 (fun r17 τ18 => (zb r17) ∧ Q r17 τ18))))))))))) ∧ (¬ (σ.1 19) < (20 : Int32) → w_X5_fail N (5 : Int32) (σ.1 13) σ (fun r19 τ20 => (zb r19) ∧ Q r19 τ20))
variable {p : Program} {l : Launch} {e : Env} {s : State} {m : MethodId} {args : Array Value} {below : List Frame} {meth : Method} {c : Code} {dC : Nat → ClassId} {dI : Nat → Nat → Nat} {ad : Nat → Nat} {cI cJ : ClassId}
set_option maxHeartbeats 4000000 in
set_option maxRecDepth 100000 in
theorem t_X5_readBar_0 (C0 : zCx p s m meth c args RX5 cX5_readBar 2 (some .boolean) vs_X5_readBar) (hK : va_K (dC, dI) vwCl (x_ty cI cJ) s) (N : Nat) {Q : Int32 → zSt → Prop} : ∀  (σ : zSt) (H : Heap) (locs : List Loc) (ls : Array Slot), w_X5_readBar N  σ Q → va_P (dC, dI) vwCl (x_W ad cI cJ σ) H → va_D (zAW x_n ad s.heap.size) (x_W ad cI cJ σ) → va_S (zAW x_n ad s.heap.size) s.heap H locs → lv_has ls 2 [(0, .ref (ad 5))] → W p l e rm_X5_readBar s m args below meth c H locs 0 0 (MQ below (zQi (dC, dI) (x_ty cI cJ) (x_W ad cI cJ) (zAW x_n ad s.heap.size) Q) args s 0 0 (zAW x_n ad s.heap.size)) (F0 m 0 ls []) := by
  obtain ⟨hx, hb, hml, hr, hown, hts, hlocks⟩ := id C0
  intro  σ H locs ls h hP hD hS hl
  unfold w_X5_readBar at h
  refine lv_aload_n hx hb dX5_readBar_0 rfl (lv_at hl 0 rfl) ?_
  refine xg_5_1 hx hb hts hown hK hP mw_174 dX5_readBar_1 ?_
  refine xg_6_6 hx hb hts hown hK hP mw_84 dX5_readBar_4 ?_
  refine lv_bipush (v := (20 : Int32)) hx hb dX5_readBar_7 (by decide) ?_
  refine lv_icmp_lt (tgt := 22) hx hb dX5_readBar_9 (by decide) (fun hc => ?_) (fun hc => ?_)
  · have h := h.1 hc
    refine lv_aload_n hx hb dX5_readBar_22 rfl (lv_at hl 0 rfl) ?_
    refine k_X5_take N ⟨hx, hb, hml, hown, hts⟩ mw_363 ⟨Nat.le_of_ble_eq_true rfl, Nat.le_of_ble_eq_true rfl⟩ h hK hP hD hS hl.1 (rest := []) (Nat.le_of_ble_eq_true rfl) dX5_readBar_23 (fun r1 τ2 H locs h hP hD hS => ?_)
    refine lv_pop hx hb dX5_readBar_26 rfl ?_
    refine lv_aload_n hx hb dX5_readBar_27 rfl (lv_at hl 0 rfl) ?_
    refine lv_iconst (v := (-1 : Int32)) hx hb dX5_readBar_28 (by decide) ?_
    refine k_X5_seesPerson N ⟨hx, hb, hml, hown, hts⟩ mw_428 ⟨Nat.le_of_ble_eq_true rfl, Nat.le_of_ble_eq_true rfl⟩ h hK hP hD hS hl.1 (rest := []) (Nat.le_of_ble_eq_true rfl) dX5_readBar_29 (fun r3 τ4 H locs h hP hD hS => ?_)
    refine lv_if_ne (tgt := 37) hx hb dX5_readBar_32 (by decide) (fun hc => ?_) (fun hc => ?_)
    · have h := h.2 hc
      refine lv_aload_n hx hb dX5_readBar_37 rfl (lv_at hl 0 rfl) ?_
      refine xg_5_1 hx hb hts hown hK hP mw_174 dX5_readBar_38 ?_
      refine lv_aload_n hx hb dX5_readBar_41 rfl (lv_at hl 0 rfl) ?_
      refine xg_5_12 hx hb hts hown hK hP mw_190 dX5_readBar_42 ?_
      refine k_X4_numberOf N ⟨hx, hb, hml, hown, hts⟩ mw_375 ⟨Nat.le_of_ble_eq_true rfl, Nat.le_of_ble_eq_true rfl⟩ h hK hP hD hS hl.1 (rest := []) (Nat.le_of_ble_eq_true rfl) dX5_readBar_45 (fun r5 τ6 H locs h hP hD hS => ?_)
      refine lv_istore_n (lv' := [(1, .int r5), (0, .ref (ad 5))]) hx hb dX5_readBar_48 rfl hl (by decide) rfl (fun ls hl => ?_)
      refine lv_aload_n hx hb dX5_readBar_49 rfl (lv_at hl 1 rfl) ?_
      refine k_X5_take N ⟨hx, hb, hml, hown, hts⟩ mw_363 ⟨Nat.le_of_ble_eq_true rfl, Nat.le_of_ble_eq_true rfl⟩ h hK hP hD hS hl.1 (rest := []) (Nat.le_of_ble_eq_true rfl) dX5_readBar_50 (fun r7 τ8 H locs h hP hD hS => ?_)
      refine lv_pop hx hb dX5_readBar_53 rfl ?_
      refine lv_aload_n hx hb dX5_readBar_54 rfl (lv_at hl 1 rfl) ?_
      refine lv_iload_n hx hb dX5_readBar_55 rfl (lv_at hl 0 rfl) ?_
      refine k_X5_seesPerson N ⟨hx, hb, hml, hown, hts⟩ mw_428 ⟨Nat.le_of_ble_eq_true rfl, Nat.le_of_ble_eq_true rfl⟩ h hK hP hD hS hl.1 (rest := []) (Nat.le_of_ble_eq_true rfl) dX5_readBar_56 (fun r9 τ10 H locs h hP hD hS => ?_)
      refine lv_if_ne (tgt := 64) hx hb dX5_readBar_59 (by decide) (fun hc => ?_) (fun hc => ?_)
      · have h := h.2 hc
        refine lv_aload_n hx hb dX5_readBar_64 rfl (lv_at hl 1 rfl) ?_
        refine xg_5_1 hx hb hts hown hK hP mw_174 dX5_readBar_65 ?_
        refine lv_dup hx hb dX5_readBar_68 rfl ?_
        refine xg_6_7 hx hb hts hown hK hP mw_86 dX5_readBar_69 ?_
        refine lv_lconst (v := (1 : Int64)) hx hb dX5_readBar_72 (by decide) ?_
        refine lv_iload_n hx hb dX5_readBar_73 rfl (lv_at hl 0 rfl) ?_
        refine lv_aload_n hx hb dX5_readBar_74 rfl (lv_at hl 1 rfl) ?_
        refine xg_5_1 hx hb hts hown hK hP mw_174 dX5_readBar_75 ?_
        refine lv_aload_n hx hb dX5_readBar_78 rfl (lv_at hl 1 rfl) ?_
        refine xg_5_12 hx hb hts hown hK hP mw_190 dX5_readBar_79 ?_
        refine k_X4_numberOf N ⟨hx, hb, hml, hown, hts⟩ mw_375 ⟨Nat.le_of_ble_eq_true rfl, Nat.le_of_ble_eq_true rfl⟩ h hK hP hD hS hl.1 (rest := [.int r5, .long (1 : Int64), .long (τ10.2.1 3), .ref (ad 6)]) (Nat.le_of_ble_eq_true rfl) dX5_readBar_82 (fun r11 τ12 H locs h hP hD hS => ?_)
        refine k_X3_number N ⟨hx, hb, hml, hown, hts⟩ mw_441 ⟨Nat.le_of_ble_eq_true rfl, Nat.le_of_ble_eq_true rfl⟩ h hK hP hD hS hl.1 (rest := [.long (1 : Int64), .long (τ10.2.1 3), .ref (ad 6)]) (Nat.le_of_ble_eq_true rfl) dX5_readBar_85 (fun r13 τ14 H locs h hP hD hS => ?_)
        refine lv_lshl hx hb dX5_readBar_88 rfl ?_
        refine lv_lor hx hb dX5_readBar_89 ?_
        refine xp_6_7 hx hb hts hown hK hP hD hS mw_86 dX5_readBar_90 (fun τ15 H locs eτ15 hP hD hS => ?_)
        have h := h τ15 eτ15
        refine lv_aload_n hx hb dX5_readBar_93 rfl (lv_at hl 1 rfl) ?_
        refine xg_5_1 hx hb hts hown hK hP mw_174 dX5_readBar_94 ?_
        refine lv_dup hx hb dX5_readBar_97 rfl ?_
        refine xg_6_6 hx hb hts hown hK hP mw_84 dX5_readBar_98 ?_
        refine lv_iconst (v := (1 : Int32)) hx hb dX5_readBar_101 (by decide) ?_
        refine lv_iadd hx hb dX5_readBar_102 ?_
        refine xp_6_6 hx hb hts hown hK hP hD hS mw_84 dX5_readBar_103 (fun τ16 H locs eτ16 hP hD hS => ?_)
        have h := h τ16 eτ16
        refine lv_aload_n hx hb dX5_readBar_106 rfl (lv_at hl 1 rfl) ?_
        refine k_X5_take N ⟨hx, hb, hml, hown, hts⟩ mw_363 ⟨Nat.le_of_ble_eq_true rfl, Nat.le_of_ble_eq_true rfl⟩ h hK hP hD hS hl.1 (rest := []) (Nat.le_of_ble_eq_true rfl) dX5_readBar_107 (fun r17 τ18 H locs h hP hD hS => ?_)
        exact zret_z hx hb hr hlocks hK hP hD hS h.1 h.2 dX5_readBar_110
      · have h := h.1 hc
        refine lv_iconst (v := (0 : Int32)) hx hb dX5_readBar_62 (by decide) ?_
        exact zret_z hx hb hr hlocks hK hP hD hS zb_0 h dX5_readBar_63
    · have h := h.1 hc
      refine lv_iconst (v := (0 : Int32)) hx hb dX5_readBar_35 (by decide) ?_
      exact zret_z hx hb hr hlocks hK hP hD hS zb_0 h dX5_readBar_36
  · have h := h.2 hc
    refine lv_aload_n hx hb dX5_readBar_12 rfl (lv_at hl 0 rfl) ?_
    refine lv_iconst (v := (5 : Int32)) hx hb dX5_readBar_13 (by decide) ?_
    refine lv_aload_n hx hb dX5_readBar_14 rfl (lv_at hl 0 rfl) ?_
    refine xg_5_10 hx hb hts hown hK hP mw_188 dX5_readBar_15 ?_
    refine k_X5_fail N ⟨hx, hb, hml, hown, hts⟩ mw_369 ⟨Nat.le_of_ble_eq_true rfl, Nat.le_of_ble_eq_true rfl⟩ h hK hP hD hS hl.1 (rest := []) (Nat.le_of_ble_eq_true rfl) dX5_readBar_18 (fun r19 τ20 H locs h hP hD hS => ?_)
    exact zret_z hx hb hr hlocks hK hP hD hS h.1 h.2 dX5_readBar_21
set_option maxHeartbeats 4000000 in
set_option maxRecDepth 100000 in
theorem c_X5_readBar (N : Nat) (l : Launch) (dC : Nat → ClassId) (dI : Nat → Nat → Nat) (ad : Nat → Nat) (cI cJ : ClassId) (sz : Nat) (σ : zSt)  (Q : Int32 → zSt → Prop) (h : w_X5_readBar N  σ Q) : Met l yX5_readBar vs_X5_readBar rm_X5_readBar (va_Pc [.ref (ad 5)] (zPc (dC, dI) (x_ty cI cJ) (x_W ad cI cJ) sz σ)) (zQi (dC, dI) (x_ty cI cJ) (x_W ad cI cJ) (zAW x_n ad sz) Q) 0 0 (zAW x_n ad sz) := by
  refine Met.ofW (cc := cX5_readBar) (maxL := 2) (ret := (some .boolean)) (by decide) rfl ?_
  intro p e s m args below meth c s₁ B hml hv
  obtain ⟨rfl, hsz, hP, hK, hD0⟩ := hv
  subst hsz
  have C0 : zCx p s m meth c _ RX5 cX5_readBar 2 (some .boolean) vs_X5_readBar := ⟨B.exec, B.bytes, hml, B.returns, findClass_of_methodNamed B.named, atoms_spec (ws := vs_X5_readBar) B.pre, B.notSynchronized⟩
  have hD := x_D0 (n0 := s.heap.size) hD0
  have hl := lv_entry ([.ref (ad 5)]) (n := 2) (Nat.le_of_ble_eq_true rfl)
  rw [lg_entry_eq]
  generalize (lg_sl ([.ref (ad 5)]) ++ List.replicate (2 - (lg_sl ([.ref (ad 5)])).length) Slot.unset).toArray = ls at hl ⊢
  exact t_X5_readBar_0 C0 hK N  σ _ _ ls h hP hD va_S.rf hl
theorem k_X5_readBar (N : Nat) {R : Room} {H : Heap} {locs : List Loc} {Q2 : State → Prop} {cc : ByteArray} {nL pc index : Nat} {ls : Array Slot} {rest : List Value} {own : String} {c0 : Cond} {σ : zSt}  {Q : Int32 → zSt → Prop} (S0 : CallFix p m c cc nL s args (c0 :: zT) own) (hml : Cond.methodLink own index yX5_readBar ∈ zT) (hR : rm_X5_readBar.frames + 1 ≤ R.frames ∧ 8 + (2 + 11) + rm_X5_readBar.locals ≤ R.locals) (h : w_X5_readBar N  σ Q) (hK : va_K (dC, dI) vwCl (x_ty cI cJ) s) (hP : va_P (dC, dI) vwCl (x_W ad cI cJ σ) H) (hD : va_D (zAW x_n ad s.heap.size) (x_W ad cI cJ σ)) (hS : va_S (zAW x_n ad s.heap.size) s.heap H locs) (hsz : ls.size = nL) (hW : (rest.map fun v => v.category).sum ≤ 8) (hdg : decode cc pc = .ok (.invokevirtual index, 3)) (kk : ∀ (r : Int32) (τ : zSt) (H1 : Heap) (locs1 : List Loc), Q r τ → va_P (dC, dI) vwCl (x_W ad cI cJ τ) H1 → va_D (zAW x_n ad s.heap.size) (x_W ad cI cJ τ) → va_S (zAW x_n ad s.heap.size) s.heap H1 locs1 → W p l e R s m args below meth c H1 locs1 0 0 Q2 (F0 m (pc + 3) ls (.int r :: rest))) : W p l e R s m args below meth c H locs 0 0 Q2 (F0 m pc ls (.ref (ad 5) :: rest)) :=
  zcv_i (T := TX5) (N' := 14) (k := 5) (ci := 5) (fs := x_f5 ad σ) [] S0 (c_X5_readBar N l dC dI ad cI cJ H.size σ  Q h) (cw_X5_readBar S0.2.2.2.2 hml rfl rfl hR) rfl rfl hK hP hD hS rfl hsz hW rfl hdg kk
end q02
section q02
def vs_X4_isPerson : List Cond := .code yX4_isPerson cX4_isPerson 2 (some .boolean) :: zT
def rm_X4_isPerson : Room := { frames := 0, cells := 0, slots := 0, locals := 0 }
theorem cw_X4_isPerson {rm R : Room} {s : State} {args : Array Value} {own : String} {index : Nat} {c0 : Cond} (hts : ∀ w ∈ c0 :: zT, w.before args s = true) (hml : Cond.methodLink own index yX4_isPerson ∈ zT) (hrc : rm.cells = 0) (hrs : rm.slots = 0) (hR : rm.frames + 1 ≤ R.frames ∧ 8 + (2 + 11) + rm.locals ≤ R.locals) : CallW R s args own RX4 index yX4_isPerson cX4_isPerson 2 (some .boolean) vs_X4_isPerson rm 0 0 1 :=
  zwV 1 hts hml mw_454 mw_455 mw_4 mw_456 hrc hrs (by decide +kernel) hR
def w_X4_isPerson (N : Nat) (x1 : Int32) (σ : zSt) (Q : Int32 → zSt → Prop) : Prop :=
  (x1 < 0 → Q (0 : Int32) σ) ∧ (¬ x1 < 0 → ((σ.1 17) ≤ x1 → Q (0 : Int32) σ) ∧ (¬ (σ.1 17) ≤ x1 → Q (1 : Int32) σ))
variable {p : Program} {l : Launch} {e : Env} {s : State} {m : MethodId} {args : Array Value} {below : List Frame} {meth : Method} {c : Code} {dC : Nat → ClassId} {dI : Nat → Nat → Nat} {ad : Nat → Nat} {cI cJ : ClassId}
set_option maxHeartbeats 4000000 in
set_option maxRecDepth 100000 in
theorem t_X4_isPerson_0 (C0 : zCx p s m meth c args RX4 cX4_isPerson 2 (some .boolean) vs_X4_isPerson) (hK : va_K (dC, dI) vwCl (x_ty cI cJ) s) (N : Nat) {Q : Int32 → zSt → Prop} : ∀ (x1 : Int32) (σ : zSt) (H : Heap) (locs : List Loc) (ls : Array Slot), w_X4_isPerson N x1 σ Q → va_P (dC, dI) vwCl (x_W ad cI cJ σ) H → va_D (zAW x_n ad s.heap.size) (x_W ad cI cJ σ) → va_S (zAW x_n ad s.heap.size) s.heap H locs → lv_has ls 2 [(0, .ref (ad 6)), (1, .int x1)] → W p l e rm_X4_isPerson s m args below meth c H locs 0 0 (MQ below (zQi (dC, dI) (x_ty cI cJ) (x_W ad cI cJ) (zAW x_n ad s.heap.size) Q) args s 0 0 (zAW x_n ad s.heap.size)) (F0 m 0 ls []) := by
  obtain ⟨hx, hb, hml, hr, hown, hts, hlocks⟩ := id C0
  intro x1 σ H locs ls h hP hD hS hl
  unfold w_X4_isPerson at h
  refine lv_iload_n hx hb dX4_isPerson_0 rfl (lv_at hl 1 rfl) ?_
  refine lv_if_lt (tgt := 16) hx hb dX4_isPerson_1 (by decide) (fun hc => ?_) (fun hc => ?_)
  · have h := h.1 hc
    refine lv_iconst (v := (0 : Int32)) hx hb dX4_isPerson_16 (by decide) ?_
    exact zret_z hx hb hr hlocks hK hP hD hS zb_0 h dX4_isPerson_17
  · have h := h.2 hc
    refine lv_iload_n hx hb dX4_isPerson_4 rfl (lv_at hl 1 rfl) ?_
    refine lv_aload_n hx hb dX4_isPerson_5 rfl (lv_at hl 0 rfl) ?_
    refine xg_6_4 hx hb hts hown hK hP mw_73 dX4_isPerson_6 ?_
    refine lv_icmp_ge (tgt := 16) hx hb dX4_isPerson_9 (by decide) (fun hc => ?_) (fun hc => ?_)
    · have h := h.1 hc
      refine lv_iconst (v := (0 : Int32)) hx hb dX4_isPerson_16 (by decide) ?_
      exact zret_z hx hb hr hlocks hK hP hD hS zb_0 h dX4_isPerson_17
    · have h := h.2 hc
      refine lv_iconst (v := (1 : Int32)) hx hb dX4_isPerson_12 (by decide) ?_
      refine lv_goto (tgt := 17) hx hb dX4_isPerson_13 (by decide) ?_
      exact zret_z hx hb hr hlocks hK hP hD hS zb_1 h dX4_isPerson_17
set_option maxHeartbeats 4000000 in
set_option maxRecDepth 100000 in
theorem c_X4_isPerson (N : Nat) (l : Launch) (dC : Nat → ClassId) (dI : Nat → Nat → Nat) (ad : Nat → Nat) (cI cJ : ClassId) (sz : Nat) (σ : zSt) (x1 : Int32) (Q : Int32 → zSt → Prop) (h : w_X4_isPerson N x1 σ Q) : Met l yX4_isPerson vs_X4_isPerson rm_X4_isPerson (va_Pc [.ref (ad 6), .int x1] (zPc (dC, dI) (x_ty cI cJ) (x_W ad cI cJ) sz σ)) (zQi (dC, dI) (x_ty cI cJ) (x_W ad cI cJ) (zAW x_n ad sz) Q) 0 0 (zAW x_n ad sz) := by
  refine Met.ofW (cc := cX4_isPerson) (maxL := 2) (ret := (some .boolean)) (by decide) rfl ?_
  intro p e s m args below meth c s₁ B hml hv
  obtain ⟨rfl, hsz, hP, hK, hD0⟩ := hv
  subst hsz
  have C0 : zCx p s m meth c _ RX4 cX4_isPerson 2 (some .boolean) vs_X4_isPerson := ⟨B.exec, B.bytes, hml, B.returns, findClass_of_methodNamed B.named, atoms_spec (ws := vs_X4_isPerson) B.pre, B.notSynchronized⟩
  have hD := x_D0 (n0 := s.heap.size) hD0
  have hl := lv_entry ([.ref (ad 6), .int x1]) (n := 2) (Nat.le_of_ble_eq_true rfl)
  rw [lg_entry_eq]
  generalize (lg_sl ([.ref (ad 6), .int x1]) ++ List.replicate (2 - (lg_sl ([.ref (ad 6), .int x1])).length) Slot.unset).toArray = ls at hl ⊢
  exact t_X4_isPerson_0 C0 hK N x1 σ _ _ ls h hP hD va_S.rf hl
theorem k_X4_isPerson (N : Nat) {R : Room} {H : Heap} {locs : List Loc} {Q2 : State → Prop} {cc : ByteArray} {nL pc index : Nat} {ls : Array Slot} {rest : List Value} {own : String} {c0 : Cond} {σ : zSt} {x1 : Int32} {Q : Int32 → zSt → Prop} (S0 : CallFix p m c cc nL s args (c0 :: zT) own) (hml : Cond.methodLink own index yX4_isPerson ∈ zT) (hR : rm_X4_isPerson.frames + 1 ≤ R.frames ∧ 8 + (2 + 11) + rm_X4_isPerson.locals ≤ R.locals) (h : w_X4_isPerson N x1 σ Q) (hK : va_K (dC, dI) vwCl (x_ty cI cJ) s) (hP : va_P (dC, dI) vwCl (x_W ad cI cJ σ) H) (hD : va_D (zAW x_n ad s.heap.size) (x_W ad cI cJ σ)) (hS : va_S (zAW x_n ad s.heap.size) s.heap H locs) (hsz : ls.size = nL) (hW : (rest.map fun v => v.category).sum ≤ 8) (hdg : decode cc pc = .ok (.invokevirtual index, 3)) (kk : ∀ (r : Int32) (τ : zSt) (H1 : Heap) (locs1 : List Loc), Q r τ → va_P (dC, dI) vwCl (x_W ad cI cJ τ) H1 → va_D (zAW x_n ad s.heap.size) (x_W ad cI cJ τ) → va_S (zAW x_n ad s.heap.size) s.heap H1 locs1 → W p l e R s m args below meth c H1 locs1 0 0 Q2 (F0 m (pc + 3) ls (.int r :: rest))) : W p l e R s m args below meth c H locs 0 0 Q2 (F0 m pc ls (.int x1 :: .ref (ad 6) :: rest)) :=
  zcv_i (T := TX4) (N' := 8) (k := 6) (ci := 4) (fs := x_f6 ad σ) [.int x1] S0 (c_X4_isPerson N l dC dI ad cI cJ H.size σ x1 Q h) (cw_X4_isPerson S0.2.2.2.2 hml rfl rfl hR) rfl rfl hK hP hD hS rfl hsz hW rfl hdg kk
end q02
