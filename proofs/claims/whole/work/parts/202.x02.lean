section q02
end q02
section q02
def b_X5_readPart_109 (N : Nat) (S : zSt → (Int32 → zSt → Prop) → Prop) (Q : Int32 → zSt → Prop) (s0 : Int32) (σ : zSt) : Prop :=
  w_X5_readChoice N S s0 σ (fun r1 τ2 => (zb r1) ∧ Q r1 τ2)
def b_X5_readPart_94 (N : Nat) (S : zSt → (Int32 → zSt → Prop) → Prop) (Q : Int32 → zSt → Prop)  (σ : zSt) : Prop :=
  ((σ.1 16) = (17 : Int32) → b_X5_readPart_109 N S Q (4 : Int32) σ) ∧ (¬ (σ.1 16) = (17 : Int32) → b_X5_readPart_109 N S Q (5 : Int32) σ)
def b_X5_readPart_153 (N : Nat) (S : zSt → (Int32 → zSt → Prop) → Prop) (Q : Int32 → zSt → Prop)  (σ : zSt) : Prop :=
  w_X5_fail N (1 : Int32) (σ.1 13) σ (fun r1 τ2 => (zb r1) ∧ Q r1 τ2)
def w_X5_readPart (N : Nat) (S : zSt → (Int32 → zSt → Prop) → Prop)  (σ : zSt) (Q : Int32 → zSt → Prop) : Prop :=
  ((σ.1 12) = (2 : Int32) → w_X5_seesNumber N (1000000 : Int32) σ (fun r13 τ14 => (r13 = 0 → Q (0 : Int32) τ14) ∧ (¬ r13 = 0 → w_X6_emit N ((100 : Int32) + (τ14.1 15)) τ14 (fun τ16 => w_X5_take N τ16 (fun r17 τ18 => (zb r17) ∧ Q r17 τ18))))) ∧ (¬ (σ.1 12) = (2 : Int32) → w_X5_isSign N (40 : Int32) σ (fun r1 τ2 => (r1 = 0 → ((τ2.1 16) = (17 : Int32) → b_X5_readPart_94 N S Q τ2) ∧ (¬ (τ2.1 16) = (17 : Int32) → ((τ2.1 16) = (18 : Int32) → b_X5_readPart_94 N S Q τ2) ∧ (¬ (τ2.1 16) = (18 : Int32) → ((τ2.1 16) < (12 : Int32) → b_X5_readPart_153 N S Q τ2) ∧ (¬ (τ2.1 16) < (12 : Int32) → ((16 : Int32) < (τ2.1 16) → b_X5_readPart_153 N S Q τ2) ∧ (¬ (16 : Int32) < (τ2.1 16) → w_X6_emit N (((20 : Int32) + (τ2.1 16)) - (12 : Int32)) τ2 (fun τ4 => w_X5_take N τ4 (fun r5 τ6 => (zb r5) ∧ Q r5 τ6))))))) ∧ (¬ r1 = 0 → w_X5_takeOpening N τ2 (fun r7 τ8 => (r7 = 0 → Q (0 : Int32) τ8) ∧ (¬ r7 = 0 → S τ8 (fun r9 τ10 => (r9 = 0 → Q (0 : Int32) τ10) ∧ (¬ r9 = 0 → w_X5_takeSign N (41 : Int32) τ10 (fun r11 τ12 => (r11 = 0 → Q (0 : Int32) τ12) ∧ (¬ r11 = 0 → Q (1 : Int32) τ12)))))))))
variable {p : Program} {l : Launch} {e : Env} {s : State} {m : MethodId} {args : Array Value} {below : List Frame} {meth : Method} {c : Code} {dC : Nat → ClassId} {dI : Nat → Nat → Nat} {ad : Nat → Nat} {cI cJ : ClassId}
set_option maxHeartbeats 4000000 in
set_option maxRecDepth 100000 in
theorem t_X5_readPart_109 (C0 : zCx p s m meth c args RX5 cX5_readPart 1 (some .boolean) vs_X5_readPart) (hK : va_K (dC, dI) vwCl (x_ty cI cJ) s) (N : Nat) {d : Nat} {S : zSt → (Int32 → zSt → Prop) → Prop} (hSm : ∀ (sz : Nat) (σ : zSt) (Q : Int32 → zSt → Prop), S σ Q → Met l yX5_readSum vs_X5_readSum (rmq_sum 0 d) (va_Pc [.ref (ad 5)] (zPc (dC, dI) (x_ty cI cJ) (x_W ad cI cJ) sz σ)) (zQi (dC, dI) (x_ty cI cJ) (x_W ad cI cJ) (zAW x_n ad sz) Q) 0 0 (zAW x_n ad sz)) {Q : Int32 → zSt → Prop} : ∀ (s0 : Int32) (σ : zSt) (H : Heap) (locs : List Loc) (ls : Array Slot), b_X5_readPart_109 N S  Q s0 σ → va_P (dC, dI) vwCl (x_W ad cI cJ σ) H → va_D (zAW x_n ad s.heap.size) (x_W ad cI cJ σ) → va_S (zAW x_n ad s.heap.size) s.heap H locs → lv_has ls 1 [] → W p l e (rmq_sum 2 d) s m args below meth c H locs 0 0 (MQ below (zQi (dC, dI) (x_ty cI cJ) (x_W ad cI cJ) (zAW x_n ad s.heap.size) Q) args s 0 0 (zAW x_n ad s.heap.size)) (F0 m 109 ls [.int s0, .ref (ad 5)]) := by
  obtain ⟨hx, hb, hml, hr, hown, hts, hlocks⟩ := id C0
  intro s0 σ H locs ls h hP hD hS hl
  unfold b_X5_readPart_109 at h
  refine k_X5_readChoice N hSm ⟨hx, hb, hml, hown, hts⟩ mw_416 ⟨by dsimp only [rmq_sum, rmq_fact]; omega, by dsimp only [rmq_sum, rmq_fact]; omega⟩ h hK hP hD hS hl.1 (rest := []) (Nat.le_of_ble_eq_true rfl) ⟨Nat.le_of_ble_eq_true rfl, Nat.le_of_ble_eq_true rfl⟩ dX5_readPart_109 (fun r1 τ2 H locs h hP hD hS => ?_)
  exact zret_z hx hb hr hlocks hK hP hD hS h.1 h.2 dX5_readPart_112
set_option maxHeartbeats 4000000 in
set_option maxRecDepth 100000 in
theorem t_X5_readPart_94 (C0 : zCx p s m meth c args RX5 cX5_readPart 1 (some .boolean) vs_X5_readPart) (hK : va_K (dC, dI) vwCl (x_ty cI cJ) s) (N : Nat) {d : Nat} {S : zSt → (Int32 → zSt → Prop) → Prop} (hSm : ∀ (sz : Nat) (σ : zSt) (Q : Int32 → zSt → Prop), S σ Q → Met l yX5_readSum vs_X5_readSum (rmq_sum 0 d) (va_Pc [.ref (ad 5)] (zPc (dC, dI) (x_ty cI cJ) (x_W ad cI cJ) sz σ)) (zQi (dC, dI) (x_ty cI cJ) (x_W ad cI cJ) (zAW x_n ad sz) Q) 0 0 (zAW x_n ad sz)) {Q : Int32 → zSt → Prop} : ∀  (σ : zSt) (H : Heap) (locs : List Loc) (ls : Array Slot), b_X5_readPart_94 N S  Q  σ → va_P (dC, dI) vwCl (x_W ad cI cJ σ) H → va_D (zAW x_n ad s.heap.size) (x_W ad cI cJ σ) → va_S (zAW x_n ad s.heap.size) s.heap H locs → lv_has ls 1 [(0, .ref (ad 5))] → W p l e (rmq_sum 2 d) s m args below meth c H locs 0 0 (MQ below (zQi (dC, dI) (x_ty cI cJ) (x_W ad cI cJ) (zAW x_n ad s.heap.size) Q) args s 0 0 (zAW x_n ad s.heap.size)) (F0 m 94 ls []) := by
  obtain ⟨hx, hb, hml, hr, hown, hts, hlocks⟩ := id C0
  intro  σ H locs ls h hP hD hS hl
  unfold b_X5_readPart_94 at h
  refine lv_aload_n hx hb dX5_readPart_94 rfl (lv_at hl 0 rfl) ?_
  refine lv_aload_n hx hb dX5_readPart_95 rfl (lv_at hl 0 rfl) ?_
  refine xg_5_13 hx hb hts hown hK hP mw_191 dX5_readPart_96 ?_
  refine lv_bipush (v := (17 : Int32)) hx hb dX5_readPart_99 (by decide) ?_
  refine lv_icmp_ne (tgt := 108) hx hb dX5_readPart_101 (by decide) (fun hc => ?_) (fun hc => ?_)
  · have h := h.2 hc
    refine lv_iconst (v := (5 : Int32)) hx hb dX5_readPart_108 (by decide) ?_
    exact t_X5_readPart_109 C0 hK N hSm  (5 : Int32) σ _ _ _ h hP hD hS (lv_sub hl [] rfl)
  · have h := h.1 hc
    refine lv_iconst (v := (4 : Int32)) hx hb dX5_readPart_104 (by decide) ?_
    refine lv_goto (tgt := 109) hx hb dX5_readPart_105 (by decide) ?_
    exact t_X5_readPart_109 C0 hK N hSm  (4 : Int32) σ _ _ _ h hP hD hS (lv_sub hl [] rfl)
set_option maxHeartbeats 4000000 in
set_option maxRecDepth 100000 in
theorem t_X5_readPart_153 (C0 : zCx p s m meth c args RX5 cX5_readPart 1 (some .boolean) vs_X5_readPart) (hK : va_K (dC, dI) vwCl (x_ty cI cJ) s) (N : Nat) {d : Nat} {S : zSt → (Int32 → zSt → Prop) → Prop} (hSm : ∀ (sz : Nat) (σ : zSt) (Q : Int32 → zSt → Prop), S σ Q → Met l yX5_readSum vs_X5_readSum (rmq_sum 0 d) (va_Pc [.ref (ad 5)] (zPc (dC, dI) (x_ty cI cJ) (x_W ad cI cJ) sz σ)) (zQi (dC, dI) (x_ty cI cJ) (x_W ad cI cJ) (zAW x_n ad sz) Q) 0 0 (zAW x_n ad sz)) {Q : Int32 → zSt → Prop} : ∀  (σ : zSt) (H : Heap) (locs : List Loc) (ls : Array Slot), b_X5_readPart_153 N S  Q  σ → va_P (dC, dI) vwCl (x_W ad cI cJ σ) H → va_D (zAW x_n ad s.heap.size) (x_W ad cI cJ σ) → va_S (zAW x_n ad s.heap.size) s.heap H locs → lv_has ls 1 [(0, .ref (ad 5))] → W p l e (rmq_sum 2 d) s m args below meth c H locs 0 0 (MQ below (zQi (dC, dI) (x_ty cI cJ) (x_W ad cI cJ) (zAW x_n ad s.heap.size) Q) args s 0 0 (zAW x_n ad s.heap.size)) (F0 m 153 ls []) := by
  obtain ⟨hx, hb, hml, hr, hown, hts, hlocks⟩ := id C0
  intro  σ H locs ls h hP hD hS hl
  unfold b_X5_readPart_153 at h
  refine lv_aload_n hx hb dX5_readPart_153 rfl (lv_at hl 0 rfl) ?_
  refine lv_iconst (v := (1 : Int32)) hx hb dX5_readPart_154 (by decide) ?_
  refine lv_aload_n hx hb dX5_readPart_155 rfl (lv_at hl 0 rfl) ?_
  refine xg_5_10 hx hb hts hown hK hP mw_188 dX5_readPart_156 ?_
  refine k_X5_fail N ⟨hx, hb, hml, hown, hts⟩ mw_369 ⟨by dsimp only [rm_X5_fail, rmq_sum, rmq_fact]; omega, by dsimp only [rm_X5_fail, rmq_sum, rmq_fact]; omega⟩ h hK hP hD hS hl.1 (rest := []) (Nat.le_of_ble_eq_true rfl) ⟨Nat.le_of_ble_eq_true rfl, Nat.le_of_ble_eq_true rfl⟩ dX5_readPart_159 (fun r1 τ2 H locs h hP hD hS => ?_)
  exact zret_z hx hb hr hlocks hK hP hD hS h.1 h.2 dX5_readPart_162
set_option maxHeartbeats 4000000 in
set_option maxRecDepth 100000 in
theorem t_X5_readPart_0 (C0 : zCx p s m meth c args RX5 cX5_readPart 1 (some .boolean) vs_X5_readPart) (hK : va_K (dC, dI) vwCl (x_ty cI cJ) s) (N : Nat) {d : Nat} {S : zSt → (Int32 → zSt → Prop) → Prop} (hSm : ∀ (sz : Nat) (σ : zSt) (Q : Int32 → zSt → Prop), S σ Q → Met l yX5_readSum vs_X5_readSum (rmq_sum 0 d) (va_Pc [.ref (ad 5)] (zPc (dC, dI) (x_ty cI cJ) (x_W ad cI cJ) sz σ)) (zQi (dC, dI) (x_ty cI cJ) (x_W ad cI cJ) (zAW x_n ad sz) Q) 0 0 (zAW x_n ad sz)) {Q : Int32 → zSt → Prop} : ∀  (σ : zSt) (H : Heap) (locs : List Loc) (ls : Array Slot), w_X5_readPart N S  σ Q → va_P (dC, dI) vwCl (x_W ad cI cJ σ) H → va_D (zAW x_n ad s.heap.size) (x_W ad cI cJ σ) → va_S (zAW x_n ad s.heap.size) s.heap H locs → lv_has ls 1 [(0, .ref (ad 5))] → W p l e (rmq_sum 2 d) s m args below meth c H locs 0 0 (MQ below (zQi (dC, dI) (x_ty cI cJ) (x_W ad cI cJ) (zAW x_n ad s.heap.size) Q) args s 0 0 (zAW x_n ad s.heap.size)) (F0 m 0 ls []) := by
  obtain ⟨hx, hb, hml, hr, hown, hts, hlocks⟩ := id C0
  intro  σ H locs ls h hP hD hS hl
  unfold w_X5_readPart at h
  refine lv_aload_n hx hb dX5_readPart_0 rfl (lv_at hl 0 rfl) ?_
  refine xg_5_9 hx hb hts hown hK hP mw_187 dX5_readPart_1 ?_
  refine lv_iconst (v := (2 : Int32)) hx hb dX5_readPart_4 (by decide) ?_
  refine lv_icmp_ne (tgt := 38) hx hb dX5_readPart_5 (by decide) (fun hc => ?_) (fun hc => ?_)
  · have h := h.2 hc
    refine lv_aload_n hx hb dX5_readPart_38 rfl (lv_at hl 0 rfl) ?_
    refine lv_bipush (v := (40 : Int32)) hx hb dX5_readPart_39 (by decide) ?_
    refine k_X5_isSign N ⟨hx, hb, hml, hown, hts⟩ mw_407 ⟨by dsimp only [rm_X5_isSign, rmq_sum, rmq_fact]; omega, by dsimp only [rm_X5_isSign, rmq_sum, rmq_fact]; omega⟩ h hK hP hD hS hl.1 (rest := []) (Nat.le_of_ble_eq_true rfl) ⟨Nat.le_of_ble_eq_true rfl, Nat.le_of_ble_eq_true rfl⟩ dX5_readPart_41 (fun r1 τ2 H locs h hP hD hS => ?_)
    refine lv_if_eq (tgt := 76) hx hb dX5_readPart_44 (by decide) (fun hc => ?_) (fun hc => ?_)
    · have h := h.1 hc
      refine lv_aload_n hx hb dX5_readPart_76 rfl (lv_at hl 0 rfl) ?_
      refine xg_5_13 hx hb hts hown hK hP mw_191 dX5_readPart_77 ?_
      refine lv_bipush (v := (17 : Int32)) hx hb dX5_readPart_80 (by decide) ?_
      refine lv_icmp_eq (tgt := 94) hx hb dX5_readPart_82 (by decide) (fun hc => ?_) (fun hc => ?_)
      · have h := h.1 hc
        exact t_X5_readPart_94 C0 hK N hSm  τ2 _ _ _ h hP hD hS (lv_sub hl [0] rfl)
      · have h := h.2 hc
        refine lv_aload_n hx hb dX5_readPart_85 rfl (lv_at hl 0 rfl) ?_
        refine xg_5_13 hx hb hts hown hK hP mw_191 dX5_readPart_86 ?_
        refine lv_bipush (v := (18 : Int32)) hx hb dX5_readPart_89 (by decide) ?_
        refine lv_icmp_ne (tgt := 113) hx hb dX5_readPart_91 (by decide) (fun hc => ?_) (fun hc => ?_)
        · have h := h.2 hc
          refine lv_aload_n hx hb dX5_readPart_113 rfl (lv_at hl 0 rfl) ?_
          refine xg_5_13 hx hb hts hown hK hP mw_191 dX5_readPart_114 ?_
          refine lv_bipush (v := (12 : Int32)) hx hb dX5_readPart_117 (by decide) ?_
          refine lv_icmp_lt (tgt := 153) hx hb dX5_readPart_119 (by decide) (fun hc => ?_) (fun hc => ?_)
          · have h := h.1 hc
            exact t_X5_readPart_153 C0 hK N hSm  τ2 _ _ _ h hP hD hS (lv_sub hl [0] rfl)
          · have h := h.2 hc
            refine lv_aload_n hx hb dX5_readPart_122 rfl (lv_at hl 0 rfl) ?_
            refine xg_5_13 hx hb hts hown hK hP mw_191 dX5_readPart_123 ?_
            refine lv_bipush (v := (16 : Int32)) hx hb dX5_readPart_126 (by decide) ?_
            refine lv_icmp_gt (tgt := 153) hx hb dX5_readPart_128 (by decide) (fun hc => ?_) (fun hc => ?_)
            · have h := h.1 hc
              exact t_X5_readPart_153 C0 hK N hSm  τ2 _ _ _ h hP hD hS (lv_sub hl [0] rfl)
            · have h := h.2 hc
              refine lv_aload_n hx hb dX5_readPart_131 rfl (lv_at hl 0 rfl) ?_
              refine xg_5_2 hx hb hts hown hK hP mw_176 dX5_readPart_132 ?_
              refine lv_bipush (v := (20 : Int32)) hx hb dX5_readPart_135 (by decide) ?_
              refine lv_aload_n hx hb dX5_readPart_137 rfl (lv_at hl 0 rfl) ?_
              refine xg_5_13 hx hb hts hown hK hP mw_191 dX5_readPart_138 ?_
              refine lv_iadd hx hb dX5_readPart_141 ?_
              refine lv_bipush (v := (12 : Int32)) hx hb dX5_readPart_142 (by decide) ?_
              refine lv_isub hx hb dX5_readPart_144 ?_
              refine k_X6_emit N ⟨hx, hb, hml, hown, hts⟩ mw_403 ⟨by dsimp only [rm_X6_emit, rmq_sum, rmq_fact]; omega, by dsimp only [rm_X6_emit, rmq_sum, rmq_fact]; omega⟩ h hK hP hD hS hl.1 (rest := []) (Nat.le_of_ble_eq_true rfl) ⟨Nat.le_of_ble_eq_true rfl, Nat.le_of_ble_eq_true rfl⟩ dX5_readPart_145 (fun τ4 H locs h hP hD hS => ?_)
              refine lv_aload_n hx hb dX5_readPart_148 rfl (lv_at hl 0 rfl) ?_
              refine k_X5_take N ⟨hx, hb, hml, hown, hts⟩ mw_363 ⟨by dsimp only [rm_X5_take, rmq_sum, rmq_fact]; omega, by dsimp only [rm_X5_take, rmq_sum, rmq_fact]; omega⟩ h hK hP hD hS hl.1 (rest := []) (Nat.le_of_ble_eq_true rfl) ⟨Nat.le_of_ble_eq_true rfl, Nat.le_of_ble_eq_true rfl⟩ dX5_readPart_149 (fun r5 τ6 H locs h hP hD hS => ?_)
              exact zret_z hx hb hr hlocks hK hP hD hS h.1 h.2 dX5_readPart_152
        · have h := h.1 hc
          exact t_X5_readPart_94 C0 hK N hSm  τ2 _ _ _ h hP hD hS (lv_sub hl [0] rfl)
    · have h := h.2 hc
      refine lv_aload_n hx hb dX5_readPart_47 rfl (lv_at hl 0 rfl) ?_
      refine k_X5_takeOpening N ⟨hx, hb, hml, hown, hts⟩ mw_410 ⟨by dsimp only [rm_X5_takeOpening, rmq_sum, rmq_fact]; omega, by dsimp only [rm_X5_takeOpening, rmq_sum, rmq_fact]; omega⟩ h hK hP hD hS hl.1 (rest := []) (Nat.le_of_ble_eq_true rfl) ⟨Nat.le_of_ble_eq_true rfl, Nat.le_of_ble_eq_true rfl⟩ dX5_readPart_48 (fun r7 τ8 H locs h hP hD hS => ?_)
      refine lv_if_eq (tgt := 74) hx hb dX5_readPart_51 (by decide) (fun hc => ?_) (fun hc => ?_)
      · have h := h.1 hc
        refine lv_iconst (v := (0 : Int32)) hx hb dX5_readPart_74 (by decide) ?_
        exact zret_z hx hb hr hlocks hK hP hD hS zb_0 h dX5_readPart_75
      · have h := h.2 hc
        refine lv_aload_n hx hb dX5_readPart_54 rfl (lv_at hl 0 rfl) ?_
        refine zcv_i [] ⟨hx, hb, hml, hown, hts⟩ (hSm H.size τ8 _ h) (cw_X5_readSum hts mw_393 rfl rfl ⟨by dsimp only [rmq_sum, rmq_fact]; omega, by dsimp only [rmq_sum, rmq_fact]; omega⟩) (T := TX5) (N' := 14) (k := 5) (ci := 5) (fs := x_f5 ad τ8) rfl rfl hK hP hD hS rfl hl.1 (rest := []) (Nat.le_of_ble_eq_true rfl) rfl ⟨Nat.le_of_ble_eq_true rfl, Nat.le_of_ble_eq_true rfl⟩ dX5_readPart_55 (fun r9 τ10 H locs h hP hD hS => ?_)
        refine lv_if_eq (tgt := 74) hx hb dX5_readPart_58 (by decide) (fun hc => ?_) (fun hc => ?_)
        · have h := h.1 hc
          refine lv_iconst (v := (0 : Int32)) hx hb dX5_readPart_74 (by decide) ?_
          exact zret_z hx hb hr hlocks hK hP hD hS zb_0 h dX5_readPart_75
        · have h := h.2 hc
          refine lv_aload_n hx hb dX5_readPart_61 rfl (lv_at hl 0 rfl) ?_
          refine lv_bipush (v := (41 : Int32)) hx hb dX5_readPart_62 (by decide) ?_
          refine k_X5_takeSign N ⟨hx, hb, hml, hown, hts⟩ mw_413 ⟨by dsimp only [rm_X5_takeSign, rmq_sum, rmq_fact]; omega, by dsimp only [rm_X5_takeSign, rmq_sum, rmq_fact]; omega⟩ h hK hP hD hS hl.1 (rest := []) (Nat.le_of_ble_eq_true rfl) ⟨Nat.le_of_ble_eq_true rfl, Nat.le_of_ble_eq_true rfl⟩ dX5_readPart_64 (fun r11 τ12 H locs h hP hD hS => ?_)
          refine lv_if_eq (tgt := 74) hx hb dX5_readPart_67 (by decide) (fun hc => ?_) (fun hc => ?_)
          · have h := h.1 hc
            refine lv_iconst (v := (0 : Int32)) hx hb dX5_readPart_74 (by decide) ?_
            exact zret_z hx hb hr hlocks hK hP hD hS zb_0 h dX5_readPart_75
          · have h := h.2 hc
            refine lv_iconst (v := (1 : Int32)) hx hb dX5_readPart_70 (by decide) ?_
            refine lv_goto (tgt := 75) hx hb dX5_readPart_71 (by decide) ?_
            exact zret_z hx hb hr hlocks hK hP hD hS zb_1 h dX5_readPart_75
  · have h := h.1 hc
    refine lv_aload_n hx hb dX5_readPart_8 rfl (lv_at hl 0 rfl) ?_
    refine lv_ldc (v := (1000000 : Int32)) hx hb hown (hts _ (List.mem_cons_of_mem _ mw_402)) dX5_readPart_9 ?_
    refine k_X5_seesNumber N ⟨hx, hb, hml, hown, hts⟩ mw_382 ⟨by dsimp only [rm_X5_seesNumber, rmq_sum, rmq_fact]; omega, by dsimp only [rm_X5_seesNumber, rmq_sum, rmq_fact]; omega⟩ h hK hP hD hS hl.1 (rest := []) (Nat.le_of_ble_eq_true rfl) ⟨Nat.le_of_ble_eq_true rfl, Nat.le_of_ble_eq_true rfl⟩ dX5_readPart_11 (fun r13 τ14 H locs h hP hD hS => ?_)
    refine lv_if_ne (tgt := 19) hx hb dX5_readPart_14 (by decide) (fun hc => ?_) (fun hc => ?_)
    · have h := h.2 hc
      refine lv_aload_n hx hb dX5_readPart_19 rfl (lv_at hl 0 rfl) ?_
      refine xg_5_2 hx hb hts hown hK hP mw_176 dX5_readPart_20 ?_
      refine lv_bipush (v := (100 : Int32)) hx hb dX5_readPart_23 (by decide) ?_
      refine lv_aload_n hx hb dX5_readPart_25 rfl (lv_at hl 0 rfl) ?_
      refine xg_5_12 hx hb hts hown hK hP mw_190 dX5_readPart_26 ?_
      refine lv_iadd hx hb dX5_readPart_29 ?_
      refine k_X6_emit N ⟨hx, hb, hml, hown, hts⟩ mw_403 ⟨by dsimp only [rm_X6_emit, rmq_sum, rmq_fact]; omega, by dsimp only [rm_X6_emit, rmq_sum, rmq_fact]; omega⟩ h hK hP hD hS hl.1 (rest := []) (Nat.le_of_ble_eq_true rfl) ⟨Nat.le_of_ble_eq_true rfl, Nat.le_of_ble_eq_true rfl⟩ dX5_readPart_30 (fun τ16 H locs h hP hD hS => ?_)
      refine lv_aload_n hx hb dX5_readPart_33 rfl (lv_at hl 0 rfl) ?_
      refine k_X5_take N ⟨hx, hb, hml, hown, hts⟩ mw_363 ⟨by dsimp only [rm_X5_take, rmq_sum, rmq_fact]; omega, by dsimp only [rm_X5_take, rmq_sum, rmq_fact]; omega⟩ h hK hP hD hS hl.1 (rest := []) (Nat.le_of_ble_eq_true rfl) ⟨Nat.le_of_ble_eq_true rfl, Nat.le_of_ble_eq_true rfl⟩ dX5_readPart_34 (fun r17 τ18 H locs h hP hD hS => ?_)
      exact zret_z hx hb hr hlocks hK hP hD hS h.1 h.2 dX5_readPart_37
    · have h := h.1 hc
      refine lv_iconst (v := (0 : Int32)) hx hb dX5_readPart_17 (by decide) ?_
      exact zret_z hx hb hr hlocks hK hP hD hS zb_0 h dX5_readPart_18
set_option maxHeartbeats 4000000 in
set_option maxRecDepth 100000 in
theorem c_X5_readPart (N : Nat) (l : Launch) (dC : Nat → ClassId) (dI : Nat → Nat → Nat) (ad : Nat → Nat) (cI cJ : ClassId) {d : Nat} {S : zSt → (Int32 → zSt → Prop) → Prop} (hSm : ∀ (sz : Nat) (σ : zSt) (Q : Int32 → zSt → Prop), S σ Q → Met l yX5_readSum vs_X5_readSum (rmq_sum 0 d) (va_Pc [.ref (ad 5)] (zPc (dC, dI) (x_ty cI cJ) (x_W ad cI cJ) sz σ)) (zQi (dC, dI) (x_ty cI cJ) (x_W ad cI cJ) (zAW x_n ad sz) Q) 0 0 (zAW x_n ad sz)) (sz : Nat) (σ : zSt)  (Q : Int32 → zSt → Prop) (h : w_X5_readPart N S  σ Q) : Met l yX5_readPart vs_X5_readPart (rmq_sum 2 d) (va_Pc [.ref (ad 5)] (zPc (dC, dI) (x_ty cI cJ) (x_W ad cI cJ) sz σ)) (zQi (dC, dI) (x_ty cI cJ) (x_W ad cI cJ) (zAW x_n ad sz) Q) 0 0 (zAW x_n ad sz) := by
  refine Met.ofW (cc := cX5_readPart) (maxL := 1) (ret := (some .boolean)) (by decide) rfl ?_
  intro p e s m args below meth c s₁ B hml hv
  obtain ⟨rfl, hsz, hP, hK, hD0⟩ := hv
  subst hsz
  have C0 : zCx p s m meth c _ RX5 cX5_readPart 1 (some .boolean) vs_X5_readPart := ⟨B.exec, B.bytes, hml, B.returns, findClass_of_methodNamed B.named, atoms_spec (ws := vs_X5_readPart) B.pre, B.notSynchronized⟩
  have hD := x_D0 (n0 := s.heap.size) hD0
  have hl := lv_entry ([.ref (ad 5)]) (n := 1) (Nat.le_of_ble_eq_true rfl)
  rw [lg_entry_eq]
  generalize (lg_sl ([.ref (ad 5)]) ++ List.replicate (1 - (lg_sl ([.ref (ad 5)])).length) Slot.unset).toArray = ls at hl ⊢
  exact t_X5_readPart_0 C0 hK N hSm  σ _ _ ls h hP hD va_S.rf hl
theorem k_X5_readPart (N : Nat) {d : Nat} {S : zSt → (Int32 → zSt → Prop) → Prop} (hSm : ∀ (sz : Nat) (σ : zSt) (Q : Int32 → zSt → Prop), S σ Q → Met l yX5_readSum vs_X5_readSum (rmq_sum 0 d) (va_Pc [.ref (ad 5)] (zPc (dC, dI) (x_ty cI cJ) (x_W ad cI cJ) sz σ)) (zQi (dC, dI) (x_ty cI cJ) (x_W ad cI cJ) (zAW x_n ad sz) Q) 0 0 (zAW x_n ad sz)) {R : Room} {H : Heap} {locs : List Loc} {cells slots : Nat} {Q2 : State → Prop} {cc : ByteArray} {nL pc index : Nat} {ls : Array Slot} {rest : List Value} {own : String} {c0 : Cond} {σ : zSt}  {Q : Int32 → zSt → Prop} (S0 : CallFix p m c cc nL s args (c0 :: zT) own) (hml : Cond.methodLink own index yX5_readPart ∈ zT) (hR : (rmq_sum 2 d).frames + 1 ≤ R.frames ∧ 8 + (1 + 11) + (rmq_sum 2 d).locals ≤ R.locals) (h : w_X5_readPart N S  σ Q) (hK : va_K (dC, dI) vwCl (x_ty cI cJ) s) (hP : va_P (dC, dI) vwCl (x_W ad cI cJ σ) H) (hD : va_D (zAW x_n ad s.heap.size) (x_W ad cI cJ σ)) (hS : va_S (zAW x_n ad s.heap.size) s.heap H locs) (hsz : ls.size = nL) (hW : (rest.map fun v => v.category).sum ≤ 8) (hcs : cells ≤ R.cells ∧ slots ≤ R.slots) (hdg : decode cc pc = .ok (.invokevirtual index, 3)) (kk : ∀ (r : Int32) (τ : zSt) (H1 : Heap) (locs1 : List Loc), Q r τ → va_P (dC, dI) vwCl (x_W ad cI cJ τ) H1 → va_D (zAW x_n ad s.heap.size) (x_W ad cI cJ τ) → va_S (zAW x_n ad s.heap.size) s.heap H1 locs1 → W p l e R s m args below meth c H1 locs1 cells slots Q2 (F0 m (pc + 3) ls (.int r :: rest))) : W p l e R s m args below meth c H locs cells slots Q2 (F0 m pc ls (.ref (ad 5) :: rest)) :=
  zcv_i (T := TX5) (N' := 14) (k := 5) (ci := 5) (fs := x_f5 ad σ) [] S0 (c_X5_readPart N l dC dI ad cI cJ hSm H.size σ  Q h) (cw_X5_readPart S0.2.2.2.2 hml rfl rfl hR) rfl rfl hK hP hD hS rfl hsz hW rfl hcs hdg kk
end q02
section q02
def b_X5_readProduct_50 (N : Nat) (S : zSt → (Int32 → zSt → Prop) → Prop) (k_11 : Int32 → zSt → Prop) (Q : Int32 → zSt → Prop) (x1 : Int32) (s0 : Int32) (σ : zSt) : Prop :=
  w_X5_take N σ (fun r1 τ2 => w_X5_readPart N S τ2 (fun r3 τ4 => (r3 = 0 → Q (0 : Int32) τ4) ∧ (¬ r3 = 0 → w_X6_emit N s0 τ4 (fun τ6 => ∀ v7 : Int32, v7 = x1 + (1 : Int32) → k_11 v7 τ6))))
def b_X5_readProduct_36 (N : Nat) (S : zSt → (Int32 → zSt → Prop) → Prop) (k_11 : Int32 → zSt → Prop) (Q : Int32 → zSt → Prop) (x1 : Int32) (σ : zSt) : Prop :=
  w_X5_isSign N (42 : Int32) σ (fun r1 τ2 => (r1 = 0 → b_X5_readProduct_50 N S k_11 Q x1 (3 : Int32) τ2) ∧ (¬ r1 = 0 → b_X5_readProduct_50 N S k_11 Q x1 (2 : Int32) τ2))
def b_X5_readProduct_11 (N : Nat) (S : zSt → (Int32 → zSt → Prop) → Prop) (k_11 : Int32 → zSt → Prop) (Q : Int32 → zSt → Prop) (x1 : Int32) (σ : zSt) : Prop :=
  ((800 : Int32) ≤ x1 → Q (1 : Int32) σ) ∧ (¬ (800 : Int32) ≤ x1 → w_X5_isSign N (42 : Int32) σ (fun r1 τ2 => (r1 = 0 → w_X5_isSign N (47 : Int32) τ2 (fun r3 τ4 => (r3 = 0 → Q (1 : Int32) τ4) ∧ (¬ r3 = 0 → b_X5_readProduct_36 N S k_11 Q x1 τ4))) ∧ (¬ r1 = 0 → b_X5_readProduct_36 N S k_11 Q x1 τ2)))
def w_X5_readProduct_11 (N : Nat) (S : zSt → (Int32 → zSt → Prop) → Prop) (Q : Int32 → zSt → Prop) : Nat → Int32 → zSt → Prop
  | 0 => fun _ _ => False
  | f + 1 => b_X5_readProduct_11 N S (w_X5_readProduct_11 N S  Q f) Q
def w_X5_readProduct (N : Nat) (S : zSt → (Int32 → zSt → Prop) → Prop)  (σ : zSt) (Q : Int32 → zSt → Prop) : Prop :=
  w_X5_readPart N S σ (fun r1 τ2 => (r1 = 0 → Q (0 : Int32) τ2) ∧ (¬ r1 = 0 → w_X5_readProduct_11 N S Q N (0 : Int32) τ2))
variable {p : Program} {l : Launch} {e : Env} {s : State} {m : MethodId} {args : Array Value} {below : List Frame} {meth : Method} {c : Code} {dC : Nat → ClassId} {dI : Nat → Nat → Nat} {ad : Nat → Nat} {cI cJ : ClassId}
set_option maxHeartbeats 4000000 in
set_option maxRecDepth 100000 in
theorem t_X5_readProduct_50 (C0 : zCx p s m meth c args RX5 cX5_readProduct 3 (some .boolean) vs_X5_readProduct) (hK : va_K (dC, dI) vwCl (x_ty cI cJ) s) (N : Nat) {d : Nat} {S : zSt → (Int32 → zSt → Prop) → Prop} (hSm : ∀ (sz : Nat) (σ : zSt) (Q : Int32 → zSt → Prop), S σ Q → Met l yX5_readSum vs_X5_readSum (rmq_sum 0 d) (va_Pc [.ref (ad 5)] (zPc (dC, dI) (x_ty cI cJ) (x_W ad cI cJ) sz σ)) (zQi (dC, dI) (x_ty cI cJ) (x_W ad cI cJ) (zAW x_n ad sz) Q) 0 0 (zAW x_n ad sz)) {Q : Int32 → zSt → Prop} {k_11 : Int32 → zSt → Prop} (hk_11 : ∀ (x1 : Int32) (σ : zSt) (H : Heap) (locs : List Loc) (ls : Array Slot), k_11 x1 σ → va_P (dC, dI) vwCl (x_W ad cI cJ σ) H → va_D (zAW x_n ad s.heap.size) (x_W ad cI cJ σ) → va_S (zAW x_n ad s.heap.size) s.heap H locs → lv_has ls 3 [(0, .ref (ad 5)), (1, .int x1)] → W p l e (rmq_sum 3 d) s m args below meth c H locs 0 0 (MQ below (zQi (dC, dI) (x_ty cI cJ) (x_W ad cI cJ) (zAW x_n ad s.heap.size) Q) args s 0 0 (zAW x_n ad s.heap.size)) (F0 m 11 ls [])) : ∀ (x1 : Int32) (s0 : Int32) (σ : zSt) (H : Heap) (locs : List Loc) (ls : Array Slot), b_X5_readProduct_50 N S k_11 Q x1 s0 σ → va_P (dC, dI) vwCl (x_W ad cI cJ σ) H → va_D (zAW x_n ad s.heap.size) (x_W ad cI cJ σ) → va_S (zAW x_n ad s.heap.size) s.heap H locs → lv_has ls 3 [(0, .ref (ad 5)), (1, .int x1)] → W p l e (rmq_sum 3 d) s m args below meth c H locs 0 0 (MQ below (zQi (dC, dI) (x_ty cI cJ) (x_W ad cI cJ) (zAW x_n ad s.heap.size) Q) args s 0 0 (zAW x_n ad s.heap.size)) (F0 m 50 ls [.int s0]) := by
  obtain ⟨hx, hb, hml, hr, hown, hts, hlocks⟩ := id C0
  intro x1 s0 σ H locs ls h hP hD hS hl
  unfold b_X5_readProduct_50 at h
  refine lv_istore_n (lv' := [(2, .int s0), (0, .ref (ad 5)), (1, .int x1)]) hx hb dX5_readProduct_50 rfl hl (by decide) rfl (fun ls hl => ?_)
  refine lv_aload_n hx hb dX5_readProduct_51 rfl (lv_at hl 1 rfl) ?_
  refine k_X5_take N ⟨hx, hb, hml, hown, hts⟩ mw_363 ⟨by dsimp only [rm_X5_take, rmq_sum, rmq_fact]; omega, by dsimp only [rm_X5_take, rmq_sum, rmq_fact]; omega⟩ h hK hP hD hS hl.1 (rest := []) (Nat.le_of_ble_eq_true rfl) ⟨Nat.le_of_ble_eq_true rfl, Nat.le_of_ble_eq_true rfl⟩ dX5_readProduct_52 (fun r1 τ2 H locs h hP hD hS => ?_)
  refine lv_pop hx hb dX5_readProduct_55 rfl ?_
  refine lv_aload_n hx hb dX5_readProduct_56 rfl (lv_at hl 1 rfl) ?_
  refine k_X5_readPart N hSm ⟨hx, hb, hml, hown, hts⟩ mw_399 ⟨by dsimp only [rmq_sum, rmq_fact]; omega, by dsimp only [rmq_sum, rmq_fact]; omega⟩ h hK hP hD hS hl.1 (rest := []) (Nat.le_of_ble_eq_true rfl) ⟨Nat.le_of_ble_eq_true rfl, Nat.le_of_ble_eq_true rfl⟩ dX5_readProduct_57 (fun r3 τ4 H locs h hP hD hS => ?_)
  refine lv_if_ne (tgt := 65) hx hb dX5_readProduct_60 (by decide) (fun hc => ?_) (fun hc => ?_)
  · have h := h.2 hc
    refine lv_aload_n hx hb dX5_readProduct_65 rfl (lv_at hl 1 rfl) ?_
    refine xg_5_2 hx hb hts hown hK hP mw_176 dX5_readProduct_66 ?_
    refine lv_iload_n hx hb dX5_readProduct_69 rfl (lv_at hl 0 rfl) ?_
    refine k_X6_emit N ⟨hx, hb, hml, hown, hts⟩ mw_403 ⟨by dsimp only [rm_X6_emit, rmq_sum, rmq_fact]; omega, by dsimp only [rm_X6_emit, rmq_sum, rmq_fact]; omega⟩ h hK hP hD hS hl.1 (rest := []) (Nat.le_of_ble_eq_true rfl) ⟨Nat.le_of_ble_eq_true rfl, Nat.le_of_ble_eq_true rfl⟩ dX5_readProduct_70 (fun τ6 H locs h hP hD hS => ?_)
    obtain ⟨v7, ev7⟩ : ∃ z : Int32, z = x1 + (1 : Int32) := ⟨_, rfl⟩
    have h := h v7 ev7
    refine lv_iinc (v := v7) (lv' := [(1, .int v7), (2, .int s0), (0, .ref (ad 5))]) hx hb dX5_readProduct_73 hl (k := 2) rfl (by rw [ev7]; rfl) (by decide) rfl (fun ls hl => ?_)
    refine lv_goto (tgt := 11) hx hb dX5_readProduct_76 (by decide) ?_
    exact hk_11 v7 τ6 _ _ _ h hP hD hS (lv_sub hl [2, 0] rfl)
  · have h := h.1 hc
    refine lv_iconst (v := (0 : Int32)) hx hb dX5_readProduct_63 (by decide) ?_
    exact zret_z hx hb hr hlocks hK hP hD hS zb_0 h dX5_readProduct_64
set_option maxHeartbeats 4000000 in
set_option maxRecDepth 100000 in
theorem t_X5_readProduct_36 (C0 : zCx p s m meth c args RX5 cX5_readProduct 3 (some .boolean) vs_X5_readProduct) (hK : va_K (dC, dI) vwCl (x_ty cI cJ) s) (N : Nat) {d : Nat} {S : zSt → (Int32 → zSt → Prop) → Prop} (hSm : ∀ (sz : Nat) (σ : zSt) (Q : Int32 → zSt → Prop), S σ Q → Met l yX5_readSum vs_X5_readSum (rmq_sum 0 d) (va_Pc [.ref (ad 5)] (zPc (dC, dI) (x_ty cI cJ) (x_W ad cI cJ) sz σ)) (zQi (dC, dI) (x_ty cI cJ) (x_W ad cI cJ) (zAW x_n ad sz) Q) 0 0 (zAW x_n ad sz)) {Q : Int32 → zSt → Prop} {k_11 : Int32 → zSt → Prop} (hk_11 : ∀ (x1 : Int32) (σ : zSt) (H : Heap) (locs : List Loc) (ls : Array Slot), k_11 x1 σ → va_P (dC, dI) vwCl (x_W ad cI cJ σ) H → va_D (zAW x_n ad s.heap.size) (x_W ad cI cJ σ) → va_S (zAW x_n ad s.heap.size) s.heap H locs → lv_has ls 3 [(0, .ref (ad 5)), (1, .int x1)] → W p l e (rmq_sum 3 d) s m args below meth c H locs 0 0 (MQ below (zQi (dC, dI) (x_ty cI cJ) (x_W ad cI cJ) (zAW x_n ad s.heap.size) Q) args s 0 0 (zAW x_n ad s.heap.size)) (F0 m 11 ls [])) : ∀ (x1 : Int32) (σ : zSt) (H : Heap) (locs : List Loc) (ls : Array Slot), b_X5_readProduct_36 N S k_11 Q x1 σ → va_P (dC, dI) vwCl (x_W ad cI cJ σ) H → va_D (zAW x_n ad s.heap.size) (x_W ad cI cJ σ) → va_S (zAW x_n ad s.heap.size) s.heap H locs → lv_has ls 3 [(0, .ref (ad 5)), (1, .int x1)] → W p l e (rmq_sum 3 d) s m args below meth c H locs 0 0 (MQ below (zQi (dC, dI) (x_ty cI cJ) (x_W ad cI cJ) (zAW x_n ad s.heap.size) Q) args s 0 0 (zAW x_n ad s.heap.size)) (F0 m 36 ls []) := by
  obtain ⟨hx, hb, hml, hr, hown, hts, hlocks⟩ := id C0
  intro x1 σ H locs ls h hP hD hS hl
  unfold b_X5_readProduct_36 at h
  refine lv_aload_n hx hb dX5_readProduct_36 rfl (lv_at hl 0 rfl) ?_
  refine lv_bipush (v := (42 : Int32)) hx hb dX5_readProduct_37 (by decide) ?_
  refine k_X5_isSign N ⟨hx, hb, hml, hown, hts⟩ mw_407 ⟨by dsimp only [rm_X5_isSign, rmq_sum, rmq_fact]; omega, by dsimp only [rm_X5_isSign, rmq_sum, rmq_fact]; omega⟩ h hK hP hD hS hl.1 (rest := []) (Nat.le_of_ble_eq_true rfl) ⟨Nat.le_of_ble_eq_true rfl, Nat.le_of_ble_eq_true rfl⟩ dX5_readProduct_39 (fun r1 τ2 H locs h hP hD hS => ?_)
  refine lv_if_eq (tgt := 49) hx hb dX5_readProduct_42 (by decide) (fun hc => ?_) (fun hc => ?_)
  · have h := h.1 hc
    refine lv_iconst (v := (3 : Int32)) hx hb dX5_readProduct_49 (by decide) ?_
    exact t_X5_readProduct_50 C0 hK N hSm hk_11 x1 (3 : Int32) τ2 _ _ _ h hP hD hS (lv_sub hl [0, 1] rfl)
  · have h := h.2 hc
    refine lv_iconst (v := (2 : Int32)) hx hb dX5_readProduct_45 (by decide) ?_
    refine lv_goto (tgt := 50) hx hb dX5_readProduct_46 (by decide) ?_
    exact t_X5_readProduct_50 C0 hK N hSm hk_11 x1 (2 : Int32) τ2 _ _ _ h hP hD hS (lv_sub hl [0, 1] rfl)
set_option maxHeartbeats 4000000 in
set_option maxRecDepth 100000 in
theorem tb_X5_readProduct_11 (C0 : zCx p s m meth c args RX5 cX5_readProduct 3 (some .boolean) vs_X5_readProduct) (hK : va_K (dC, dI) vwCl (x_ty cI cJ) s) (N : Nat) {d : Nat} {S : zSt → (Int32 → zSt → Prop) → Prop} (hSm : ∀ (sz : Nat) (σ : zSt) (Q : Int32 → zSt → Prop), S σ Q → Met l yX5_readSum vs_X5_readSum (rmq_sum 0 d) (va_Pc [.ref (ad 5)] (zPc (dC, dI) (x_ty cI cJ) (x_W ad cI cJ) sz σ)) (zQi (dC, dI) (x_ty cI cJ) (x_W ad cI cJ) (zAW x_n ad sz) Q) 0 0 (zAW x_n ad sz)) {Q : Int32 → zSt → Prop} {k_11 : Int32 → zSt → Prop} (hk_11 : ∀ (x1 : Int32) (σ : zSt) (H : Heap) (locs : List Loc) (ls : Array Slot), k_11 x1 σ → va_P (dC, dI) vwCl (x_W ad cI cJ σ) H → va_D (zAW x_n ad s.heap.size) (x_W ad cI cJ σ) → va_S (zAW x_n ad s.heap.size) s.heap H locs → lv_has ls 3 [(0, .ref (ad 5)), (1, .int x1)] → W p l e (rmq_sum 3 d) s m args below meth c H locs 0 0 (MQ below (zQi (dC, dI) (x_ty cI cJ) (x_W ad cI cJ) (zAW x_n ad s.heap.size) Q) args s 0 0 (zAW x_n ad s.heap.size)) (F0 m 11 ls [])) : ∀ (x1 : Int32) (σ : zSt) (H : Heap) (locs : List Loc) (ls : Array Slot), b_X5_readProduct_11 N S k_11 Q x1 σ → va_P (dC, dI) vwCl (x_W ad cI cJ σ) H → va_D (zAW x_n ad s.heap.size) (x_W ad cI cJ σ) → va_S (zAW x_n ad s.heap.size) s.heap H locs → lv_has ls 3 [(0, .ref (ad 5)), (1, .int x1)] → W p l e (rmq_sum 3 d) s m args below meth c H locs 0 0 (MQ below (zQi (dC, dI) (x_ty cI cJ) (x_W ad cI cJ) (zAW x_n ad s.heap.size) Q) args s 0 0 (zAW x_n ad s.heap.size)) (F0 m 11 ls []) := by
  obtain ⟨hx, hb, hml, hr, hown, hts, hlocks⟩ := id C0
  intro x1 σ H locs ls h hP hD hS hl
  unfold b_X5_readProduct_11 at h
  refine lv_iload_n hx hb dX5_readProduct_11 rfl (lv_at hl 1 rfl) ?_
  refine lv_sipush (v := (800 : Int32)) hx hb dX5_readProduct_12 (by decide) ?_
  refine lv_icmp_ge (tgt := 79) hx hb dX5_readProduct_15 (by decide) (fun hc => ?_) (fun hc => ?_)
  · have h := h.1 hc
    refine lv_iconst (v := (1 : Int32)) hx hb dX5_readProduct_79 (by decide) ?_
    exact zret_z hx hb hr hlocks hK hP hD hS zb_1 h dX5_readProduct_80
  · have h := h.2 hc
    refine lv_aload_n hx hb dX5_readProduct_18 rfl (lv_at hl 0 rfl) ?_
    refine lv_bipush (v := (42 : Int32)) hx hb dX5_readProduct_19 (by decide) ?_
    refine k_X5_isSign N ⟨hx, hb, hml, hown, hts⟩ mw_407 ⟨by dsimp only [rm_X5_isSign, rmq_sum, rmq_fact]; omega, by dsimp only [rm_X5_isSign, rmq_sum, rmq_fact]; omega⟩ h hK hP hD hS hl.1 (rest := []) (Nat.le_of_ble_eq_true rfl) ⟨Nat.le_of_ble_eq_true rfl, Nat.le_of_ble_eq_true rfl⟩ dX5_readProduct_21 (fun r1 τ2 H locs h hP hD hS => ?_)
    refine lv_if_ne (tgt := 36) hx hb dX5_readProduct_24 (by decide) (fun hc => ?_) (fun hc => ?_)
    · have h := h.2 hc
      exact t_X5_readProduct_36 C0 hK N hSm hk_11 x1 τ2 _ _ _ h hP hD hS (lv_sub hl [0, 1] rfl)
    · have h := h.1 hc
      refine lv_aload_n hx hb dX5_readProduct_27 rfl (lv_at hl 0 rfl) ?_
      refine lv_bipush (v := (47 : Int32)) hx hb dX5_readProduct_28 (by decide) ?_
      refine k_X5_isSign N ⟨hx, hb, hml, hown, hts⟩ mw_407 ⟨by dsimp only [rm_X5_isSign, rmq_sum, rmq_fact]; omega, by dsimp only [rm_X5_isSign, rmq_sum, rmq_fact]; omega⟩ h hK hP hD hS hl.1 (rest := []) (Nat.le_of_ble_eq_true rfl) ⟨Nat.le_of_ble_eq_true rfl, Nat.le_of_ble_eq_true rfl⟩ dX5_readProduct_30 (fun r3 τ4 H locs h hP hD hS => ?_)
      refine lv_if_eq (tgt := 79) hx hb dX5_readProduct_33 (by decide) (fun hc => ?_) (fun hc => ?_)
      · have h := h.1 hc
        refine lv_iconst (v := (1 : Int32)) hx hb dX5_readProduct_79 (by decide) ?_
        exact zret_z hx hb hr hlocks hK hP hD hS zb_1 h dX5_readProduct_80
      · have h := h.2 hc
        exact t_X5_readProduct_36 C0 hK N hSm hk_11 x1 τ4 _ _ _ h hP hD hS (lv_sub hl [0, 1] rfl)
set_option maxHeartbeats 4000000 in
set_option maxRecDepth 100000 in
theorem t_X5_readProduct_11 (C0 : zCx p s m meth c args RX5 cX5_readProduct 3 (some .boolean) vs_X5_readProduct) (hK : va_K (dC, dI) vwCl (x_ty cI cJ) s) (N : Nat) {d : Nat} {S : zSt → (Int32 → zSt → Prop) → Prop} (hSm : ∀ (sz : Nat) (σ : zSt) (Q : Int32 → zSt → Prop), S σ Q → Met l yX5_readSum vs_X5_readSum (rmq_sum 0 d) (va_Pc [.ref (ad 5)] (zPc (dC, dI) (x_ty cI cJ) (x_W ad cI cJ) sz σ)) (zQi (dC, dI) (x_ty cI cJ) (x_W ad cI cJ) (zAW x_n ad sz) Q) 0 0 (zAW x_n ad sz)) {Q : Int32 → zSt → Prop} : ∀ (f : Nat) (x1 : Int32) (σ : zSt) (H : Heap) (locs : List Loc) (ls : Array Slot), w_X5_readProduct_11 N S  Q f x1 σ → va_P (dC, dI) vwCl (x_W ad cI cJ σ) H → va_D (zAW x_n ad s.heap.size) (x_W ad cI cJ σ) → va_S (zAW x_n ad s.heap.size) s.heap H locs → lv_has ls 3 [(0, .ref (ad 5)), (1, .int x1)] → W p l e (rmq_sum 3 d) s m args below meth c H locs 0 0 (MQ below (zQi (dC, dI) (x_ty cI cJ) (x_W ad cI cJ) (zAW x_n ad s.heap.size) Q) args s 0 0 (zAW x_n ad s.heap.size)) (F0 m 11 ls []) := by
  intro f
  induction f with
  | zero => intro x1 σ H locs ls h; exact h.elim
  | succ f ih =>
    intro x1 σ H locs ls h hP hD hS hl
    exact tb_X5_readProduct_11 C0 hK N hSm  (k_11 := w_X5_readProduct_11 N S  Q f) ih x1 σ H locs ls h hP hD hS hl
set_option maxHeartbeats 4000000 in
set_option maxRecDepth 100000 in
theorem t_X5_readProduct_0 (C0 : zCx p s m meth c args RX5 cX5_readProduct 3 (some .boolean) vs_X5_readProduct) (hK : va_K (dC, dI) vwCl (x_ty cI cJ) s) (N : Nat) {d : Nat} {S : zSt → (Int32 → zSt → Prop) → Prop} (hSm : ∀ (sz : Nat) (σ : zSt) (Q : Int32 → zSt → Prop), S σ Q → Met l yX5_readSum vs_X5_readSum (rmq_sum 0 d) (va_Pc [.ref (ad 5)] (zPc (dC, dI) (x_ty cI cJ) (x_W ad cI cJ) sz σ)) (zQi (dC, dI) (x_ty cI cJ) (x_W ad cI cJ) (zAW x_n ad sz) Q) 0 0 (zAW x_n ad sz)) {Q : Int32 → zSt → Prop} : ∀  (σ : zSt) (H : Heap) (locs : List Loc) (ls : Array Slot), w_X5_readProduct N S  σ Q → va_P (dC, dI) vwCl (x_W ad cI cJ σ) H → va_D (zAW x_n ad s.heap.size) (x_W ad cI cJ σ) → va_S (zAW x_n ad s.heap.size) s.heap H locs → lv_has ls 3 [(0, .ref (ad 5))] → W p l e (rmq_sum 3 d) s m args below meth c H locs 0 0 (MQ below (zQi (dC, dI) (x_ty cI cJ) (x_W ad cI cJ) (zAW x_n ad s.heap.size) Q) args s 0 0 (zAW x_n ad s.heap.size)) (F0 m 0 ls []) := by
  obtain ⟨hx, hb, hml, hr, hown, hts, hlocks⟩ := id C0
  intro  σ H locs ls h hP hD hS hl
  unfold w_X5_readProduct at h
  refine lv_aload_n hx hb dX5_readProduct_0 rfl (lv_at hl 0 rfl) ?_
  refine k_X5_readPart N hSm ⟨hx, hb, hml, hown, hts⟩ mw_399 ⟨by dsimp only [rmq_sum, rmq_fact]; omega, by dsimp only [rmq_sum, rmq_fact]; omega⟩ h hK hP hD hS hl.1 (rest := []) (Nat.le_of_ble_eq_true rfl) ⟨Nat.le_of_ble_eq_true rfl, Nat.le_of_ble_eq_true rfl⟩ dX5_readProduct_1 (fun r1 τ2 H locs h hP hD hS => ?_)
  refine lv_if_ne (tgt := 9) hx hb dX5_readProduct_4 (by decide) (fun hc => ?_) (fun hc => ?_)
  · have h := h.2 hc
    refine lv_iconst (v := (0 : Int32)) hx hb dX5_readProduct_9 (by decide) ?_
    refine lv_istore_n (lv' := [(1, .int (0 : Int32)), (0, .ref (ad 5))]) hx hb dX5_readProduct_10 rfl hl (by decide) rfl (fun ls hl => ?_)
    exact t_X5_readProduct_11 C0 hK N hSm  N (0 : Int32) τ2 _ _ _ h hP hD hS (lv_sub hl [1, 0] rfl)
  · have h := h.1 hc
    refine lv_iconst (v := (0 : Int32)) hx hb dX5_readProduct_7 (by decide) ?_
    exact zret_z hx hb hr hlocks hK hP hD hS zb_0 h dX5_readProduct_8
set_option maxHeartbeats 4000000 in
set_option maxRecDepth 100000 in
theorem c_X5_readProduct (N : Nat) (l : Launch) (dC : Nat → ClassId) (dI : Nat → Nat → Nat) (ad : Nat → Nat) (cI cJ : ClassId) {d : Nat} {S : zSt → (Int32 → zSt → Prop) → Prop} (hSm : ∀ (sz : Nat) (σ : zSt) (Q : Int32 → zSt → Prop), S σ Q → Met l yX5_readSum vs_X5_readSum (rmq_sum 0 d) (va_Pc [.ref (ad 5)] (zPc (dC, dI) (x_ty cI cJ) (x_W ad cI cJ) sz σ)) (zQi (dC, dI) (x_ty cI cJ) (x_W ad cI cJ) (zAW x_n ad sz) Q) 0 0 (zAW x_n ad sz)) (sz : Nat) (σ : zSt)  (Q : Int32 → zSt → Prop) (h : w_X5_readProduct N S  σ Q) : Met l yX5_readProduct vs_X5_readProduct (rmq_sum 3 d) (va_Pc [.ref (ad 5)] (zPc (dC, dI) (x_ty cI cJ) (x_W ad cI cJ) sz σ)) (zQi (dC, dI) (x_ty cI cJ) (x_W ad cI cJ) (zAW x_n ad sz) Q) 0 0 (zAW x_n ad sz) := by
  refine Met.ofW (cc := cX5_readProduct) (maxL := 3) (ret := (some .boolean)) (by decide) rfl ?_
  intro p e s m args below meth c s₁ B hml hv
  obtain ⟨rfl, hsz, hP, hK, hD0⟩ := hv
  subst hsz
  have C0 : zCx p s m meth c _ RX5 cX5_readProduct 3 (some .boolean) vs_X5_readProduct := ⟨B.exec, B.bytes, hml, B.returns, findClass_of_methodNamed B.named, atoms_spec (ws := vs_X5_readProduct) B.pre, B.notSynchronized⟩
  have hD := x_D0 (n0 := s.heap.size) hD0
  have hl := lv_entry ([.ref (ad 5)]) (n := 3) (Nat.le_of_ble_eq_true rfl)
  rw [lg_entry_eq]
  generalize (lg_sl ([.ref (ad 5)]) ++ List.replicate (3 - (lg_sl ([.ref (ad 5)])).length) Slot.unset).toArray = ls at hl ⊢
  exact t_X5_readProduct_0 C0 hK N hSm  σ _ _ ls h hP hD va_S.rf hl
theorem k_X5_readProduct (N : Nat) {d : Nat} {S : zSt → (Int32 → zSt → Prop) → Prop} (hSm : ∀ (sz : Nat) (σ : zSt) (Q : Int32 → zSt → Prop), S σ Q → Met l yX5_readSum vs_X5_readSum (rmq_sum 0 d) (va_Pc [.ref (ad 5)] (zPc (dC, dI) (x_ty cI cJ) (x_W ad cI cJ) sz σ)) (zQi (dC, dI) (x_ty cI cJ) (x_W ad cI cJ) (zAW x_n ad sz) Q) 0 0 (zAW x_n ad sz)) {R : Room} {H : Heap} {locs : List Loc} {cells slots : Nat} {Q2 : State → Prop} {cc : ByteArray} {nL pc index : Nat} {ls : Array Slot} {rest : List Value} {own : String} {c0 : Cond} {σ : zSt}  {Q : Int32 → zSt → Prop} (S0 : CallFix p m c cc nL s args (c0 :: zT) own) (hml : Cond.methodLink own index yX5_readProduct ∈ zT) (hR : (rmq_sum 3 d).frames + 1 ≤ R.frames ∧ 8 + (3 + 11) + (rmq_sum 3 d).locals ≤ R.locals) (h : w_X5_readProduct N S  σ Q) (hK : va_K (dC, dI) vwCl (x_ty cI cJ) s) (hP : va_P (dC, dI) vwCl (x_W ad cI cJ σ) H) (hD : va_D (zAW x_n ad s.heap.size) (x_W ad cI cJ σ)) (hS : va_S (zAW x_n ad s.heap.size) s.heap H locs) (hsz : ls.size = nL) (hW : (rest.map fun v => v.category).sum ≤ 8) (hcs : cells ≤ R.cells ∧ slots ≤ R.slots) (hdg : decode cc pc = .ok (.invokevirtual index, 3)) (kk : ∀ (r : Int32) (τ : zSt) (H1 : Heap) (locs1 : List Loc), Q r τ → va_P (dC, dI) vwCl (x_W ad cI cJ τ) H1 → va_D (zAW x_n ad s.heap.size) (x_W ad cI cJ τ) → va_S (zAW x_n ad s.heap.size) s.heap H1 locs1 → W p l e R s m args below meth c H1 locs1 cells slots Q2 (F0 m (pc + 3) ls (.int r :: rest))) : W p l e R s m args below meth c H locs cells slots Q2 (F0 m pc ls (.ref (ad 5) :: rest)) :=
  zcv_i (T := TX5) (N' := 14) (k := 5) (ci := 5) (fs := x_f5 ad σ) [] S0 (c_X5_readProduct N l dC dI ad cI cJ hSm H.size σ  Q h) (cw_X5_readProduct S0.2.2.2.2 hml rfl rfl hR) rfl rfl hK hP hD hS rfl hsz hW rfl hcs hdg kk
end q02
section q02
def b_X5_readSum_50 (N : Nat) (S : zSt → (Int32 → zSt → Prop) → Prop) (k_11 : Int32 → zSt → Prop) (Q : Int32 → zSt → Prop) (x1 : Int32) (s0 : Int32) (σ : zSt) : Prop :=
  w_X5_take N σ (fun r1 τ2 => w_X5_readProduct N S τ2 (fun r3 τ4 => (r3 = 0 → Q (0 : Int32) τ4) ∧ (¬ r3 = 0 → w_X6_emit N s0 τ4 (fun τ6 => ∀ v7 : Int32, v7 = x1 + (1 : Int32) → k_11 v7 τ6))))
def b_X5_readSum_36 (N : Nat) (S : zSt → (Int32 → zSt → Prop) → Prop) (k_11 : Int32 → zSt → Prop) (Q : Int32 → zSt → Prop) (x1 : Int32) (σ : zSt) : Prop :=
  w_X5_isSign N (43 : Int32) σ (fun r1 τ2 => (r1 = 0 → b_X5_readSum_50 N S k_11 Q x1 (1 : Int32) τ2) ∧ (¬ r1 = 0 → b_X5_readSum_50 N S k_11 Q x1 (0 : Int32) τ2))
def b_X5_readSum_11 (N : Nat) (S : zSt → (Int32 → zSt → Prop) → Prop) (k_11 : Int32 → zSt → Prop) (Q : Int32 → zSt → Prop) (x1 : Int32) (σ : zSt) : Prop :=
  ((800 : Int32) ≤ x1 → Q (1 : Int32) σ) ∧ (¬ (800 : Int32) ≤ x1 → w_X5_isSign N (43 : Int32) σ (fun r1 τ2 => (r1 = 0 → w_X5_isSign N (45 : Int32) τ2 (fun r3 τ4 => (r3 = 0 → Q (1 : Int32) τ4) ∧ (¬ r3 = 0 → b_X5_readSum_36 N S k_11 Q x1 τ4))) ∧ (¬ r1 = 0 → b_X5_readSum_36 N S k_11 Q x1 τ2)))
def w_X5_readSum_11 (N : Nat) (S : zSt → (Int32 → zSt → Prop) → Prop) (Q : Int32 → zSt → Prop) : Nat → Int32 → zSt → Prop
  | 0 => fun _ _ => False
  | f + 1 => b_X5_readSum_11 N S (w_X5_readSum_11 N S  Q f) Q
def wb_X5_readSum (N : Nat) (S : zSt → (Int32 → zSt → Prop) → Prop)  (σ : zSt) (Q : Int32 → zSt → Prop) : Prop :=
  w_X5_readProduct N S σ (fun r1 τ2 => (r1 = 0 → Q (0 : Int32) τ2) ∧ (¬ r1 = 0 → w_X5_readSum_11 N S Q N (0 : Int32) τ2))
def w_X5_readSum (N : Nat) : Nat → zSt → (Int32 → zSt → Prop) → Prop
  | 0 => fun _ _ => False
  | d + 1 => wb_X5_readSum N (w_X5_readSum N d)
variable {p : Program} {l : Launch} {e : Env} {s : State} {m : MethodId} {args : Array Value} {below : List Frame} {meth : Method} {c : Code} {dC : Nat → ClassId} {dI : Nat → Nat → Nat} {ad : Nat → Nat} {cI cJ : ClassId}
set_option maxHeartbeats 4000000 in
set_option maxRecDepth 100000 in
theorem t_X5_readSum_50 (C0 : zCx p s m meth c args RX5 cX5_readSum 3 (some .boolean) vs_X5_readSum) (hK : va_K (dC, dI) vwCl (x_ty cI cJ) s) (N : Nat) {d : Nat} {S : zSt → (Int32 → zSt → Prop) → Prop} (hSm : ∀ (sz : Nat) (σ : zSt) (Q : Int32 → zSt → Prop), S σ Q → Met l yX5_readSum vs_X5_readSum (rmq_sum 0 d) (va_Pc [.ref (ad 5)] (zPc (dC, dI) (x_ty cI cJ) (x_W ad cI cJ) sz σ)) (zQi (dC, dI) (x_ty cI cJ) (x_W ad cI cJ) (zAW x_n ad sz) Q) 0 0 (zAW x_n ad sz)) {Q : Int32 → zSt → Prop} {k_11 : Int32 → zSt → Prop} (hk_11 : ∀ (x1 : Int32) (σ : zSt) (H : Heap) (locs : List Loc) (ls : Array Slot), k_11 x1 σ → va_P (dC, dI) vwCl (x_W ad cI cJ σ) H → va_D (zAW x_n ad s.heap.size) (x_W ad cI cJ σ) → va_S (zAW x_n ad s.heap.size) s.heap H locs → lv_has ls 3 [(0, .ref (ad 5)), (1, .int x1)] → W p l e (rmq_sum 0 (d + 1)) s m args below meth c H locs 0 0 (MQ below (zQi (dC, dI) (x_ty cI cJ) (x_W ad cI cJ) (zAW x_n ad s.heap.size) Q) args s 0 0 (zAW x_n ad s.heap.size)) (F0 m 11 ls [])) : ∀ (x1 : Int32) (s0 : Int32) (σ : zSt) (H : Heap) (locs : List Loc) (ls : Array Slot), b_X5_readSum_50 N S k_11 Q x1 s0 σ → va_P (dC, dI) vwCl (x_W ad cI cJ σ) H → va_D (zAW x_n ad s.heap.size) (x_W ad cI cJ σ) → va_S (zAW x_n ad s.heap.size) s.heap H locs → lv_has ls 3 [(0, .ref (ad 5)), (1, .int x1)] → W p l e (rmq_sum 0 (d + 1)) s m args below meth c H locs 0 0 (MQ below (zQi (dC, dI) (x_ty cI cJ) (x_W ad cI cJ) (zAW x_n ad s.heap.size) Q) args s 0 0 (zAW x_n ad s.heap.size)) (F0 m 50 ls [.int s0]) := by
  obtain ⟨hx, hb, hml, hr, hown, hts, hlocks⟩ := id C0
  intro x1 s0 σ H locs ls h hP hD hS hl
  unfold b_X5_readSum_50 at h
  refine lv_istore_n (lv' := [(2, .int s0), (0, .ref (ad 5)), (1, .int x1)]) hx hb dX5_readSum_50 rfl hl (by decide) rfl (fun ls hl => ?_)
  refine lv_aload_n hx hb dX5_readSum_51 rfl (lv_at hl 1 rfl) ?_
  refine k_X5_take N ⟨hx, hb, hml, hown, hts⟩ mw_363 ⟨by dsimp only [rm_X5_take, rmq_sum, rmq_fact]; omega, by dsimp only [rm_X5_take, rmq_sum, rmq_fact]; omega⟩ h hK hP hD hS hl.1 (rest := []) (Nat.le_of_ble_eq_true rfl) ⟨Nat.le_of_ble_eq_true rfl, Nat.le_of_ble_eq_true rfl⟩ dX5_readSum_52 (fun r1 τ2 H locs h hP hD hS => ?_)
  refine lv_pop hx hb dX5_readSum_55 rfl ?_
  refine lv_aload_n hx hb dX5_readSum_56 rfl (lv_at hl 1 rfl) ?_
  refine k_X5_readProduct N hSm ⟨hx, hb, hml, hown, hts⟩ mw_396 ⟨by dsimp only [rmq_sum, rmq_fact]; omega, by dsimp only [rmq_sum, rmq_fact]; omega⟩ h hK hP hD hS hl.1 (rest := []) (Nat.le_of_ble_eq_true rfl) ⟨Nat.le_of_ble_eq_true rfl, Nat.le_of_ble_eq_true rfl⟩ dX5_readSum_57 (fun r3 τ4 H locs h hP hD hS => ?_)
  refine lv_if_ne (tgt := 65) hx hb dX5_readSum_60 (by decide) (fun hc => ?_) (fun hc => ?_)
  · have h := h.2 hc
    refine lv_aload_n hx hb dX5_readSum_65 rfl (lv_at hl 1 rfl) ?_
    refine xg_5_2 hx hb hts hown hK hP mw_176 dX5_readSum_66 ?_
    refine lv_iload_n hx hb dX5_readSum_69 rfl (lv_at hl 0 rfl) ?_
    refine k_X6_emit N ⟨hx, hb, hml, hown, hts⟩ mw_403 ⟨by dsimp only [rm_X6_emit, rmq_sum, rmq_fact]; omega, by dsimp only [rm_X6_emit, rmq_sum, rmq_fact]; omega⟩ h hK hP hD hS hl.1 (rest := []) (Nat.le_of_ble_eq_true rfl) ⟨Nat.le_of_ble_eq_true rfl, Nat.le_of_ble_eq_true rfl⟩ dX5_readSum_70 (fun τ6 H locs h hP hD hS => ?_)
    obtain ⟨v7, ev7⟩ : ∃ z : Int32, z = x1 + (1 : Int32) := ⟨_, rfl⟩
    have h := h v7 ev7
    refine lv_iinc (v := v7) (lv' := [(1, .int v7), (2, .int s0), (0, .ref (ad 5))]) hx hb dX5_readSum_73 hl (k := 2) rfl (by rw [ev7]; rfl) (by decide) rfl (fun ls hl => ?_)
    refine lv_goto (tgt := 11) hx hb dX5_readSum_76 (by decide) ?_
    exact hk_11 v7 τ6 _ _ _ h hP hD hS (lv_sub hl [2, 0] rfl)
  · have h := h.1 hc
    refine lv_iconst (v := (0 : Int32)) hx hb dX5_readSum_63 (by decide) ?_
    exact zret_z hx hb hr hlocks hK hP hD hS zb_0 h dX5_readSum_64
set_option maxHeartbeats 4000000 in
set_option maxRecDepth 100000 in
theorem t_X5_readSum_36 (C0 : zCx p s m meth c args RX5 cX5_readSum 3 (some .boolean) vs_X5_readSum) (hK : va_K (dC, dI) vwCl (x_ty cI cJ) s) (N : Nat) {d : Nat} {S : zSt → (Int32 → zSt → Prop) → Prop} (hSm : ∀ (sz : Nat) (σ : zSt) (Q : Int32 → zSt → Prop), S σ Q → Met l yX5_readSum vs_X5_readSum (rmq_sum 0 d) (va_Pc [.ref (ad 5)] (zPc (dC, dI) (x_ty cI cJ) (x_W ad cI cJ) sz σ)) (zQi (dC, dI) (x_ty cI cJ) (x_W ad cI cJ) (zAW x_n ad sz) Q) 0 0 (zAW x_n ad sz)) {Q : Int32 → zSt → Prop} {k_11 : Int32 → zSt → Prop} (hk_11 : ∀ (x1 : Int32) (σ : zSt) (H : Heap) (locs : List Loc) (ls : Array Slot), k_11 x1 σ → va_P (dC, dI) vwCl (x_W ad cI cJ σ) H → va_D (zAW x_n ad s.heap.size) (x_W ad cI cJ σ) → va_S (zAW x_n ad s.heap.size) s.heap H locs → lv_has ls 3 [(0, .ref (ad 5)), (1, .int x1)] → W p l e (rmq_sum 0 (d + 1)) s m args below meth c H locs 0 0 (MQ below (zQi (dC, dI) (x_ty cI cJ) (x_W ad cI cJ) (zAW x_n ad s.heap.size) Q) args s 0 0 (zAW x_n ad s.heap.size)) (F0 m 11 ls [])) : ∀ (x1 : Int32) (σ : zSt) (H : Heap) (locs : List Loc) (ls : Array Slot), b_X5_readSum_36 N S k_11 Q x1 σ → va_P (dC, dI) vwCl (x_W ad cI cJ σ) H → va_D (zAW x_n ad s.heap.size) (x_W ad cI cJ σ) → va_S (zAW x_n ad s.heap.size) s.heap H locs → lv_has ls 3 [(0, .ref (ad 5)), (1, .int x1)] → W p l e (rmq_sum 0 (d + 1)) s m args below meth c H locs 0 0 (MQ below (zQi (dC, dI) (x_ty cI cJ) (x_W ad cI cJ) (zAW x_n ad s.heap.size) Q) args s 0 0 (zAW x_n ad s.heap.size)) (F0 m 36 ls []) := by
  obtain ⟨hx, hb, hml, hr, hown, hts, hlocks⟩ := id C0
  intro x1 σ H locs ls h hP hD hS hl
  unfold b_X5_readSum_36 at h
  refine lv_aload_n hx hb dX5_readSum_36 rfl (lv_at hl 0 rfl) ?_
  refine lv_bipush (v := (43 : Int32)) hx hb dX5_readSum_37 (by decide) ?_
  refine k_X5_isSign N ⟨hx, hb, hml, hown, hts⟩ mw_407 ⟨by dsimp only [rm_X5_isSign, rmq_sum, rmq_fact]; omega, by dsimp only [rm_X5_isSign, rmq_sum, rmq_fact]; omega⟩ h hK hP hD hS hl.1 (rest := []) (Nat.le_of_ble_eq_true rfl) ⟨Nat.le_of_ble_eq_true rfl, Nat.le_of_ble_eq_true rfl⟩ dX5_readSum_39 (fun r1 τ2 H locs h hP hD hS => ?_)
  refine lv_if_eq (tgt := 49) hx hb dX5_readSum_42 (by decide) (fun hc => ?_) (fun hc => ?_)
  · have h := h.1 hc
    refine lv_iconst (v := (1 : Int32)) hx hb dX5_readSum_49 (by decide) ?_
    exact t_X5_readSum_50 C0 hK N hSm hk_11 x1 (1 : Int32) τ2 _ _ _ h hP hD hS (lv_sub hl [0, 1] rfl)
  · have h := h.2 hc
    refine lv_iconst (v := (0 : Int32)) hx hb dX5_readSum_45 (by decide) ?_
    refine lv_goto (tgt := 50) hx hb dX5_readSum_46 (by decide) ?_
    exact t_X5_readSum_50 C0 hK N hSm hk_11 x1 (0 : Int32) τ2 _ _ _ h hP hD hS (lv_sub hl [0, 1] rfl)
set_option maxHeartbeats 4000000 in
set_option maxRecDepth 100000 in
theorem tb_X5_readSum_11 (C0 : zCx p s m meth c args RX5 cX5_readSum 3 (some .boolean) vs_X5_readSum) (hK : va_K (dC, dI) vwCl (x_ty cI cJ) s) (N : Nat) {d : Nat} {S : zSt → (Int32 → zSt → Prop) → Prop} (hSm : ∀ (sz : Nat) (σ : zSt) (Q : Int32 → zSt → Prop), S σ Q → Met l yX5_readSum vs_X5_readSum (rmq_sum 0 d) (va_Pc [.ref (ad 5)] (zPc (dC, dI) (x_ty cI cJ) (x_W ad cI cJ) sz σ)) (zQi (dC, dI) (x_ty cI cJ) (x_W ad cI cJ) (zAW x_n ad sz) Q) 0 0 (zAW x_n ad sz)) {Q : Int32 → zSt → Prop} {k_11 : Int32 → zSt → Prop} (hk_11 : ∀ (x1 : Int32) (σ : zSt) (H : Heap) (locs : List Loc) (ls : Array Slot), k_11 x1 σ → va_P (dC, dI) vwCl (x_W ad cI cJ σ) H → va_D (zAW x_n ad s.heap.size) (x_W ad cI cJ σ) → va_S (zAW x_n ad s.heap.size) s.heap H locs → lv_has ls 3 [(0, .ref (ad 5)), (1, .int x1)] → W p l e (rmq_sum 0 (d + 1)) s m args below meth c H locs 0 0 (MQ below (zQi (dC, dI) (x_ty cI cJ) (x_W ad cI cJ) (zAW x_n ad s.heap.size) Q) args s 0 0 (zAW x_n ad s.heap.size)) (F0 m 11 ls [])) : ∀ (x1 : Int32) (σ : zSt) (H : Heap) (locs : List Loc) (ls : Array Slot), b_X5_readSum_11 N S k_11 Q x1 σ → va_P (dC, dI) vwCl (x_W ad cI cJ σ) H → va_D (zAW x_n ad s.heap.size) (x_W ad cI cJ σ) → va_S (zAW x_n ad s.heap.size) s.heap H locs → lv_has ls 3 [(0, .ref (ad 5)), (1, .int x1)] → W p l e (rmq_sum 0 (d + 1)) s m args below meth c H locs 0 0 (MQ below (zQi (dC, dI) (x_ty cI cJ) (x_W ad cI cJ) (zAW x_n ad s.heap.size) Q) args s 0 0 (zAW x_n ad s.heap.size)) (F0 m 11 ls []) := by
  obtain ⟨hx, hb, hml, hr, hown, hts, hlocks⟩ := id C0
  intro x1 σ H locs ls h hP hD hS hl
  unfold b_X5_readSum_11 at h
  refine lv_iload_n hx hb dX5_readSum_11 rfl (lv_at hl 1 rfl) ?_
  refine lv_sipush (v := (800 : Int32)) hx hb dX5_readSum_12 (by decide) ?_
  refine lv_icmp_ge (tgt := 79) hx hb dX5_readSum_15 (by decide) (fun hc => ?_) (fun hc => ?_)
  · have h := h.1 hc
    refine lv_iconst (v := (1 : Int32)) hx hb dX5_readSum_79 (by decide) ?_
    exact zret_z hx hb hr hlocks hK hP hD hS zb_1 h dX5_readSum_80
  · have h := h.2 hc
    refine lv_aload_n hx hb dX5_readSum_18 rfl (lv_at hl 0 rfl) ?_
    refine lv_bipush (v := (43 : Int32)) hx hb dX5_readSum_19 (by decide) ?_
    refine k_X5_isSign N ⟨hx, hb, hml, hown, hts⟩ mw_407 ⟨by dsimp only [rm_X5_isSign, rmq_sum, rmq_fact]; omega, by dsimp only [rm_X5_isSign, rmq_sum, rmq_fact]; omega⟩ h hK hP hD hS hl.1 (rest := []) (Nat.le_of_ble_eq_true rfl) ⟨Nat.le_of_ble_eq_true rfl, Nat.le_of_ble_eq_true rfl⟩ dX5_readSum_21 (fun r1 τ2 H locs h hP hD hS => ?_)
    refine lv_if_ne (tgt := 36) hx hb dX5_readSum_24 (by decide) (fun hc => ?_) (fun hc => ?_)
    · have h := h.2 hc
      exact t_X5_readSum_36 C0 hK N hSm hk_11 x1 τ2 _ _ _ h hP hD hS (lv_sub hl [0, 1] rfl)
    · have h := h.1 hc
      refine lv_aload_n hx hb dX5_readSum_27 rfl (lv_at hl 0 rfl) ?_
      refine lv_bipush (v := (45 : Int32)) hx hb dX5_readSum_28 (by decide) ?_
      refine k_X5_isSign N ⟨hx, hb, hml, hown, hts⟩ mw_407 ⟨by dsimp only [rm_X5_isSign, rmq_sum, rmq_fact]; omega, by dsimp only [rm_X5_isSign, rmq_sum, rmq_fact]; omega⟩ h hK hP hD hS hl.1 (rest := []) (Nat.le_of_ble_eq_true rfl) ⟨Nat.le_of_ble_eq_true rfl, Nat.le_of_ble_eq_true rfl⟩ dX5_readSum_30 (fun r3 τ4 H locs h hP hD hS => ?_)
      refine lv_if_eq (tgt := 79) hx hb dX5_readSum_33 (by decide) (fun hc => ?_) (fun hc => ?_)
      · have h := h.1 hc
        refine lv_iconst (v := (1 : Int32)) hx hb dX5_readSum_79 (by decide) ?_
        exact zret_z hx hb hr hlocks hK hP hD hS zb_1 h dX5_readSum_80
      · have h := h.2 hc
        exact t_X5_readSum_36 C0 hK N hSm hk_11 x1 τ4 _ _ _ h hP hD hS (lv_sub hl [0, 1] rfl)
set_option maxHeartbeats 4000000 in
set_option maxRecDepth 100000 in
theorem t_X5_readSum_11 (C0 : zCx p s m meth c args RX5 cX5_readSum 3 (some .boolean) vs_X5_readSum) (hK : va_K (dC, dI) vwCl (x_ty cI cJ) s) (N : Nat) {d : Nat} {S : zSt → (Int32 → zSt → Prop) → Prop} (hSm : ∀ (sz : Nat) (σ : zSt) (Q : Int32 → zSt → Prop), S σ Q → Met l yX5_readSum vs_X5_readSum (rmq_sum 0 d) (va_Pc [.ref (ad 5)] (zPc (dC, dI) (x_ty cI cJ) (x_W ad cI cJ) sz σ)) (zQi (dC, dI) (x_ty cI cJ) (x_W ad cI cJ) (zAW x_n ad sz) Q) 0 0 (zAW x_n ad sz)) {Q : Int32 → zSt → Prop} : ∀ (f : Nat) (x1 : Int32) (σ : zSt) (H : Heap) (locs : List Loc) (ls : Array Slot), w_X5_readSum_11 N S  Q f x1 σ → va_P (dC, dI) vwCl (x_W ad cI cJ σ) H → va_D (zAW x_n ad s.heap.size) (x_W ad cI cJ σ) → va_S (zAW x_n ad s.heap.size) s.heap H locs → lv_has ls 3 [(0, .ref (ad 5)), (1, .int x1)] → W p l e (rmq_sum 0 (d + 1)) s m args below meth c H locs 0 0 (MQ below (zQi (dC, dI) (x_ty cI cJ) (x_W ad cI cJ) (zAW x_n ad s.heap.size) Q) args s 0 0 (zAW x_n ad s.heap.size)) (F0 m 11 ls []) := by
  intro f
  induction f with
  | zero => intro x1 σ H locs ls h; exact h.elim
  | succ f ih =>
    intro x1 σ H locs ls h hP hD hS hl
    exact tb_X5_readSum_11 C0 hK N hSm  (k_11 := w_X5_readSum_11 N S  Q f) ih x1 σ H locs ls h hP hD hS hl
set_option maxHeartbeats 4000000 in
set_option maxRecDepth 100000 in
theorem t_X5_readSum_0 (C0 : zCx p s m meth c args RX5 cX5_readSum 3 (some .boolean) vs_X5_readSum) (hK : va_K (dC, dI) vwCl (x_ty cI cJ) s) (N : Nat) {d : Nat} {S : zSt → (Int32 → zSt → Prop) → Prop} (hSm : ∀ (sz : Nat) (σ : zSt) (Q : Int32 → zSt → Prop), S σ Q → Met l yX5_readSum vs_X5_readSum (rmq_sum 0 d) (va_Pc [.ref (ad 5)] (zPc (dC, dI) (x_ty cI cJ) (x_W ad cI cJ) sz σ)) (zQi (dC, dI) (x_ty cI cJ) (x_W ad cI cJ) (zAW x_n ad sz) Q) 0 0 (zAW x_n ad sz)) {Q : Int32 → zSt → Prop} : ∀  (σ : zSt) (H : Heap) (locs : List Loc) (ls : Array Slot), wb_X5_readSum N S  σ Q → va_P (dC, dI) vwCl (x_W ad cI cJ σ) H → va_D (zAW x_n ad s.heap.size) (x_W ad cI cJ σ) → va_S (zAW x_n ad s.heap.size) s.heap H locs → lv_has ls 3 [(0, .ref (ad 5))] → W p l e (rmq_sum 0 (d + 1)) s m args below meth c H locs 0 0 (MQ below (zQi (dC, dI) (x_ty cI cJ) (x_W ad cI cJ) (zAW x_n ad s.heap.size) Q) args s 0 0 (zAW x_n ad s.heap.size)) (F0 m 0 ls []) := by
  obtain ⟨hx, hb, hml, hr, hown, hts, hlocks⟩ := id C0
  intro  σ H locs ls h hP hD hS hl
  unfold wb_X5_readSum at h
  refine lv_aload_n hx hb dX5_readSum_0 rfl (lv_at hl 0 rfl) ?_
  refine k_X5_readProduct N hSm ⟨hx, hb, hml, hown, hts⟩ mw_396 ⟨by dsimp only [rmq_sum, rmq_fact]; omega, by dsimp only [rmq_sum, rmq_fact]; omega⟩ h hK hP hD hS hl.1 (rest := []) (Nat.le_of_ble_eq_true rfl) ⟨Nat.le_of_ble_eq_true rfl, Nat.le_of_ble_eq_true rfl⟩ dX5_readSum_1 (fun r1 τ2 H locs h hP hD hS => ?_)
  refine lv_if_ne (tgt := 9) hx hb dX5_readSum_4 (by decide) (fun hc => ?_) (fun hc => ?_)
  · have h := h.2 hc
    refine lv_iconst (v := (0 : Int32)) hx hb dX5_readSum_9 (by decide) ?_
    refine lv_istore_n (lv' := [(1, .int (0 : Int32)), (0, .ref (ad 5))]) hx hb dX5_readSum_10 rfl hl (by decide) rfl (fun ls hl => ?_)
    exact t_X5_readSum_11 C0 hK N hSm  N (0 : Int32) τ2 _ _ _ h hP hD hS (lv_sub hl [1, 0] rfl)
  · have h := h.1 hc
    refine lv_iconst (v := (0 : Int32)) hx hb dX5_readSum_7 (by decide) ?_
    exact zret_z hx hb hr hlocks hK hP hD hS zb_0 h dX5_readSum_8
set_option maxHeartbeats 4000000 in
set_option maxRecDepth 100000 in
theorem cb_X5_readSum (N : Nat) (l : Launch) (dC : Nat → ClassId) (dI : Nat → Nat → Nat) (ad : Nat → Nat) (cI cJ : ClassId) {d : Nat} {S : zSt → (Int32 → zSt → Prop) → Prop} (hSm : ∀ (sz : Nat) (σ : zSt) (Q : Int32 → zSt → Prop), S σ Q → Met l yX5_readSum vs_X5_readSum (rmq_sum 0 d) (va_Pc [.ref (ad 5)] (zPc (dC, dI) (x_ty cI cJ) (x_W ad cI cJ) sz σ)) (zQi (dC, dI) (x_ty cI cJ) (x_W ad cI cJ) (zAW x_n ad sz) Q) 0 0 (zAW x_n ad sz)) (sz : Nat) (σ : zSt)  (Q : Int32 → zSt → Prop) (h : wb_X5_readSum N S  σ Q) : Met l yX5_readSum vs_X5_readSum (rmq_sum 0 (d + 1)) (va_Pc [.ref (ad 5)] (zPc (dC, dI) (x_ty cI cJ) (x_W ad cI cJ) sz σ)) (zQi (dC, dI) (x_ty cI cJ) (x_W ad cI cJ) (zAW x_n ad sz) Q) 0 0 (zAW x_n ad sz) := by
  refine Met.ofW (cc := cX5_readSum) (maxL := 3) (ret := (some .boolean)) (by decide) rfl ?_
  intro p e s m args below meth c s₁ B hml hv
  obtain ⟨rfl, hsz, hP, hK, hD0⟩ := hv
  subst hsz
  have C0 : zCx p s m meth c _ RX5 cX5_readSum 3 (some .boolean) vs_X5_readSum := ⟨B.exec, B.bytes, hml, B.returns, findClass_of_methodNamed B.named, atoms_spec (ws := vs_X5_readSum) B.pre, B.notSynchronized⟩
  have hD := x_D0 (n0 := s.heap.size) hD0
  have hl := lv_entry ([.ref (ad 5)]) (n := 3) (Nat.le_of_ble_eq_true rfl)
  rw [lg_entry_eq]
  generalize (lg_sl ([.ref (ad 5)]) ++ List.replicate (3 - (lg_sl ([.ref (ad 5)])).length) Slot.unset).toArray = ls at hl ⊢
  exact t_X5_readSum_0 C0 hK N hSm  σ _ _ ls h hP hD va_S.rf hl
theorem c_X5_readSum (N : Nat) (l : Launch) (dC : Nat → ClassId) (dI : Nat → Nat → Nat) (ad : Nat → Nat) (cI cJ : ClassId) (d sz : Nat) (σ : zSt) (Q : Int32 → zSt → Prop) (h : w_X5_readSum N d σ Q) : Met l yX5_readSum vs_X5_readSum (rmq_sum 0 d) (va_Pc [.ref (ad 5)] (zPc (dC, dI) (x_ty cI cJ) (x_W ad cI cJ) sz σ)) (zQi (dC, dI) (x_ty cI cJ) (x_W ad cI cJ) (zAW x_n ad sz) Q) 0 0 (zAW x_n ad sz) := by
  induction d generalizing sz σ Q with
  | zero => exact h.elim
  | succ d ih => exact cb_X5_readSum N l dC dI ad cI cJ (S := w_X5_readSum N d) (fun sz σ Q h => ih sz σ Q h) sz σ Q h
theorem k_X5_readSum (N : Nat) {d : Nat} {R : Room} {H : Heap} {locs : List Loc} {cells slots : Nat} {Q2 : State → Prop} {cc : ByteArray} {nL pc index : Nat} {ls : Array Slot} {rest : List Value} {own : String} {c0 : Cond} {σ : zSt}  {Q : Int32 → zSt → Prop} (S0 : CallFix p m c cc nL s args (c0 :: zT) own) (hml : Cond.methodLink own index yX5_readSum ∈ zT) (hR : (rmq_sum 0 d).frames + 1 ≤ R.frames ∧ 8 + (3 + 11) + (rmq_sum 0 d).locals ≤ R.locals) (h : w_X5_readSum N d  σ Q) (hK : va_K (dC, dI) vwCl (x_ty cI cJ) s) (hP : va_P (dC, dI) vwCl (x_W ad cI cJ σ) H) (hD : va_D (zAW x_n ad s.heap.size) (x_W ad cI cJ σ)) (hS : va_S (zAW x_n ad s.heap.size) s.heap H locs) (hsz : ls.size = nL) (hW : (rest.map fun v => v.category).sum ≤ 8) (hcs : cells ≤ R.cells ∧ slots ≤ R.slots) (hdg : decode cc pc = .ok (.invokevirtual index, 3)) (kk : ∀ (r : Int32) (τ : zSt) (H1 : Heap) (locs1 : List Loc), Q r τ → va_P (dC, dI) vwCl (x_W ad cI cJ τ) H1 → va_D (zAW x_n ad s.heap.size) (x_W ad cI cJ τ) → va_S (zAW x_n ad s.heap.size) s.heap H1 locs1 → W p l e R s m args below meth c H1 locs1 cells slots Q2 (F0 m (pc + 3) ls (.int r :: rest))) : W p l e R s m args below meth c H locs cells slots Q2 (F0 m pc ls (.ref (ad 5) :: rest)) :=
  zcv_i (T := TX5) (N' := 14) (k := 5) (ci := 5) (fs := x_f5 ad σ) [] S0 (c_X5_readSum N l dC dI ad cI cJ d H.size σ  Q h) (cw_X5_readSum S0.2.2.2.2 hml rfl rfl hR) rfl rfl hK hP hD hS rfl hsz hW rfl hcs hdg kk
end q02
section q02
def b_X5_readBoth_11 (N : Nat) (S : zSt → (Int32 → zSt → Prop) → Prop) (k_11 : Int32 → zSt → Prop) (Q : Int32 → zSt → Prop) (x1 : Int32) (σ : zSt) : Prop :=
  ((800 : Int32) ≤ x1 → Q (1 : Int32) σ) ∧ (¬ (800 : Int32) ≤ x1 → ((σ.1 16) = (8 : Int32) → w_X5_take N σ (fun r1 τ2 => S τ2 (fun r3 τ4 => (r3 = 0 → Q (0 : Int32) τ4) ∧ (¬ r3 = 0 → w_X6_emit N (9 : Int32) τ4 (fun τ6 => ∀ v7 : Int32, v7 = x1 + (1 : Int32) → k_11 v7 τ6))))) ∧ (¬ (σ.1 16) = (8 : Int32) → Q (1 : Int32) σ))
def w_X5_readBoth_11 (N : Nat) (S : zSt → (Int32 → zSt → Prop) → Prop) (Q : Int32 → zSt → Prop) : Nat → Int32 → zSt → Prop
  | 0 => fun _ _ => False
  | f + 1 => b_X5_readBoth_11 N S (w_X5_readBoth_11 N S  Q f) Q
def w_X5_readBoth (N : Nat) (S : zSt → (Int32 → zSt → Prop) → Prop)  (σ : zSt) (Q : Int32 → zSt → Prop) : Prop :=
  S σ (fun r1 τ2 => (r1 = 0 → Q (0 : Int32) τ2) ∧ (¬ r1 = 0 → w_X5_readBoth_11 N S Q N (0 : Int32) τ2))
variable {p : Program} {l : Launch} {e : Env} {s : State} {m : MethodId} {args : Array Value} {below : List Frame} {meth : Method} {c : Code} {dC : Nat → ClassId} {dI : Nat → Nat → Nat} {ad : Nat → Nat} {cI cJ : ClassId}
set_option maxHeartbeats 4000000 in
set_option maxRecDepth 100000 in
theorem tb_X5_readBoth_11 (C0 : zCx p s m meth c args RX5 cX5_readBoth 2 (some .boolean) vs_X5_readBoth) (hK : va_K (dC, dI) vwCl (x_ty cI cJ) s) (N : Nat) {d : Nat} {S : zSt → (Int32 → zSt → Prop) → Prop} (hSm : ∀ (sz : Nat) (σ : zSt) (Q : Int32 → zSt → Prop), S σ Q → Met l yX5_readFact vs_X5_readFact (rmq_fact 0 d) (va_Pc [.ref (ad 5)] (zPc (dC, dI) (x_ty cI cJ) (x_W ad cI cJ) sz σ)) (zQi (dC, dI) (x_ty cI cJ) (x_W ad cI cJ) (zAW x_n ad sz) Q) 0 0 (zAW x_n ad sz)) {Q : Int32 → zSt → Prop} {k_11 : Int32 → zSt → Prop} (hk_11 : ∀ (x1 : Int32) (σ : zSt) (H : Heap) (locs : List Loc) (ls : Array Slot), k_11 x1 σ → va_P (dC, dI) vwCl (x_W ad cI cJ σ) H → va_D (zAW x_n ad s.heap.size) (x_W ad cI cJ σ) → va_S (zAW x_n ad s.heap.size) s.heap H locs → lv_has ls 2 [(0, .ref (ad 5)), (1, .int x1)] → W p l e (rmq_fact 1 d) s m args below meth c H locs 0 0 (MQ below (zQi (dC, dI) (x_ty cI cJ) (x_W ad cI cJ) (zAW x_n ad s.heap.size) Q) args s 0 0 (zAW x_n ad s.heap.size)) (F0 m 11 ls [])) : ∀ (x1 : Int32) (σ : zSt) (H : Heap) (locs : List Loc) (ls : Array Slot), b_X5_readBoth_11 N S k_11 Q x1 σ → va_P (dC, dI) vwCl (x_W ad cI cJ σ) H → va_D (zAW x_n ad s.heap.size) (x_W ad cI cJ σ) → va_S (zAW x_n ad s.heap.size) s.heap H locs → lv_has ls 2 [(0, .ref (ad 5)), (1, .int x1)] → W p l e (rmq_fact 1 d) s m args below meth c H locs 0 0 (MQ below (zQi (dC, dI) (x_ty cI cJ) (x_W ad cI cJ) (zAW x_n ad s.heap.size) Q) args s 0 0 (zAW x_n ad s.heap.size)) (F0 m 11 ls []) := by
  obtain ⟨hx, hb, hml, hr, hown, hts, hlocks⟩ := id C0
  intro x1 σ H locs ls h hP hD hS hl
  unfold b_X5_readBoth_11 at h
  refine lv_iload_n hx hb dX5_readBoth_11 rfl (lv_at hl 1 rfl) ?_
  refine lv_sipush (v := (800 : Int32)) hx hb dX5_readBoth_12 (by decide) ?_
  refine lv_icmp_ge (tgt := 56) hx hb dX5_readBoth_15 (by decide) (fun hc => ?_) (fun hc => ?_)
  · have h := h.1 hc
    refine lv_iconst (v := (1 : Int32)) hx hb dX5_readBoth_56 (by decide) ?_
    exact zret_z hx hb hr hlocks hK hP hD hS zb_1 h dX5_readBoth_57
  · have h := h.2 hc
    refine lv_aload_n hx hb dX5_readBoth_18 rfl (lv_at hl 0 rfl) ?_
    refine xg_5_13 hx hb hts hown hK hP mw_191 dX5_readBoth_19 ?_
    refine lv_bipush (v := (8 : Int32)) hx hb dX5_readBoth_22 (by decide) ?_
    refine lv_icmp_ne (tgt := 56) hx hb dX5_readBoth_24 (by decide) (fun hc => ?_) (fun hc => ?_)
    · have h := h.2 hc
      refine lv_iconst (v := (1 : Int32)) hx hb dX5_readBoth_56 (by decide) ?_
      exact zret_z hx hb hr hlocks hK hP hD hS zb_1 h dX5_readBoth_57
    · have h := h.1 hc
      refine lv_aload_n hx hb dX5_readBoth_27 rfl (lv_at hl 0 rfl) ?_
      refine k_X5_take N ⟨hx, hb, hml, hown, hts⟩ mw_363 ⟨by dsimp only [rm_X5_take, rmq_sum, rmq_fact]; omega, by dsimp only [rm_X5_take, rmq_sum, rmq_fact]; omega⟩ h hK hP hD hS hl.1 (rest := []) (Nat.le_of_ble_eq_true rfl) ⟨Nat.le_of_ble_eq_true rfl, Nat.le_of_ble_eq_true rfl⟩ dX5_readBoth_28 (fun r1 τ2 H locs h hP hD hS => ?_)
      refine lv_pop hx hb dX5_readBoth_31 rfl ?_
      refine lv_aload_n hx hb dX5_readBoth_32 rfl (lv_at hl 0 rfl) ?_
      refine zcv_i [] ⟨hx, hb, hml, hown, hts⟩ (hSm H.size τ2 _ h) (cw_X5_readFact hts mw_425 rfl rfl ⟨by dsimp only [rmq_sum, rmq_fact]; omega, by dsimp only [rmq_sum, rmq_fact]; omega⟩) (T := TX5) (N' := 14) (k := 5) (ci := 5) (fs := x_f5 ad τ2) rfl rfl hK hP hD hS rfl hl.1 (rest := []) (Nat.le_of_ble_eq_true rfl) rfl ⟨Nat.le_of_ble_eq_true rfl, Nat.le_of_ble_eq_true rfl⟩ dX5_readBoth_33 (fun r3 τ4 H locs h hP hD hS => ?_)
      refine lv_if_ne (tgt := 41) hx hb dX5_readBoth_36 (by decide) (fun hc => ?_) (fun hc => ?_)
      · have h := h.2 hc
        refine lv_aload_n hx hb dX5_readBoth_41 rfl (lv_at hl 0 rfl) ?_
        refine xg_5_2 hx hb hts hown hK hP mw_176 dX5_readBoth_42 ?_
        refine lv_bipush (v := (9 : Int32)) hx hb dX5_readBoth_45 (by decide) ?_
        refine k_X6_emit N ⟨hx, hb, hml, hown, hts⟩ mw_403 ⟨by dsimp only [rm_X6_emit, rmq_sum, rmq_fact]; omega, by dsimp only [rm_X6_emit, rmq_sum, rmq_fact]; omega⟩ h hK hP hD hS hl.1 (rest := []) (Nat.le_of_ble_eq_true rfl) ⟨Nat.le_of_ble_eq_true rfl, Nat.le_of_ble_eq_true rfl⟩ dX5_readBoth_47 (fun τ6 H locs h hP hD hS => ?_)
        obtain ⟨v7, ev7⟩ : ∃ z : Int32, z = x1 + (1 : Int32) := ⟨_, rfl⟩
        have h := h v7 ev7
        refine lv_iinc (v := v7) (lv' := [(1, .int v7), (0, .ref (ad 5))]) hx hb dX5_readBoth_50 hl (k := 1) rfl (by rw [ev7]; rfl) (by decide) rfl (fun ls hl => ?_)
        refine lv_goto (tgt := 11) hx hb dX5_readBoth_53 (by decide) ?_
        exact hk_11 v7 τ6 _ _ _ h hP hD hS (lv_sub hl [1, 0] rfl)
      · have h := h.1 hc
        refine lv_iconst (v := (0 : Int32)) hx hb dX5_readBoth_39 (by decide) ?_
        exact zret_z hx hb hr hlocks hK hP hD hS zb_0 h dX5_readBoth_40
set_option maxHeartbeats 4000000 in
set_option maxRecDepth 100000 in
theorem t_X5_readBoth_11 (C0 : zCx p s m meth c args RX5 cX5_readBoth 2 (some .boolean) vs_X5_readBoth) (hK : va_K (dC, dI) vwCl (x_ty cI cJ) s) (N : Nat) {d : Nat} {S : zSt → (Int32 → zSt → Prop) → Prop} (hSm : ∀ (sz : Nat) (σ : zSt) (Q : Int32 → zSt → Prop), S σ Q → Met l yX5_readFact vs_X5_readFact (rmq_fact 0 d) (va_Pc [.ref (ad 5)] (zPc (dC, dI) (x_ty cI cJ) (x_W ad cI cJ) sz σ)) (zQi (dC, dI) (x_ty cI cJ) (x_W ad cI cJ) (zAW x_n ad sz) Q) 0 0 (zAW x_n ad sz)) {Q : Int32 → zSt → Prop} : ∀ (f : Nat) (x1 : Int32) (σ : zSt) (H : Heap) (locs : List Loc) (ls : Array Slot), w_X5_readBoth_11 N S  Q f x1 σ → va_P (dC, dI) vwCl (x_W ad cI cJ σ) H → va_D (zAW x_n ad s.heap.size) (x_W ad cI cJ σ) → va_S (zAW x_n ad s.heap.size) s.heap H locs → lv_has ls 2 [(0, .ref (ad 5)), (1, .int x1)] → W p l e (rmq_fact 1 d) s m args below meth c H locs 0 0 (MQ below (zQi (dC, dI) (x_ty cI cJ) (x_W ad cI cJ) (zAW x_n ad s.heap.size) Q) args s 0 0 (zAW x_n ad s.heap.size)) (F0 m 11 ls []) := by
  intro f
  induction f with
  | zero => intro x1 σ H locs ls h; exact h.elim
  | succ f ih =>
    intro x1 σ H locs ls h hP hD hS hl
    exact tb_X5_readBoth_11 C0 hK N hSm  (k_11 := w_X5_readBoth_11 N S  Q f) ih x1 σ H locs ls h hP hD hS hl
set_option maxHeartbeats 4000000 in
set_option maxRecDepth 100000 in
theorem t_X5_readBoth_0 (C0 : zCx p s m meth c args RX5 cX5_readBoth 2 (some .boolean) vs_X5_readBoth) (hK : va_K (dC, dI) vwCl (x_ty cI cJ) s) (N : Nat) {d : Nat} {S : zSt → (Int32 → zSt → Prop) → Prop} (hSm : ∀ (sz : Nat) (σ : zSt) (Q : Int32 → zSt → Prop), S σ Q → Met l yX5_readFact vs_X5_readFact (rmq_fact 0 d) (va_Pc [.ref (ad 5)] (zPc (dC, dI) (x_ty cI cJ) (x_W ad cI cJ) sz σ)) (zQi (dC, dI) (x_ty cI cJ) (x_W ad cI cJ) (zAW x_n ad sz) Q) 0 0 (zAW x_n ad sz)) {Q : Int32 → zSt → Prop} : ∀  (σ : zSt) (H : Heap) (locs : List Loc) (ls : Array Slot), w_X5_readBoth N S  σ Q → va_P (dC, dI) vwCl (x_W ad cI cJ σ) H → va_D (zAW x_n ad s.heap.size) (x_W ad cI cJ σ) → va_S (zAW x_n ad s.heap.size) s.heap H locs → lv_has ls 2 [(0, .ref (ad 5))] → W p l e (rmq_fact 1 d) s m args below meth c H locs 0 0 (MQ below (zQi (dC, dI) (x_ty cI cJ) (x_W ad cI cJ) (zAW x_n ad s.heap.size) Q) args s 0 0 (zAW x_n ad s.heap.size)) (F0 m 0 ls []) := by
  obtain ⟨hx, hb, hml, hr, hown, hts, hlocks⟩ := id C0
  intro  σ H locs ls h hP hD hS hl
  unfold w_X5_readBoth at h
  refine lv_aload_n hx hb dX5_readBoth_0 rfl (lv_at hl 0 rfl) ?_
  refine zcv_i [] ⟨hx, hb, hml, hown, hts⟩ (hSm H.size σ _ h) (cw_X5_readFact hts mw_425 rfl rfl ⟨by dsimp only [rmq_sum, rmq_fact]; omega, by dsimp only [rmq_sum, rmq_fact]; omega⟩) (T := TX5) (N' := 14) (k := 5) (ci := 5) (fs := x_f5 ad σ) rfl rfl hK hP hD hS rfl hl.1 (rest := []) (Nat.le_of_ble_eq_true rfl) rfl ⟨Nat.le_of_ble_eq_true rfl, Nat.le_of_ble_eq_true rfl⟩ dX5_readBoth_1 (fun r1 τ2 H locs h hP hD hS => ?_)
  refine lv_if_ne (tgt := 9) hx hb dX5_readBoth_4 (by decide) (fun hc => ?_) (fun hc => ?_)
  · have h := h.2 hc
    refine lv_iconst (v := (0 : Int32)) hx hb dX5_readBoth_9 (by decide) ?_
    refine lv_istore_n (lv' := [(1, .int (0 : Int32)), (0, .ref (ad 5))]) hx hb dX5_readBoth_10 rfl hl (by decide) rfl (fun ls hl => ?_)
    exact t_X5_readBoth_11 C0 hK N hSm  N (0 : Int32) τ2 _ _ _ h hP hD hS (lv_sub hl [1, 0] rfl)
  · have h := h.1 hc
    refine lv_iconst (v := (0 : Int32)) hx hb dX5_readBoth_7 (by decide) ?_
    exact zret_z hx hb hr hlocks hK hP hD hS zb_0 h dX5_readBoth_8
set_option maxHeartbeats 4000000 in
set_option maxRecDepth 100000 in
theorem c_X5_readBoth (N : Nat) (l : Launch) (dC : Nat → ClassId) (dI : Nat → Nat → Nat) (ad : Nat → Nat) (cI cJ : ClassId) {d : Nat} {S : zSt → (Int32 → zSt → Prop) → Prop} (hSm : ∀ (sz : Nat) (σ : zSt) (Q : Int32 → zSt → Prop), S σ Q → Met l yX5_readFact vs_X5_readFact (rmq_fact 0 d) (va_Pc [.ref (ad 5)] (zPc (dC, dI) (x_ty cI cJ) (x_W ad cI cJ) sz σ)) (zQi (dC, dI) (x_ty cI cJ) (x_W ad cI cJ) (zAW x_n ad sz) Q) 0 0 (zAW x_n ad sz)) (sz : Nat) (σ : zSt)  (Q : Int32 → zSt → Prop) (h : w_X5_readBoth N S  σ Q) : Met l yX5_readBoth vs_X5_readBoth (rmq_fact 1 d) (va_Pc [.ref (ad 5)] (zPc (dC, dI) (x_ty cI cJ) (x_W ad cI cJ) sz σ)) (zQi (dC, dI) (x_ty cI cJ) (x_W ad cI cJ) (zAW x_n ad sz) Q) 0 0 (zAW x_n ad sz) := by
  refine Met.ofW (cc := cX5_readBoth) (maxL := 2) (ret := (some .boolean)) (by decide) rfl ?_
  intro p e s m args below meth c s₁ B hml hv
  obtain ⟨rfl, hsz, hP, hK, hD0⟩ := hv
  subst hsz
  have C0 : zCx p s m meth c _ RX5 cX5_readBoth 2 (some .boolean) vs_X5_readBoth := ⟨B.exec, B.bytes, hml, B.returns, findClass_of_methodNamed B.named, atoms_spec (ws := vs_X5_readBoth) B.pre, B.notSynchronized⟩
  have hD := x_D0 (n0 := s.heap.size) hD0
  have hl := lv_entry ([.ref (ad 5)]) (n := 2) (Nat.le_of_ble_eq_true rfl)
  rw [lg_entry_eq]
  generalize (lg_sl ([.ref (ad 5)]) ++ List.replicate (2 - (lg_sl ([.ref (ad 5)])).length) Slot.unset).toArray = ls at hl ⊢
  exact t_X5_readBoth_0 C0 hK N hSm  σ _ _ ls h hP hD va_S.rf hl
theorem k_X5_readBoth (N : Nat) {d : Nat} {S : zSt → (Int32 → zSt → Prop) → Prop} (hSm : ∀ (sz : Nat) (σ : zSt) (Q : Int32 → zSt → Prop), S σ Q → Met l yX5_readFact vs_X5_readFact (rmq_fact 0 d) (va_Pc [.ref (ad 5)] (zPc (dC, dI) (x_ty cI cJ) (x_W ad cI cJ) sz σ)) (zQi (dC, dI) (x_ty cI cJ) (x_W ad cI cJ) (zAW x_n ad sz) Q) 0 0 (zAW x_n ad sz)) {R : Room} {H : Heap} {locs : List Loc} {cells slots : Nat} {Q2 : State → Prop} {cc : ByteArray} {nL pc index : Nat} {ls : Array Slot} {rest : List Value} {own : String} {c0 : Cond} {σ : zSt}  {Q : Int32 → zSt → Prop} (S0 : CallFix p m c cc nL s args (c0 :: zT) own) (hml : Cond.methodLink own index yX5_readBoth ∈ zT) (hR : (rmq_fact 1 d).frames + 1 ≤ R.frames ∧ 8 + (2 + 11) + (rmq_fact 1 d).locals ≤ R.locals) (h : w_X5_readBoth N S  σ Q) (hK : va_K (dC, dI) vwCl (x_ty cI cJ) s) (hP : va_P (dC, dI) vwCl (x_W ad cI cJ σ) H) (hD : va_D (zAW x_n ad s.heap.size) (x_W ad cI cJ σ)) (hS : va_S (zAW x_n ad s.heap.size) s.heap H locs) (hsz : ls.size = nL) (hW : (rest.map fun v => v.category).sum ≤ 8) (hcs : cells ≤ R.cells ∧ slots ≤ R.slots) (hdg : decode cc pc = .ok (.invokevirtual index, 3)) (kk : ∀ (r : Int32) (τ : zSt) (H1 : Heap) (locs1 : List Loc), Q r τ → va_P (dC, dI) vwCl (x_W ad cI cJ τ) H1 → va_D (zAW x_n ad s.heap.size) (x_W ad cI cJ τ) → va_S (zAW x_n ad s.heap.size) s.heap H1 locs1 → W p l e R s m args below meth c H1 locs1 cells slots Q2 (F0 m (pc + 3) ls (.int r :: rest))) : W p l e R s m args below meth c H locs cells slots Q2 (F0 m pc ls (.ref (ad 5) :: rest)) :=
  zcv_i (T := TX5) (N' := 14) (k := 5) (ci := 5) (fs := x_f5 ad σ) [] S0 (c_X5_readBoth N l dC dI ad cI cJ hSm H.size σ  Q h) (cw_X5_readBoth S0.2.2.2.2 hml rfl rfl hR) rfl rfl hK hP hD hS rfl hsz hW rfl hcs hdg kk
end q02
section q02
def b_X5_readTest_11 (N : Nat) (S : zSt → (Int32 → zSt → Prop) → Prop) (k_11 : Int32 → zSt → Prop) (Q : Int32 → zSt → Prop) (x1 : Int32) (σ : zSt) : Prop :=
  ((800 : Int32) ≤ x1 → Q (1 : Int32) σ) ∧ (¬ (800 : Int32) ≤ x1 → ((σ.1 16) = (7 : Int32) → w_X5_take N σ (fun r1 τ2 => w_X5_readBoth N S τ2 (fun r3 τ4 => (r3 = 0 → Q (0 : Int32) τ4) ∧ (¬ r3 = 0 → w_X6_emit N (10 : Int32) τ4 (fun τ6 => ∀ v7 : Int32, v7 = x1 + (1 : Int32) → k_11 v7 τ6))))) ∧ (¬ (σ.1 16) = (7 : Int32) → Q (1 : Int32) σ))
def w_X5_readTest_11 (N : Nat) (S : zSt → (Int32 → zSt → Prop) → Prop) (Q : Int32 → zSt → Prop) : Nat → Int32 → zSt → Prop
  | 0 => fun _ _ => False
  | f + 1 => b_X5_readTest_11 N S (w_X5_readTest_11 N S  Q f) Q
def w_X5_readTest (N : Nat) (S : zSt → (Int32 → zSt → Prop) → Prop)  (σ : zSt) (Q : Int32 → zSt → Prop) : Prop :=
  w_X5_readBoth N S σ (fun r1 τ2 => (r1 = 0 → Q (0 : Int32) τ2) ∧ (¬ r1 = 0 → w_X5_readTest_11 N S Q N (0 : Int32) τ2))
variable {p : Program} {l : Launch} {e : Env} {s : State} {m : MethodId} {args : Array Value} {below : List Frame} {meth : Method} {c : Code} {dC : Nat → ClassId} {dI : Nat → Nat → Nat} {ad : Nat → Nat} {cI cJ : ClassId}
set_option maxHeartbeats 4000000 in
set_option maxRecDepth 100000 in
theorem tb_X5_readTest_11 (C0 : zCx p s m meth c args RX5 cX5_readTest 2 (some .boolean) vs_X5_readTest) (hK : va_K (dC, dI) vwCl (x_ty cI cJ) s) (N : Nat) {d : Nat} {S : zSt → (Int32 → zSt → Prop) → Prop} (hSm : ∀ (sz : Nat) (σ : zSt) (Q : Int32 → zSt → Prop), S σ Q → Met l yX5_readFact vs_X5_readFact (rmq_fact 0 d) (va_Pc [.ref (ad 5)] (zPc (dC, dI) (x_ty cI cJ) (x_W ad cI cJ) sz σ)) (zQi (dC, dI) (x_ty cI cJ) (x_W ad cI cJ) (zAW x_n ad sz) Q) 0 0 (zAW x_n ad sz)) {Q : Int32 → zSt → Prop} {k_11 : Int32 → zSt → Prop} (hk_11 : ∀ (x1 : Int32) (σ : zSt) (H : Heap) (locs : List Loc) (ls : Array Slot), k_11 x1 σ → va_P (dC, dI) vwCl (x_W ad cI cJ σ) H → va_D (zAW x_n ad s.heap.size) (x_W ad cI cJ σ) → va_S (zAW x_n ad s.heap.size) s.heap H locs → lv_has ls 2 [(0, .ref (ad 5)), (1, .int x1)] → W p l e (rmq_fact 2 d) s m args below meth c H locs 0 0 (MQ below (zQi (dC, dI) (x_ty cI cJ) (x_W ad cI cJ) (zAW x_n ad s.heap.size) Q) args s 0 0 (zAW x_n ad s.heap.size)) (F0 m 11 ls [])) : ∀ (x1 : Int32) (σ : zSt) (H : Heap) (locs : List Loc) (ls : Array Slot), b_X5_readTest_11 N S k_11 Q x1 σ → va_P (dC, dI) vwCl (x_W ad cI cJ σ) H → va_D (zAW x_n ad s.heap.size) (x_W ad cI cJ σ) → va_S (zAW x_n ad s.heap.size) s.heap H locs → lv_has ls 2 [(0, .ref (ad 5)), (1, .int x1)] → W p l e (rmq_fact 2 d) s m args below meth c H locs 0 0 (MQ below (zQi (dC, dI) (x_ty cI cJ) (x_W ad cI cJ) (zAW x_n ad s.heap.size) Q) args s 0 0 (zAW x_n ad s.heap.size)) (F0 m 11 ls []) := by
  obtain ⟨hx, hb, hml, hr, hown, hts, hlocks⟩ := id C0
  intro x1 σ H locs ls h hP hD hS hl
  unfold b_X5_readTest_11 at h
  refine lv_iload_n hx hb dX5_readTest_11 rfl (lv_at hl 1 rfl) ?_
  refine lv_sipush (v := (800 : Int32)) hx hb dX5_readTest_12 (by decide) ?_
  refine lv_icmp_ge (tgt := 56) hx hb dX5_readTest_15 (by decide) (fun hc => ?_) (fun hc => ?_)
  · have h := h.1 hc
    refine lv_iconst (v := (1 : Int32)) hx hb dX5_readTest_56 (by decide) ?_
    exact zret_z hx hb hr hlocks hK hP hD hS zb_1 h dX5_readTest_57
  · have h := h.2 hc
    refine lv_aload_n hx hb dX5_readTest_18 rfl (lv_at hl 0 rfl) ?_
    refine xg_5_13 hx hb hts hown hK hP mw_191 dX5_readTest_19 ?_
    refine lv_bipush (v := (7 : Int32)) hx hb dX5_readTest_22 (by decide) ?_
    refine lv_icmp_ne (tgt := 56) hx hb dX5_readTest_24 (by decide) (fun hc => ?_) (fun hc => ?_)
    · have h := h.2 hc
      refine lv_iconst (v := (1 : Int32)) hx hb dX5_readTest_56 (by decide) ?_
      exact zret_z hx hb hr hlocks hK hP hD hS zb_1 h dX5_readTest_57
    · have h := h.1 hc
      refine lv_aload_n hx hb dX5_readTest_27 rfl (lv_at hl 0 rfl) ?_
      refine k_X5_take N ⟨hx, hb, hml, hown, hts⟩ mw_363 ⟨by dsimp only [rm_X5_take, rmq_sum, rmq_fact]; omega, by dsimp only [rm_X5_take, rmq_sum, rmq_fact]; omega⟩ h hK hP hD hS hl.1 (rest := []) (Nat.le_of_ble_eq_true rfl) ⟨Nat.le_of_ble_eq_true rfl, Nat.le_of_ble_eq_true rfl⟩ dX5_readTest_28 (fun r1 τ2 H locs h hP hD hS => ?_)
      refine lv_pop hx hb dX5_readTest_31 rfl ?_
      refine lv_aload_n hx hb dX5_readTest_32 rfl (lv_at hl 0 rfl) ?_
      refine k_X5_readBoth N hSm ⟨hx, hb, hml, hown, hts⟩ mw_422 ⟨by dsimp only [rmq_sum, rmq_fact]; omega, by dsimp only [rmq_sum, rmq_fact]; omega⟩ h hK hP hD hS hl.1 (rest := []) (Nat.le_of_ble_eq_true rfl) ⟨Nat.le_of_ble_eq_true rfl, Nat.le_of_ble_eq_true rfl⟩ dX5_readTest_33 (fun r3 τ4 H locs h hP hD hS => ?_)
      refine lv_if_ne (tgt := 41) hx hb dX5_readTest_36 (by decide) (fun hc => ?_) (fun hc => ?_)
      · have h := h.2 hc
        refine lv_aload_n hx hb dX5_readTest_41 rfl (lv_at hl 0 rfl) ?_
        refine xg_5_2 hx hb hts hown hK hP mw_176 dX5_readTest_42 ?_
        refine lv_bipush (v := (10 : Int32)) hx hb dX5_readTest_45 (by decide) ?_
        refine k_X6_emit N ⟨hx, hb, hml, hown, hts⟩ mw_403 ⟨by dsimp only [rm_X6_emit, rmq_sum, rmq_fact]; omega, by dsimp only [rm_X6_emit, rmq_sum, rmq_fact]; omega⟩ h hK hP hD hS hl.1 (rest := []) (Nat.le_of_ble_eq_true rfl) ⟨Nat.le_of_ble_eq_true rfl, Nat.le_of_ble_eq_true rfl⟩ dX5_readTest_47 (fun τ6 H locs h hP hD hS => ?_)
        obtain ⟨v7, ev7⟩ : ∃ z : Int32, z = x1 + (1 : Int32) := ⟨_, rfl⟩
        have h := h v7 ev7
        refine lv_iinc (v := v7) (lv' := [(1, .int v7), (0, .ref (ad 5))]) hx hb dX5_readTest_50 hl (k := 1) rfl (by rw [ev7]; rfl) (by decide) rfl (fun ls hl => ?_)
        refine lv_goto (tgt := 11) hx hb dX5_readTest_53 (by decide) ?_
        exact hk_11 v7 τ6 _ _ _ h hP hD hS (lv_sub hl [1, 0] rfl)
      · have h := h.1 hc
        refine lv_iconst (v := (0 : Int32)) hx hb dX5_readTest_39 (by decide) ?_
        exact zret_z hx hb hr hlocks hK hP hD hS zb_0 h dX5_readTest_40
set_option maxHeartbeats 4000000 in
set_option maxRecDepth 100000 in
theorem t_X5_readTest_11 (C0 : zCx p s m meth c args RX5 cX5_readTest 2 (some .boolean) vs_X5_readTest) (hK : va_K (dC, dI) vwCl (x_ty cI cJ) s) (N : Nat) {d : Nat} {S : zSt → (Int32 → zSt → Prop) → Prop} (hSm : ∀ (sz : Nat) (σ : zSt) (Q : Int32 → zSt → Prop), S σ Q → Met l yX5_readFact vs_X5_readFact (rmq_fact 0 d) (va_Pc [.ref (ad 5)] (zPc (dC, dI) (x_ty cI cJ) (x_W ad cI cJ) sz σ)) (zQi (dC, dI) (x_ty cI cJ) (x_W ad cI cJ) (zAW x_n ad sz) Q) 0 0 (zAW x_n ad sz)) {Q : Int32 → zSt → Prop} : ∀ (f : Nat) (x1 : Int32) (σ : zSt) (H : Heap) (locs : List Loc) (ls : Array Slot), w_X5_readTest_11 N S  Q f x1 σ → va_P (dC, dI) vwCl (x_W ad cI cJ σ) H → va_D (zAW x_n ad s.heap.size) (x_W ad cI cJ σ) → va_S (zAW x_n ad s.heap.size) s.heap H locs → lv_has ls 2 [(0, .ref (ad 5)), (1, .int x1)] → W p l e (rmq_fact 2 d) s m args below meth c H locs 0 0 (MQ below (zQi (dC, dI) (x_ty cI cJ) (x_W ad cI cJ) (zAW x_n ad s.heap.size) Q) args s 0 0 (zAW x_n ad s.heap.size)) (F0 m 11 ls []) := by
  intro f
  induction f with
  | zero => intro x1 σ H locs ls h; exact h.elim
  | succ f ih =>
    intro x1 σ H locs ls h hP hD hS hl
    exact tb_X5_readTest_11 C0 hK N hSm  (k_11 := w_X5_readTest_11 N S  Q f) ih x1 σ H locs ls h hP hD hS hl
set_option maxHeartbeats 4000000 in
set_option maxRecDepth 100000 in
theorem t_X5_readTest_0 (C0 : zCx p s m meth c args RX5 cX5_readTest 2 (some .boolean) vs_X5_readTest) (hK : va_K (dC, dI) vwCl (x_ty cI cJ) s) (N : Nat) {d : Nat} {S : zSt → (Int32 → zSt → Prop) → Prop} (hSm : ∀ (sz : Nat) (σ : zSt) (Q : Int32 → zSt → Prop), S σ Q → Met l yX5_readFact vs_X5_readFact (rmq_fact 0 d) (va_Pc [.ref (ad 5)] (zPc (dC, dI) (x_ty cI cJ) (x_W ad cI cJ) sz σ)) (zQi (dC, dI) (x_ty cI cJ) (x_W ad cI cJ) (zAW x_n ad sz) Q) 0 0 (zAW x_n ad sz)) {Q : Int32 → zSt → Prop} : ∀  (σ : zSt) (H : Heap) (locs : List Loc) (ls : Array Slot), w_X5_readTest N S  σ Q → va_P (dC, dI) vwCl (x_W ad cI cJ σ) H → va_D (zAW x_n ad s.heap.size) (x_W ad cI cJ σ) → va_S (zAW x_n ad s.heap.size) s.heap H locs → lv_has ls 2 [(0, .ref (ad 5))] → W p l e (rmq_fact 2 d) s m args below meth c H locs 0 0 (MQ below (zQi (dC, dI) (x_ty cI cJ) (x_W ad cI cJ) (zAW x_n ad s.heap.size) Q) args s 0 0 (zAW x_n ad s.heap.size)) (F0 m 0 ls []) := by
  obtain ⟨hx, hb, hml, hr, hown, hts, hlocks⟩ := id C0
  intro  σ H locs ls h hP hD hS hl
  unfold w_X5_readTest at h
  refine lv_aload_n hx hb dX5_readTest_0 rfl (lv_at hl 0 rfl) ?_
  refine k_X5_readBoth N hSm ⟨hx, hb, hml, hown, hts⟩ mw_422 ⟨by dsimp only [rmq_sum, rmq_fact]; omega, by dsimp only [rmq_sum, rmq_fact]; omega⟩ h hK hP hD hS hl.1 (rest := []) (Nat.le_of_ble_eq_true rfl) ⟨Nat.le_of_ble_eq_true rfl, Nat.le_of_ble_eq_true rfl⟩ dX5_readTest_1 (fun r1 τ2 H locs h hP hD hS => ?_)
  refine lv_if_ne (tgt := 9) hx hb dX5_readTest_4 (by decide) (fun hc => ?_) (fun hc => ?_)
  · have h := h.2 hc
    refine lv_iconst (v := (0 : Int32)) hx hb dX5_readTest_9 (by decide) ?_
    refine lv_istore_n (lv' := [(1, .int (0 : Int32)), (0, .ref (ad 5))]) hx hb dX5_readTest_10 rfl hl (by decide) rfl (fun ls hl => ?_)
    exact t_X5_readTest_11 C0 hK N hSm  N (0 : Int32) τ2 _ _ _ h hP hD hS (lv_sub hl [1, 0] rfl)
  · have h := h.1 hc
    refine lv_iconst (v := (0 : Int32)) hx hb dX5_readTest_7 (by decide) ?_
    exact zret_z hx hb hr hlocks hK hP hD hS zb_0 h dX5_readTest_8
set_option maxHeartbeats 4000000 in
set_option maxRecDepth 100000 in
theorem c_X5_readTest (N : Nat) (l : Launch) (dC : Nat → ClassId) (dI : Nat → Nat → Nat) (ad : Nat → Nat) (cI cJ : ClassId) {d : Nat} {S : zSt → (Int32 → zSt → Prop) → Prop} (hSm : ∀ (sz : Nat) (σ : zSt) (Q : Int32 → zSt → Prop), S σ Q → Met l yX5_readFact vs_X5_readFact (rmq_fact 0 d) (va_Pc [.ref (ad 5)] (zPc (dC, dI) (x_ty cI cJ) (x_W ad cI cJ) sz σ)) (zQi (dC, dI) (x_ty cI cJ) (x_W ad cI cJ) (zAW x_n ad sz) Q) 0 0 (zAW x_n ad sz)) (sz : Nat) (σ : zSt)  (Q : Int32 → zSt → Prop) (h : w_X5_readTest N S  σ Q) : Met l yX5_readTest vs_X5_readTest (rmq_fact 2 d) (va_Pc [.ref (ad 5)] (zPc (dC, dI) (x_ty cI cJ) (x_W ad cI cJ) sz σ)) (zQi (dC, dI) (x_ty cI cJ) (x_W ad cI cJ) (zAW x_n ad sz) Q) 0 0 (zAW x_n ad sz) := by
  refine Met.ofW (cc := cX5_readTest) (maxL := 2) (ret := (some .boolean)) (by decide) rfl ?_
  intro p e s m args below meth c s₁ B hml hv
  obtain ⟨rfl, hsz, hP, hK, hD0⟩ := hv
  subst hsz
  have C0 : zCx p s m meth c _ RX5 cX5_readTest 2 (some .boolean) vs_X5_readTest := ⟨B.exec, B.bytes, hml, B.returns, findClass_of_methodNamed B.named, atoms_spec (ws := vs_X5_readTest) B.pre, B.notSynchronized⟩
  have hD := x_D0 (n0 := s.heap.size) hD0
  have hl := lv_entry ([.ref (ad 5)]) (n := 2) (Nat.le_of_ble_eq_true rfl)
  rw [lg_entry_eq]
  generalize (lg_sl ([.ref (ad 5)]) ++ List.replicate (2 - (lg_sl ([.ref (ad 5)])).length) Slot.unset).toArray = ls at hl ⊢
  exact t_X5_readTest_0 C0 hK N hSm  σ _ _ ls h hP hD va_S.rf hl
theorem k_X5_readTest (N : Nat) {d : Nat} {S : zSt → (Int32 → zSt → Prop) → Prop} (hSm : ∀ (sz : Nat) (σ : zSt) (Q : Int32 → zSt → Prop), S σ Q → Met l yX5_readFact vs_X5_readFact (rmq_fact 0 d) (va_Pc [.ref (ad 5)] (zPc (dC, dI) (x_ty cI cJ) (x_W ad cI cJ) sz σ)) (zQi (dC, dI) (x_ty cI cJ) (x_W ad cI cJ) (zAW x_n ad sz) Q) 0 0 (zAW x_n ad sz)) {R : Room} {H : Heap} {locs : List Loc} {cells slots : Nat} {Q2 : State → Prop} {cc : ByteArray} {nL pc index : Nat} {ls : Array Slot} {rest : List Value} {own : String} {c0 : Cond} {σ : zSt}  {Q : Int32 → zSt → Prop} (S0 : CallFix p m c cc nL s args (c0 :: zT) own) (hml : Cond.methodLink own index yX5_readTest ∈ zT) (hR : (rmq_fact 2 d).frames + 1 ≤ R.frames ∧ 8 + (2 + 11) + (rmq_fact 2 d).locals ≤ R.locals) (h : w_X5_readTest N S  σ Q) (hK : va_K (dC, dI) vwCl (x_ty cI cJ) s) (hP : va_P (dC, dI) vwCl (x_W ad cI cJ σ) H) (hD : va_D (zAW x_n ad s.heap.size) (x_W ad cI cJ σ)) (hS : va_S (zAW x_n ad s.heap.size) s.heap H locs) (hsz : ls.size = nL) (hW : (rest.map fun v => v.category).sum ≤ 8) (hcs : cells ≤ R.cells ∧ slots ≤ R.slots) (hdg : decode cc pc = .ok (.invokevirtual index, 3)) (kk : ∀ (r : Int32) (τ : zSt) (H1 : Heap) (locs1 : List Loc), Q r τ → va_P (dC, dI) vwCl (x_W ad cI cJ τ) H1 → va_D (zAW x_n ad s.heap.size) (x_W ad cI cJ τ) → va_S (zAW x_n ad s.heap.size) s.heap H1 locs1 → W p l e R s m args below meth c H1 locs1 cells slots Q2 (F0 m (pc + 3) ls (.int r :: rest))) : W p l e R s m args below meth c H locs cells slots Q2 (F0 m pc ls (.ref (ad 5) :: rest)) :=
  zcv_i (T := TX5) (N' := 14) (k := 5) (ci := 5) (fs := x_f5 ad σ) [] S0 (c_X5_readTest N l dC dI ad cI cJ hSm H.size σ  Q h) (cw_X5_readTest S0.2.2.2.2 hml rfl rfl hR) rfl rfl hK hP hD hS rfl hsz hW rfl hcs hdg kk
end q02
section q02
def b_X5_readComparison_52 (N : Nat) (Q : Int32 → zSt → Prop) (s0 : Int32) (σ : zSt) : Prop :=
  (s0 = (-1 : Int32) → w_X5_fail N (1 : Int32) (σ.1 13) σ (fun r7 τ8 => (zb r7) ∧ Q r7 τ8)) ∧ (¬ s0 = (-1 : Int32) → w_X5_take N σ (fun r1 τ2 => w_X5_readSum N 9 τ2 (fun r3 τ4 => (r3 = 0 → Q (0 : Int32) τ4) ∧ (¬ r3 = 0 → w_X6_emit N s0 τ4 (fun τ6 => Q (1 : Int32) τ6)))))
def w_X5_readComparison (N : Nat)  (σ : zSt) (Q : Int32 → zSt → Prop) : Prop :=
  w_X5_readSum N 9 σ (fun r1 τ2 => (r1 = 0 → Q (0 : Int32) τ2) ∧ (¬ r1 = 0 → w_X5_isSign N (60 : Int32) τ2 (fun r3 τ4 => (r3 = 0 → w_X5_isSign N (62 : Int32) τ4 (fun r5 τ6 => (r5 = 0 → w_X5_isSign N (61 : Int32) τ6 (fun r7 τ8 => (r7 = 0 → b_X5_readComparison_52 N Q (-1 : Int32) τ8) ∧ (¬ r7 = 0 → b_X5_readComparison_52 N Q (8 : Int32) τ8))) ∧ (¬ r5 = 0 → b_X5_readComparison_52 N Q (7 : Int32) τ6))) ∧ (¬ r3 = 0 → b_X5_readComparison_52 N Q (6 : Int32) τ4))))
variable {p : Program} {l : Launch} {e : Env} {s : State} {m : MethodId} {args : Array Value} {below : List Frame} {meth : Method} {c : Code} {dC : Nat → ClassId} {dI : Nat → Nat → Nat} {ad : Nat → Nat} {cI cJ : ClassId}
set_option maxHeartbeats 4000000 in
set_option maxRecDepth 100000 in
theorem t_X5_readComparison_52 (C0 : zCx p s m meth c args RX5 cX5_readComparison 2 (some .boolean) vs_X5_readComparison) (hK : va_K (dC, dI) vwCl (x_ty cI cJ) s) (N : Nat) {Q : Int32 → zSt → Prop} : ∀ (s0 : Int32) (σ : zSt) (H : Heap) (locs : List Loc) (ls : Array Slot), b_X5_readComparison_52 N  Q s0 σ → va_P (dC, dI) vwCl (x_W ad cI cJ σ) H → va_D (zAW x_n ad s.heap.size) (x_W ad cI cJ σ) → va_S (zAW x_n ad s.heap.size) s.heap H locs → lv_has ls 2 [(0, .ref (ad 5))] → W p l e rm_X5_readComparison s m args below meth c H locs 0 0 (MQ below (zQi (dC, dI) (x_ty cI cJ) (x_W ad cI cJ) (zAW x_n ad s.heap.size) Q) args s 0 0 (zAW x_n ad s.heap.size)) (F0 m 52 ls [.int s0]) := by
  obtain ⟨hx, hb, hml, hr, hown, hts, hlocks⟩ := id C0
  intro s0 σ H locs ls h hP hD hS hl
  unfold b_X5_readComparison_52 at h
  refine lv_istore_n (lv' := [(1, .int s0), (0, .ref (ad 5))]) hx hb dX5_readComparison_52 rfl hl (by decide) rfl (fun ls hl => ?_)
  refine lv_iload_n hx hb dX5_readComparison_53 rfl (lv_at hl 0 rfl) ?_
  refine lv_iconst (v := (-1 : Int32)) hx hb dX5_readComparison_54 (by decide) ?_
  refine lv_icmp_ne (tgt := 68) hx hb dX5_readComparison_55 (by decide) (fun hc => ?_) (fun hc => ?_)
  · have h := h.2 hc
    refine lv_aload_n hx hb dX5_readComparison_68 rfl (lv_at hl 1 rfl) ?_
    refine k_X5_take N ⟨hx, hb, hml, hown, hts⟩ mw_363 ⟨Nat.le_of_ble_eq_true rfl, Nat.le_of_ble_eq_true rfl⟩ h hK hP hD hS hl.1 (rest := []) (Nat.le_of_ble_eq_true rfl) ⟨Nat.le_of_ble_eq_true rfl, Nat.le_of_ble_eq_true rfl⟩ dX5_readComparison_69 (fun r1 τ2 H locs h hP hD hS => ?_)
    refine lv_pop hx hb dX5_readComparison_72 rfl ?_
    refine lv_aload_n hx hb dX5_readComparison_73 rfl (lv_at hl 1 rfl) ?_
    refine k_X5_readSum N (d := 9) ⟨hx, hb, hml, hown, hts⟩ mw_393 ⟨Nat.le_of_ble_eq_true rfl, Nat.le_of_ble_eq_true rfl⟩ h hK hP hD hS hl.1 (rest := []) (Nat.le_of_ble_eq_true rfl) ⟨Nat.le_of_ble_eq_true rfl, Nat.le_of_ble_eq_true rfl⟩ dX5_readComparison_74 (fun r3 τ4 H locs h hP hD hS => ?_)
    refine lv_if_ne (tgt := 82) hx hb dX5_readComparison_77 (by decide) (fun hc => ?_) (fun hc => ?_)
    · have h := h.2 hc
      refine lv_aload_n hx hb dX5_readComparison_82 rfl (lv_at hl 1 rfl) ?_
      refine xg_5_2 hx hb hts hown hK hP mw_176 dX5_readComparison_83 ?_
      refine lv_iload_n hx hb dX5_readComparison_86 rfl (lv_at hl 0 rfl) ?_
      refine k_X6_emit N ⟨hx, hb, hml, hown, hts⟩ mw_403 ⟨Nat.le_of_ble_eq_true rfl, Nat.le_of_ble_eq_true rfl⟩ h hK hP hD hS hl.1 (rest := []) (Nat.le_of_ble_eq_true rfl) ⟨Nat.le_of_ble_eq_true rfl, Nat.le_of_ble_eq_true rfl⟩ dX5_readComparison_87 (fun τ6 H locs h hP hD hS => ?_)
      refine lv_iconst (v := (1 : Int32)) hx hb dX5_readComparison_90 (by decide) ?_
      exact zret_z hx hb hr hlocks hK hP hD hS zb_1 h dX5_readComparison_91
    · have h := h.1 hc
      refine lv_iconst (v := (0 : Int32)) hx hb dX5_readComparison_80 (by decide) ?_
      exact zret_z hx hb hr hlocks hK hP hD hS zb_0 h dX5_readComparison_81
  · have h := h.1 hc
    refine lv_aload_n hx hb dX5_readComparison_58 rfl (lv_at hl 1 rfl) ?_
    refine lv_iconst (v := (1 : Int32)) hx hb dX5_readComparison_59 (by decide) ?_
    refine lv_aload_n hx hb dX5_readComparison_60 rfl (lv_at hl 1 rfl) ?_
    refine xg_5_10 hx hb hts hown hK hP mw_188 dX5_readComparison_61 ?_
    refine k_X5_fail N ⟨hx, hb, hml, hown, hts⟩ mw_369 ⟨Nat.le_of_ble_eq_true rfl, Nat.le_of_ble_eq_true rfl⟩ h hK hP hD hS hl.1 (rest := []) (Nat.le_of_ble_eq_true rfl) ⟨Nat.le_of_ble_eq_true rfl, Nat.le_of_ble_eq_true rfl⟩ dX5_readComparison_64 (fun r7 τ8 H locs h hP hD hS => ?_)
    exact zret_z hx hb hr hlocks hK hP hD hS h.1 h.2 dX5_readComparison_67
set_option maxHeartbeats 4000000 in
set_option maxRecDepth 100000 in
theorem t_X5_readComparison_0 (C0 : zCx p s m meth c args RX5 cX5_readComparison 2 (some .boolean) vs_X5_readComparison) (hK : va_K (dC, dI) vwCl (x_ty cI cJ) s) (N : Nat) {Q : Int32 → zSt → Prop} : ∀  (σ : zSt) (H : Heap) (locs : List Loc) (ls : Array Slot), w_X5_readComparison N  σ Q → va_P (dC, dI) vwCl (x_W ad cI cJ σ) H → va_D (zAW x_n ad s.heap.size) (x_W ad cI cJ σ) → va_S (zAW x_n ad s.heap.size) s.heap H locs → lv_has ls 2 [(0, .ref (ad 5))] → W p l e rm_X5_readComparison s m args below meth c H locs 0 0 (MQ below (zQi (dC, dI) (x_ty cI cJ) (x_W ad cI cJ) (zAW x_n ad s.heap.size) Q) args s 0 0 (zAW x_n ad s.heap.size)) (F0 m 0 ls []) := by
  obtain ⟨hx, hb, hml, hr, hown, hts, hlocks⟩ := id C0
  intro  σ H locs ls h hP hD hS hl
  unfold w_X5_readComparison at h
  refine lv_aload_n hx hb dX5_readComparison_0 rfl (lv_at hl 0 rfl) ?_
  refine k_X5_readSum N (d := 9) ⟨hx, hb, hml, hown, hts⟩ mw_393 ⟨Nat.le_of_ble_eq_true rfl, Nat.le_of_ble_eq_true rfl⟩ h hK hP hD hS hl.1 (rest := []) (Nat.le_of_ble_eq_true rfl) ⟨Nat.le_of_ble_eq_true rfl, Nat.le_of_ble_eq_true rfl⟩ dX5_readComparison_1 (fun r1 τ2 H locs h hP hD hS => ?_)
  refine lv_if_ne (tgt := 9) hx hb dX5_readComparison_4 (by decide) (fun hc => ?_) (fun hc => ?_)
  · have h := h.2 hc
    refine lv_aload_n hx hb dX5_readComparison_9 rfl (lv_at hl 0 rfl) ?_
    refine lv_bipush (v := (60 : Int32)) hx hb dX5_readComparison_10 (by decide) ?_
    refine k_X5_isSign N ⟨hx, hb, hml, hown, hts⟩ mw_407 ⟨Nat.le_of_ble_eq_true rfl, Nat.le_of_ble_eq_true rfl⟩ h hK hP hD hS hl.1 (rest := []) (Nat.le_of_ble_eq_true rfl) ⟨Nat.le_of_ble_eq_true rfl, Nat.le_of_ble_eq_true rfl⟩ dX5_readComparison_12 (fun r3 τ4 H locs h hP hD hS => ?_)
    refine lv_if_eq (tgt := 23) hx hb dX5_readComparison_15 (by decide) (fun hc => ?_) (fun hc => ?_)
    · have h := h.1 hc
      refine lv_aload_n hx hb dX5_readComparison_23 rfl (lv_at hl 0 rfl) ?_
      refine lv_bipush (v := (62 : Int32)) hx hb dX5_readComparison_24 (by decide) ?_
      refine k_X5_isSign N ⟨hx, hb, hml, hown, hts⟩ mw_407 ⟨Nat.le_of_ble_eq_true rfl, Nat.le_of_ble_eq_true rfl⟩ h hK hP hD hS hl.1 (rest := []) (Nat.le_of_ble_eq_true rfl) ⟨Nat.le_of_ble_eq_true rfl, Nat.le_of_ble_eq_true rfl⟩ dX5_readComparison_26 (fun r5 τ6 H locs h hP hD hS => ?_)
      refine lv_if_eq (tgt := 37) hx hb dX5_readComparison_29 (by decide) (fun hc => ?_) (fun hc => ?_)
      · have h := h.1 hc
        refine lv_aload_n hx hb dX5_readComparison_37 rfl (lv_at hl 0 rfl) ?_
        refine lv_bipush (v := (61 : Int32)) hx hb dX5_readComparison_38 (by decide) ?_
        refine k_X5_isSign N ⟨hx, hb, hml, hown, hts⟩ mw_407 ⟨Nat.le_of_ble_eq_true rfl, Nat.le_of_ble_eq_true rfl⟩ h hK hP hD hS hl.1 (rest := []) (Nat.le_of_ble_eq_true rfl) ⟨Nat.le_of_ble_eq_true rfl, Nat.le_of_ble_eq_true rfl⟩ dX5_readComparison_40 (fun r7 τ8 H locs h hP hD hS => ?_)
        refine lv_if_eq (tgt := 51) hx hb dX5_readComparison_43 (by decide) (fun hc => ?_) (fun hc => ?_)
        · have h := h.1 hc
          refine lv_iconst (v := (-1 : Int32)) hx hb dX5_readComparison_51 (by decide) ?_
          exact t_X5_readComparison_52 C0 hK N  (-1 : Int32) τ8 _ _ _ h hP hD hS (lv_sub hl [0] rfl)
        · have h := h.2 hc
          refine lv_bipush (v := (8 : Int32)) hx hb dX5_readComparison_46 (by decide) ?_
          refine lv_goto (tgt := 52) hx hb dX5_readComparison_48 (by decide) ?_
          exact t_X5_readComparison_52 C0 hK N  (8 : Int32) τ8 _ _ _ h hP hD hS (lv_sub hl [0] rfl)
      · have h := h.2 hc
        refine lv_bipush (v := (7 : Int32)) hx hb dX5_readComparison_32 (by decide) ?_
        refine lv_goto (tgt := 52) hx hb dX5_readComparison_34 (by decide) ?_
        exact t_X5_readComparison_52 C0 hK N  (7 : Int32) τ6 _ _ _ h hP hD hS (lv_sub hl [0] rfl)
    · have h := h.2 hc
      refine lv_bipush (v := (6 : Int32)) hx hb dX5_readComparison_18 (by decide) ?_
      refine lv_goto (tgt := 52) hx hb dX5_readComparison_20 (by decide) ?_
      exact t_X5_readComparison_52 C0 hK N  (6 : Int32) τ4 _ _ _ h hP hD hS (lv_sub hl [0] rfl)
  · have h := h.1 hc
    refine lv_iconst (v := (0 : Int32)) hx hb dX5_readComparison_7 (by decide) ?_
    exact zret_z hx hb hr hlocks hK hP hD hS zb_0 h dX5_readComparison_8
set_option maxHeartbeats 4000000 in
set_option maxRecDepth 100000 in
theorem c_X5_readComparison (N : Nat) (l : Launch) (dC : Nat → ClassId) (dI : Nat → Nat → Nat) (ad : Nat → Nat) (cI cJ : ClassId) (sz : Nat) (σ : zSt)  (Q : Int32 → zSt → Prop) (h : w_X5_readComparison N  σ Q) : Met l yX5_readComparison vs_X5_readComparison rm_X5_readComparison (va_Pc [.ref (ad 5)] (zPc (dC, dI) (x_ty cI cJ) (x_W ad cI cJ) sz σ)) (zQi (dC, dI) (x_ty cI cJ) (x_W ad cI cJ) (zAW x_n ad sz) Q) 0 0 (zAW x_n ad sz) := by
  refine Met.ofW (cc := cX5_readComparison) (maxL := 2) (ret := (some .boolean)) (by decide) rfl ?_
  intro p e s m args below meth c s₁ B hml hv
  obtain ⟨rfl, hsz, hP, hK, hD0⟩ := hv
  subst hsz
  have C0 : zCx p s m meth c _ RX5 cX5_readComparison 2 (some .boolean) vs_X5_readComparison := ⟨B.exec, B.bytes, hml, B.returns, findClass_of_methodNamed B.named, atoms_spec (ws := vs_X5_readComparison) B.pre, B.notSynchronized⟩
  have hD := x_D0 (n0 := s.heap.size) hD0
  have hl := lv_entry ([.ref (ad 5)]) (n := 2) (Nat.le_of_ble_eq_true rfl)
  rw [lg_entry_eq]
  generalize (lg_sl ([.ref (ad 5)]) ++ List.replicate (2 - (lg_sl ([.ref (ad 5)])).length) Slot.unset).toArray = ls at hl ⊢
  exact t_X5_readComparison_0 C0 hK N  σ _ _ ls h hP hD va_S.rf hl
theorem k_X5_readComparison (N : Nat) {R : Room} {H : Heap} {locs : List Loc} {cells slots : Nat} {Q2 : State → Prop} {cc : ByteArray} {nL pc index : Nat} {ls : Array Slot} {rest : List Value} {own : String} {c0 : Cond} {σ : zSt}  {Q : Int32 → zSt → Prop} (S0 : CallFix p m c cc nL s args (c0 :: zT) own) (hml : Cond.methodLink own index yX5_readComparison ∈ zT) (hR : rm_X5_readComparison.frames + 1 ≤ R.frames ∧ 8 + (2 + 11) + rm_X5_readComparison.locals ≤ R.locals) (h : w_X5_readComparison N  σ Q) (hK : va_K (dC, dI) vwCl (x_ty cI cJ) s) (hP : va_P (dC, dI) vwCl (x_W ad cI cJ σ) H) (hD : va_D (zAW x_n ad s.heap.size) (x_W ad cI cJ σ)) (hS : va_S (zAW x_n ad s.heap.size) s.heap H locs) (hsz : ls.size = nL) (hW : (rest.map fun v => v.category).sum ≤ 8) (hcs : cells ≤ R.cells ∧ slots ≤ R.slots) (hdg : decode cc pc = .ok (.invokevirtual index, 3)) (kk : ∀ (r : Int32) (τ : zSt) (H1 : Heap) (locs1 : List Loc), Q r τ → va_P (dC, dI) vwCl (x_W ad cI cJ τ) H1 → va_D (zAW x_n ad s.heap.size) (x_W ad cI cJ τ) → va_S (zAW x_n ad s.heap.size) s.heap H1 locs1 → W p l e R s m args below meth c H1 locs1 cells slots Q2 (F0 m (pc + 3) ls (.int r :: rest))) : W p l e R s m args below meth c H locs cells slots Q2 (F0 m pc ls (.ref (ad 5) :: rest)) :=
  zcv_i (T := TX5) (N' := 14) (k := 5) (ci := 5) (fs := x_f5 ad σ) [] S0 (c_X5_readComparison N l dC dI ad cI cJ H.size σ  Q h) (cw_X5_readComparison S0.2.2.2.2 hml rfl rfl hR) rfl rfl hK hP hD hS rfl hsz hW rfl hcs hdg kk
end q02
section q02
def b_X5_seesPerson_31 (N : Nat) (Q : Int32 → zSt → Prop)  (σ : zSt) : Prop :=
  w_X5_fail N (3 : Int32) (σ.1 13) σ (fun r1 τ2 => (r1 = 0 → Q (0 : Int32) τ2) ∧ (¬ r1 = 0 → Q (1 : Int32) τ2))
def w_X5_seesPerson (N : Nat) (x1 : Int32) (σ : zSt) (Q : Int32 → zSt → Prop) : Prop :=
  w_X5_seesName N σ (fun r1 τ2 => (r1 = 0 → Q (0 : Int32) τ2) ∧ (¬ r1 = 0 → w_X4_numberOf N (τ2.1 15) τ2 (fun r3 τ4 => (r3 = (-1 : Int32) → b_X5_seesPerson_31 N Q τ4) ∧ (¬ r3 = (-1 : Int32) → (r3 = x1 → b_X5_seesPerson_31 N Q τ4) ∧ (¬ r3 = x1 → Q (1 : Int32) τ4)))))
variable {p : Program} {l : Launch} {e : Env} {s : State} {m : MethodId} {args : Array Value} {below : List Frame} {meth : Method} {c : Code} {dC : Nat → ClassId} {dI : Nat → Nat → Nat} {ad : Nat → Nat} {cI cJ : ClassId}
set_option maxHeartbeats 4000000 in
set_option maxRecDepth 100000 in
theorem t_X5_seesPerson_31 (C0 : zCx p s m meth c args RX5 cX5_seesPerson 3 (some .boolean) vs_X5_seesPerson) (hK : va_K (dC, dI) vwCl (x_ty cI cJ) s) (N : Nat) {Q : Int32 → zSt → Prop} : ∀  (σ : zSt) (H : Heap) (locs : List Loc) (ls : Array Slot), b_X5_seesPerson_31 N  Q  σ → va_P (dC, dI) vwCl (x_W ad cI cJ σ) H → va_D (zAW x_n ad s.heap.size) (x_W ad cI cJ σ) → va_S (zAW x_n ad s.heap.size) s.heap H locs → lv_has ls 3 [(0, .ref (ad 5))] → W p l e rm_X5_seesPerson s m args below meth c H locs 0 0 (MQ below (zQi (dC, dI) (x_ty cI cJ) (x_W ad cI cJ) (zAW x_n ad s.heap.size) Q) args s 0 0 (zAW x_n ad s.heap.size)) (F0 m 31 ls []) := by
  obtain ⟨hx, hb, hml, hr, hown, hts, hlocks⟩ := id C0
  intro  σ H locs ls h hP hD hS hl
  unfold b_X5_seesPerson_31 at h
  refine lv_aload_n hx hb dX5_seesPerson_31 rfl (lv_at hl 0 rfl) ?_
  refine lv_iconst (v := (3 : Int32)) hx hb dX5_seesPerson_32 (by decide) ?_
  refine lv_aload_n hx hb dX5_seesPerson_33 rfl (lv_at hl 0 rfl) ?_
  refine xg_5_10 hx hb hts hown hK hP mw_188 dX5_seesPerson_34 ?_
  refine k_X5_fail N ⟨hx, hb, hml, hown, hts⟩ mw_369 ⟨Nat.le_of_ble_eq_true rfl, Nat.le_of_ble_eq_true rfl⟩ h hK hP hD hS hl.1 (rest := []) (Nat.le_of_ble_eq_true rfl) ⟨Nat.le_of_ble_eq_true rfl, Nat.le_of_ble_eq_true rfl⟩ dX5_seesPerson_37 (fun r1 τ2 H locs h hP hD hS => ?_)
  refine lv_if_eq (tgt := 47) hx hb dX5_seesPerson_40 (by decide) (fun hc => ?_) (fun hc => ?_)
  · have h := h.1 hc
    refine lv_iconst (v := (0 : Int32)) hx hb dX5_seesPerson_47 (by decide) ?_
    exact zret_z hx hb hr hlocks hK hP hD hS zb_0 h dX5_seesPerson_48
  · have h := h.2 hc
    refine lv_iconst (v := (1 : Int32)) hx hb dX5_seesPerson_43 (by decide) ?_
    refine lv_goto (tgt := 48) hx hb dX5_seesPerson_44 (by decide) ?_
    exact zret_z hx hb hr hlocks hK hP hD hS zb_1 h dX5_seesPerson_48
set_option maxHeartbeats 4000000 in
set_option maxRecDepth 100000 in
theorem t_X5_seesPerson_0 (C0 : zCx p s m meth c args RX5 cX5_seesPerson 3 (some .boolean) vs_X5_seesPerson) (hK : va_K (dC, dI) vwCl (x_ty cI cJ) s) (N : Nat) {Q : Int32 → zSt → Prop} : ∀ (x1 : Int32) (σ : zSt) (H : Heap) (locs : List Loc) (ls : Array Slot), w_X5_seesPerson N x1 σ Q → va_P (dC, dI) vwCl (x_W ad cI cJ σ) H → va_D (zAW x_n ad s.heap.size) (x_W ad cI cJ σ) → va_S (zAW x_n ad s.heap.size) s.heap H locs → lv_has ls 3 [(0, .ref (ad 5)), (1, .int x1)] → W p l e rm_X5_seesPerson s m args below meth c H locs 0 0 (MQ below (zQi (dC, dI) (x_ty cI cJ) (x_W ad cI cJ) (zAW x_n ad s.heap.size) Q) args s 0 0 (zAW x_n ad s.heap.size)) (F0 m 0 ls []) := by
  obtain ⟨hx, hb, hml, hr, hown, hts, hlocks⟩ := id C0
  intro x1 σ H locs ls h hP hD hS hl
  unfold w_X5_seesPerson at h
  refine lv_aload_n hx hb dX5_seesPerson_0 rfl (lv_at hl 0 rfl) ?_
  refine k_X5_seesName N ⟨hx, hb, hml, hown, hts⟩ mw_372 ⟨Nat.le_of_ble_eq_true rfl, Nat.le_of_ble_eq_true rfl⟩ h hK hP hD hS hl.1 (rest := []) (Nat.le_of_ble_eq_true rfl) ⟨Nat.le_of_ble_eq_true rfl, Nat.le_of_ble_eq_true rfl⟩ dX5_seesPerson_1 (fun r1 τ2 H locs h hP hD hS => ?_)
  refine lv_if_ne (tgt := 9) hx hb dX5_seesPerson_4 (by decide) (fun hc => ?_) (fun hc => ?_)
  · have h := h.2 hc
    refine lv_aload_n hx hb dX5_seesPerson_9 rfl (lv_at hl 0 rfl) ?_
    refine xg_5_1 hx hb hts hown hK hP mw_174 dX5_seesPerson_10 ?_
    refine lv_aload_n hx hb dX5_seesPerson_13 rfl (lv_at hl 0 rfl) ?_
    refine xg_5_12 hx hb hts hown hK hP mw_190 dX5_seesPerson_14 ?_
    refine k_X4_numberOf N ⟨hx, hb, hml, hown, hts⟩ mw_375 ⟨Nat.le_of_ble_eq_true rfl, Nat.le_of_ble_eq_true rfl⟩ h hK hP hD hS hl.1 (rest := []) (Nat.le_of_ble_eq_true rfl) ⟨Nat.le_of_ble_eq_true rfl, Nat.le_of_ble_eq_true rfl⟩ dX5_seesPerson_17 (fun r3 τ4 H locs h hP hD hS => ?_)
    refine lv_istore_n (lv' := [(2, .int r3), (0, .ref (ad 5)), (1, .int x1)]) hx hb dX5_seesPerson_20 rfl hl (by decide) rfl (fun ls hl => ?_)
    refine lv_iload_n hx hb dX5_seesPerson_21 rfl (lv_at hl 0 rfl) ?_
    refine lv_iconst (v := (-1 : Int32)) hx hb dX5_seesPerson_22 (by decide) ?_
    refine lv_icmp_eq (tgt := 31) hx hb dX5_seesPerson_23 (by decide) (fun hc => ?_) (fun hc => ?_)
    · have h := h.1 hc
      exact t_X5_seesPerson_31 C0 hK N  τ4 _ _ _ h hP hD hS (lv_sub hl [1] rfl)
    · have h := h.2 hc
      refine lv_iload_n hx hb dX5_seesPerson_26 rfl (lv_at hl 0 rfl) ?_
      refine lv_iload_n hx hb dX5_seesPerson_27 rfl (lv_at hl 2 rfl) ?_
      refine lv_icmp_ne (tgt := 43) hx hb dX5_seesPerson_28 (by decide) (fun hc => ?_) (fun hc => ?_)
      · have h := h.2 hc
        refine lv_iconst (v := (1 : Int32)) hx hb dX5_seesPerson_43 (by decide) ?_
        refine lv_goto (tgt := 48) hx hb dX5_seesPerson_44 (by decide) ?_
        exact zret_z hx hb hr hlocks hK hP hD hS zb_1 h dX5_seesPerson_48
      · have h := h.1 hc
        exact t_X5_seesPerson_31 C0 hK N  τ4 _ _ _ h hP hD hS (lv_sub hl [1] rfl)
  · have h := h.1 hc
    refine lv_iconst (v := (0 : Int32)) hx hb dX5_seesPerson_7 (by decide) ?_
    exact zret_z hx hb hr hlocks hK hP hD hS zb_0 h dX5_seesPerson_8
set_option maxHeartbeats 4000000 in
set_option maxRecDepth 100000 in
theorem c_X5_seesPerson (N : Nat) (l : Launch) (dC : Nat → ClassId) (dI : Nat → Nat → Nat) (ad : Nat → Nat) (cI cJ : ClassId) (sz : Nat) (σ : zSt) (x1 : Int32) (Q : Int32 → zSt → Prop) (h : w_X5_seesPerson N x1 σ Q) : Met l yX5_seesPerson vs_X5_seesPerson rm_X5_seesPerson (va_Pc [.ref (ad 5), .int x1] (zPc (dC, dI) (x_ty cI cJ) (x_W ad cI cJ) sz σ)) (zQi (dC, dI) (x_ty cI cJ) (x_W ad cI cJ) (zAW x_n ad sz) Q) 0 0 (zAW x_n ad sz) := by
  refine Met.ofW (cc := cX5_seesPerson) (maxL := 3) (ret := (some .boolean)) (by decide) rfl ?_
  intro p e s m args below meth c s₁ B hml hv
  obtain ⟨rfl, hsz, hP, hK, hD0⟩ := hv
  subst hsz
  have C0 : zCx p s m meth c _ RX5 cX5_seesPerson 3 (some .boolean) vs_X5_seesPerson := ⟨B.exec, B.bytes, hml, B.returns, findClass_of_methodNamed B.named, atoms_spec (ws := vs_X5_seesPerson) B.pre, B.notSynchronized⟩
  have hD := x_D0 (n0 := s.heap.size) hD0
  have hl := lv_entry ([.ref (ad 5), .int x1]) (n := 3) (Nat.le_of_ble_eq_true rfl)
  rw [lg_entry_eq]
  generalize (lg_sl ([.ref (ad 5), .int x1]) ++ List.replicate (3 - (lg_sl ([.ref (ad 5), .int x1])).length) Slot.unset).toArray = ls at hl ⊢
  exact t_X5_seesPerson_0 C0 hK N x1 σ _ _ ls h hP hD va_S.rf hl
theorem k_X5_seesPerson (N : Nat) {R : Room} {H : Heap} {locs : List Loc} {cells slots : Nat} {Q2 : State → Prop} {cc : ByteArray} {nL pc index : Nat} {ls : Array Slot} {rest : List Value} {own : String} {c0 : Cond} {σ : zSt} {x1 : Int32} {Q : Int32 → zSt → Prop} (S0 : CallFix p m c cc nL s args (c0 :: zT) own) (hml : Cond.methodLink own index yX5_seesPerson ∈ zT) (hR : rm_X5_seesPerson.frames + 1 ≤ R.frames ∧ 8 + (3 + 11) + rm_X5_seesPerson.locals ≤ R.locals) (h : w_X5_seesPerson N x1 σ Q) (hK : va_K (dC, dI) vwCl (x_ty cI cJ) s) (hP : va_P (dC, dI) vwCl (x_W ad cI cJ σ) H) (hD : va_D (zAW x_n ad s.heap.size) (x_W ad cI cJ σ)) (hS : va_S (zAW x_n ad s.heap.size) s.heap H locs) (hsz : ls.size = nL) (hW : (rest.map fun v => v.category).sum ≤ 8) (hcs : cells ≤ R.cells ∧ slots ≤ R.slots) (hdg : decode cc pc = .ok (.invokevirtual index, 3)) (kk : ∀ (r : Int32) (τ : zSt) (H1 : Heap) (locs1 : List Loc), Q r τ → va_P (dC, dI) vwCl (x_W ad cI cJ τ) H1 → va_D (zAW x_n ad s.heap.size) (x_W ad cI cJ τ) → va_S (zAW x_n ad s.heap.size) s.heap H1 locs1 → W p l e R s m args below meth c H1 locs1 cells slots Q2 (F0 m (pc + 3) ls (.int r :: rest))) : W p l e R s m args below meth c H locs cells slots Q2 (F0 m pc ls (.int x1 :: .ref (ad 5) :: rest)) :=
  zcv_i (T := TX5) (N' := 14) (k := 5) (ci := 5) (fs := x_f5 ad σ) [.int x1] S0 (c_X5_seesPerson N l dC dI ad cI cJ H.size σ x1 Q h) (cw_X5_seesPerson S0.2.2.2.2 hml rfl rfl hR) rfl rfl hK hP hD hS rfl hsz hW rfl hcs hdg kk
end q02
section q02
def wb_X5_readFact (N : Nat) (S : zSt → (Int32 → zSt → Prop) → Prop)  (σ : zSt) (Q : Int32 → zSt → Prop) : Prop :=
  ((σ.1 16) = (9 : Int32) → w_X5_takeOpening N σ (fun r25 τ26 => (r25 = 0 → Q (0 : Int32) τ26) ∧ (¬ r25 = 0 → S τ26 (fun r27 τ28 => (r27 = 0 → Q (0 : Int32) τ28) ∧ (¬ r27 = 0 → ∀ τ29 : zSt, τ29 = zI τ28 11 ((τ28.1 11) - (1 : Int32)) → w_X6_emit N (11 : Int32) τ29 (fun τ31 => Q (1 : Int32) τ31)))))) ∧ (¬ (σ.1 16) = (9 : Int32) → w_X5_isSign N (91 : Int32) σ (fun r1 τ2 => (r1 = 0 → ((τ2.1 16) = (10 : Int32) → w_X6_emit N (12 : Int32) τ2 (fun τ16 => w_X5_take N τ16 (fun r17 τ18 => (zb r17) ∧ Q r17 τ18))) ∧ (¬ (τ2.1 16) = (10 : Int32) → ((τ2.1 16) = (11 : Int32) → w_X5_take N τ2 (fun r5 τ6 => w_X5_seesPerson N (-1 : Int32) τ6 (fun r7 τ8 => (r7 = 0 → Q (0 : Int32) τ8) ∧ (¬ r7 = 0 → w_X4_numberOf N (τ8.1 15) τ8 (fun r9 τ10 => w_X6_emit N ((30 : Int32) + r9) τ10 (fun τ12 => w_X5_take N τ12 (fun r13 τ14 => (zb r13) ∧ Q r13 τ14))))))) ∧ (¬ (τ2.1 16) = (11 : Int32) → w_X5_readComparison N τ2 (fun r3 τ4 => (zb r3) ∧ Q r3 τ4)))) ∧ (¬ r1 = 0 → w_X5_takeOpening N τ2 (fun r19 τ20 => (r19 = 0 → Q (0 : Int32) τ20) ∧ (¬ r19 = 0 → w_X5_readTest N S τ20 (fun r21 τ22 => (r21 = 0 → Q (0 : Int32) τ22) ∧ (¬ r21 = 0 → w_X5_takeSign N (93 : Int32) τ22 (fun r23 τ24 => (r23 = 0 → Q (0 : Int32) τ24) ∧ (¬ r23 = 0 → Q (1 : Int32) τ24)))))))))
def w_X5_readFact (N : Nat) : Nat → zSt → (Int32 → zSt → Prop) → Prop
  | 0 => fun _ _ => False
  | d + 1 => wb_X5_readFact N (w_X5_readFact N d)
variable {p : Program} {l : Launch} {e : Env} {s : State} {m : MethodId} {args : Array Value} {below : List Frame} {meth : Method} {c : Code} {dC : Nat → ClassId} {dI : Nat → Nat → Nat} {ad : Nat → Nat} {cI cJ : ClassId}
set_option maxHeartbeats 4000000 in
set_option maxRecDepth 100000 in
theorem t_X5_readFact_0 (C0 : zCx p s m meth c args RX5 cX5_readFact 1 (some .boolean) vs_X5_readFact) (hK : va_K (dC, dI) vwCl (x_ty cI cJ) s) (N : Nat) {d : Nat} {S : zSt → (Int32 → zSt → Prop) → Prop} (hSm : ∀ (sz : Nat) (σ : zSt) (Q : Int32 → zSt → Prop), S σ Q → Met l yX5_readFact vs_X5_readFact (rmq_fact 0 d) (va_Pc [.ref (ad 5)] (zPc (dC, dI) (x_ty cI cJ) (x_W ad cI cJ) sz σ)) (zQi (dC, dI) (x_ty cI cJ) (x_W ad cI cJ) (zAW x_n ad sz) Q) 0 0 (zAW x_n ad sz)) {Q : Int32 → zSt → Prop} : ∀  (σ : zSt) (H : Heap) (locs : List Loc) (ls : Array Slot), wb_X5_readFact N S  σ Q → va_P (dC, dI) vwCl (x_W ad cI cJ σ) H → va_D (zAW x_n ad s.heap.size) (x_W ad cI cJ σ) → va_S (zAW x_n ad s.heap.size) s.heap H locs → lv_has ls 1 [(0, .ref (ad 5))] → W p l e (rmq_fact 0 (d + 1)) s m args below meth c H locs 0 0 (MQ below (zQi (dC, dI) (x_ty cI cJ) (x_W ad cI cJ) (zAW x_n ad s.heap.size) Q) args s 0 0 (zAW x_n ad s.heap.size)) (F0 m 0 ls []) := by
  obtain ⟨hx, hb, hml, hr, hown, hts, hlocks⟩ := id C0
  intro  σ H locs ls h hP hD hS hl
  unfold wb_X5_readFact at h
  refine lv_aload_n hx hb dX5_readFact_0 rfl (lv_at hl 0 rfl) ?_
  refine xg_5_13 hx hb hts hown hK hP mw_191 dX5_readFact_1 ?_
  refine lv_bipush (v := (9 : Int32)) hx hb dX5_readFact_4 (by decide) ?_
  refine lv_icmp_ne (tgt := 46) hx hb dX5_readFact_6 (by decide) (fun hc => ?_) (fun hc => ?_)
  · have h := h.2 hc
    refine lv_aload_n hx hb dX5_readFact_46 rfl (lv_at hl 0 rfl) ?_
    refine lv_bipush (v := (91 : Int32)) hx hb dX5_readFact_47 (by decide) ?_
    refine k_X5_isSign N ⟨hx, hb, hml, hown, hts⟩ mw_407 ⟨by dsimp only [rm_X5_isSign, rmq_sum, rmq_fact]; omega, by dsimp only [rm_X5_isSign, rmq_sum, rmq_fact]; omega⟩ h hK hP hD hS hl.1 (rest := []) (Nat.le_of_ble_eq_true rfl) ⟨Nat.le_of_ble_eq_true rfl, Nat.le_of_ble_eq_true rfl⟩ dX5_readFact_49 (fun r1 τ2 H locs h hP hD hS => ?_)
    refine lv_if_eq (tgt := 84) hx hb dX5_readFact_52 (by decide) (fun hc => ?_) (fun hc => ?_)
    · have h := h.1 hc
      refine lv_aload_n hx hb dX5_readFact_84 rfl (lv_at hl 0 rfl) ?_
      refine xg_5_13 hx hb hts hown hK hP mw_191 dX5_readFact_85 ?_
      refine lv_bipush (v := (10 : Int32)) hx hb dX5_readFact_88 (by decide) ?_
      refine lv_icmp_ne (tgt := 107) hx hb dX5_readFact_90 (by decide) (fun hc => ?_) (fun hc => ?_)
      · have h := h.2 hc
        refine lv_aload_n hx hb dX5_readFact_107 rfl (lv_at hl 0 rfl) ?_
        refine xg_5_13 hx hb hts hown hK hP mw_191 dX5_readFact_108 ?_
        refine lv_bipush (v := (11 : Int32)) hx hb dX5_readFact_111 (by decide) ?_
        refine lv_icmp_ne (tgt := 157) hx hb dX5_readFact_113 (by decide) (fun hc => ?_) (fun hc => ?_)
        · have h := h.2 hc
          refine lv_aload_n hx hb dX5_readFact_157 rfl (lv_at hl 0 rfl) ?_
          refine k_X5_readComparison N ⟨hx, hb, hml, hown, hts⟩ mw_431 ⟨by dsimp only [rm_X5_readComparison, rmq_sum, rmq_fact]; omega, by dsimp only [rm_X5_readComparison, rmq_sum, rmq_fact]; omega⟩ h hK hP hD hS hl.1 (rest := []) (Nat.le_of_ble_eq_true rfl) ⟨Nat.le_of_ble_eq_true rfl, Nat.le_of_ble_eq_true rfl⟩ dX5_readFact_158 (fun r3 τ4 H locs h hP hD hS => ?_)
          exact zret_z hx hb hr hlocks hK hP hD hS h.1 h.2 dX5_readFact_161
        · have h := h.1 hc
          refine lv_aload_n hx hb dX5_readFact_116 rfl (lv_at hl 0 rfl) ?_
          refine k_X5_take N ⟨hx, hb, hml, hown, hts⟩ mw_363 ⟨by dsimp only [rm_X5_take, rmq_sum, rmq_fact]; omega, by dsimp only [rm_X5_take, rmq_sum, rmq_fact]; omega⟩ h hK hP hD hS hl.1 (rest := []) (Nat.le_of_ble_eq_true rfl) ⟨Nat.le_of_ble_eq_true rfl, Nat.le_of_ble_eq_true rfl⟩ dX5_readFact_117 (fun r5 τ6 H locs h hP hD hS => ?_)
          refine lv_pop hx hb dX5_readFact_120 rfl ?_
          refine lv_aload_n hx hb dX5_readFact_121 rfl (lv_at hl 0 rfl) ?_
          refine lv_iconst (v := (-1 : Int32)) hx hb dX5_readFact_122 (by decide) ?_
          refine k_X5_seesPerson N ⟨hx, hb, hml, hown, hts⟩ mw_428 ⟨by dsimp only [rm_X5_seesPerson, rmq_sum, rmq_fact]; omega, by dsimp only [rm_X5_seesPerson, rmq_sum, rmq_fact]; omega⟩ h hK hP hD hS hl.1 (rest := []) (Nat.le_of_ble_eq_true rfl) ⟨Nat.le_of_ble_eq_true rfl, Nat.le_of_ble_eq_true rfl⟩ dX5_readFact_123 (fun r7 τ8 H locs h hP hD hS => ?_)
          refine lv_if_ne (tgt := 131) hx hb dX5_readFact_126 (by decide) (fun hc => ?_) (fun hc => ?_)
          · have h := h.2 hc
            refine lv_aload_n hx hb dX5_readFact_131 rfl (lv_at hl 0 rfl) ?_
            refine xg_5_2 hx hb hts hown hK hP mw_176 dX5_readFact_132 ?_
            refine lv_bipush (v := (30 : Int32)) hx hb dX5_readFact_135 (by decide) ?_
            refine lv_aload_n hx hb dX5_readFact_137 rfl (lv_at hl 0 rfl) ?_
            refine xg_5_1 hx hb hts hown hK hP mw_174 dX5_readFact_138 ?_
            refine lv_aload_n hx hb dX5_readFact_141 rfl (lv_at hl 0 rfl) ?_
            refine xg_5_12 hx hb hts hown hK hP mw_190 dX5_readFact_142 ?_
            refine k_X4_numberOf N ⟨hx, hb, hml, hown, hts⟩ mw_375 ⟨by dsimp only [rm_X4_numberOf, rmq_sum, rmq_fact]; omega, by dsimp only [rm_X4_numberOf, rmq_sum, rmq_fact]; omega⟩ h hK hP hD hS hl.1 (rest := [.int (30 : Int32), .ref (ad 7)]) (Nat.le_of_ble_eq_true rfl) ⟨Nat.le_of_ble_eq_true rfl, Nat.le_of_ble_eq_true rfl⟩ dX5_readFact_145 (fun r9 τ10 H locs h hP hD hS => ?_)
            refine lv_iadd hx hb dX5_readFact_148 ?_
            refine k_X6_emit N ⟨hx, hb, hml, hown, hts⟩ mw_403 ⟨by dsimp only [rm_X6_emit, rmq_sum, rmq_fact]; omega, by dsimp only [rm_X6_emit, rmq_sum, rmq_fact]; omega⟩ h hK hP hD hS hl.1 (rest := []) (Nat.le_of_ble_eq_true rfl) ⟨Nat.le_of_ble_eq_true rfl, Nat.le_of_ble_eq_true rfl⟩ dX5_readFact_149 (fun τ12 H locs h hP hD hS => ?_)
            refine lv_aload_n hx hb dX5_readFact_152 rfl (lv_at hl 0 rfl) ?_
            refine k_X5_take N ⟨hx, hb, hml, hown, hts⟩ mw_363 ⟨by dsimp only [rm_X5_take, rmq_sum, rmq_fact]; omega, by dsimp only [rm_X5_take, rmq_sum, rmq_fact]; omega⟩ h hK hP hD hS hl.1 (rest := []) (Nat.le_of_ble_eq_true rfl) ⟨Nat.le_of_ble_eq_true rfl, Nat.le_of_ble_eq_true rfl⟩ dX5_readFact_153 (fun r13 τ14 H locs h hP hD hS => ?_)
            exact zret_z hx hb hr hlocks hK hP hD hS h.1 h.2 dX5_readFact_156
          · have h := h.1 hc
            refine lv_iconst (v := (0 : Int32)) hx hb dX5_readFact_129 (by decide) ?_
            exact zret_z hx hb hr hlocks hK hP hD hS zb_0 h dX5_readFact_130
      · have h := h.1 hc
        refine lv_aload_n hx hb dX5_readFact_93 rfl (lv_at hl 0 rfl) ?_
        refine xg_5_2 hx hb hts hown hK hP mw_176 dX5_readFact_94 ?_
        refine lv_bipush (v := (12 : Int32)) hx hb dX5_readFact_97 (by decide) ?_
        refine k_X6_emit N ⟨hx, hb, hml, hown, hts⟩ mw_403 ⟨by dsimp only [rm_X6_emit, rmq_sum, rmq_fact]; omega, by dsimp only [rm_X6_emit, rmq_sum, rmq_fact]; omega⟩ h hK hP hD hS hl.1 (rest := []) (Nat.le_of_ble_eq_true rfl) ⟨Nat.le_of_ble_eq_true rfl, Nat.le_of_ble_eq_true rfl⟩ dX5_readFact_99 (fun τ16 H locs h hP hD hS => ?_)
        refine lv_aload_n hx hb dX5_readFact_102 rfl (lv_at hl 0 rfl) ?_
        refine k_X5_take N ⟨hx, hb, hml, hown, hts⟩ mw_363 ⟨by dsimp only [rm_X5_take, rmq_sum, rmq_fact]; omega, by dsimp only [rm_X5_take, rmq_sum, rmq_fact]; omega⟩ h hK hP hD hS hl.1 (rest := []) (Nat.le_of_ble_eq_true rfl) ⟨Nat.le_of_ble_eq_true rfl, Nat.le_of_ble_eq_true rfl⟩ dX5_readFact_103 (fun r17 τ18 H locs h hP hD hS => ?_)
        exact zret_z hx hb hr hlocks hK hP hD hS h.1 h.2 dX5_readFact_106
    · have h := h.2 hc
      refine lv_aload_n hx hb dX5_readFact_55 rfl (lv_at hl 0 rfl) ?_
      refine k_X5_takeOpening N ⟨hx, hb, hml, hown, hts⟩ mw_410 ⟨by dsimp only [rm_X5_takeOpening, rmq_sum, rmq_fact]; omega, by dsimp only [rm_X5_takeOpening, rmq_sum, rmq_fact]; omega⟩ h hK hP hD hS hl.1 (rest := []) (Nat.le_of_ble_eq_true rfl) ⟨Nat.le_of_ble_eq_true rfl, Nat.le_of_ble_eq_true rfl⟩ dX5_readFact_56 (fun r19 τ20 H locs h hP hD hS => ?_)
      refine lv_if_eq (tgt := 82) hx hb dX5_readFact_59 (by decide) (fun hc => ?_) (fun hc => ?_)
      · have h := h.1 hc
        refine lv_iconst (v := (0 : Int32)) hx hb dX5_readFact_82 (by decide) ?_
        exact zret_z hx hb hr hlocks hK hP hD hS zb_0 h dX5_readFact_83
      · have h := h.2 hc
        refine lv_aload_n hx hb dX5_readFact_62 rfl (lv_at hl 0 rfl) ?_
        refine k_X5_readTest N hSm ⟨hx, hb, hml, hown, hts⟩ mw_419 ⟨by dsimp only [rmq_sum, rmq_fact]; omega, by dsimp only [rmq_sum, rmq_fact]; omega⟩ h hK hP hD hS hl.1 (rest := []) (Nat.le_of_ble_eq_true rfl) ⟨Nat.le_of_ble_eq_true rfl, Nat.le_of_ble_eq_true rfl⟩ dX5_readFact_63 (fun r21 τ22 H locs h hP hD hS => ?_)
        refine lv_if_eq (tgt := 82) hx hb dX5_readFact_66 (by decide) (fun hc => ?_) (fun hc => ?_)
        · have h := h.1 hc
          refine lv_iconst (v := (0 : Int32)) hx hb dX5_readFact_82 (by decide) ?_
          exact zret_z hx hb hr hlocks hK hP hD hS zb_0 h dX5_readFact_83
        · have h := h.2 hc
          refine lv_aload_n hx hb dX5_readFact_69 rfl (lv_at hl 0 rfl) ?_
          refine lv_bipush (v := (93 : Int32)) hx hb dX5_readFact_70 (by decide) ?_
          refine k_X5_takeSign N ⟨hx, hb, hml, hown, hts⟩ mw_413 ⟨by dsimp only [rm_X5_takeSign, rmq_sum, rmq_fact]; omega, by dsimp only [rm_X5_takeSign, rmq_sum, rmq_fact]; omega⟩ h hK hP hD hS hl.1 (rest := []) (Nat.le_of_ble_eq_true rfl) ⟨Nat.le_of_ble_eq_true rfl, Nat.le_of_ble_eq_true rfl⟩ dX5_readFact_72 (fun r23 τ24 H locs h hP hD hS => ?_)
          refine lv_if_eq (tgt := 82) hx hb dX5_readFact_75 (by decide) (fun hc => ?_) (fun hc => ?_)
          · have h := h.1 hc
            refine lv_iconst (v := (0 : Int32)) hx hb dX5_readFact_82 (by decide) ?_
            exact zret_z hx hb hr hlocks hK hP hD hS zb_0 h dX5_readFact_83
          · have h := h.2 hc
            refine lv_iconst (v := (1 : Int32)) hx hb dX5_readFact_78 (by decide) ?_
            refine lv_goto (tgt := 83) hx hb dX5_readFact_79 (by decide) ?_
            exact zret_z hx hb hr hlocks hK hP hD hS zb_1 h dX5_readFact_83
  · have h := h.1 hc
    refine lv_aload_n hx hb dX5_readFact_9 rfl (lv_at hl 0 rfl) ?_
    refine k_X5_takeOpening N ⟨hx, hb, hml, hown, hts⟩ mw_410 ⟨by dsimp only [rm_X5_takeOpening, rmq_sum, rmq_fact]; omega, by dsimp only [rm_X5_takeOpening, rmq_sum, rmq_fact]; omega⟩ h hK hP hD hS hl.1 (rest := []) (Nat.le_of_ble_eq_true rfl) ⟨Nat.le_of_ble_eq_true rfl, Nat.le_of_ble_eq_true rfl⟩ dX5_readFact_10 (fun r25 τ26 H locs h hP hD hS => ?_)
    refine lv_if_eq (tgt := 23) hx hb dX5_readFact_13 (by decide) (fun hc => ?_) (fun hc => ?_)
    · have h := h.1 hc
      refine lv_iconst (v := (0 : Int32)) hx hb dX5_readFact_23 (by decide) ?_
      exact zret_z hx hb hr hlocks hK hP hD hS zb_0 h dX5_readFact_24
    · have h := h.2 hc
      refine lv_aload_n hx hb dX5_readFact_16 rfl (lv_at hl 0 rfl) ?_
      refine zcv_i [] ⟨hx, hb, hml, hown, hts⟩ (hSm H.size τ26 _ h) (cw_X5_readFact hts mw_425 rfl rfl ⟨by dsimp only [rmq_sum, rmq_fact]; omega, by dsimp only [rmq_sum, rmq_fact]; omega⟩) (T := TX5) (N' := 14) (k := 5) (ci := 5) (fs := x_f5 ad τ26) rfl rfl hK hP hD hS rfl hl.1 (rest := []) (Nat.le_of_ble_eq_true rfl) rfl ⟨Nat.le_of_ble_eq_true rfl, Nat.le_of_ble_eq_true rfl⟩ dX5_readFact_17 (fun r27 τ28 H locs h hP hD hS => ?_)
      refine lv_if_ne (tgt := 25) hx hb dX5_readFact_20 (by decide) (fun hc => ?_) (fun hc => ?_)
      · have h := h.2 hc
        refine lv_aload_n hx hb dX5_readFact_25 rfl (lv_at hl 0 rfl) ?_
        refine lv_dup hx hb dX5_readFact_26 rfl ?_
        refine xg_5_8 hx hb hts hown hK hP mw_186 dX5_readFact_27 ?_
        refine lv_iconst (v := (1 : Int32)) hx hb dX5_readFact_30 (by decide) ?_
        refine lv_isub hx hb dX5_readFact_31 ?_
        refine xp_5_8 hx hb hts hown hK hP hD hS mw_186 dX5_readFact_32 (fun τ29 H locs eτ29 hP hD hS => ?_)
        have h := h τ29 eτ29
        refine lv_aload_n hx hb dX5_readFact_35 rfl (lv_at hl 0 rfl) ?_
        refine xg_5_2 hx hb hts hown hK hP mw_176 dX5_readFact_36 ?_
        refine lv_bipush (v := (11 : Int32)) hx hb dX5_readFact_39 (by decide) ?_
        refine k_X6_emit N ⟨hx, hb, hml, hown, hts⟩ mw_403 ⟨by dsimp only [rm_X6_emit, rmq_sum, rmq_fact]; omega, by dsimp only [rm_X6_emit, rmq_sum, rmq_fact]; omega⟩ h hK hP hD hS hl.1 (rest := []) (Nat.le_of_ble_eq_true rfl) ⟨Nat.le_of_ble_eq_true rfl, Nat.le_of_ble_eq_true rfl⟩ dX5_readFact_41 (fun τ31 H locs h hP hD hS => ?_)
        refine lv_iconst (v := (1 : Int32)) hx hb dX5_readFact_44 (by decide) ?_
        exact zret_z hx hb hr hlocks hK hP hD hS zb_1 h dX5_readFact_45
      · have h := h.1 hc
        refine lv_iconst (v := (0 : Int32)) hx hb dX5_readFact_23 (by decide) ?_
        exact zret_z hx hb hr hlocks hK hP hD hS zb_0 h dX5_readFact_24
set_option maxHeartbeats 4000000 in
set_option maxRecDepth 100000 in
theorem cb_X5_readFact (N : Nat) (l : Launch) (dC : Nat → ClassId) (dI : Nat → Nat → Nat) (ad : Nat → Nat) (cI cJ : ClassId) {d : Nat} {S : zSt → (Int32 → zSt → Prop) → Prop} (hSm : ∀ (sz : Nat) (σ : zSt) (Q : Int32 → zSt → Prop), S σ Q → Met l yX5_readFact vs_X5_readFact (rmq_fact 0 d) (va_Pc [.ref (ad 5)] (zPc (dC, dI) (x_ty cI cJ) (x_W ad cI cJ) sz σ)) (zQi (dC, dI) (x_ty cI cJ) (x_W ad cI cJ) (zAW x_n ad sz) Q) 0 0 (zAW x_n ad sz)) (sz : Nat) (σ : zSt)  (Q : Int32 → zSt → Prop) (h : wb_X5_readFact N S  σ Q) : Met l yX5_readFact vs_X5_readFact (rmq_fact 0 (d + 1)) (va_Pc [.ref (ad 5)] (zPc (dC, dI) (x_ty cI cJ) (x_W ad cI cJ) sz σ)) (zQi (dC, dI) (x_ty cI cJ) (x_W ad cI cJ) (zAW x_n ad sz) Q) 0 0 (zAW x_n ad sz) := by
  refine Met.ofW (cc := cX5_readFact) (maxL := 1) (ret := (some .boolean)) (by decide) rfl ?_
  intro p e s m args below meth c s₁ B hml hv
  obtain ⟨rfl, hsz, hP, hK, hD0⟩ := hv
  subst hsz
  have C0 : zCx p s m meth c _ RX5 cX5_readFact 1 (some .boolean) vs_X5_readFact := ⟨B.exec, B.bytes, hml, B.returns, findClass_of_methodNamed B.named, atoms_spec (ws := vs_X5_readFact) B.pre, B.notSynchronized⟩
  have hD := x_D0 (n0 := s.heap.size) hD0
  have hl := lv_entry ([.ref (ad 5)]) (n := 1) (Nat.le_of_ble_eq_true rfl)
  rw [lg_entry_eq]
  generalize (lg_sl ([.ref (ad 5)]) ++ List.replicate (1 - (lg_sl ([.ref (ad 5)])).length) Slot.unset).toArray = ls at hl ⊢
  exact t_X5_readFact_0 C0 hK N hSm  σ _ _ ls h hP hD va_S.rf hl
theorem c_X5_readFact (N : Nat) (l : Launch) (dC : Nat → ClassId) (dI : Nat → Nat → Nat) (ad : Nat → Nat) (cI cJ : ClassId) (d sz : Nat) (σ : zSt) (Q : Int32 → zSt → Prop) (h : w_X5_readFact N d σ Q) : Met l yX5_readFact vs_X5_readFact (rmq_fact 0 d) (va_Pc [.ref (ad 5)] (zPc (dC, dI) (x_ty cI cJ) (x_W ad cI cJ) sz σ)) (zQi (dC, dI) (x_ty cI cJ) (x_W ad cI cJ) (zAW x_n ad sz) Q) 0 0 (zAW x_n ad sz) := by
  induction d generalizing sz σ Q with
  | zero => exact h.elim
  | succ d ih => exact cb_X5_readFact N l dC dI ad cI cJ (S := w_X5_readFact N d) (fun sz σ Q h => ih sz σ Q h) sz σ Q h
theorem k_X5_readFact (N : Nat) {d : Nat} {R : Room} {H : Heap} {locs : List Loc} {cells slots : Nat} {Q2 : State → Prop} {cc : ByteArray} {nL pc index : Nat} {ls : Array Slot} {rest : List Value} {own : String} {c0 : Cond} {σ : zSt}  {Q : Int32 → zSt → Prop} (S0 : CallFix p m c cc nL s args (c0 :: zT) own) (hml : Cond.methodLink own index yX5_readFact ∈ zT) (hR : (rmq_fact 0 d).frames + 1 ≤ R.frames ∧ 8 + (1 + 11) + (rmq_fact 0 d).locals ≤ R.locals) (h : w_X5_readFact N d  σ Q) (hK : va_K (dC, dI) vwCl (x_ty cI cJ) s) (hP : va_P (dC, dI) vwCl (x_W ad cI cJ σ) H) (hD : va_D (zAW x_n ad s.heap.size) (x_W ad cI cJ σ)) (hS : va_S (zAW x_n ad s.heap.size) s.heap H locs) (hsz : ls.size = nL) (hW : (rest.map fun v => v.category).sum ≤ 8) (hcs : cells ≤ R.cells ∧ slots ≤ R.slots) (hdg : decode cc pc = .ok (.invokevirtual index, 3)) (kk : ∀ (r : Int32) (τ : zSt) (H1 : Heap) (locs1 : List Loc), Q r τ → va_P (dC, dI) vwCl (x_W ad cI cJ τ) H1 → va_D (zAW x_n ad s.heap.size) (x_W ad cI cJ τ) → va_S (zAW x_n ad s.heap.size) s.heap H1 locs1 → W p l e R s m args below meth c H1 locs1 cells slots Q2 (F0 m (pc + 3) ls (.int r :: rest))) : W p l e R s m args below meth c H locs cells slots Q2 (F0 m pc ls (.ref (ad 5) :: rest)) :=
  zcv_i (T := TX5) (N' := 14) (k := 5) (ci := 5) (fs := x_f5 ad σ) [] S0 (c_X5_readFact N l dC dI ad cI cJ d H.size σ  Q h) (cw_X5_readFact S0.2.2.2.2 hml rfl rfl hR) rfl rfl hK hP hD hS rfl hsz hW rfl hcs hdg kk
end q02
section q02
def w_X6_add (N : Nat) (x1 : Int32) (x2 : Int32) (x3 : Int32) (σ : zSt) (Q : zSt → Prop) : Prop :=
  ((20 : Int32) ≤ (σ.1 20) → Q σ) ∧ (¬ (20 : Int32) ≤ (σ.1 20) → (vp_in (σ.1 20) 20) ∧ (∀ τ1 : zSt, τ1 = zA σ 18 (upd (σ.2.2.1 18) ((σ.1 20).toNatClampNeg) x1) → (vp_in (τ1.1 20) 20) ∧ (∀ τ2 : zSt, τ2 = zA τ1 19 (upd (τ1.2.2.1 19) ((τ1.1 20).toNatClampNeg) x2) → (vp_in (τ2.1 20) 20) ∧ (∀ τ3 : zSt, τ3 = zA τ2 20 (upd (τ2.2.2.1 20) ((τ2.1 20).toNatClampNeg) x3) → (vp_in (τ3.1 20) 20) ∧ (∀ τ4 : zSt, τ4 = zA τ3 21 (upd (τ3.2.2.1 21) ((τ3.1 20).toNatClampNeg) (τ3.1 21)) → ∀ τ5 : zSt, τ5 = zI τ4 20 ((τ4.1 20) + (1 : Int32)) → Q τ5)))))
variable {p : Program} {l : Launch} {e : Env} {s : State} {m : MethodId} {args : Array Value} {below : List Frame} {meth : Method} {c : Code} {dC : Nat → ClassId} {dI : Nat → Nat → Nat} {ad : Nat → Nat} {cI cJ : ClassId}
set_option maxHeartbeats 4000000 in
set_option maxRecDepth 100000 in
theorem t_X6_add_0 (C0 : zCx p s m meth c args RX6 cX6_add 4 none vs_X6_add) (hK : va_K (dC, dI) vwCl (x_ty cI cJ) s) (N : Nat) {Q : zSt → Prop} : ∀ (x1 : Int32) (x2 : Int32) (x3 : Int32) (σ : zSt) (H : Heap) (locs : List Loc) (ls : Array Slot), w_X6_add N x1 x2 x3 σ Q → va_P (dC, dI) vwCl (x_W ad cI cJ σ) H → va_D (zAW x_n ad s.heap.size) (x_W ad cI cJ σ) → va_S (zAW x_n ad s.heap.size) s.heap H locs → lv_has ls 4 [(0, .ref (ad 7)), (1, .int x1), (2, .int x2), (3, .int x3)] → W p l e rm_X6_add s m args below meth c H locs 0 0 (MQ below (zQv (dC, dI) (x_ty cI cJ) (x_W ad cI cJ) (zAW x_n ad s.heap.size) Q) args s 0 0 (zAW x_n ad s.heap.size)) (F0 m 0 ls []) := by
  obtain ⟨hx, hb, hml, hr, hown, hts, hlocks⟩ := id C0
  intro x1 x2 x3 σ H locs ls h hP hD hS hl
  unfold w_X6_add at h
  refine lv_aload_n hx hb dX6_add_0 rfl (lv_at hl 0 rfl) ?_
  refine xg_7_7 hx hb hts hown hK hP mw_100 dX6_add_1 ?_
  refine lv_bipush (v := (20 : Int32)) hx hb dX6_add_4 (by decide) ?_
  refine lv_icmp_ge (tgt := 62) hx hb dX6_add_6 (by decide) (fun hc => ?_) (fun hc => ?_)
  · have h := h.1 hc
    exact zret_v hx hb hr hlocks hK hP hD hS h dX6_add_62
  · have h := h.2 hc
    refine lv_aload_n hx hb dX6_add_9 rfl (lv_at hl 0 rfl) ?_
    refine xg_7_0 hx hb hts hown hK hP mw_92 dX6_add_10 ?_
    refine lv_aload_n hx hb dX6_add_13 rfl (lv_at hl 0 rfl) ?_
    refine xg_7_7 hx hb hts hown hK hP mw_100 dX6_add_14 ?_
    refine lv_iload_n hx hb dX6_add_17 rfl (lv_at hl 1 rfl) ?_
    refine xs_37 hx hb hK hP hD hS h.1 rfl dX6_add_18 (fun τ1 H locs eτ1 hP hD hS => ?_)
    have h := h.2
    have h := h τ1 eτ1
    refine lv_aload_n hx hb dX6_add_19 rfl (lv_at hl 0 rfl) ?_
    refine xg_7_1 hx hb hts hown hK hP mw_93 dX6_add_20 ?_
    refine lv_aload_n hx hb dX6_add_23 rfl (lv_at hl 0 rfl) ?_
    refine xg_7_7 hx hb hts hown hK hP mw_100 dX6_add_24 ?_
    refine lv_iload_n hx hb dX6_add_27 rfl (lv_at hl 2 rfl) ?_
    refine xs_38 hx hb hK hP hD hS h.1 rfl dX6_add_28 (fun τ2 H locs eτ2 hP hD hS => ?_)
    have h := h.2
    have h := h τ2 eτ2
    refine lv_aload_n hx hb dX6_add_29 rfl (lv_at hl 0 rfl) ?_
    refine xg_7_2 hx hb hts hown hK hP mw_94 dX6_add_30 ?_
    refine lv_aload_n hx hb dX6_add_33 rfl (lv_at hl 0 rfl) ?_
    refine xg_7_7 hx hb hts hown hK hP mw_100 dX6_add_34 ?_
    refine lv_iload_n hx hb dX6_add_37 rfl (lv_at hl 3 rfl) ?_
    refine xs_39 hx hb hK hP hD hS h.1 rfl dX6_add_38 (fun τ3 H locs eτ3 hP hD hS => ?_)
    have h := h.2
    have h := h τ3 eτ3
    refine lv_aload_n hx hb dX6_add_39 rfl (lv_at hl 0 rfl) ?_
    refine xg_7_3 hx hb hts hown hK hP mw_95 dX6_add_40 ?_
    refine lv_aload_n hx hb dX6_add_43 rfl (lv_at hl 0 rfl) ?_
    refine xg_7_7 hx hb hts hown hK hP mw_100 dX6_add_44 ?_
    refine lv_aload_n hx hb dX6_add_47 rfl (lv_at hl 0 rfl) ?_
    refine xg_7_8 hx hb hts hown hK hP mw_102 dX6_add_48 ?_
    refine xs_40 hx hb hK hP hD hS h.1 rfl dX6_add_51 (fun τ4 H locs eτ4 hP hD hS => ?_)
    have h := h.2
    have h := h τ4 eτ4
    refine lv_aload_n hx hb dX6_add_52 rfl (lv_at hl 0 rfl) ?_
    refine lv_dup hx hb dX6_add_53 rfl ?_
    refine xg_7_7 hx hb hts hown hK hP mw_100 dX6_add_54 ?_
    refine lv_iconst (v := (1 : Int32)) hx hb dX6_add_57 (by decide) ?_
    refine lv_iadd hx hb dX6_add_58 ?_
    refine xp_7_7 hx hb hts hown hK hP hD hS mw_100 dX6_add_59 (fun τ5 H locs eτ5 hP hD hS => ?_)
    have h := h τ5 eτ5
    exact zret_v hx hb hr hlocks hK hP hD hS h dX6_add_62
set_option maxHeartbeats 4000000 in
set_option maxRecDepth 100000 in
theorem c_X6_add (N : Nat) (l : Launch) (dC : Nat → ClassId) (dI : Nat → Nat → Nat) (ad : Nat → Nat) (cI cJ : ClassId) (sz : Nat) (σ : zSt) (x1 : Int32) (x2 : Int32) (x3 : Int32) (Q : zSt → Prop) (h : w_X6_add N x1 x2 x3 σ Q) : Met l yX6_add vs_X6_add rm_X6_add (va_Pc [.ref (ad 7), .int x1, .int x2, .int x3] (zPc (dC, dI) (x_ty cI cJ) (x_W ad cI cJ) sz σ)) (zQv (dC, dI) (x_ty cI cJ) (x_W ad cI cJ) (zAW x_n ad sz) Q) 0 0 (zAW x_n ad sz) := by
  refine Met.ofW (cc := cX6_add) (maxL := 4) (ret := none) (by decide) rfl ?_
  intro p e s m args below meth c s₁ B hml hv
  obtain ⟨rfl, hsz, hP, hK, hD0⟩ := hv
  subst hsz
  have C0 : zCx p s m meth c _ RX6 cX6_add 4 none vs_X6_add := ⟨B.exec, B.bytes, hml, B.returns, findClass_of_methodNamed B.named, atoms_spec (ws := vs_X6_add) B.pre, B.notSynchronized⟩
  have hD := x_D0 (n0 := s.heap.size) hD0
  have hl := lv_entry ([.ref (ad 7), .int x1, .int x2, .int x3]) (n := 4) (Nat.le_of_ble_eq_true rfl)
  rw [lg_entry_eq]
  generalize (lg_sl ([.ref (ad 7), .int x1, .int x2, .int x3]) ++ List.replicate (4 - (lg_sl ([.ref (ad 7), .int x1, .int x2, .int x3])).length) Slot.unset).toArray = ls at hl ⊢
  exact t_X6_add_0 C0 hK N x1 x2 x3 σ _ _ ls h hP hD va_S.rf hl
theorem k_X6_add (N : Nat) {R : Room} {H : Heap} {locs : List Loc} {cells slots : Nat} {Q2 : State → Prop} {cc : ByteArray} {nL pc index : Nat} {ls : Array Slot} {rest : List Value} {own : String} {c0 : Cond} {σ : zSt} {x1 : Int32} {x2 : Int32} {x3 : Int32} {Q : zSt → Prop} (S0 : CallFix p m c cc nL s args (c0 :: zT) own) (hml : Cond.methodLink own index yX6_add ∈ zT) (hR : rm_X6_add.frames + 1 ≤ R.frames ∧ 8 + (4 + 11) + rm_X6_add.locals ≤ R.locals) (h : w_X6_add N x1 x2 x3 σ Q) (hK : va_K (dC, dI) vwCl (x_ty cI cJ) s) (hP : va_P (dC, dI) vwCl (x_W ad cI cJ σ) H) (hD : va_D (zAW x_n ad s.heap.size) (x_W ad cI cJ σ)) (hS : va_S (zAW x_n ad s.heap.size) s.heap H locs) (hsz : ls.size = nL) (hW : (rest.map fun v => v.category).sum ≤ 8) (hcs : cells ≤ R.cells ∧ slots ≤ R.slots) (hdg : decode cc pc = .ok (.invokevirtual index, 3)) (kk : ∀ (τ : zSt) (H1 : Heap) (locs1 : List Loc), Q τ → va_P (dC, dI) vwCl (x_W ad cI cJ τ) H1 → va_D (zAW x_n ad s.heap.size) (x_W ad cI cJ τ) → va_S (zAW x_n ad s.heap.size) s.heap H1 locs1 → W p l e R s m args below meth c H1 locs1 cells slots Q2 (F0 m (pc + 3) ls (rest))) : W p l e R s m args below meth c H locs cells slots Q2 (F0 m pc ls (.int x3 :: .int x2 :: .int x1 :: .ref (ad 7) :: rest)) :=
  zcv_v (T := TX6) (N' := 10) (k := 7) (ci := 6) (fs := x_f7 ad σ) [.int x1, .int x2, .int x3] S0 (c_X6_add N l dC dI ad cI cJ H.size σ x1 x2 x3 Q h) (cw_X6_add S0.2.2.2.2 hml rfl rfl hR) rfl rfl hK hP hD hS rfl hsz hW rfl hcs hdg kk
end q02
