section q06
end q06
section q06
def b_X6_apply_414 (N : Nat) (Q : Int32 → zSt → Prop) (x2 : Int32) (x7 : Int64) (σ : zSt) : Prop :=
  ((lg_cmp x7 (1000000 : Int64)) ≤ 0 → (0 ≤ (lg_cmp x7 (-1000000 : Int64)) → (vp_in (x2 - (2 : Int32)) 64) ∧ (∀ τ1 : zSt, τ1 = zB σ 3 (vp_updL (σ.2.2.2 3) ((x2 - (2 : Int32)).toNatClampNeg) x7) → Q (x2 - (1 : Int32)) τ1)) ∧ (¬ 0 ≤ (lg_cmp x7 (-1000000 : Int64)) → (vp_in (x2 - (2 : Int32)) 64) ∧ (∀ τ2 : zSt, τ2 = zB σ 3 (vp_updL (σ.2.2.2 3) ((x2 - (2 : Int32)).toNatClampNeg) (-1000000 : Int64)) → Q (x2 - (1 : Int32)) τ2))) ∧ (¬ (lg_cmp x7 (1000000 : Int64)) ≤ 0 → (vp_in (x2 - (2 : Int32)) 64) ∧ (∀ τ3 : zSt, τ3 = zB σ 3 (vp_updL (σ.2.2.2 3) ((x2 - (2 : Int32)).toNatClampNeg) (1000000 : Int64)) → Q (x2 - (1 : Int32)) τ3))
def b_X6_apply_304 (N : Nat) (Q : Int32 → zSt → Prop) (x2 : Int32) (s0 : Int64) (σ : zSt) : Prop :=
  b_X6_apply_414 N Q x2 s0 σ
def b_X6_apply_302 (N : Nat) (Q : Int32 → zSt → Prop) (x2 : Int32) (s0 : Int32) (s1 : Int64) (σ : zSt) : Prop :=
  b_X6_apply_304 N Q x2 (s1 - s0.toInt64) σ
def b_X6_apply_301 (N : Nat) (Q : Int32 → zSt → Prop) (x2 : Int32) (s0 : Int64) (σ : zSt) : Prop :=
  b_X6_apply_302 N Q x2 (0 : Int32) s0 σ
def b_X6_apply_294 (N : Nat) (Q : Int32 → zSt → Prop) (x2 : Int32) (s0 : Int32) (s1 : Int32) (s2 : Int64) (σ : zSt) : Prop :=
  (s1 = s0 → b_X6_apply_301 N Q x2 s2 σ) ∧ (¬ s1 = s0 → b_X6_apply_302 N Q x2 (1 : Int32) s2 σ)
def b_X6_apply_282 (N : Nat) (Q : Int32 → zSt → Prop) (x2 : Int32) (x5 : Int64) (s0 : Int32) (s1 : Int64) (σ : zSt) : Prop :=
  (0 ≤ (lg_cmp x5 (0 : Int64)) → b_X6_apply_294 N Q x2 (0 : Int32) s0 s1 σ) ∧ (¬ 0 ≤ (lg_cmp x5 (0 : Int64)) → b_X6_apply_294 N Q x2 (1 : Int32) s0 s1 σ)
def b_X6_apply_322 (N : Nat) (Q : Int32 → zSt → Prop) (x2 : Int32) (s0 : Int64) (σ : zSt) : Prop :=
  b_X6_apply_414 N Q x2 s0 σ
def b_X6_apply_340 (N : Nat) (Q : Int32 → zSt → Prop) (x2 : Int32) (s0 : Int64) (σ : zSt) : Prop :=
  b_X6_apply_414 N Q x2 s0 σ
def b_X6_apply_357 (N : Nat) (Q : Int32 → zSt → Prop) (x2 : Int32) (s0 : Int64) (σ : zSt) : Prop :=
  b_X6_apply_414 N Q x2 s0 σ
def b_X6_apply_374 (N : Nat) (Q : Int32 → zSt → Prop) (x2 : Int32) (s0 : Int64) (σ : zSt) : Prop :=
  b_X6_apply_414 N Q x2 s0 σ
def b_X6_apply_391 (N : Nat) (Q : Int32 → zSt → Prop) (x2 : Int32) (s0 : Int64) (σ : zSt) : Prop :=
  b_X6_apply_414 N Q x2 s0 σ
def b_X6_apply_100 (N : Nat) (Q : Int32 → zSt → Prop) (x1 : Int32) (x2 : Int32) (s0 : Int32) (s1 : Int32) (σ : zSt) : Prop :=
  (s1 < s0 → Q x2 σ) ∧ (¬ s1 < s0 → (x2 ≤ (64 : Int32) → (x1 = (11 : Int32) → (vp_in (x2 - (1 : Int32)) 64) ∧ ((vp_in (x2 - (1 : Int32)) 64) ∧ (∀ τ8 : zSt, τ8 = zB σ 3 (vp_updL (σ.2.2.2 3) ((x2 - (1 : Int32)).toNatClampNeg) ((1 : Int64) - (σ.2.2.2 3 (x2 - (1 : Int32)).toNatClampNeg))) → Q x2 τ8))) ∧ (¬ x1 = (11 : Int32) → (vp_in (x2 - (2 : Int32)) 64) ∧ (∀ v1 : Int64, v1 = σ.2.2.2 3 (x2 - (2 : Int32)).toNatClampNeg → (vp_in (x2 - (1 : Int32)) 64) ∧ (∀ v2 : Int64, v2 = σ.2.2.2 3 (x2 - (1 : Int32)).toNatClampNeg → (x1 = (0 : Int32) → ∀ v3 : Int64, v3 = v1 + v2 → b_X6_apply_414 N Q x2 v3 σ) ∧ (¬ x1 = (0 : Int32) → (x1 = (1 : Int32) → ∀ v4 : Int64, v4 = v1 - v2 → b_X6_apply_414 N Q x2 v4 σ) ∧ (¬ x1 = (1 : Int32) → (x1 = (2 : Int32) → ∀ v5 : Int64, v5 = v1 * v2 → b_X6_apply_414 N Q x2 v5 σ) ∧ (¬ x1 = (2 : Int32) → (x1 = (3 : Int32) → ((lg_cmp v2 (0 : Int64)) = 0 → b_X6_apply_304 N Q x2 (0 : Int64) σ) ∧ (¬ (lg_cmp v2 (0 : Int64)) = 0 → (¬ v2 = 0) ∧ ((¬ v2 = 0) ∧ (((lg_cmp (v1 - v1 / v2 * v2) (0 : Int64)) = 0 → b_X6_apply_301 N Q x2 (v1 / v2) σ) ∧ (¬ (lg_cmp (v1 - v1 / v2 * v2) (0 : Int64)) = 0 → (0 ≤ (lg_cmp v1 (0 : Int64)) → b_X6_apply_282 N Q x2 v2 (0 : Int32) (v1 / v2) σ) ∧ (¬ 0 ≤ (lg_cmp v1 (0 : Int64)) → b_X6_apply_282 N Q x2 v2 (1 : Int32) (v1 / v2) σ)))))) ∧ (¬ x1 = (3 : Int32) → (x1 = (4 : Int32) → (0 ≤ (lg_cmp v1 v2) → b_X6_apply_322 N Q x2 v2 σ) ∧ (¬ 0 ≤ (lg_cmp v1 v2) → b_X6_apply_322 N Q x2 v1 σ)) ∧ (¬ x1 = (4 : Int32) → (x1 = (5 : Int32) → ((lg_cmp v1 v2) ≤ 0 → b_X6_apply_340 N Q x2 v2 σ) ∧ (¬ (lg_cmp v1 v2) ≤ 0 → b_X6_apply_340 N Q x2 v1 σ)) ∧ (¬ x1 = (5 : Int32) → (x1 = (6 : Int32) → (0 ≤ (lg_cmp v1 v2) → b_X6_apply_357 N Q x2 (0 : Int64) σ) ∧ (¬ 0 ≤ (lg_cmp v1 v2) → b_X6_apply_357 N Q x2 (1 : Int64) σ)) ∧ (¬ x1 = (6 : Int32) → (x1 = (7 : Int32) → ((lg_cmp v1 v2) ≤ 0 → b_X6_apply_374 N Q x2 (0 : Int64) σ) ∧ (¬ (lg_cmp v1 v2) ≤ 0 → b_X6_apply_374 N Q x2 (1 : Int64) σ)) ∧ (¬ x1 = (7 : Int32) → (x1 = (8 : Int32) → ((lg_cmp v1 v2) = 0 → b_X6_apply_391 N Q x2 (1 : Int64) σ) ∧ (¬ (lg_cmp v1 v2) = 0 → b_X6_apply_391 N Q x2 (0 : Int64) σ)) ∧ (¬ x1 = (8 : Int32) → (x1 = (9 : Int32) → ∀ v6 : Int64, v6 = v1 &&& v2 → b_X6_apply_414 N Q x2 v6 σ) ∧ (¬ x1 = (9 : Int32) → (x1 = (10 : Int32) → ∀ v7 : Int64, v7 = v1 ||| v2 → b_X6_apply_414 N Q x2 v7 σ) ∧ (¬ x1 = (10 : Int32) → b_X6_apply_414 N Q x2 (0 : Int64) σ))))))))))))))) ∧ (¬ x2 ≤ (64 : Int32) → Q x2 σ))
def w_X6_apply (N : Nat) (x1 : Int32) (x2 : Int32) (σ : zSt) (Q : Int32 → zSt → Prop) : Prop :=
  (x1 < (12 : Int32) → (x1 = (11 : Int32) → b_X6_apply_100 N Q x1 x2 (1 : Int32) x2 σ) ∧ (¬ x1 = (11 : Int32) → b_X6_apply_100 N Q x1 x2 (2 : Int32) x2 σ)) ∧ (¬ x1 < (12 : Int32) → ((64 : Int32) ≤ x2 → Q (x2 + (1 : Int32)) σ) ∧ (¬ (64 : Int32) ≤ x2 → (x1 < (100 : Int32) → (x1 < (30 : Int32) → (x1 < (20 : Int32) → (vp_in x2 64) ∧ (∀ τ1 : zSt, τ1 = zB σ 3 (vp_updL (σ.2.2.2 3) (x2.toNatClampNeg) (1 : Int64)) → Q (x2 + (1 : Int32)) τ1)) ∧ (¬ x1 < (20 : Int32) → ((25 : Int32) ≤ x1 → (vp_in x2 64) ∧ (∀ τ2 : zSt, τ2 = zB σ 3 (vp_updL (σ.2.2.2 3) (x2.toNatClampNeg) (1 : Int64)) → Q (x2 + (1 : Int32)) τ2)) ∧ (¬ (25 : Int32) ≤ x1 → (vp_in (x1 - (20 : Int32)) 5) ∧ ((vp_in x2 64) ∧ (∀ τ3 : zSt, τ3 = zB σ 3 (vp_updL (σ.2.2.2 3) (x2.toNatClampNeg) (σ.2.2.1 13 (x1 - (20 : Int32)).toNatClampNeg).toInt64) → Q (x2 + (1 : Int32)) τ3))))) ∧ (¬ x1 < (30 : Int32) → ((x1 - (30 : Int32)) = (σ.1 6) → (vp_in x2 64) ∧ (∀ τ5 : zSt, τ5 = zB σ 3 (vp_updL (σ.2.2.2 3) (x2.toNatClampNeg) (1 : Int32).toInt64) → Q (x2 + (1 : Int32)) τ5)) ∧ (¬ (x1 - (30 : Int32)) = (σ.1 6) → (vp_in x2 64) ∧ (∀ τ4 : zSt, τ4 = zB σ 3 (vp_updL (σ.2.2.2 3) (x2.toNatClampNeg) (0 : Int32).toInt64) → Q (x2 + (1 : Int32)) τ4)))) ∧ (¬ x1 < (100 : Int32) → (vp_in x2 64) ∧ (∀ τ6 : zSt, τ6 = zB σ 3 (vp_updL (σ.2.2.2 3) (x2.toNatClampNeg) (x1 - (100 : Int32)).toInt64) → Q (x2 + (1 : Int32)) τ6))))
variable {p : Program} {l : Launch} {e : Env} {s : State} {m : MethodId} {args : Array Value} {below : List Frame} {meth : Method} {c : Code} {dC : Nat → ClassId} {dI : Nat → Nat → Nat} {ad : Nat → Nat} {cI cJ : ClassId}
set_option maxHeartbeats 4000000 in
set_option maxRecDepth 100000 in
theorem t_X6_apply_414 (C0 : zCx p s m meth c args RX6 cX6_apply 9 (some .int) vs_X6_apply) (hK : va_K (dC, dI) vwCl (x_ty cI cJ) s) (N : Nat) {Q : Int32 → zSt → Prop} : ∀ (x2 : Int32) (x7 : Int64) (σ : zSt) (H : Heap) (locs : List Loc) (ls : Array Slot), b_X6_apply_414 N  Q x2 x7 σ → va_P (dC, dI) vwCl (x_W ad cI cJ σ) H → va_D (zAW x_n ad s.heap.size) (x_W ad cI cJ σ) → va_S (zAW x_n ad s.heap.size) s.heap H locs → lv_has ls 9 [(0, .ref (ad 4)), (2, .int x2), (7, .long x7)] → W p l e rm_X6_apply s m args below meth c H locs 0 0 (MQ below (zQi (dC, dI) (x_ty cI cJ) (x_W ad cI cJ) (zAW x_n ad s.heap.size) Q) args s 0 0 (zAW x_n ad s.heap.size)) (F0 m 414 ls []) := by
  obtain ⟨hx, hb, hml, hr, hown, hts, hlocks⟩ := id C0
  intro x2 x7 σ H locs ls h hP hD hS hl
  unfold b_X6_apply_414 at h
  refine lv_aload_n hx hb dX6_apply_414 rfl (lv_at hl 0 rfl) ?_
  refine xg_4_5 hx hb hts hown hK hP mw_97 dX6_apply_415 ?_
  refine lv_iload_n hx hb dX6_apply_418 rfl (lv_at hl 1 rfl) ?_
  refine lv_iconst (v := (2 : Int32)) hx hb dX6_apply_419 (by decide) ?_
  refine lv_isub hx hb dX6_apply_420 ?_
  refine lv_lload hx hb dX6_apply_421 (lv_at hl 2 rfl) ?_
  refine lv_ldc2 (v := (1000000 : Int64)) hx hb hown (hts _ (List.mem_cons_of_mem _ mw_578)) dX6_apply_423 ?_
  refine W.lcmp hx hb dX6_apply_426 ?_
  refine lv_if_le (tgt := 436) hx hb dX6_apply_427 (by decide) (fun hc => ?_) (fun hc => ?_)
  · have h := h.1 hc
    refine lv_lload hx hb dX6_apply_436 (lv_at hl 2 rfl) ?_
    refine lv_ldc2 (v := (-1000000 : Int64)) hx hb hown (hts _ (List.mem_cons_of_mem _ mw_579)) dX6_apply_438 ?_
    refine W.lcmp hx hb dX6_apply_441 ?_
    refine lv_if_ge (tgt := 451) hx hb dX6_apply_442 (by decide) (fun hc => ?_) (fun hc => ?_)
    · have h := h.1 hc
      refine lv_lload hx hb dX6_apply_451 (lv_at hl 2 rfl) ?_
      refine xs_31 hx hb hK hP hD hS h.1 rfl dX6_apply_453 (fun τ1 H locs eτ1 hP hD hS => ?_)
      have h := h.2
      have h := h τ1 eτ1
      refine lv_iload_n hx hb dX6_apply_454 rfl (lv_at hl 1 rfl) ?_
      refine lv_iconst (v := (1 : Int32)) hx hb dX6_apply_455 (by decide) ?_
      refine lv_isub hx hb dX6_apply_456 ?_
      exact zret_i hx hb hr hlocks hK hP hD hS h dX6_apply_457
    · have h := h.2 hc
      refine lv_ldc2 (v := (-1000000 : Int64)) hx hb hown (hts _ (List.mem_cons_of_mem _ mw_579)) dX6_apply_445 ?_
      refine lv_goto (tgt := 453) hx hb dX6_apply_448 (by decide) ?_
      refine xs_31 hx hb hK hP hD hS h.1 rfl dX6_apply_453 (fun τ2 H locs eτ2 hP hD hS => ?_)
      have h := h.2
      have h := h τ2 eτ2
      refine lv_iload_n hx hb dX6_apply_454 rfl (lv_at hl 1 rfl) ?_
      refine lv_iconst (v := (1 : Int32)) hx hb dX6_apply_455 (by decide) ?_
      refine lv_isub hx hb dX6_apply_456 ?_
      exact zret_i hx hb hr hlocks hK hP hD hS h dX6_apply_457
  · have h := h.2 hc
    refine lv_ldc2 (v := (1000000 : Int64)) hx hb hown (hts _ (List.mem_cons_of_mem _ mw_578)) dX6_apply_430 ?_
    refine lv_goto (tgt := 453) hx hb dX6_apply_433 (by decide) ?_
    refine xs_31 hx hb hK hP hD hS h.1 rfl dX6_apply_453 (fun τ3 H locs eτ3 hP hD hS => ?_)
    have h := h.2
    have h := h τ3 eτ3
    refine lv_iload_n hx hb dX6_apply_454 rfl (lv_at hl 1 rfl) ?_
    refine lv_iconst (v := (1 : Int32)) hx hb dX6_apply_455 (by decide) ?_
    refine lv_isub hx hb dX6_apply_456 ?_
    exact zret_i hx hb hr hlocks hK hP hD hS h dX6_apply_457
set_option maxHeartbeats 4000000 in
set_option maxRecDepth 100000 in
theorem t_X6_apply_304 (C0 : zCx p s m meth c args RX6 cX6_apply 9 (some .int) vs_X6_apply) (hK : va_K (dC, dI) vwCl (x_ty cI cJ) s) (N : Nat) {Q : Int32 → zSt → Prop} : ∀ (x2 : Int32) (s0 : Int64) (σ : zSt) (H : Heap) (locs : List Loc) (ls : Array Slot), b_X6_apply_304 N  Q x2 s0 σ → va_P (dC, dI) vwCl (x_W ad cI cJ σ) H → va_D (zAW x_n ad s.heap.size) (x_W ad cI cJ σ) → va_S (zAW x_n ad s.heap.size) s.heap H locs → lv_has ls 9 [(0, .ref (ad 4)), (2, .int x2)] → W p l e rm_X6_apply s m args below meth c H locs 0 0 (MQ below (zQi (dC, dI) (x_ty cI cJ) (x_W ad cI cJ) (zAW x_n ad s.heap.size) Q) args s 0 0 (zAW x_n ad s.heap.size)) (F0 m 304 ls [.long s0]) := by
  obtain ⟨hx, hb, hml, hr, hown, hts, hlocks⟩ := id C0
  intro x2 s0 σ H locs ls h hP hD hS hl
  unfold b_X6_apply_304 at h
  refine lv_lstore (lv' := [(7, .long s0), (0, .ref (ad 4)), (2, .int x2)]) hx hb dX6_apply_304 hl (by decide) rfl (fun ls hl => ?_)
  refine lv_goto (tgt := 414) hx hb dX6_apply_306 (by decide) ?_
  exact t_X6_apply_414 C0 hK N  x2 s0 σ _ _ _ h hP hD hS (lv_sub hl [1, 2, 0] rfl)
set_option maxHeartbeats 4000000 in
set_option maxRecDepth 100000 in
theorem t_X6_apply_302 (C0 : zCx p s m meth c args RX6 cX6_apply 9 (some .int) vs_X6_apply) (hK : va_K (dC, dI) vwCl (x_ty cI cJ) s) (N : Nat) {Q : Int32 → zSt → Prop} : ∀ (x2 : Int32) (s0 : Int32) (s1 : Int64) (σ : zSt) (H : Heap) (locs : List Loc) (ls : Array Slot), b_X6_apply_302 N  Q x2 s0 s1 σ → va_P (dC, dI) vwCl (x_W ad cI cJ σ) H → va_D (zAW x_n ad s.heap.size) (x_W ad cI cJ σ) → va_S (zAW x_n ad s.heap.size) s.heap H locs → lv_has ls 9 [(0, .ref (ad 4)), (2, .int x2)] → W p l e rm_X6_apply s m args below meth c H locs 0 0 (MQ below (zQi (dC, dI) (x_ty cI cJ) (x_W ad cI cJ) (zAW x_n ad s.heap.size) Q) args s 0 0 (zAW x_n ad s.heap.size)) (F0 m 302 ls [.int s0, .long s1]) := by
  obtain ⟨hx, hb, hml, hr, hown, hts, hlocks⟩ := id C0
  intro x2 s0 s1 σ H locs ls h hP hD hS hl
  unfold b_X6_apply_302 at h
  refine lv_i2l hx hb dX6_apply_302 rfl ?_
  refine lv_lsub hx hb dX6_apply_303 ?_
  exact t_X6_apply_304 C0 hK N  x2 (s1 - s0.toInt64) σ _ _ _ h hP hD hS (lv_sub hl [0, 1] rfl)
set_option maxHeartbeats 4000000 in
set_option maxRecDepth 100000 in
theorem t_X6_apply_301 (C0 : zCx p s m meth c args RX6 cX6_apply 9 (some .int) vs_X6_apply) (hK : va_K (dC, dI) vwCl (x_ty cI cJ) s) (N : Nat) {Q : Int32 → zSt → Prop} : ∀ (x2 : Int32) (s0 : Int64) (σ : zSt) (H : Heap) (locs : List Loc) (ls : Array Slot), b_X6_apply_301 N  Q x2 s0 σ → va_P (dC, dI) vwCl (x_W ad cI cJ σ) H → va_D (zAW x_n ad s.heap.size) (x_W ad cI cJ σ) → va_S (zAW x_n ad s.heap.size) s.heap H locs → lv_has ls 9 [(0, .ref (ad 4)), (2, .int x2)] → W p l e rm_X6_apply s m args below meth c H locs 0 0 (MQ below (zQi (dC, dI) (x_ty cI cJ) (x_W ad cI cJ) (zAW x_n ad s.heap.size) Q) args s 0 0 (zAW x_n ad s.heap.size)) (F0 m 301 ls [.long s0]) := by
  obtain ⟨hx, hb, hml, hr, hown, hts, hlocks⟩ := id C0
  intro x2 s0 σ H locs ls h hP hD hS hl
  unfold b_X6_apply_301 at h
  refine lv_iconst (v := (0 : Int32)) hx hb dX6_apply_301 (by decide) ?_
  exact t_X6_apply_302 C0 hK N  x2 (0 : Int32) s0 σ _ _ _ h hP hD hS (lv_sub hl [0, 1] rfl)
set_option maxHeartbeats 4000000 in
set_option maxRecDepth 100000 in
theorem t_X6_apply_294 (C0 : zCx p s m meth c args RX6 cX6_apply 9 (some .int) vs_X6_apply) (hK : va_K (dC, dI) vwCl (x_ty cI cJ) s) (N : Nat) {Q : Int32 → zSt → Prop} : ∀ (x2 : Int32) (s0 : Int32) (s1 : Int32) (s2 : Int64) (σ : zSt) (H : Heap) (locs : List Loc) (ls : Array Slot), b_X6_apply_294 N  Q x2 s0 s1 s2 σ → va_P (dC, dI) vwCl (x_W ad cI cJ σ) H → va_D (zAW x_n ad s.heap.size) (x_W ad cI cJ σ) → va_S (zAW x_n ad s.heap.size) s.heap H locs → lv_has ls 9 [(0, .ref (ad 4)), (2, .int x2)] → W p l e rm_X6_apply s m args below meth c H locs 0 0 (MQ below (zQi (dC, dI) (x_ty cI cJ) (x_W ad cI cJ) (zAW x_n ad s.heap.size) Q) args s 0 0 (zAW x_n ad s.heap.size)) (F0 m 294 ls [.int s0, .int s1, .long s2]) := by
  obtain ⟨hx, hb, hml, hr, hown, hts, hlocks⟩ := id C0
  intro x2 s0 s1 s2 σ H locs ls h hP hD hS hl
  unfold b_X6_apply_294 at h
  refine lv_icmp_eq (tgt := 301) hx hb dX6_apply_294 (by decide) (fun hc => ?_) (fun hc => ?_)
  · have h := h.1 hc
    exact t_X6_apply_301 C0 hK N  x2 s2 σ _ _ _ h hP hD hS (lv_sub hl [0, 1] rfl)
  · have h := h.2 hc
    refine lv_iconst (v := (1 : Int32)) hx hb dX6_apply_297 (by decide) ?_
    refine lv_goto (tgt := 302) hx hb dX6_apply_298 (by decide) ?_
    exact t_X6_apply_302 C0 hK N  x2 (1 : Int32) s2 σ _ _ _ h hP hD hS (lv_sub hl [0, 1] rfl)
set_option maxHeartbeats 4000000 in
set_option maxRecDepth 100000 in
theorem t_X6_apply_282 (C0 : zCx p s m meth c args RX6 cX6_apply 9 (some .int) vs_X6_apply) (hK : va_K (dC, dI) vwCl (x_ty cI cJ) s) (N : Nat) {Q : Int32 → zSt → Prop} : ∀ (x2 : Int32) (x5 : Int64) (s0 : Int32) (s1 : Int64) (σ : zSt) (H : Heap) (locs : List Loc) (ls : Array Slot), b_X6_apply_282 N  Q x2 x5 s0 s1 σ → va_P (dC, dI) vwCl (x_W ad cI cJ σ) H → va_D (zAW x_n ad s.heap.size) (x_W ad cI cJ σ) → va_S (zAW x_n ad s.heap.size) s.heap H locs → lv_has ls 9 [(0, .ref (ad 4)), (2, .int x2), (5, .long x5)] → W p l e rm_X6_apply s m args below meth c H locs 0 0 (MQ below (zQi (dC, dI) (x_ty cI cJ) (x_W ad cI cJ) (zAW x_n ad s.heap.size) Q) args s 0 0 (zAW x_n ad s.heap.size)) (F0 m 282 ls [.int s0, .long s1]) := by
  obtain ⟨hx, hb, hml, hr, hown, hts, hlocks⟩ := id C0
  intro x2 x5 s0 s1 σ H locs ls h hP hD hS hl
  unfold b_X6_apply_282 at h
  refine lv_lload hx hb dX6_apply_282 (lv_at hl 2 rfl) ?_
  refine lv_lconst (v := (0 : Int64)) hx hb dX6_apply_284 (by decide) ?_
  refine W.lcmp hx hb dX6_apply_285 ?_
  refine lv_if_ge (tgt := 293) hx hb dX6_apply_286 (by decide) (fun hc => ?_) (fun hc => ?_)
  · have h := h.1 hc
    refine lv_iconst (v := (0 : Int32)) hx hb dX6_apply_293 (by decide) ?_
    exact t_X6_apply_294 C0 hK N  x2 (0 : Int32) s0 s1 σ _ _ _ h hP hD hS (lv_sub hl [0, 1] rfl)
  · have h := h.2 hc
    refine lv_iconst (v := (1 : Int32)) hx hb dX6_apply_289 (by decide) ?_
    refine lv_goto (tgt := 294) hx hb dX6_apply_290 (by decide) ?_
    exact t_X6_apply_294 C0 hK N  x2 (1 : Int32) s0 s1 σ _ _ _ h hP hD hS (lv_sub hl [0, 1] rfl)
set_option maxHeartbeats 4000000 in
set_option maxRecDepth 100000 in
theorem t_X6_apply_322 (C0 : zCx p s m meth c args RX6 cX6_apply 9 (some .int) vs_X6_apply) (hK : va_K (dC, dI) vwCl (x_ty cI cJ) s) (N : Nat) {Q : Int32 → zSt → Prop} : ∀ (x2 : Int32) (s0 : Int64) (σ : zSt) (H : Heap) (locs : List Loc) (ls : Array Slot), b_X6_apply_322 N  Q x2 s0 σ → va_P (dC, dI) vwCl (x_W ad cI cJ σ) H → va_D (zAW x_n ad s.heap.size) (x_W ad cI cJ σ) → va_S (zAW x_n ad s.heap.size) s.heap H locs → lv_has ls 9 [(0, .ref (ad 4)), (2, .int x2)] → W p l e rm_X6_apply s m args below meth c H locs 0 0 (MQ below (zQi (dC, dI) (x_ty cI cJ) (x_W ad cI cJ) (zAW x_n ad s.heap.size) Q) args s 0 0 (zAW x_n ad s.heap.size)) (F0 m 322 ls [.long s0]) := by
  obtain ⟨hx, hb, hml, hr, hown, hts, hlocks⟩ := id C0
  intro x2 s0 σ H locs ls h hP hD hS hl
  unfold b_X6_apply_322 at h
  refine lv_lstore (lv' := [(7, .long s0), (0, .ref (ad 4)), (2, .int x2)]) hx hb dX6_apply_322 hl (by decide) rfl (fun ls hl => ?_)
  refine lv_goto (tgt := 414) hx hb dX6_apply_324 (by decide) ?_
  exact t_X6_apply_414 C0 hK N  x2 s0 σ _ _ _ h hP hD hS (lv_sub hl [1, 2, 0] rfl)
set_option maxHeartbeats 4000000 in
set_option maxRecDepth 100000 in
theorem t_X6_apply_340 (C0 : zCx p s m meth c args RX6 cX6_apply 9 (some .int) vs_X6_apply) (hK : va_K (dC, dI) vwCl (x_ty cI cJ) s) (N : Nat) {Q : Int32 → zSt → Prop} : ∀ (x2 : Int32) (s0 : Int64) (σ : zSt) (H : Heap) (locs : List Loc) (ls : Array Slot), b_X6_apply_340 N  Q x2 s0 σ → va_P (dC, dI) vwCl (x_W ad cI cJ σ) H → va_D (zAW x_n ad s.heap.size) (x_W ad cI cJ σ) → va_S (zAW x_n ad s.heap.size) s.heap H locs → lv_has ls 9 [(0, .ref (ad 4)), (2, .int x2)] → W p l e rm_X6_apply s m args below meth c H locs 0 0 (MQ below (zQi (dC, dI) (x_ty cI cJ) (x_W ad cI cJ) (zAW x_n ad s.heap.size) Q) args s 0 0 (zAW x_n ad s.heap.size)) (F0 m 340 ls [.long s0]) := by
  obtain ⟨hx, hb, hml, hr, hown, hts, hlocks⟩ := id C0
  intro x2 s0 σ H locs ls h hP hD hS hl
  unfold b_X6_apply_340 at h
  refine lv_lstore (lv' := [(7, .long s0), (0, .ref (ad 4)), (2, .int x2)]) hx hb dX6_apply_340 hl (by decide) rfl (fun ls hl => ?_)
  refine lv_goto (tgt := 414) hx hb dX6_apply_342 (by decide) ?_
  exact t_X6_apply_414 C0 hK N  x2 s0 σ _ _ _ h hP hD hS (lv_sub hl [1, 2, 0] rfl)
set_option maxHeartbeats 4000000 in
set_option maxRecDepth 100000 in
theorem t_X6_apply_357 (C0 : zCx p s m meth c args RX6 cX6_apply 9 (some .int) vs_X6_apply) (hK : va_K (dC, dI) vwCl (x_ty cI cJ) s) (N : Nat) {Q : Int32 → zSt → Prop} : ∀ (x2 : Int32) (s0 : Int64) (σ : zSt) (H : Heap) (locs : List Loc) (ls : Array Slot), b_X6_apply_357 N  Q x2 s0 σ → va_P (dC, dI) vwCl (x_W ad cI cJ σ) H → va_D (zAW x_n ad s.heap.size) (x_W ad cI cJ σ) → va_S (zAW x_n ad s.heap.size) s.heap H locs → lv_has ls 9 [(0, .ref (ad 4)), (2, .int x2)] → W p l e rm_X6_apply s m args below meth c H locs 0 0 (MQ below (zQi (dC, dI) (x_ty cI cJ) (x_W ad cI cJ) (zAW x_n ad s.heap.size) Q) args s 0 0 (zAW x_n ad s.heap.size)) (F0 m 357 ls [.long s0]) := by
  obtain ⟨hx, hb, hml, hr, hown, hts, hlocks⟩ := id C0
  intro x2 s0 σ H locs ls h hP hD hS hl
  unfold b_X6_apply_357 at h
  refine lv_lstore (lv' := [(7, .long s0), (0, .ref (ad 4)), (2, .int x2)]) hx hb dX6_apply_357 hl (by decide) rfl (fun ls hl => ?_)
  refine lv_goto (tgt := 414) hx hb dX6_apply_359 (by decide) ?_
  exact t_X6_apply_414 C0 hK N  x2 s0 σ _ _ _ h hP hD hS (lv_sub hl [1, 2, 0] rfl)
set_option maxHeartbeats 4000000 in
set_option maxRecDepth 100000 in
theorem t_X6_apply_374 (C0 : zCx p s m meth c args RX6 cX6_apply 9 (some .int) vs_X6_apply) (hK : va_K (dC, dI) vwCl (x_ty cI cJ) s) (N : Nat) {Q : Int32 → zSt → Prop} : ∀ (x2 : Int32) (s0 : Int64) (σ : zSt) (H : Heap) (locs : List Loc) (ls : Array Slot), b_X6_apply_374 N  Q x2 s0 σ → va_P (dC, dI) vwCl (x_W ad cI cJ σ) H → va_D (zAW x_n ad s.heap.size) (x_W ad cI cJ σ) → va_S (zAW x_n ad s.heap.size) s.heap H locs → lv_has ls 9 [(0, .ref (ad 4)), (2, .int x2)] → W p l e rm_X6_apply s m args below meth c H locs 0 0 (MQ below (zQi (dC, dI) (x_ty cI cJ) (x_W ad cI cJ) (zAW x_n ad s.heap.size) Q) args s 0 0 (zAW x_n ad s.heap.size)) (F0 m 374 ls [.long s0]) := by
  obtain ⟨hx, hb, hml, hr, hown, hts, hlocks⟩ := id C0
  intro x2 s0 σ H locs ls h hP hD hS hl
  unfold b_X6_apply_374 at h
  refine lv_lstore (lv' := [(7, .long s0), (0, .ref (ad 4)), (2, .int x2)]) hx hb dX6_apply_374 hl (by decide) rfl (fun ls hl => ?_)
  refine lv_goto (tgt := 414) hx hb dX6_apply_376 (by decide) ?_
  exact t_X6_apply_414 C0 hK N  x2 s0 σ _ _ _ h hP hD hS (lv_sub hl [1, 2, 0] rfl)
set_option maxHeartbeats 4000000 in
set_option maxRecDepth 100000 in
theorem t_X6_apply_391 (C0 : zCx p s m meth c args RX6 cX6_apply 9 (some .int) vs_X6_apply) (hK : va_K (dC, dI) vwCl (x_ty cI cJ) s) (N : Nat) {Q : Int32 → zSt → Prop} : ∀ (x2 : Int32) (s0 : Int64) (σ : zSt) (H : Heap) (locs : List Loc) (ls : Array Slot), b_X6_apply_391 N  Q x2 s0 σ → va_P (dC, dI) vwCl (x_W ad cI cJ σ) H → va_D (zAW x_n ad s.heap.size) (x_W ad cI cJ σ) → va_S (zAW x_n ad s.heap.size) s.heap H locs → lv_has ls 9 [(0, .ref (ad 4)), (2, .int x2)] → W p l e rm_X6_apply s m args below meth c H locs 0 0 (MQ below (zQi (dC, dI) (x_ty cI cJ) (x_W ad cI cJ) (zAW x_n ad s.heap.size) Q) args s 0 0 (zAW x_n ad s.heap.size)) (F0 m 391 ls [.long s0]) := by
  obtain ⟨hx, hb, hml, hr, hown, hts, hlocks⟩ := id C0
  intro x2 s0 σ H locs ls h hP hD hS hl
  unfold b_X6_apply_391 at h
  refine lv_lstore (lv' := [(7, .long s0), (0, .ref (ad 4)), (2, .int x2)]) hx hb dX6_apply_391 hl (by decide) rfl (fun ls hl => ?_)
  refine lv_goto (tgt := 414) hx hb dX6_apply_393 (by decide) ?_
  exact t_X6_apply_414 C0 hK N  x2 s0 σ _ _ _ h hP hD hS (lv_sub hl [1, 2, 0] rfl)
set_option maxHeartbeats 4000000 in
set_option maxRecDepth 100000 in
theorem t_X6_apply_100 (C0 : zCx p s m meth c args RX6 cX6_apply 9 (some .int) vs_X6_apply) (hK : va_K (dC, dI) vwCl (x_ty cI cJ) s) (N : Nat) {Q : Int32 → zSt → Prop} : ∀ (x1 : Int32) (x2 : Int32) (s0 : Int32) (s1 : Int32) (σ : zSt) (H : Heap) (locs : List Loc) (ls : Array Slot), b_X6_apply_100 N  Q x1 x2 s0 s1 σ → va_P (dC, dI) vwCl (x_W ad cI cJ σ) H → va_D (zAW x_n ad s.heap.size) (x_W ad cI cJ σ) → va_S (zAW x_n ad s.heap.size) s.heap H locs → lv_has ls 9 [(0, .ref (ad 4)), (1, .int x1), (2, .int x2)] → W p l e rm_X6_apply s m args below meth c H locs 0 0 (MQ below (zQi (dC, dI) (x_ty cI cJ) (x_W ad cI cJ) (zAW x_n ad s.heap.size) Q) args s 0 0 (zAW x_n ad s.heap.size)) (F0 m 100 ls [.int s0, .int s1]) := by
  obtain ⟨hx, hb, hml, hr, hown, hts, hlocks⟩ := id C0
  intro x1 x2 s0 s1 σ H locs ls h hP hD hS hl
  unfold b_X6_apply_100 at h
  refine lv_icmp_lt (tgt := 109) hx hb dX6_apply_100 (by decide) (fun hc => ?_) (fun hc => ?_)
  · have h := h.1 hc
    refine lv_iload_n hx hb dX6_apply_109 rfl (lv_at hl 2 rfl) ?_
    exact zret_i hx hb hr hlocks hK hP hD hS h dX6_apply_110
  · have h := h.2 hc
    refine lv_iload_n hx hb dX6_apply_103 rfl (lv_at hl 2 rfl) ?_
    refine lv_bipush (v := (64 : Int32)) hx hb dX6_apply_104 (by decide) ?_
    refine lv_icmp_le (tgt := 111) hx hb dX6_apply_106 (by decide) (fun hc => ?_) (fun hc => ?_)
    · have h := h.1 hc
      refine lv_iload_n hx hb dX6_apply_111 rfl (lv_at hl 1 rfl) ?_
      refine lv_bipush (v := (11 : Int32)) hx hb dX6_apply_112 (by decide) ?_
      refine lv_icmp_ne (tgt := 137) hx hb dX6_apply_114 (by decide) (fun hc => ?_) (fun hc => ?_)
      · have h := h.2 hc
        refine lv_aload_n hx hb dX6_apply_137 rfl (lv_at hl 0 rfl) ?_
        refine xg_4_5 hx hb hts hown hK hP mw_97 dX6_apply_138 ?_
        refine lv_iload_n hx hb dX6_apply_141 rfl (lv_at hl 2 rfl) ?_
        refine lv_iconst (v := (2 : Int32)) hx hb dX6_apply_142 (by decide) ?_
        refine lv_isub hx hb dX6_apply_143 ?_
        refine xa_31 hx hb hK hP h.1 rfl dX6_apply_144 ?_
        have h := h.2
        refine lv_topl (fun v1 ev1 => ?_)
        have h := h v1 ev1
        refine lv_lstore_n (lv' := [(3, .long v1), (0, .ref (ad 4)), (1, .int x1), (2, .int x2)]) hx hb dX6_apply_145 rfl hl (by decide) rfl (fun ls hl => ?_)
        refine lv_aload_n hx hb dX6_apply_146 rfl (lv_at hl 1 rfl) ?_
        refine xg_4_5 hx hb hts hown hK hP mw_97 dX6_apply_147 ?_
        refine lv_iload_n hx hb dX6_apply_150 rfl (lv_at hl 3 rfl) ?_
        refine lv_iconst (v := (1 : Int32)) hx hb dX6_apply_151 (by decide) ?_
        refine lv_isub hx hb dX6_apply_152 ?_
        refine xa_31 hx hb hK hP h.1 rfl dX6_apply_153 ?_
        have h := h.2
        refine lv_topl (fun v2 ev2 => ?_)
        have h := h v2 ev2
        refine lv_lstore (lv' := [(5, .long v2), (3, .long v1), (0, .ref (ad 4)), (1, .int x1), (2, .int x2)]) hx hb dX6_apply_154 hl (by decide) rfl (fun ls hl => ?_)
        refine lv_lconst (v := (0 : Int64)) hx hb dX6_apply_156 (by decide) ?_
        refine lv_lstore (lv' := [(7, .long (0 : Int64)), (5, .long v2), (3, .long v1), (0, .ref (ad 4)), (1, .int x1), (2, .int x2)]) hx hb dX6_apply_157 hl (by decide) rfl (fun ls hl => ?_)
        refine lv_iload_n hx hb dX6_apply_159 rfl (lv_at hl 4 rfl) ?_
        by_cases hc0 : x1 = (0 : Int32)
        · have h := h.1 hc0
          refine lv_tableIn (off := 60) (tgt := 220) hx hb dX6_apply_160 (by rw [hc0]; decide) (by rw [hc0]; decide) (by rw [hc0]; rfl) (by decide) ?_
          refine lv_lload_n hx hb dX6_apply_220 rfl (lv_at hl 2 rfl) ?_
          refine lv_lload hx hb dX6_apply_221 (lv_at hl 1 rfl) ?_
          refine lv_ladd hx hb dX6_apply_223 ?_
          refine lv_topl (fun v3 ev3 => ?_)
          have h := h v3 ev3
          refine lv_lstore (lv' := [(7, .long v3), (5, .long v2), (3, .long v1), (0, .ref (ad 4)), (1, .int x1), (2, .int x2)]) hx hb dX6_apply_224 hl (by decide) rfl (fun ls hl => ?_)
          refine lv_goto (tgt := 414) hx hb dX6_apply_226 (by decide) ?_
          exact t_X6_apply_414 C0 hK N  x2 v3 σ _ _ _ h hP hD hS (lv_sub hl [3, 5, 0] rfl)
        · have hn0 := hc0
          have h := h.2 hc0
          by_cases hc1 : x1 = (1 : Int32)
          · have h := h.1 hc1
            refine lv_tableIn (off := 69) (tgt := 229) hx hb dX6_apply_160 (by rw [hc1]; decide) (by rw [hc1]; decide) (by rw [hc1]; rfl) (by decide) ?_
            refine lv_lload_n hx hb dX6_apply_229 rfl (lv_at hl 2 rfl) ?_
            refine lv_lload hx hb dX6_apply_230 (lv_at hl 1 rfl) ?_
            refine lv_lsub hx hb dX6_apply_232 ?_
            refine lv_topl (fun v4 ev4 => ?_)
            have h := h v4 ev4
            refine lv_lstore (lv' := [(7, .long v4), (5, .long v2), (3, .long v1), (0, .ref (ad 4)), (1, .int x1), (2, .int x2)]) hx hb dX6_apply_233 hl (by decide) rfl (fun ls hl => ?_)
            refine lv_goto (tgt := 414) hx hb dX6_apply_235 (by decide) ?_
            exact t_X6_apply_414 C0 hK N  x2 v4 σ _ _ _ h hP hD hS (lv_sub hl [3, 5, 0] rfl)
          · have hn1 := hc1
            have h := h.2 hc1
            by_cases hc2 : x1 = (2 : Int32)
            · have h := h.1 hc2
              refine lv_tableIn (off := 78) (tgt := 238) hx hb dX6_apply_160 (by rw [hc2]; decide) (by rw [hc2]; decide) (by rw [hc2]; rfl) (by decide) ?_
              refine lv_lload_n hx hb dX6_apply_238 rfl (lv_at hl 2 rfl) ?_
              refine lv_lload hx hb dX6_apply_239 (lv_at hl 1 rfl) ?_
              refine lv_lmul hx hb dX6_apply_241 ?_
              refine lv_topl (fun v5 ev5 => ?_)
              have h := h v5 ev5
              refine lv_lstore (lv' := [(7, .long v5), (5, .long v2), (3, .long v1), (0, .ref (ad 4)), (1, .int x1), (2, .int x2)]) hx hb dX6_apply_242 hl (by decide) rfl (fun ls hl => ?_)
              refine lv_goto (tgt := 414) hx hb dX6_apply_244 (by decide) ?_
              exact t_X6_apply_414 C0 hK N  x2 v5 σ _ _ _ h hP hD hS (lv_sub hl [3, 5, 0] rfl)
            · have hn2 := hc2
              have h := h.2 hc2
              by_cases hc3 : x1 = (3 : Int32)
              · have h := h.1 hc3
                refine lv_tableIn (off := 87) (tgt := 247) hx hb dX6_apply_160 (by rw [hc3]; decide) (by rw [hc3]; decide) (by rw [hc3]; rfl) (by decide) ?_
                refine lv_lload hx hb dX6_apply_247 (lv_at hl 1 rfl) ?_
                refine lv_lconst (v := (0 : Int64)) hx hb dX6_apply_249 (by decide) ?_
                refine W.lcmp hx hb dX6_apply_250 ?_
                refine lv_if_ne (tgt := 258) hx hb dX6_apply_251 (by decide) (fun hc => ?_) (fun hc => ?_)
                · have h := h.2 hc
                  refine lv_lload_n hx hb dX6_apply_258 rfl (lv_at hl 2 rfl) ?_
                  refine lv_lload hx hb dX6_apply_259 (lv_at hl 1 rfl) ?_
                  refine lv_ldiv hx hb dX6_apply_261 h.1 ?_
                  have h := h.2
                  refine lv_lload_n hx hb dX6_apply_262 rfl (lv_at hl 2 rfl) ?_
                  refine lv_lload hx hb dX6_apply_263 (lv_at hl 1 rfl) ?_
                  refine lv_lrem hx hb dX6_apply_265 h.1 ?_
                  have h := h.2
                  refine lv_lconst (v := (0 : Int64)) hx hb dX6_apply_266 (by decide) ?_
                  refine W.lcmp hx hb dX6_apply_267 ?_
                  refine lv_if_eq (tgt := 301) hx hb dX6_apply_268 (by decide) (fun hc => ?_) (fun hc => ?_)
                  · have h := h.1 hc
                    exact t_X6_apply_301 C0 hK N  x2 (v1 / v2) σ _ _ _ h hP hD hS (lv_sub hl [3, 5] rfl)
                  · have h := h.2 hc
                    refine lv_lload_n hx hb dX6_apply_271 rfl (lv_at hl 2 rfl) ?_
                    refine lv_lconst (v := (0 : Int64)) hx hb dX6_apply_272 (by decide) ?_
                    refine W.lcmp hx hb dX6_apply_273 ?_
                    refine lv_if_ge (tgt := 281) hx hb dX6_apply_274 (by decide) (fun hc => ?_) (fun hc => ?_)
                    · have h := h.1 hc
                      refine lv_iconst (v := (0 : Int32)) hx hb dX6_apply_281 (by decide) ?_
                      exact t_X6_apply_282 C0 hK N  x2 v2 (0 : Int32) (v1 / v2) σ _ _ _ h hP hD hS (lv_sub hl [3, 5, 1] rfl)
                    · have h := h.2 hc
                      refine lv_iconst (v := (1 : Int32)) hx hb dX6_apply_277 (by decide) ?_
                      refine lv_goto (tgt := 282) hx hb dX6_apply_278 (by decide) ?_
                      exact t_X6_apply_282 C0 hK N  x2 v2 (1 : Int32) (v1 / v2) σ _ _ _ h hP hD hS (lv_sub hl [3, 5, 1] rfl)
                · have h := h.1 hc
                  refine lv_lconst (v := (0 : Int64)) hx hb dX6_apply_254 (by decide) ?_
                  refine lv_goto (tgt := 304) hx hb dX6_apply_255 (by decide) ?_
                  exact t_X6_apply_304 C0 hK N  x2 (0 : Int64) σ _ _ _ h hP hD hS (lv_sub hl [3, 5] rfl)
              · have hn3 := hc3
                have h := h.2 hc3
                by_cases hc4 : x1 = (4 : Int32)
                · have h := h.1 hc4
                  refine lv_tableIn (off := 149) (tgt := 309) hx hb dX6_apply_160 (by rw [hc4]; decide) (by rw [hc4]; decide) (by rw [hc4]; rfl) (by decide) ?_
                  refine lv_lload_n hx hb dX6_apply_309 rfl (lv_at hl 2 rfl) ?_
                  refine lv_lload hx hb dX6_apply_310 (lv_at hl 1 rfl) ?_
                  refine W.lcmp hx hb dX6_apply_312 ?_
                  refine lv_if_ge (tgt := 320) hx hb dX6_apply_313 (by decide) (fun hc => ?_) (fun hc => ?_)
                  · have h := h.1 hc
                    refine lv_lload hx hb dX6_apply_320 (lv_at hl 1 rfl) ?_
                    exact t_X6_apply_322 C0 hK N  x2 v2 σ _ _ _ h hP hD hS (lv_sub hl [3, 5] rfl)
                  · have h := h.2 hc
                    refine lv_lload_n hx hb dX6_apply_316 rfl (lv_at hl 2 rfl) ?_
                    refine lv_goto (tgt := 322) hx hb dX6_apply_317 (by decide) ?_
                    exact t_X6_apply_322 C0 hK N  x2 v1 σ _ _ _ h hP hD hS (lv_sub hl [3, 5] rfl)
                · have hn4 := hc4
                  have h := h.2 hc4
                  by_cases hc5 : x1 = (5 : Int32)
                  · have h := h.1 hc5
                    refine lv_tableIn (off := 167) (tgt := 327) hx hb dX6_apply_160 (by rw [hc5]; decide) (by rw [hc5]; decide) (by rw [hc5]; rfl) (by decide) ?_
                    refine lv_lload_n hx hb dX6_apply_327 rfl (lv_at hl 2 rfl) ?_
                    refine lv_lload hx hb dX6_apply_328 (lv_at hl 1 rfl) ?_
                    refine W.lcmp hx hb dX6_apply_330 ?_
                    refine lv_if_le (tgt := 338) hx hb dX6_apply_331 (by decide) (fun hc => ?_) (fun hc => ?_)
                    · have h := h.1 hc
                      refine lv_lload hx hb dX6_apply_338 (lv_at hl 1 rfl) ?_
                      exact t_X6_apply_340 C0 hK N  x2 v2 σ _ _ _ h hP hD hS (lv_sub hl [3, 5] rfl)
                    · have h := h.2 hc
                      refine lv_lload_n hx hb dX6_apply_334 rfl (lv_at hl 2 rfl) ?_
                      refine lv_goto (tgt := 340) hx hb dX6_apply_335 (by decide) ?_
                      exact t_X6_apply_340 C0 hK N  x2 v1 σ _ _ _ h hP hD hS (lv_sub hl [3, 5] rfl)
                  · have hn5 := hc5
                    have h := h.2 hc5
                    by_cases hc6 : x1 = (6 : Int32)
                    · have h := h.1 hc6
                      refine lv_tableIn (off := 185) (tgt := 345) hx hb dX6_apply_160 (by rw [hc6]; decide) (by rw [hc6]; decide) (by rw [hc6]; rfl) (by decide) ?_
                      refine lv_lload_n hx hb dX6_apply_345 rfl (lv_at hl 2 rfl) ?_
                      refine lv_lload hx hb dX6_apply_346 (lv_at hl 1 rfl) ?_
                      refine W.lcmp hx hb dX6_apply_348 ?_
                      refine lv_if_ge (tgt := 356) hx hb dX6_apply_349 (by decide) (fun hc => ?_) (fun hc => ?_)
                      · have h := h.1 hc
                        refine lv_lconst (v := (0 : Int64)) hx hb dX6_apply_356 (by decide) ?_
                        exact t_X6_apply_357 C0 hK N  x2 (0 : Int64) σ _ _ _ h hP hD hS (lv_sub hl [3, 5] rfl)
                      · have h := h.2 hc
                        refine lv_lconst (v := (1 : Int64)) hx hb dX6_apply_352 (by decide) ?_
                        refine lv_goto (tgt := 357) hx hb dX6_apply_353 (by decide) ?_
                        exact t_X6_apply_357 C0 hK N  x2 (1 : Int64) σ _ _ _ h hP hD hS (lv_sub hl [3, 5] rfl)
                    · have hn6 := hc6
                      have h := h.2 hc6
                      by_cases hc7 : x1 = (7 : Int32)
                      · have h := h.1 hc7
                        refine lv_tableIn (off := 202) (tgt := 362) hx hb dX6_apply_160 (by rw [hc7]; decide) (by rw [hc7]; decide) (by rw [hc7]; rfl) (by decide) ?_
                        refine lv_lload_n hx hb dX6_apply_362 rfl (lv_at hl 2 rfl) ?_
                        refine lv_lload hx hb dX6_apply_363 (lv_at hl 1 rfl) ?_
                        refine W.lcmp hx hb dX6_apply_365 ?_
                        refine lv_if_le (tgt := 373) hx hb dX6_apply_366 (by decide) (fun hc => ?_) (fun hc => ?_)
                        · have h := h.1 hc
                          refine lv_lconst (v := (0 : Int64)) hx hb dX6_apply_373 (by decide) ?_
                          exact t_X6_apply_374 C0 hK N  x2 (0 : Int64) σ _ _ _ h hP hD hS (lv_sub hl [3, 5] rfl)
                        · have h := h.2 hc
                          refine lv_lconst (v := (1 : Int64)) hx hb dX6_apply_369 (by decide) ?_
                          refine lv_goto (tgt := 374) hx hb dX6_apply_370 (by decide) ?_
                          exact t_X6_apply_374 C0 hK N  x2 (1 : Int64) σ _ _ _ h hP hD hS (lv_sub hl [3, 5] rfl)
                      · have hn7 := hc7
                        have h := h.2 hc7
                        by_cases hc8 : x1 = (8 : Int32)
                        · have h := h.1 hc8
                          refine lv_tableIn (off := 219) (tgt := 379) hx hb dX6_apply_160 (by rw [hc8]; decide) (by rw [hc8]; decide) (by rw [hc8]; rfl) (by decide) ?_
                          refine lv_lload_n hx hb dX6_apply_379 rfl (lv_at hl 2 rfl) ?_
                          refine lv_lload hx hb dX6_apply_380 (lv_at hl 1 rfl) ?_
                          refine W.lcmp hx hb dX6_apply_382 ?_
                          refine lv_if_ne (tgt := 390) hx hb dX6_apply_383 (by decide) (fun hc => ?_) (fun hc => ?_)
                          · have h := h.2 hc
                            refine lv_lconst (v := (0 : Int64)) hx hb dX6_apply_390 (by decide) ?_
                            exact t_X6_apply_391 C0 hK N  x2 (0 : Int64) σ _ _ _ h hP hD hS (lv_sub hl [3, 5] rfl)
                          · have h := h.1 hc
                            refine lv_lconst (v := (1 : Int64)) hx hb dX6_apply_386 (by decide) ?_
                            refine lv_goto (tgt := 391) hx hb dX6_apply_387 (by decide) ?_
                            exact t_X6_apply_391 C0 hK N  x2 (1 : Int64) σ _ _ _ h hP hD hS (lv_sub hl [3, 5] rfl)
                        · have hn8 := hc8
                          have h := h.2 hc8
                          by_cases hc9 : x1 = (9 : Int32)
                          · have h := h.1 hc9
                            refine lv_tableIn (off := 236) (tgt := 396) hx hb dX6_apply_160 (by rw [hc9]; decide) (by rw [hc9]; decide) (by rw [hc9]; rfl) (by decide) ?_
                            refine lv_lload_n hx hb dX6_apply_396 rfl (lv_at hl 2 rfl) ?_
                            refine lv_lload hx hb dX6_apply_397 (lv_at hl 1 rfl) ?_
                            refine lv_land hx hb dX6_apply_399 ?_
                            refine lv_topl (fun v6 ev6 => ?_)
                            have h := h v6 ev6
                            refine lv_lstore (lv' := [(7, .long v6), (5, .long v2), (3, .long v1), (0, .ref (ad 4)), (1, .int x1), (2, .int x2)]) hx hb dX6_apply_400 hl (by decide) rfl (fun ls hl => ?_)
                            refine lv_goto (tgt := 414) hx hb dX6_apply_402 (by decide) ?_
                            exact t_X6_apply_414 C0 hK N  x2 v6 σ _ _ _ h hP hD hS (lv_sub hl [3, 5, 0] rfl)
                          · have hn9 := hc9
                            have h := h.2 hc9
                            by_cases hc10 : x1 = (10 : Int32)
                            · have h := h.1 hc10
                              refine lv_tableIn (off := 245) (tgt := 405) hx hb dX6_apply_160 (by rw [hc10]; decide) (by rw [hc10]; decide) (by rw [hc10]; rfl) (by decide) ?_
                              refine lv_lload_n hx hb dX6_apply_405 rfl (lv_at hl 2 rfl) ?_
                              refine lv_lload hx hb dX6_apply_406 (lv_at hl 1 rfl) ?_
                              refine lv_lor hx hb dX6_apply_408 ?_
                              refine lv_topl (fun v7 ev7 => ?_)
                              have h := h v7 ev7
                              refine lv_lstore (lv' := [(7, .long v7), (5, .long v2), (3, .long v1), (0, .ref (ad 4)), (1, .int x1), (2, .int x2)]) hx hb dX6_apply_409 hl (by decide) rfl (fun ls hl => ?_)
                              refine lv_goto (tgt := 414) hx hb dX6_apply_411 (by decide) ?_
                              exact t_X6_apply_414 C0 hK N  x2 v7 σ _ _ _ h hP hD hS (lv_sub hl [3, 5, 0] rfl)
                            · have hn10 := hc10
                              have h := h.2 hc10
                              refine lv_tableOut (tgt := 414) hx hb dX6_apply_160 (by have e0 := zne (k := 0) (by decide) hn0; have e1 := zne (k := 1) (by decide) hn1; have e2 := zne (k := 2) (by decide) hn2; have e3 := zne (k := 3) (by decide) hn3; have e4 := zne (k := 4) (by decide) hn4; have e5 := zne (k := 5) (by decide) hn5; have e6 := zne (k := 6) (by decide) hn6; have e7 := zne (k := 7) (by decide) hn7; have e8 := zne (k := 8) (by decide) hn8; have e9 := zne (k := 9) (by decide) hn9; have e10 := zne (k := 10) (by decide) hn10; omega) (by decide) ?_
                              exact t_X6_apply_414 C0 hK N  x2 (0 : Int64) σ _ _ _ h hP hD hS (lv_sub hl [3, 5, 0] rfl)
      · have h := h.1 hc
        refine lv_aload_n hx hb dX6_apply_117 rfl (lv_at hl 0 rfl) ?_
        refine xg_4_5 hx hb hts hown hK hP mw_97 dX6_apply_118 ?_
        refine lv_iload_n hx hb dX6_apply_121 rfl (lv_at hl 2 rfl) ?_
        refine lv_iconst (v := (1 : Int32)) hx hb dX6_apply_122 (by decide) ?_
        refine lv_isub hx hb dX6_apply_123 ?_
        refine lv_lconst (v := (1 : Int64)) hx hb dX6_apply_124 (by decide) ?_
        refine lv_aload_n hx hb dX6_apply_125 rfl (lv_at hl 0 rfl) ?_
        refine xg_4_5 hx hb hts hown hK hP mw_97 dX6_apply_126 ?_
        refine lv_iload_n hx hb dX6_apply_129 rfl (lv_at hl 2 rfl) ?_
        refine lv_iconst (v := (1 : Int32)) hx hb dX6_apply_130 (by decide) ?_
        refine lv_isub hx hb dX6_apply_131 ?_
        refine xa_31 hx hb hK hP h.1 rfl dX6_apply_132 ?_
        have h := h.2
        refine lv_lsub hx hb dX6_apply_133 ?_
        refine xs_31 hx hb hK hP hD hS h.1 rfl dX6_apply_134 (fun τ8 H locs eτ8 hP hD hS => ?_)
        have h := h.2
        have h := h τ8 eτ8
        refine lv_iload_n hx hb dX6_apply_135 rfl (lv_at hl 2 rfl) ?_
        exact zret_i hx hb hr hlocks hK hP hD hS h dX6_apply_136
    · have h := h.2 hc
      refine lv_iload_n hx hb dX6_apply_109 rfl (lv_at hl 2 rfl) ?_
      exact zret_i hx hb hr hlocks hK hP hD hS h dX6_apply_110
set_option maxHeartbeats 4000000 in
set_option maxRecDepth 100000 in
theorem t_X6_apply_0 (C0 : zCx p s m meth c args RX6 cX6_apply 9 (some .int) vs_X6_apply) (hK : va_K (dC, dI) vwCl (x_ty cI cJ) s) (N : Nat) {Q : Int32 → zSt → Prop} : ∀ (x1 : Int32) (x2 : Int32) (σ : zSt) (H : Heap) (locs : List Loc) (ls : Array Slot), w_X6_apply N x1 x2 σ Q → va_P (dC, dI) vwCl (x_W ad cI cJ σ) H → va_D (zAW x_n ad s.heap.size) (x_W ad cI cJ σ) → va_S (zAW x_n ad s.heap.size) s.heap H locs → lv_has ls 9 [(0, .ref (ad 4)), (1, .int x1), (2, .int x2)] → W p l e rm_X6_apply s m args below meth c H locs 0 0 (MQ below (zQi (dC, dI) (x_ty cI cJ) (x_W ad cI cJ) (zAW x_n ad s.heap.size) Q) args s 0 0 (zAW x_n ad s.heap.size)) (F0 m 0 ls []) := by
  obtain ⟨hx, hb, hml, hr, hown, hts, hlocks⟩ := id C0
  intro x1 x2 σ H locs ls h hP hD hS hl
  unfold w_X6_apply at h
  refine lv_iload_n hx hb dX6_apply_0 rfl (lv_at hl 1 rfl) ?_
  refine lv_bipush (v := (12 : Int32)) hx hb dX6_apply_1 (by decide) ?_
  refine lv_icmp_lt (tgt := 88) hx hb dX6_apply_3 (by decide) (fun hc => ?_) (fun hc => ?_)
  · have h := h.1 hc
    refine lv_iload_n hx hb dX6_apply_88 rfl (lv_at hl 2 rfl) ?_
    refine lv_iload_n hx hb dX6_apply_89 rfl (lv_at hl 1 rfl) ?_
    refine lv_bipush (v := (11 : Int32)) hx hb dX6_apply_90 (by decide) ?_
    refine lv_icmp_ne (tgt := 99) hx hb dX6_apply_92 (by decide) (fun hc => ?_) (fun hc => ?_)
    · have h := h.2 hc
      refine lv_iconst (v := (2 : Int32)) hx hb dX6_apply_99 (by decide) ?_
      exact t_X6_apply_100 C0 hK N  x1 x2 (2 : Int32) x2 σ _ _ _ h hP hD hS (lv_sub hl [0, 1, 2] rfl)
    · have h := h.1 hc
      refine lv_iconst (v := (1 : Int32)) hx hb dX6_apply_95 (by decide) ?_
      refine lv_goto (tgt := 100) hx hb dX6_apply_96 (by decide) ?_
      exact t_X6_apply_100 C0 hK N  x1 x2 (1 : Int32) x2 σ _ _ _ h hP hD hS (lv_sub hl [0, 1, 2] rfl)
  · have h := h.2 hc
    refine lv_iload_n hx hb dX6_apply_6 rfl (lv_at hl 2 rfl) ?_
    refine lv_bipush (v := (64 : Int32)) hx hb dX6_apply_7 (by decide) ?_
    refine lv_icmp_ge (tgt := 84) hx hb dX6_apply_9 (by decide) (fun hc => ?_) (fun hc => ?_)
    · have h := h.1 hc
      refine lv_iload_n hx hb dX6_apply_84 rfl (lv_at hl 2 rfl) ?_
      refine lv_iconst (v := (1 : Int32)) hx hb dX6_apply_85 (by decide) ?_
      refine lv_iadd hx hb dX6_apply_86 ?_
      exact zret_i hx hb hr hlocks hK hP hD hS h dX6_apply_87
    · have h := h.2 hc
      refine lv_aload_n hx hb dX6_apply_12 rfl (lv_at hl 0 rfl) ?_
      refine xg_4_5 hx hb hts hown hK hP mw_97 dX6_apply_13 ?_
      refine lv_iload_n hx hb dX6_apply_16 rfl (lv_at hl 2 rfl) ?_
      refine lv_iload_n hx hb dX6_apply_17 rfl (lv_at hl 1 rfl) ?_
      refine lv_bipush (v := (100 : Int32)) hx hb dX6_apply_18 (by decide) ?_
      refine lv_icmp_lt (tgt := 31) hx hb dX6_apply_20 (by decide) (fun hc => ?_) (fun hc => ?_)
      · have h := h.1 hc
        refine lv_iload_n hx hb dX6_apply_31 rfl (lv_at hl 1 rfl) ?_
        refine lv_bipush (v := (30 : Int32)) hx hb dX6_apply_32 (by decide) ?_
        refine lv_icmp_lt (tgt := 57) hx hb dX6_apply_34 (by decide) (fun hc => ?_) (fun hc => ?_)
        · have h := h.1 hc
          refine lv_iload_n hx hb dX6_apply_57 rfl (lv_at hl 1 rfl) ?_
          refine lv_bipush (v := (20 : Int32)) hx hb dX6_apply_58 (by decide) ?_
          refine lv_icmp_lt (tgt := 82) hx hb dX6_apply_60 (by decide) (fun hc => ?_) (fun hc => ?_)
          · have h := h.1 hc
            refine lv_lconst (v := (1 : Int64)) hx hb dX6_apply_82 (by decide) ?_
            refine xs_31 hx hb hK hP hD hS h.1 rfl dX6_apply_83 (fun τ1 H locs eτ1 hP hD hS => ?_)
            have h := h.2
            have h := h τ1 eτ1
            refine lv_iload_n hx hb dX6_apply_84 rfl (lv_at hl 2 rfl) ?_
            refine lv_iconst (v := (1 : Int32)) hx hb dX6_apply_85 (by decide) ?_
            refine lv_iadd hx hb dX6_apply_86 ?_
            exact zret_i hx hb hr hlocks hK hP hD hS h dX6_apply_87
          · have h := h.2 hc
            refine lv_iload_n hx hb dX6_apply_63 rfl (lv_at hl 1 rfl) ?_
            refine lv_bipush (v := (25 : Int32)) hx hb dX6_apply_64 (by decide) ?_
            refine lv_icmp_ge (tgt := 82) hx hb dX6_apply_66 (by decide) (fun hc => ?_) (fun hc => ?_)
            · have h := h.1 hc
              refine lv_lconst (v := (1 : Int64)) hx hb dX6_apply_82 (by decide) ?_
              refine xs_31 hx hb hK hP hD hS h.1 rfl dX6_apply_83 (fun τ2 H locs eτ2 hP hD hS => ?_)
              have h := h.2
              have h := h τ2 eτ2
              refine lv_iload_n hx hb dX6_apply_84 rfl (lv_at hl 2 rfl) ?_
              refine lv_iconst (v := (1 : Int32)) hx hb dX6_apply_85 (by decide) ?_
              refine lv_iadd hx hb dX6_apply_86 ?_
              exact zret_i hx hb hr hlocks hK hP hD hS h dX6_apply_87
            · have h := h.2 hc
              refine lv_aload_n hx hb dX6_apply_69 rfl (lv_at hl 0 rfl) ?_
              refine xg_4_6 hx hb hts hown hK hP mw_98 dX6_apply_70 ?_
              refine lv_iload_n hx hb dX6_apply_73 rfl (lv_at hl 1 rfl) ?_
              refine lv_bipush (v := (20 : Int32)) hx hb dX6_apply_74 (by decide) ?_
              refine lv_isub hx hb dX6_apply_76 ?_
              refine xa_32 hx hb hK hP h.1 rfl dX6_apply_77 ?_
              have h := h.2
              refine lv_i2l hx hb dX6_apply_78 rfl ?_
              refine lv_goto (tgt := 83) hx hb dX6_apply_79 (by decide) ?_
              refine xs_31 hx hb hK hP hD hS h.1 rfl dX6_apply_83 (fun τ3 H locs eτ3 hP hD hS => ?_)
              have h := h.2
              have h := h τ3 eτ3
              refine lv_iload_n hx hb dX6_apply_84 rfl (lv_at hl 2 rfl) ?_
              refine lv_iconst (v := (1 : Int32)) hx hb dX6_apply_85 (by decide) ?_
              refine lv_iadd hx hb dX6_apply_86 ?_
              exact zret_i hx hb hr hlocks hK hP hD hS h dX6_apply_87
        · have h := h.2 hc
          refine lv_iload_n hx hb dX6_apply_37 rfl (lv_at hl 1 rfl) ?_
          refine lv_bipush (v := (30 : Int32)) hx hb dX6_apply_38 (by decide) ?_
          refine lv_isub hx hb dX6_apply_40 ?_
          refine lv_aload_n hx hb dX6_apply_41 rfl (lv_at hl 0 rfl) ?_
          refine xg_4_9 hx hb hts hown hK hP mw_104 dX6_apply_42 ?_
          refine lv_icmp_ne (tgt := 52) hx hb dX6_apply_45 (by decide) (fun hc => ?_) (fun hc => ?_)
          · have h := h.2 hc
            refine lv_iconst (v := (0 : Int32)) hx hb dX6_apply_52 (by decide) ?_
            refine lv_i2l hx hb dX6_apply_53 rfl ?_
            refine lv_goto (tgt := 83) hx hb dX6_apply_54 (by decide) ?_
            refine xs_31 hx hb hK hP hD hS h.1 rfl dX6_apply_83 (fun τ4 H locs eτ4 hP hD hS => ?_)
            have h := h.2
            have h := h τ4 eτ4
            refine lv_iload_n hx hb dX6_apply_84 rfl (lv_at hl 2 rfl) ?_
            refine lv_iconst (v := (1 : Int32)) hx hb dX6_apply_85 (by decide) ?_
            refine lv_iadd hx hb dX6_apply_86 ?_
            exact zret_i hx hb hr hlocks hK hP hD hS h dX6_apply_87
          · have h := h.1 hc
            refine lv_iconst (v := (1 : Int32)) hx hb dX6_apply_48 (by decide) ?_
            refine lv_goto (tgt := 53) hx hb dX6_apply_49 (by decide) ?_
            refine lv_i2l hx hb dX6_apply_53 rfl ?_
            refine lv_goto (tgt := 83) hx hb dX6_apply_54 (by decide) ?_
            refine xs_31 hx hb hK hP hD hS h.1 rfl dX6_apply_83 (fun τ5 H locs eτ5 hP hD hS => ?_)
            have h := h.2
            have h := h τ5 eτ5
            refine lv_iload_n hx hb dX6_apply_84 rfl (lv_at hl 2 rfl) ?_
            refine lv_iconst (v := (1 : Int32)) hx hb dX6_apply_85 (by decide) ?_
            refine lv_iadd hx hb dX6_apply_86 ?_
            exact zret_i hx hb hr hlocks hK hP hD hS h dX6_apply_87
      · have h := h.2 hc
        refine lv_iload_n hx hb dX6_apply_23 rfl (lv_at hl 1 rfl) ?_
        refine lv_bipush (v := (100 : Int32)) hx hb dX6_apply_24 (by decide) ?_
        refine lv_isub hx hb dX6_apply_26 ?_
        refine lv_i2l hx hb dX6_apply_27 rfl ?_
        refine lv_goto (tgt := 83) hx hb dX6_apply_28 (by decide) ?_
        refine xs_31 hx hb hK hP hD hS h.1 rfl dX6_apply_83 (fun τ6 H locs eτ6 hP hD hS => ?_)
        have h := h.2
        have h := h τ6 eτ6
        refine lv_iload_n hx hb dX6_apply_84 rfl (lv_at hl 2 rfl) ?_
        refine lv_iconst (v := (1 : Int32)) hx hb dX6_apply_85 (by decide) ?_
        refine lv_iadd hx hb dX6_apply_86 ?_
        exact zret_i hx hb hr hlocks hK hP hD hS h dX6_apply_87
set_option maxHeartbeats 4000000 in
set_option maxRecDepth 100000 in
theorem c_X6_apply (N : Nat) (l : Launch) (dC : Nat → ClassId) (dI : Nat → Nat → Nat) (ad : Nat → Nat) (cI cJ : ClassId) (sz : Nat) (σ : zSt) (x1 : Int32) (x2 : Int32) (Q : Int32 → zSt → Prop) (h : w_X6_apply N x1 x2 σ Q) : Met l yX6_apply vs_X6_apply rm_X6_apply (va_Pc [.ref (ad 4), .int x1, .int x2] (zPc (dC, dI) (x_ty cI cJ) (x_W ad cI cJ) sz σ)) (zQi (dC, dI) (x_ty cI cJ) (x_W ad cI cJ) (zAW x_n ad sz) Q) 0 0 (zAW x_n ad sz) := by
  refine Met.ofW (cc := cX6_apply) (maxL := 9) (ret := (some .int)) (by decide) rfl ?_
  intro p e s m args below meth c s₁ B hml hv
  obtain ⟨rfl, hsz, hP, hK, hD0⟩ := hv
  subst hsz
  have C0 : zCx p s m meth c _ RX6 cX6_apply 9 (some .int) vs_X6_apply := ⟨B.exec, B.bytes, hml, B.returns, findClass_of_methodNamed B.named, atoms_spec (ws := vs_X6_apply) B.pre, B.notSynchronized⟩
  have hD := x_D0 (n0 := s.heap.size) hD0
  have hl := lv_entry ([.ref (ad 4), .int x1, .int x2]) (n := 9) (Nat.le_of_ble_eq_true rfl)
  rw [lg_entry_eq]
  generalize (lg_sl ([.ref (ad 4), .int x1, .int x2]) ++ List.replicate (9 - (lg_sl ([.ref (ad 4), .int x1, .int x2])).length) Slot.unset).toArray = ls at hl ⊢
  exact t_X6_apply_0 C0 hK N x1 x2 σ _ _ ls h hP hD va_S.rf hl
theorem k_X6_apply (N : Nat) {R : Room} {H : Heap} {locs : List Loc} {cells slots : Nat} {Q2 : State → Prop} {cc : ByteArray} {nL pc index : Nat} {ls : Array Slot} {rest : List Value} {own : String} {c0 : Cond} {σ : zSt} {x1 : Int32} {x2 : Int32} {Q : Int32 → zSt → Prop} (S0 : CallFix p m c cc nL s args (c0 :: zT) own) (hml : Cond.methodLink own index yX6_apply ∈ zT) (hR : rm_X6_apply.frames + 1 ≤ R.frames ∧ 8 + (9 + 11) + rm_X6_apply.locals ≤ R.locals) (h : w_X6_apply N x1 x2 σ Q) (hK : va_K (dC, dI) vwCl (x_ty cI cJ) s) (hP : va_P (dC, dI) vwCl (x_W ad cI cJ σ) H) (hD : va_D (zAW x_n ad s.heap.size) (x_W ad cI cJ σ)) (hS : va_S (zAW x_n ad s.heap.size) s.heap H locs) (hsz : ls.size = nL) (hW : (rest.map fun v => v.category).sum ≤ 8) (hcs : cells ≤ R.cells ∧ slots ≤ R.slots) (hdg : decode cc pc = .ok (.invokevirtual index, 3)) (kk : ∀ (r : Int32) (τ : zSt) (H1 : Heap) (locs1 : List Loc), Q r τ → va_P (dC, dI) vwCl (x_W ad cI cJ τ) H1 → va_D (zAW x_n ad s.heap.size) (x_W ad cI cJ τ) → va_S (zAW x_n ad s.heap.size) s.heap H1 locs1 → W p l e R s m args below meth c H1 locs1 cells slots Q2 (F0 m (pc + 3) ls (.int r :: rest))) : W p l e R s m args below meth c H locs cells slots Q2 (F0 m pc ls (.int x2 :: .int x1 :: .ref (ad 4) :: rest)) :=
  zcv_i (T := TX6) (N' := 10) (k := 4) (ci := 6) (fs := x_f4 ad σ) [.int x1, .int x2] S0 (c_X6_apply N l dC dI ad cI cJ H.size σ x1 x2 Q h) (cw_X6_apply S0.2.2.2.2 hml rfl rfl hR) rfl rfl hK hP hD hS rfl hsz hW rfl hcs hdg kk
end q06
section q06
def b_X6_firstSum_91 (N : Nat) (k_91 : Int32 → Int32 → Int32 → zSt → Prop) (Q : Int64 → zSt → Prop) (x2 : Int32) (x3 : Int32) (x4 : Int32) (σ : zSt) : Prop :=
  (vp_in x2 20) ∧ (((σ.2.2.1 10 x2.toNatClampNeg) ≤ x4 → Q (σ.2.2.2 3 0) σ) ∧ (¬ (σ.2.2.1 10 x2.toNatClampNeg) ≤ x4 → ((800 : Int32) ≤ x4 → Q (σ.2.2.2 3 0) σ) ∧ (¬ (800 : Int32) ≤ x4 → (vp_in x4 800) ∧ (w_X6_apply N (σ.2.2.1 12 x4.toNatClampNeg) x3 σ (fun r1 τ2 => ∀ v3 : Int32, v3 = x4 + (1 : Int32) → k_91 x2 r1 v3 τ2)))))
def w_X6_firstSum_91 (N : Nat) (Q : Int64 → zSt → Prop) : Nat → Int32 → Int32 → Int32 → zSt → Prop
  | 0 => fun _ _ _ _ => False
  | f + 1 => b_X6_firstSum_91 N (w_X6_firstSum_91 N  Q f) Q
def b_X6_firstSum_70 (N : Nat) (k_2 : Int32 → Int32 → zSt → Prop) (Q : Int64 → zSt → Prop) (x1 : Int32) (x2 : Int32) (σ : zSt) : Prop :=
  ((lg_cmp (σ.2.2.2 3 0) (0 : Int64)) = 0 → ∀ v1 : Int32, v1 = x2 + (1 : Int32) → k_2 x1 v1 σ) ∧ (¬ (lg_cmp (σ.2.2.2 3 0) (0 : Int64)) = 0 → (vp_in x2 20) ∧ (∀ v2 : Int32, v2 = σ.2.2.1 9 x2.toNatClampNeg → w_X6_firstSum_91 N Q N x2 (0 : Int32) v2 σ))
def b_X6_firstSum_30 (N : Nat) (k_2 : Int32 → Int32 → zSt → Prop) (k_30 : Int32 → Int32 → Int32 → Int32 → zSt → Prop) (Q : Int64 → zSt → Prop) (x1 : Int32) (x2 : Int32) (x3 : Int32) (x4 : Int32) (σ : zSt) : Prop :=
  (vp_in x2 20) ∧ (((σ.2.2.1 11 x2.toNatClampNeg) ≤ x4 → b_X6_firstSum_70 N k_2 Q x1 x2 σ) ∧ (¬ (σ.2.2.1 11 x2.toNatClampNeg) ≤ x4 → ((800 : Int32) ≤ x4 → b_X6_firstSum_70 N k_2 Q x1 x2 σ) ∧ (¬ (800 : Int32) ≤ x4 → (vp_in x4 800) ∧ (w_X6_apply N (σ.2.2.1 12 x4.toNatClampNeg) x3 σ (fun r1 τ2 => ∀ v3 : Int32, v3 = x4 + (1 : Int32) → k_30 x1 x2 r1 v3 τ2)))))
def w_X6_firstSum_30 (N : Nat) (k_2 : Int32 → Int32 → zSt → Prop) (Q : Int64 → zSt → Prop) : Nat → Int32 → Int32 → Int32 → Int32 → zSt → Prop
  | 0 => fun _ _ _ _ _ => False
  | f + 1 => b_X6_firstSum_30 N k_2 (w_X6_firstSum_30 N k_2 Q f) Q
def b_X6_firstSum_2 (N : Nat) (k_2 : Int32 → Int32 → zSt → Prop) (Q : Int64 → zSt → Prop) (x1 : Int32) (x2 : Int32) (σ : zSt) : Prop :=
  ((σ.1 4) ≤ x2 → Q (0 : Int64) σ) ∧ (¬ (σ.1 4) ≤ x2 → (vp_in x2 20) ∧ (((σ.2.2.1 8 x2.toNatClampNeg) = x1 → (vp_in x2 20) ∧ (∀ v2 : Int32, v2 = σ.2.2.1 10 x2.toNatClampNeg → w_X6_firstSum_30 N k_2 Q N x1 x2 (0 : Int32) v2 σ)) ∧ (¬ (σ.2.2.1 8 x2.toNatClampNeg) = x1 → ∀ v1 : Int32, v1 = x2 + (1 : Int32) → k_2 x1 v1 σ)))
def w_X6_firstSum_2 (N : Nat) (Q : Int64 → zSt → Prop) : Nat → Int32 → Int32 → zSt → Prop
  | 0 => fun _ _ _ => False
  | f + 1 => b_X6_firstSum_2 N (w_X6_firstSum_2 N  Q f) Q
def w_X6_firstSum (N : Nat) (x1 : Int32) (σ : zSt) (Q : Int64 → zSt → Prop) : Prop :=
  w_X6_firstSum_2 N Q N x1 (0 : Int32) σ
variable {p : Program} {l : Launch} {e : Env} {s : State} {m : MethodId} {args : Array Value} {below : List Frame} {meth : Method} {c : Code} {dC : Nat → ClassId} {dI : Nat → Nat → Nat} {ad : Nat → Nat} {cI cJ : ClassId}
set_option maxHeartbeats 4000000 in
set_option maxRecDepth 100000 in
theorem tb_X6_firstSum_91 (C0 : zCx p s m meth c args RX6 cX6_firstSum 5 (some .long) vs_X6_firstSum) (hK : va_K (dC, dI) vwCl (x_ty cI cJ) s) (N : Nat) {Q : Int64 → zSt → Prop} {k_91 : Int32 → Int32 → Int32 → zSt → Prop} (hk_91 : ∀ (x2 : Int32) (x3 : Int32) (x4 : Int32) (σ : zSt) (H : Heap) (locs : List Loc) (ls : Array Slot), k_91 x2 x3 x4 σ → va_P (dC, dI) vwCl (x_W ad cI cJ σ) H → va_D (zAW x_n ad s.heap.size) (x_W ad cI cJ σ) → va_S (zAW x_n ad s.heap.size) s.heap H locs → lv_has ls 5 [(0, .ref (ad 4)), (2, .int x2), (3, .int x3), (4, .int x4)] → W p l e rm_X6_firstSum s m args below meth c H locs 0 0 (MQ below (zQl (dC, dI) (x_ty cI cJ) (x_W ad cI cJ) (zAW x_n ad s.heap.size) Q) args s 0 0 (zAW x_n ad s.heap.size)) (F0 m 91 ls [])) : ∀ (x2 : Int32) (x3 : Int32) (x4 : Int32) (σ : zSt) (H : Heap) (locs : List Loc) (ls : Array Slot), b_X6_firstSum_91 N k_91 Q x2 x3 x4 σ → va_P (dC, dI) vwCl (x_W ad cI cJ σ) H → va_D (zAW x_n ad s.heap.size) (x_W ad cI cJ σ) → va_S (zAW x_n ad s.heap.size) s.heap H locs → lv_has ls 5 [(0, .ref (ad 4)), (2, .int x2), (3, .int x3), (4, .int x4)] → W p l e rm_X6_firstSum s m args below meth c H locs 0 0 (MQ below (zQl (dC, dI) (x_ty cI cJ) (x_W ad cI cJ) (zAW x_n ad s.heap.size) Q) args s 0 0 (zAW x_n ad s.heap.size)) (F0 m 91 ls []) := by
  obtain ⟨hx, hb, hml, hr, hown, hts, hlocks⟩ := id C0
  intro x2 x3 x4 σ H locs ls h hP hD hS hl
  unfold b_X6_firstSum_91 at h
  refine lv_iload hx hb dX6_firstSum_91 (lv_at hl 3 rfl) ?_
  refine lv_aload_n hx hb dX6_firstSum_93 rfl (lv_at hl 0 rfl) ?_
  refine xg_4_2 hx hb hts hown hK hP mw_94 dX6_firstSum_94 ?_
  refine lv_iload_n hx hb dX6_firstSum_97 rfl (lv_at hl 1 rfl) ?_
  refine xa_28 hx hb hK hP h.1 rfl dX6_firstSum_98 ?_
  have h := h.2
  refine lv_icmp_ge (tgt := 131) hx hb dX6_firstSum_99 (by decide) (fun hc => ?_) (fun hc => ?_)
  · have h := h.1 hc
    refine lv_aload_n hx hb dX6_firstSum_131 rfl (lv_at hl 0 rfl) ?_
    refine xg_4_5 hx hb hts hown hK hP mw_97 dX6_firstSum_132 ?_
    refine lv_iconst (v := (0 : Int32)) hx hb dX6_firstSum_135 (by decide) ?_
    refine xa_31 (j := 0) hx hb hK hP (zin (by decide)) (by decide) dX6_firstSum_136 ?_
    exact zret_l hx hb hr hlocks hK hP hD hS h dX6_firstSum_137
  · have h := h.2 hc
    refine lv_iload hx hb dX6_firstSum_102 (lv_at hl 3 rfl) ?_
    refine lv_aload_n hx hb dX6_firstSum_104 rfl (lv_at hl 0 rfl) ?_
    refine xg_4_4 hx hb hts hown hK hP mw_96 dX6_firstSum_105 ?_
    refine xl_30 hx hb hK hP dX6_firstSum_108 ?_
    refine lv_icmp_ge (tgt := 131) hx hb dX6_firstSum_109 (by decide) (fun hc => ?_) (fun hc => ?_)
    · have h := h.1 hc
      refine lv_aload_n hx hb dX6_firstSum_131 rfl (lv_at hl 0 rfl) ?_
      refine xg_4_5 hx hb hts hown hK hP mw_97 dX6_firstSum_132 ?_
      refine lv_iconst (v := (0 : Int32)) hx hb dX6_firstSum_135 (by decide) ?_
      refine xa_31 (j := 0) hx hb hK hP (zin (by decide)) (by decide) dX6_firstSum_136 ?_
      exact zret_l hx hb hr hlocks hK hP hD hS h dX6_firstSum_137
    · have h := h.2 hc
      refine lv_aload_n hx hb dX6_firstSum_112 rfl (lv_at hl 0 rfl) ?_
      refine lv_aload_n hx hb dX6_firstSum_113 rfl (lv_at hl 0 rfl) ?_
      refine xg_4_4 hx hb hts hown hK hP mw_96 dX6_firstSum_114 ?_
      refine lv_iload hx hb dX6_firstSum_117 (lv_at hl 3 rfl) ?_
      refine xa_30 hx hb hK hP h.1 rfl dX6_firstSum_119 ?_
      have h := h.2
      refine lv_iload_n hx hb dX6_firstSum_120 rfl (lv_at hl 2 rfl) ?_
      refine k_X6_apply N ⟨hx, hb, hml, hown, hts⟩ mw_575 ⟨Nat.le_of_ble_eq_true rfl, Nat.le_of_ble_eq_true rfl⟩ h hK hP hD hS hl.1 (rest := []) (Nat.le_of_ble_eq_true rfl) ⟨Nat.le_of_ble_eq_true rfl, Nat.le_of_ble_eq_true rfl⟩ dX6_firstSum_121 (fun r1 τ2 H locs h hP hD hS => ?_)
      refine lv_istore_n (lv' := [(3, .int r1), (0, .ref (ad 4)), (2, .int x2), (4, .int x4)]) hx hb dX6_firstSum_124 rfl hl (by decide) rfl (fun ls hl => ?_)
      obtain ⟨v3, ev3⟩ : ∃ z : Int32, z = x4 + (1 : Int32) := ⟨_, rfl⟩
      have h := h v3 ev3
      refine lv_iinc (v := v3) (lv' := [(4, .int v3), (3, .int r1), (0, .ref (ad 4)), (2, .int x2)]) hx hb dX6_firstSum_125 hl (k := 3) rfl (by rw [ev3]; rfl) (by decide) rfl (fun ls hl => ?_)
      refine lv_goto (tgt := 91) hx hb dX6_firstSum_128 (by decide) ?_
      exact hk_91 x2 r1 v3 τ2 _ _ _ h hP hD hS (lv_sub hl [2, 3, 1, 0] rfl)
set_option maxHeartbeats 4000000 in
set_option maxRecDepth 100000 in
theorem t_X6_firstSum_91 (C0 : zCx p s m meth c args RX6 cX6_firstSum 5 (some .long) vs_X6_firstSum) (hK : va_K (dC, dI) vwCl (x_ty cI cJ) s) (N : Nat) {Q : Int64 → zSt → Prop} : ∀ (f : Nat) (x2 : Int32) (x3 : Int32) (x4 : Int32) (σ : zSt) (H : Heap) (locs : List Loc) (ls : Array Slot), w_X6_firstSum_91 N  Q f x2 x3 x4 σ → va_P (dC, dI) vwCl (x_W ad cI cJ σ) H → va_D (zAW x_n ad s.heap.size) (x_W ad cI cJ σ) → va_S (zAW x_n ad s.heap.size) s.heap H locs → lv_has ls 5 [(0, .ref (ad 4)), (2, .int x2), (3, .int x3), (4, .int x4)] → W p l e rm_X6_firstSum s m args below meth c H locs 0 0 (MQ below (zQl (dC, dI) (x_ty cI cJ) (x_W ad cI cJ) (zAW x_n ad s.heap.size) Q) args s 0 0 (zAW x_n ad s.heap.size)) (F0 m 91 ls []) := by
  intro f
  induction f with
  | zero => intro x2 x3 x4 σ H locs ls h; exact h.elim
  | succ f ih =>
    intro x2 x3 x4 σ H locs ls h hP hD hS hl
    exact tb_X6_firstSum_91 C0 hK N  (k_91 := w_X6_firstSum_91 N  Q f) ih x2 x3 x4 σ H locs ls h hP hD hS hl
set_option maxHeartbeats 4000000 in
set_option maxRecDepth 100000 in
theorem t_X6_firstSum_70 (C0 : zCx p s m meth c args RX6 cX6_firstSum 5 (some .long) vs_X6_firstSum) (hK : va_K (dC, dI) vwCl (x_ty cI cJ) s) (N : Nat) {Q : Int64 → zSt → Prop} {k_2 : Int32 → Int32 → zSt → Prop} (hk_2 : ∀ (x1 : Int32) (x2 : Int32) (σ : zSt) (H : Heap) (locs : List Loc) (ls : Array Slot), k_2 x1 x2 σ → va_P (dC, dI) vwCl (x_W ad cI cJ σ) H → va_D (zAW x_n ad s.heap.size) (x_W ad cI cJ σ) → va_S (zAW x_n ad s.heap.size) s.heap H locs → lv_has ls 5 [(0, .ref (ad 4)), (1, .int x1), (2, .int x2)] → W p l e rm_X6_firstSum s m args below meth c H locs 0 0 (MQ below (zQl (dC, dI) (x_ty cI cJ) (x_W ad cI cJ) (zAW x_n ad s.heap.size) Q) args s 0 0 (zAW x_n ad s.heap.size)) (F0 m 2 ls [])) : ∀ (x1 : Int32) (x2 : Int32) (σ : zSt) (H : Heap) (locs : List Loc) (ls : Array Slot), b_X6_firstSum_70 N k_2 Q x1 x2 σ → va_P (dC, dI) vwCl (x_W ad cI cJ σ) H → va_D (zAW x_n ad s.heap.size) (x_W ad cI cJ σ) → va_S (zAW x_n ad s.heap.size) s.heap H locs → lv_has ls 5 [(0, .ref (ad 4)), (1, .int x1), (2, .int x2)] → W p l e rm_X6_firstSum s m args below meth c H locs 0 0 (MQ below (zQl (dC, dI) (x_ty cI cJ) (x_W ad cI cJ) (zAW x_n ad s.heap.size) Q) args s 0 0 (zAW x_n ad s.heap.size)) (F0 m 70 ls []) := by
  obtain ⟨hx, hb, hml, hr, hown, hts, hlocks⟩ := id C0
  intro x1 x2 σ H locs ls h hP hD hS hl
  unfold b_X6_firstSum_70 at h
  refine lv_aload_n hx hb dX6_firstSum_70 rfl (lv_at hl 0 rfl) ?_
  refine xg_4_5 hx hb hts hown hK hP mw_97 dX6_firstSum_71 ?_
  refine lv_iconst (v := (0 : Int32)) hx hb dX6_firstSum_74 (by decide) ?_
  refine xa_31 (j := 0) hx hb hK hP (zin (by decide)) (by decide) dX6_firstSum_75 ?_
  refine lv_lconst (v := (0 : Int64)) hx hb dX6_firstSum_76 (by decide) ?_
  refine W.lcmp hx hb dX6_firstSum_77 ?_
  refine lv_if_eq (tgt := 138) hx hb dX6_firstSum_78 (by decide) (fun hc => ?_) (fun hc => ?_)
  · have h := h.1 hc
    obtain ⟨v1, ev1⟩ : ∃ z : Int32, z = x2 + (1 : Int32) := ⟨_, rfl⟩
    have h := h v1 ev1
    refine lv_iinc (v := v1) (lv' := [(2, .int v1), (0, .ref (ad 4)), (1, .int x1)]) hx hb dX6_firstSum_138 hl (k := 2) rfl (by rw [ev1]; rfl) (by decide) rfl (fun ls hl => ?_)
    refine lv_goto (tgt := 2) hx hb dX6_firstSum_141 (by decide) ?_
    exact hk_2 x1 v1 σ _ _ _ h hP hD hS (lv_sub hl [1, 2, 0] rfl)
  · have h := h.2 hc
    refine lv_iconst (v := (0 : Int32)) hx hb dX6_firstSum_81 (by decide) ?_
    refine lv_istore_n (lv' := [(3, .int (0 : Int32)), (0, .ref (ad 4)), (1, .int x1), (2, .int x2)]) hx hb dX6_firstSum_82 rfl hl (by decide) rfl (fun ls hl => ?_)
    refine lv_aload_n hx hb dX6_firstSum_83 rfl (lv_at hl 1 rfl) ?_
    refine xg_4_1 hx hb hts hown hK hP mw_93 dX6_firstSum_84 ?_
    refine lv_iload_n hx hb dX6_firstSum_87 rfl (lv_at hl 3 rfl) ?_
    refine xa_27 hx hb hK hP h.1 rfl dX6_firstSum_88 ?_
    have h := h.2
    refine lv_topi (fun v2 ev2 => ?_)
    have h := h v2 ev2
    refine lv_istore (lv' := [(4, .int v2), (3, .int (0 : Int32)), (0, .ref (ad 4)), (1, .int x1), (2, .int x2)]) hx hb dX6_firstSum_89 hl (by decide) rfl (fun ls hl => ?_)
    exact t_X6_firstSum_91 C0 hK N  N x2 (0 : Int32) v2 σ _ _ _ h hP hD hS (lv_sub hl [2, 4, 1, 0] rfl)
set_option maxHeartbeats 4000000 in
set_option maxRecDepth 100000 in
theorem tb_X6_firstSum_30 (C0 : zCx p s m meth c args RX6 cX6_firstSum 5 (some .long) vs_X6_firstSum) (hK : va_K (dC, dI) vwCl (x_ty cI cJ) s) (N : Nat) {Q : Int64 → zSt → Prop} {k_2 : Int32 → Int32 → zSt → Prop} (hk_2 : ∀ (x1 : Int32) (x2 : Int32) (σ : zSt) (H : Heap) (locs : List Loc) (ls : Array Slot), k_2 x1 x2 σ → va_P (dC, dI) vwCl (x_W ad cI cJ σ) H → va_D (zAW x_n ad s.heap.size) (x_W ad cI cJ σ) → va_S (zAW x_n ad s.heap.size) s.heap H locs → lv_has ls 5 [(0, .ref (ad 4)), (1, .int x1), (2, .int x2)] → W p l e rm_X6_firstSum s m args below meth c H locs 0 0 (MQ below (zQl (dC, dI) (x_ty cI cJ) (x_W ad cI cJ) (zAW x_n ad s.heap.size) Q) args s 0 0 (zAW x_n ad s.heap.size)) (F0 m 2 ls [])) {k_30 : Int32 → Int32 → Int32 → Int32 → zSt → Prop} (hk_30 : ∀ (x1 : Int32) (x2 : Int32) (x3 : Int32) (x4 : Int32) (σ : zSt) (H : Heap) (locs : List Loc) (ls : Array Slot), k_30 x1 x2 x3 x4 σ → va_P (dC, dI) vwCl (x_W ad cI cJ σ) H → va_D (zAW x_n ad s.heap.size) (x_W ad cI cJ σ) → va_S (zAW x_n ad s.heap.size) s.heap H locs → lv_has ls 5 [(0, .ref (ad 4)), (1, .int x1), (2, .int x2), (3, .int x3), (4, .int x4)] → W p l e rm_X6_firstSum s m args below meth c H locs 0 0 (MQ below (zQl (dC, dI) (x_ty cI cJ) (x_W ad cI cJ) (zAW x_n ad s.heap.size) Q) args s 0 0 (zAW x_n ad s.heap.size)) (F0 m 30 ls [])) : ∀ (x1 : Int32) (x2 : Int32) (x3 : Int32) (x4 : Int32) (σ : zSt) (H : Heap) (locs : List Loc) (ls : Array Slot), b_X6_firstSum_30 N k_2 k_30 Q x1 x2 x3 x4 σ → va_P (dC, dI) vwCl (x_W ad cI cJ σ) H → va_D (zAW x_n ad s.heap.size) (x_W ad cI cJ σ) → va_S (zAW x_n ad s.heap.size) s.heap H locs → lv_has ls 5 [(0, .ref (ad 4)), (1, .int x1), (2, .int x2), (3, .int x3), (4, .int x4)] → W p l e rm_X6_firstSum s m args below meth c H locs 0 0 (MQ below (zQl (dC, dI) (x_ty cI cJ) (x_W ad cI cJ) (zAW x_n ad s.heap.size) Q) args s 0 0 (zAW x_n ad s.heap.size)) (F0 m 30 ls []) := by
  obtain ⟨hx, hb, hml, hr, hown, hts, hlocks⟩ := id C0
  intro x1 x2 x3 x4 σ H locs ls h hP hD hS hl
  unfold b_X6_firstSum_30 at h
  refine lv_iload hx hb dX6_firstSum_30 (lv_at hl 4 rfl) ?_
  refine lv_aload_n hx hb dX6_firstSum_32 rfl (lv_at hl 0 rfl) ?_
  refine xg_4_3 hx hb hts hown hK hP mw_95 dX6_firstSum_33 ?_
  refine lv_iload_n hx hb dX6_firstSum_36 rfl (lv_at hl 2 rfl) ?_
  refine xa_29 hx hb hK hP h.1 rfl dX6_firstSum_37 ?_
  have h := h.2
  refine lv_icmp_ge (tgt := 70) hx hb dX6_firstSum_38 (by decide) (fun hc => ?_) (fun hc => ?_)
  · have h := h.1 hc
    exact t_X6_firstSum_70 C0 hK N hk_2 x1 x2 σ _ _ _ h hP hD hS (lv_sub hl [0, 1, 2] rfl)
  · have h := h.2 hc
    refine lv_iload hx hb dX6_firstSum_41 (lv_at hl 4 rfl) ?_
    refine lv_aload_n hx hb dX6_firstSum_43 rfl (lv_at hl 0 rfl) ?_
    refine xg_4_4 hx hb hts hown hK hP mw_96 dX6_firstSum_44 ?_
    refine xl_30 hx hb hK hP dX6_firstSum_47 ?_
    refine lv_icmp_ge (tgt := 70) hx hb dX6_firstSum_48 (by decide) (fun hc => ?_) (fun hc => ?_)
    · have h := h.1 hc
      exact t_X6_firstSum_70 C0 hK N hk_2 x1 x2 σ _ _ _ h hP hD hS (lv_sub hl [0, 1, 2] rfl)
    · have h := h.2 hc
      refine lv_aload_n hx hb dX6_firstSum_51 rfl (lv_at hl 0 rfl) ?_
      refine lv_aload_n hx hb dX6_firstSum_52 rfl (lv_at hl 0 rfl) ?_
      refine xg_4_4 hx hb hts hown hK hP mw_96 dX6_firstSum_53 ?_
      refine lv_iload hx hb dX6_firstSum_56 (lv_at hl 4 rfl) ?_
      refine xa_30 hx hb hK hP h.1 rfl dX6_firstSum_58 ?_
      have h := h.2
      refine lv_iload_n hx hb dX6_firstSum_59 rfl (lv_at hl 3 rfl) ?_
      refine k_X6_apply N ⟨hx, hb, hml, hown, hts⟩ mw_575 ⟨Nat.le_of_ble_eq_true rfl, Nat.le_of_ble_eq_true rfl⟩ h hK hP hD hS hl.1 (rest := []) (Nat.le_of_ble_eq_true rfl) ⟨Nat.le_of_ble_eq_true rfl, Nat.le_of_ble_eq_true rfl⟩ dX6_firstSum_60 (fun r1 τ2 H locs h hP hD hS => ?_)
      refine lv_istore_n (lv' := [(3, .int r1), (0, .ref (ad 4)), (1, .int x1), (2, .int x2), (4, .int x4)]) hx hb dX6_firstSum_63 rfl hl (by decide) rfl (fun ls hl => ?_)
      obtain ⟨v3, ev3⟩ : ∃ z : Int32, z = x4 + (1 : Int32) := ⟨_, rfl⟩
      have h := h v3 ev3
      refine lv_iinc (v := v3) (lv' := [(4, .int v3), (3, .int r1), (0, .ref (ad 4)), (1, .int x1), (2, .int x2)]) hx hb dX6_firstSum_64 hl (k := 4) rfl (by rw [ev3]; rfl) (by decide) rfl (fun ls hl => ?_)
      refine lv_goto (tgt := 30) hx hb dX6_firstSum_67 (by decide) ?_
      exact hk_30 x1 x2 r1 v3 τ2 _ _ _ h hP hD hS (lv_sub hl [2, 3, 4, 1, 0] rfl)
set_option maxHeartbeats 4000000 in
set_option maxRecDepth 100000 in
theorem t_X6_firstSum_30 (C0 : zCx p s m meth c args RX6 cX6_firstSum 5 (some .long) vs_X6_firstSum) (hK : va_K (dC, dI) vwCl (x_ty cI cJ) s) (N : Nat) {Q : Int64 → zSt → Prop} {k_2 : Int32 → Int32 → zSt → Prop} (hk_2 : ∀ (x1 : Int32) (x2 : Int32) (σ : zSt) (H : Heap) (locs : List Loc) (ls : Array Slot), k_2 x1 x2 σ → va_P (dC, dI) vwCl (x_W ad cI cJ σ) H → va_D (zAW x_n ad s.heap.size) (x_W ad cI cJ σ) → va_S (zAW x_n ad s.heap.size) s.heap H locs → lv_has ls 5 [(0, .ref (ad 4)), (1, .int x1), (2, .int x2)] → W p l e rm_X6_firstSum s m args below meth c H locs 0 0 (MQ below (zQl (dC, dI) (x_ty cI cJ) (x_W ad cI cJ) (zAW x_n ad s.heap.size) Q) args s 0 0 (zAW x_n ad s.heap.size)) (F0 m 2 ls [])) : ∀ (f : Nat) (x1 : Int32) (x2 : Int32) (x3 : Int32) (x4 : Int32) (σ : zSt) (H : Heap) (locs : List Loc) (ls : Array Slot), w_X6_firstSum_30 N k_2 Q f x1 x2 x3 x4 σ → va_P (dC, dI) vwCl (x_W ad cI cJ σ) H → va_D (zAW x_n ad s.heap.size) (x_W ad cI cJ σ) → va_S (zAW x_n ad s.heap.size) s.heap H locs → lv_has ls 5 [(0, .ref (ad 4)), (1, .int x1), (2, .int x2), (3, .int x3), (4, .int x4)] → W p l e rm_X6_firstSum s m args below meth c H locs 0 0 (MQ below (zQl (dC, dI) (x_ty cI cJ) (x_W ad cI cJ) (zAW x_n ad s.heap.size) Q) args s 0 0 (zAW x_n ad s.heap.size)) (F0 m 30 ls []) := by
  intro f
  induction f with
  | zero => intro x1 x2 x3 x4 σ H locs ls h; exact h.elim
  | succ f ih =>
    intro x1 x2 x3 x4 σ H locs ls h hP hD hS hl
    exact tb_X6_firstSum_30 C0 hK N hk_2 (k_30 := w_X6_firstSum_30 N k_2 Q f) ih x1 x2 x3 x4 σ H locs ls h hP hD hS hl
set_option maxHeartbeats 4000000 in
set_option maxRecDepth 100000 in
theorem tb_X6_firstSum_2 (C0 : zCx p s m meth c args RX6 cX6_firstSum 5 (some .long) vs_X6_firstSum) (hK : va_K (dC, dI) vwCl (x_ty cI cJ) s) (N : Nat) {Q : Int64 → zSt → Prop} {k_2 : Int32 → Int32 → zSt → Prop} (hk_2 : ∀ (x1 : Int32) (x2 : Int32) (σ : zSt) (H : Heap) (locs : List Loc) (ls : Array Slot), k_2 x1 x2 σ → va_P (dC, dI) vwCl (x_W ad cI cJ σ) H → va_D (zAW x_n ad s.heap.size) (x_W ad cI cJ σ) → va_S (zAW x_n ad s.heap.size) s.heap H locs → lv_has ls 5 [(0, .ref (ad 4)), (1, .int x1), (2, .int x2)] → W p l e rm_X6_firstSum s m args below meth c H locs 0 0 (MQ below (zQl (dC, dI) (x_ty cI cJ) (x_W ad cI cJ) (zAW x_n ad s.heap.size) Q) args s 0 0 (zAW x_n ad s.heap.size)) (F0 m 2 ls [])) : ∀ (x1 : Int32) (x2 : Int32) (σ : zSt) (H : Heap) (locs : List Loc) (ls : Array Slot), b_X6_firstSum_2 N k_2 Q x1 x2 σ → va_P (dC, dI) vwCl (x_W ad cI cJ σ) H → va_D (zAW x_n ad s.heap.size) (x_W ad cI cJ σ) → va_S (zAW x_n ad s.heap.size) s.heap H locs → lv_has ls 5 [(0, .ref (ad 4)), (1, .int x1), (2, .int x2)] → W p l e rm_X6_firstSum s m args below meth c H locs 0 0 (MQ below (zQl (dC, dI) (x_ty cI cJ) (x_W ad cI cJ) (zAW x_n ad s.heap.size) Q) args s 0 0 (zAW x_n ad s.heap.size)) (F0 m 2 ls []) := by
  obtain ⟨hx, hb, hml, hr, hown, hts, hlocks⟩ := id C0
  intro x1 x2 σ H locs ls h hP hD hS hl
  unfold b_X6_firstSum_2 at h
  refine lv_iload_n hx hb dX6_firstSum_2 rfl (lv_at hl 2 rfl) ?_
  refine lv_aload_n hx hb dX6_firstSum_3 rfl (lv_at hl 0 rfl) ?_
  refine xg_4_7 hx hb hts hown hK hP mw_100 dX6_firstSum_4 ?_
  refine lv_icmp_ge (tgt := 144) hx hb dX6_firstSum_7 (by decide) (fun hc => ?_) (fun hc => ?_)
  · have h := h.1 hc
    refine lv_lconst (v := (0 : Int64)) hx hb dX6_firstSum_144 (by decide) ?_
    exact zret_l hx hb hr hlocks hK hP hD hS h dX6_firstSum_145
  · have h := h.2 hc
    refine lv_aload_n hx hb dX6_firstSum_10 rfl (lv_at hl 0 rfl) ?_
    refine xg_4_0 hx hb hts hown hK hP mw_92 dX6_firstSum_11 ?_
    refine lv_iload_n hx hb dX6_firstSum_14 rfl (lv_at hl 2 rfl) ?_
    refine xa_26 hx hb hK hP h.1 rfl dX6_firstSum_15 ?_
    have h := h.2
    refine lv_iload_n hx hb dX6_firstSum_16 rfl (lv_at hl 1 rfl) ?_
    refine lv_icmp_ne (tgt := 138) hx hb dX6_firstSum_17 (by decide) (fun hc => ?_) (fun hc => ?_)
    · have h := h.2 hc
      obtain ⟨v1, ev1⟩ : ∃ z : Int32, z = x2 + (1 : Int32) := ⟨_, rfl⟩
      have h := h v1 ev1
      refine lv_iinc (v := v1) (lv' := [(2, .int v1), (0, .ref (ad 4)), (1, .int x1)]) hx hb dX6_firstSum_138 hl (k := 2) rfl (by rw [ev1]; rfl) (by decide) rfl (fun ls hl => ?_)
      refine lv_goto (tgt := 2) hx hb dX6_firstSum_141 (by decide) ?_
      exact hk_2 x1 v1 σ _ _ _ h hP hD hS (lv_sub hl [1, 2, 0] rfl)
    · have h := h.1 hc
      refine lv_iconst (v := (0 : Int32)) hx hb dX6_firstSum_20 (by decide) ?_
      refine lv_istore_n (lv' := [(3, .int (0 : Int32)), (0, .ref (ad 4)), (1, .int x1), (2, .int x2)]) hx hb dX6_firstSum_21 rfl hl (by decide) rfl (fun ls hl => ?_)
      refine lv_aload_n hx hb dX6_firstSum_22 rfl (lv_at hl 1 rfl) ?_
      refine xg_4_2 hx hb hts hown hK hP mw_94 dX6_firstSum_23 ?_
      refine lv_iload_n hx hb dX6_firstSum_26 rfl (lv_at hl 3 rfl) ?_
      refine xa_28 hx hb hK hP h.1 rfl dX6_firstSum_27 ?_
      have h := h.2
      refine lv_topi (fun v2 ev2 => ?_)
      have h := h v2 ev2
      refine lv_istore (lv' := [(4, .int v2), (3, .int (0 : Int32)), (0, .ref (ad 4)), (1, .int x1), (2, .int x2)]) hx hb dX6_firstSum_28 hl (by decide) rfl (fun ls hl => ?_)
      exact t_X6_firstSum_30 C0 hK N hk_2 N x1 x2 (0 : Int32) v2 σ _ _ _ h hP hD hS (lv_sub hl [2, 3, 4, 1, 0] rfl)
set_option maxHeartbeats 4000000 in
set_option maxRecDepth 100000 in
theorem t_X6_firstSum_2 (C0 : zCx p s m meth c args RX6 cX6_firstSum 5 (some .long) vs_X6_firstSum) (hK : va_K (dC, dI) vwCl (x_ty cI cJ) s) (N : Nat) {Q : Int64 → zSt → Prop} : ∀ (f : Nat) (x1 : Int32) (x2 : Int32) (σ : zSt) (H : Heap) (locs : List Loc) (ls : Array Slot), w_X6_firstSum_2 N  Q f x1 x2 σ → va_P (dC, dI) vwCl (x_W ad cI cJ σ) H → va_D (zAW x_n ad s.heap.size) (x_W ad cI cJ σ) → va_S (zAW x_n ad s.heap.size) s.heap H locs → lv_has ls 5 [(0, .ref (ad 4)), (1, .int x1), (2, .int x2)] → W p l e rm_X6_firstSum s m args below meth c H locs 0 0 (MQ below (zQl (dC, dI) (x_ty cI cJ) (x_W ad cI cJ) (zAW x_n ad s.heap.size) Q) args s 0 0 (zAW x_n ad s.heap.size)) (F0 m 2 ls []) := by
  intro f
  induction f with
  | zero => intro x1 x2 σ H locs ls h; exact h.elim
  | succ f ih =>
    intro x1 x2 σ H locs ls h hP hD hS hl
    exact tb_X6_firstSum_2 C0 hK N  (k_2 := w_X6_firstSum_2 N  Q f) ih x1 x2 σ H locs ls h hP hD hS hl
set_option maxHeartbeats 4000000 in
set_option maxRecDepth 100000 in
theorem t_X6_firstSum_0 (C0 : zCx p s m meth c args RX6 cX6_firstSum 5 (some .long) vs_X6_firstSum) (hK : va_K (dC, dI) vwCl (x_ty cI cJ) s) (N : Nat) {Q : Int64 → zSt → Prop} : ∀ (x1 : Int32) (σ : zSt) (H : Heap) (locs : List Loc) (ls : Array Slot), w_X6_firstSum N x1 σ Q → va_P (dC, dI) vwCl (x_W ad cI cJ σ) H → va_D (zAW x_n ad s.heap.size) (x_W ad cI cJ σ) → va_S (zAW x_n ad s.heap.size) s.heap H locs → lv_has ls 5 [(0, .ref (ad 4)), (1, .int x1)] → W p l e rm_X6_firstSum s m args below meth c H locs 0 0 (MQ below (zQl (dC, dI) (x_ty cI cJ) (x_W ad cI cJ) (zAW x_n ad s.heap.size) Q) args s 0 0 (zAW x_n ad s.heap.size)) (F0 m 0 ls []) := by
  obtain ⟨hx, hb, hml, hr, hown, hts, hlocks⟩ := id C0
  intro x1 σ H locs ls h hP hD hS hl
  unfold w_X6_firstSum at h
  refine lv_iconst (v := (0 : Int32)) hx hb dX6_firstSum_0 (by decide) ?_
  refine lv_istore_n (lv' := [(2, .int (0 : Int32)), (0, .ref (ad 4)), (1, .int x1)]) hx hb dX6_firstSum_1 rfl hl (by decide) rfl (fun ls hl => ?_)
  exact t_X6_firstSum_2 C0 hK N  N x1 (0 : Int32) σ _ _ _ h hP hD hS (lv_sub hl [1, 2, 0] rfl)
set_option maxHeartbeats 4000000 in
set_option maxRecDepth 100000 in
theorem c_X6_firstSum (N : Nat) (l : Launch) (dC : Nat → ClassId) (dI : Nat → Nat → Nat) (ad : Nat → Nat) (cI cJ : ClassId) (sz : Nat) (σ : zSt) (x1 : Int32) (Q : Int64 → zSt → Prop) (h : w_X6_firstSum N x1 σ Q) : Met l yX6_firstSum vs_X6_firstSum rm_X6_firstSum (va_Pc [.ref (ad 4), .int x1] (zPc (dC, dI) (x_ty cI cJ) (x_W ad cI cJ) sz σ)) (zQl (dC, dI) (x_ty cI cJ) (x_W ad cI cJ) (zAW x_n ad sz) Q) 0 0 (zAW x_n ad sz) := by
  refine Met.ofW (cc := cX6_firstSum) (maxL := 5) (ret := (some .long)) (by decide) rfl ?_
  intro p e s m args below meth c s₁ B hml hv
  obtain ⟨rfl, hsz, hP, hK, hD0⟩ := hv
  subst hsz
  have C0 : zCx p s m meth c _ RX6 cX6_firstSum 5 (some .long) vs_X6_firstSum := ⟨B.exec, B.bytes, hml, B.returns, findClass_of_methodNamed B.named, atoms_spec (ws := vs_X6_firstSum) B.pre, B.notSynchronized⟩
  have hD := x_D0 (n0 := s.heap.size) hD0
  have hl := lv_entry ([.ref (ad 4), .int x1]) (n := 5) (Nat.le_of_ble_eq_true rfl)
  rw [lg_entry_eq]
  generalize (lg_sl ([.ref (ad 4), .int x1]) ++ List.replicate (5 - (lg_sl ([.ref (ad 4), .int x1])).length) Slot.unset).toArray = ls at hl ⊢
  exact t_X6_firstSum_0 C0 hK N x1 σ _ _ ls h hP hD va_S.rf hl
theorem k_X6_firstSum (N : Nat) {R : Room} {H : Heap} {locs : List Loc} {cells slots : Nat} {Q2 : State → Prop} {cc : ByteArray} {nL pc index : Nat} {ls : Array Slot} {rest : List Value} {own : String} {c0 : Cond} {σ : zSt} {x1 : Int32} {Q : Int64 → zSt → Prop} (S0 : CallFix p m c cc nL s args (c0 :: zT) own) (hml : Cond.methodLink own index yX6_firstSum ∈ zT) (hR : rm_X6_firstSum.frames + 1 ≤ R.frames ∧ 8 + (5 + 11) + rm_X6_firstSum.locals ≤ R.locals) (h : w_X6_firstSum N x1 σ Q) (hK : va_K (dC, dI) vwCl (x_ty cI cJ) s) (hP : va_P (dC, dI) vwCl (x_W ad cI cJ σ) H) (hD : va_D (zAW x_n ad s.heap.size) (x_W ad cI cJ σ)) (hS : va_S (zAW x_n ad s.heap.size) s.heap H locs) (hsz : ls.size = nL) (hW : (rest.map fun v => v.category).sum ≤ 8) (hcs : cells ≤ R.cells ∧ slots ≤ R.slots) (hdg : decode cc pc = .ok (.invokevirtual index, 3)) (kk : ∀ (r : Int64) (τ : zSt) (H1 : Heap) (locs1 : List Loc), Q r τ → va_P (dC, dI) vwCl (x_W ad cI cJ τ) H1 → va_D (zAW x_n ad s.heap.size) (x_W ad cI cJ τ) → va_S (zAW x_n ad s.heap.size) s.heap H1 locs1 → W p l e R s m args below meth c H1 locs1 cells slots Q2 (F0 m (pc + 3) ls (.long r :: rest))) : W p l e R s m args below meth c H locs cells slots Q2 (F0 m pc ls (.int x1 :: .ref (ad 4) :: rest)) :=
  zcv_l (T := TX6) (N' := 10) (k := 4) (ci := 6) (fs := x_f4 ad σ) [.int x1] S0 (c_X6_firstSum N l dC dI ad cI cJ H.size σ x1 Q h) (cw_X6_firstSum S0.2.2.2.2 hml rfl rfl hR) rfl rfl hK hP hD hS rfl hsz hW rfl hcs hdg kk
end q06
section q06
def b_X10_reckon_55 (N : Nat) (k_55 : Int32 → Int64 → Int32 → zSt → Prop) (Q : Int64 → zSt → Prop) (x3 : Int32) (x4 : Int64) (x6 : Int32) (σ : zSt) : Prop :=
  ((σ.1 1) ≤ x6 → Q x4 σ) ∧ (¬ (σ.1 1) ≤ x6 → (vp_in x6 10) ∧ (((σ.2.2.1 29 x6.toNatClampNeg) ≤ 0 → ∀ v1 : Int32, v1 = x6 + (1 : Int32) → k_55 x3 x4 v1 σ) ∧ (¬ (σ.2.2.1 29 x6.toNatClampNeg) ≤ 0 → (vp_in x6 10) ∧ (∀ τ2 : zSt, τ2 = zA σ 13 (upd (σ.2.2.1 13) 0 (σ.2.2.1 29 x6.toNatClampNeg)) → (vp_in x3 10) ∧ ((vp_in x6 10) ∧ (∀ τ3 : zSt, τ3 = zA τ2 13 (upd (τ2.2.2.1 13) 1 (if 0 ≤ ((τ2.2.2.1 6 x3.toNatClampNeg) - (τ2.2.2.1 6 x6.toNatClampNeg)) then ((τ2.2.2.1 6 x3.toNatClampNeg) - (τ2.2.2.1 6 x6.toNatClampNeg)) else 0 - ((τ2.2.2.1 6 x3.toNatClampNeg) - (τ2.2.2.1 6 x6.toNatClampNeg)))) → (vp_in x6 10) ∧ (w_J6_bitCount_0f7a4 N (τ3.2.2.1 28 x6.toNatClampNeg) τ3 (fun r4 τ5 => ∀ τ6 : zSt, τ6 = zA τ5 13 (upd (τ5.2.2.1 13) 3 r4) → w_X6_firstSum N (1 : Int32) τ6 (fun r7 τ8 => ∀ v9 : Int64, v9 = x4 + r7 → (vp_in x6 10) ∧ (((τ8.2.2.1 29 x6.toNatClampNeg) = (1 : Int32) → w_X6_firstSum N (0 : Int32) τ8 (fun r12 τ13 => ∀ v14 : Int64, v14 = v9 - r12 → ∀ v15 : Int32, v15 = x6 + (1 : Int32) → k_55 x3 v14 v15 τ13)) ∧ (¬ (τ8.2.2.1 29 x6.toNatClampNeg) = (1 : Int32) → ∀ v10 : Int64, v10 = v9 - (0 : Int64) → ∀ v11 : Int32, v11 = x6 + (1 : Int32) → k_55 x3 v10 v11 τ8)))))))))))
def w_X10_reckon_55 (N : Nat) (Q : Int64 → zSt → Prop) : Nat → Int32 → Int64 → Int32 → zSt → Prop
  | 0 => fun _ _ _ _ => False
  | f + 1 => b_X10_reckon_55 N (w_X10_reckon_55 N  Q f) Q
def w_X10_reckon (N : Nat) (x1 : Int64) (x3 : Int32) (σ : zSt) (Q : Int64 → zSt → Prop) : Prop :=
  w_X10_lay N x1 σ (fun τ2 => w_X10_spread N x3 τ2 (fun τ4 => ∀ τ5 : zSt, τ5 = zI τ4 6 x3 → (vp_in x3 10) ∧ (w_J6_bitCount_0f7a4 N (τ5.2.2.1 28 x3.toNatClampNeg) τ5 (fun r6 τ7 => ∀ τ8 : zSt, τ8 = zA τ7 13 (upd (τ7.2.2.1 13) 2 r6) → w_J13_bitCount_95d88 N x1 τ8 (fun r9 τ10 => ∀ τ11 : zSt, τ11 = zA τ10 13 (upd (τ10.2.2.1 13) 4 r9) → w_X10_reckon_55 N Q N x3 (0 : Int64) (0 : Int32) τ11)))))
variable {p : Program} {l : Launch} {e : Env} {s : State} {m : MethodId} {args : Array Value} {below : List Frame} {meth : Method} {c : Code} {dC : Nat → ClassId} {dI : Nat → Nat → Nat} {ad : Nat → Nat} {cI cJ : ClassId}
set_option maxHeartbeats 4000000 in
set_option maxRecDepth 100000 in
theorem tb_X10_reckon_55 (C0 : zCx p s m meth c args RX10 cX10_reckon 7 (some .long) vs_X10_reckon) (hK : va_K (dC, dI) vwCl (x_ty cI cJ) s) (N : Nat) {Q : Int64 → zSt → Prop} {k_55 : Int32 → Int64 → Int32 → zSt → Prop} (hk_55 : ∀ (x3 : Int32) (x4 : Int64) (x6 : Int32) (σ : zSt) (H : Heap) (locs : List Loc) (ls : Array Slot), k_55 x3 x4 x6 σ → va_P (dC, dI) vwCl (x_W ad cI cJ σ) H → va_D (zAW x_n ad s.heap.size) (x_W ad cI cJ σ) → va_S (zAW x_n ad s.heap.size) s.heap H locs → lv_has ls 7 [(0, .ref (ad 9)), (3, .int x3), (4, .long x4), (6, .int x6)] → W p l e rm_X10_reckon s m args below meth c H locs 0 0 (MQ below (zQl (dC, dI) (x_ty cI cJ) (x_W ad cI cJ) (zAW x_n ad s.heap.size) Q) args s 0 0 (zAW x_n ad s.heap.size)) (F0 m 55 ls [])) : ∀ (x3 : Int32) (x4 : Int64) (x6 : Int32) (σ : zSt) (H : Heap) (locs : List Loc) (ls : Array Slot), b_X10_reckon_55 N k_55 Q x3 x4 x6 σ → va_P (dC, dI) vwCl (x_W ad cI cJ σ) H → va_D (zAW x_n ad s.heap.size) (x_W ad cI cJ σ) → va_S (zAW x_n ad s.heap.size) s.heap H locs → lv_has ls 7 [(0, .ref (ad 9)), (3, .int x3), (4, .long x4), (6, .int x6)] → W p l e rm_X10_reckon s m args below meth c H locs 0 0 (MQ below (zQl (dC, dI) (x_ty cI cJ) (x_W ad cI cJ) (zAW x_n ad s.heap.size) Q) args s 0 0 (zAW x_n ad s.heap.size)) (F0 m 55 ls []) := by
  obtain ⟨hx, hb, hml, hr, hown, hts, hlocks⟩ := id C0
  intro x3 x4 x6 σ H locs ls h hP hD hS hl
  unfold b_X10_reckon_55 at h
  refine lv_iload hx hb dX10_reckon_55 (lv_at hl 3 rfl) ?_
  refine lv_aload_n hx hb dX10_reckon_57 rfl (lv_at hl 0 rfl) ?_
  refine xg_9_0 hx hb hts hown hK hP mw_199 dX10_reckon_58 ?_
  refine xg_3_4 hx hb hts hown hK hP mw_74 dX10_reckon_61 ?_
  refine lv_icmp_ge (tgt := 191) hx hb dX10_reckon_64 (by decide) (fun hc => ?_) (fun hc => ?_)
  · have h := h.1 hc
    refine lv_lload hx hb dX10_reckon_191 (lv_at hl 2 rfl) ?_
    exact zret_l hx hb hr hlocks hK hP hD hS h dX10_reckon_193
  · have h := h.2 hc
    refine lv_aload_n hx hb dX10_reckon_67 rfl (lv_at hl 0 rfl) ?_
    refine xg_9_5 hx hb hts hown hK hP mw_204 dX10_reckon_68 ?_
    refine lv_iload hx hb dX10_reckon_71 (lv_at hl 3 rfl) ?_
    refine xa_51 hx hb hK hP h.1 rfl dX10_reckon_73 ?_
    have h := h.2
    refine lv_if_le (tgt := 185) hx hb dX10_reckon_74 (by decide) (fun hc => ?_) (fun hc => ?_)
    · have h := h.1 hc
      obtain ⟨v1, ev1⟩ : ∃ z : Int32, z = x6 + (1 : Int32) := ⟨_, rfl⟩
      have h := h v1 ev1
      refine lv_iinc (v := v1) (lv' := [(6, .int v1), (0, .ref (ad 9)), (3, .int x3), (4, .long x4)]) hx hb dX10_reckon_185 hl (k := 3) rfl (by rw [ev1]; rfl) (by decide) rfl (fun ls hl => ?_)
      refine lv_goto (tgt := 55) hx hb dX10_reckon_188 (by decide) ?_
      exact hk_55 x3 x4 v1 σ _ _ _ h hP hD hS (lv_sub hl [1, 2, 3, 0] rfl)
    · have h := h.2 hc
      refine lv_aload_n hx hb dX10_reckon_77 rfl (lv_at hl 0 rfl) ?_
      refine xg_9_1 hx hb hts hown hK hP mw_200 dX10_reckon_78 ?_
      refine xg_4_6 hx hb hts hown hK hP mw_99 dX10_reckon_81 ?_
      refine lv_iconst (v := (0 : Int32)) hx hb dX10_reckon_84 (by decide) ?_
      refine lv_aload_n hx hb dX10_reckon_85 rfl (lv_at hl 0 rfl) ?_
      refine xg_9_5 hx hb hts hown hK hP mw_204 dX10_reckon_86 ?_
      refine lv_iload hx hb dX10_reckon_89 (lv_at hl 3 rfl) ?_
      refine xa_51 hx hb hK hP h.1 rfl dX10_reckon_91 ?_
      have h := h.2
      refine xs_32 (j := 0) hx hb hK hP hD hS (zin (by decide)) (by decide) dX10_reckon_92 (fun τ2 H locs eτ2 hP hD hS => ?_)
      have h := h τ2 eτ2
      refine lv_aload_n hx hb dX10_reckon_93 rfl (lv_at hl 0 rfl) ?_
      refine xg_9_1 hx hb hts hown hK hP mw_200 dX10_reckon_94 ?_
      refine xg_4_6 hx hb hts hown hK hP mw_99 dX10_reckon_97 ?_
      refine lv_iconst (v := (1 : Int32)) hx hb dX10_reckon_100 (by decide) ?_
      refine lv_aload_n hx hb dX10_reckon_101 rfl (lv_at hl 0 rfl) ?_
      refine xg_9_0 hx hb hts hown hK hP mw_199 dX10_reckon_102 ?_
      refine xg_3_2 hx hb hts hown hK hP mw_70 dX10_reckon_105 ?_
      refine lv_iload_n hx hb dX10_reckon_108 rfl (lv_at hl 1 rfl) ?_
      refine xa_24 hx hb hK hP h.1 rfl dX10_reckon_109 ?_
      have h := h.2
      refine lv_aload_n hx hb dX10_reckon_110 rfl (lv_at hl 0 rfl) ?_
      refine xg_9_0 hx hb hts hown hK hP mw_199 dX10_reckon_111 ?_
      refine xg_3_2 hx hb hts hown hK hP mw_70 dX10_reckon_114 ?_
      refine lv_iload hx hb dX10_reckon_117 (lv_at hl 3 rfl) ?_
      refine xa_24 hx hb hK hP h.1 rfl dX10_reckon_119 ?_
      have h := h.2
      refine lv_isub hx hb dX10_reckon_120 ?_
      refine va_mabs hx hb (hml.trans hl.1.symm) hown (hts _ (List.mem_cons_of_mem _ mw_568)) (hts _ (List.mem_cons_of_mem _ mw_569)) (hts _ (List.mem_cons_of_mem _ mw_19)) (hts _ (List.mem_cons_of_mem _ mw_570)) (Nat.le_of_ble_eq_true rfl) (Nat.le_of_ble_eq_true rfl) (Nat.zero_le _) (Nat.zero_le _) dX10_reckon_121 ?_
      refine xs_32 (j := 1) hx hb hK hP hD hS (zin (by decide)) (by decide) dX10_reckon_124 (fun τ3 H locs eτ3 hP hD hS => ?_)
      have h := h τ3 eτ3
      refine lv_aload_n hx hb dX10_reckon_125 rfl (lv_at hl 0 rfl) ?_
      refine xg_9_1 hx hb hts hown hK hP mw_200 dX10_reckon_126 ?_
      refine xg_4_6 hx hb hts hown hK hP mw_99 dX10_reckon_129 ?_
      refine lv_iconst (v := (3 : Int32)) hx hb dX10_reckon_132 (by decide) ?_
      refine lv_aload_n hx hb dX10_reckon_133 rfl (lv_at hl 0 rfl) ?_
      refine xg_9_4 hx hb hts hown hK hP mw_203 dX10_reckon_134 ?_
      refine lv_iload hx hb dX10_reckon_137 (lv_at hl 3 rfl) ?_
      refine xa_50 hx hb hK hP h.1 rfl dX10_reckon_139 ?_
      have h := h.2
      refine k_J6_bitCount_0f7a4 N ⟨hx, hb, hml, hown, hts⟩ mw_561 ⟨Nat.le_of_ble_eq_true rfl, Nat.le_of_ble_eq_true rfl⟩ h hK hP hD hS hl.1 (rest := [.int (3 : Int32), .ref (ad 32)]) (Nat.le_of_ble_eq_true rfl) ⟨Nat.le_of_ble_eq_true rfl, Nat.le_of_ble_eq_true rfl⟩ dX10_reckon_140 (fun r4 τ5 H locs h hP hD hS => ?_)
      refine xs_32 (j := 3) hx hb hK hP hD hS (zin (by decide)) (by decide) dX10_reckon_143 (fun τ6 H locs eτ6 hP hD hS => ?_)
      have h := h τ6 eτ6
      refine lv_lload hx hb dX10_reckon_144 (lv_at hl 2 rfl) ?_
      refine lv_aload_n hx hb dX10_reckon_146 rfl (lv_at hl 0 rfl) ?_
      refine xg_9_1 hx hb hts hown hK hP mw_200 dX10_reckon_147 ?_
      refine lv_iconst (v := (1 : Int32)) hx hb dX10_reckon_150 (by decide) ?_
      refine k_X6_firstSum N ⟨hx, hb, hml, hown, hts⟩ mw_571 ⟨Nat.le_of_ble_eq_true rfl, Nat.le_of_ble_eq_true rfl⟩ h hK hP hD hS hl.1 (rest := [.long x4]) (Nat.le_of_ble_eq_true rfl) ⟨Nat.le_of_ble_eq_true rfl, Nat.le_of_ble_eq_true rfl⟩ dX10_reckon_151 (fun r7 τ8 H locs h hP hD hS => ?_)
      refine lv_ladd hx hb dX10_reckon_154 ?_
      refine lv_topl (fun v9 ev9 => ?_)
      have h := h v9 ev9
      refine lv_lstore (lv' := [(4, .long v9), (0, .ref (ad 9)), (3, .int x3), (6, .int x6)]) hx hb dX10_reckon_155 hl (by decide) rfl (fun ls hl => ?_)
      refine lv_lload hx hb dX10_reckon_157 (lv_at hl 0 rfl) ?_
      refine lv_aload_n hx hb dX10_reckon_159 rfl (lv_at hl 1 rfl) ?_
      refine xg_9_5 hx hb hts hown hK hP mw_204 dX10_reckon_160 ?_
      refine lv_iload hx hb dX10_reckon_163 (lv_at hl 3 rfl) ?_
      refine xa_51 hx hb hK hP h.1 rfl dX10_reckon_165 ?_
      have h := h.2
      refine lv_iconst (v := (1 : Int32)) hx hb dX10_reckon_166 (by decide) ?_
      refine lv_icmp_ne (tgt := 181) hx hb dX10_reckon_167 (by decide) (fun hc => ?_) (fun hc => ?_)
      · have h := h.2 hc
        refine lv_lconst (v := (0 : Int64)) hx hb dX10_reckon_181 (by decide) ?_
        refine lv_lsub hx hb dX10_reckon_182 ?_
        refine lv_topl (fun v10 ev10 => ?_)
        have h := h v10 ev10
        refine lv_lstore (lv' := [(4, .long v10), (0, .ref (ad 9)), (3, .int x3), (6, .int x6)]) hx hb dX10_reckon_183 hl (by decide) rfl (fun ls hl => ?_)
        obtain ⟨v11, ev11⟩ : ∃ z : Int32, z = x6 + (1 : Int32) := ⟨_, rfl⟩
        have h := h v11 ev11
        refine lv_iinc (v := v11) (lv' := [(6, .int v11), (4, .long v10), (0, .ref (ad 9)), (3, .int x3)]) hx hb dX10_reckon_185 hl (k := 3) rfl (by rw [ev11]; rfl) (by decide) rfl (fun ls hl => ?_)
        refine lv_goto (tgt := 55) hx hb dX10_reckon_188 (by decide) ?_
        exact hk_55 x3 v10 v11 τ8 _ _ _ h hP hD hS (lv_sub hl [2, 3, 1, 0] rfl)
      · have h := h.1 hc
        refine lv_aload_n hx hb dX10_reckon_170 rfl (lv_at hl 1 rfl) ?_
        refine xg_9_1 hx hb hts hown hK hP mw_200 dX10_reckon_171 ?_
        refine lv_iconst (v := (0 : Int32)) hx hb dX10_reckon_174 (by decide) ?_
        refine k_X6_firstSum N ⟨hx, hb, hml, hown, hts⟩ mw_571 ⟨Nat.le_of_ble_eq_true rfl, Nat.le_of_ble_eq_true rfl⟩ h hK hP hD hS hl.1 (rest := [.long v9]) (Nat.le_of_ble_eq_true rfl) ⟨Nat.le_of_ble_eq_true rfl, Nat.le_of_ble_eq_true rfl⟩ dX10_reckon_175 (fun r12 τ13 H locs h hP hD hS => ?_)
        refine lv_goto (tgt := 182) hx hb dX10_reckon_178 (by decide) ?_
        refine lv_lsub hx hb dX10_reckon_182 ?_
        refine lv_topl (fun v14 ev14 => ?_)
        have h := h v14 ev14
        refine lv_lstore (lv' := [(4, .long v14), (0, .ref (ad 9)), (3, .int x3), (6, .int x6)]) hx hb dX10_reckon_183 hl (by decide) rfl (fun ls hl => ?_)
        obtain ⟨v15, ev15⟩ : ∃ z : Int32, z = x6 + (1 : Int32) := ⟨_, rfl⟩
        have h := h v15 ev15
        refine lv_iinc (v := v15) (lv' := [(6, .int v15), (4, .long v14), (0, .ref (ad 9)), (3, .int x3)]) hx hb dX10_reckon_185 hl (k := 3) rfl (by rw [ev15]; rfl) (by decide) rfl (fun ls hl => ?_)
        refine lv_goto (tgt := 55) hx hb dX10_reckon_188 (by decide) ?_
        exact hk_55 x3 v14 v15 τ13 _ _ _ h hP hD hS (lv_sub hl [2, 3, 1, 0] rfl)
set_option maxHeartbeats 4000000 in
set_option maxRecDepth 100000 in
theorem t_X10_reckon_55 (C0 : zCx p s m meth c args RX10 cX10_reckon 7 (some .long) vs_X10_reckon) (hK : va_K (dC, dI) vwCl (x_ty cI cJ) s) (N : Nat) {Q : Int64 → zSt → Prop} : ∀ (f : Nat) (x3 : Int32) (x4 : Int64) (x6 : Int32) (σ : zSt) (H : Heap) (locs : List Loc) (ls : Array Slot), w_X10_reckon_55 N  Q f x3 x4 x6 σ → va_P (dC, dI) vwCl (x_W ad cI cJ σ) H → va_D (zAW x_n ad s.heap.size) (x_W ad cI cJ σ) → va_S (zAW x_n ad s.heap.size) s.heap H locs → lv_has ls 7 [(0, .ref (ad 9)), (3, .int x3), (4, .long x4), (6, .int x6)] → W p l e rm_X10_reckon s m args below meth c H locs 0 0 (MQ below (zQl (dC, dI) (x_ty cI cJ) (x_W ad cI cJ) (zAW x_n ad s.heap.size) Q) args s 0 0 (zAW x_n ad s.heap.size)) (F0 m 55 ls []) := by
  intro f
  induction f with
  | zero => intro x3 x4 x6 σ H locs ls h; exact h.elim
  | succ f ih =>
    intro x3 x4 x6 σ H locs ls h hP hD hS hl
    exact tb_X10_reckon_55 C0 hK N  (k_55 := w_X10_reckon_55 N  Q f) ih x3 x4 x6 σ H locs ls h hP hD hS hl
set_option maxHeartbeats 4000000 in
set_option maxRecDepth 100000 in
theorem t_X10_reckon_0 (C0 : zCx p s m meth c args RX10 cX10_reckon 7 (some .long) vs_X10_reckon) (hK : va_K (dC, dI) vwCl (x_ty cI cJ) s) (N : Nat) {Q : Int64 → zSt → Prop} : ∀ (x1 : Int64) (x3 : Int32) (σ : zSt) (H : Heap) (locs : List Loc) (ls : Array Slot), w_X10_reckon N x1 x3 σ Q → va_P (dC, dI) vwCl (x_W ad cI cJ σ) H → va_D (zAW x_n ad s.heap.size) (x_W ad cI cJ σ) → va_S (zAW x_n ad s.heap.size) s.heap H locs → lv_has ls 7 [(0, .ref (ad 9)), (1, .long x1), (3, .int x3)] → W p l e rm_X10_reckon s m args below meth c H locs 0 0 (MQ below (zQl (dC, dI) (x_ty cI cJ) (x_W ad cI cJ) (zAW x_n ad s.heap.size) Q) args s 0 0 (zAW x_n ad s.heap.size)) (F0 m 0 ls []) := by
  obtain ⟨hx, hb, hml, hr, hown, hts, hlocks⟩ := id C0
  intro x1 x3 σ H locs ls h hP hD hS hl
  unfold w_X10_reckon at h
  refine lv_aload_n hx hb dX10_reckon_0 rfl (lv_at hl 0 rfl) ?_
  refine lv_lload_n hx hb dX10_reckon_1 rfl (lv_at hl 1 rfl) ?_
  refine k_X10_lay N ⟨hx, hb, hml, hown, hts⟩ mw_553 ⟨Nat.le_of_ble_eq_true rfl, Nat.le_of_ble_eq_true rfl⟩ h hK hP hD hS hl.1 (rest := []) (Nat.le_of_ble_eq_true rfl) ⟨Nat.le_of_ble_eq_true rfl, Nat.le_of_ble_eq_true rfl⟩ dX10_reckon_2 (fun τ2 H locs h hP hD hS => ?_)
  refine lv_aload_n hx hb dX10_reckon_5 rfl (lv_at hl 0 rfl) ?_
  refine lv_iload_n hx hb dX10_reckon_6 rfl (lv_at hl 2 rfl) ?_
  refine k_X10_spread N ⟨hx, hb, hml, hown, hts⟩ mw_557 ⟨Nat.le_of_ble_eq_true rfl, Nat.le_of_ble_eq_true rfl⟩ h hK hP hD hS hl.1 (rest := []) (Nat.le_of_ble_eq_true rfl) ⟨Nat.le_of_ble_eq_true rfl, Nat.le_of_ble_eq_true rfl⟩ dX10_reckon_7 (fun τ4 H locs h hP hD hS => ?_)
  refine lv_aload_n hx hb dX10_reckon_10 rfl (lv_at hl 0 rfl) ?_
  refine xg_9_1 hx hb hts hown hK hP mw_200 dX10_reckon_11 ?_
  refine lv_iload_n hx hb dX10_reckon_14 rfl (lv_at hl 2 rfl) ?_
  refine xp_4_9 hx hb hts hown hK hP hD hS mw_105 dX10_reckon_15 (fun τ5 H locs eτ5 hP hD hS => ?_)
  have h := h τ5 eτ5
  refine lv_aload_n hx hb dX10_reckon_18 rfl (lv_at hl 0 rfl) ?_
  refine xg_9_1 hx hb hts hown hK hP mw_200 dX10_reckon_19 ?_
  refine xg_4_6 hx hb hts hown hK hP mw_99 dX10_reckon_22 ?_
  refine lv_iconst (v := (2 : Int32)) hx hb dX10_reckon_25 (by decide) ?_
  refine lv_aload_n hx hb dX10_reckon_26 rfl (lv_at hl 0 rfl) ?_
  refine xg_9_4 hx hb hts hown hK hP mw_203 dX10_reckon_27 ?_
  refine lv_iload_n hx hb dX10_reckon_30 rfl (lv_at hl 2 rfl) ?_
  refine xa_50 hx hb hK hP h.1 rfl dX10_reckon_31 ?_
  have h := h.2
  refine k_J6_bitCount_0f7a4 N ⟨hx, hb, hml, hown, hts⟩ mw_561 ⟨Nat.le_of_ble_eq_true rfl, Nat.le_of_ble_eq_true rfl⟩ h hK hP hD hS hl.1 (rest := [.int (2 : Int32), .ref (ad 32)]) (Nat.le_of_ble_eq_true rfl) ⟨Nat.le_of_ble_eq_true rfl, Nat.le_of_ble_eq_true rfl⟩ dX10_reckon_32 (fun r6 τ7 H locs h hP hD hS => ?_)
  refine xs_32 (j := 2) hx hb hK hP hD hS (zin (by decide)) (by decide) dX10_reckon_35 (fun τ8 H locs eτ8 hP hD hS => ?_)
  have h := h τ8 eτ8
  refine lv_aload_n hx hb dX10_reckon_36 rfl (lv_at hl 0 rfl) ?_
  refine xg_9_1 hx hb hts hown hK hP mw_200 dX10_reckon_37 ?_
  refine xg_4_6 hx hb hts hown hK hP mw_99 dX10_reckon_40 ?_
  refine lv_iconst (v := (4 : Int32)) hx hb dX10_reckon_43 (by decide) ?_
  refine lv_lload_n hx hb dX10_reckon_44 rfl (lv_at hl 1 rfl) ?_
  refine k_J13_bitCount_95d88 N ⟨hx, hb, hml, hown, hts⟩ mw_567 ⟨Nat.le_of_ble_eq_true rfl, Nat.le_of_ble_eq_true rfl⟩ h hK hP hD hS hl.1 (rest := [.int (4 : Int32), .ref (ad 32)]) (Nat.le_of_ble_eq_true rfl) ⟨Nat.le_of_ble_eq_true rfl, Nat.le_of_ble_eq_true rfl⟩ dX10_reckon_45 (fun r9 τ10 H locs h hP hD hS => ?_)
  refine xs_32 (j := 4) hx hb hK hP hD hS (zin (by decide)) (by decide) dX10_reckon_48 (fun τ11 H locs eτ11 hP hD hS => ?_)
  have h := h τ11 eτ11
  refine lv_lconst (v := (0 : Int64)) hx hb dX10_reckon_49 (by decide) ?_
  refine lv_lstore (lv' := [(4, .long (0 : Int64)), (0, .ref (ad 9)), (1, .long x1), (3, .int x3)]) hx hb dX10_reckon_50 hl (by decide) rfl (fun ls hl => ?_)
  refine lv_iconst (v := (0 : Int32)) hx hb dX10_reckon_52 (by decide) ?_
  refine lv_istore (lv' := [(6, .int (0 : Int32)), (4, .long (0 : Int64)), (0, .ref (ad 9)), (1, .long x1), (3, .int x3)]) hx hb dX10_reckon_53 hl (by decide) rfl (fun ls hl => ?_)
  exact t_X10_reckon_55 C0 hK N  N x3 (0 : Int64) (0 : Int32) τ11 _ _ _ h hP hD hS (lv_sub hl [2, 4, 1, 0] rfl)
set_option maxHeartbeats 4000000 in
set_option maxRecDepth 100000 in
theorem c_X10_reckon (N : Nat) (l : Launch) (dC : Nat → ClassId) (dI : Nat → Nat → Nat) (ad : Nat → Nat) (cI cJ : ClassId) (sz : Nat) (σ : zSt) (x1 : Int64) (x3 : Int32) (Q : Int64 → zSt → Prop) (h : w_X10_reckon N x1 x3 σ Q) : Met l yX10_reckon vs_X10_reckon rm_X10_reckon (va_Pc [.ref (ad 9), .long x1, .int x3] (zPc (dC, dI) (x_ty cI cJ) (x_W ad cI cJ) sz σ)) (zQl (dC, dI) (x_ty cI cJ) (x_W ad cI cJ) (zAW x_n ad sz) Q) 0 0 (zAW x_n ad sz) := by
  refine Met.ofW (cc := cX10_reckon) (maxL := 7) (ret := (some .long)) (by decide) rfl ?_
  intro p e s m args below meth c s₁ B hml hv
  obtain ⟨rfl, hsz, hP, hK, hD0⟩ := hv
  subst hsz
  have C0 : zCx p s m meth c _ RX10 cX10_reckon 7 (some .long) vs_X10_reckon := ⟨B.exec, B.bytes, hml, B.returns, findClass_of_methodNamed B.named, atoms_spec (ws := vs_X10_reckon) B.pre, B.notSynchronized⟩
  have hD := x_D0 (n0 := s.heap.size) hD0
  have hl := lv_entry ([.ref (ad 9), .long x1, .int x3]) (n := 7) (Nat.le_of_ble_eq_true rfl)
  rw [lg_entry_eq]
  generalize (lg_sl ([.ref (ad 9), .long x1, .int x3]) ++ List.replicate (7 - (lg_sl ([.ref (ad 9), .long x1, .int x3])).length) Slot.unset).toArray = ls at hl ⊢
  exact t_X10_reckon_0 C0 hK N x1 x3 σ _ _ ls h hP hD va_S.rf hl
theorem k_X10_reckon (N : Nat) {R : Room} {H : Heap} {locs : List Loc} {cells slots : Nat} {Q2 : State → Prop} {cc : ByteArray} {nL pc index : Nat} {ls : Array Slot} {rest : List Value} {own : String} {c0 : Cond} {σ : zSt} {x1 : Int64} {x3 : Int32} {Q : Int64 → zSt → Prop} (S0 : CallFix p m c cc nL s args (c0 :: zT) own) (hml : Cond.methodLink own index yX10_reckon ∈ zT) (hR : rm_X10_reckon.frames + 1 ≤ R.frames ∧ 8 + (7 + 11) + rm_X10_reckon.locals ≤ R.locals) (h : w_X10_reckon N x1 x3 σ Q) (hK : va_K (dC, dI) vwCl (x_ty cI cJ) s) (hP : va_P (dC, dI) vwCl (x_W ad cI cJ σ) H) (hD : va_D (zAW x_n ad s.heap.size) (x_W ad cI cJ σ)) (hS : va_S (zAW x_n ad s.heap.size) s.heap H locs) (hsz : ls.size = nL) (hW : (rest.map fun v => v.category).sum ≤ 8) (hcs : cells ≤ R.cells ∧ slots ≤ R.slots) (hdg : decode cc pc = .ok (.invokevirtual index, 3)) (kk : ∀ (r : Int64) (τ : zSt) (H1 : Heap) (locs1 : List Loc), Q r τ → va_P (dC, dI) vwCl (x_W ad cI cJ τ) H1 → va_D (zAW x_n ad s.heap.size) (x_W ad cI cJ τ) → va_S (zAW x_n ad s.heap.size) s.heap H1 locs1 → W p l e R s m args below meth c H1 locs1 cells slots Q2 (F0 m (pc + 3) ls (.long r :: rest))) : W p l e R s m args below meth c H locs cells slots Q2 (F0 m pc ls (.int x3 :: .long x1 :: .ref (ad 9) :: rest)) :=
  zcv_l (T := TX10) (N' := 10) (k := 9) (ci := 10) (fs := x_f9 ad σ) [.long x1, .int x3] S0 (c_X10_reckon N l dC dI ad cI cJ H.size σ x1 x3 Q h) (cw_X10_reckon S0.2.2.2.2 hml rfl rfl hR) rfl rfl hK hP hD hS rfl hsz hW rfl hcs hdg kk
end q06
