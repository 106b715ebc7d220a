section q05
end q05
section q05
def w_X11_shape (N : Nat) (x1 : Int32) (x2 : Int32) (σ : zSt) (Q : Int64 → zSt → Prop) : Prop :=
  ∀ v1 : Int32, v1 = σ.1 1 → (x1 = (0 : Int32) → Q (0 : Int64) σ) ∧ (¬ x1 = (0 : Int32) → (x1 = (1 : Int32) → w_X3_within N (0 : Int32) v1 σ (fun r2 τ3 => Q r2 τ3)) ∧ (¬ x1 = (1 : Int32) → (x1 = (2 : Int32) → w_X4_isPerson_2 N x2 σ (fun r4 τ5 => (r4 = 0 → Q (-1 : Int64) τ5) ∧ (¬ r4 = 0 → w_X3_star N x2 v1 τ5 (fun r6 τ7 => Q r6 τ7)))) ∧ (¬ x1 = (2 : Int32) → (x1 = (3 : Int32) → w_X3_circle N v1 v1 (0 : Int32) σ (fun r8 τ9 => Q r8 τ9)) ∧ (¬ x1 = (3 : Int32) → (x1 = (4 : Int32) → (v1 < (3 : Int32) → Q (-1 : Int64) σ) ∧ (¬ v1 < (3 : Int32) → w_X3_circle N v1 v1 (1 : Int32) σ (fun r10 τ11 => Q r10 τ11))) ∧ (¬ x1 = (4 : Int32) → (x1 = (5 : Int32) → w_X4_isPerson_2 N x2 σ (fun r12 τ13 => (r12 = 0 → Q (-1 : Int64) τ13) ∧ (¬ r12 = 0 → w_X3_within N (0 : Int32) x2 τ13 (fun r14 τ15 => w_X3_within N x2 v1 τ15 (fun r16 τ17 => Q (r14 ||| r16) τ17))))) ∧ (¬ x1 = (5 : Int32) → (x1 = (6 : Int32) → w_X4_isPerson_2 N x2 σ (fun r18 τ19 => (r18 = 0 → Q (-1 : Int64) τ19) ∧ (¬ r18 = 0 → (v1 < (4 : Int32) → Q (-1 : Int64) τ19) ∧ (¬ v1 < (4 : Int32) → w_X3_circle N v1 x2 (1 : Int32) τ19 (fun r20 τ21 => w_X3_star N x2 v1 τ21 (fun r22 τ23 => Q (r20 ||| r22) τ23)))))) ∧ (¬ x1 = (6 : Int32) → Q (-1 : Int64) σ)))))))
variable {p : Program} {l : Launch} {e : Env} {s : State} {m : MethodId} {args : Array Value} {below : List Frame} {meth : Method} {c : Code} {dC : Nat → ClassId} {dI : Nat → Nat → Nat} {ad : Nat → Nat} {cI cJ : ClassId}
set_option maxHeartbeats 4000000 in
set_option maxRecDepth 100000 in
theorem t_X11_shape_0 (C0 : zCx p s m meth c args RX11 cX11_shape 4 (some .long) vs_X11_shape) (hK : va_K (dC, dI) vwCl (x_ty cI cJ) s) (N : Nat) {Q : Int64 → zSt → Prop} : ∀ (x1 : Int32) (x2 : Int32) (σ : zSt) (H : Heap) (locs : List Loc) (ls : Array Slot), w_X11_shape N x1 x2 σ Q → va_P (dC, dI) vwCl (x_W ad cI cJ σ) H → va_D (zAW x_n ad s.heap.size) (x_W ad cI cJ σ) → va_S (zAW x_n ad s.heap.size) s.heap H locs → lv_has ls 4 [(0, .ref (ad 0)), (1, .int x1), (2, .int x2)] → W p l e rm_X11_shape s m args below meth c H locs 0 0 (MQ below (zQl (dC, dI) (x_ty cI cJ) (x_W ad cI cJ) (zAW x_n ad s.heap.size) Q) args s 0 0 (zAW x_n ad s.heap.size)) (F0 m 0 ls []) := by
  obtain ⟨hx, hb, hml, hr, hown, hts, hlocks⟩ := id C0
  intro x1 x2 σ H locs ls h hP hD hS hl
  unfold w_X11_shape at h
  refine lv_aload_n hx hb dX11_shape_0 rfl (lv_at hl 0 rfl) ?_
  refine xg_0_2 hx hb hts hown hK hP mw_291 dX11_shape_1 ?_
  refine xg_3_4 hx hb hts hown hK hP mw_75 dX11_shape_4 ?_
  refine lv_topi (fun v1 ev1 => ?_)
  have h := h v1 ev1
  refine lv_istore_n (lv' := [(3, .int v1), (0, .ref (ad 0)), (1, .int x1), (2, .int x2)]) hx hb dX11_shape_7 rfl hl (by decide) rfl (fun ls hl => ?_)
  refine lv_iload_n hx hb dX11_shape_8 rfl (lv_at hl 2 rfl) ?_
  by_cases hc0 : x1 = (0 : Int32)
  · have h := h.1 hc0
    refine lv_tableIn (off := 43) (tgt := 52) hx hb dX11_shape_9 (by rw [hc0]; decide) (by rw [hc0]; decide) (by rw [hc0]; rfl) (by decide) ?_
    refine lv_lconst (v := (0 : Int64)) hx hb dX11_shape_52 (by decide) ?_
    exact zret_l hx hb hr hlocks hK hP hD hS h dX11_shape_53
  · have hn0 := hc0
    have h := h.2 hc0
    by_cases hc1 : x1 = (1 : Int32)
    · have h := h.1 hc1
      refine lv_tableIn (off := 45) (tgt := 54) hx hb dX11_shape_9 (by rw [hc1]; decide) (by rw [hc1]; decide) (by rw [hc1]; rfl) (by decide) ?_
      refine lv_aload_n hx hb dX11_shape_54 rfl (lv_at hl 1 rfl) ?_
      refine xg_0_1 hx hb hts hown hK hP mw_290 dX11_shape_55 ?_
      refine lv_iconst (v := (0 : Int32)) hx hb dX11_shape_58 (by decide) ?_
      refine lv_iload_n hx hb dX11_shape_59 rfl (lv_at hl 0 rfl) ?_
      refine k_X3_within N ⟨hx, hb, hml, hown, hts⟩ mw_513 ⟨Nat.le_of_ble_eq_true rfl, Nat.le_of_ble_eq_true rfl⟩ h hK hP hD hS hl.1 (rest := []) (Nat.le_of_ble_eq_true rfl) ⟨Nat.le_of_ble_eq_true rfl, Nat.le_of_ble_eq_true rfl⟩ dX11_shape_60 (fun r2 τ3 H locs h hP hD hS => ?_)
      exact zret_l hx hb hr hlocks hK hP hD hS h dX11_shape_63
    · have hn1 := hc1
      have h := h.2 hc1
      by_cases hc2 : x1 = (2 : Int32)
      · have h := h.1 hc2
        refine lv_tableIn (off := 55) (tgt := 64) hx hb dX11_shape_9 (by rw [hc2]; decide) (by rw [hc2]; decide) (by rw [hc2]; rfl) (by decide) ?_
        refine lv_aload_n hx hb dX11_shape_64 rfl (lv_at hl 1 rfl) ?_
        refine xg_0_2 hx hb hts hown hK hP mw_291 dX11_shape_65 ?_
        refine lv_iload_n hx hb dX11_shape_68 rfl (lv_at hl 3 rfl) ?_
        refine k_X4_isPerson_2 N ⟨hx, hb, hml, hown, hts⟩ mw_491 ⟨Nat.le_of_ble_eq_true rfl, Nat.le_of_ble_eq_true rfl⟩ h hK hP hD hS hl.1 (rest := []) (Nat.le_of_ble_eq_true rfl) ⟨Nat.le_of_ble_eq_true rfl, Nat.le_of_ble_eq_true rfl⟩ dX11_shape_69 (fun r4 τ5 H locs h hP hD hS => ?_)
        refine lv_if_eq (tgt := 87) hx hb dX11_shape_72 (by decide) (fun hc => ?_) (fun hc => ?_)
        · have h := h.1 hc
          refine lv_ldc2 (v := (-1 : Int64)) hx hb hown (hts _ (List.mem_cons_of_mem _ mw_275)) dX11_shape_87 ?_
          exact zret_l hx hb hr hlocks hK hP hD hS h dX11_shape_90
        · have h := h.2 hc
          refine lv_aload_n hx hb dX11_shape_75 rfl (lv_at hl 1 rfl) ?_
          refine xg_0_1 hx hb hts hown hK hP mw_290 dX11_shape_76 ?_
          refine lv_iload_n hx hb dX11_shape_79 rfl (lv_at hl 3 rfl) ?_
          refine lv_iload_n hx hb dX11_shape_80 rfl (lv_at hl 0 rfl) ?_
          refine k_X3_star N ⟨hx, hb, hml, hown, hts⟩ mw_518 ⟨Nat.le_of_ble_eq_true rfl, Nat.le_of_ble_eq_true rfl⟩ h hK hP hD hS hl.1 (rest := []) (Nat.le_of_ble_eq_true rfl) ⟨Nat.le_of_ble_eq_true rfl, Nat.le_of_ble_eq_true rfl⟩ dX11_shape_81 (fun r6 τ7 H locs h hP hD hS => ?_)
          refine lv_goto (tgt := 90) hx hb dX11_shape_84 (by decide) ?_
          exact zret_l hx hb hr hlocks hK hP hD hS h dX11_shape_90
      · have hn2 := hc2
        have h := h.2 hc2
        by_cases hc3 : x1 = (3 : Int32)
        · have h := h.1 hc3
          refine lv_tableIn (off := 82) (tgt := 91) hx hb dX11_shape_9 (by rw [hc3]; decide) (by rw [hc3]; decide) (by rw [hc3]; rfl) (by decide) ?_
          refine lv_aload_n hx hb dX11_shape_91 rfl (lv_at hl 1 rfl) ?_
          refine xg_0_1 hx hb hts hown hK hP mw_290 dX11_shape_92 ?_
          refine lv_iload_n hx hb dX11_shape_95 rfl (lv_at hl 0 rfl) ?_
          refine lv_iload_n hx hb dX11_shape_96 rfl (lv_at hl 0 rfl) ?_
          refine lv_iconst (v := (0 : Int32)) hx hb dX11_shape_97 (by decide) ?_
          refine k_X3_circle N ⟨hx, hb, hml, hown, hts⟩ mw_523 ⟨Nat.le_of_ble_eq_true rfl, Nat.le_of_ble_eq_true rfl⟩ h hK hP hD hS hl.1 (rest := []) (Nat.le_of_ble_eq_true rfl) ⟨Nat.le_of_ble_eq_true rfl, Nat.le_of_ble_eq_true rfl⟩ dX11_shape_98 (fun r8 τ9 H locs h hP hD hS => ?_)
          exact zret_l hx hb hr hlocks hK hP hD hS h dX11_shape_101
        · have hn3 := hc3
          have h := h.2 hc3
          by_cases hc4 : x1 = (4 : Int32)
          · have h := h.1 hc4
            refine lv_tableIn (off := 93) (tgt := 102) hx hb dX11_shape_9 (by rw [hc4]; decide) (by rw [hc4]; decide) (by rw [hc4]; rfl) (by decide) ?_
            refine lv_iload_n hx hb dX11_shape_102 rfl (lv_at hl 0 rfl) ?_
            refine lv_iconst (v := (3 : Int32)) hx hb dX11_shape_103 (by decide) ?_
            refine lv_icmp_lt (tgt := 120) hx hb dX11_shape_104 (by decide) (fun hc => ?_) (fun hc => ?_)
            · have h := h.1 hc
              refine lv_ldc2 (v := (-1 : Int64)) hx hb hown (hts _ (List.mem_cons_of_mem _ mw_275)) dX11_shape_120 ?_
              exact zret_l hx hb hr hlocks hK hP hD hS h dX11_shape_123
            · have h := h.2 hc
              refine lv_aload_n hx hb dX11_shape_107 rfl (lv_at hl 1 rfl) ?_
              refine xg_0_1 hx hb hts hown hK hP mw_290 dX11_shape_108 ?_
              refine lv_iload_n hx hb dX11_shape_111 rfl (lv_at hl 0 rfl) ?_
              refine lv_iload_n hx hb dX11_shape_112 rfl (lv_at hl 0 rfl) ?_
              refine lv_iconst (v := (1 : Int32)) hx hb dX11_shape_113 (by decide) ?_
              refine k_X3_circle N ⟨hx, hb, hml, hown, hts⟩ mw_523 ⟨Nat.le_of_ble_eq_true rfl, Nat.le_of_ble_eq_true rfl⟩ h hK hP hD hS hl.1 (rest := []) (Nat.le_of_ble_eq_true rfl) ⟨Nat.le_of_ble_eq_true rfl, Nat.le_of_ble_eq_true rfl⟩ dX11_shape_114 (fun r10 τ11 H locs h hP hD hS => ?_)
              refine lv_goto (tgt := 123) hx hb dX11_shape_117 (by decide) ?_
              exact zret_l hx hb hr hlocks hK hP hD hS h dX11_shape_123
          · have hn4 := hc4
            have h := h.2 hc4
            by_cases hc5 : x1 = (5 : Int32)
            · have h := h.1 hc5
              refine lv_tableIn (off := 115) (tgt := 124) hx hb dX11_shape_9 (by rw [hc5]; decide) (by rw [hc5]; decide) (by rw [hc5]; rfl) (by decide) ?_
              refine lv_aload_n hx hb dX11_shape_124 rfl (lv_at hl 1 rfl) ?_
              refine xg_0_2 hx hb hts hown hK hP mw_291 dX11_shape_125 ?_
              refine lv_iload_n hx hb dX11_shape_128 rfl (lv_at hl 3 rfl) ?_
              refine k_X4_isPerson_2 N ⟨hx, hb, hml, hown, hts⟩ mw_491 ⟨Nat.le_of_ble_eq_true rfl, Nat.le_of_ble_eq_true rfl⟩ h hK hP hD hS hl.1 (rest := []) (Nat.le_of_ble_eq_true rfl) ⟨Nat.le_of_ble_eq_true rfl, Nat.le_of_ble_eq_true rfl⟩ dX11_shape_129 (fun r12 τ13 H locs h hP hD hS => ?_)
              refine lv_if_eq (tgt := 157) hx hb dX11_shape_132 (by decide) (fun hc => ?_) (fun hc => ?_)
              · have h := h.1 hc
                refine lv_ldc2 (v := (-1 : Int64)) hx hb hown (hts _ (List.mem_cons_of_mem _ mw_275)) dX11_shape_157 ?_
                exact zret_l hx hb hr hlocks hK hP hD hS h dX11_shape_160
              · have h := h.2 hc
                refine lv_aload_n hx hb dX11_shape_135 rfl (lv_at hl 1 rfl) ?_
                refine xg_0_1 hx hb hts hown hK hP mw_290 dX11_shape_136 ?_
                refine lv_iconst (v := (0 : Int32)) hx hb dX11_shape_139 (by decide) ?_
                refine lv_iload_n hx hb dX11_shape_140 rfl (lv_at hl 3 rfl) ?_
                refine k_X3_within N ⟨hx, hb, hml, hown, hts⟩ mw_513 ⟨Nat.le_of_ble_eq_true rfl, Nat.le_of_ble_eq_true rfl⟩ h hK hP hD hS hl.1 (rest := []) (Nat.le_of_ble_eq_true rfl) ⟨Nat.le_of_ble_eq_true rfl, Nat.le_of_ble_eq_true rfl⟩ dX11_shape_141 (fun r14 τ15 H locs h hP hD hS => ?_)
                refine lv_aload_n hx hb dX11_shape_144 rfl (lv_at hl 1 rfl) ?_
                refine xg_0_1 hx hb hts hown hK hP mw_290 dX11_shape_145 ?_
                refine lv_iload_n hx hb dX11_shape_148 rfl (lv_at hl 3 rfl) ?_
                refine lv_iload_n hx hb dX11_shape_149 rfl (lv_at hl 0 rfl) ?_
                refine k_X3_within N ⟨hx, hb, hml, hown, hts⟩ mw_513 ⟨Nat.le_of_ble_eq_true rfl, Nat.le_of_ble_eq_true rfl⟩ h hK hP hD hS hl.1 (rest := [.long r14]) (Nat.le_of_ble_eq_true rfl) ⟨Nat.le_of_ble_eq_true rfl, Nat.le_of_ble_eq_true rfl⟩ dX11_shape_150 (fun r16 τ17 H locs h hP hD hS => ?_)
                refine lv_lor hx hb dX11_shape_153 ?_
                refine lv_goto (tgt := 160) hx hb dX11_shape_154 (by decide) ?_
                exact zret_l hx hb hr hlocks hK hP hD hS h dX11_shape_160
            · have hn5 := hc5
              have h := h.2 hc5
              by_cases hc6 : x1 = (6 : Int32)
              · have h := h.1 hc6
                refine lv_tableIn (off := 152) (tgt := 161) hx hb dX11_shape_9 (by rw [hc6]; decide) (by rw [hc6]; decide) (by rw [hc6]; rfl) (by decide) ?_
                refine lv_aload_n hx hb dX11_shape_161 rfl (lv_at hl 1 rfl) ?_
                refine xg_0_2 hx hb hts hown hK hP mw_291 dX11_shape_162 ?_
                refine lv_iload_n hx hb dX11_shape_165 rfl (lv_at hl 3 rfl) ?_
                refine k_X4_isPerson_2 N ⟨hx, hb, hml, hown, hts⟩ mw_491 ⟨Nat.le_of_ble_eq_true rfl, Nat.le_of_ble_eq_true rfl⟩ h hK hP hD hS hl.1 (rest := []) (Nat.le_of_ble_eq_true rfl) ⟨Nat.le_of_ble_eq_true rfl, Nat.le_of_ble_eq_true rfl⟩ dX11_shape_166 (fun r18 τ19 H locs h hP hD hS => ?_)
                refine lv_if_eq (tgt := 200) hx hb dX11_shape_169 (by decide) (fun hc => ?_) (fun hc => ?_)
                · have h := h.1 hc
                  refine lv_ldc2 (v := (-1 : Int64)) hx hb hown (hts _ (List.mem_cons_of_mem _ mw_275)) dX11_shape_200 ?_
                  exact zret_l hx hb hr hlocks hK hP hD hS h dX11_shape_203
                · have h := h.2 hc
                  refine lv_iload_n hx hb dX11_shape_172 rfl (lv_at hl 0 rfl) ?_
                  refine lv_iconst (v := (4 : Int32)) hx hb dX11_shape_173 (by decide) ?_
                  refine lv_icmp_lt (tgt := 200) hx hb dX11_shape_174 (by decide) (fun hc => ?_) (fun hc => ?_)
                  · have h := h.1 hc
                    refine lv_ldc2 (v := (-1 : Int64)) hx hb hown (hts _ (List.mem_cons_of_mem _ mw_275)) dX11_shape_200 ?_
                    exact zret_l hx hb hr hlocks hK hP hD hS h dX11_shape_203
                  · have h := h.2 hc
                    refine lv_aload_n hx hb dX11_shape_177 rfl (lv_at hl 1 rfl) ?_
                    refine xg_0_1 hx hb hts hown hK hP mw_290 dX11_shape_178 ?_
                    refine lv_iload_n hx hb dX11_shape_181 rfl (lv_at hl 0 rfl) ?_
                    refine lv_iload_n hx hb dX11_shape_182 rfl (lv_at hl 3 rfl) ?_
                    refine lv_iconst (v := (1 : Int32)) hx hb dX11_shape_183 (by decide) ?_
                    refine k_X3_circle N ⟨hx, hb, hml, hown, hts⟩ mw_523 ⟨Nat.le_of_ble_eq_true rfl, Nat.le_of_ble_eq_true rfl⟩ h hK hP hD hS hl.1 (rest := []) (Nat.le_of_ble_eq_true rfl) ⟨Nat.le_of_ble_eq_true rfl, Nat.le_of_ble_eq_true rfl⟩ dX11_shape_184 (fun r20 τ21 H locs h hP hD hS => ?_)
                    refine lv_aload_n hx hb dX11_shape_187 rfl (lv_at hl 1 rfl) ?_
                    refine xg_0_1 hx hb hts hown hK hP mw_290 dX11_shape_188 ?_
                    refine lv_iload_n hx hb dX11_shape_191 rfl (lv_at hl 3 rfl) ?_
                    refine lv_iload_n hx hb dX11_shape_192 rfl (lv_at hl 0 rfl) ?_
                    refine k_X3_star N ⟨hx, hb, hml, hown, hts⟩ mw_518 ⟨Nat.le_of_ble_eq_true rfl, Nat.le_of_ble_eq_true rfl⟩ h hK hP hD hS hl.1 (rest := [.long r20]) (Nat.le_of_ble_eq_true rfl) ⟨Nat.le_of_ble_eq_true rfl, Nat.le_of_ble_eq_true rfl⟩ dX11_shape_193 (fun r22 τ23 H locs h hP hD hS => ?_)
                    refine lv_lor hx hb dX11_shape_196 ?_
                    refine lv_goto (tgt := 203) hx hb dX11_shape_197 (by decide) ?_
                    exact zret_l hx hb hr hlocks hK hP hD hS h dX11_shape_203
              · have hn6 := hc6
                have h := h.2 hc6
                refine lv_tableOut (tgt := 204) hx hb dX11_shape_9 (by have e0 := zne (k := 0) (by decide) hn0; have e1 := zne (k := 1) (by decide) hn1; have e2 := zne (k := 2) (by decide) hn2; have e3 := zne (k := 3) (by decide) hn3; have e4 := zne (k := 4) (by decide) hn4; have e5 := zne (k := 5) (by decide) hn5; have e6 := zne (k := 6) (by decide) hn6; omega) (by decide) ?_
                refine lv_ldc2 (v := (-1 : Int64)) hx hb hown (hts _ (List.mem_cons_of_mem _ mw_275)) dX11_shape_204 ?_
                exact zret_l hx hb hr hlocks hK hP hD hS h dX11_shape_207
set_option maxHeartbeats 4000000 in
set_option maxRecDepth 100000 in
theorem c_X11_shape (N : Nat) (l : Launch) (dC : Nat → ClassId) (dI : Nat → Nat → Nat) (ad : Nat → Nat) (cI cJ : ClassId) (sz : Nat) (σ : zSt) (x1 : Int32) (x2 : Int32) (Q : Int64 → zSt → Prop) (h : w_X11_shape N x1 x2 σ Q) : Met l yX11_shape vs_X11_shape rm_X11_shape (va_Pc [.ref (ad 0), .int x1, .int x2] (zPc (dC, dI) (x_ty cI cJ) (x_W ad cI cJ) sz σ)) (zQl (dC, dI) (x_ty cI cJ) (x_W ad cI cJ) (zAW x_n ad sz) Q) 0 0 (zAW x_n ad sz) := by
  refine Met.ofW (cc := cX11_shape) (maxL := 4) (ret := (some .long)) (by decide) rfl ?_
  intro p e s m args below meth c s₁ B hml hv
  obtain ⟨rfl, hsz, hP, hK, hD0⟩ := hv
  subst hsz
  have C0 : zCx p s m meth c _ RX11 cX11_shape 4 (some .long) vs_X11_shape := ⟨B.exec, B.bytes, hml, B.returns, findClass_of_methodNamed B.named, atoms_spec (ws := vs_X11_shape) B.pre, B.notSynchronized⟩
  have hD := x_D0 (n0 := s.heap.size) hD0
  have hl := lv_entry ([.ref (ad 0), .int x1, .int x2]) (n := 4) (Nat.le_of_ble_eq_true rfl)
  rw [lg_entry_eq]
  generalize (lg_sl ([.ref (ad 0), .int x1, .int x2]) ++ List.replicate (4 - (lg_sl ([.ref (ad 0), .int x1, .int x2])).length) Slot.unset).toArray = ls at hl ⊢
  exact t_X11_shape_0 C0 hK N x1 x2 σ _ _ ls h hP hD va_S.rf hl
theorem k_X11_shape (N : Nat) {R : Room} {H : Heap} {locs : List Loc} {cells slots : Nat} {Q2 : State → Prop} {cc : ByteArray} {nL pc index : Nat} {ls : Array Slot} {rest : List Value} {own : String} {c0 : Cond} {σ : zSt} {x1 : Int32} {x2 : Int32} {Q : Int64 → zSt → Prop} (S0 : CallFix p m c cc nL s args (c0 :: zT) own) (hml : Cond.methodLink own index yX11_shape ∈ zT) (hR : rm_X11_shape.frames + 1 ≤ R.frames ∧ 8 + (4 + 11) + rm_X11_shape.locals ≤ R.locals) (h : w_X11_shape N x1 x2 σ Q) (hK : va_K (dC, dI) vwCl (x_ty cI cJ) s) (hP : va_P (dC, dI) vwCl (x_W ad cI cJ σ) H) (hD : va_D (zAW x_n ad s.heap.size) (x_W ad cI cJ σ)) (hS : va_S (zAW x_n ad s.heap.size) s.heap H locs) (hsz : ls.size = nL) (hW : (rest.map fun v => v.category).sum ≤ 8) (hcs : cells ≤ R.cells ∧ slots ≤ R.slots) (hdg : decode cc pc = .ok (.invokevirtual index, 3)) (kk : ∀ (r : Int64) (τ : zSt) (H1 : Heap) (locs1 : List Loc), Q r τ → va_P (dC, dI) vwCl (x_W ad cI cJ τ) H1 → va_D (zAW x_n ad s.heap.size) (x_W ad cI cJ τ) → va_S (zAW x_n ad s.heap.size) s.heap H1 locs1 → W p l e R s m args below meth c H1 locs1 cells slots Q2 (F0 m (pc + 3) ls (.long r :: rest))) : W p l e R s m args below meth c H locs cells slots Q2 (F0 m pc ls (.int x2 :: .int x1 :: .ref (ad 0) :: rest)) :=
  zcv_l (T := TX11) (N' := 17) (k := 0) (ci := 11) (fs := x_f0 ad σ) [.int x1, .int x2] S0 (c_X11_shape N l dC dI ad cI cJ H.size σ x1 x2 Q h) (cw_X11_shape S0.2.2.2.2 hml rfl rfl hR) rfl rfl hK hP hD hS rfl hsz hW rfl hcs hdg kk
end q05
section q05
def w_X11_canBeExtra (N : Nat) (x0 : Int32) (σ : zSt) (Q : Int32 → zSt → Prop) : Prop :=
  (x0 < (-1000 : Int32) → Q (0 : Int32) σ) ∧ (¬ x0 < (-1000 : Int32) → ((1000 : Int32) < x0 → Q (0 : Int32) σ) ∧ (¬ (1000 : Int32) < x0 → Q (1 : Int32) σ))
variable {p : Program} {l : Launch} {e : Env} {s : State} {m : MethodId} {args : Array Value} {below : List Frame} {meth : Method} {c : Code} {dC : Nat → ClassId} {dI : Nat → Nat → Nat} {ad : Nat → Nat} {cI cJ : ClassId}
set_option maxHeartbeats 4000000 in
set_option maxRecDepth 100000 in
theorem t_X11_canBeExtra_0 (C0 : zCx p s m meth c args RX11 cX11_canBeExtra 1 (some .boolean) vs_X11_canBeExtra) (hK : va_K (dC, dI) vwCl (x_ty cI cJ) s) (N : Nat) {Q : Int32 → zSt → Prop} : ∀ (x0 : Int32) (σ : zSt) (H : Heap) (locs : List Loc) (ls : Array Slot), w_X11_canBeExtra N x0 σ Q → va_P (dC, dI) vwCl (x_W ad cI cJ σ) H → va_D (zAW x_n ad s.heap.size) (x_W ad cI cJ σ) → va_S (zAW x_n ad s.heap.size) s.heap H locs → lv_has ls 1 [(0, .int x0)] → W p l e rm_X11_canBeExtra s m args below meth c H locs 0 0 (MQ below (zQi (dC, dI) (x_ty cI cJ) (x_W ad cI cJ) (zAW x_n ad s.heap.size) Q) args s 0 0 (zAW x_n ad s.heap.size)) (F0 m 0 ls []) := by
  obtain ⟨hx, hb, hml, hr, hown, hts, hlocks⟩ := id C0
  intro x0 σ H locs ls h hP hD hS hl
  unfold w_X11_canBeExtra at h
  refine lv_iload_n hx hb dX11_canBeExtra_0 rfl (lv_at hl 0 rfl) ?_
  refine lv_sipush (v := (-1000 : Int32)) hx hb dX11_canBeExtra_1 (by decide) ?_
  refine lv_icmp_lt (tgt := 18) hx hb dX11_canBeExtra_4 (by decide) (fun hc => ?_) (fun hc => ?_)
  · have h := h.1 hc
    refine lv_iconst (v := (0 : Int32)) hx hb dX11_canBeExtra_18 (by decide) ?_
    exact zret_z hx hb hr hlocks hK hP hD hS zb_0 h dX11_canBeExtra_19
  · have h := h.2 hc
    refine lv_iload_n hx hb dX11_canBeExtra_7 rfl (lv_at hl 0 rfl) ?_
    refine lv_sipush (v := (1000 : Int32)) hx hb dX11_canBeExtra_8 (by decide) ?_
    refine lv_icmp_gt (tgt := 18) hx hb dX11_canBeExtra_11 (by decide) (fun hc => ?_) (fun hc => ?_)
    · have h := h.1 hc
      refine lv_iconst (v := (0 : Int32)) hx hb dX11_canBeExtra_18 (by decide) ?_
      exact zret_z hx hb hr hlocks hK hP hD hS zb_0 h dX11_canBeExtra_19
    · have h := h.2 hc
      refine lv_iconst (v := (1 : Int32)) hx hb dX11_canBeExtra_14 (by decide) ?_
      refine lv_goto (tgt := 19) hx hb dX11_canBeExtra_15 (by decide) ?_
      exact zret_z hx hb hr hlocks hK hP hD hS zb_1 h dX11_canBeExtra_19
set_option maxHeartbeats 4000000 in
set_option maxRecDepth 100000 in
theorem c_X11_canBeExtra (N : Nat) (l : Launch) (dC : Nat → ClassId) (dI : Nat → Nat → Nat) (ad : Nat → Nat) (cI cJ : ClassId) (sz : Nat) (σ : zSt) (x0 : Int32) (Q : Int32 → zSt → Prop) (h : w_X11_canBeExtra N x0 σ Q) : Met l yX11_canBeExtra vs_X11_canBeExtra rm_X11_canBeExtra (va_Pc [.int x0] (zPc (dC, dI) (x_ty cI cJ) (x_W ad cI cJ) sz σ)) (zQi (dC, dI) (x_ty cI cJ) (x_W ad cI cJ) (zAW x_n ad sz) Q) 0 0 (zAW x_n ad sz) := by
  refine Met.ofW (cc := cX11_canBeExtra) (maxL := 1) (ret := (some .boolean)) (by decide) rfl ?_
  intro p e s m args below meth c s₁ B hml hv
  obtain ⟨rfl, hsz, hP, hK, hD0⟩ := hv
  subst hsz
  have C0 : zCx p s m meth c _ RX11 cX11_canBeExtra 1 (some .boolean) vs_X11_canBeExtra := ⟨B.exec, B.bytes, hml, B.returns, findClass_of_methodNamed B.named, atoms_spec (ws := vs_X11_canBeExtra) B.pre, B.notSynchronized⟩
  have hD := x_D0 (n0 := s.heap.size) hD0
  have hl := lv_entry ([.int x0]) (n := 1) (Nat.le_of_ble_eq_true rfl)
  rw [lg_entry_eq]
  generalize (lg_sl ([.int x0]) ++ List.replicate (1 - (lg_sl ([.int x0])).length) Slot.unset).toArray = ls at hl ⊢
  exact t_X11_canBeExtra_0 C0 hK N x0 σ _ _ ls h hP hD va_S.rf hl
theorem k_X11_canBeExtra (N : Nat) {R : Room} {H : Heap} {locs : List Loc} {cells slots : Nat} {Q2 : State → Prop} {cc : ByteArray} {nL pc index : Nat} {ls : Array Slot} {rest : List Value} {own : String} {c0 : Cond} {σ : zSt} {x0 : Int32} {Q : Int32 → zSt → Prop} (S0 : CallFix p m c cc nL s args (c0 :: zT) own) (hml : Cond.methodLink own index yX11_canBeExtra ∈ zT) (hR : rm_X11_canBeExtra.frames + 1 ≤ R.frames ∧ 8 + (1 + 11) + rm_X11_canBeExtra.locals ≤ R.locals) (h : w_X11_canBeExtra N x0 σ Q) (hK : va_K (dC, dI) vwCl (x_ty cI cJ) s) (hP : va_P (dC, dI) vwCl (x_W ad cI cJ σ) H) (hD : va_D (zAW x_n ad s.heap.size) (x_W ad cI cJ σ)) (hS : va_S (zAW x_n ad s.heap.size) s.heap H locs) (hsz : ls.size = nL) (hW : (rest.map fun v => v.category).sum ≤ 8) (hcs : cells ≤ R.cells ∧ slots ≤ R.slots) (hdg : decode cc pc = .ok (.invokestatic index, 3)) (kk : ∀ (r : Int32) (τ : zSt) (H1 : Heap) (locs1 : List Loc), Q r τ → va_P (dC, dI) vwCl (x_W ad cI cJ τ) H1 → va_D (zAW x_n ad s.heap.size) (x_W ad cI cJ τ) → va_S (zAW x_n ad s.heap.size) s.heap H1 locs1 → W p l e R s m args below meth c H1 locs1 cells slots Q2 (F0 m (pc + 3) ls (.int r :: rest))) : W p l e R s m args below meth c H locs cells slots Q2 (F0 m pc ls (.int x0 :: rest)) :=
  zcs_i [.int x0] S0 (c_X11_canBeExtra N l dC dI ad cI cJ H.size σ x0 Q h) (cw_X11_canBeExtra S0.2.2.2.2 hml hR) hK hP hD hS rfl hsz hW rfl hcs hdg kk
end q05
section q05
def w_X11_extra (N : Nat) (x1 : Int32) (σ : zSt) (Q : Int32 → zSt → Prop) : Prop :=
  w_X11_canBeExtra N x1 σ (fun r1 τ2 => (r1 = 0 → Q (0 : Int32) τ2) ∧ (¬ r1 = 0 → ∀ τ3 : zSt, τ3 = zI τ2 25 x1 → Q (1 : Int32) τ3))
variable {p : Program} {l : Launch} {e : Env} {s : State} {m : MethodId} {args : Array Value} {below : List Frame} {meth : Method} {c : Code} {dC : Nat → ClassId} {dI : Nat → Nat → Nat} {ad : Nat → Nat} {cI cJ : ClassId}
set_option maxHeartbeats 4000000 in
set_option maxRecDepth 100000 in
theorem t_X11_extra_0 (C0 : zCx p s m meth c args RX11 cX11_extra 2 (some .boolean) vs_X11_extra) (hK : va_K (dC, dI) vwCl (x_ty cI cJ) s) (N : Nat) {Q : Int32 → zSt → Prop} : ∀ (x1 : Int32) (σ : zSt) (H : Heap) (locs : List Loc) (ls : Array Slot), w_X11_extra N x1 σ Q → va_P (dC, dI) vwCl (x_W ad cI cJ σ) H → va_D (zAW x_n ad s.heap.size) (x_W ad cI cJ σ) → va_S (zAW x_n ad s.heap.size) s.heap H locs → lv_has ls 2 [(0, .ref (ad 0)), (1, .int x1)] → W p l e rm_X11_extra s m args below meth c H locs 0 0 (MQ below (zQi (dC, dI) (x_ty cI cJ) (x_W ad cI cJ) (zAW x_n ad s.heap.size) Q) args s 0 0 (zAW x_n ad s.heap.size)) (F0 m 0 ls []) := by
  obtain ⟨hx, hb, hml, hr, hown, hts, hlocks⟩ := id C0
  intro x1 σ H locs ls h hP hD hS hl
  unfold w_X11_extra at h
  refine lv_iload_n hx hb dX11_extra_0 rfl (lv_at hl 1 rfl) ?_
  refine k_X11_canBeExtra N ⟨hx, hb, hml, hown, hts⟩ mw_531 ⟨Nat.le_of_ble_eq_true rfl, Nat.le_of_ble_eq_true rfl⟩ h hK hP hD hS hl.1 (rest := []) (Nat.le_of_ble_eq_true rfl) ⟨Nat.le_of_ble_eq_true rfl, Nat.le_of_ble_eq_true rfl⟩ dX11_extra_1 (fun r1 τ2 H locs h hP hD hS => ?_)
  refine lv_if_ne (tgt := 9) hx hb dX11_extra_4 (by decide) (fun hc => ?_) (fun hc => ?_)
  · have h := h.2 hc
    refine lv_aload_n hx hb dX11_extra_9 rfl (lv_at hl 0 rfl) ?_
    refine xg_0_5 hx hb hts hown hK hP mw_294 dX11_extra_10 ?_
    refine lv_iload_n hx hb dX11_extra_13 rfl (lv_at hl 1 rfl) ?_
    refine xp_9_6 hx hb hts hown hK hP hD hS mw_207 dX11_extra_14 (fun τ3 H locs eτ3 hP hD hS => ?_)
    have h := h τ3 eτ3
    refine lv_iconst (v := (1 : Int32)) hx hb dX11_extra_17 (by decide) ?_
    exact zret_z hx hb hr hlocks hK hP hD hS zb_1 h dX11_extra_18
  · have h := h.1 hc
    refine lv_iconst (v := (0 : Int32)) hx hb dX11_extra_7 (by decide) ?_
    exact zret_z hx hb hr hlocks hK hP hD hS zb_0 h dX11_extra_8
set_option maxHeartbeats 4000000 in
set_option maxRecDepth 100000 in
theorem c_X11_extra (N : Nat) (l : Launch) (dC : Nat → ClassId) (dI : Nat → Nat → Nat) (ad : Nat → Nat) (cI cJ : ClassId) (sz : Nat) (σ : zSt) (x1 : Int32) (Q : Int32 → zSt → Prop) (h : w_X11_extra N x1 σ Q) : Met l yX11_extra vs_X11_extra rm_X11_extra (va_Pc [.ref (ad 0), .int x1] (zPc (dC, dI) (x_ty cI cJ) (x_W ad cI cJ) sz σ)) (zQi (dC, dI) (x_ty cI cJ) (x_W ad cI cJ) (zAW x_n ad sz) Q) 0 0 (zAW x_n ad sz) := by
  refine Met.ofW (cc := cX11_extra) (maxL := 2) (ret := (some .boolean)) (by decide) rfl ?_
  intro p e s m args below meth c s₁ B hml hv
  obtain ⟨rfl, hsz, hP, hK, hD0⟩ := hv
  subst hsz
  have C0 : zCx p s m meth c _ RX11 cX11_extra 2 (some .boolean) vs_X11_extra := ⟨B.exec, B.bytes, hml, B.returns, findClass_of_methodNamed B.named, atoms_spec (ws := vs_X11_extra) B.pre, B.notSynchronized⟩
  have hD := x_D0 (n0 := s.heap.size) hD0
  have hl := lv_entry ([.ref (ad 0), .int x1]) (n := 2) (Nat.le_of_ble_eq_true rfl)
  rw [lg_entry_eq]
  generalize (lg_sl ([.ref (ad 0), .int x1]) ++ List.replicate (2 - (lg_sl ([.ref (ad 0), .int x1])).length) Slot.unset).toArray = ls at hl ⊢
  exact t_X11_extra_0 C0 hK N x1 σ _ _ ls h hP hD va_S.rf hl
theorem k_X11_extra (N : Nat) {R : Room} {H : Heap} {locs : List Loc} {cells slots : Nat} {Q2 : State → Prop} {cc : ByteArray} {nL pc index : Nat} {ls : Array Slot} {rest : List Value} {own : String} {c0 : Cond} {σ : zSt} {x1 : Int32} {Q : Int32 → zSt → Prop} (S0 : CallFix p m c cc nL s args (c0 :: zT) own) (hml : Cond.methodLink own index yX11_extra ∈ zT) (hR : rm_X11_extra.frames + 1 ≤ R.frames ∧ 8 + (2 + 11) + rm_X11_extra.locals ≤ R.locals) (h : w_X11_extra N x1 σ Q) (hK : va_K (dC, dI) vwCl (x_ty cI cJ) s) (hP : va_P (dC, dI) vwCl (x_W ad cI cJ σ) H) (hD : va_D (zAW x_n ad s.heap.size) (x_W ad cI cJ σ)) (hS : va_S (zAW x_n ad s.heap.size) s.heap H locs) (hsz : ls.size = nL) (hW : (rest.map fun v => v.category).sum ≤ 8) (hcs : cells ≤ R.cells ∧ slots ≤ R.slots) (hdg : decode cc pc = .ok (.invokevirtual index, 3)) (kk : ∀ (r : Int32) (τ : zSt) (H1 : Heap) (locs1 : List Loc), Q r τ → va_P (dC, dI) vwCl (x_W ad cI cJ τ) H1 → va_D (zAW x_n ad s.heap.size) (x_W ad cI cJ τ) → va_S (zAW x_n ad s.heap.size) s.heap H1 locs1 → W p l e R s m args below meth c H1 locs1 cells slots Q2 (F0 m (pc + 3) ls (.int r :: rest))) : W p l e R s m args below meth c H locs cells slots Q2 (F0 m pc ls (.int x1 :: .ref (ad 0) :: rest)) :=
  zcv_i (T := TX11) (N' := 17) (k := 0) (ci := 11) (fs := x_f0 ad σ) [.int x1] S0 (c_X11_extra N l dC dI ad cI cJ H.size σ x1 Q h) (cw_X11_extra S0.2.2.2.2 hml rfl rfl hR) rfl rfl hK hP hD hS rfl hsz hW rfl hcs hdg kk
end q05
section q05
def w_X10_mix (N : Nat) (x0 : Int64) (σ : zSt) (Q : Int64 → zSt → Prop) : Prop :=
  Q (((x0 ^^^ (x0 >>> ((13 : Int32).toInt64 &&& 63))) ^^^ (x0 >>> ((26 : Int32).toInt64 &&& 63))) ^^^ (x0 >>> ((39 : Int32).toInt64 &&& 63))) σ
variable {p : Program} {l : Launch} {e : Env} {s : State} {m : MethodId} {args : Array Value} {below : List Frame} {meth : Method} {c : Code} {dC : Nat → ClassId} {dI : Nat → Nat → Nat} {ad : Nat → Nat} {cI cJ : ClassId}
set_option maxHeartbeats 4000000 in
set_option maxRecDepth 100000 in
theorem t_X10_mix_0 (C0 : zCx p s m meth c args RX10 cX10_mix 2 (some .long) vs_X10_mix) (hK : va_K (dC, dI) vwCl (x_ty cI cJ) s) (N : Nat) {Q : Int64 → zSt → Prop} : ∀ (x0 : Int64) (σ : zSt) (H : Heap) (locs : List Loc) (ls : Array Slot), w_X10_mix N x0 σ Q → va_P (dC, dI) vwCl (x_W ad cI cJ σ) H → va_D (zAW x_n ad s.heap.size) (x_W ad cI cJ σ) → va_S (zAW x_n ad s.heap.size) s.heap H locs → lv_has ls 2 [(0, .long x0)] → W p l e rm_X10_mix s m args below meth c H locs 0 0 (MQ below (zQl (dC, dI) (x_ty cI cJ) (x_W ad cI cJ) (zAW x_n ad s.heap.size) Q) args s 0 0 (zAW x_n ad s.heap.size)) (F0 m 0 ls []) := by
  obtain ⟨hx, hb, hml, hr, hown, hts, hlocks⟩ := id C0
  intro x0 σ H locs ls h hP hD hS hl
  unfold w_X10_mix at h
  refine lv_lload_n hx hb dX10_mix_0 rfl (lv_at hl 0 rfl) ?_
  refine lv_lload_n hx hb dX10_mix_1 rfl (lv_at hl 0 rfl) ?_
  refine lv_bipush (v := (13 : Int32)) hx hb dX10_mix_2 (by decide) ?_
  refine lv_lshr hx hb dX10_mix_4 rfl ?_
  refine lv_lxor hx hb dX10_mix_5 ?_
  refine lv_lload_n hx hb dX10_mix_6 rfl (lv_at hl 0 rfl) ?_
  refine lv_bipush (v := (26 : Int32)) hx hb dX10_mix_7 (by decide) ?_
  refine lv_lshr hx hb dX10_mix_9 rfl ?_
  refine lv_lxor hx hb dX10_mix_10 ?_
  refine lv_lload_n hx hb dX10_mix_11 rfl (lv_at hl 0 rfl) ?_
  refine lv_bipush (v := (39 : Int32)) hx hb dX10_mix_12 (by decide) ?_
  refine lv_lshr hx hb dX10_mix_14 rfl ?_
  refine lv_lxor hx hb dX10_mix_15 ?_
  exact zret_l hx hb hr hlocks hK hP hD hS h dX10_mix_16
set_option maxHeartbeats 4000000 in
set_option maxRecDepth 100000 in
theorem c_X10_mix (N : Nat) (l : Launch) (dC : Nat → ClassId) (dI : Nat → Nat → Nat) (ad : Nat → Nat) (cI cJ : ClassId) (sz : Nat) (σ : zSt) (x0 : Int64) (Q : Int64 → zSt → Prop) (h : w_X10_mix N x0 σ Q) : Met l yX10_mix vs_X10_mix rm_X10_mix (va_Pc [.long x0] (zPc (dC, dI) (x_ty cI cJ) (x_W ad cI cJ) sz σ)) (zQl (dC, dI) (x_ty cI cJ) (x_W ad cI cJ) (zAW x_n ad sz) Q) 0 0 (zAW x_n ad sz) := by
  refine Met.ofW (cc := cX10_mix) (maxL := 2) (ret := (some .long)) (by decide) rfl ?_
  intro p e s m args below meth c s₁ B hml hv
  obtain ⟨rfl, hsz, hP, hK, hD0⟩ := hv
  subst hsz
  have C0 : zCx p s m meth c _ RX10 cX10_mix 2 (some .long) vs_X10_mix := ⟨B.exec, B.bytes, hml, B.returns, findClass_of_methodNamed B.named, atoms_spec (ws := vs_X10_mix) B.pre, B.notSynchronized⟩
  have hD := x_D0 (n0 := s.heap.size) hD0
  have hl := lv_entry ([.long x0]) (n := 2) (Nat.le_of_ble_eq_true rfl)
  rw [lg_entry_eq]
  generalize (lg_sl ([.long x0]) ++ List.replicate (2 - (lg_sl ([.long x0])).length) Slot.unset).toArray = ls at hl ⊢
  exact t_X10_mix_0 C0 hK N x0 σ _ _ ls h hP hD va_S.rf hl
theorem k_X10_mix (N : Nat) {R : Room} {H : Heap} {locs : List Loc} {cells slots : Nat} {Q2 : State → Prop} {cc : ByteArray} {nL pc index : Nat} {ls : Array Slot} {rest : List Value} {own : String} {c0 : Cond} {σ : zSt} {x0 : Int64} {Q : Int64 → zSt → Prop} (S0 : CallFix p m c cc nL s args (c0 :: zT) own) (hml : Cond.methodLink own index yX10_mix ∈ zT) (hR : rm_X10_mix.frames + 1 ≤ R.frames ∧ 8 + (2 + 11) + rm_X10_mix.locals ≤ R.locals) (h : w_X10_mix N x0 σ Q) (hK : va_K (dC, dI) vwCl (x_ty cI cJ) s) (hP : va_P (dC, dI) vwCl (x_W ad cI cJ σ) H) (hD : va_D (zAW x_n ad s.heap.size) (x_W ad cI cJ σ)) (hS : va_S (zAW x_n ad s.heap.size) s.heap H locs) (hsz : ls.size = nL) (hW : (rest.map fun v => v.category).sum ≤ 8) (hcs : cells ≤ R.cells ∧ slots ≤ R.slots) (hdg : decode cc pc = .ok (.invokestatic index, 3)) (kk : ∀ (r : Int64) (τ : zSt) (H1 : Heap) (locs1 : List Loc), Q r τ → va_P (dC, dI) vwCl (x_W ad cI cJ τ) H1 → va_D (zAW x_n ad s.heap.size) (x_W ad cI cJ τ) → va_S (zAW x_n ad s.heap.size) s.heap H1 locs1 → W p l e R s m args below meth c H1 locs1 cells slots Q2 (F0 m (pc + 3) ls (.long r :: rest))) : W p l e R s m args below meth c H locs cells slots Q2 (F0 m pc ls (.long x0 :: rest)) :=
  zcs_l [.long x0] S0 (c_X10_mix N l dC dI ad cI cJ H.size σ x0 Q h) (cw_X10_mix S0.2.2.2.2 hml hR) hK hP hD hS rfl hsz hW rfl hcs hdg kk
end q05
section q05
def b_X10_lay_50 (N : Nat) (k_50 : Int64 → Int32 → zSt → Prop) (Q : zSt → Prop) (x1 : Int64) (x4 : Int32) (σ : zSt) : Prop :=
  ((σ.1 2) ≤ x4 → Q σ) ∧ (¬ (σ.1 2) ≤ x4 → ((lg_cmp ((x1 >>> (x4.toInt64 &&& 63)) &&& (1 : Int64)) (0 : Int64)) = 0 → ∀ v1 : Int32, v1 = x4 + (1 : Int32) → k_50 x1 v1 σ) ∧ (¬ (lg_cmp ((x1 >>> (x4.toInt64 &&& 63)) &&& (1 : Int64)) (0 : Int64)) = 0 → (vp_in x4 45) ∧ ((vp_in (σ.2.2.1 3 x4.toNatClampNeg) 10) ∧ ((vp_in x4 45) ∧ ((vp_in (σ.2.2.1 3 x4.toNatClampNeg) 10) ∧ (∀ τ2 : zSt, τ2 = zA σ 28 (upd (σ.2.2.1 28) ((σ.2.2.1 3 x4.toNatClampNeg).toNatClampNeg) ((σ.2.2.1 28 (σ.2.2.1 3 x4.toNatClampNeg).toNatClampNeg) ||| ((1 : Int32) <<< ((σ.2.2.1 4 x4.toNatClampNeg) &&& 31)))) → (vp_in x4 45) ∧ ((vp_in (τ2.2.2.1 4 x4.toNatClampNeg) 10) ∧ ((vp_in x4 45) ∧ ((vp_in (τ2.2.2.1 4 x4.toNatClampNeg) 10) ∧ (∀ τ3 : zSt, τ3 = zA τ2 28 (upd (τ2.2.2.1 28) ((τ2.2.2.1 4 x4.toNatClampNeg).toNatClampNeg) ((τ2.2.2.1 28 (τ2.2.2.1 4 x4.toNatClampNeg).toNatClampNeg) ||| ((1 : Int32) <<< ((τ2.2.2.1 3 x4.toNatClampNeg) &&& 31)))) → ∀ v4 : Int32, v4 = x4 + (1 : Int32) → k_50 x1 v4 τ3))))))))))
def w_X10_lay_50 (N : Nat) (Q : zSt → Prop) : Nat → Int64 → Int32 → zSt → Prop
  | 0 => fun _ _ _ => False
  | f + 1 => b_X10_lay_50 N (w_X10_lay_50 N  Q f) Q
def b_X10_lay_17 (N : Nat) (k_17 : Int64 → Int32 → zSt → Prop) (Q : zSt → Prop) (x1 : Int64) (x3 : Int32) (σ : zSt) : Prop :=
  ((10 : Int32) ≤ x3 → w_X10_lay_50 N Q N x1 (0 : Int32) σ) ∧ (¬ (10 : Int32) ≤ x3 → (vp_in x3 10) ∧ (∀ τ1 : zSt, τ1 = zA σ 28 (upd (σ.2.2.1 28) (x3.toNatClampNeg) (0 : Int32)) → ∀ v2 : Int32, v2 = x3 + (1 : Int32) → k_17 x1 v2 τ1))
def w_X10_lay_17 (N : Nat) (Q : zSt → Prop) : Nat → Int64 → Int32 → zSt → Prop
  | 0 => fun _ _ _ => False
  | f + 1 => b_X10_lay_17 N (w_X10_lay_17 N  Q f) Q
def w_X10_lay (N : Nat) (x1 : Int64) (σ : zSt) (Q : zSt → Prop) : Prop :=
  ((lg_cmp x1 (σ.2.1 4)) = 0 → Q σ) ∧ (¬ (lg_cmp x1 (σ.2.1 4)) = 0 → ∀ τ1 : zSt, τ1 = zJ σ 4 x1 → w_X10_lay_17 N Q N x1 (0 : Int32) τ1)
variable {p : Program} {l : Launch} {e : Env} {s : State} {m : MethodId} {args : Array Value} {below : List Frame} {meth : Method} {c : Code} {dC : Nat → ClassId} {dI : Nat → Nat → Nat} {ad : Nat → Nat} {cI cJ : ClassId}
set_option maxHeartbeats 4000000 in
set_option maxRecDepth 100000 in
theorem tb_X10_lay_50 (C0 : zCx p s m meth c args RX10 cX10_lay 5 none vs_X10_lay) (hK : va_K (dC, dI) vwCl (x_ty cI cJ) s) (N : Nat) {Q : zSt → Prop} {k_50 : Int64 → Int32 → zSt → Prop} (hk_50 : ∀ (x1 : Int64) (x4 : Int32) (σ : zSt) (H : Heap) (locs : List Loc) (ls : Array Slot), k_50 x1 x4 σ → va_P (dC, dI) vwCl (x_W ad cI cJ σ) H → va_D (zAW x_n ad s.heap.size) (x_W ad cI cJ σ) → va_S (zAW x_n ad s.heap.size) s.heap H locs → lv_has ls 5 [(0, .ref (ad 9)), (1, .long x1), (3, .ref (ad 2)), (4, .int x4)] → W p l e rm_X10_lay s m args below meth c H locs 0 0 (MQ below (zQv (dC, dI) (x_ty cI cJ) (x_W ad cI cJ) (zAW x_n ad s.heap.size) Q) args s 0 0 (zAW x_n ad s.heap.size)) (F0 m 50 ls [])) : ∀ (x1 : Int64) (x4 : Int32) (σ : zSt) (H : Heap) (locs : List Loc) (ls : Array Slot), b_X10_lay_50 N k_50 Q x1 x4 σ → va_P (dC, dI) vwCl (x_W ad cI cJ σ) H → va_D (zAW x_n ad s.heap.size) (x_W ad cI cJ σ) → va_S (zAW x_n ad s.heap.size) s.heap H locs → lv_has ls 5 [(0, .ref (ad 9)), (1, .long x1), (3, .ref (ad 2)), (4, .int x4)] → W p l e rm_X10_lay s m args below meth c H locs 0 0 (MQ below (zQv (dC, dI) (x_ty cI cJ) (x_W ad cI cJ) (zAW x_n ad s.heap.size) Q) args s 0 0 (zAW x_n ad s.heap.size)) (F0 m 50 ls []) := by
  obtain ⟨hx, hb, hml, hr, hown, hts, hlocks⟩ := id C0
  intro x1 x4 σ H locs ls h hP hD hS hl
  unfold b_X10_lay_50 at h
  refine lv_iload hx hb dX10_lay_50 (lv_at hl 3 rfl) ?_
  refine lv_aload_n hx hb dX10_lay_52 rfl (lv_at hl 0 rfl) ?_
  refine xg_9_0 hx hb hts hown hK hP mw_199 dX10_lay_53 ?_
  refine xg_3_5 hx hb hts hown hK hP mw_82 dX10_lay_56 ?_
  refine lv_icmp_ge (tgt := 127) hx hb dX10_lay_59 (by decide) (fun hc => ?_) (fun hc => ?_)
  · have h := h.1 hc
    exact zret_v hx hb hr hlocks hK hP hD hS h dX10_lay_127
  · have h := h.2 hc
    refine lv_lload_n hx hb dX10_lay_62 rfl (lv_at hl 1 rfl) ?_
    refine lv_iload hx hb dX10_lay_63 (lv_at hl 3 rfl) ?_
    refine lv_lshr hx hb dX10_lay_65 rfl ?_
    refine lv_lconst (v := (1 : Int64)) hx hb dX10_lay_66 (by decide) ?_
    refine lv_land hx hb dX10_lay_67 ?_
    refine lv_lconst (v := (0 : Int64)) hx hb dX10_lay_68 (by decide) ?_
    refine W.lcmp hx hb dX10_lay_69 ?_
    refine lv_if_eq (tgt := 121) hx hb dX10_lay_70 (by decide) (fun hc => ?_) (fun hc => ?_)
    · have h := h.1 hc
      obtain ⟨v1, ev1⟩ : ∃ z : Int32, z = x4 + (1 : Int32) := ⟨_, rfl⟩
      have h := h v1 ev1
      refine lv_iinc (v := v1) (lv' := [(4, .int v1), (0, .ref (ad 9)), (1, .long x1), (3, .ref (ad 2))]) hx hb dX10_lay_121 hl (k := 3) rfl (by rw [ev1]; rfl) (by decide) rfl (fun ls hl => ?_)
      refine lv_goto (tgt := 50) hx hb dX10_lay_124 (by decide) ?_
      exact hk_50 x1 v1 σ _ _ _ h hP hD hS (lv_sub hl [1, 2, 3, 0] rfl)
    · have h := h.2 hc
      refine lv_aload_n hx hb dX10_lay_73 rfl (lv_at hl 0 rfl) ?_
      refine xg_9_4 hx hb hts hown hK hP mw_203 dX10_lay_74 ?_
      refine lv_aload_n hx hb dX10_lay_77 rfl (lv_at hl 2 rfl) ?_
      refine xg_2_0 hx hb hts hown hK hP mw_47 dX10_lay_78 ?_
      refine lv_iload hx hb dX10_lay_81 (lv_at hl 3 rfl) ?_
      refine xa_20 hx hb hK hP h.1 rfl dX10_lay_83 ?_
      have h := h.2
      refine lv_dup2_11 hx hb dX10_lay_84 rfl rfl ?_
      refine xa_50 hx hb hK hP h.1 rfl dX10_lay_85 ?_
      have h := h.2
      refine lv_iconst (v := (1 : Int32)) hx hb dX10_lay_86 (by decide) ?_
      refine lv_aload_n hx hb dX10_lay_87 rfl (lv_at hl 2 rfl) ?_
      refine xg_2_1 hx hb hts hown hK hP mw_51 dX10_lay_88 ?_
      refine lv_iload hx hb dX10_lay_91 (lv_at hl 3 rfl) ?_
      refine xa_21 hx hb hK hP h.1 rfl dX10_lay_93 ?_
      have h := h.2
      refine lv_ishl hx hb dX10_lay_94 ?_
      refine lv_ior hx hb dX10_lay_95 ?_
      refine xs_50 hx hb hK hP hD hS h.1 rfl dX10_lay_96 (fun τ2 H locs eτ2 hP hD hS => ?_)
      have h := h.2
      have h := h τ2 eτ2
      refine lv_aload_n hx hb dX10_lay_97 rfl (lv_at hl 0 rfl) ?_
      refine xg_9_4 hx hb hts hown hK hP mw_203 dX10_lay_98 ?_
      refine lv_aload_n hx hb dX10_lay_101 rfl (lv_at hl 2 rfl) ?_
      refine xg_2_1 hx hb hts hown hK hP mw_51 dX10_lay_102 ?_
      refine lv_iload hx hb dX10_lay_105 (lv_at hl 3 rfl) ?_
      refine xa_21 hx hb hK hP h.1 rfl dX10_lay_107 ?_
      have h := h.2
      refine lv_dup2_11 hx hb dX10_lay_108 rfl rfl ?_
      refine xa_50 hx hb hK hP h.1 rfl dX10_lay_109 ?_
      have h := h.2
      refine lv_iconst (v := (1 : Int32)) hx hb dX10_lay_110 (by decide) ?_
      refine lv_aload_n hx hb dX10_lay_111 rfl (lv_at hl 2 rfl) ?_
      refine xg_2_0 hx hb hts hown hK hP mw_47 dX10_lay_112 ?_
      refine lv_iload hx hb dX10_lay_115 (lv_at hl 3 rfl) ?_
      refine xa_20 hx hb hK hP h.1 rfl dX10_lay_117 ?_
      have h := h.2
      refine lv_ishl hx hb dX10_lay_118 ?_
      refine lv_ior hx hb dX10_lay_119 ?_
      refine xs_50 hx hb hK hP hD hS h.1 rfl dX10_lay_120 (fun τ3 H locs eτ3 hP hD hS => ?_)
      have h := h.2
      have h := h τ3 eτ3
      obtain ⟨v4, ev4⟩ : ∃ z : Int32, z = x4 + (1 : Int32) := ⟨_, rfl⟩
      have h := h v4 ev4
      refine lv_iinc (v := v4) (lv' := [(4, .int v4), (0, .ref (ad 9)), (1, .long x1), (3, .ref (ad 2))]) hx hb dX10_lay_121 hl (k := 3) rfl (by rw [ev4]; rfl) (by decide) rfl (fun ls hl => ?_)
      refine lv_goto (tgt := 50) hx hb dX10_lay_124 (by decide) ?_
      exact hk_50 x1 v4 τ3 _ _ _ h hP hD hS (lv_sub hl [1, 2, 3, 0] rfl)
set_option maxHeartbeats 4000000 in
set_option maxRecDepth 100000 in
theorem t_X10_lay_50 (C0 : zCx p s m meth c args RX10 cX10_lay 5 none vs_X10_lay) (hK : va_K (dC, dI) vwCl (x_ty cI cJ) s) (N : Nat) {Q : zSt → Prop} : ∀ (f : Nat) (x1 : Int64) (x4 : Int32) (σ : zSt) (H : Heap) (locs : List Loc) (ls : Array Slot), w_X10_lay_50 N  Q f x1 x4 σ → va_P (dC, dI) vwCl (x_W ad cI cJ σ) H → va_D (zAW x_n ad s.heap.size) (x_W ad cI cJ σ) → va_S (zAW x_n ad s.heap.size) s.heap H locs → lv_has ls 5 [(0, .ref (ad 9)), (1, .long x1), (3, .ref (ad 2)), (4, .int x4)] → W p l e rm_X10_lay s m args below meth c H locs 0 0 (MQ below (zQv (dC, dI) (x_ty cI cJ) (x_W ad cI cJ) (zAW x_n ad s.heap.size) Q) args s 0 0 (zAW x_n ad s.heap.size)) (F0 m 50 ls []) := by
  intro f
  induction f with
  | zero => intro x1 x4 σ H locs ls h; exact h.elim
  | succ f ih =>
    intro x1 x4 σ H locs ls h hP hD hS hl
    exact tb_X10_lay_50 C0 hK N  (k_50 := w_X10_lay_50 N  Q f) ih x1 x4 σ H locs ls h hP hD hS hl
set_option maxHeartbeats 4000000 in
set_option maxRecDepth 100000 in
theorem tb_X10_lay_17 (C0 : zCx p s m meth c args RX10 cX10_lay 5 none vs_X10_lay) (hK : va_K (dC, dI) vwCl (x_ty cI cJ) s) (N : Nat) {Q : zSt → Prop} {k_17 : Int64 → Int32 → zSt → Prop} (hk_17 : ∀ (x1 : Int64) (x3 : Int32) (σ : zSt) (H : Heap) (locs : List Loc) (ls : Array Slot), k_17 x1 x3 σ → va_P (dC, dI) vwCl (x_W ad cI cJ σ) H → va_D (zAW x_n ad s.heap.size) (x_W ad cI cJ σ) → va_S (zAW x_n ad s.heap.size) s.heap H locs → lv_has ls 5 [(0, .ref (ad 9)), (1, .long x1), (3, .int x3)] → W p l e rm_X10_lay s m args below meth c H locs 0 0 (MQ below (zQv (dC, dI) (x_ty cI cJ) (x_W ad cI cJ) (zAW x_n ad s.heap.size) Q) args s 0 0 (zAW x_n ad s.heap.size)) (F0 m 17 ls [])) : ∀ (x1 : Int64) (x3 : Int32) (σ : zSt) (H : Heap) (locs : List Loc) (ls : Array Slot), b_X10_lay_17 N k_17 Q x1 x3 σ → va_P (dC, dI) vwCl (x_W ad cI cJ σ) H → va_D (zAW x_n ad s.heap.size) (x_W ad cI cJ σ) → va_S (zAW x_n ad s.heap.size) s.heap H locs → lv_has ls 5 [(0, .ref (ad 9)), (1, .long x1), (3, .int x3)] → W p l e rm_X10_lay s m args below meth c H locs 0 0 (MQ below (zQv (dC, dI) (x_ty cI cJ) (x_W ad cI cJ) (zAW x_n ad s.heap.size) Q) args s 0 0 (zAW x_n ad s.heap.size)) (F0 m 17 ls []) := by
  obtain ⟨hx, hb, hml, hr, hown, hts, hlocks⟩ := id C0
  intro x1 x3 σ H locs ls h hP hD hS hl
  unfold b_X10_lay_17 at h
  refine lv_iload_n hx hb dX10_lay_17 rfl (lv_at hl 2 rfl) ?_
  refine lv_aload_n hx hb dX10_lay_18 rfl (lv_at hl 0 rfl) ?_
  refine xg_9_4 hx hb hts hown hK hP mw_203 dX10_lay_19 ?_
  refine xl_50 hx hb hK hP dX10_lay_22 ?_
  refine lv_icmp_ge (tgt := 39) hx hb dX10_lay_23 (by decide) (fun hc => ?_) (fun hc => ?_)
  · have h := h.1 hc
    refine lv_aload_n hx hb dX10_lay_39 rfl (lv_at hl 0 rfl) ?_
    refine xg_9_0 hx hb hts hown hK hP mw_199 dX10_lay_40 ?_
    refine xg_3_0 hx hb hts hown hK hP mw_66 dX10_lay_43 ?_
    refine lv_astore_n (lv' := [(3, .ref (ad 2)), (0, .ref (ad 9)), (1, .long x1)]) hx hb dX10_lay_46 rfl hl (by decide) rfl (fun ls hl => ?_)
    refine lv_iconst (v := (0 : Int32)) hx hb dX10_lay_47 (by decide) ?_
    refine lv_istore (lv' := [(4, .int (0 : Int32)), (3, .ref (ad 2)), (0, .ref (ad 9)), (1, .long x1)]) hx hb dX10_lay_48 hl (by decide) rfl (fun ls hl => ?_)
    exact t_X10_lay_50 C0 hK N  N x1 (0 : Int32) σ _ _ _ h hP hD hS (lv_sub hl [2, 3, 1, 0] rfl)
  · have h := h.2 hc
    refine lv_aload_n hx hb dX10_lay_26 rfl (lv_at hl 0 rfl) ?_
    refine xg_9_4 hx hb hts hown hK hP mw_203 dX10_lay_27 ?_
    refine lv_iload_n hx hb dX10_lay_30 rfl (lv_at hl 2 rfl) ?_
    refine lv_iconst (v := (0 : Int32)) hx hb dX10_lay_31 (by decide) ?_
    refine xs_50 hx hb hK hP hD hS h.1 rfl dX10_lay_32 (fun τ1 H locs eτ1 hP hD hS => ?_)
    have h := h.2
    have h := h τ1 eτ1
    obtain ⟨v2, ev2⟩ : ∃ z : Int32, z = x3 + (1 : Int32) := ⟨_, rfl⟩
    have h := h v2 ev2
    refine lv_iinc (v := v2) (lv' := [(3, .int v2), (0, .ref (ad 9)), (1, .long x1)]) hx hb dX10_lay_33 hl (k := 2) rfl (by rw [ev2]; rfl) (by decide) rfl (fun ls hl => ?_)
    refine lv_goto (tgt := 17) hx hb dX10_lay_36 (by decide) ?_
    exact hk_17 x1 v2 τ1 _ _ _ h hP hD hS (lv_sub hl [1, 2, 0] rfl)
set_option maxHeartbeats 4000000 in
set_option maxRecDepth 100000 in
theorem t_X10_lay_17 (C0 : zCx p s m meth c args RX10 cX10_lay 5 none vs_X10_lay) (hK : va_K (dC, dI) vwCl (x_ty cI cJ) s) (N : Nat) {Q : zSt → Prop} : ∀ (f : Nat) (x1 : Int64) (x3 : Int32) (σ : zSt) (H : Heap) (locs : List Loc) (ls : Array Slot), w_X10_lay_17 N  Q f x1 x3 σ → va_P (dC, dI) vwCl (x_W ad cI cJ σ) H → va_D (zAW x_n ad s.heap.size) (x_W ad cI cJ σ) → va_S (zAW x_n ad s.heap.size) s.heap H locs → lv_has ls 5 [(0, .ref (ad 9)), (1, .long x1), (3, .int x3)] → W p l e rm_X10_lay s m args below meth c H locs 0 0 (MQ below (zQv (dC, dI) (x_ty cI cJ) (x_W ad cI cJ) (zAW x_n ad s.heap.size) Q) args s 0 0 (zAW x_n ad s.heap.size)) (F0 m 17 ls []) := by
  intro f
  induction f with
  | zero => intro x1 x3 σ H locs ls h; exact h.elim
  | succ f ih =>
    intro x1 x3 σ H locs ls h hP hD hS hl
    exact tb_X10_lay_17 C0 hK N  (k_17 := w_X10_lay_17 N  Q f) ih x1 x3 σ H locs ls h hP hD hS hl
set_option maxHeartbeats 4000000 in
set_option maxRecDepth 100000 in
theorem t_X10_lay_0 (C0 : zCx p s m meth c args RX10 cX10_lay 5 none vs_X10_lay) (hK : va_K (dC, dI) vwCl (x_ty cI cJ) s) (N : Nat) {Q : zSt → Prop} : ∀ (x1 : Int64) (σ : zSt) (H : Heap) (locs : List Loc) (ls : Array Slot), w_X10_lay N x1 σ Q → va_P (dC, dI) vwCl (x_W ad cI cJ σ) H → va_D (zAW x_n ad s.heap.size) (x_W ad cI cJ σ) → va_S (zAW x_n ad s.heap.size) s.heap H locs → lv_has ls 5 [(0, .ref (ad 9)), (1, .long x1)] → W p l e rm_X10_lay s m args below meth c H locs 0 0 (MQ below (zQv (dC, dI) (x_ty cI cJ) (x_W ad cI cJ) (zAW x_n ad s.heap.size) Q) args s 0 0 (zAW x_n ad s.heap.size)) (F0 m 0 ls []) := by
  obtain ⟨hx, hb, hml, hr, hown, hts, hlocks⟩ := id C0
  intro x1 σ H locs ls h hP hD hS hl
  unfold w_X10_lay at h
  refine lv_lload_n hx hb dX10_lay_0 rfl (lv_at hl 1 rfl) ?_
  refine lv_aload_n hx hb dX10_lay_1 rfl (lv_at hl 0 rfl) ?_
  refine xg_9_9 hx hb hts hown hK hP mw_210 dX10_lay_2 ?_
  refine W.lcmp hx hb dX10_lay_5 ?_
  refine lv_if_ne (tgt := 10) hx hb dX10_lay_6 (by decide) (fun hc => ?_) (fun hc => ?_)
  · have h := h.2 hc
    refine lv_aload_n hx hb dX10_lay_10 rfl (lv_at hl 0 rfl) ?_
    refine lv_lload_n hx hb dX10_lay_11 rfl (lv_at hl 1 rfl) ?_
    refine xp_9_9 hx hb hts hown hK hP hD hS mw_210 dX10_lay_12 (fun τ1 H locs eτ1 hP hD hS => ?_)
    have h := h τ1 eτ1
    refine lv_iconst (v := (0 : Int32)) hx hb dX10_lay_15 (by decide) ?_
    refine lv_istore_n (lv' := [(3, .int (0 : Int32)), (0, .ref (ad 9)), (1, .long x1)]) hx hb dX10_lay_16 rfl hl (by decide) rfl (fun ls hl => ?_)
    exact t_X10_lay_17 C0 hK N  N x1 (0 : Int32) τ1 _ _ _ h hP hD hS (lv_sub hl [1, 2, 0] rfl)
  · have h := h.1 hc
    exact zret_v hx hb hr hlocks hK hP hD hS h dX10_lay_9
set_option maxHeartbeats 4000000 in
set_option maxRecDepth 100000 in
theorem c_X10_lay (N : Nat) (l : Launch) (dC : Nat → ClassId) (dI : Nat → Nat → Nat) (ad : Nat → Nat) (cI cJ : ClassId) (sz : Nat) (σ : zSt) (x1 : Int64) (Q : zSt → Prop) (h : w_X10_lay N x1 σ Q) : Met l yX10_lay vs_X10_lay rm_X10_lay (va_Pc [.ref (ad 9), .long x1] (zPc (dC, dI) (x_ty cI cJ) (x_W ad cI cJ) sz σ)) (zQv (dC, dI) (x_ty cI cJ) (x_W ad cI cJ) (zAW x_n ad sz) Q) 0 0 (zAW x_n ad sz) := by
  refine Met.ofW (cc := cX10_lay) (maxL := 5) (ret := none) (by decide) rfl ?_
  intro p e s m args below meth c s₁ B hml hv
  obtain ⟨rfl, hsz, hP, hK, hD0⟩ := hv
  subst hsz
  have C0 : zCx p s m meth c _ RX10 cX10_lay 5 none vs_X10_lay := ⟨B.exec, B.bytes, hml, B.returns, findClass_of_methodNamed B.named, atoms_spec (ws := vs_X10_lay) B.pre, B.notSynchronized⟩
  have hD := x_D0 (n0 := s.heap.size) hD0
  have hl := lv_entry ([.ref (ad 9), .long x1]) (n := 5) (Nat.le_of_ble_eq_true rfl)
  rw [lg_entry_eq]
  generalize (lg_sl ([.ref (ad 9), .long x1]) ++ List.replicate (5 - (lg_sl ([.ref (ad 9), .long x1])).length) Slot.unset).toArray = ls at hl ⊢
  exact t_X10_lay_0 C0 hK N x1 σ _ _ ls h hP hD va_S.rf hl
theorem k_X10_lay (N : Nat) {R : Room} {H : Heap} {locs : List Loc} {cells slots : Nat} {Q2 : State → Prop} {cc : ByteArray} {nL pc index : Nat} {ls : Array Slot} {rest : List Value} {own : String} {c0 : Cond} {σ : zSt} {x1 : Int64} {Q : zSt → Prop} (S0 : CallFix p m c cc nL s args (c0 :: zT) own) (hml : Cond.methodLink own index yX10_lay ∈ zT) (hR : rm_X10_lay.frames + 1 ≤ R.frames ∧ 8 + (5 + 11) + rm_X10_lay.locals ≤ R.locals) (h : w_X10_lay N x1 σ Q) (hK : va_K (dC, dI) vwCl (x_ty cI cJ) s) (hP : va_P (dC, dI) vwCl (x_W ad cI cJ σ) H) (hD : va_D (zAW x_n ad s.heap.size) (x_W ad cI cJ σ)) (hS : va_S (zAW x_n ad s.heap.size) s.heap H locs) (hsz : ls.size = nL) (hW : (rest.map fun v => v.category).sum ≤ 8) (hcs : cells ≤ R.cells ∧ slots ≤ R.slots) (hdg : decode cc pc = .ok (.invokevirtual index, 3)) (kk : ∀ (τ : zSt) (H1 : Heap) (locs1 : List Loc), Q τ → va_P (dC, dI) vwCl (x_W ad cI cJ τ) H1 → va_D (zAW x_n ad s.heap.size) (x_W ad cI cJ τ) → va_S (zAW x_n ad s.heap.size) s.heap H1 locs1 → W p l e R s m args below meth c H1 locs1 cells slots Q2 (F0 m (pc + 3) ls (rest))) : W p l e R s m args below meth c H locs cells slots Q2 (F0 m pc ls (.long x1 :: .ref (ad 9) :: rest)) :=
  zcv_v (T := TX10) (N' := 10) (k := 9) (ci := 10) (fs := x_f9 ad σ) [.long x1] S0 (c_X10_lay N l dC dI ad cI cJ H.size σ x1 Q h) (cw_X10_lay S0.2.2.2.2 hml rfl rfl hR) rfl rfl hK hP hD hS rfl hsz hW rfl hcs hdg kk
end q05
section q05
def b_X10_spread_118 (N : Nat) (k_47 : Int32 → Int32 → Int32 → Int32 → zSt → Prop) (k_118 : Int32 → Int32 → Int32 → Int32 → Int32 → zSt → Prop) (Q : zSt → Prop) (x2 : Int32) (x3 : Int32) (x4 : Int32) (x5 : Int32) (x7 : Int32) (σ : zSt) : Prop :=
  (x2 ≤ x7 → ∀ v1 : Int32, v1 = x5 + (1 : Int32) → k_47 x2 x3 x4 v1 σ) ∧ (¬ x2 ≤ x7 → (((x4 >>> (x7 &&& 31)) &&& (1 : Int32)) = 0 → (vp_in x7 10) ∧ ((vp_in x7 10) ∧ (∀ τ2 : zSt, τ2 = zA σ 29 (upd (σ.2.2.1 29) (x7.toNatClampNeg) (σ.2.2.1 29 x7.toNatClampNeg)) → ∀ v3 : Int32, v3 = x7 + (1 : Int32) → k_118 x2 x3 x4 x5 v3 τ2))) ∧ (¬ ((x4 >>> (x7 &&& 31)) &&& (1 : Int32)) = 0 → (vp_in x7 10) ∧ (∀ τ4 : zSt, τ4 = zA σ 29 (upd (σ.2.2.1 29) (x7.toNatClampNeg) x5) → ∀ v5 : Int32, v5 = x7 + (1 : Int32) → k_118 x2 x3 x4 x5 v5 τ4)))
def w_X10_spread_118 (N : Nat) (k_47 : Int32 → Int32 → Int32 → Int32 → zSt → Prop) (Q : zSt → Prop) : Nat → Int32 → Int32 → Int32 → Int32 → Int32 → zSt → Prop
  | 0 => fun _ _ _ _ _ _ => False
  | f + 1 => b_X10_spread_118 N k_47 (w_X10_spread_118 N k_47 Q f) Q
def b_X10_spread_64 (N : Nat) (k_47 : Int32 → Int32 → Int32 → Int32 → zSt → Prop) (k_64 : Int32 → Int32 → Int32 → Int32 → Int32 → Int32 → zSt → Prop) (Q : zSt → Prop) (x2 : Int32) (x3 : Int32) (x4 : Int32) (x5 : Int32) (x6 : Int32) (x7 : Int32) (σ : zSt) : Prop :=
  (x2 ≤ x7 → ∀ v1 : Int32, v1 = x6 &&& (x3 ^^^ (-1 : Int32)) → ∀ v2 : Int32, v2 = x3 ||| v1 → w_X10_spread_118 N k_47 Q N x2 v2 v1 x5 (0 : Int32) σ) ∧ (¬ x2 ≤ x7 → (((x4 >>> (x7 &&& 31)) &&& (1 : Int32)) = 0 → ∀ v3 : Int32, v3 = x6 ||| (0 : Int32) → ∀ v4 : Int32, v4 = x7 + (1 : Int32) → k_64 x2 x3 x4 x5 v3 v4 σ) ∧ (¬ ((x4 >>> (x7 &&& 31)) &&& (1 : Int32)) = 0 → (vp_in x7 10) ∧ (∀ v5 : Int32, v5 = x6 ||| (σ.2.2.1 28 x7.toNatClampNeg) → ∀ v6 : Int32, v6 = x7 + (1 : Int32) → k_64 x2 x3 x4 x5 v5 v6 σ)))
def w_X10_spread_64 (N : Nat) (k_47 : Int32 → Int32 → Int32 → Int32 → zSt → Prop) (Q : zSt → Prop) : Nat → Int32 → Int32 → Int32 → Int32 → Int32 → Int32 → zSt → Prop
  | 0 => fun _ _ _ _ _ _ _ => False
  | f + 1 => b_X10_spread_64 N k_47 (w_X10_spread_64 N k_47 Q f) Q
def b_X10_spread_47 (N : Nat) (k_47 : Int32 → Int32 → Int32 → Int32 → zSt → Prop) (Q : zSt → Prop) (x2 : Int32) (x3 : Int32) (x4 : Int32) (x5 : Int32) (σ : zSt) : Prop :=
  (x2 ≤ x5 → Q σ) ∧ (¬ x2 ≤ x5 → (x4 = 0 → Q σ) ∧ (¬ x4 = 0 → w_X10_spread_64 N k_47 Q N x2 x3 x4 x5 (0 : Int32) (0 : Int32) σ))
def w_X10_spread_47 (N : Nat) (Q : zSt → Prop) : Nat → Int32 → Int32 → Int32 → Int32 → zSt → Prop
  | 0 => fun _ _ _ _ _ => False
  | f + 1 => b_X10_spread_47 N (w_X10_spread_47 N  Q f) Q
def b_X10_spread_10 (N : Nat) (k_10 : Int32 → Int32 → Int32 → zSt → Prop) (Q : zSt → Prop) (x1 : Int32) (x2 : Int32) (x3 : Int32) (σ : zSt) : Prop :=
  (x2 ≤ x3 → ∀ v1 : Int32, v1 = (1 : Int32) <<< (x1 &&& 31) → w_X10_spread_47 N Q N x2 v1 v1 (1 : Int32) σ) ∧ (¬ x2 ≤ x3 → (x3 = x1 → (vp_in x3 10) ∧ (∀ τ4 : zSt, τ4 = zA σ 29 (upd (σ.2.2.1 29) (x3.toNatClampNeg) (0 : Int32)) → ∀ v5 : Int32, v5 = x3 + (1 : Int32) → k_10 x1 x2 v5 τ4)) ∧ (¬ x3 = x1 → (vp_in x3 10) ∧ (∀ τ2 : zSt, τ2 = zA σ 29 (upd (σ.2.2.1 29) (x3.toNatClampNeg) (-1 : Int32)) → ∀ v3 : Int32, v3 = x3 + (1 : Int32) → k_10 x1 x2 v3 τ2)))
def w_X10_spread_10 (N : Nat) (Q : zSt → Prop) : Nat → Int32 → Int32 → Int32 → zSt → Prop
  | 0 => fun _ _ _ _ => False
  | f + 1 => b_X10_spread_10 N (w_X10_spread_10 N  Q f) Q
def w_X10_spread (N : Nat) (x1 : Int32) (σ : zSt) (Q : zSt → Prop) : Prop :=
  ∀ v1 : Int32, v1 = σ.1 1 → w_X10_spread_10 N Q N x1 v1 (0 : Int32) σ
variable {p : Program} {l : Launch} {e : Env} {s : State} {m : MethodId} {args : Array Value} {below : List Frame} {meth : Method} {c : Code} {dC : Nat → ClassId} {dI : Nat → Nat → Nat} {ad : Nat → Nat} {cI cJ : ClassId}
set_option maxHeartbeats 4000000 in
set_option maxRecDepth 100000 in
theorem tb_X10_spread_118 (C0 : zCx p s m meth c args RX10 cX10_spread 8 none vs_X10_spread) (hK : va_K (dC, dI) vwCl (x_ty cI cJ) s) (N : Nat) {Q : zSt → Prop} {k_47 : Int32 → Int32 → Int32 → Int32 → zSt → Prop} (hk_47 : ∀ (x2 : Int32) (x3 : Int32) (x4 : Int32) (x5 : Int32) (σ : zSt) (H : Heap) (locs : List Loc) (ls : Array Slot), k_47 x2 x3 x4 x5 σ → va_P (dC, dI) vwCl (x_W ad cI cJ σ) H → va_D (zAW x_n ad s.heap.size) (x_W ad cI cJ σ) → va_S (zAW x_n ad s.heap.size) s.heap H locs → lv_has ls 8 [(0, .ref (ad 9)), (2, .int x2), (3, .int x3), (4, .int x4), (5, .int x5)] → W p l e rm_X10_spread s m args below meth c H locs 0 0 (MQ below (zQv (dC, dI) (x_ty cI cJ) (x_W ad cI cJ) (zAW x_n ad s.heap.size) Q) args s 0 0 (zAW x_n ad s.heap.size)) (F0 m 47 ls [])) {k_118 : Int32 → Int32 → Int32 → Int32 → Int32 → zSt → Prop} (hk_118 : ∀ (x2 : Int32) (x3 : Int32) (x4 : Int32) (x5 : Int32) (x7 : Int32) (σ : zSt) (H : Heap) (locs : List Loc) (ls : Array Slot), k_118 x2 x3 x4 x5 x7 σ → va_P (dC, dI) vwCl (x_W ad cI cJ σ) H → va_D (zAW x_n ad s.heap.size) (x_W ad cI cJ σ) → va_S (zAW x_n ad s.heap.size) s.heap H locs → lv_has ls 8 [(0, .ref (ad 9)), (2, .int x2), (3, .int x3), (4, .int x4), (5, .int x5), (7, .int x7)] → W p l e rm_X10_spread s m args below meth c H locs 0 0 (MQ below (zQv (dC, dI) (x_ty cI cJ) (x_W ad cI cJ) (zAW x_n ad s.heap.size) Q) args s 0 0 (zAW x_n ad s.heap.size)) (F0 m 118 ls [])) : ∀ (x2 : Int32) (x3 : Int32) (x4 : Int32) (x5 : Int32) (x7 : Int32) (σ : zSt) (H : Heap) (locs : List Loc) (ls : Array Slot), b_X10_spread_118 N k_47 k_118 Q x2 x3 x4 x5 x7 σ → va_P (dC, dI) vwCl (x_W ad cI cJ σ) H → va_D (zAW x_n ad s.heap.size) (x_W ad cI cJ σ) → va_S (zAW x_n ad s.heap.size) s.heap H locs → lv_has ls 8 [(0, .ref (ad 9)), (2, .int x2), (3, .int x3), (4, .int x4), (5, .int x5), (7, .int x7)] → W p l e rm_X10_spread s m args below meth c H locs 0 0 (MQ below (zQv (dC, dI) (x_ty cI cJ) (x_W ad cI cJ) (zAW x_n ad s.heap.size) Q) args s 0 0 (zAW x_n ad s.heap.size)) (F0 m 118 ls []) := by
  obtain ⟨hx, hb, hml, hr, hown, hts, hlocks⟩ := id C0
  intro x2 x3 x4 x5 x7 σ H locs ls h hP hD hS hl
  unfold b_X10_spread_118 at h
  refine lv_iload hx hb dX10_spread_118 (lv_at hl 5 rfl) ?_
  refine lv_iload_n hx hb dX10_spread_120 rfl (lv_at hl 1 rfl) ?_
  refine lv_icmp_ge (tgt := 159) hx hb dX10_spread_121 (by decide) (fun hc => ?_) (fun hc => ?_)
  · have h := h.1 hc
    obtain ⟨v1, ev1⟩ : ∃ z : Int32, z = x5 + (1 : Int32) := ⟨_, rfl⟩
    have h := h v1 ev1
    refine lv_iinc (v := v1) (lv' := [(5, .int v1), (0, .ref (ad 9)), (2, .int x2), (3, .int x3), (4, .int x4), (7, .int x7)]) hx hb dX10_spread_159 hl (k := 4) rfl (by rw [ev1]; rfl) (by decide) rfl (fun ls hl => ?_)
    refine lv_goto (tgt := 47) hx hb dX10_spread_162 (by decide) ?_
    exact hk_47 x2 x3 x4 v1 σ _ _ _ h hP hD hS (lv_sub hl [1, 2, 3, 4, 0] rfl)
  · have h := h.2 hc
    refine lv_aload_n hx hb dX10_spread_124 rfl (lv_at hl 0 rfl) ?_
    refine xg_9_5 hx hb hts hown hK hP mw_204 dX10_spread_125 ?_
    refine lv_iload hx hb dX10_spread_128 (lv_at hl 5 rfl) ?_
    refine lv_iload hx hb dX10_spread_130 (lv_at hl 3 rfl) ?_
    refine lv_iload hx hb dX10_spread_132 (lv_at hl 5 rfl) ?_
    refine lv_ishr hx hb dX10_spread_134 ?_
    refine lv_iconst (v := (1 : Int32)) hx hb dX10_spread_135 (by decide) ?_
    refine lv_iand hx hb dX10_spread_136 ?_
    refine lv_if_eq (tgt := 145) hx hb dX10_spread_137 (by decide) (fun hc => ?_) (fun hc => ?_)
    · have h := h.1 hc
      refine lv_aload_n hx hb dX10_spread_145 rfl (lv_at hl 0 rfl) ?_
      refine xg_9_5 hx hb hts hown hK hP mw_204 dX10_spread_146 ?_
      refine lv_iload hx hb dX10_spread_149 (lv_at hl 5 rfl) ?_
      refine xa_51 hx hb hK hP h.1 rfl dX10_spread_151 ?_
      have h := h.2
      refine xs_51 hx hb hK hP hD hS h.1 rfl dX10_spread_152 (fun τ2 H locs eτ2 hP hD hS => ?_)
      have h := h.2
      have h := h τ2 eτ2
      obtain ⟨v3, ev3⟩ : ∃ z : Int32, z = x7 + (1 : Int32) := ⟨_, rfl⟩
      have h := h v3 ev3
      refine lv_iinc (v := v3) (lv' := [(7, .int v3), (0, .ref (ad 9)), (2, .int x2), (3, .int x3), (4, .int x4), (5, .int x5)]) hx hb dX10_spread_153 hl (k := 5) rfl (by rw [ev3]; rfl) (by decide) rfl (fun ls hl => ?_)
      refine lv_goto (tgt := 118) hx hb dX10_spread_156 (by decide) ?_
      exact hk_118 x2 x3 x4 x5 v3 τ2 _ _ _ h hP hD hS (lv_sub hl [1, 2, 3, 4, 5, 0] rfl)
    · have h := h.2 hc
      refine lv_iload hx hb dX10_spread_140 (lv_at hl 4 rfl) ?_
      refine lv_goto (tgt := 152) hx hb dX10_spread_142 (by decide) ?_
      refine xs_51 hx hb hK hP hD hS h.1 rfl dX10_spread_152 (fun τ4 H locs eτ4 hP hD hS => ?_)
      have h := h.2
      have h := h τ4 eτ4
      obtain ⟨v5, ev5⟩ : ∃ z : Int32, z = x7 + (1 : Int32) := ⟨_, rfl⟩
      have h := h v5 ev5
      refine lv_iinc (v := v5) (lv' := [(7, .int v5), (0, .ref (ad 9)), (2, .int x2), (3, .int x3), (4, .int x4), (5, .int x5)]) hx hb dX10_spread_153 hl (k := 5) rfl (by rw [ev5]; rfl) (by decide) rfl (fun ls hl => ?_)
      refine lv_goto (tgt := 118) hx hb dX10_spread_156 (by decide) ?_
      exact hk_118 x2 x3 x4 x5 v5 τ4 _ _ _ h hP hD hS (lv_sub hl [1, 2, 3, 4, 5, 0] rfl)
set_option maxHeartbeats 4000000 in
set_option maxRecDepth 100000 in
theorem t_X10_spread_118 (C0 : zCx p s m meth c args RX10 cX10_spread 8 none vs_X10_spread) (hK : va_K (dC, dI) vwCl (x_ty cI cJ) s) (N : Nat) {Q : zSt → Prop} {k_47 : Int32 → Int32 → Int32 → Int32 → zSt → Prop} (hk_47 : ∀ (x2 : Int32) (x3 : Int32) (x4 : Int32) (x5 : Int32) (σ : zSt) (H : Heap) (locs : List Loc) (ls : Array Slot), k_47 x2 x3 x4 x5 σ → va_P (dC, dI) vwCl (x_W ad cI cJ σ) H → va_D (zAW x_n ad s.heap.size) (x_W ad cI cJ σ) → va_S (zAW x_n ad s.heap.size) s.heap H locs → lv_has ls 8 [(0, .ref (ad 9)), (2, .int x2), (3, .int x3), (4, .int x4), (5, .int x5)] → W p l e rm_X10_spread s m args below meth c H locs 0 0 (MQ below (zQv (dC, dI) (x_ty cI cJ) (x_W ad cI cJ) (zAW x_n ad s.heap.size) Q) args s 0 0 (zAW x_n ad s.heap.size)) (F0 m 47 ls [])) : ∀ (f : Nat) (x2 : Int32) (x3 : Int32) (x4 : Int32) (x5 : Int32) (x7 : Int32) (σ : zSt) (H : Heap) (locs : List Loc) (ls : Array Slot), w_X10_spread_118 N k_47 Q f x2 x3 x4 x5 x7 σ → va_P (dC, dI) vwCl (x_W ad cI cJ σ) H → va_D (zAW x_n ad s.heap.size) (x_W ad cI cJ σ) → va_S (zAW x_n ad s.heap.size) s.heap H locs → lv_has ls 8 [(0, .ref (ad 9)), (2, .int x2), (3, .int x3), (4, .int x4), (5, .int x5), (7, .int x7)] → W p l e rm_X10_spread s m args below meth c H locs 0 0 (MQ below (zQv (dC, dI) (x_ty cI cJ) (x_W ad cI cJ) (zAW x_n ad s.heap.size) Q) args s 0 0 (zAW x_n ad s.heap.size)) (F0 m 118 ls []) := by
  intro f
  induction f with
  | zero => intro x2 x3 x4 x5 x7 σ H locs ls h; exact h.elim
  | succ f ih =>
    intro x2 x3 x4 x5 x7 σ H locs ls h hP hD hS hl
    exact tb_X10_spread_118 C0 hK N hk_47 (k_118 := w_X10_spread_118 N k_47 Q f) ih x2 x3 x4 x5 x7 σ H locs ls h hP hD hS hl
set_option maxHeartbeats 4000000 in
set_option maxRecDepth 100000 in
theorem tb_X10_spread_64 (C0 : zCx p s m meth c args RX10 cX10_spread 8 none vs_X10_spread) (hK : va_K (dC, dI) vwCl (x_ty cI cJ) s) (N : Nat) {Q : zSt → Prop} {k_47 : Int32 → Int32 → Int32 → Int32 → zSt → Prop} (hk_47 : ∀ (x2 : Int32) (x3 : Int32) (x4 : Int32) (x5 : Int32) (σ : zSt) (H : Heap) (locs : List Loc) (ls : Array Slot), k_47 x2 x3 x4 x5 σ → va_P (dC, dI) vwCl (x_W ad cI cJ σ) H → va_D (zAW x_n ad s.heap.size) (x_W ad cI cJ σ) → va_S (zAW x_n ad s.heap.size) s.heap H locs → lv_has ls 8 [(0, .ref (ad 9)), (2, .int x2), (3, .int x3), (4, .int x4), (5, .int x5)] → W p l e rm_X10_spread s m args below meth c H locs 0 0 (MQ below (zQv (dC, dI) (x_ty cI cJ) (x_W ad cI cJ) (zAW x_n ad s.heap.size) Q) args s 0 0 (zAW x_n ad s.heap.size)) (F0 m 47 ls [])) {k_64 : Int32 → Int32 → Int32 → Int32 → Int32 → Int32 → zSt → Prop} (hk_64 : ∀ (x2 : Int32) (x3 : Int32) (x4 : Int32) (x5 : Int32) (x6 : Int32) (x7 : Int32) (σ : zSt) (H : Heap) (locs : List Loc) (ls : Array Slot), k_64 x2 x3 x4 x5 x6 x7 σ → va_P (dC, dI) vwCl (x_W ad cI cJ σ) H → va_D (zAW x_n ad s.heap.size) (x_W ad cI cJ σ) → va_S (zAW x_n ad s.heap.size) s.heap H locs → lv_has ls 8 [(0, .ref (ad 9)), (2, .int x2), (3, .int x3), (4, .int x4), (5, .int x5), (6, .int x6), (7, .int x7)] → W p l e rm_X10_spread s m args below meth c H locs 0 0 (MQ below (zQv (dC, dI) (x_ty cI cJ) (x_W ad cI cJ) (zAW x_n ad s.heap.size) Q) args s 0 0 (zAW x_n ad s.heap.size)) (F0 m 64 ls [])) : ∀ (x2 : Int32) (x3 : Int32) (x4 : Int32) (x5 : Int32) (x6 : Int32) (x7 : Int32) (σ : zSt) (H : Heap) (locs : List Loc) (ls : Array Slot), b_X10_spread_64 N k_47 k_64 Q x2 x3 x4 x5 x6 x7 σ → va_P (dC, dI) vwCl (x_W ad cI cJ σ) H → va_D (zAW x_n ad s.heap.size) (x_W ad cI cJ σ) → va_S (zAW x_n ad s.heap.size) s.heap H locs → lv_has ls 8 [(0, .ref (ad 9)), (2, .int x2), (3, .int x3), (4, .int x4), (5, .int x5), (6, .int x6), (7, .int x7)] → W p l e rm_X10_spread s m args below meth c H locs 0 0 (MQ below (zQv (dC, dI) (x_ty cI cJ) (x_W ad cI cJ) (zAW x_n ad s.heap.size) Q) args s 0 0 (zAW x_n ad s.heap.size)) (F0 m 64 ls []) := by
  obtain ⟨hx, hb, hml, hr, hown, hts, hlocks⟩ := id C0
  intro x2 x3 x4 x5 x6 x7 σ H locs ls h hP hD hS hl
  unfold b_X10_spread_64 at h
  refine lv_iload hx hb dX10_spread_64 (lv_at hl 6 rfl) ?_
  refine lv_iload_n hx hb dX10_spread_66 rfl (lv_at hl 1 rfl) ?_
  refine lv_icmp_ge (tgt := 102) hx hb dX10_spread_67 (by decide) (fun hc => ?_) (fun hc => ?_)
  · have h := h.1 hc
    refine lv_iload hx hb dX10_spread_102 (lv_at hl 5 rfl) ?_
    refine lv_iload_n hx hb dX10_spread_104 rfl (lv_at hl 2 rfl) ?_
    refine lv_iconst (v := (-1 : Int32)) hx hb dX10_spread_105 (by decide) ?_
    refine lv_ixor hx hb dX10_spread_106 ?_
    refine lv_iand hx hb dX10_spread_107 ?_
    refine lv_topi (fun v1 ev1 => ?_)
    have h := h v1 ev1
    refine lv_istore (lv' := [(4, .int v1), (0, .ref (ad 9)), (2, .int x2), (3, .int x3), (5, .int x5), (6, .int x6), (7, .int x7)]) hx hb dX10_spread_108 hl (by decide) rfl (fun ls hl => ?_)
    refine lv_iload_n hx hb dX10_spread_110 rfl (lv_at hl 3 rfl) ?_
    refine lv_iload hx hb dX10_spread_111 (lv_at hl 0 rfl) ?_
    refine lv_ior hx hb dX10_spread_113 ?_
    refine lv_topi (fun v2 ev2 => ?_)
    have h := h v2 ev2
    refine lv_istore_n (lv' := [(3, .int v2), (4, .int v1), (0, .ref (ad 9)), (2, .int x2), (5, .int x5), (6, .int x6), (7, .int x7)]) hx hb dX10_spread_114 rfl hl (by decide) rfl (fun ls hl => ?_)
    refine lv_iconst (v := (0 : Int32)) hx hb dX10_spread_115 (by decide) ?_
    refine lv_istore (lv' := [(7, .int (0 : Int32)), (3, .int v2), (4, .int v1), (0, .ref (ad 9)), (2, .int x2), (5, .int x5), (6, .int x6)]) hx hb dX10_spread_116 hl (by decide) rfl (fun ls hl => ?_)
    exact t_X10_spread_118 C0 hK N hk_47 N x2 v2 v1 x5 (0 : Int32) σ _ _ _ h hP hD hS (lv_sub hl [3, 4, 1, 2, 5, 0] rfl)
  · have h := h.2 hc
    refine lv_iload hx hb dX10_spread_70 (lv_at hl 5 rfl) ?_
    refine lv_iload hx hb dX10_spread_72 (lv_at hl 3 rfl) ?_
    refine lv_iload hx hb dX10_spread_74 (lv_at hl 6 rfl) ?_
    refine lv_ishr hx hb dX10_spread_76 ?_
    refine lv_iconst (v := (1 : Int32)) hx hb dX10_spread_77 (by decide) ?_
    refine lv_iand hx hb dX10_spread_78 ?_
    refine lv_if_eq (tgt := 92) hx hb dX10_spread_79 (by decide) (fun hc => ?_) (fun hc => ?_)
    · have h := h.1 hc
      refine lv_iconst (v := (0 : Int32)) hx hb dX10_spread_92 (by decide) ?_
      refine lv_ior hx hb dX10_spread_93 ?_
      refine lv_topi (fun v3 ev3 => ?_)
      have h := h v3 ev3
      refine lv_istore (lv' := [(6, .int v3), (0, .ref (ad 9)), (2, .int x2), (3, .int x3), (4, .int x4), (5, .int x5), (7, .int x7)]) hx hb dX10_spread_94 hl (by decide) rfl (fun ls hl => ?_)
      obtain ⟨v4, ev4⟩ : ∃ z : Int32, z = x7 + (1 : Int32) := ⟨_, rfl⟩
      have h := h v4 ev4
      refine lv_iinc (v := v4) (lv' := [(7, .int v4), (6, .int v3), (0, .ref (ad 9)), (2, .int x2), (3, .int x3), (4, .int x4), (5, .int x5)]) hx hb dX10_spread_96 hl (k := 6) rfl (by rw [ev4]; rfl) (by decide) rfl (fun ls hl => ?_)
      refine lv_goto (tgt := 64) hx hb dX10_spread_99 (by decide) ?_
      exact hk_64 x2 x3 x4 x5 v3 v4 σ _ _ _ h hP hD hS (lv_sub hl [2, 3, 4, 5, 6, 1, 0] rfl)
    · have h := h.2 hc
      refine lv_aload_n hx hb dX10_spread_82 rfl (lv_at hl 0 rfl) ?_
      refine xg_9_4 hx hb hts hown hK hP mw_203 dX10_spread_83 ?_
      refine lv_iload hx hb dX10_spread_86 (lv_at hl 6 rfl) ?_
      refine xa_50 hx hb hK hP h.1 rfl dX10_spread_88 ?_
      have h := h.2
      refine lv_goto (tgt := 93) hx hb dX10_spread_89 (by decide) ?_
      refine lv_ior hx hb dX10_spread_93 ?_
      refine lv_topi (fun v5 ev5 => ?_)
      have h := h v5 ev5
      refine lv_istore (lv' := [(6, .int v5), (0, .ref (ad 9)), (2, .int x2), (3, .int x3), (4, .int x4), (5, .int x5), (7, .int x7)]) hx hb dX10_spread_94 hl (by decide) rfl (fun ls hl => ?_)
      obtain ⟨v6, ev6⟩ : ∃ z : Int32, z = x7 + (1 : Int32) := ⟨_, rfl⟩
      have h := h v6 ev6
      refine lv_iinc (v := v6) (lv' := [(7, .int v6), (6, .int v5), (0, .ref (ad 9)), (2, .int x2), (3, .int x3), (4, .int x4), (5, .int x5)]) hx hb dX10_spread_96 hl (k := 6) rfl (by rw [ev6]; rfl) (by decide) rfl (fun ls hl => ?_)
      refine lv_goto (tgt := 64) hx hb dX10_spread_99 (by decide) ?_
      exact hk_64 x2 x3 x4 x5 v5 v6 σ _ _ _ h hP hD hS (lv_sub hl [2, 3, 4, 5, 6, 1, 0] rfl)
set_option maxHeartbeats 4000000 in
set_option maxRecDepth 100000 in
theorem t_X10_spread_64 (C0 : zCx p s m meth c args RX10 cX10_spread 8 none vs_X10_spread) (hK : va_K (dC, dI) vwCl (x_ty cI cJ) s) (N : Nat) {Q : zSt → Prop} {k_47 : Int32 → Int32 → Int32 → Int32 → zSt → Prop} (hk_47 : ∀ (x2 : Int32) (x3 : Int32) (x4 : Int32) (x5 : Int32) (σ : zSt) (H : Heap) (locs : List Loc) (ls : Array Slot), k_47 x2 x3 x4 x5 σ → va_P (dC, dI) vwCl (x_W ad cI cJ σ) H → va_D (zAW x_n ad s.heap.size) (x_W ad cI cJ σ) → va_S (zAW x_n ad s.heap.size) s.heap H locs → lv_has ls 8 [(0, .ref (ad 9)), (2, .int x2), (3, .int x3), (4, .int x4), (5, .int x5)] → W p l e rm_X10_spread s m args below meth c H locs 0 0 (MQ below (zQv (dC, dI) (x_ty cI cJ) (x_W ad cI cJ) (zAW x_n ad s.heap.size) Q) args s 0 0 (zAW x_n ad s.heap.size)) (F0 m 47 ls [])) : ∀ (f : Nat) (x2 : Int32) (x3 : Int32) (x4 : Int32) (x5 : Int32) (x6 : Int32) (x7 : Int32) (σ : zSt) (H : Heap) (locs : List Loc) (ls : Array Slot), w_X10_spread_64 N k_47 Q f x2 x3 x4 x5 x6 x7 σ → va_P (dC, dI) vwCl (x_W ad cI cJ σ) H → va_D (zAW x_n ad s.heap.size) (x_W ad cI cJ σ) → va_S (zAW x_n ad s.heap.size) s.heap H locs → lv_has ls 8 [(0, .ref (ad 9)), (2, .int x2), (3, .int x3), (4, .int x4), (5, .int x5), (6, .int x6), (7, .int x7)] → W p l e rm_X10_spread s m args below meth c H locs 0 0 (MQ below (zQv (dC, dI) (x_ty cI cJ) (x_W ad cI cJ) (zAW x_n ad s.heap.size) Q) args s 0 0 (zAW x_n ad s.heap.size)) (F0 m 64 ls []) := by
  intro f
  induction f with
  | zero => intro x2 x3 x4 x5 x6 x7 σ H locs ls h; exact h.elim
  | succ f ih =>
    intro x2 x3 x4 x5 x6 x7 σ H locs ls h hP hD hS hl
    exact tb_X10_spread_64 C0 hK N hk_47 (k_64 := w_X10_spread_64 N k_47 Q f) ih x2 x3 x4 x5 x6 x7 σ H locs ls h hP hD hS hl
set_option maxHeartbeats 4000000 in
set_option maxRecDepth 100000 in
theorem tb_X10_spread_47 (C0 : zCx p s m meth c args RX10 cX10_spread 8 none vs_X10_spread) (hK : va_K (dC, dI) vwCl (x_ty cI cJ) s) (N : Nat) {Q : zSt → Prop} {k_47 : Int32 → Int32 → Int32 → Int32 → zSt → Prop} (hk_47 : ∀ (x2 : Int32) (x3 : Int32) (x4 : Int32) (x5 : Int32) (σ : zSt) (H : Heap) (locs : List Loc) (ls : Array Slot), k_47 x2 x3 x4 x5 σ → va_P (dC, dI) vwCl (x_W ad cI cJ σ) H → va_D (zAW x_n ad s.heap.size) (x_W ad cI cJ σ) → va_S (zAW x_n ad s.heap.size) s.heap H locs → lv_has ls 8 [(0, .ref (ad 9)), (2, .int x2), (3, .int x3), (4, .int x4), (5, .int x5)] → W p l e rm_X10_spread s m args below meth c H locs 0 0 (MQ below (zQv (dC, dI) (x_ty cI cJ) (x_W ad cI cJ) (zAW x_n ad s.heap.size) Q) args s 0 0 (zAW x_n ad s.heap.size)) (F0 m 47 ls [])) : ∀ (x2 : Int32) (x3 : Int32) (x4 : Int32) (x5 : Int32) (σ : zSt) (H : Heap) (locs : List Loc) (ls : Array Slot), b_X10_spread_47 N k_47 Q x2 x3 x4 x5 σ → va_P (dC, dI) vwCl (x_W ad cI cJ σ) H → va_D (zAW x_n ad s.heap.size) (x_W ad cI cJ σ) → va_S (zAW x_n ad s.heap.size) s.heap H locs → lv_has ls 8 [(0, .ref (ad 9)), (2, .int x2), (3, .int x3), (4, .int x4), (5, .int x5)] → W p l e rm_X10_spread s m args below meth c H locs 0 0 (MQ below (zQv (dC, dI) (x_ty cI cJ) (x_W ad cI cJ) (zAW x_n ad s.heap.size) Q) args s 0 0 (zAW x_n ad s.heap.size)) (F0 m 47 ls []) := by
  obtain ⟨hx, hb, hml, hr, hown, hts, hlocks⟩ := id C0
  intro x2 x3 x4 x5 σ H locs ls h hP hD hS hl
  unfold b_X10_spread_47 at h
  refine lv_iload hx hb dX10_spread_47 (lv_at hl 4 rfl) ?_
  refine lv_iload_n hx hb dX10_spread_49 rfl (lv_at hl 1 rfl) ?_
  refine lv_icmp_ge (tgt := 165) hx hb dX10_spread_50 (by decide) (fun hc => ?_) (fun hc => ?_)
  · have h := h.1 hc
    exact zret_v hx hb hr hlocks hK hP hD hS h dX10_spread_165
  · have h := h.2 hc
    refine lv_iload hx hb dX10_spread_53 (lv_at hl 3 rfl) ?_
    refine lv_if_eq (tgt := 165) hx hb dX10_spread_55 (by decide) (fun hc => ?_) (fun hc => ?_)
    · have h := h.1 hc
      exact zret_v hx hb hr hlocks hK hP hD hS h dX10_spread_165
    · have h := h.2 hc
      refine lv_iconst (v := (0 : Int32)) hx hb dX10_spread_58 (by decide) ?_
      refine lv_istore (lv' := [(6, .int (0 : Int32)), (0, .ref (ad 9)), (2, .int x2), (3, .int x3), (4, .int x4), (5, .int x5)]) hx hb dX10_spread_59 hl (by decide) rfl (fun ls hl => ?_)
      refine lv_iconst (v := (0 : Int32)) hx hb dX10_spread_61 (by decide) ?_
      refine lv_istore (lv' := [(7, .int (0 : Int32)), (6, .int (0 : Int32)), (0, .ref (ad 9)), (2, .int x2), (3, .int x3), (4, .int x4), (5, .int x5)]) hx hb dX10_spread_62 hl (by decide) rfl (fun ls hl => ?_)
      exact t_X10_spread_64 C0 hK N hk_47 N x2 x3 x4 x5 (0 : Int32) (0 : Int32) σ _ _ _ h hP hD hS (lv_sub hl [2, 3, 4, 5, 6, 1, 0] rfl)
set_option maxHeartbeats 4000000 in
set_option maxRecDepth 100000 in
theorem t_X10_spread_47 (C0 : zCx p s m meth c args RX10 cX10_spread 8 none vs_X10_spread) (hK : va_K (dC, dI) vwCl (x_ty cI cJ) s) (N : Nat) {Q : zSt → Prop} : ∀ (f : Nat) (x2 : Int32) (x3 : Int32) (x4 : Int32) (x5 : Int32) (σ : zSt) (H : Heap) (locs : List Loc) (ls : Array Slot), w_X10_spread_47 N  Q f x2 x3 x4 x5 σ → va_P (dC, dI) vwCl (x_W ad cI cJ σ) H → va_D (zAW x_n ad s.heap.size) (x_W ad cI cJ σ) → va_S (zAW x_n ad s.heap.size) s.heap H locs → lv_has ls 8 [(0, .ref (ad 9)), (2, .int x2), (3, .int x3), (4, .int x4), (5, .int x5)] → W p l e rm_X10_spread s m args below meth c H locs 0 0 (MQ below (zQv (dC, dI) (x_ty cI cJ) (x_W ad cI cJ) (zAW x_n ad s.heap.size) Q) args s 0 0 (zAW x_n ad s.heap.size)) (F0 m 47 ls []) := by
  intro f
  induction f with
  | zero => intro x2 x3 x4 x5 σ H locs ls h; exact h.elim
  | succ f ih =>
    intro x2 x3 x4 x5 σ H locs ls h hP hD hS hl
    exact tb_X10_spread_47 C0 hK N  (k_47 := w_X10_spread_47 N  Q f) ih x2 x3 x4 x5 σ H locs ls h hP hD hS hl
set_option maxHeartbeats 4000000 in
set_option maxRecDepth 100000 in
theorem tb_X10_spread_10 (C0 : zCx p s m meth c args RX10 cX10_spread 8 none vs_X10_spread) (hK : va_K (dC, dI) vwCl (x_ty cI cJ) s) (N : Nat) {Q : zSt → Prop} {k_10 : Int32 → Int32 → Int32 → zSt → Prop} (hk_10 : ∀ (x1 : Int32) (x2 : Int32) (x3 : Int32) (σ : zSt) (H : Heap) (locs : List Loc) (ls : Array Slot), k_10 x1 x2 x3 σ → va_P (dC, dI) vwCl (x_W ad cI cJ σ) H → va_D (zAW x_n ad s.heap.size) (x_W ad cI cJ σ) → va_S (zAW x_n ad s.heap.size) s.heap H locs → lv_has ls 8 [(0, .ref (ad 9)), (1, .int x1), (2, .int x2), (3, .int x3)] → W p l e rm_X10_spread s m args below meth c H locs 0 0 (MQ below (zQv (dC, dI) (x_ty cI cJ) (x_W ad cI cJ) (zAW x_n ad s.heap.size) Q) args s 0 0 (zAW x_n ad s.heap.size)) (F0 m 10 ls [])) : ∀ (x1 : Int32) (x2 : Int32) (x3 : Int32) (σ : zSt) (H : Heap) (locs : List Loc) (ls : Array Slot), b_X10_spread_10 N k_10 Q x1 x2 x3 σ → va_P (dC, dI) vwCl (x_W ad cI cJ σ) H → va_D (zAW x_n ad s.heap.size) (x_W ad cI cJ σ) → va_S (zAW x_n ad s.heap.size) s.heap H locs → lv_has ls 8 [(0, .ref (ad 9)), (1, .int x1), (2, .int x2), (3, .int x3)] → W p l e rm_X10_spread s m args below meth c H locs 0 0 (MQ below (zQv (dC, dI) (x_ty cI cJ) (x_W ad cI cJ) (zAW x_n ad s.heap.size) Q) args s 0 0 (zAW x_n ad s.heap.size)) (F0 m 10 ls []) := by
  obtain ⟨hx, hb, hml, hr, hown, hts, hlocks⟩ := id C0
  intro x1 x2 x3 σ H locs ls h hP hD hS hl
  unfold b_X10_spread_10 at h
  refine lv_iload_n hx hb dX10_spread_10 rfl (lv_at hl 3 rfl) ?_
  refine lv_iload_n hx hb dX10_spread_11 rfl (lv_at hl 2 rfl) ?_
  refine lv_icmp_ge (tgt := 37) hx hb dX10_spread_12 (by decide) (fun hc => ?_) (fun hc => ?_)
  · have h := h.1 hc
    refine lv_iconst (v := (1 : Int32)) hx hb dX10_spread_37 (by decide) ?_
    refine lv_iload_n hx hb dX10_spread_38 rfl (lv_at hl 1 rfl) ?_
    refine lv_ishl hx hb dX10_spread_39 ?_
    refine lv_topi (fun v1 ev1 => ?_)
    have h := h v1 ev1
    refine lv_istore_n (lv' := [(3, .int v1), (0, .ref (ad 9)), (1, .int x1), (2, .int x2)]) hx hb dX10_spread_40 rfl hl (by decide) rfl (fun ls hl => ?_)
    refine lv_iload_n hx hb dX10_spread_41 rfl (lv_at hl 0 rfl) ?_
    refine lv_istore (lv' := [(4, .int v1), (3, .int v1), (0, .ref (ad 9)), (1, .int x1), (2, .int x2)]) hx hb dX10_spread_42 hl (by decide) rfl (fun ls hl => ?_)
    refine lv_iconst (v := (1 : Int32)) hx hb dX10_spread_44 (by decide) ?_
    refine lv_istore (lv' := [(5, .int (1 : Int32)), (4, .int v1), (3, .int v1), (0, .ref (ad 9)), (1, .int x1), (2, .int x2)]) hx hb dX10_spread_45 hl (by decide) rfl (fun ls hl => ?_)
    exact t_X10_spread_47 C0 hK N  N x2 v1 v1 (1 : Int32) σ _ _ _ h hP hD hS (lv_sub hl [3, 5, 2, 1, 0] rfl)
  · have h := h.2 hc
    refine lv_aload_n hx hb dX10_spread_15 rfl (lv_at hl 0 rfl) ?_
    refine xg_9_5 hx hb hts hown hK hP mw_204 dX10_spread_16 ?_
    refine lv_iload_n hx hb dX10_spread_19 rfl (lv_at hl 3 rfl) ?_
    refine lv_iload_n hx hb dX10_spread_20 rfl (lv_at hl 3 rfl) ?_
    refine lv_iload_n hx hb dX10_spread_21 rfl (lv_at hl 1 rfl) ?_
    refine lv_icmp_ne (tgt := 29) hx hb dX10_spread_22 (by decide) (fun hc => ?_) (fun hc => ?_)
    · have h := h.2 hc
      refine lv_iconst (v := (-1 : Int32)) hx hb dX10_spread_29 (by decide) ?_
      refine xs_51 hx hb hK hP hD hS h.1 rfl dX10_spread_30 (fun τ2 H locs eτ2 hP hD hS => ?_)
      have h := h.2
      have h := h τ2 eτ2
      obtain ⟨v3, ev3⟩ : ∃ z : Int32, z = x3 + (1 : Int32) := ⟨_, rfl⟩
      have h := h v3 ev3
      refine lv_iinc (v := v3) (lv' := [(3, .int v3), (0, .ref (ad 9)), (1, .int x1), (2, .int x2)]) hx hb dX10_spread_31 hl (k := 3) rfl (by rw [ev3]; rfl) (by decide) rfl (fun ls hl => ?_)
      refine lv_goto (tgt := 10) hx hb dX10_spread_34 (by decide) ?_
      exact hk_10 x1 x2 v3 τ2 _ _ _ h hP hD hS (lv_sub hl [1, 2, 3, 0] rfl)
    · have h := h.1 hc
      refine lv_iconst (v := (0 : Int32)) hx hb dX10_spread_25 (by decide) ?_
      refine lv_goto (tgt := 30) hx hb dX10_spread_26 (by decide) ?_
      refine xs_51 hx hb hK hP hD hS h.1 rfl dX10_spread_30 (fun τ4 H locs eτ4 hP hD hS => ?_)
      have h := h.2
      have h := h τ4 eτ4
      obtain ⟨v5, ev5⟩ : ∃ z : Int32, z = x3 + (1 : Int32) := ⟨_, rfl⟩
      have h := h v5 ev5
      refine lv_iinc (v := v5) (lv' := [(3, .int v5), (0, .ref (ad 9)), (1, .int x1), (2, .int x2)]) hx hb dX10_spread_31 hl (k := 3) rfl (by rw [ev5]; rfl) (by decide) rfl (fun ls hl => ?_)
      refine lv_goto (tgt := 10) hx hb dX10_spread_34 (by decide) ?_
      exact hk_10 x1 x2 v5 τ4 _ _ _ h hP hD hS (lv_sub hl [1, 2, 3, 0] rfl)
set_option maxHeartbeats 4000000 in
set_option maxRecDepth 100000 in
theorem t_X10_spread_10 (C0 : zCx p s m meth c args RX10 cX10_spread 8 none vs_X10_spread) (hK : va_K (dC, dI) vwCl (x_ty cI cJ) s) (N : Nat) {Q : zSt → Prop} : ∀ (f : Nat) (x1 : Int32) (x2 : Int32) (x3 : Int32) (σ : zSt) (H : Heap) (locs : List Loc) (ls : Array Slot), w_X10_spread_10 N  Q f x1 x2 x3 σ → va_P (dC, dI) vwCl (x_W ad cI cJ σ) H → va_D (zAW x_n ad s.heap.size) (x_W ad cI cJ σ) → va_S (zAW x_n ad s.heap.size) s.heap H locs → lv_has ls 8 [(0, .ref (ad 9)), (1, .int x1), (2, .int x2), (3, .int x3)] → W p l e rm_X10_spread s m args below meth c H locs 0 0 (MQ below (zQv (dC, dI) (x_ty cI cJ) (x_W ad cI cJ) (zAW x_n ad s.heap.size) Q) args s 0 0 (zAW x_n ad s.heap.size)) (F0 m 10 ls []) := by
  intro f
  induction f with
  | zero => intro x1 x2 x3 σ H locs ls h; exact h.elim
  | succ f ih =>
    intro x1 x2 x3 σ H locs ls h hP hD hS hl
    exact tb_X10_spread_10 C0 hK N  (k_10 := w_X10_spread_10 N  Q f) ih x1 x2 x3 σ H locs ls h hP hD hS hl
set_option maxHeartbeats 4000000 in
set_option maxRecDepth 100000 in
theorem t_X10_spread_0 (C0 : zCx p s m meth c args RX10 cX10_spread 8 none vs_X10_spread) (hK : va_K (dC, dI) vwCl (x_ty cI cJ) s) (N : Nat) {Q : zSt → Prop} : ∀ (x1 : Int32) (σ : zSt) (H : Heap) (locs : List Loc) (ls : Array Slot), w_X10_spread N x1 σ Q → va_P (dC, dI) vwCl (x_W ad cI cJ σ) H → va_D (zAW x_n ad s.heap.size) (x_W ad cI cJ σ) → va_S (zAW x_n ad s.heap.size) s.heap H locs → lv_has ls 8 [(0, .ref (ad 9)), (1, .int x1)] → W p l e rm_X10_spread s m args below meth c H locs 0 0 (MQ below (zQv (dC, dI) (x_ty cI cJ) (x_W ad cI cJ) (zAW x_n ad s.heap.size) Q) args s 0 0 (zAW x_n ad s.heap.size)) (F0 m 0 ls []) := by
  obtain ⟨hx, hb, hml, hr, hown, hts, hlocks⟩ := id C0
  intro x1 σ H locs ls h hP hD hS hl
  unfold w_X10_spread at h
  refine lv_aload_n hx hb dX10_spread_0 rfl (lv_at hl 0 rfl) ?_
  refine xg_9_0 hx hb hts hown hK hP mw_199 dX10_spread_1 ?_
  refine xg_3_4 hx hb hts hown hK hP mw_74 dX10_spread_4 ?_
  refine lv_topi (fun v1 ev1 => ?_)
  have h := h v1 ev1
  refine lv_istore_n (lv' := [(2, .int v1), (0, .ref (ad 9)), (1, .int x1)]) hx hb dX10_spread_7 rfl hl (by decide) rfl (fun ls hl => ?_)
  refine lv_iconst (v := (0 : Int32)) hx hb dX10_spread_8 (by decide) ?_
  refine lv_istore_n (lv' := [(3, .int (0 : Int32)), (2, .int v1), (0, .ref (ad 9)), (1, .int x1)]) hx hb dX10_spread_9 rfl hl (by decide) rfl (fun ls hl => ?_)
  exact t_X10_spread_10 C0 hK N  N x1 v1 (0 : Int32) σ _ _ _ h hP hD hS (lv_sub hl [2, 3, 1, 0] rfl)
set_option maxHeartbeats 4000000 in
set_option maxRecDepth 100000 in
theorem c_X10_spread (N : Nat) (l : Launch) (dC : Nat → ClassId) (dI : Nat → Nat → Nat) (ad : Nat → Nat) (cI cJ : ClassId) (sz : Nat) (σ : zSt) (x1 : Int32) (Q : zSt → Prop) (h : w_X10_spread N x1 σ Q) : Met l yX10_spread vs_X10_spread rm_X10_spread (va_Pc [.ref (ad 9), .int x1] (zPc (dC, dI) (x_ty cI cJ) (x_W ad cI cJ) sz σ)) (zQv (dC, dI) (x_ty cI cJ) (x_W ad cI cJ) (zAW x_n ad sz) Q) 0 0 (zAW x_n ad sz) := by
  refine Met.ofW (cc := cX10_spread) (maxL := 8) (ret := none) (by decide) rfl ?_
  intro p e s m args below meth c s₁ B hml hv
  obtain ⟨rfl, hsz, hP, hK, hD0⟩ := hv
  subst hsz
  have C0 : zCx p s m meth c _ RX10 cX10_spread 8 none vs_X10_spread := ⟨B.exec, B.bytes, hml, B.returns, findClass_of_methodNamed B.named, atoms_spec (ws := vs_X10_spread) B.pre, B.notSynchronized⟩
  have hD := x_D0 (n0 := s.heap.size) hD0
  have hl := lv_entry ([.ref (ad 9), .int x1]) (n := 8) (Nat.le_of_ble_eq_true rfl)
  rw [lg_entry_eq]
  generalize (lg_sl ([.ref (ad 9), .int x1]) ++ List.replicate (8 - (lg_sl ([.ref (ad 9), .int x1])).length) Slot.unset).toArray = ls at hl ⊢
  exact t_X10_spread_0 C0 hK N x1 σ _ _ ls h hP hD va_S.rf hl
theorem k_X10_spread (N : Nat) {R : Room} {H : Heap} {locs : List Loc} {cells slots : Nat} {Q2 : State → Prop} {cc : ByteArray} {nL pc index : Nat} {ls : Array Slot} {rest : List Value} {own : String} {c0 : Cond} {σ : zSt} {x1 : Int32} {Q : zSt → Prop} (S0 : CallFix p m c cc nL s args (c0 :: zT) own) (hml : Cond.methodLink own index yX10_spread ∈ zT) (hR : rm_X10_spread.frames + 1 ≤ R.frames ∧ 8 + (8 + 11) + rm_X10_spread.locals ≤ R.locals) (h : w_X10_spread N x1 σ Q) (hK : va_K (dC, dI) vwCl (x_ty cI cJ) s) (hP : va_P (dC, dI) vwCl (x_W ad cI cJ σ) H) (hD : va_D (zAW x_n ad s.heap.size) (x_W ad cI cJ σ)) (hS : va_S (zAW x_n ad s.heap.size) s.heap H locs) (hsz : ls.size = nL) (hW : (rest.map fun v => v.category).sum ≤ 8) (hcs : cells ≤ R.cells ∧ slots ≤ R.slots) (hdg : decode cc pc = .ok (.invokevirtual index, 3)) (kk : ∀ (τ : zSt) (H1 : Heap) (locs1 : List Loc), Q τ → va_P (dC, dI) vwCl (x_W ad cI cJ τ) H1 → va_D (zAW x_n ad s.heap.size) (x_W ad cI cJ τ) → va_S (zAW x_n ad s.heap.size) s.heap H1 locs1 → W p l e R s m args below meth c H1 locs1 cells slots Q2 (F0 m (pc + 3) ls (rest))) : W p l e R s m args below meth c H locs cells slots Q2 (F0 m pc ls (.int x1 :: .ref (ad 9) :: rest)) :=
  zcv_v (T := TX10) (N' := 10) (k := 9) (ci := 10) (fs := x_f9 ad σ) [.int x1] S0 (c_X10_spread N l dC dI ad cI cJ H.size σ x1 Q h) (cw_X10_spread S0.2.2.2.2 hml rfl rfl hR) rfl rfl hK hP hD hS rfl hsz hW rfl hcs hdg kk
end q05
section q05
def w_J6_bitCount_0f7a4 (N : Nat) (x0 : Int32) (σ : zSt) (Q : Int32 → zSt → Prop) : Prop :=
  ∀ v1 : Int32, v1 = x0 - (((x0.toUInt32 >>> ((1 : Int32).toUInt32 &&& Int32.toUInt32 31)).toInt32) &&& (1431655765 : Int32)) → ∀ v2 : Int32, v2 = (v1 &&& (858993459 : Int32)) + (((v1.toUInt32 >>> ((2 : Int32).toUInt32 &&& Int32.toUInt32 31)).toInt32) &&& (858993459 : Int32)) → ∀ v3 : Int32, v3 = (v2 + ((v2.toUInt32 >>> ((4 : Int32).toUInt32 &&& Int32.toUInt32 31)).toInt32)) &&& (252645135 : Int32) → ∀ v4 : Int32, v4 = v3 + ((v3.toUInt32 >>> ((8 : Int32).toUInt32 &&& Int32.toUInt32 31)).toInt32) → ∀ v5 : Int32, v5 = v4 + ((v4.toUInt32 >>> ((16 : Int32).toUInt32 &&& Int32.toUInt32 31)).toInt32) → Q (v5 &&& (63 : Int32)) σ
variable {p : Program} {l : Launch} {e : Env} {s : State} {m : MethodId} {args : Array Value} {below : List Frame} {meth : Method} {c : Code} {dC : Nat → ClassId} {dI : Nat → Nat → Nat} {ad : Nat → Nat} {cI cJ : ClassId}
set_option maxHeartbeats 4000000 in
set_option maxRecDepth 100000 in
theorem t_J6_bitCount_0f7a4_0 (C0 : zCx p s m meth c args RJ6 cJ6_bitCount_0f7a4 1 (some .int) vs_J6_bitCount_0f7a4) (hK : va_K (dC, dI) vwCl (x_ty cI cJ) s) (N : Nat) {Q : Int32 → zSt → Prop} : ∀ (x0 : Int32) (σ : zSt) (H : Heap) (locs : List Loc) (ls : Array Slot), w_J6_bitCount_0f7a4 N x0 σ Q → va_P (dC, dI) vwCl (x_W ad cI cJ σ) H → va_D (zAW x_n ad s.heap.size) (x_W ad cI cJ σ) → va_S (zAW x_n ad s.heap.size) s.heap H locs → lv_has ls 1 [(0, .int x0)] → W p l e rm_J6_bitCount_0f7a4 s m args below meth c H locs 0 0 (MQ below (zQi (dC, dI) (x_ty cI cJ) (x_W ad cI cJ) (zAW x_n ad s.heap.size) Q) args s 0 0 (zAW x_n ad s.heap.size)) (F0 m 0 ls []) := by
  obtain ⟨hx, hb, hml, hr, hown, hts, hlocks⟩ := id C0
  intro x0 σ H locs ls h hP hD hS hl
  unfold w_J6_bitCount_0f7a4 at h
  refine lv_iload_n hx hb dJ6_bitCount_0f7a4_0 rfl (lv_at hl 0 rfl) ?_
  refine lv_iload_n hx hb dJ6_bitCount_0f7a4_1 rfl (lv_at hl 0 rfl) ?_
  refine lv_iconst (v := (1 : Int32)) hx hb dJ6_bitCount_0f7a4_2 (by decide) ?_
  refine lv_iushr hx hb dJ6_bitCount_0f7a4_3 rfl ?_
  refine lv_ldcw (v := (1431655765 : Int32)) hx hb hown (hts _ (List.mem_cons_of_mem _ mw_564)) dJ6_bitCount_0f7a4_4 ?_
  refine lv_iand hx hb dJ6_bitCount_0f7a4_7 ?_
  refine lv_isub hx hb dJ6_bitCount_0f7a4_8 ?_
  refine lv_topi (fun v1 ev1 => ?_)
  have h := h v1 ev1
  refine lv_istore_n (lv' := [(0, .int v1)]) hx hb dJ6_bitCount_0f7a4_9 rfl hl (by decide) rfl (fun ls hl => ?_)
  refine lv_iload_n hx hb dJ6_bitCount_0f7a4_10 rfl (lv_at hl 0 rfl) ?_
  refine lv_ldcw (v := (858993459 : Int32)) hx hb hown (hts _ (List.mem_cons_of_mem _ mw_565)) dJ6_bitCount_0f7a4_11 ?_
  refine lv_iand hx hb dJ6_bitCount_0f7a4_14 ?_
  refine lv_iload_n hx hb dJ6_bitCount_0f7a4_15 rfl (lv_at hl 0 rfl) ?_
  refine lv_iconst (v := (2 : Int32)) hx hb dJ6_bitCount_0f7a4_16 (by decide) ?_
  refine lv_iushr hx hb dJ6_bitCount_0f7a4_17 rfl ?_
  refine lv_ldcw (v := (858993459 : Int32)) hx hb hown (hts _ (List.mem_cons_of_mem _ mw_565)) dJ6_bitCount_0f7a4_18 ?_
  refine lv_iand hx hb dJ6_bitCount_0f7a4_21 ?_
  refine lv_iadd hx hb dJ6_bitCount_0f7a4_22 ?_
  refine lv_topi (fun v2 ev2 => ?_)
  have h := h v2 ev2
  refine lv_istore_n (lv' := [(0, .int v2)]) hx hb dJ6_bitCount_0f7a4_23 rfl hl (by decide) rfl (fun ls hl => ?_)
  refine lv_iload_n hx hb dJ6_bitCount_0f7a4_24 rfl (lv_at hl 0 rfl) ?_
  refine lv_iload_n hx hb dJ6_bitCount_0f7a4_25 rfl (lv_at hl 0 rfl) ?_
  refine lv_iconst (v := (4 : Int32)) hx hb dJ6_bitCount_0f7a4_26 (by decide) ?_
  refine lv_iushr hx hb dJ6_bitCount_0f7a4_27 rfl ?_
  refine lv_iadd hx hb dJ6_bitCount_0f7a4_28 ?_
  refine lv_ldcw (v := (252645135 : Int32)) hx hb hown (hts _ (List.mem_cons_of_mem _ mw_566)) dJ6_bitCount_0f7a4_29 ?_
  refine lv_iand hx hb dJ6_bitCount_0f7a4_32 ?_
  refine lv_topi (fun v3 ev3 => ?_)
  have h := h v3 ev3
  refine lv_istore_n (lv' := [(0, .int v3)]) hx hb dJ6_bitCount_0f7a4_33 rfl hl (by decide) rfl (fun ls hl => ?_)
  refine lv_iload_n hx hb dJ6_bitCount_0f7a4_34 rfl (lv_at hl 0 rfl) ?_
  refine lv_iload_n hx hb dJ6_bitCount_0f7a4_35 rfl (lv_at hl 0 rfl) ?_
  refine lv_bipush (v := (8 : Int32)) hx hb dJ6_bitCount_0f7a4_36 (by decide) ?_
  refine lv_iushr hx hb dJ6_bitCount_0f7a4_38 rfl ?_
  refine lv_iadd hx hb dJ6_bitCount_0f7a4_39 ?_
  refine lv_topi (fun v4 ev4 => ?_)
  have h := h v4 ev4
  refine lv_istore_n (lv' := [(0, .int v4)]) hx hb dJ6_bitCount_0f7a4_40 rfl hl (by decide) rfl (fun ls hl => ?_)
  refine lv_iload_n hx hb dJ6_bitCount_0f7a4_41 rfl (lv_at hl 0 rfl) ?_
  refine lv_iload_n hx hb dJ6_bitCount_0f7a4_42 rfl (lv_at hl 0 rfl) ?_
  refine lv_bipush (v := (16 : Int32)) hx hb dJ6_bitCount_0f7a4_43 (by decide) ?_
  refine lv_iushr hx hb dJ6_bitCount_0f7a4_45 rfl ?_
  refine lv_iadd hx hb dJ6_bitCount_0f7a4_46 ?_
  refine lv_topi (fun v5 ev5 => ?_)
  have h := h v5 ev5
  refine lv_istore_n (lv' := [(0, .int v5)]) hx hb dJ6_bitCount_0f7a4_47 rfl hl (by decide) rfl (fun ls hl => ?_)
  refine lv_iload_n hx hb dJ6_bitCount_0f7a4_48 rfl (lv_at hl 0 rfl) ?_
  refine lv_bipush (v := (63 : Int32)) hx hb dJ6_bitCount_0f7a4_49 (by decide) ?_
  refine lv_iand hx hb dJ6_bitCount_0f7a4_51 ?_
  exact zret_i hx hb hr hlocks hK hP hD hS h dJ6_bitCount_0f7a4_52
set_option maxHeartbeats 4000000 in
set_option maxRecDepth 100000 in
theorem c_J6_bitCount_0f7a4 (N : Nat) (l : Launch) (dC : Nat → ClassId) (dI : Nat → Nat → Nat) (ad : Nat → Nat) (cI cJ : ClassId) (sz : Nat) (σ : zSt) (x0 : Int32) (Q : Int32 → zSt → Prop) (h : w_J6_bitCount_0f7a4 N x0 σ Q) : Met l yJ6_bitCount_0f7a4 vs_J6_bitCount_0f7a4 rm_J6_bitCount_0f7a4 (va_Pc [.int x0] (zPc (dC, dI) (x_ty cI cJ) (x_W ad cI cJ) sz σ)) (zQi (dC, dI) (x_ty cI cJ) (x_W ad cI cJ) (zAW x_n ad sz) Q) 0 0 (zAW x_n ad sz) := by
  refine Met.ofW (cc := cJ6_bitCount_0f7a4) (maxL := 1) (ret := (some .int)) (by decide) rfl ?_
  intro p e s m args below meth c s₁ B hml hv
  obtain ⟨rfl, hsz, hP, hK, hD0⟩ := hv
  subst hsz
  have C0 : zCx p s m meth c _ RJ6 cJ6_bitCount_0f7a4 1 (some .int) vs_J6_bitCount_0f7a4 := ⟨B.exec, B.bytes, hml, B.returns, findClass_of_methodNamed B.named, atoms_spec (ws := vs_J6_bitCount_0f7a4) B.pre, B.notSynchronized⟩
  have hD := x_D0 (n0 := s.heap.size) hD0
  have hl := lv_entry ([.int x0]) (n := 1) (Nat.le_of_ble_eq_true rfl)
  rw [lg_entry_eq]
  generalize (lg_sl ([.int x0]) ++ List.replicate (1 - (lg_sl ([.int x0])).length) Slot.unset).toArray = ls at hl ⊢
  exact t_J6_bitCount_0f7a4_0 C0 hK N x0 σ _ _ ls h hP hD va_S.rf hl
theorem k_J6_bitCount_0f7a4 (N : Nat) {R : Room} {H : Heap} {locs : List Loc} {cells slots : Nat} {Q2 : State → Prop} {cc : ByteArray} {nL pc index : Nat} {ls : Array Slot} {rest : List Value} {own : String} {c0 : Cond} {σ : zSt} {x0 : Int32} {Q : Int32 → zSt → Prop} (S0 : CallFix p m c cc nL s args (c0 :: zT) own) (hml : Cond.methodLink own index yJ6_bitCount_0f7a4 ∈ zT) (hR : rm_J6_bitCount_0f7a4.frames + 1 ≤ R.frames ∧ 8 + (1 + 11) + rm_J6_bitCount_0f7a4.locals ≤ R.locals) (h : w_J6_bitCount_0f7a4 N x0 σ Q) (hK : va_K (dC, dI) vwCl (x_ty cI cJ) s) (hP : va_P (dC, dI) vwCl (x_W ad cI cJ σ) H) (hD : va_D (zAW x_n ad s.heap.size) (x_W ad cI cJ σ)) (hS : va_S (zAW x_n ad s.heap.size) s.heap H locs) (hsz : ls.size = nL) (hW : (rest.map fun v => v.category).sum ≤ 8) (hcs : cells ≤ R.cells ∧ slots ≤ R.slots) (hdg : decode cc pc = .ok (.invokestatic index, 3)) (kk : ∀ (r : Int32) (τ : zSt) (H1 : Heap) (locs1 : List Loc), Q r τ → va_P (dC, dI) vwCl (x_W ad cI cJ τ) H1 → va_D (zAW x_n ad s.heap.size) (x_W ad cI cJ τ) → va_S (zAW x_n ad s.heap.size) s.heap H1 locs1 → W p l e R s m args below meth c H1 locs1 cells slots Q2 (F0 m (pc + 3) ls (.int r :: rest))) : W p l e R s m args below meth c H locs cells slots Q2 (F0 m pc ls (.int x0 :: rest)) :=
  zcs_i [.int x0] S0 (c_J6_bitCount_0f7a4 N l dC dI ad cI cJ H.size σ x0 Q h) (cw_J6_bitCount_0f7a4 S0.2.2.2.2 hml hR) hK hP hD hS rfl hsz hW rfl hcs hdg kk
end q05
