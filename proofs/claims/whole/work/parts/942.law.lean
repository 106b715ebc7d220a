section ql
variable {p : Program} {l : Launch} {e : Env} {s : State} {m : MethodId} {below : List Frame} {meth : Method} {c : Code} {b L : Nat} {xs : Nat → Int32} {dC : Nat → ClassId} {dI : Nat → Nat → Nat} {adx adm : Nat → Nat} {cI cJ cC : ClassId}
set_option maxHeartbeats 4000000 in
set_option maxRecDepth 100000 in
theorem t_law_176 (C0 : lw_At p s m meth c b L xs) (hK : va_K (dC, dI) vwCl (m_ty cI cJ cC) s) (hdis : ∀ j k, j < x_n → k < m_n → adx j ≠ adm k) (N : Nat) {k_18 : Int32 → zSt → zSt → Prop} (hk_18 : ∀ (x3 : Int32) (σ μ : zSt) (H : Heap) (locs : List Loc) (ls : Array Slot), k_18 x3 σ μ → va_P (dC, dI) vwCl (x_W adx cI cJ σ) H → va_D (fun q : Nat => s.heap.size ≤ q) (x_W adx cI cJ σ) → va_P (dC, dI) vwCl (m_W adm cI cJ cC μ) H → va_D (fun q : Nat => s.heap.size ≤ q) (m_W adm cI cJ cC μ) → va_S (fun q : Nat => s.heap.size ≤ q) s.heap H locs → lv_has ls 4 [(0, .ref b), (1, .ref (adx 0)), (2, .ref (adm 0)), (3, .int x3)] → W p l e room_1 s m #[Value.ref b] below meth c H locs 108 37792 (lw_Z below #[Value.ref b] s) (F0 m 18 ls [])) : ∀ (x3 : Int32) (σ μ : zSt) (H : Heap) (locs : List Loc) (ls : Array Slot), b_law_176 N k_18 L xs x3 σ μ → va_P (dC, dI) vwCl (x_W adx cI cJ σ) H → va_D (fun q : Nat => s.heap.size ≤ q) (x_W adx cI cJ σ) → va_P (dC, dI) vwCl (m_W adm cI cJ cC μ) H → va_D (fun q : Nat => s.heap.size ≤ q) (m_W adm cI cJ cC μ) → va_S (fun q : Nat => s.heap.size ≤ q) s.heap H locs → lv_has ls 4 [(0, .ref b), (1, .ref (adx 0)), (2, .ref (adm 0)), (3, .int x3)] → W p l e room_1 s m #[Value.ref b] below meth c H locs 108 37792 (lw_Z below #[Value.ref b] s) (F0 m 176 ls []) := by
  obtain ⟨hx, hb, hr, hml, hown, hts0, hX, hbl, hlocks, hgv⟩ := id C0
  have hts := lw_hts hts0
  have hbA : ¬ (fun q : Nat => s.heap.size ≤ q) b := Nat.not_le.mpr hbl
  have hKx := hK.sub (tys' := x_ty cI cJ) [0, 1] rfl
  have hdis' : ∀ j k, j < m_n → k < x_n → adm j ≠ adx k := fun j k h1 h2 h3 => hdis k j h2 h1 h3.symm
  intro x3 σ μ H locs ls h hPx hDx hPm hDm hS hl
  unfold b_law_176 at h
  refine lv_aload_n hx hb dL_law_176 rfl (lv_at hl 1 rfl) ?_
  refine lv_aload_n hx hb dL_law_177 rfl (lv_at hl 0 rfl) ?_
  refine lv_iload_n hx hb dL_law_178 rfl (lv_at hl 3 rfl) ?_
  refine lv_iconst (v := (1 : Int32)) hx hb dL_law_179 (by decide) ?_
  refine lv_iadd hx hb dL_law_180 ?_
  refine va_sld hx hb hX hbl hbA hS h.1 dL_law_181 ?_
  have h := h.2
  refine lv_aload_n hx hb dL_law_182 rfl (lv_at hl 0 rfl) ?_
  refine lv_iload_n hx hb dL_law_183 rfl (lv_at hl 3 rfl) ?_
  refine lv_iconst (v := (2 : Int32)) hx hb dL_law_184 (by decide) ?_
  refine lv_iadd hx hb dL_law_185 ?_
  refine va_sld hx hb hX hbl hbA hS h.1 dL_law_186 ?_
  have h := h.2
  refine lv_aload_n hx hb dL_law_187 rfl (lv_at hl 0 rfl) ?_
  refine lv_iload_n hx hb dL_law_188 rfl (lv_at hl 3 rfl) ?_
  refine lv_iconst (v := (3 : Int32)) hx hb dL_law_189 (by decide) ?_
  refine lv_iadd hx hb dL_law_190 ?_
  refine va_sld hx hb hX hbl hbA hS h.1 dL_law_191 ?_
  have h := h.2
  refine lv_aload_n hx hb dL_law_192 rfl (lv_at hl 0 rfl) ?_
  refine lv_iload_n hx hb dL_law_193 rfl (lv_at hl 3 rfl) ?_
  refine lv_iconst (v := (4 : Int32)) hx hb dL_law_194 (by decide) ?_
  refine lv_iadd hx hb dL_law_195 ?_
  refine va_sld hx hb hX hbl hbA hS h.1 dL_law_196 ?_
  have h := h.2
  refine lv_aload_n hx hb dL_law_197 rfl (lv_at hl 0 rfl) ?_
  refine lv_iload_n hx hb dL_law_198 rfl (lv_at hl 3 rfl) ?_
  refine lv_iconst (v := (5 : Int32)) hx hb dL_law_199 (by decide) ?_
  refine lv_iadd hx hb dL_law_200 ?_
  refine va_sld hx hb hX hbl hbA hS h.1 dL_law_201 ?_
  have h := h.2
  refine zlx_i [.int (xs (x3 + (1 : Int32)).toNatClampNeg), .int (xs (x3 + (2 : Int32)).toNatClampNeg), .int (xs (x3 + (3 : Int32)).toNatClampNeg), .int (xs (x3 + (4 : Int32)).toNatClampNeg), .int (xs (x3 + (5 : Int32)).toNatClampNeg)] ⟨hx, hb, hml, hown, hts⟩ (c_X11_feed N l dC dI adx cI cJ _ σ (xs (x3 + (1 : Int32)).toNatClampNeg) (xs (x3 + (2 : Int32)).toNatClampNeg) (xs (x3 + (3 : Int32)).toNatClampNeg) (xs (x3 + (4 : Int32)).toNatClampNeg) (xs (x3 + (5 : Int32)).toNatClampNeg) _ h) (cw_X11_feed hts mw_306 rfl rfl ⟨Nat.le_of_ble_eq_true rfl, Nat.le_of_ble_eq_true rfl⟩) rfl rfl hKx hPx hDx hPm hdis hS rfl hl.1 (rest := []) (Nat.le_of_ble_eq_true rfl) rfl ⟨Nat.le_of_ble_eq_true rfl, Nat.le_of_ble_eq_true rfl⟩ dL_law_202 (fun r1 τ2 H locs h hPx hDx hPm hS => ?_)
  refine lv_aload_n hx hb dL_law_205 rfl (lv_at hl 2 rfl) ?_
  refine lv_aload_n hx hb dL_law_206 rfl (lv_at hl 0 rfl) ?_
  refine lv_iload_n hx hb dL_law_207 rfl (lv_at hl 3 rfl) ?_
  refine lv_iconst (v := (1 : Int32)) hx hb dL_law_208 (by decide) ?_
  refine lv_iadd hx hb dL_law_209 ?_
  refine va_sld hx hb hX hbl hbA hS h.1 dL_law_210 ?_
  have h := h.2
  refine lv_aload_n hx hb dL_law_211 rfl (lv_at hl 0 rfl) ?_
  refine lv_iload_n hx hb dL_law_212 rfl (lv_at hl 3 rfl) ?_
  refine lv_iconst (v := (2 : Int32)) hx hb dL_law_213 (by decide) ?_
  refine lv_iadd hx hb dL_law_214 ?_
  refine va_sld hx hb hX hbl hbA hS h.1 dL_law_215 ?_
  have h := h.2
  refine lv_aload_n hx hb dL_law_216 rfl (lv_at hl 0 rfl) ?_
  refine lv_iload_n hx hb dL_law_217 rfl (lv_at hl 3 rfl) ?_
  refine lv_iconst (v := (3 : Int32)) hx hb dL_law_218 (by decide) ?_
  refine lv_iadd hx hb dL_law_219 ?_
  refine va_sld hx hb hX hbl hbA hS h.1 dL_law_220 ?_
  have h := h.2
  refine lv_aload_n hx hb dL_law_221 rfl (lv_at hl 0 rfl) ?_
  refine lv_iload_n hx hb dL_law_222 rfl (lv_at hl 3 rfl) ?_
  refine lv_iconst (v := (4 : Int32)) hx hb dL_law_223 (by decide) ?_
  refine lv_iadd hx hb dL_law_224 ?_
  refine va_sld hx hb hX hbl hbA hS h.1 dL_law_225 ?_
  have h := h.2
  refine lv_aload_n hx hb dL_law_226 rfl (lv_at hl 0 rfl) ?_
  refine lv_iload_n hx hb dL_law_227 rfl (lv_at hl 3 rfl) ?_
  refine lv_iconst (v := (5 : Int32)) hx hb dL_law_228 (by decide) ?_
  refine lv_iadd hx hb dL_law_229 ?_
  refine va_sld hx hb hX hbl hbA hS h.1 dL_law_230 ?_
  have h := h.2
  refine zlm_i [.int (xs (x3 + (1 : Int32)).toNatClampNeg), .int (xs (x3 + (2 : Int32)).toNatClampNeg), .int (xs (x3 + (3 : Int32)).toNatClampNeg), .int (xs (x3 + (4 : Int32)).toNatClampNeg), .int (xs (x3 + (5 : Int32)).toNatClampNeg)] ⟨hx, hb, hml, hown, hts⟩ (c_X12_feed N l dC dI adm cI cJ cC _ μ (xs (x3 + (1 : Int32)).toNatClampNeg) (xs (x3 + (2 : Int32)).toNatClampNeg) (xs (x3 + (3 : Int32)).toNatClampNeg) (xs (x3 + (4 : Int32)).toNatClampNeg) (xs (x3 + (5 : Int32)).toNatClampNeg) _ h) (cw_X12_feed hts mw_917 rfl rfl ⟨Nat.le_of_ble_eq_true rfl, Nat.le_of_ble_eq_true rfl⟩) rfl rfl hK hPm hDm hPx hdis' hS rfl hl.1 (rest := [.int r1]) (Nat.le_of_ble_eq_true rfl) rfl ⟨Nat.le_of_ble_eq_true rfl, Nat.le_of_ble_eq_true rfl⟩ dL_law_231 (fun r3 τ4 H locs h hPm hDm hPx hS => ?_)
  refine lv_icmp_eq (tgt := 1121) hx hb dL_law_234 (by decide) (fun hc => ?_) (fun hc => ?_)
  · have h := h.1 hc
    obtain ⟨v5, ev5⟩ : ∃ z : Int32, z = x3 + (6 : Int32) := ⟨_, rfl⟩
    have h := h v5 ev5
    refine lv_iinc (v := v5) (lv' := [(3, .int v5), (0, .ref b), (1, .ref (adx 0)), (2, .ref (adm 0))]) hx hb dL_law_1121 hl (k := 3) rfl (by rw [ev5]; rfl) (by decide) rfl (fun ls hl => ?_)
    refine lv_goto (tgt := 18) hx hb dL_law_1124 (by decide) ?_
    exact hk_18 v5 τ2 τ4 _ _ _ h hPx hDx hPm hDm hS (lv_sub hl [1, 2, 3, 0] rfl)
  · have h := h.2 hc
    refine lv_iconst (v := (0 : Int32)) hx hb dL_law_237 (by decide) ?_
    exact h.elim
set_option maxHeartbeats 4000000 in
set_option maxRecDepth 100000 in
theorem t_law_239 (C0 : lw_At p s m meth c b L xs) (hK : va_K (dC, dI) vwCl (m_ty cI cJ cC) s) (hdis : ∀ j k, j < x_n → k < m_n → adx j ≠ adm k) (N : Nat) {k_18 : Int32 → zSt → zSt → Prop} (hk_18 : ∀ (x3 : Int32) (σ μ : zSt) (H : Heap) (locs : List Loc) (ls : Array Slot), k_18 x3 σ μ → va_P (dC, dI) vwCl (x_W adx cI cJ σ) H → va_D (fun q : Nat => s.heap.size ≤ q) (x_W adx cI cJ σ) → va_P (dC, dI) vwCl (m_W adm cI cJ cC μ) H → va_D (fun q : Nat => s.heap.size ≤ q) (m_W adm cI cJ cC μ) → va_S (fun q : Nat => s.heap.size ≤ q) s.heap H locs → lv_has ls 4 [(0, .ref b), (1, .ref (adx 0)), (2, .ref (adm 0)), (3, .int x3)] → W p l e room_1 s m #[Value.ref b] below meth c H locs 108 37792 (lw_Z below #[Value.ref b] s) (F0 m 18 ls [])) : ∀ (x3 : Int32) (σ μ : zSt) (H : Heap) (locs : List Loc) (ls : Array Slot), b_law_239 N k_18 L xs x3 σ μ → va_P (dC, dI) vwCl (x_W adx cI cJ σ) H → va_D (fun q : Nat => s.heap.size ≤ q) (x_W adx cI cJ σ) → va_P (dC, dI) vwCl (m_W adm cI cJ cC μ) H → va_D (fun q : Nat => s.heap.size ≤ q) (m_W adm cI cJ cC μ) → va_S (fun q : Nat => s.heap.size ≤ q) s.heap H locs → lv_has ls 4 [(0, .ref b), (1, .ref (adx 0)), (2, .ref (adm 0)), (3, .int x3)] → W p l e room_1 s m #[Value.ref b] below meth c H locs 108 37792 (lw_Z below #[Value.ref b] s) (F0 m 239 ls []) := by
  obtain ⟨hx, hb, hr, hml, hown, hts0, hX, hbl, hlocks, hgv⟩ := id C0
  have hts := lw_hts hts0
  have hbA : ¬ (fun q : Nat => s.heap.size ≤ q) b := Nat.not_le.mpr hbl
  have hKx := hK.sub (tys' := x_ty cI cJ) [0, 1] rfl
  have hdis' : ∀ j k, j < m_n → k < x_n → adm j ≠ adx k := fun j k h1 h2 h3 => hdis k j h2 h1 h3.symm
  intro x3 σ μ H locs ls h hPx hDx hPm hDm hS hl
  unfold b_law_239 at h
  refine lv_aload_n hx hb dL_law_239 rfl (lv_at hl 1 rfl) ?_
  refine lv_aload_n hx hb dL_law_240 rfl (lv_at hl 0 rfl) ?_
  refine lv_iload_n hx hb dL_law_241 rfl (lv_at hl 3 rfl) ?_
  refine lv_iconst (v := (1 : Int32)) hx hb dL_law_242 (by decide) ?_
  refine lv_iadd hx hb dL_law_243 ?_
  refine va_sld hx hb hX hbl hbA hS h.1 dL_law_244 ?_
  have h := h.2
  refine zlx_i [.int (xs (x3 + (1 : Int32)).toNatClampNeg)] ⟨hx, hb, hml, hown, hts⟩ (c_X11_end N l dC dI adx cI cJ _ σ (xs (x3 + (1 : Int32)).toNatClampNeg) _ h) (cw_X11_end hts mw_314 rfl rfl ⟨Nat.le_of_ble_eq_true rfl, Nat.le_of_ble_eq_true rfl⟩) rfl rfl hKx hPx hDx hPm hdis hS rfl hl.1 (rest := []) (Nat.le_of_ble_eq_true rfl) rfl ⟨Nat.le_of_ble_eq_true rfl, Nat.le_of_ble_eq_true rfl⟩ dL_law_245 (fun r1 τ2 H locs h hPx hDx hPm hS => ?_)
  refine lv_aload_n hx hb dL_law_248 rfl (lv_at hl 2 rfl) ?_
  refine lv_aload_n hx hb dL_law_249 rfl (lv_at hl 0 rfl) ?_
  refine lv_iload_n hx hb dL_law_250 rfl (lv_at hl 3 rfl) ?_
  refine lv_iconst (v := (1 : Int32)) hx hb dL_law_251 (by decide) ?_
  refine lv_iadd hx hb dL_law_252 ?_
  refine va_sld hx hb hX hbl hbA hS h.1 dL_law_253 ?_
  have h := h.2
  refine zlm_i [.int (xs (x3 + (1 : Int32)).toNatClampNeg)] ⟨hx, hb, hml, hown, hts⟩ (c_X12_end N l dC dI adm cI cJ cC _ μ (xs (x3 + (1 : Int32)).toNatClampNeg) _ h) (cw_X12_end hts mw_921 rfl rfl ⟨Nat.le_of_ble_eq_true rfl, Nat.le_of_ble_eq_true rfl⟩) rfl rfl hK hPm hDm hPx hdis' hS rfl hl.1 (rest := [.int r1]) (Nat.le_of_ble_eq_true rfl) rfl ⟨Nat.le_of_ble_eq_true rfl, Nat.le_of_ble_eq_true rfl⟩ dL_law_254 (fun r3 τ4 H locs h hPm hDm hPx hS => ?_)
  refine lv_icmp_eq (tgt := 1121) hx hb dL_law_257 (by decide) (fun hc => ?_) (fun hc => ?_)
  · have h := h.1 hc
    obtain ⟨v5, ev5⟩ : ∃ z : Int32, z = x3 + (6 : Int32) := ⟨_, rfl⟩
    have h := h v5 ev5
    refine lv_iinc (v := v5) (lv' := [(3, .int v5), (0, .ref b), (1, .ref (adx 0)), (2, .ref (adm 0))]) hx hb dL_law_1121 hl (k := 3) rfl (by rw [ev5]; rfl) (by decide) rfl (fun ls hl => ?_)
    refine lv_goto (tgt := 18) hx hb dL_law_1124 (by decide) ?_
    exact hk_18 v5 τ2 τ4 _ _ _ h hPx hDx hPm hDm hS (lv_sub hl [1, 2, 3, 0] rfl)
  · have h := h.2 hc
    refine lv_iconst (v := (0 : Int32)) hx hb dL_law_260 (by decide) ?_
    exact h.elim
set_option maxHeartbeats 4000000 in
set_option maxRecDepth 100000 in
theorem t_law_262 (C0 : lw_At p s m meth c b L xs) (hK : va_K (dC, dI) vwCl (m_ty cI cJ cC) s) (hdis : ∀ j k, j < x_n → k < m_n → adx j ≠ adm k) (N : Nat) {k_18 : Int32 → zSt → zSt → Prop} (hk_18 : ∀ (x3 : Int32) (σ μ : zSt) (H : Heap) (locs : List Loc) (ls : Array Slot), k_18 x3 σ μ → va_P (dC, dI) vwCl (x_W adx cI cJ σ) H → va_D (fun q : Nat => s.heap.size ≤ q) (x_W adx cI cJ σ) → va_P (dC, dI) vwCl (m_W adm cI cJ cC μ) H → va_D (fun q : Nat => s.heap.size ≤ q) (m_W adm cI cJ cC μ) → va_S (fun q : Nat => s.heap.size ≤ q) s.heap H locs → lv_has ls 4 [(0, .ref b), (1, .ref (adx 0)), (2, .ref (adm 0)), (3, .int x3)] → W p l e room_1 s m #[Value.ref b] below meth c H locs 108 37792 (lw_Z below #[Value.ref b] s) (F0 m 18 ls [])) : ∀ (x3 : Int32) (σ μ : zSt) (H : Heap) (locs : List Loc) (ls : Array Slot), b_law_262 N k_18 L xs x3 σ μ → va_P (dC, dI) vwCl (x_W adx cI cJ σ) H → va_D (fun q : Nat => s.heap.size ≤ q) (x_W adx cI cJ σ) → va_P (dC, dI) vwCl (m_W adm cI cJ cC μ) H → va_D (fun q : Nat => s.heap.size ≤ q) (m_W adm cI cJ cC μ) → va_S (fun q : Nat => s.heap.size ≤ q) s.heap H locs → lv_has ls 4 [(0, .ref b), (1, .ref (adx 0)), (2, .ref (adm 0)), (3, .int x3)] → W p l e room_1 s m #[Value.ref b] below meth c H locs 108 37792 (lw_Z below #[Value.ref b] s) (F0 m 262 ls []) := by
  obtain ⟨hx, hb, hr, hml, hown, hts0, hX, hbl, hlocks, hgv⟩ := id C0
  have hts := lw_hts hts0
  have hbA : ¬ (fun q : Nat => s.heap.size ≤ q) b := Nat.not_le.mpr hbl
  have hKx := hK.sub (tys' := x_ty cI cJ) [0, 1] rfl
  have hdis' : ∀ j k, j < m_n → k < x_n → adm j ≠ adx k := fun j k h1 h2 h3 => hdis k j h2 h1 h3.symm
  intro x3 σ μ H locs ls h hPx hDx hPm hDm hS hl
  unfold b_law_262 at h
  refine lv_aload_n hx hb dL_law_262 rfl (lv_at hl 1 rfl) ?_
  refine zlx_i [] ⟨hx, hb, hml, hown, hts⟩ (c_X11_land N l dC dI adx cI cJ _ σ  _ h) (cw_X11_land hts mw_318 rfl rfl ⟨Nat.le_of_ble_eq_true rfl, Nat.le_of_ble_eq_true rfl⟩) rfl rfl hKx hPx hDx hPm hdis hS rfl hl.1 (rest := []) (Nat.le_of_ble_eq_true rfl) rfl ⟨Nat.le_of_ble_eq_true rfl, Nat.le_of_ble_eq_true rfl⟩ dL_law_263 (fun r1 τ2 H locs h hPx hDx hPm hS => ?_)
  refine lv_aload_n hx hb dL_law_266 rfl (lv_at hl 2 rfl) ?_
  refine zlm_i [] ⟨hx, hb, hml, hown, hts⟩ (c_X12_land N l dC dI adm cI cJ cC _ μ  _ h) (cw_X12_land hts mw_925 rfl rfl ⟨Nat.le_of_ble_eq_true rfl, Nat.le_of_ble_eq_true rfl⟩) rfl rfl hK hPm hDm hPx hdis' hS rfl hl.1 (rest := [.int r1]) (Nat.le_of_ble_eq_true rfl) rfl ⟨Nat.le_of_ble_eq_true rfl, Nat.le_of_ble_eq_true rfl⟩ dL_law_267 (fun r3 τ4 H locs h hPm hDm hPx hS => ?_)
  refine lv_icmp_eq (tgt := 1121) hx hb dL_law_270 (by decide) (fun hc => ?_) (fun hc => ?_)
  · have h := h.1 hc
    obtain ⟨v5, ev5⟩ : ∃ z : Int32, z = x3 + (6 : Int32) := ⟨_, rfl⟩
    have h := h v5 ev5
    refine lv_iinc (v := v5) (lv' := [(3, .int v5), (0, .ref b), (1, .ref (adx 0)), (2, .ref (adm 0))]) hx hb dL_law_1121 hl (k := 3) rfl (by rw [ev5]; rfl) (by decide) rfl (fun ls hl => ?_)
    refine lv_goto (tgt := 18) hx hb dL_law_1124 (by decide) ?_
    exact hk_18 v5 τ2 τ4 _ _ _ h hPx hDx hPm hDm hS (lv_sub hl [1, 2, 3, 0] rfl)
  · have h := h.2 hc
    refine lv_iconst (v := (0 : Int32)) hx hb dL_law_273 (by decide) ?_
    exact h.elim
set_option maxHeartbeats 4000000 in
set_option maxRecDepth 100000 in
theorem t_law_275 (C0 : lw_At p s m meth c b L xs) (hK : va_K (dC, dI) vwCl (m_ty cI cJ cC) s) (hdis : ∀ j k, j < x_n → k < m_n → adx j ≠ adm k) (N : Nat) {k_18 : Int32 → zSt → zSt → Prop} (hk_18 : ∀ (x3 : Int32) (σ μ : zSt) (H : Heap) (locs : List Loc) (ls : Array Slot), k_18 x3 σ μ → va_P (dC, dI) vwCl (x_W adx cI cJ σ) H → va_D (fun q : Nat => s.heap.size ≤ q) (x_W adx cI cJ σ) → va_P (dC, dI) vwCl (m_W adm cI cJ cC μ) H → va_D (fun q : Nat => s.heap.size ≤ q) (m_W adm cI cJ cC μ) → va_S (fun q : Nat => s.heap.size ≤ q) s.heap H locs → lv_has ls 4 [(0, .ref b), (1, .ref (adx 0)), (2, .ref (adm 0)), (3, .int x3)] → W p l e room_1 s m #[Value.ref b] below meth c H locs 108 37792 (lw_Z below #[Value.ref b] s) (F0 m 18 ls [])) : ∀ (x3 : Int32) (σ μ : zSt) (H : Heap) (locs : List Loc) (ls : Array Slot), b_law_275 N k_18 L xs x3 σ μ → va_P (dC, dI) vwCl (x_W adx cI cJ σ) H → va_D (fun q : Nat => s.heap.size ≤ q) (x_W adx cI cJ σ) → va_P (dC, dI) vwCl (m_W adm cI cJ cC μ) H → va_D (fun q : Nat => s.heap.size ≤ q) (m_W adm cI cJ cC μ) → va_S (fun q : Nat => s.heap.size ≤ q) s.heap H locs → lv_has ls 4 [(0, .ref b), (1, .ref (adx 0)), (2, .ref (adm 0)), (3, .int x3)] → W p l e room_1 s m #[Value.ref b] below meth c H locs 108 37792 (lw_Z below #[Value.ref b] s) (F0 m 275 ls []) := by
  obtain ⟨hx, hb, hr, hml, hown, hts0, hX, hbl, hlocks, hgv⟩ := id C0
  have hts := lw_hts hts0
  have hbA : ¬ (fun q : Nat => s.heap.size ≤ q) b := Nat.not_le.mpr hbl
  have hKx := hK.sub (tys' := x_ty cI cJ) [0, 1] rfl
  have hdis' : ∀ j k, j < m_n → k < x_n → adm j ≠ adx k := fun j k h1 h2 h3 => hdis k j h2 h1 h3.symm
  intro x3 σ μ H locs ls h hPx hDx hPm hDm hS hl
  unfold b_law_275 at h
  refine lv_aload_n hx hb dL_law_275 rfl (lv_at hl 1 rfl) ?_
  refine lv_aload_n hx hb dL_law_276 rfl (lv_at hl 0 rfl) ?_
  refine lv_iload_n hx hb dL_law_277 rfl (lv_at hl 3 rfl) ?_
  refine lv_iconst (v := (1 : Int32)) hx hb dL_law_278 (by decide) ?_
  refine lv_iadd hx hb dL_law_279 ?_
  refine va_sld hx hb hX hbl hbA hS h.1 dL_law_280 ?_
  have h := h.2
  refine zlx_i [.int (xs (x3 + (1 : Int32)).toNatClampNeg)] ⟨hx, hb, hml, hown, hts⟩ (c_X11_fault N l dC dI adx cI cJ _ σ (xs (x3 + (1 : Int32)).toNatClampNeg) _ h) (cw_X11_fault hts mw_469 rfl rfl ⟨Nat.le_of_ble_eq_true rfl, Nat.le_of_ble_eq_true rfl⟩) rfl rfl hKx hPx hDx hPm hdis hS rfl hl.1 (rest := []) (Nat.le_of_ble_eq_true rfl) rfl ⟨Nat.le_of_ble_eq_true rfl, Nat.le_of_ble_eq_true rfl⟩ dL_law_281 (fun r1 τ2 H locs h hPx hDx hPm hS => ?_)
  refine lv_aload_n hx hb dL_law_284 rfl (lv_at hl 2 rfl) ?_
  refine lv_aload_n hx hb dL_law_285 rfl (lv_at hl 0 rfl) ?_
  refine lv_iload_n hx hb dL_law_286 rfl (lv_at hl 3 rfl) ?_
  refine lv_iconst (v := (1 : Int32)) hx hb dL_law_287 (by decide) ?_
  refine lv_iadd hx hb dL_law_288 ?_
  refine va_sld hx hb hX hbl hbA hS h.1 dL_law_289 ?_
  have h := h.2
  refine zlm_i [.int (xs (x3 + (1 : Int32)).toNatClampNeg)] ⟨hx, hb, hml, hown, hts⟩ (c_X12_fault N l dC dI adm cI cJ cC _ μ (xs (x3 + (1 : Int32)).toNatClampNeg) _ h) (cw_X12_fault hts mw_1036 rfl rfl ⟨Nat.le_of_ble_eq_true rfl, Nat.le_of_ble_eq_true rfl⟩) rfl rfl hK hPm hDm hPx hdis' hS rfl hl.1 (rest := [.int r1]) (Nat.le_of_ble_eq_true rfl) rfl ⟨Nat.le_of_ble_eq_true rfl, Nat.le_of_ble_eq_true rfl⟩ dL_law_290 (fun r3 τ4 H locs h hPm hDm hPx hS => ?_)
  refine lv_icmp_eq (tgt := 1121) hx hb dL_law_293 (by decide) (fun hc => ?_) (fun hc => ?_)
  · have h := h.1 hc
    obtain ⟨v5, ev5⟩ : ∃ z : Int32, z = x3 + (6 : Int32) := ⟨_, rfl⟩
    have h := h v5 ev5
    refine lv_iinc (v := v5) (lv' := [(3, .int v5), (0, .ref b), (1, .ref (adx 0)), (2, .ref (adm 0))]) hx hb dL_law_1121 hl (k := 3) rfl (by rw [ev5]; rfl) (by decide) rfl (fun ls hl => ?_)
    refine lv_goto (tgt := 18) hx hb dL_law_1124 (by decide) ?_
    exact hk_18 v5 τ2 τ4 _ _ _ h hPx hDx hPm hDm hS (lv_sub hl [1, 2, 3, 0] rfl)
  · have h := h.2 hc
    refine lv_iconst (v := (0 : Int32)) hx hb dL_law_296 (by decide) ?_
    exact h.elim
set_option maxHeartbeats 4000000 in
set_option maxRecDepth 100000 in
theorem t_law_298 (C0 : lw_At p s m meth c b L xs) (hK : va_K (dC, dI) vwCl (m_ty cI cJ cC) s) (hdis : ∀ j k, j < x_n → k < m_n → adx j ≠ adm k) (N : Nat) {k_18 : Int32 → zSt → zSt → Prop} (hk_18 : ∀ (x3 : Int32) (σ μ : zSt) (H : Heap) (locs : List Loc) (ls : Array Slot), k_18 x3 σ μ → va_P (dC, dI) vwCl (x_W adx cI cJ σ) H → va_D (fun q : Nat => s.heap.size ≤ q) (x_W adx cI cJ σ) → va_P (dC, dI) vwCl (m_W adm cI cJ cC μ) H → va_D (fun q : Nat => s.heap.size ≤ q) (m_W adm cI cJ cC μ) → va_S (fun q : Nat => s.heap.size ≤ q) s.heap H locs → lv_has ls 4 [(0, .ref b), (1, .ref (adx 0)), (2, .ref (adm 0)), (3, .int x3)] → W p l e room_1 s m #[Value.ref b] below meth c H locs 108 37792 (lw_Z below #[Value.ref b] s) (F0 m 18 ls [])) : ∀ (x3 : Int32) (σ μ : zSt) (H : Heap) (locs : List Loc) (ls : Array Slot), b_law_298 N k_18 L xs x3 σ μ → va_P (dC, dI) vwCl (x_W adx cI cJ σ) H → va_D (fun q : Nat => s.heap.size ≤ q) (x_W adx cI cJ σ) → va_P (dC, dI) vwCl (m_W adm cI cJ cC μ) H → va_D (fun q : Nat => s.heap.size ≤ q) (m_W adm cI cJ cC μ) → va_S (fun q : Nat => s.heap.size ≤ q) s.heap H locs → lv_has ls 4 [(0, .ref b), (1, .ref (adx 0)), (2, .ref (adm 0)), (3, .int x3)] → W p l e room_1 s m #[Value.ref b] below meth c H locs 108 37792 (lw_Z below #[Value.ref b] s) (F0 m 298 ls []) := by
  obtain ⟨hx, hb, hr, hml, hown, hts0, hX, hbl, hlocks, hgv⟩ := id C0
  have hts := lw_hts hts0
  have hbA : ¬ (fun q : Nat => s.heap.size ≤ q) b := Nat.not_le.mpr hbl
  have hKx := hK.sub (tys' := x_ty cI cJ) [0, 1] rfl
  have hdis' : ∀ j k, j < m_n → k < x_n → adm j ≠ adx k := fun j k h1 h2 h3 => hdis k j h2 h1 h3.symm
  intro x3 σ μ H locs ls h hPx hDx hPm hDm hS hl
  unfold b_law_298 at h
  refine lv_aload_n hx hb dL_law_298 rfl (lv_at hl 1 rfl) ?_
  refine lv_aload_n hx hb dL_law_299 rfl (lv_at hl 0 rfl) ?_
  refine lv_iload_n hx hb dL_law_300 rfl (lv_at hl 3 rfl) ?_
  refine lv_iconst (v := (1 : Int32)) hx hb dL_law_301 (by decide) ?_
  refine lv_iadd hx hb dL_law_302 ?_
  refine va_sld hx hb hX hbl hbA hS h.1 dL_law_303 ?_
  have h := h.2
  refine zlx_i [.int (xs (x3 + (1 : Int32)).toNatClampNeg)] ⟨hx, hb, hml, hown, hts⟩ (c_X11_has N l dC dI adx cI cJ _ σ (xs (x3 + (1 : Int32)).toNatClampNeg) _ h) (cw_X11_has hts mw_473 rfl rfl ⟨Nat.le_of_ble_eq_true rfl, Nat.le_of_ble_eq_true rfl⟩) rfl rfl hKx hPx hDx hPm hdis hS rfl hl.1 (rest := []) (Nat.le_of_ble_eq_true rfl) rfl ⟨Nat.le_of_ble_eq_true rfl, Nat.le_of_ble_eq_true rfl⟩ dL_law_304 (fun r1 τ2 H locs h hPx hDx hPm hS => ?_)
  refine lv_aload_n hx hb dL_law_307 rfl (lv_at hl 2 rfl) ?_
  refine lv_aload_n hx hb dL_law_308 rfl (lv_at hl 0 rfl) ?_
  refine lv_iload_n hx hb dL_law_309 rfl (lv_at hl 3 rfl) ?_
  refine lv_iconst (v := (1 : Int32)) hx hb dL_law_310 (by decide) ?_
  refine lv_iadd hx hb dL_law_311 ?_
  refine va_sld hx hb hX hbl hbA hS h.1 dL_law_312 ?_
  have h := h.2
  refine zlm_i [.int (xs (x3 + (1 : Int32)).toNatClampNeg)] ⟨hx, hb, hml, hown, hts⟩ (c_X12_has N l dC dI adm cI cJ cC _ μ (xs (x3 + (1 : Int32)).toNatClampNeg) _ h) (cw_X12_has hts mw_1040 rfl rfl ⟨Nat.le_of_ble_eq_true rfl, Nat.le_of_ble_eq_true rfl⟩) rfl rfl hK hPm hDm hPx hdis' hS rfl hl.1 (rest := [.int r1]) (Nat.le_of_ble_eq_true rfl) rfl ⟨Nat.le_of_ble_eq_true rfl, Nat.le_of_ble_eq_true rfl⟩ dL_law_313 (fun r3 τ4 H locs h hPm hDm hPx hS => ?_)
  refine lv_icmp_eq (tgt := 1121) hx hb dL_law_316 (by decide) (fun hc => ?_) (fun hc => ?_)
  · have h := h.1 hc
    obtain ⟨v5, ev5⟩ : ∃ z : Int32, z = x3 + (6 : Int32) := ⟨_, rfl⟩
    have h := h v5 ev5
    refine lv_iinc (v := v5) (lv' := [(3, .int v5), (0, .ref b), (1, .ref (adx 0)), (2, .ref (adm 0))]) hx hb dL_law_1121 hl (k := 3) rfl (by rw [ev5]; rfl) (by decide) rfl (fun ls hl => ?_)
    refine lv_goto (tgt := 18) hx hb dL_law_1124 (by decide) ?_
    exact hk_18 v5 τ2 τ4 _ _ _ h hPx hDx hPm hDm hS (lv_sub hl [1, 2, 3, 0] rfl)
  · have h := h.2 hc
    refine lv_iconst (v := (0 : Int32)) hx hb dL_law_319 (by decide) ?_
    exact h.elim
set_option maxHeartbeats 4000000 in
set_option maxRecDepth 100000 in
theorem t_law_321 (C0 : lw_At p s m meth c b L xs) (hK : va_K (dC, dI) vwCl (m_ty cI cJ cC) s) (hdis : ∀ j k, j < x_n → k < m_n → adx j ≠ adm k) (N : Nat) {k_18 : Int32 → zSt → zSt → Prop} (hk_18 : ∀ (x3 : Int32) (σ μ : zSt) (H : Heap) (locs : List Loc) (ls : Array Slot), k_18 x3 σ μ → va_P (dC, dI) vwCl (x_W adx cI cJ σ) H → va_D (fun q : Nat => s.heap.size ≤ q) (x_W adx cI cJ σ) → va_P (dC, dI) vwCl (m_W adm cI cJ cC μ) H → va_D (fun q : Nat => s.heap.size ≤ q) (m_W adm cI cJ cC μ) → va_S (fun q : Nat => s.heap.size ≤ q) s.heap H locs → lv_has ls 4 [(0, .ref b), (1, .ref (adx 0)), (2, .ref (adm 0)), (3, .int x3)] → W p l e room_1 s m #[Value.ref b] below meth c H locs 108 37792 (lw_Z below #[Value.ref b] s) (F0 m 18 ls [])) : ∀ (x3 : Int32) (σ μ : zSt) (H : Heap) (locs : List Loc) (ls : Array Slot), b_law_321 N k_18 L xs x3 σ μ → va_P (dC, dI) vwCl (x_W adx cI cJ σ) H → va_D (fun q : Nat => s.heap.size ≤ q) (x_W adx cI cJ σ) → va_P (dC, dI) vwCl (m_W adm cI cJ cC μ) H → va_D (fun q : Nat => s.heap.size ≤ q) (m_W adm cI cJ cC μ) → va_S (fun q : Nat => s.heap.size ≤ q) s.heap H locs → lv_has ls 4 [(0, .ref b), (1, .ref (adx 0)), (2, .ref (adm 0)), (3, .int x3)] → W p l e room_1 s m #[Value.ref b] below meth c H locs 108 37792 (lw_Z below #[Value.ref b] s) (F0 m 321 ls []) := by
  obtain ⟨hx, hb, hr, hml, hown, hts0, hX, hbl, hlocks, hgv⟩ := id C0
  have hts := lw_hts hts0
  have hbA : ¬ (fun q : Nat => s.heap.size ≤ q) b := Nat.not_le.mpr hbl
  have hKx := hK.sub (tys' := x_ty cI cJ) [0, 1] rfl
  have hdis' : ∀ j k, j < m_n → k < x_n → adm j ≠ adx k := fun j k h1 h2 h3 => hdis k j h2 h1 h3.symm
  intro x3 σ μ H locs ls h hPx hDx hPm hDm hS hl
  unfold b_law_321 at h
  refine lv_aload_n hx hb dL_law_321 rfl (lv_at hl 1 rfl) ?_
  refine lv_aload_n hx hb dL_law_322 rfl (lv_at hl 0 rfl) ?_
  refine lv_iload_n hx hb dL_law_323 rfl (lv_at hl 3 rfl) ?_
  refine lv_iconst (v := (1 : Int32)) hx hb dL_law_324 (by decide) ?_
  refine lv_iadd hx hb dL_law_325 ?_
  refine va_sld hx hb hX hbl hbA hS h.1 dL_law_326 ?_
  have h := h.2
  refine lv_aload_n hx hb dL_law_327 rfl (lv_at hl 0 rfl) ?_
  refine lv_iload_n hx hb dL_law_328 rfl (lv_at hl 3 rfl) ?_
  refine lv_iconst (v := (2 : Int32)) hx hb dL_law_329 (by decide) ?_
  refine lv_iadd hx hb dL_law_330 ?_
  refine va_sld hx hb hX hbl hbA hS h.1 dL_law_331 ?_
  have h := h.2
  refine zlx_i [.int (xs (x3 + (1 : Int32)).toNatClampNeg), .int (xs (x3 + (2 : Int32)).toNatClampNeg)] ⟨hx, hb, hml, hown, hts⟩ (c_X11_letter N l dC dI adx cI cJ _ σ (xs (x3 + (1 : Int32)).toNatClampNeg) (xs (x3 + (2 : Int32)).toNatClampNeg) _ h) (cw_X11_letter hts mw_487 rfl rfl ⟨Nat.le_of_ble_eq_true rfl, Nat.le_of_ble_eq_true rfl⟩) rfl rfl hKx hPx hDx hPm hdis hS rfl hl.1 (rest := []) (Nat.le_of_ble_eq_true rfl) rfl ⟨Nat.le_of_ble_eq_true rfl, Nat.le_of_ble_eq_true rfl⟩ dL_law_332 (fun r1 τ2 H locs h hPx hDx hPm hS => ?_)
  refine lv_aload_n hx hb dL_law_335 rfl (lv_at hl 2 rfl) ?_
  refine lv_aload_n hx hb dL_law_336 rfl (lv_at hl 0 rfl) ?_
  refine lv_iload_n hx hb dL_law_337 rfl (lv_at hl 3 rfl) ?_
  refine lv_iconst (v := (1 : Int32)) hx hb dL_law_338 (by decide) ?_
  refine lv_iadd hx hb dL_law_339 ?_
  refine va_sld hx hb hX hbl hbA hS h.1 dL_law_340 ?_
  have h := h.2
  refine lv_aload_n hx hb dL_law_341 rfl (lv_at hl 0 rfl) ?_
  refine lv_iload_n hx hb dL_law_342 rfl (lv_at hl 3 rfl) ?_
  refine lv_iconst (v := (2 : Int32)) hx hb dL_law_343 (by decide) ?_
  refine lv_iadd hx hb dL_law_344 ?_
  refine va_sld hx hb hX hbl hbA hS h.1 dL_law_345 ?_
  have h := h.2
  refine zlm_i [.int (xs (x3 + (1 : Int32)).toNatClampNeg), .int (xs (x3 + (2 : Int32)).toNatClampNeg)] ⟨hx, hb, hml, hown, hts⟩ (c_X12_letter N l dC dI adm cI cJ cC _ μ (xs (x3 + (1 : Int32)).toNatClampNeg) (xs (x3 + (2 : Int32)).toNatClampNeg) _ h) (cw_X12_letter hts mw_1053 rfl rfl ⟨Nat.le_of_ble_eq_true rfl, Nat.le_of_ble_eq_true rfl⟩) rfl rfl hK hPm hDm hPx hdis' hS rfl hl.1 (rest := [.int r1]) (Nat.le_of_ble_eq_true rfl) rfl ⟨Nat.le_of_ble_eq_true rfl, Nat.le_of_ble_eq_true rfl⟩ dL_law_346 (fun r3 τ4 H locs h hPm hDm hPx hS => ?_)
  refine lv_icmp_eq (tgt := 1121) hx hb dL_law_349 (by decide) (fun hc => ?_) (fun hc => ?_)
  · have h := h.1 hc
    obtain ⟨v5, ev5⟩ : ∃ z : Int32, z = x3 + (6 : Int32) := ⟨_, rfl⟩
    have h := h v5 ev5
    refine lv_iinc (v := v5) (lv' := [(3, .int v5), (0, .ref b), (1, .ref (adx 0)), (2, .ref (adm 0))]) hx hb dL_law_1121 hl (k := 3) rfl (by rw [ev5]; rfl) (by decide) rfl (fun ls hl => ?_)
    refine lv_goto (tgt := 18) hx hb dL_law_1124 (by decide) ?_
    exact hk_18 v5 τ2 τ4 _ _ _ h hPx hDx hPm hDm hS (lv_sub hl [1, 2, 3, 0] rfl)
  · have h := h.2 hc
    refine lv_iconst (v := (0 : Int32)) hx hb dL_law_352 (by decide) ?_
    exact h.elim
set_option maxHeartbeats 4000000 in
set_option maxRecDepth 100000 in
theorem t_law_354 (C0 : lw_At p s m meth c b L xs) (hK : va_K (dC, dI) vwCl (m_ty cI cJ cC) s) (hdis : ∀ j k, j < x_n → k < m_n → adx j ≠ adm k) (N : Nat) {k_18 : Int32 → zSt → zSt → Prop} (hk_18 : ∀ (x3 : Int32) (σ μ : zSt) (H : Heap) (locs : List Loc) (ls : Array Slot), k_18 x3 σ μ → va_P (dC, dI) vwCl (x_W adx cI cJ σ) H → va_D (fun q : Nat => s.heap.size ≤ q) (x_W adx cI cJ σ) → va_P (dC, dI) vwCl (m_W adm cI cJ cC μ) H → va_D (fun q : Nat => s.heap.size ≤ q) (m_W adm cI cJ cC μ) → va_S (fun q : Nat => s.heap.size ≤ q) s.heap H locs → lv_has ls 4 [(0, .ref b), (1, .ref (adx 0)), (2, .ref (adm 0)), (3, .int x3)] → W p l e room_1 s m #[Value.ref b] below meth c H locs 108 37792 (lw_Z below #[Value.ref b] s) (F0 m 18 ls [])) : ∀ (x3 : Int32) (σ μ : zSt) (H : Heap) (locs : List Loc) (ls : Array Slot), b_law_354 N k_18 L xs x3 σ μ → va_P (dC, dI) vwCl (x_W adx cI cJ σ) H → va_D (fun q : Nat => s.heap.size ≤ q) (x_W adx cI cJ σ) → va_P (dC, dI) vwCl (m_W adm cI cJ cC μ) H → va_D (fun q : Nat => s.heap.size ≤ q) (m_W adm cI cJ cC μ) → va_S (fun q : Nat => s.heap.size ≤ q) s.heap H locs → lv_has ls 4 [(0, .ref b), (1, .ref (adx 0)), (2, .ref (adm 0)), (3, .int x3)] → W p l e room_1 s m #[Value.ref b] below meth c H locs 108 37792 (lw_Z below #[Value.ref b] s) (F0 m 354 ls []) := by
  obtain ⟨hx, hb, hr, hml, hown, hts0, hX, hbl, hlocks, hgv⟩ := id C0
  have hts := lw_hts hts0
  have hbA : ¬ (fun q : Nat => s.heap.size ≤ q) b := Nat.not_le.mpr hbl
  have hKx := hK.sub (tys' := x_ty cI cJ) [0, 1] rfl
  have hdis' : ∀ j k, j < m_n → k < x_n → adm j ≠ adx k := fun j k h1 h2 h3 => hdis k j h2 h1 h3.symm
  intro x3 σ μ H locs ls h hPx hDx hPm hDm hS hl
  unfold b_law_354 at h
  refine lv_aload_n hx hb dL_law_354 rfl (lv_at hl 1 rfl) ?_
  refine lv_aload_n hx hb dL_law_355 rfl (lv_at hl 0 rfl) ?_
  refine lv_iload_n hx hb dL_law_356 rfl (lv_at hl 3 rfl) ?_
  refine lv_iconst (v := (1 : Int32)) hx hb dL_law_357 (by decide) ?_
  refine lv_iadd hx hb dL_law_358 ?_
  refine va_sld hx hb hX hbl hbA hS h.1 dL_law_359 ?_
  have h := h.2
  refine lv_i2l hx hb dL_law_360 rfl ?_
  refine lv_bipush (v := (32 : Int32)) hx hb dL_law_361 (by decide) ?_
  refine lv_lshl hx hb dL_law_363 rfl ?_
  refine lv_aload_n hx hb dL_law_364 rfl (lv_at hl 0 rfl) ?_
  refine lv_iload_n hx hb dL_law_365 rfl (lv_at hl 3 rfl) ?_
  refine lv_iconst (v := (2 : Int32)) hx hb dL_law_366 (by decide) ?_
  refine lv_iadd hx hb dL_law_367 ?_
  refine va_sld hx hb hX hbl hbA hS h.1 dL_law_368 ?_
  have h := h.2
  refine lv_i2l hx hb dL_law_369 rfl ?_
  refine lv_ldc2 (v := (4294967295 : Int64)) hx hb hown (hts _ (List.mem_cons_of_mem _ mw_1321)) dL_law_370 ?_
  refine lv_land hx hb dL_law_373 ?_
  refine lv_lor hx hb dL_law_374 ?_
  refine zlx_i [.long (((xs (x3 + (1 : Int32)).toNatClampNeg).toInt64 <<< ((32 : Int32).toInt64 &&& 63)) ||| ((xs (x3 + (2 : Int32)).toNatClampNeg).toInt64 &&& (4294967295 : Int64)))] ⟨hx, hb, hml, hown, hts⟩ (c_X11_net N l dC dI adx cI cJ _ σ (((xs (x3 + (1 : Int32)).toNatClampNeg).toInt64 <<< ((32 : Int32).toInt64 &&& 63)) ||| ((xs (x3 + (2 : Int32)).toNatClampNeg).toInt64 &&& (4294967295 : Int64))) _ h) (cw_X11_net hts mw_492 rfl rfl ⟨Nat.le_of_ble_eq_true rfl, Nat.le_of_ble_eq_true rfl⟩) rfl rfl hKx hPx hDx hPm hdis hS rfl hl.1 (rest := []) (Nat.le_of_ble_eq_true rfl) rfl ⟨Nat.le_of_ble_eq_true rfl, Nat.le_of_ble_eq_true rfl⟩ dL_law_375 (fun r1 τ2 H locs h hPx hDx hPm hS => ?_)
  refine lv_aload_n hx hb dL_law_378 rfl (lv_at hl 2 rfl) ?_
  refine lv_aload_n hx hb dL_law_379 rfl (lv_at hl 0 rfl) ?_
  refine lv_iload_n hx hb dL_law_380 rfl (lv_at hl 3 rfl) ?_
  refine lv_iconst (v := (1 : Int32)) hx hb dL_law_381 (by decide) ?_
  refine lv_iadd hx hb dL_law_382 ?_
  refine va_sld hx hb hX hbl hbA hS h.1 dL_law_383 ?_
  have h := h.2
  refine lv_i2l hx hb dL_law_384 rfl ?_
  refine lv_bipush (v := (32 : Int32)) hx hb dL_law_385 (by decide) ?_
  refine lv_lshl hx hb dL_law_387 rfl ?_
  refine lv_aload_n hx hb dL_law_388 rfl (lv_at hl 0 rfl) ?_
  refine lv_iload_n hx hb dL_law_389 rfl (lv_at hl 3 rfl) ?_
  refine lv_iconst (v := (2 : Int32)) hx hb dL_law_390 (by decide) ?_
  refine lv_iadd hx hb dL_law_391 ?_
  refine va_sld hx hb hX hbl hbA hS h.1 dL_law_392 ?_
  have h := h.2
  refine lv_i2l hx hb dL_law_393 rfl ?_
  refine lv_ldc2 (v := (4294967295 : Int64)) hx hb hown (hts _ (List.mem_cons_of_mem _ mw_1321)) dL_law_394 ?_
  refine lv_land hx hb dL_law_397 ?_
  refine lv_lor hx hb dL_law_398 ?_
  refine zlm_i [.long (((xs (x3 + (1 : Int32)).toNatClampNeg).toInt64 <<< ((32 : Int32).toInt64 &&& 63)) ||| ((xs (x3 + (2 : Int32)).toNatClampNeg).toInt64 &&& (4294967295 : Int64)))] ⟨hx, hb, hml, hown, hts⟩ (c_X12_net N l dC dI adm cI cJ cC _ μ (((xs (x3 + (1 : Int32)).toNatClampNeg).toInt64 <<< ((32 : Int32).toInt64 &&& 63)) ||| ((xs (x3 + (2 : Int32)).toNatClampNeg).toInt64 &&& (4294967295 : Int64))) _ h) (cw_X12_net hts mw_1061 rfl rfl ⟨Nat.le_of_ble_eq_true rfl, Nat.le_of_ble_eq_true rfl⟩) rfl rfl hK hPm hDm hPx hdis' hS rfl hl.1 (rest := [.int r1]) (Nat.le_of_ble_eq_true rfl) rfl ⟨Nat.le_of_ble_eq_true rfl, Nat.le_of_ble_eq_true rfl⟩ dL_law_399 (fun r3 τ4 H locs h hPm hDm hPx hS => ?_)
  refine lv_icmp_eq (tgt := 1121) hx hb dL_law_402 (by decide) (fun hc => ?_) (fun hc => ?_)
  · have h := h.1 hc
    obtain ⟨v5, ev5⟩ : ∃ z : Int32, z = x3 + (6 : Int32) := ⟨_, rfl⟩
    have h := h v5 ev5
    refine lv_iinc (v := v5) (lv' := [(3, .int v5), (0, .ref b), (1, .ref (adx 0)), (2, .ref (adm 0))]) hx hb dL_law_1121 hl (k := 3) rfl (by rw [ev5]; rfl) (by decide) rfl (fun ls hl => ?_)
    refine lv_goto (tgt := 18) hx hb dL_law_1124 (by decide) ?_
    exact hk_18 v5 τ2 τ4 _ _ _ h hPx hDx hPm hDm hS (lv_sub hl [1, 2, 3, 0] rfl)
  · have h := h.2 hc
    refine lv_iconst (v := (0 : Int32)) hx hb dL_law_405 (by decide) ?_
    exact h.elim
set_option maxHeartbeats 4000000 in
set_option maxRecDepth 100000 in
theorem t_law_407 (C0 : lw_At p s m meth c b L xs) (hK : va_K (dC, dI) vwCl (m_ty cI cJ cC) s) (hdis : ∀ j k, j < x_n → k < m_n → adx j ≠ adm k) (N : Nat) {k_18 : Int32 → zSt → zSt → Prop} (hk_18 : ∀ (x3 : Int32) (σ μ : zSt) (H : Heap) (locs : List Loc) (ls : Array Slot), k_18 x3 σ μ → va_P (dC, dI) vwCl (x_W adx cI cJ σ) H → va_D (fun q : Nat => s.heap.size ≤ q) (x_W adx cI cJ σ) → va_P (dC, dI) vwCl (m_W adm cI cJ cC μ) H → va_D (fun q : Nat => s.heap.size ≤ q) (m_W adm cI cJ cC μ) → va_S (fun q : Nat => s.heap.size ≤ q) s.heap H locs → lv_has ls 4 [(0, .ref b), (1, .ref (adx 0)), (2, .ref (adm 0)), (3, .int x3)] → W p l e room_1 s m #[Value.ref b] below meth c H locs 108 37792 (lw_Z below #[Value.ref b] s) (F0 m 18 ls [])) : ∀ (x3 : Int32) (σ μ : zSt) (H : Heap) (locs : List Loc) (ls : Array Slot), b_law_407 N k_18 L xs x3 σ μ → va_P (dC, dI) vwCl (x_W adx cI cJ σ) H → va_D (fun q : Nat => s.heap.size ≤ q) (x_W adx cI cJ σ) → va_P (dC, dI) vwCl (m_W adm cI cJ cC μ) H → va_D (fun q : Nat => s.heap.size ≤ q) (m_W adm cI cJ cC μ) → va_S (fun q : Nat => s.heap.size ≤ q) s.heap H locs → lv_has ls 4 [(0, .ref b), (1, .ref (adx 0)), (2, .ref (adm 0)), (3, .int x3)] → W p l e room_1 s m #[Value.ref b] below meth c H locs 108 37792 (lw_Z below #[Value.ref b] s) (F0 m 407 ls []) := by
  obtain ⟨hx, hb, hr, hml, hown, hts0, hX, hbl, hlocks, hgv⟩ := id C0
  have hts := lw_hts hts0
  have hbA : ¬ (fun q : Nat => s.heap.size ≤ q) b := Nat.not_le.mpr hbl
  have hKx := hK.sub (tys' := x_ty cI cJ) [0, 1] rfl
  have hdis' : ∀ j k, j < m_n → k < x_n → adm j ≠ adx k := fun j k h1 h2 h3 => hdis k j h2 h1 h3.symm
  intro x3 σ μ H locs ls h hPx hDx hPm hDm hS hl
  unfold b_law_407 at h
  refine lv_aload_n hx hb dL_law_407 rfl (lv_at hl 1 rfl) ?_
  refine zlx_l [] ⟨hx, hb, hml, hown, hts⟩ (c_X11_net_ N l dC dI adx cI cJ _ σ  _ h) (cw_X11_net_ hts mw_505 rfl rfl ⟨Nat.le_of_ble_eq_true rfl, Nat.le_of_ble_eq_true rfl⟩) rfl rfl hKx hPx hDx hPm hdis hS rfl hl.1 (rest := []) (Nat.le_of_ble_eq_true rfl) rfl ⟨Nat.le_of_ble_eq_true rfl, Nat.le_of_ble_eq_true rfl⟩ dL_law_408 (fun r1 τ2 H locs h hPx hDx hPm hS => ?_)
  refine lv_aload_n hx hb dL_law_411 rfl (lv_at hl 2 rfl) ?_
  refine zlm_l [] ⟨hx, hb, hml, hown, hts⟩ (c_X12_net_ N l dC dI adm cI cJ cC _ μ  _ h) (cw_X12_net_ hts mw_1074 rfl rfl ⟨Nat.le_of_ble_eq_true rfl, Nat.le_of_ble_eq_true rfl⟩) rfl rfl hK hPm hDm hPx hdis' hS rfl hl.1 (rest := [.long r1]) (Nat.le_of_ble_eq_true rfl) rfl ⟨Nat.le_of_ble_eq_true rfl, Nat.le_of_ble_eq_true rfl⟩ dL_law_412 (fun r3 τ4 H locs h hPm hDm hPx hS => ?_)
  refine W.lcmp hx hb dL_law_415 ?_
  refine lv_if_eq (tgt := 1121) hx hb dL_law_416 (by decide) (fun hc => ?_) (fun hc => ?_)
  · have h := h.1 hc
    obtain ⟨v5, ev5⟩ : ∃ z : Int32, z = x3 + (6 : Int32) := ⟨_, rfl⟩
    have h := h v5 ev5
    refine lv_iinc (v := v5) (lv' := [(3, .int v5), (0, .ref b), (1, .ref (adx 0)), (2, .ref (adm 0))]) hx hb dL_law_1121 hl (k := 3) rfl (by rw [ev5]; rfl) (by decide) rfl (fun ls hl => ?_)
    refine lv_goto (tgt := 18) hx hb dL_law_1124 (by decide) ?_
    exact hk_18 v5 τ2 τ4 _ _ _ h hPx hDx hPm hDm hS (lv_sub hl [1, 2, 3, 0] rfl)
  · have h := h.2 hc
    refine lv_iconst (v := (0 : Int32)) hx hb dL_law_419 (by decide) ?_
    exact h.elim
set_option maxHeartbeats 4000000 in
set_option maxRecDepth 100000 in
theorem t_law_421 (C0 : lw_At p s m meth c b L xs) (hK : va_K (dC, dI) vwCl (m_ty cI cJ cC) s) (hdis : ∀ j k, j < x_n → k < m_n → adx j ≠ adm k) (N : Nat) {k_18 : Int32 → zSt → zSt → Prop} (hk_18 : ∀ (x3 : Int32) (σ μ : zSt) (H : Heap) (locs : List Loc) (ls : Array Slot), k_18 x3 σ μ → va_P (dC, dI) vwCl (x_W adx cI cJ σ) H → va_D (fun q : Nat => s.heap.size ≤ q) (x_W adx cI cJ σ) → va_P (dC, dI) vwCl (m_W adm cI cJ cC μ) H → va_D (fun q : Nat => s.heap.size ≤ q) (m_W adm cI cJ cC μ) → va_S (fun q : Nat => s.heap.size ≤ q) s.heap H locs → lv_has ls 4 [(0, .ref b), (1, .ref (adx 0)), (2, .ref (adm 0)), (3, .int x3)] → W p l e room_1 s m #[Value.ref b] below meth c H locs 108 37792 (lw_Z below #[Value.ref b] s) (F0 m 18 ls [])) : ∀ (x3 : Int32) (σ μ : zSt) (H : Heap) (locs : List Loc) (ls : Array Slot), b_law_421 N k_18 L xs x3 σ μ → va_P (dC, dI) vwCl (x_W adx cI cJ σ) H → va_D (fun q : Nat => s.heap.size ≤ q) (x_W adx cI cJ σ) → va_P (dC, dI) vwCl (m_W adm cI cJ cC μ) H → va_D (fun q : Nat => s.heap.size ≤ q) (m_W adm cI cJ cC μ) → va_S (fun q : Nat => s.heap.size ≤ q) s.heap H locs → lv_has ls 4 [(0, .ref b), (1, .ref (adx 0)), (2, .ref (adm 0)), (3, .int x3)] → W p l e room_1 s m #[Value.ref b] below meth c H locs 108 37792 (lw_Z below #[Value.ref b] s) (F0 m 421 ls []) := by
  obtain ⟨hx, hb, hr, hml, hown, hts0, hX, hbl, hlocks, hgv⟩ := id C0
  have hts := lw_hts hts0
  have hbA : ¬ (fun q : Nat => s.heap.size ≤ q) b := Nat.not_le.mpr hbl
  have hKx := hK.sub (tys' := x_ty cI cJ) [0, 1] rfl
  have hdis' : ∀ j k, j < m_n → k < x_n → adm j ≠ adx k := fun j k h1 h2 h3 => hdis k j h2 h1 h3.symm
  intro x3 σ μ H locs ls h hPx hDx hPm hDm hS hl
  unfold b_law_421 at h
  refine lv_aload_n hx hb dL_law_421 rfl (lv_at hl 1 rfl) ?_
  refine lv_aload_n hx hb dL_law_422 rfl (lv_at hl 0 rfl) ?_
  refine lv_iload_n hx hb dL_law_423 rfl (lv_at hl 3 rfl) ?_
  refine lv_iconst (v := (1 : Int32)) hx hb dL_law_424 (by decide) ?_
  refine lv_iadd hx hb dL_law_425 ?_
  refine va_sld hx hb hX hbl hbA hS h.1 dL_law_426 ?_
  have h := h.2
  refine lv_aload_n hx hb dL_law_427 rfl (lv_at hl 0 rfl) ?_
  refine lv_iload_n hx hb dL_law_428 rfl (lv_at hl 3 rfl) ?_
  refine lv_iconst (v := (2 : Int32)) hx hb dL_law_429 (by decide) ?_
  refine lv_iadd hx hb dL_law_430 ?_
  refine va_sld hx hb hX hbl hbA hS h.1 dL_law_431 ?_
  have h := h.2
  refine zlx_l [.int (xs (x3 + (1 : Int32)).toNatClampNeg), .int (xs (x3 + (2 : Int32)).toNatClampNeg)] ⟨hx, hb, hml, hown, hts⟩ (c_X11_shape N l dC dI adx cI cJ _ σ (xs (x3 + (1 : Int32)).toNatClampNeg) (xs (x3 + (2 : Int32)).toNatClampNeg) _ h) (cw_X11_shape hts mw_509 rfl rfl ⟨Nat.le_of_ble_eq_true rfl, Nat.le_of_ble_eq_true rfl⟩) rfl rfl hKx hPx hDx hPm hdis hS rfl hl.1 (rest := []) (Nat.le_of_ble_eq_true rfl) rfl ⟨Nat.le_of_ble_eq_true rfl, Nat.le_of_ble_eq_true rfl⟩ dL_law_432 (fun r1 τ2 H locs h hPx hDx hPm hS => ?_)
  refine lv_aload_n hx hb dL_law_435 rfl (lv_at hl 2 rfl) ?_
  refine lv_aload_n hx hb dL_law_436 rfl (lv_at hl 0 rfl) ?_
  refine lv_iload_n hx hb dL_law_437 rfl (lv_at hl 3 rfl) ?_
  refine lv_iconst (v := (1 : Int32)) hx hb dL_law_438 (by decide) ?_
  refine lv_iadd hx hb dL_law_439 ?_
  refine va_sld hx hb hX hbl hbA hS h.1 dL_law_440 ?_
  have h := h.2
  refine lv_aload_n hx hb dL_law_441 rfl (lv_at hl 0 rfl) ?_
  refine lv_iload_n hx hb dL_law_442 rfl (lv_at hl 3 rfl) ?_
  refine lv_iconst (v := (2 : Int32)) hx hb dL_law_443 (by decide) ?_
  refine lv_iadd hx hb dL_law_444 ?_
  refine va_sld hx hb hX hbl hbA hS h.1 dL_law_445 ?_
  have h := h.2
  refine zlm_l [.int (xs (x3 + (1 : Int32)).toNatClampNeg), .int (xs (x3 + (2 : Int32)).toNatClampNeg)] ⟨hx, hb, hml, hown, hts⟩ (c_X12_shape N l dC dI adm cI cJ cC _ μ (xs (x3 + (1 : Int32)).toNatClampNeg) (xs (x3 + (2 : Int32)).toNatClampNeg) _ h) (cw_X12_shape hts mw_1078 rfl rfl ⟨Nat.le_of_ble_eq_true rfl, Nat.le_of_ble_eq_true rfl⟩) rfl rfl hK hPm hDm hPx hdis' hS rfl hl.1 (rest := [.long r1]) (Nat.le_of_ble_eq_true rfl) rfl ⟨Nat.le_of_ble_eq_true rfl, Nat.le_of_ble_eq_true rfl⟩ dL_law_446 (fun r3 τ4 H locs h hPm hDm hPx hS => ?_)
  refine W.lcmp hx hb dL_law_449 ?_
  refine lv_if_eq (tgt := 1121) hx hb dL_law_450 (by decide) (fun hc => ?_) (fun hc => ?_)
  · have h := h.1 hc
    obtain ⟨v5, ev5⟩ : ∃ z : Int32, z = x3 + (6 : Int32) := ⟨_, rfl⟩
    have h := h v5 ev5
    refine lv_iinc (v := v5) (lv' := [(3, .int v5), (0, .ref b), (1, .ref (adx 0)), (2, .ref (adm 0))]) hx hb dL_law_1121 hl (k := 3) rfl (by rw [ev5]; rfl) (by decide) rfl (fun ls hl => ?_)
    refine lv_goto (tgt := 18) hx hb dL_law_1124 (by decide) ?_
    exact hk_18 v5 τ2 τ4 _ _ _ h hPx hDx hPm hDm hS (lv_sub hl [1, 2, 3, 0] rfl)
  · have h := h.2 hc
    refine lv_iconst (v := (0 : Int32)) hx hb dL_law_453 (by decide) ?_
    exact h.elim
set_option maxHeartbeats 4000000 in
set_option maxRecDepth 100000 in
theorem t_law_455 (C0 : lw_At p s m meth c b L xs) (hK : va_K (dC, dI) vwCl (m_ty cI cJ cC) s) (hdis : ∀ j k, j < x_n → k < m_n → adx j ≠ adm k) (N : Nat) {k_18 : Int32 → zSt → zSt → Prop} (hk_18 : ∀ (x3 : Int32) (σ μ : zSt) (H : Heap) (locs : List Loc) (ls : Array Slot), k_18 x3 σ μ → va_P (dC, dI) vwCl (x_W adx cI cJ σ) H → va_D (fun q : Nat => s.heap.size ≤ q) (x_W adx cI cJ σ) → va_P (dC, dI) vwCl (m_W adm cI cJ cC μ) H → va_D (fun q : Nat => s.heap.size ≤ q) (m_W adm cI cJ cC μ) → va_S (fun q : Nat => s.heap.size ≤ q) s.heap H locs → lv_has ls 4 [(0, .ref b), (1, .ref (adx 0)), (2, .ref (adm 0)), (3, .int x3)] → W p l e room_1 s m #[Value.ref b] below meth c H locs 108 37792 (lw_Z below #[Value.ref b] s) (F0 m 18 ls [])) : ∀ (x3 : Int32) (σ μ : zSt) (H : Heap) (locs : List Loc) (ls : Array Slot), b_law_455 N k_18 L xs x3 σ μ → va_P (dC, dI) vwCl (x_W adx cI cJ σ) H → va_D (fun q : Nat => s.heap.size ≤ q) (x_W adx cI cJ σ) → va_P (dC, dI) vwCl (m_W adm cI cJ cC μ) H → va_D (fun q : Nat => s.heap.size ≤ q) (m_W adm cI cJ cC μ) → va_S (fun q : Nat => s.heap.size ≤ q) s.heap H locs → lv_has ls 4 [(0, .ref b), (1, .ref (adx 0)), (2, .ref (adm 0)), (3, .int x3)] → W p l e room_1 s m #[Value.ref b] below meth c H locs 108 37792 (lw_Z below #[Value.ref b] s) (F0 m 455 ls []) := by
  obtain ⟨hx, hb, hr, hml, hown, hts0, hX, hbl, hlocks, hgv⟩ := id C0
  have hts := lw_hts hts0
  have hbA : ¬ (fun q : Nat => s.heap.size ≤ q) b := Nat.not_le.mpr hbl
  have hKx := hK.sub (tys' := x_ty cI cJ) [0, 1] rfl
  have hdis' : ∀ j k, j < m_n → k < x_n → adm j ≠ adx k := fun j k h1 h2 h3 => hdis k j h2 h1 h3.symm
  intro x3 σ μ H locs ls h hPx hDx hPm hDm hS hl
  unfold b_law_455 at h
  refine lv_aload_n hx hb dL_law_455 rfl (lv_at hl 1 rfl) ?_
  refine lv_aload_n hx hb dL_law_456 rfl (lv_at hl 0 rfl) ?_
  refine lv_iload_n hx hb dL_law_457 rfl (lv_at hl 3 rfl) ?_
  refine lv_iconst (v := (1 : Int32)) hx hb dL_law_458 (by decide) ?_
  refine lv_iadd hx hb dL_law_459 ?_
  refine va_sld hx hb hX hbl hbA hS h.1 dL_law_460 ?_
  have h := h.2
  refine zlx_i [.int (xs (x3 + (1 : Int32)).toNatClampNeg)] ⟨hx, hb, hml, hown, hts⟩ (c_X11_extra N l dC dI adx cI cJ _ σ (xs (x3 + (1 : Int32)).toNatClampNeg) _ h) (cw_X11_extra hts mw_527 rfl rfl ⟨Nat.le_of_ble_eq_true rfl, Nat.le_of_ble_eq_true rfl⟩) rfl rfl hKx hPx hDx hPm hdis hS rfl hl.1 (rest := []) (Nat.le_of_ble_eq_true rfl) rfl ⟨Nat.le_of_ble_eq_true rfl, Nat.le_of_ble_eq_true rfl⟩ dL_law_461 (fun r1 τ2 H locs h hPx hDx hPm hS => ?_)
  refine lv_aload_n hx hb dL_law_464 rfl (lv_at hl 2 rfl) ?_
  refine lv_aload_n hx hb dL_law_465 rfl (lv_at hl 0 rfl) ?_
  refine lv_iload_n hx hb dL_law_466 rfl (lv_at hl 3 rfl) ?_
  refine lv_iconst (v := (1 : Int32)) hx hb dL_law_467 (by decide) ?_
  refine lv_iadd hx hb dL_law_468 ?_
  refine va_sld hx hb hX hbl hbA hS h.1 dL_law_469 ?_
  have h := h.2
  refine zlm_i [.int (xs (x3 + (1 : Int32)).toNatClampNeg)] ⟨hx, hb, hml, hown, hts⟩ (c_X12_extra N l dC dI adm cI cJ cC _ μ (xs (x3 + (1 : Int32)).toNatClampNeg) _ h) (cw_X12_extra hts mw_1091 rfl rfl ⟨Nat.le_of_ble_eq_true rfl, Nat.le_of_ble_eq_true rfl⟩) rfl rfl hK hPm hDm hPx hdis' hS rfl hl.1 (rest := [.int r1]) (Nat.le_of_ble_eq_true rfl) rfl ⟨Nat.le_of_ble_eq_true rfl, Nat.le_of_ble_eq_true rfl⟩ dL_law_470 (fun r3 τ4 H locs h hPm hDm hPx hS => ?_)
  refine lv_icmp_eq (tgt := 1121) hx hb dL_law_473 (by decide) (fun hc => ?_) (fun hc => ?_)
  · have h := h.1 hc
    obtain ⟨v5, ev5⟩ : ∃ z : Int32, z = x3 + (6 : Int32) := ⟨_, rfl⟩
    have h := h v5 ev5
    refine lv_iinc (v := v5) (lv' := [(3, .int v5), (0, .ref b), (1, .ref (adx 0)), (2, .ref (adm 0))]) hx hb dL_law_1121 hl (k := 3) rfl (by rw [ev5]; rfl) (by decide) rfl (fun ls hl => ?_)
    refine lv_goto (tgt := 18) hx hb dL_law_1124 (by decide) ?_
    exact hk_18 v5 τ2 τ4 _ _ _ h hPx hDx hPm hDm hS (lv_sub hl [1, 2, 3, 0] rfl)
  · have h := h.2 hc
    refine lv_iconst (v := (0 : Int32)) hx hb dL_law_476 (by decide) ?_
    exact h.elim
set_option maxHeartbeats 4000000 in
set_option maxRecDepth 100000 in
theorem t_law_478 (C0 : lw_At p s m meth c b L xs) (hK : va_K (dC, dI) vwCl (m_ty cI cJ cC) s) (hdis : ∀ j k, j < x_n → k < m_n → adx j ≠ adm k) (N : Nat) {k_18 : Int32 → zSt → zSt → Prop} (hk_18 : ∀ (x3 : Int32) (σ μ : zSt) (H : Heap) (locs : List Loc) (ls : Array Slot), k_18 x3 σ μ → va_P (dC, dI) vwCl (x_W adx cI cJ σ) H → va_D (fun q : Nat => s.heap.size ≤ q) (x_W adx cI cJ σ) → va_P (dC, dI) vwCl (m_W adm cI cJ cC μ) H → va_D (fun q : Nat => s.heap.size ≤ q) (m_W adm cI cJ cC μ) → va_S (fun q : Nat => s.heap.size ≤ q) s.heap H locs → lv_has ls 4 [(0, .ref b), (1, .ref (adx 0)), (2, .ref (adm 0)), (3, .int x3)] → W p l e room_1 s m #[Value.ref b] below meth c H locs 108 37792 (lw_Z below #[Value.ref b] s) (F0 m 18 ls [])) : ∀ (x3 : Int32) (σ μ : zSt) (H : Heap) (locs : List Loc) (ls : Array Slot), b_law_478 N k_18 L xs x3 σ μ → va_P (dC, dI) vwCl (x_W adx cI cJ σ) H → va_D (fun q : Nat => s.heap.size ≤ q) (x_W adx cI cJ σ) → va_P (dC, dI) vwCl (m_W adm cI cJ cC μ) H → va_D (fun q : Nat => s.heap.size ≤ q) (m_W adm cI cJ cC μ) → va_S (fun q : Nat => s.heap.size ≤ q) s.heap H locs → lv_has ls 4 [(0, .ref b), (1, .ref (adx 0)), (2, .ref (adm 0)), (3, .int x3)] → W p l e room_1 s m #[Value.ref b] below meth c H locs 108 37792 (lw_Z below #[Value.ref b] s) (F0 m 478 ls []) := by
  obtain ⟨hx, hb, hr, hml, hown, hts0, hX, hbl, hlocks, hgv⟩ := id C0
  have hts := lw_hts hts0
  have hbA : ¬ (fun q : Nat => s.heap.size ≤ q) b := Nat.not_le.mpr hbl
  have hKx := hK.sub (tys' := x_ty cI cJ) [0, 1] rfl
  have hdis' : ∀ j k, j < m_n → k < x_n → adm j ≠ adx k := fun j k h1 h2 h3 => hdis k j h2 h1 h3.symm
  intro x3 σ μ H locs ls h hPx hDx hPm hDm hS hl
  unfold b_law_478 at h
  refine lv_aload_n hx hb dL_law_478 rfl (lv_at hl 1 rfl) ?_
  refine lv_aload_n hx hb dL_law_479 rfl (lv_at hl 0 rfl) ?_
  refine lv_iload_n hx hb dL_law_480 rfl (lv_at hl 3 rfl) ?_
  refine lv_iconst (v := (1 : Int32)) hx hb dL_law_481 (by decide) ?_
  refine lv_iadd hx hb dL_law_482 ?_
  refine va_sld hx hb hX hbl hbA hS h.1 dL_law_483 ?_
  have h := h.2
  refine zlx_l [.int (xs (x3 + (1 : Int32)).toNatClampNeg)] ⟨hx, hb, hml, hown, hts⟩ (c_X11_worth N l dC dI adx cI cJ _ σ (xs (x3 + (1 : Int32)).toNatClampNeg) _ h) (cw_X11_worth hts mw_534 rfl rfl ⟨Nat.le_of_ble_eq_true rfl, Nat.le_of_ble_eq_true rfl⟩) rfl rfl hKx hPx hDx hPm hdis hS rfl hl.1 (rest := []) (Nat.le_of_ble_eq_true rfl) rfl ⟨Nat.le_of_ble_eq_true rfl, Nat.le_of_ble_eq_true rfl⟩ dL_law_484 (fun r1 τ2 H locs h hPx hDx hPm hS => ?_)
  refine lv_aload_n hx hb dL_law_487 rfl (lv_at hl 2 rfl) ?_
  refine lv_aload_n hx hb dL_law_488 rfl (lv_at hl 0 rfl) ?_
  refine lv_iload_n hx hb dL_law_489 rfl (lv_at hl 3 rfl) ?_
  refine lv_iconst (v := (1 : Int32)) hx hb dL_law_490 (by decide) ?_
  refine lv_iadd hx hb dL_law_491 ?_
  refine va_sld hx hb hX hbl hbA hS h.1 dL_law_492 ?_
  have h := h.2
  refine zlm_l [.int (xs (x3 + (1 : Int32)).toNatClampNeg)] ⟨hx, hb, hml, hown, hts⟩ (c_X12_worth N l dC dI adm cI cJ cC _ μ (xs (x3 + (1 : Int32)).toNatClampNeg) _ h) (cw_X12_worth hts mw_1097 rfl rfl ⟨Nat.le_of_ble_eq_true rfl, Nat.le_of_ble_eq_true rfl⟩) rfl rfl hK hPm hDm hPx hdis' hS rfl hl.1 (rest := [.long r1]) (Nat.le_of_ble_eq_true rfl) rfl ⟨Nat.le_of_ble_eq_true rfl, Nat.le_of_ble_eq_true rfl⟩ dL_law_493 (fun r3 τ4 H locs h hPm hDm hPx hS => ?_)
  refine W.lcmp hx hb dL_law_496 ?_
  refine lv_if_eq (tgt := 1121) hx hb dL_law_497 (by decide) (fun hc => ?_) (fun hc => ?_)
  · have h := h.1 hc
    obtain ⟨v5, ev5⟩ : ∃ z : Int32, z = x3 + (6 : Int32) := ⟨_, rfl⟩
    have h := h v5 ev5
    refine lv_iinc (v := v5) (lv' := [(3, .int v5), (0, .ref b), (1, .ref (adx 0)), (2, .ref (adm 0))]) hx hb dL_law_1121 hl (k := 3) rfl (by rw [ev5]; rfl) (by decide) rfl (fun ls hl => ?_)
    refine lv_goto (tgt := 18) hx hb dL_law_1124 (by decide) ?_
    exact hk_18 v5 τ2 τ4 _ _ _ h hPx hDx hPm hDm hS (lv_sub hl [1, 2, 3, 0] rfl)
  · have h := h.2 hc
    refine lv_iconst (v := (0 : Int32)) hx hb dL_law_500 (by decide) ?_
    exact h.elim
set_option maxHeartbeats 4000000 in
set_option maxRecDepth 100000 in
theorem t_law_502 (C0 : lw_At p s m meth c b L xs) (hK : va_K (dC, dI) vwCl (m_ty cI cJ cC) s) (hdis : ∀ j k, j < x_n → k < m_n → adx j ≠ adm k) (N : Nat) {k_18 : Int32 → zSt → zSt → Prop} (hk_18 : ∀ (x3 : Int32) (σ μ : zSt) (H : Heap) (locs : List Loc) (ls : Array Slot), k_18 x3 σ μ → va_P (dC, dI) vwCl (x_W adx cI cJ σ) H → va_D (fun q : Nat => s.heap.size ≤ q) (x_W adx cI cJ σ) → va_P (dC, dI) vwCl (m_W adm cI cJ cC μ) H → va_D (fun q : Nat => s.heap.size ≤ q) (m_W adm cI cJ cC μ) → va_S (fun q : Nat => s.heap.size ≤ q) s.heap H locs → lv_has ls 4 [(0, .ref b), (1, .ref (adx 0)), (2, .ref (adm 0)), (3, .int x3)] → W p l e room_1 s m #[Value.ref b] below meth c H locs 108 37792 (lw_Z below #[Value.ref b] s) (F0 m 18 ls [])) : ∀ (x3 : Int32) (σ μ : zSt) (H : Heap) (locs : List Loc) (ls : Array Slot), b_law_502 N k_18 L xs x3 σ μ → va_P (dC, dI) vwCl (x_W adx cI cJ σ) H → va_D (fun q : Nat => s.heap.size ≤ q) (x_W adx cI cJ σ) → va_P (dC, dI) vwCl (m_W adm cI cJ cC μ) H → va_D (fun q : Nat => s.heap.size ≤ q) (m_W adm cI cJ cC μ) → va_S (fun q : Nat => s.heap.size ≤ q) s.heap H locs → lv_has ls 4 [(0, .ref b), (1, .ref (adx 0)), (2, .ref (adm 0)), (3, .int x3)] → W p l e room_1 s m #[Value.ref b] below meth c H locs 108 37792 (lw_Z below #[Value.ref b] s) (F0 m 502 ls []) := by
  obtain ⟨hx, hb, hr, hml, hown, hts0, hX, hbl, hlocks, hgv⟩ := id C0
  have hts := lw_hts hts0
  have hbA : ¬ (fun q : Nat => s.heap.size ≤ q) b := Nat.not_le.mpr hbl
  have hKx := hK.sub (tys' := x_ty cI cJ) [0, 1] rfl
  have hdis' : ∀ j k, j < m_n → k < x_n → adm j ≠ adx k := fun j k h1 h2 h3 => hdis k j h2 h1 h3.symm
  intro x3 σ μ H locs ls h hPx hDx hPm hDm hS hl
  unfold b_law_502 at h
  refine lv_aload_n hx hb dL_law_502 rfl (lv_at hl 1 rfl) ?_
  refine lv_aload_n hx hb dL_law_503 rfl (lv_at hl 0 rfl) ?_
  refine lv_iload_n hx hb dL_law_504 rfl (lv_at hl 3 rfl) ?_
  refine lv_iconst (v := (1 : Int32)) hx hb dL_law_505 (by decide) ?_
  refine lv_iadd hx hb dL_law_506 ?_
  refine va_sld hx hb hX hbl hbA hS h.1 dL_law_507 ?_
  have h := h.2
  refine lv_aload_n hx hb dL_law_508 rfl (lv_at hl 0 rfl) ?_
  refine lv_iload_n hx hb dL_law_509 rfl (lv_at hl 3 rfl) ?_
  refine lv_iconst (v := (2 : Int32)) hx hb dL_law_510 (by decide) ?_
  refine lv_iadd hx hb dL_law_511 ?_
  refine va_sld hx hb hX hbl hbA hS h.1 dL_law_512 ?_
  have h := h.2
  refine zlx_i [.int (xs (x3 + (1 : Int32)).toNatClampNeg), .int (xs (x3 + (2 : Int32)).toNatClampNeg)] ⟨hx, hb, hml, hown, hts⟩ (c_X11_ways N l dC dI adx cI cJ _ σ (xs (x3 + (1 : Int32)).toNatClampNeg) (xs (x3 + (2 : Int32)).toNatClampNeg) _ h) (cw_X11_ways hts mw_581 rfl rfl ⟨Nat.le_of_ble_eq_true rfl, Nat.le_of_ble_eq_true rfl⟩) rfl rfl hKx hPx hDx hPm hdis hS rfl hl.1 (rest := []) (Nat.le_of_ble_eq_true rfl) rfl ⟨Nat.le_of_ble_eq_true rfl, Nat.le_of_ble_eq_true rfl⟩ dL_law_513 (fun r1 τ2 H locs h hPx hDx hPm hS => ?_)
  refine lv_aload_n hx hb dL_law_516 rfl (lv_at hl 2 rfl) ?_
  refine lv_aload_n hx hb dL_law_517 rfl (lv_at hl 0 rfl) ?_
  refine lv_iload_n hx hb dL_law_518 rfl (lv_at hl 3 rfl) ?_
  refine lv_iconst (v := (1 : Int32)) hx hb dL_law_519 (by decide) ?_
  refine lv_iadd hx hb dL_law_520 ?_
  refine va_sld hx hb hX hbl hbA hS h.1 dL_law_521 ?_
  have h := h.2
  refine lv_aload_n hx hb dL_law_522 rfl (lv_at hl 0 rfl) ?_
  refine lv_iload_n hx hb dL_law_523 rfl (lv_at hl 3 rfl) ?_
  refine lv_iconst (v := (2 : Int32)) hx hb dL_law_524 (by decide) ?_
  refine lv_iadd hx hb dL_law_525 ?_
  refine va_sld hx hb hX hbl hbA hS h.1 dL_law_526 ?_
  have h := h.2
  refine zlm_i [.int (xs (x3 + (1 : Int32)).toNatClampNeg), .int (xs (x3 + (2 : Int32)).toNatClampNeg)] ⟨hx, hb, hml, hown, hts⟩ (c_X12_ways N l dC dI adm cI cJ cC _ μ (xs (x3 + (1 : Int32)).toNatClampNeg) (xs (x3 + (2 : Int32)).toNatClampNeg) _ h) (cw_X12_ways hts mw_1137 rfl rfl ⟨Nat.le_of_ble_eq_true rfl, Nat.le_of_ble_eq_true rfl⟩) rfl rfl hK hPm hDm hPx hdis' hS rfl hl.1 (rest := [.int r1]) (Nat.le_of_ble_eq_true rfl) rfl ⟨Nat.le_of_ble_eq_true rfl, Nat.le_of_ble_eq_true rfl⟩ dL_law_527 (fun r3 τ4 H locs h hPm hDm hPx hS => ?_)
  refine lv_icmp_eq (tgt := 1121) hx hb dL_law_530 (by decide) (fun hc => ?_) (fun hc => ?_)
  · have h := h.1 hc
    obtain ⟨v5, ev5⟩ : ∃ z : Int32, z = x3 + (6 : Int32) := ⟨_, rfl⟩
    have h := h v5 ev5
    refine lv_iinc (v := v5) (lv' := [(3, .int v5), (0, .ref b), (1, .ref (adx 0)), (2, .ref (adm 0))]) hx hb dL_law_1121 hl (k := 3) rfl (by rw [ev5]; rfl) (by decide) rfl (fun ls hl => ?_)
    refine lv_goto (tgt := 18) hx hb dL_law_1124 (by decide) ?_
    exact hk_18 v5 τ2 τ4 _ _ _ h hPx hDx hPm hDm hS (lv_sub hl [1, 2, 3, 0] rfl)
  · have h := h.2 hc
    refine lv_iconst (v := (0 : Int32)) hx hb dL_law_533 (by decide) ?_
    exact h.elim
set_option maxHeartbeats 4000000 in
set_option maxRecDepth 100000 in
theorem t_law_535 (C0 : lw_At p s m meth c b L xs) (hK : va_K (dC, dI) vwCl (m_ty cI cJ cC) s) (hdis : ∀ j k, j < x_n → k < m_n → adx j ≠ adm k) (N : Nat) {k_18 : Int32 → zSt → zSt → Prop} (hk_18 : ∀ (x3 : Int32) (σ μ : zSt) (H : Heap) (locs : List Loc) (ls : Array Slot), k_18 x3 σ μ → va_P (dC, dI) vwCl (x_W adx cI cJ σ) H → va_D (fun q : Nat => s.heap.size ≤ q) (x_W adx cI cJ σ) → va_P (dC, dI) vwCl (m_W adm cI cJ cC μ) H → va_D (fun q : Nat => s.heap.size ≤ q) (m_W adm cI cJ cC μ) → va_S (fun q : Nat => s.heap.size ≤ q) s.heap H locs → lv_has ls 4 [(0, .ref b), (1, .ref (adx 0)), (2, .ref (adm 0)), (3, .int x3)] → W p l e room_1 s m #[Value.ref b] below meth c H locs 108 37792 (lw_Z below #[Value.ref b] s) (F0 m 18 ls [])) : ∀ (x3 : Int32) (σ μ : zSt) (H : Heap) (locs : List Loc) (ls : Array Slot), b_law_535 N k_18 L xs x3 σ μ → va_P (dC, dI) vwCl (x_W adx cI cJ σ) H → va_D (fun q : Nat => s.heap.size ≤ q) (x_W adx cI cJ σ) → va_P (dC, dI) vwCl (m_W adm cI cJ cC μ) H → va_D (fun q : Nat => s.heap.size ≤ q) (m_W adm cI cJ cC μ) → va_S (fun q : Nat => s.heap.size ≤ q) s.heap H locs → lv_has ls 4 [(0, .ref b), (1, .ref (adx 0)), (2, .ref (adm 0)), (3, .int x3)] → W p l e room_1 s m #[Value.ref b] below meth c H locs 108 37792 (lw_Z below #[Value.ref b] s) (F0 m 535 ls []) := by
  obtain ⟨hx, hb, hr, hml, hown, hts0, hX, hbl, hlocks, hgv⟩ := id C0
  have hts := lw_hts hts0
  have hbA : ¬ (fun q : Nat => s.heap.size ≤ q) b := Nat.not_le.mpr hbl
  have hKx := hK.sub (tys' := x_ty cI cJ) [0, 1] rfl
  have hdis' : ∀ j k, j < m_n → k < x_n → adm j ≠ adx k := fun j k h1 h2 h3 => hdis k j h2 h1 h3.symm
  intro x3 σ μ H locs ls h hPx hDx hPm hDm hS hl
  unfold b_law_535 at h
  refine lv_aload_n hx hb dL_law_535 rfl (lv_at hl 1 rfl) ?_
  refine lv_aload_n hx hb dL_law_536 rfl (lv_at hl 0 rfl) ?_
  refine lv_iload_n hx hb dL_law_537 rfl (lv_at hl 3 rfl) ?_
  refine lv_iconst (v := (1 : Int32)) hx hb dL_law_538 (by decide) ?_
  refine lv_iadd hx hb dL_law_539 ?_
  refine va_sld hx hb hX hbl hbA hS h.1 dL_law_540 ?_
  have h := h.2
  refine zlx_i [.int (xs (x3 + (1 : Int32)).toNatClampNeg)] ⟨hx, hb, hml, hown, hts⟩ (c_X11_rest N l dC dI adx cI cJ _ σ (xs (x3 + (1 : Int32)).toNatClampNeg) _ h) (cw_X11_rest hts mw_587 rfl rfl ⟨Nat.le_of_ble_eq_true rfl, Nat.le_of_ble_eq_true rfl⟩) rfl rfl hKx hPx hDx hPm hdis hS rfl hl.1 (rest := []) (Nat.le_of_ble_eq_true rfl) rfl ⟨Nat.le_of_ble_eq_true rfl, Nat.le_of_ble_eq_true rfl⟩ dL_law_541 (fun r1 τ2 H locs h hPx hDx hPm hS => ?_)
  refine lv_aload_n hx hb dL_law_544 rfl (lv_at hl 2 rfl) ?_
  refine lv_aload_n hx hb dL_law_545 rfl (lv_at hl 0 rfl) ?_
  refine lv_iload_n hx hb dL_law_546 rfl (lv_at hl 3 rfl) ?_
  refine lv_iconst (v := (1 : Int32)) hx hb dL_law_547 (by decide) ?_
  refine lv_iadd hx hb dL_law_548 ?_
  refine va_sld hx hb hX hbl hbA hS h.1 dL_law_549 ?_
  have h := h.2
  refine zlm_i [.int (xs (x3 + (1 : Int32)).toNatClampNeg)] ⟨hx, hb, hml, hown, hts⟩ (c_X12_rest N l dC dI adm cI cJ cC _ μ (xs (x3 + (1 : Int32)).toNatClampNeg) _ h) (cw_X12_rest hts mw_1141 rfl rfl ⟨Nat.le_of_ble_eq_true rfl, Nat.le_of_ble_eq_true rfl⟩) rfl rfl hK hPm hDm hPx hdis' hS rfl hl.1 (rest := [.int r1]) (Nat.le_of_ble_eq_true rfl) rfl ⟨Nat.le_of_ble_eq_true rfl, Nat.le_of_ble_eq_true rfl⟩ dL_law_550 (fun r3 τ4 H locs h hPm hDm hPx hS => ?_)
  refine lv_icmp_eq (tgt := 1121) hx hb dL_law_553 (by decide) (fun hc => ?_) (fun hc => ?_)
  · have h := h.1 hc
    obtain ⟨v5, ev5⟩ : ∃ z : Int32, z = x3 + (6 : Int32) := ⟨_, rfl⟩
    have h := h v5 ev5
    refine lv_iinc (v := v5) (lv' := [(3, .int v5), (0, .ref b), (1, .ref (adx 0)), (2, .ref (adm 0))]) hx hb dL_law_1121 hl (k := 3) rfl (by rw [ev5]; rfl) (by decide) rfl (fun ls hl => ?_)
    refine lv_goto (tgt := 18) hx hb dL_law_1124 (by decide) ?_
    exact hk_18 v5 τ2 τ4 _ _ _ h hPx hDx hPm hDm hS (lv_sub hl [1, 2, 3, 0] rfl)
  · have h := h.2 hc
    refine lv_iconst (v := (0 : Int32)) hx hb dL_law_556 (by decide) ?_
    exact h.elim
set_option maxHeartbeats 4000000 in
set_option maxRecDepth 100000 in
theorem t_law_558 (C0 : lw_At p s m meth c b L xs) (hK : va_K (dC, dI) vwCl (m_ty cI cJ cC) s) (hdis : ∀ j k, j < x_n → k < m_n → adx j ≠ adm k) (N : Nat) {k_18 : Int32 → zSt → zSt → Prop} (hk_18 : ∀ (x3 : Int32) (σ μ : zSt) (H : Heap) (locs : List Loc) (ls : Array Slot), k_18 x3 σ μ → va_P (dC, dI) vwCl (x_W adx cI cJ σ) H → va_D (fun q : Nat => s.heap.size ≤ q) (x_W adx cI cJ σ) → va_P (dC, dI) vwCl (m_W adm cI cJ cC μ) H → va_D (fun q : Nat => s.heap.size ≤ q) (m_W adm cI cJ cC μ) → va_S (fun q : Nat => s.heap.size ≤ q) s.heap H locs → lv_has ls 4 [(0, .ref b), (1, .ref (adx 0)), (2, .ref (adm 0)), (3, .int x3)] → W p l e room_1 s m #[Value.ref b] below meth c H locs 108 37792 (lw_Z below #[Value.ref b] s) (F0 m 18 ls [])) : ∀ (x3 : Int32) (σ μ : zSt) (H : Heap) (locs : List Loc) (ls : Array Slot), b_law_558 N k_18 L xs x3 σ μ → va_P (dC, dI) vwCl (x_W adx cI cJ σ) H → va_D (fun q : Nat => s.heap.size ≤ q) (x_W adx cI cJ σ) → va_P (dC, dI) vwCl (m_W adm cI cJ cC μ) H → va_D (fun q : Nat => s.heap.size ≤ q) (m_W adm cI cJ cC μ) → va_S (fun q : Nat => s.heap.size ≤ q) s.heap H locs → lv_has ls 4 [(0, .ref b), (1, .ref (adx 0)), (2, .ref (adm 0)), (3, .int x3)] → W p l e room_1 s m #[Value.ref b] below meth c H locs 108 37792 (lw_Z below #[Value.ref b] s) (F0 m 558 ls []) := by
  obtain ⟨hx, hb, hr, hml, hown, hts0, hX, hbl, hlocks, hgv⟩ := id C0
  have hts := lw_hts hts0
  have hbA : ¬ (fun q : Nat => s.heap.size ≤ q) b := Nat.not_le.mpr hbl
  have hKx := hK.sub (tys' := x_ty cI cJ) [0, 1] rfl
  have hdis' : ∀ j k, j < m_n → k < x_n → adm j ≠ adx k := fun j k h1 h2 h3 => hdis k j h2 h1 h3.symm
  intro x3 σ μ H locs ls h hPx hDx hPm hDm hS hl
  unfold b_law_558 at h
  refine lv_aload_n hx hb dL_law_558 rfl (lv_at hl 1 rfl) ?_
  refine lv_aload_n hx hb dL_law_559 rfl (lv_at hl 0 rfl) ?_
  refine lv_iload_n hx hb dL_law_560 rfl (lv_at hl 3 rfl) ?_
  refine lv_iconst (v := (1 : Int32)) hx hb dL_law_561 (by decide) ?_
  refine lv_iadd hx hb dL_law_562 ?_
  refine va_sld hx hb hX hbl hbA hS h.1 dL_law_563 ?_
  have h := h.2
  refine zlx_l [.int (xs (x3 + (1 : Int32)).toNatClampNeg)] ⟨hx, hb, hml, hown, hts⟩ (c_X11_bars N l dC dI adx cI cJ _ σ (xs (x3 + (1 : Int32)).toNatClampNeg) _ h) (cw_X11_bars hts mw_650 rfl rfl ⟨Nat.le_of_ble_eq_true rfl, Nat.le_of_ble_eq_true rfl⟩) rfl rfl hKx hPx hDx hPm hdis hS rfl hl.1 (rest := []) (Nat.le_of_ble_eq_true rfl) rfl ⟨Nat.le_of_ble_eq_true rfl, Nat.le_of_ble_eq_true rfl⟩ dL_law_564 (fun r1 τ2 H locs h hPx hDx hPm hS => ?_)
  refine lv_aload_n hx hb dL_law_567 rfl (lv_at hl 2 rfl) ?_
  refine lv_aload_n hx hb dL_law_568 rfl (lv_at hl 0 rfl) ?_
  refine lv_iload_n hx hb dL_law_569 rfl (lv_at hl 3 rfl) ?_
  refine lv_iconst (v := (1 : Int32)) hx hb dL_law_570 (by decide) ?_
  refine lv_iadd hx hb dL_law_571 ?_
  refine va_sld hx hb hX hbl hbA hS h.1 dL_law_572 ?_
  have h := h.2
  refine zlm_l [.int (xs (x3 + (1 : Int32)).toNatClampNeg)] ⟨hx, hb, hml, hown, hts⟩ (c_X12_bars N l dC dI adm cI cJ cC _ μ (xs (x3 + (1 : Int32)).toNatClampNeg) _ h) (cw_X12_bars hts mw_1193 rfl rfl ⟨Nat.le_of_ble_eq_true rfl, Nat.le_of_ble_eq_true rfl⟩) rfl rfl hK hPm hDm hPx hdis' hS rfl hl.1 (rest := [.long r1]) (Nat.le_of_ble_eq_true rfl) rfl ⟨Nat.le_of_ble_eq_true rfl, Nat.le_of_ble_eq_true rfl⟩ dL_law_573 (fun r3 τ4 H locs h hPm hDm hPx hS => ?_)
  refine W.lcmp hx hb dL_law_576 ?_
  refine lv_if_eq (tgt := 1121) hx hb dL_law_577 (by decide) (fun hc => ?_) (fun hc => ?_)
  · have h := h.1 hc
    obtain ⟨v5, ev5⟩ : ∃ z : Int32, z = x3 + (6 : Int32) := ⟨_, rfl⟩
    have h := h v5 ev5
    refine lv_iinc (v := v5) (lv' := [(3, .int v5), (0, .ref b), (1, .ref (adx 0)), (2, .ref (adm 0))]) hx hb dL_law_1121 hl (k := 3) rfl (by rw [ev5]; rfl) (by decide) rfl (fun ls hl => ?_)
    refine lv_goto (tgt := 18) hx hb dL_law_1124 (by decide) ?_
    exact hk_18 v5 τ2 τ4 _ _ _ h hPx hDx hPm hDm hS (lv_sub hl [1, 2, 3, 0] rfl)
  · have h := h.2 hc
    refine lv_iconst (v := (0 : Int32)) hx hb dL_law_580 (by decide) ?_
    exact h.elim
set_option maxHeartbeats 4000000 in
set_option maxRecDepth 100000 in
theorem t_law_582 (C0 : lw_At p s m meth c b L xs) (hK : va_K (dC, dI) vwCl (m_ty cI cJ cC) s) (hdis : ∀ j k, j < x_n → k < m_n → adx j ≠ adm k) (N : Nat) {k_18 : Int32 → zSt → zSt → Prop} (hk_18 : ∀ (x3 : Int32) (σ μ : zSt) (H : Heap) (locs : List Loc) (ls : Array Slot), k_18 x3 σ μ → va_P (dC, dI) vwCl (x_W adx cI cJ σ) H → va_D (fun q : Nat => s.heap.size ≤ q) (x_W adx cI cJ σ) → va_P (dC, dI) vwCl (m_W adm cI cJ cC μ) H → va_D (fun q : Nat => s.heap.size ≤ q) (m_W adm cI cJ cC μ) → va_S (fun q : Nat => s.heap.size ≤ q) s.heap H locs → lv_has ls 4 [(0, .ref b), (1, .ref (adx 0)), (2, .ref (adm 0)), (3, .int x3)] → W p l e room_1 s m #[Value.ref b] below meth c H locs 108 37792 (lw_Z below #[Value.ref b] s) (F0 m 18 ls [])) : ∀ (x3 : Int32) (σ μ : zSt) (H : Heap) (locs : List Loc) (ls : Array Slot), b_law_582 N k_18 L xs x3 σ μ → va_P (dC, dI) vwCl (x_W adx cI cJ σ) H → va_D (fun q : Nat => s.heap.size ≤ q) (x_W adx cI cJ σ) → va_P (dC, dI) vwCl (m_W adm cI cJ cC μ) H → va_D (fun q : Nat => s.heap.size ≤ q) (m_W adm cI cJ cC μ) → va_S (fun q : Nat => s.heap.size ≤ q) s.heap H locs → lv_has ls 4 [(0, .ref b), (1, .ref (adx 0)), (2, .ref (adm 0)), (3, .int x3)] → W p l e room_1 s m #[Value.ref b] below meth c H locs 108 37792 (lw_Z below #[Value.ref b] s) (F0 m 582 ls []) := by
  obtain ⟨hx, hb, hr, hml, hown, hts0, hX, hbl, hlocks, hgv⟩ := id C0
  have hts := lw_hts hts0
  have hbA : ¬ (fun q : Nat => s.heap.size ≤ q) b := Nat.not_le.mpr hbl
  have hKx := hK.sub (tys' := x_ty cI cJ) [0, 1] rfl
  have hdis' : ∀ j k, j < m_n → k < x_n → adm j ≠ adx k := fun j k h1 h2 h3 => hdis k j h2 h1 h3.symm
  intro x3 σ μ H locs ls h hPx hDx hPm hDm hS hl
  unfold b_law_582 at h
  refine lv_aload_n hx hb dL_law_582 rfl (lv_at hl 1 rfl) ?_
  refine lv_aload_n hx hb dL_law_583 rfl (lv_at hl 0 rfl) ?_
  refine lv_iload_n hx hb dL_law_584 rfl (lv_at hl 3 rfl) ?_
  refine lv_iconst (v := (1 : Int32)) hx hb dL_law_585 (by decide) ?_
  refine lv_iadd hx hb dL_law_586 ?_
  refine va_sld hx hb hX hbl hbA hS h.1 dL_law_587 ?_
  have h := h.2
  refine zlx_i [.int (xs (x3 + (1 : Int32)).toNatClampNeg)] ⟨hx, hb, hml, hown, hts⟩ (c_X11_step N l dC dI adx cI cJ _ σ (xs (x3 + (1 : Int32)).toNatClampNeg) _ h) (cw_X11_step hts mw_654 rfl rfl ⟨Nat.le_of_ble_eq_true rfl, Nat.le_of_ble_eq_true rfl⟩) rfl rfl hKx hPx hDx hPm hdis hS rfl hl.1 (rest := []) (Nat.le_of_ble_eq_true rfl) rfl ⟨Nat.le_of_ble_eq_true rfl, Nat.le_of_ble_eq_true rfl⟩ dL_law_588 (fun r1 τ2 H locs h hPx hDx hPm hS => ?_)
  refine lv_aload_n hx hb dL_law_591 rfl (lv_at hl 2 rfl) ?_
  refine lv_aload_n hx hb dL_law_592 rfl (lv_at hl 0 rfl) ?_
  refine lv_iload_n hx hb dL_law_593 rfl (lv_at hl 3 rfl) ?_
  refine lv_iconst (v := (1 : Int32)) hx hb dL_law_594 (by decide) ?_
  refine lv_iadd hx hb dL_law_595 ?_
  refine va_sld hx hb hX hbl hbA hS h.1 dL_law_596 ?_
  have h := h.2
  refine zlm_i [.int (xs (x3 + (1 : Int32)).toNatClampNeg)] ⟨hx, hb, hml, hown, hts⟩ (c_X12_step N l dC dI adm cI cJ cC _ μ (xs (x3 + (1 : Int32)).toNatClampNeg) _ h) (cw_X12_step hts mw_1197 rfl rfl ⟨Nat.le_of_ble_eq_true rfl, Nat.le_of_ble_eq_true rfl⟩) rfl rfl hK hPm hDm hPx hdis' hS rfl hl.1 (rest := [.int r1]) (Nat.le_of_ble_eq_true rfl) rfl ⟨Nat.le_of_ble_eq_true rfl, Nat.le_of_ble_eq_true rfl⟩ dL_law_597 (fun r3 τ4 H locs h hPm hDm hPx hS => ?_)
  refine lv_icmp_eq (tgt := 1121) hx hb dL_law_600 (by decide) (fun hc => ?_) (fun hc => ?_)
  · have h := h.1 hc
    obtain ⟨v5, ev5⟩ : ∃ z : Int32, z = x3 + (6 : Int32) := ⟨_, rfl⟩
    have h := h v5 ev5
    refine lv_iinc (v := v5) (lv' := [(3, .int v5), (0, .ref b), (1, .ref (adx 0)), (2, .ref (adm 0))]) hx hb dL_law_1121 hl (k := 3) rfl (by rw [ev5]; rfl) (by decide) rfl (fun ls hl => ?_)
    refine lv_goto (tgt := 18) hx hb dL_law_1124 (by decide) ?_
    exact hk_18 v5 τ2 τ4 _ _ _ h hPx hDx hPm hDm hS (lv_sub hl [1, 2, 3, 0] rfl)
  · have h := h.2 hc
    refine lv_iconst (v := (0 : Int32)) hx hb dL_law_603 (by decide) ?_
    exact h.elim
set_option maxHeartbeats 4000000 in
set_option maxRecDepth 100000 in
theorem t_law_605 (C0 : lw_At p s m meth c b L xs) (hK : va_K (dC, dI) vwCl (m_ty cI cJ cC) s) (hdis : ∀ j k, j < x_n → k < m_n → adx j ≠ adm k) (N : Nat) {k_18 : Int32 → zSt → zSt → Prop} (hk_18 : ∀ (x3 : Int32) (σ μ : zSt) (H : Heap) (locs : List Loc) (ls : Array Slot), k_18 x3 σ μ → va_P (dC, dI) vwCl (x_W adx cI cJ σ) H → va_D (fun q : Nat => s.heap.size ≤ q) (x_W adx cI cJ σ) → va_P (dC, dI) vwCl (m_W adm cI cJ cC μ) H → va_D (fun q : Nat => s.heap.size ≤ q) (m_W adm cI cJ cC μ) → va_S (fun q : Nat => s.heap.size ≤ q) s.heap H locs → lv_has ls 4 [(0, .ref b), (1, .ref (adx 0)), (2, .ref (adm 0)), (3, .int x3)] → W p l e room_1 s m #[Value.ref b] below meth c H locs 108 37792 (lw_Z below #[Value.ref b] s) (F0 m 18 ls [])) : ∀ (x3 : Int32) (σ μ : zSt) (H : Heap) (locs : List Loc) (ls : Array Slot), b_law_605 N k_18 L xs x3 σ μ → va_P (dC, dI) vwCl (x_W adx cI cJ σ) H → va_D (fun q : Nat => s.heap.size ≤ q) (x_W adx cI cJ σ) → va_P (dC, dI) vwCl (m_W adm cI cJ cC μ) H → va_D (fun q : Nat => s.heap.size ≤ q) (m_W adm cI cJ cC μ) → va_S (fun q : Nat => s.heap.size ≤ q) s.heap H locs → lv_has ls 4 [(0, .ref b), (1, .ref (adx 0)), (2, .ref (adm 0)), (3, .int x3)] → W p l e room_1 s m #[Value.ref b] below meth c H locs 108 37792 (lw_Z below #[Value.ref b] s) (F0 m 605 ls []) := by
  obtain ⟨hx, hb, hr, hml, hown, hts0, hX, hbl, hlocks, hgv⟩ := id C0
  have hts := lw_hts hts0
  have hbA : ¬ (fun q : Nat => s.heap.size ≤ q) b := Nat.not_le.mpr hbl
  have hKx := hK.sub (tys' := x_ty cI cJ) [0, 1] rfl
  have hdis' : ∀ j k, j < m_n → k < x_n → adm j ≠ adx k := fun j k h1 h2 h3 => hdis k j h2 h1 h3.symm
  intro x3 σ μ H locs ls h hPx hDx hPm hDm hS hl
  unfold b_law_605 at h
  refine lv_aload_n hx hb dL_law_605 rfl (lv_at hl 1 rfl) ?_
  refine zlx_i [] ⟨hx, hb, hml, hown, hts⟩ (c_X11_go N l dC dI adx cI cJ _ σ  _ h) (cw_X11_go hts mw_671 rfl rfl ⟨Nat.le_of_ble_eq_true rfl, Nat.le_of_ble_eq_true rfl⟩) rfl rfl hKx hPx hDx hPm hdis hS rfl hl.1 (rest := []) (Nat.le_of_ble_eq_true rfl) rfl ⟨Nat.le_of_ble_eq_true rfl, Nat.le_of_ble_eq_true rfl⟩ dL_law_606 (fun r1 τ2 H locs h hPx hDx hPm hS => ?_)
  refine lv_aload_n hx hb dL_law_609 rfl (lv_at hl 2 rfl) ?_
  refine zlm_i [] ⟨hx, hb, hml, hown, hts⟩ (c_X12_go N l dC dI adm cI cJ cC _ μ  _ h) (cw_X12_go hts mw_1208 rfl rfl ⟨Nat.le_of_ble_eq_true rfl, Nat.le_of_ble_eq_true rfl⟩) rfl rfl hK hPm hDm hPx hdis' hS rfl hl.1 (rest := [.int r1]) (Nat.le_of_ble_eq_true rfl) rfl ⟨Nat.le_of_ble_eq_true rfl, Nat.le_of_ble_eq_true rfl⟩ dL_law_610 (fun r3 τ4 H locs h hPm hDm hPx hS => ?_)
  refine lv_icmp_eq (tgt := 1121) hx hb dL_law_613 (by decide) (fun hc => ?_) (fun hc => ?_)
  · have h := h.1 hc
    obtain ⟨v5, ev5⟩ : ∃ z : Int32, z = x3 + (6 : Int32) := ⟨_, rfl⟩
    have h := h v5 ev5
    refine lv_iinc (v := v5) (lv' := [(3, .int v5), (0, .ref b), (1, .ref (adx 0)), (2, .ref (adm 0))]) hx hb dL_law_1121 hl (k := 3) rfl (by rw [ev5]; rfl) (by decide) rfl (fun ls hl => ?_)
    refine lv_goto (tgt := 18) hx hb dL_law_1124 (by decide) ?_
    exact hk_18 v5 τ2 τ4 _ _ _ h hPx hDx hPm hDm hS (lv_sub hl [1, 2, 3, 0] rfl)
  · have h := h.2 hc
    refine lv_iconst (v := (0 : Int32)) hx hb dL_law_616 (by decide) ?_
    exact h.elim
set_option maxHeartbeats 4000000 in
set_option maxRecDepth 100000 in
theorem t_law_618 (C0 : lw_At p s m meth c b L xs) (hK : va_K (dC, dI) vwCl (m_ty cI cJ cC) s) (hdis : ∀ j k, j < x_n → k < m_n → adx j ≠ adm k) (N : Nat) {k_18 : Int32 → zSt → zSt → Prop} (hk_18 : ∀ (x3 : Int32) (σ μ : zSt) (H : Heap) (locs : List Loc) (ls : Array Slot), k_18 x3 σ μ → va_P (dC, dI) vwCl (x_W adx cI cJ σ) H → va_D (fun q : Nat => s.heap.size ≤ q) (x_W adx cI cJ σ) → va_P (dC, dI) vwCl (m_W adm cI cJ cC μ) H → va_D (fun q : Nat => s.heap.size ≤ q) (m_W adm cI cJ cC μ) → va_S (fun q : Nat => s.heap.size ≤ q) s.heap H locs → lv_has ls 4 [(0, .ref b), (1, .ref (adx 0)), (2, .ref (adm 0)), (3, .int x3)] → W p l e room_1 s m #[Value.ref b] below meth c H locs 108 37792 (lw_Z below #[Value.ref b] s) (F0 m 18 ls [])) : ∀ (x3 : Int32) (σ μ : zSt) (H : Heap) (locs : List Loc) (ls : Array Slot), b_law_618 N k_18 L xs x3 σ μ → va_P (dC, dI) vwCl (x_W adx cI cJ σ) H → va_D (fun q : Nat => s.heap.size ≤ q) (x_W adx cI cJ σ) → va_P (dC, dI) vwCl (m_W adm cI cJ cC μ) H → va_D (fun q : Nat => s.heap.size ≤ q) (m_W adm cI cJ cC μ) → va_S (fun q : Nat => s.heap.size ≤ q) s.heap H locs → lv_has ls 4 [(0, .ref b), (1, .ref (adx 0)), (2, .ref (adm 0)), (3, .int x3)] → W p l e room_1 s m #[Value.ref b] below meth c H locs 108 37792 (lw_Z below #[Value.ref b] s) (F0 m 618 ls []) := by
  obtain ⟨hx, hb, hr, hml, hown, hts0, hX, hbl, hlocks, hgv⟩ := id C0
  have hts := lw_hts hts0
  have hbA : ¬ (fun q : Nat => s.heap.size ≤ q) b := Nat.not_le.mpr hbl
  have hKx := hK.sub (tys' := x_ty cI cJ) [0, 1] rfl
  have hdis' : ∀ j k, j < m_n → k < x_n → adm j ≠ adx k := fun j k h1 h2 h3 => hdis k j h2 h1 h3.symm
  intro x3 σ μ H locs ls h hPx hDx hPm hDm hS hl
  unfold b_law_618 at h
  refine lv_aload_n hx hb dL_law_618 rfl (lv_at hl 1 rfl) ?_
  refine lv_aload_n hx hb dL_law_619 rfl (lv_at hl 0 rfl) ?_
  refine lv_iload_n hx hb dL_law_620 rfl (lv_at hl 3 rfl) ?_
  refine lv_iconst (v := (1 : Int32)) hx hb dL_law_621 (by decide) ?_
  refine lv_iadd hx hb dL_law_622 ?_
  refine va_sld hx hb hX hbl hbA hS h.1 dL_law_623 ?_
  have h := h.2
  refine zlx_l [.int (xs (x3 + (1 : Int32)).toNatClampNeg)] ⟨hx, hb, hml, hown, hts⟩ (c_X11_ring N l dC dI adx cI cJ _ σ (xs (x3 + (1 : Int32)).toNatClampNeg) _ h) (cw_X11_ring hts mw_692 rfl rfl ⟨Nat.le_of_ble_eq_true rfl, Nat.le_of_ble_eq_true rfl⟩) rfl rfl hKx hPx hDx hPm hdis hS rfl hl.1 (rest := []) (Nat.le_of_ble_eq_true rfl) rfl ⟨Nat.le_of_ble_eq_true rfl, Nat.le_of_ble_eq_true rfl⟩ dL_law_624 (fun r1 τ2 H locs h hPx hDx hPm hS => ?_)
  refine lv_aload_n hx hb dL_law_627 rfl (lv_at hl 2 rfl) ?_
  refine lv_aload_n hx hb dL_law_628 rfl (lv_at hl 0 rfl) ?_
  refine lv_iload_n hx hb dL_law_629 rfl (lv_at hl 3 rfl) ?_
  refine lv_iconst (v := (1 : Int32)) hx hb dL_law_630 (by decide) ?_
  refine lv_iadd hx hb dL_law_631 ?_
  refine va_sld hx hb hX hbl hbA hS h.1 dL_law_632 ?_
  have h := h.2
  refine zlm_l [.int (xs (x3 + (1 : Int32)).toNatClampNeg)] ⟨hx, hb, hml, hown, hts⟩ (c_X12_ring N l dC dI adm cI cJ cC _ μ (xs (x3 + (1 : Int32)).toNatClampNeg) _ h) (cw_X12_ring hts mw_1218 rfl rfl ⟨Nat.le_of_ble_eq_true rfl, Nat.le_of_ble_eq_true rfl⟩) rfl rfl hK hPm hDm hPx hdis' hS rfl hl.1 (rest := [.long r1]) (Nat.le_of_ble_eq_true rfl) rfl ⟨Nat.le_of_ble_eq_true rfl, Nat.le_of_ble_eq_true rfl⟩ dL_law_633 (fun r3 τ4 H locs h hPm hDm hPx hS => ?_)
  refine W.lcmp hx hb dL_law_636 ?_
  refine lv_if_eq (tgt := 1121) hx hb dL_law_637 (by decide) (fun hc => ?_) (fun hc => ?_)
  · have h := h.1 hc
    obtain ⟨v5, ev5⟩ : ∃ z : Int32, z = x3 + (6 : Int32) := ⟨_, rfl⟩
    have h := h v5 ev5
    refine lv_iinc (v := v5) (lv' := [(3, .int v5), (0, .ref b), (1, .ref (adx 0)), (2, .ref (adm 0))]) hx hb dL_law_1121 hl (k := 3) rfl (by rw [ev5]; rfl) (by decide) rfl (fun ls hl => ?_)
    refine lv_goto (tgt := 18) hx hb dL_law_1124 (by decide) ?_
    exact hk_18 v5 τ2 τ4 _ _ _ h hPx hDx hPm hDm hS (lv_sub hl [1, 2, 3, 0] rfl)
  · have h := h.2 hc
    refine lv_iconst (v := (0 : Int32)) hx hb dL_law_640 (by decide) ?_
    exact h.elim
set_option maxHeartbeats 4000000 in
set_option maxRecDepth 100000 in
theorem t_law_642 (C0 : lw_At p s m meth c b L xs) (hK : va_K (dC, dI) vwCl (m_ty cI cJ cC) s) (hdis : ∀ j k, j < x_n → k < m_n → adx j ≠ adm k) (N : Nat) {k_18 : Int32 → zSt → zSt → Prop} (hk_18 : ∀ (x3 : Int32) (σ μ : zSt) (H : Heap) (locs : List Loc) (ls : Array Slot), k_18 x3 σ μ → va_P (dC, dI) vwCl (x_W adx cI cJ σ) H → va_D (fun q : Nat => s.heap.size ≤ q) (x_W adx cI cJ σ) → va_P (dC, dI) vwCl (m_W adm cI cJ cC μ) H → va_D (fun q : Nat => s.heap.size ≤ q) (m_W adm cI cJ cC μ) → va_S (fun q : Nat => s.heap.size ≤ q) s.heap H locs → lv_has ls 4 [(0, .ref b), (1, .ref (adx 0)), (2, .ref (adm 0)), (3, .int x3)] → W p l e room_1 s m #[Value.ref b] below meth c H locs 108 37792 (lw_Z below #[Value.ref b] s) (F0 m 18 ls [])) : ∀ (x3 : Int32) (σ μ : zSt) (H : Heap) (locs : List Loc) (ls : Array Slot), b_law_642 N k_18 L xs x3 σ μ → va_P (dC, dI) vwCl (x_W adx cI cJ σ) H → va_D (fun q : Nat => s.heap.size ≤ q) (x_W adx cI cJ σ) → va_P (dC, dI) vwCl (m_W adm cI cJ cC μ) H → va_D (fun q : Nat => s.heap.size ≤ q) (m_W adm cI cJ cC μ) → va_S (fun q : Nat => s.heap.size ≤ q) s.heap H locs → lv_has ls 4 [(0, .ref b), (1, .ref (adx 0)), (2, .ref (adm 0)), (3, .int x3)] → W p l e room_1 s m #[Value.ref b] below meth c H locs 108 37792 (lw_Z below #[Value.ref b] s) (F0 m 642 ls []) := by
  obtain ⟨hx, hb, hr, hml, hown, hts0, hX, hbl, hlocks, hgv⟩ := id C0
  have hts := lw_hts hts0
  have hbA : ¬ (fun q : Nat => s.heap.size ≤ q) b := Nat.not_le.mpr hbl
  have hKx := hK.sub (tys' := x_ty cI cJ) [0, 1] rfl
  have hdis' : ∀ j k, j < m_n → k < x_n → adm j ≠ adx k := fun j k h1 h2 h3 => hdis k j h2 h1 h3.symm
  intro x3 σ μ H locs ls h hPx hDx hPm hDm hS hl
  unfold b_law_642 at h
  refine lv_aload_n hx hb dL_law_642 rfl (lv_at hl 1 rfl) ?_
  refine lv_aload_n hx hb dL_law_643 rfl (lv_at hl 0 rfl) ?_
  refine lv_iload_n hx hb dL_law_644 rfl (lv_at hl 3 rfl) ?_
  refine lv_iconst (v := (1 : Int32)) hx hb dL_law_645 (by decide) ?_
  refine lv_iadd hx hb dL_law_646 ?_
  refine va_sld hx hb hX hbl hbA hS h.1 dL_law_647 ?_
  have h := h.2
  refine lv_aload_n hx hb dL_law_648 rfl (lv_at hl 0 rfl) ?_
  refine lv_iload_n hx hb dL_law_649 rfl (lv_at hl 3 rfl) ?_
  refine lv_iconst (v := (2 : Int32)) hx hb dL_law_650 (by decide) ?_
  refine lv_iadd hx hb dL_law_651 ?_
  refine va_sld hx hb hX hbl hbA hS h.1 dL_law_652 ?_
  have h := h.2
  refine lv_if_eq (tgt := 660) hx hb dL_law_653 (by decide) (fun hc => ?_) (fun hc => ?_)
  · have h := h.1 hc
    refine lv_iconst (v := (0 : Int32)) hx hb dL_law_660 (by decide) ?_
    refine zlx_i [.int (xs (x3 + (1 : Int32)).toNatClampNeg), .int (0 : Int32)] ⟨hx, hb, hml, hown, hts⟩ (c_X11_all N l dC dI adx cI cJ _ σ (xs (x3 + (1 : Int32)).toNatClampNeg) (0 : Int32) _ h) (cw_X11_all hts mw_696 rfl rfl ⟨Nat.le_of_ble_eq_true rfl, Nat.le_of_ble_eq_true rfl⟩) rfl rfl hKx hPx hDx hPm hdis hS rfl hl.1 (rest := []) (Nat.le_of_ble_eq_true rfl) rfl ⟨Nat.le_of_ble_eq_true rfl, Nat.le_of_ble_eq_true rfl⟩ dL_law_661 (fun r1 τ2 H locs h hPx hDx hPm hS => ?_)
    refine lv_aload_n hx hb dL_law_664 rfl (lv_at hl 2 rfl) ?_
    refine lv_aload_n hx hb dL_law_665 rfl (lv_at hl 0 rfl) ?_
    refine lv_iload_n hx hb dL_law_666 rfl (lv_at hl 3 rfl) ?_
    refine lv_iconst (v := (1 : Int32)) hx hb dL_law_667 (by decide) ?_
    refine lv_iadd hx hb dL_law_668 ?_
    refine va_sld hx hb hX hbl hbA hS h.1 dL_law_669 ?_
    have h := h.2
    refine lv_aload_n hx hb dL_law_670 rfl (lv_at hl 0 rfl) ?_
    refine lv_iload_n hx hb dL_law_671 rfl (lv_at hl 3 rfl) ?_
    refine lv_iconst (v := (2 : Int32)) hx hb dL_law_672 (by decide) ?_
    refine lv_iadd hx hb dL_law_673 ?_
    refine va_sld hx hb hX hbl hbA hS h.1 dL_law_674 ?_
    have h := h.2
    refine lv_if_eq (tgt := 682) hx hb dL_law_675 (by decide) (fun hc => ?_) (fun hc => ?_)
    · have h := h.1 hc
      refine lv_iconst (v := (0 : Int32)) hx hb dL_law_682 (by decide) ?_
      refine zlm_i [.int (xs (x3 + (1 : Int32)).toNatClampNeg), .int (0 : Int32)] ⟨hx, hb, hml, hown, hts⟩ (c_X12_all N l dC dI adm cI cJ cC _ μ (xs (x3 + (1 : Int32)).toNatClampNeg) (0 : Int32) _ h) (cw_X12_all hts mw_1222 rfl rfl ⟨Nat.le_of_ble_eq_true rfl, Nat.le_of_ble_eq_true rfl⟩) rfl rfl hK hPm hDm hPx hdis' hS rfl hl.1 (rest := [.int r1]) (Nat.le_of_ble_eq_true rfl) rfl ⟨Nat.le_of_ble_eq_true rfl, Nat.le_of_ble_eq_true rfl⟩ dL_law_683 (fun r3 τ4 H locs h hPm hDm hPx hS => ?_)
      refine lv_icmp_eq (tgt := 1121) hx hb dL_law_686 (by decide) (fun hc => ?_) (fun hc => ?_)
      · have h := h.1 hc
        obtain ⟨v5, ev5⟩ : ∃ z : Int32, z = x3 + (6 : Int32) := ⟨_, rfl⟩
        have h := h v5 ev5
        refine lv_iinc (v := v5) (lv' := [(3, .int v5), (0, .ref b), (1, .ref (adx 0)), (2, .ref (adm 0))]) hx hb dL_law_1121 hl (k := 3) rfl (by rw [ev5]; rfl) (by decide) rfl (fun ls hl => ?_)
        refine lv_goto (tgt := 18) hx hb dL_law_1124 (by decide) ?_
        exact hk_18 v5 τ2 τ4 _ _ _ h hPx hDx hPm hDm hS (lv_sub hl [1, 2, 3, 0] rfl)
      · have h := h.2 hc
        refine lv_iconst (v := (0 : Int32)) hx hb dL_law_689 (by decide) ?_
        exact h.elim
    · have h := h.2 hc
      refine lv_iconst (v := (1 : Int32)) hx hb dL_law_678 (by decide) ?_
      refine lv_goto (tgt := 683) hx hb dL_law_679 (by decide) ?_
      refine zlm_i [.int (xs (x3 + (1 : Int32)).toNatClampNeg), .int (1 : Int32)] ⟨hx, hb, hml, hown, hts⟩ (c_X12_all N l dC dI adm cI cJ cC _ μ (xs (x3 + (1 : Int32)).toNatClampNeg) (1 : Int32) _ h) (cw_X12_all hts mw_1222 rfl rfl ⟨Nat.le_of_ble_eq_true rfl, Nat.le_of_ble_eq_true rfl⟩) rfl rfl hK hPm hDm hPx hdis' hS rfl hl.1 (rest := [.int r1]) (Nat.le_of_ble_eq_true rfl) rfl ⟨Nat.le_of_ble_eq_true rfl, Nat.le_of_ble_eq_true rfl⟩ dL_law_683 (fun r6 τ7 H locs h hPm hDm hPx hS => ?_)
      refine lv_icmp_eq (tgt := 1121) hx hb dL_law_686 (by decide) (fun hc => ?_) (fun hc => ?_)
      · have h := h.1 hc
        obtain ⟨v8, ev8⟩ : ∃ z : Int32, z = x3 + (6 : Int32) := ⟨_, rfl⟩
        have h := h v8 ev8
        refine lv_iinc (v := v8) (lv' := [(3, .int v8), (0, .ref b), (1, .ref (adx 0)), (2, .ref (adm 0))]) hx hb dL_law_1121 hl (k := 3) rfl (by rw [ev8]; rfl) (by decide) rfl (fun ls hl => ?_)
        refine lv_goto (tgt := 18) hx hb dL_law_1124 (by decide) ?_
        exact hk_18 v8 τ2 τ7 _ _ _ h hPx hDx hPm hDm hS (lv_sub hl [1, 2, 3, 0] rfl)
      · have h := h.2 hc
        refine lv_iconst (v := (0 : Int32)) hx hb dL_law_689 (by decide) ?_
        exact h.elim
  · have h := h.2 hc
    refine lv_iconst (v := (1 : Int32)) hx hb dL_law_656 (by decide) ?_
    refine lv_goto (tgt := 661) hx hb dL_law_657 (by decide) ?_
    refine zlx_i [.int (xs (x3 + (1 : Int32)).toNatClampNeg), .int (1 : Int32)] ⟨hx, hb, hml, hown, hts⟩ (c_X11_all N l dC dI adx cI cJ _ σ (xs (x3 + (1 : Int32)).toNatClampNeg) (1 : Int32) _ h) (cw_X11_all hts mw_696 rfl rfl ⟨Nat.le_of_ble_eq_true rfl, Nat.le_of_ble_eq_true rfl⟩) rfl rfl hKx hPx hDx hPm hdis hS rfl hl.1 (rest := []) (Nat.le_of_ble_eq_true rfl) rfl ⟨Nat.le_of_ble_eq_true rfl, Nat.le_of_ble_eq_true rfl⟩ dL_law_661 (fun r9 τ10 H locs h hPx hDx hPm hS => ?_)
    refine lv_aload_n hx hb dL_law_664 rfl (lv_at hl 2 rfl) ?_
    refine lv_aload_n hx hb dL_law_665 rfl (lv_at hl 0 rfl) ?_
    refine lv_iload_n hx hb dL_law_666 rfl (lv_at hl 3 rfl) ?_
    refine lv_iconst (v := (1 : Int32)) hx hb dL_law_667 (by decide) ?_
    refine lv_iadd hx hb dL_law_668 ?_
    refine va_sld hx hb hX hbl hbA hS h.1 dL_law_669 ?_
    have h := h.2
    refine lv_aload_n hx hb dL_law_670 rfl (lv_at hl 0 rfl) ?_
    refine lv_iload_n hx hb dL_law_671 rfl (lv_at hl 3 rfl) ?_
    refine lv_iconst (v := (2 : Int32)) hx hb dL_law_672 (by decide) ?_
    refine lv_iadd hx hb dL_law_673 ?_
    refine va_sld hx hb hX hbl hbA hS h.1 dL_law_674 ?_
    have h := h.2
    refine lv_if_eq (tgt := 682) hx hb dL_law_675 (by decide) (fun hc => ?_) (fun hc => ?_)
    · have h := h.1 hc
      refine lv_iconst (v := (0 : Int32)) hx hb dL_law_682 (by decide) ?_
      refine zlm_i [.int (xs (x3 + (1 : Int32)).toNatClampNeg), .int (0 : Int32)] ⟨hx, hb, hml, hown, hts⟩ (c_X12_all N l dC dI adm cI cJ cC _ μ (xs (x3 + (1 : Int32)).toNatClampNeg) (0 : Int32) _ h) (cw_X12_all hts mw_1222 rfl rfl ⟨Nat.le_of_ble_eq_true rfl, Nat.le_of_ble_eq_true rfl⟩) rfl rfl hK hPm hDm hPx hdis' hS rfl hl.1 (rest := [.int r9]) (Nat.le_of_ble_eq_true rfl) rfl ⟨Nat.le_of_ble_eq_true rfl, Nat.le_of_ble_eq_true rfl⟩ dL_law_683 (fun r11 τ12 H locs h hPm hDm hPx hS => ?_)
      refine lv_icmp_eq (tgt := 1121) hx hb dL_law_686 (by decide) (fun hc => ?_) (fun hc => ?_)
      · have h := h.1 hc
        obtain ⟨v13, ev13⟩ : ∃ z : Int32, z = x3 + (6 : Int32) := ⟨_, rfl⟩
        have h := h v13 ev13
        refine lv_iinc (v := v13) (lv' := [(3, .int v13), (0, .ref b), (1, .ref (adx 0)), (2, .ref (adm 0))]) hx hb dL_law_1121 hl (k := 3) rfl (by rw [ev13]; rfl) (by decide) rfl (fun ls hl => ?_)
        refine lv_goto (tgt := 18) hx hb dL_law_1124 (by decide) ?_
        exact hk_18 v13 τ10 τ12 _ _ _ h hPx hDx hPm hDm hS (lv_sub hl [1, 2, 3, 0] rfl)
      · have h := h.2 hc
        refine lv_iconst (v := (0 : Int32)) hx hb dL_law_689 (by decide) ?_
        exact h.elim
    · have h := h.2 hc
      refine lv_iconst (v := (1 : Int32)) hx hb dL_law_678 (by decide) ?_
      refine lv_goto (tgt := 683) hx hb dL_law_679 (by decide) ?_
      refine zlm_i [.int (xs (x3 + (1 : Int32)).toNatClampNeg), .int (1 : Int32)] ⟨hx, hb, hml, hown, hts⟩ (c_X12_all N l dC dI adm cI cJ cC _ μ (xs (x3 + (1 : Int32)).toNatClampNeg) (1 : Int32) _ h) (cw_X12_all hts mw_1222 rfl rfl ⟨Nat.le_of_ble_eq_true rfl, Nat.le_of_ble_eq_true rfl⟩) rfl rfl hK hPm hDm hPx hdis' hS rfl hl.1 (rest := [.int r9]) (Nat.le_of_ble_eq_true rfl) rfl ⟨Nat.le_of_ble_eq_true rfl, Nat.le_of_ble_eq_true rfl⟩ dL_law_683 (fun r14 τ15 H locs h hPm hDm hPx hS => ?_)
      refine lv_icmp_eq (tgt := 1121) hx hb dL_law_686 (by decide) (fun hc => ?_) (fun hc => ?_)
      · have h := h.1 hc
        obtain ⟨v16, ev16⟩ : ∃ z : Int32, z = x3 + (6 : Int32) := ⟨_, rfl⟩
        have h := h v16 ev16
        refine lv_iinc (v := v16) (lv' := [(3, .int v16), (0, .ref b), (1, .ref (adx 0)), (2, .ref (adm 0))]) hx hb dL_law_1121 hl (k := 3) rfl (by rw [ev16]; rfl) (by decide) rfl (fun ls hl => ?_)
        refine lv_goto (tgt := 18) hx hb dL_law_1124 (by decide) ?_
        exact hk_18 v16 τ10 τ15 _ _ _ h hPx hDx hPm hDm hS (lv_sub hl [1, 2, 3, 0] rfl)
      · have h := h.2 hc
        refine lv_iconst (v := (0 : Int32)) hx hb dL_law_689 (by decide) ?_
        exact h.elim
set_option maxHeartbeats 4000000 in
set_option maxRecDepth 100000 in
theorem t_law_691 (C0 : lw_At p s m meth c b L xs) (hK : va_K (dC, dI) vwCl (m_ty cI cJ cC) s) (hdis : ∀ j k, j < x_n → k < m_n → adx j ≠ adm k) (N : Nat) {k_18 : Int32 → zSt → zSt → Prop} (hk_18 : ∀ (x3 : Int32) (σ μ : zSt) (H : Heap) (locs : List Loc) (ls : Array Slot), k_18 x3 σ μ → va_P (dC, dI) vwCl (x_W adx cI cJ σ) H → va_D (fun q : Nat => s.heap.size ≤ q) (x_W adx cI cJ σ) → va_P (dC, dI) vwCl (m_W adm cI cJ cC μ) H → va_D (fun q : Nat => s.heap.size ≤ q) (m_W adm cI cJ cC μ) → va_S (fun q : Nat => s.heap.size ≤ q) s.heap H locs → lv_has ls 4 [(0, .ref b), (1, .ref (adx 0)), (2, .ref (adm 0)), (3, .int x3)] → W p l e room_1 s m #[Value.ref b] below meth c H locs 108 37792 (lw_Z below #[Value.ref b] s) (F0 m 18 ls [])) : ∀ (x3 : Int32) (σ μ : zSt) (H : Heap) (locs : List Loc) (ls : Array Slot), b_law_691 N k_18 L xs x3 σ μ → va_P (dC, dI) vwCl (x_W adx cI cJ σ) H → va_D (fun q : Nat => s.heap.size ≤ q) (x_W adx cI cJ σ) → va_P (dC, dI) vwCl (m_W adm cI cJ cC μ) H → va_D (fun q : Nat => s.heap.size ≤ q) (m_W adm cI cJ cC μ) → va_S (fun q : Nat => s.heap.size ≤ q) s.heap H locs → lv_has ls 4 [(0, .ref b), (1, .ref (adx 0)), (2, .ref (adm 0)), (3, .int x3)] → W p l e room_1 s m #[Value.ref b] below meth c H locs 108 37792 (lw_Z below #[Value.ref b] s) (F0 m 691 ls []) := by
  obtain ⟨hx, hb, hr, hml, hown, hts0, hX, hbl, hlocks, hgv⟩ := id C0
  have hts := lw_hts hts0
  have hbA : ¬ (fun q : Nat => s.heap.size ≤ q) b := Nat.not_le.mpr hbl
  have hKx := hK.sub (tys' := x_ty cI cJ) [0, 1] rfl
  have hdis' : ∀ j k, j < m_n → k < x_n → adm j ≠ adx k := fun j k h1 h2 h3 => hdis k j h2 h1 h3.symm
  intro x3 σ μ H locs ls h hPx hDx hPm hDm hS hl
  unfold b_law_691 at h
  refine lv_aload_n hx hb dL_law_691 rfl (lv_at hl 1 rfl) ?_
  refine lv_aload_n hx hb dL_law_692 rfl (lv_at hl 0 rfl) ?_
  refine lv_iload_n hx hb dL_law_693 rfl (lv_at hl 3 rfl) ?_
  refine lv_iconst (v := (1 : Int32)) hx hb dL_law_694 (by decide) ?_
  refine lv_iadd hx hb dL_law_695 ?_
  refine va_sld hx hb hX hbl hbA hS h.1 dL_law_696 ?_
  have h := h.2
  refine zlx_l [.int (xs (x3 + (1 : Int32)).toNatClampNeg)] ⟨hx, hb, hml, hown, hts⟩ (c_X11_one N l dC dI adx cI cJ _ σ (xs (x3 + (1 : Int32)).toNatClampNeg) _ h) (cw_X11_one hts mw_730 rfl rfl ⟨Nat.le_of_ble_eq_true rfl, Nat.le_of_ble_eq_true rfl⟩) rfl rfl hKx hPx hDx hPm hdis hS rfl hl.1 (rest := []) (Nat.le_of_ble_eq_true rfl) rfl ⟨Nat.le_of_ble_eq_true rfl, Nat.le_of_ble_eq_true rfl⟩ dL_law_697 (fun r1 τ2 H locs h hPx hDx hPm hS => ?_)
  refine lv_aload_n hx hb dL_law_700 rfl (lv_at hl 2 rfl) ?_
  refine lv_aload_n hx hb dL_law_701 rfl (lv_at hl 0 rfl) ?_
  refine lv_iload_n hx hb dL_law_702 rfl (lv_at hl 3 rfl) ?_
  refine lv_iconst (v := (1 : Int32)) hx hb dL_law_703 (by decide) ?_
  refine lv_iadd hx hb dL_law_704 ?_
  refine va_sld hx hb hX hbl hbA hS h.1 dL_law_705 ?_
  have h := h.2
  refine zlm_l [.int (xs (x3 + (1 : Int32)).toNatClampNeg)] ⟨hx, hb, hml, hown, hts⟩ (c_X12_one N l dC dI adm cI cJ cC _ μ (xs (x3 + (1 : Int32)).toNatClampNeg) _ h) (cw_X12_one hts mw_1242 rfl rfl ⟨Nat.le_of_ble_eq_true rfl, Nat.le_of_ble_eq_true rfl⟩) rfl rfl hK hPm hDm hPx hdis' hS rfl hl.1 (rest := [.long r1]) (Nat.le_of_ble_eq_true rfl) rfl ⟨Nat.le_of_ble_eq_true rfl, Nat.le_of_ble_eq_true rfl⟩ dL_law_706 (fun r3 τ4 H locs h hPm hDm hPx hS => ?_)
  refine W.lcmp hx hb dL_law_709 ?_
  refine lv_if_eq (tgt := 1121) hx hb dL_law_710 (by decide) (fun hc => ?_) (fun hc => ?_)
  · have h := h.1 hc
    obtain ⟨v5, ev5⟩ : ∃ z : Int32, z = x3 + (6 : Int32) := ⟨_, rfl⟩
    have h := h v5 ev5
    refine lv_iinc (v := v5) (lv' := [(3, .int v5), (0, .ref b), (1, .ref (adx 0)), (2, .ref (adm 0))]) hx hb dL_law_1121 hl (k := 3) rfl (by rw [ev5]; rfl) (by decide) rfl (fun ls hl => ?_)
    refine lv_goto (tgt := 18) hx hb dL_law_1124 (by decide) ?_
    exact hk_18 v5 τ2 τ4 _ _ _ h hPx hDx hPm hDm hS (lv_sub hl [1, 2, 3, 0] rfl)
  · have h := h.2 hc
    refine lv_iconst (v := (0 : Int32)) hx hb dL_law_713 (by decide) ?_
    exact h.elim
set_option maxHeartbeats 4000000 in
set_option maxRecDepth 100000 in
theorem t_law_715 (C0 : lw_At p s m meth c b L xs) (hK : va_K (dC, dI) vwCl (m_ty cI cJ cC) s) (hdis : ∀ j k, j < x_n → k < m_n → adx j ≠ adm k) (N : Nat) {k_18 : Int32 → zSt → zSt → Prop} (hk_18 : ∀ (x3 : Int32) (σ μ : zSt) (H : Heap) (locs : List Loc) (ls : Array Slot), k_18 x3 σ μ → va_P (dC, dI) vwCl (x_W adx cI cJ σ) H → va_D (fun q : Nat => s.heap.size ≤ q) (x_W adx cI cJ σ) → va_P (dC, dI) vwCl (m_W adm cI cJ cC μ) H → va_D (fun q : Nat => s.heap.size ≤ q) (m_W adm cI cJ cC μ) → va_S (fun q : Nat => s.heap.size ≤ q) s.heap H locs → lv_has ls 4 [(0, .ref b), (1, .ref (adx 0)), (2, .ref (adm 0)), (3, .int x3)] → W p l e room_1 s m #[Value.ref b] below meth c H locs 108 37792 (lw_Z below #[Value.ref b] s) (F0 m 18 ls [])) : ∀ (x3 : Int32) (σ μ : zSt) (H : Heap) (locs : List Loc) (ls : Array Slot), b_law_715 N k_18 L xs x3 σ μ → va_P (dC, dI) vwCl (x_W adx cI cJ σ) H → va_D (fun q : Nat => s.heap.size ≤ q) (x_W adx cI cJ σ) → va_P (dC, dI) vwCl (m_W adm cI cJ cC μ) H → va_D (fun q : Nat => s.heap.size ≤ q) (m_W adm cI cJ cC μ) → va_S (fun q : Nat => s.heap.size ≤ q) s.heap H locs → lv_has ls 4 [(0, .ref b), (1, .ref (adx 0)), (2, .ref (adm 0)), (3, .int x3)] → W p l e room_1 s m #[Value.ref b] below meth c H locs 108 37792 (lw_Z below #[Value.ref b] s) (F0 m 715 ls []) := by
  obtain ⟨hx, hb, hr, hml, hown, hts0, hX, hbl, hlocks, hgv⟩ := id C0
  have hts := lw_hts hts0
  have hbA : ¬ (fun q : Nat => s.heap.size ≤ q) b := Nat.not_le.mpr hbl
  have hKx := hK.sub (tys' := x_ty cI cJ) [0, 1] rfl
  have hdis' : ∀ j k, j < m_n → k < x_n → adm j ≠ adx k := fun j k h1 h2 h3 => hdis k j h2 h1 h3.symm
  intro x3 σ μ H locs ls h hPx hDx hPm hDm hS hl
  unfold b_law_715 at h
  refine lv_aload_n hx hb dL_law_715 rfl (lv_at hl 1 rfl) ?_
  refine zlx_l [] ⟨hx, hb, hml, hown, hts⟩ (c_X11_best N l dC dI adx cI cJ _ σ  _ h) (cw_X11_best hts mw_738 rfl rfl ⟨Nat.le_of_ble_eq_true rfl, Nat.le_of_ble_eq_true rfl⟩) rfl rfl hKx hPx hDx hPm hdis hS rfl hl.1 (rest := []) (Nat.le_of_ble_eq_true rfl) rfl ⟨Nat.le_of_ble_eq_true rfl, Nat.le_of_ble_eq_true rfl⟩ dL_law_716 (fun r1 τ2 H locs h hPx hDx hPm hS => ?_)
  refine lv_aload_n hx hb dL_law_719 rfl (lv_at hl 2 rfl) ?_
  refine zlm_l [] ⟨hx, hb, hml, hown, hts⟩ (c_X12_best N l dC dI adm cI cJ cC _ μ  _ h) (cw_X12_best hts mw_1246 rfl rfl ⟨Nat.le_of_ble_eq_true rfl, Nat.le_of_ble_eq_true rfl⟩) rfl rfl hK hPm hDm hPx hdis' hS rfl hl.1 (rest := [.long r1]) (Nat.le_of_ble_eq_true rfl) rfl ⟨Nat.le_of_ble_eq_true rfl, Nat.le_of_ble_eq_true rfl⟩ dL_law_720 (fun r3 τ4 H locs h hPm hDm hPx hS => ?_)
  refine W.lcmp hx hb dL_law_723 ?_
  refine lv_if_eq (tgt := 1121) hx hb dL_law_724 (by decide) (fun hc => ?_) (fun hc => ?_)
  · have h := h.1 hc
    obtain ⟨v5, ev5⟩ : ∃ z : Int32, z = x3 + (6 : Int32) := ⟨_, rfl⟩
    have h := h v5 ev5
    refine lv_iinc (v := v5) (lv' := [(3, .int v5), (0, .ref b), (1, .ref (adx 0)), (2, .ref (adm 0))]) hx hb dL_law_1121 hl (k := 3) rfl (by rw [ev5]; rfl) (by decide) rfl (fun ls hl => ?_)
    refine lv_goto (tgt := 18) hx hb dL_law_1124 (by decide) ?_
    exact hk_18 v5 τ2 τ4 _ _ _ h hPx hDx hPm hDm hS (lv_sub hl [1, 2, 3, 0] rfl)
  · have h := h.2 hc
    refine lv_iconst (v := (0 : Int32)) hx hb dL_law_727 (by decide) ?_
    exact h.elim
set_option maxHeartbeats 4000000 in
set_option maxRecDepth 100000 in
theorem t_law_729 (C0 : lw_At p s m meth c b L xs) (hK : va_K (dC, dI) vwCl (m_ty cI cJ cC) s) (hdis : ∀ j k, j < x_n → k < m_n → adx j ≠ adm k) (N : Nat) {k_18 : Int32 → zSt → zSt → Prop} (hk_18 : ∀ (x3 : Int32) (σ μ : zSt) (H : Heap) (locs : List Loc) (ls : Array Slot), k_18 x3 σ μ → va_P (dC, dI) vwCl (x_W adx cI cJ σ) H → va_D (fun q : Nat => s.heap.size ≤ q) (x_W adx cI cJ σ) → va_P (dC, dI) vwCl (m_W adm cI cJ cC μ) H → va_D (fun q : Nat => s.heap.size ≤ q) (m_W adm cI cJ cC μ) → va_S (fun q : Nat => s.heap.size ≤ q) s.heap H locs → lv_has ls 4 [(0, .ref b), (1, .ref (adx 0)), (2, .ref (adm 0)), (3, .int x3)] → W p l e room_1 s m #[Value.ref b] below meth c H locs 108 37792 (lw_Z below #[Value.ref b] s) (F0 m 18 ls [])) : ∀ (x3 : Int32) (σ μ : zSt) (H : Heap) (locs : List Loc) (ls : Array Slot), b_law_729 N k_18 L xs x3 σ μ → va_P (dC, dI) vwCl (x_W adx cI cJ σ) H → va_D (fun q : Nat => s.heap.size ≤ q) (x_W adx cI cJ σ) → va_P (dC, dI) vwCl (m_W adm cI cJ cC μ) H → va_D (fun q : Nat => s.heap.size ≤ q) (m_W adm cI cJ cC μ) → va_S (fun q : Nat => s.heap.size ≤ q) s.heap H locs → lv_has ls 4 [(0, .ref b), (1, .ref (adx 0)), (2, .ref (adm 0)), (3, .int x3)] → W p l e room_1 s m #[Value.ref b] below meth c H locs 108 37792 (lw_Z below #[Value.ref b] s) (F0 m 729 ls []) := by
  obtain ⟨hx, hb, hr, hml, hown, hts0, hX, hbl, hlocks, hgv⟩ := id C0
  have hts := lw_hts hts0
  have hbA : ¬ (fun q : Nat => s.heap.size ≤ q) b := Nat.not_le.mpr hbl
  have hKx := hK.sub (tys' := x_ty cI cJ) [0, 1] rfl
  have hdis' : ∀ j k, j < m_n → k < x_n → adm j ≠ adx k := fun j k h1 h2 h3 => hdis k j h2 h1 h3.symm
  intro x3 σ μ H locs ls h hPx hDx hPm hDm hS hl
  unfold b_law_729 at h
  refine lv_aload_n hx hb dL_law_729 rfl (lv_at hl 1 rfl) ?_
  refine lv_aload_n hx hb dL_law_730 rfl (lv_at hl 0 rfl) ?_
  refine lv_iload_n hx hb dL_law_731 rfl (lv_at hl 3 rfl) ?_
  refine lv_iconst (v := (1 : Int32)) hx hb dL_law_732 (by decide) ?_
  refine lv_iadd hx hb dL_law_733 ?_
  refine va_sld hx hb hX hbl hbA hS h.1 dL_law_734 ?_
  have h := h.2
  refine lv_aload_n hx hb dL_law_735 rfl (lv_at hl 0 rfl) ?_
  refine lv_iload_n hx hb dL_law_736 rfl (lv_at hl 3 rfl) ?_
  refine lv_iconst (v := (2 : Int32)) hx hb dL_law_737 (by decide) ?_
  refine lv_iadd hx hb dL_law_738 ?_
  refine va_sld hx hb hX hbl hbA hS h.1 dL_law_739 ?_
  have h := h.2
  refine lv_if_eq (tgt := 747) hx hb dL_law_740 (by decide) (fun hc => ?_) (fun hc => ?_)
  · have h := h.1 hc
    refine lv_iconst (v := (0 : Int32)) hx hb dL_law_747 (by decide) ?_
    refine zlx_l [.int (xs (x3 + (1 : Int32)).toNatClampNeg), .int (0 : Int32)] ⟨hx, hb, hml, hown, hts⟩ (c_X11_loss N l dC dI adx cI cJ _ σ (xs (x3 + (1 : Int32)).toNatClampNeg) (0 : Int32) _ h) (cw_X11_loss hts mw_745 rfl rfl ⟨Nat.le_of_ble_eq_true rfl, Nat.le_of_ble_eq_true rfl⟩) rfl rfl hKx hPx hDx hPm hdis hS rfl hl.1 (rest := []) (Nat.le_of_ble_eq_true rfl) rfl ⟨Nat.le_of_ble_eq_true rfl, Nat.le_of_ble_eq_true rfl⟩ dL_law_748 (fun r1 τ2 H locs h hPx hDx hPm hS => ?_)
    refine lv_aload_n hx hb dL_law_751 rfl (lv_at hl 2 rfl) ?_
    refine lv_aload_n hx hb dL_law_752 rfl (lv_at hl 0 rfl) ?_
    refine lv_iload_n hx hb dL_law_753 rfl (lv_at hl 3 rfl) ?_
    refine lv_iconst (v := (1 : Int32)) hx hb dL_law_754 (by decide) ?_
    refine lv_iadd hx hb dL_law_755 ?_
    refine va_sld hx hb hX hbl hbA hS h.1 dL_law_756 ?_
    have h := h.2
    refine lv_aload_n hx hb dL_law_757 rfl (lv_at hl 0 rfl) ?_
    refine lv_iload_n hx hb dL_law_758 rfl (lv_at hl 3 rfl) ?_
    refine lv_iconst (v := (2 : Int32)) hx hb dL_law_759 (by decide) ?_
    refine lv_iadd hx hb dL_law_760 ?_
    refine va_sld hx hb hX hbl hbA hS h.1 dL_law_761 ?_
    have h := h.2
    refine lv_if_eq (tgt := 769) hx hb dL_law_762 (by decide) (fun hc => ?_) (fun hc => ?_)
    · have h := h.1 hc
      refine lv_iconst (v := (0 : Int32)) hx hb dL_law_769 (by decide) ?_
      refine zlm_l [.int (xs (x3 + (1 : Int32)).toNatClampNeg), .int (0 : Int32)] ⟨hx, hb, hml, hown, hts⟩ (c_X12_loss N l dC dI adm cI cJ cC _ μ (xs (x3 + (1 : Int32)).toNatClampNeg) (0 : Int32) _ h) (cw_X12_loss hts mw_1250 rfl rfl ⟨Nat.le_of_ble_eq_true rfl, Nat.le_of_ble_eq_true rfl⟩) rfl rfl hK hPm hDm hPx hdis' hS rfl hl.1 (rest := [.long r1]) (Nat.le_of_ble_eq_true rfl) rfl ⟨Nat.le_of_ble_eq_true rfl, Nat.le_of_ble_eq_true rfl⟩ dL_law_770 (fun r3 τ4 H locs h hPm hDm hPx hS => ?_)
      refine W.lcmp hx hb dL_law_773 ?_
      refine lv_if_eq (tgt := 1121) hx hb dL_law_774 (by decide) (fun hc => ?_) (fun hc => ?_)
      · have h := h.1 hc
        obtain ⟨v5, ev5⟩ : ∃ z : Int32, z = x3 + (6 : Int32) := ⟨_, rfl⟩
        have h := h v5 ev5
        refine lv_iinc (v := v5) (lv' := [(3, .int v5), (0, .ref b), (1, .ref (adx 0)), (2, .ref (adm 0))]) hx hb dL_law_1121 hl (k := 3) rfl (by rw [ev5]; rfl) (by decide) rfl (fun ls hl => ?_)
        refine lv_goto (tgt := 18) hx hb dL_law_1124 (by decide) ?_
        exact hk_18 v5 τ2 τ4 _ _ _ h hPx hDx hPm hDm hS (lv_sub hl [1, 2, 3, 0] rfl)
      · have h := h.2 hc
        refine lv_iconst (v := (0 : Int32)) hx hb dL_law_777 (by decide) ?_
        exact h.elim
    · have h := h.2 hc
      refine lv_iconst (v := (1 : Int32)) hx hb dL_law_765 (by decide) ?_
      refine lv_goto (tgt := 770) hx hb dL_law_766 (by decide) ?_
      refine zlm_l [.int (xs (x3 + (1 : Int32)).toNatClampNeg), .int (1 : Int32)] ⟨hx, hb, hml, hown, hts⟩ (c_X12_loss N l dC dI adm cI cJ cC _ μ (xs (x3 + (1 : Int32)).toNatClampNeg) (1 : Int32) _ h) (cw_X12_loss hts mw_1250 rfl rfl ⟨Nat.le_of_ble_eq_true rfl, Nat.le_of_ble_eq_true rfl⟩) rfl rfl hK hPm hDm hPx hdis' hS rfl hl.1 (rest := [.long r1]) (Nat.le_of_ble_eq_true rfl) rfl ⟨Nat.le_of_ble_eq_true rfl, Nat.le_of_ble_eq_true rfl⟩ dL_law_770 (fun r6 τ7 H locs h hPm hDm hPx hS => ?_)
      refine W.lcmp hx hb dL_law_773 ?_
      refine lv_if_eq (tgt := 1121) hx hb dL_law_774 (by decide) (fun hc => ?_) (fun hc => ?_)
      · have h := h.1 hc
        obtain ⟨v8, ev8⟩ : ∃ z : Int32, z = x3 + (6 : Int32) := ⟨_, rfl⟩
        have h := h v8 ev8
        refine lv_iinc (v := v8) (lv' := [(3, .int v8), (0, .ref b), (1, .ref (adx 0)), (2, .ref (adm 0))]) hx hb dL_law_1121 hl (k := 3) rfl (by rw [ev8]; rfl) (by decide) rfl (fun ls hl => ?_)
        refine lv_goto (tgt := 18) hx hb dL_law_1124 (by decide) ?_
        exact hk_18 v8 τ2 τ7 _ _ _ h hPx hDx hPm hDm hS (lv_sub hl [1, 2, 3, 0] rfl)
      · have h := h.2 hc
        refine lv_iconst (v := (0 : Int32)) hx hb dL_law_777 (by decide) ?_
        exact h.elim
  · have h := h.2 hc
    refine lv_iconst (v := (1 : Int32)) hx hb dL_law_743 (by decide) ?_
    refine lv_goto (tgt := 748) hx hb dL_law_744 (by decide) ?_
    refine zlx_l [.int (xs (x3 + (1 : Int32)).toNatClampNeg), .int (1 : Int32)] ⟨hx, hb, hml, hown, hts⟩ (c_X11_loss N l dC dI adx cI cJ _ σ (xs (x3 + (1 : Int32)).toNatClampNeg) (1 : Int32) _ h) (cw_X11_loss hts mw_745 rfl rfl ⟨Nat.le_of_ble_eq_true rfl, Nat.le_of_ble_eq_true rfl⟩) rfl rfl hKx hPx hDx hPm hdis hS rfl hl.1 (rest := []) (Nat.le_of_ble_eq_true rfl) rfl ⟨Nat.le_of_ble_eq_true rfl, Nat.le_of_ble_eq_true rfl⟩ dL_law_748 (fun r9 τ10 H locs h hPx hDx hPm hS => ?_)
    refine lv_aload_n hx hb dL_law_751 rfl (lv_at hl 2 rfl) ?_
    refine lv_aload_n hx hb dL_law_752 rfl (lv_at hl 0 rfl) ?_
    refine lv_iload_n hx hb dL_law_753 rfl (lv_at hl 3 rfl) ?_
    refine lv_iconst (v := (1 : Int32)) hx hb dL_law_754 (by decide) ?_
    refine lv_iadd hx hb dL_law_755 ?_
    refine va_sld hx hb hX hbl hbA hS h.1 dL_law_756 ?_
    have h := h.2
    refine lv_aload_n hx hb dL_law_757 rfl (lv_at hl 0 rfl) ?_
    refine lv_iload_n hx hb dL_law_758 rfl (lv_at hl 3 rfl) ?_
    refine lv_iconst (v := (2 : Int32)) hx hb dL_law_759 (by decide) ?_
    refine lv_iadd hx hb dL_law_760 ?_
    refine va_sld hx hb hX hbl hbA hS h.1 dL_law_761 ?_
    have h := h.2
    refine lv_if_eq (tgt := 769) hx hb dL_law_762 (by decide) (fun hc => ?_) (fun hc => ?_)
    · have h := h.1 hc
      refine lv_iconst (v := (0 : Int32)) hx hb dL_law_769 (by decide) ?_
      refine zlm_l [.int (xs (x3 + (1 : Int32)).toNatClampNeg), .int (0 : Int32)] ⟨hx, hb, hml, hown, hts⟩ (c_X12_loss N l dC dI adm cI cJ cC _ μ (xs (x3 + (1 : Int32)).toNatClampNeg) (0 : Int32) _ h) (cw_X12_loss hts mw_1250 rfl rfl ⟨Nat.le_of_ble_eq_true rfl, Nat.le_of_ble_eq_true rfl⟩) rfl rfl hK hPm hDm hPx hdis' hS rfl hl.1 (rest := [.long r9]) (Nat.le_of_ble_eq_true rfl) rfl ⟨Nat.le_of_ble_eq_true rfl, Nat.le_of_ble_eq_true rfl⟩ dL_law_770 (fun r11 τ12 H locs h hPm hDm hPx hS => ?_)
      refine W.lcmp hx hb dL_law_773 ?_
      refine lv_if_eq (tgt := 1121) hx hb dL_law_774 (by decide) (fun hc => ?_) (fun hc => ?_)
      · have h := h.1 hc
        obtain ⟨v13, ev13⟩ : ∃ z : Int32, z = x3 + (6 : Int32) := ⟨_, rfl⟩
        have h := h v13 ev13
        refine lv_iinc (v := v13) (lv' := [(3, .int v13), (0, .ref b), (1, .ref (adx 0)), (2, .ref (adm 0))]) hx hb dL_law_1121 hl (k := 3) rfl (by rw [ev13]; rfl) (by decide) rfl (fun ls hl => ?_)
        refine lv_goto (tgt := 18) hx hb dL_law_1124 (by decide) ?_
        exact hk_18 v13 τ10 τ12 _ _ _ h hPx hDx hPm hDm hS (lv_sub hl [1, 2, 3, 0] rfl)
      · have h := h.2 hc
        refine lv_iconst (v := (0 : Int32)) hx hb dL_law_777 (by decide) ?_
        exact h.elim
    · have h := h.2 hc
      refine lv_iconst (v := (1 : Int32)) hx hb dL_law_765 (by decide) ?_
      refine lv_goto (tgt := 770) hx hb dL_law_766 (by decide) ?_
      refine zlm_l [.int (xs (x3 + (1 : Int32)).toNatClampNeg), .int (1 : Int32)] ⟨hx, hb, hml, hown, hts⟩ (c_X12_loss N l dC dI adm cI cJ cC _ μ (xs (x3 + (1 : Int32)).toNatClampNeg) (1 : Int32) _ h) (cw_X12_loss hts mw_1250 rfl rfl ⟨Nat.le_of_ble_eq_true rfl, Nat.le_of_ble_eq_true rfl⟩) rfl rfl hK hPm hDm hPx hdis' hS rfl hl.1 (rest := [.long r9]) (Nat.le_of_ble_eq_true rfl) rfl ⟨Nat.le_of_ble_eq_true rfl, Nat.le_of_ble_eq_true rfl⟩ dL_law_770 (fun r14 τ15 H locs h hPm hDm hPx hS => ?_)
      refine W.lcmp hx hb dL_law_773 ?_
      refine lv_if_eq (tgt := 1121) hx hb dL_law_774 (by decide) (fun hc => ?_) (fun hc => ?_)
      · have h := h.1 hc
        obtain ⟨v16, ev16⟩ : ∃ z : Int32, z = x3 + (6 : Int32) := ⟨_, rfl⟩
        have h := h v16 ev16
        refine lv_iinc (v := v16) (lv' := [(3, .int v16), (0, .ref b), (1, .ref (adx 0)), (2, .ref (adm 0))]) hx hb dL_law_1121 hl (k := 3) rfl (by rw [ev16]; rfl) (by decide) rfl (fun ls hl => ?_)
        refine lv_goto (tgt := 18) hx hb dL_law_1124 (by decide) ?_
        exact hk_18 v16 τ10 τ15 _ _ _ h hPx hDx hPm hDm hS (lv_sub hl [1, 2, 3, 0] rfl)
      · have h := h.2 hc
        refine lv_iconst (v := (0 : Int32)) hx hb dL_law_777 (by decide) ?_
        exact h.elim
set_option maxHeartbeats 4000000 in
set_option maxRecDepth 100000 in
theorem t_law_779 (C0 : lw_At p s m meth c b L xs) (hK : va_K (dC, dI) vwCl (m_ty cI cJ cC) s) (hdis : ∀ j k, j < x_n → k < m_n → adx j ≠ adm k) (N : Nat) {k_18 : Int32 → zSt → zSt → Prop} (hk_18 : ∀ (x3 : Int32) (σ μ : zSt) (H : Heap) (locs : List Loc) (ls : Array Slot), k_18 x3 σ μ → va_P (dC, dI) vwCl (x_W adx cI cJ σ) H → va_D (fun q : Nat => s.heap.size ≤ q) (x_W adx cI cJ σ) → va_P (dC, dI) vwCl (m_W adm cI cJ cC μ) H → va_D (fun q : Nat => s.heap.size ≤ q) (m_W adm cI cJ cC μ) → va_S (fun q : Nat => s.heap.size ≤ q) s.heap H locs → lv_has ls 4 [(0, .ref b), (1, .ref (adx 0)), (2, .ref (adm 0)), (3, .int x3)] → W p l e room_1 s m #[Value.ref b] below meth c H locs 108 37792 (lw_Z below #[Value.ref b] s) (F0 m 18 ls [])) : ∀ (x3 : Int32) (σ μ : zSt) (H : Heap) (locs : List Loc) (ls : Array Slot), b_law_779 N k_18 L xs x3 σ μ → va_P (dC, dI) vwCl (x_W adx cI cJ σ) H → va_D (fun q : Nat => s.heap.size ≤ q) (x_W adx cI cJ σ) → va_P (dC, dI) vwCl (m_W adm cI cJ cC μ) H → va_D (fun q : Nat => s.heap.size ≤ q) (m_W adm cI cJ cC μ) → va_S (fun q : Nat => s.heap.size ≤ q) s.heap H locs → lv_has ls 4 [(0, .ref b), (1, .ref (adx 0)), (2, .ref (adm 0)), (3, .int x3)] → W p l e room_1 s m #[Value.ref b] below meth c H locs 108 37792 (lw_Z below #[Value.ref b] s) (F0 m 779 ls []) := by
  obtain ⟨hx, hb, hr, hml, hown, hts0, hX, hbl, hlocks, hgv⟩ := id C0
  have hts := lw_hts hts0
  have hbA : ¬ (fun q : Nat => s.heap.size ≤ q) b := Nat.not_le.mpr hbl
  have hKx := hK.sub (tys' := x_ty cI cJ) [0, 1] rfl
  have hdis' : ∀ j k, j < m_n → k < x_n → adm j ≠ adx k := fun j k h1 h2 h3 => hdis k j h2 h1 h3.symm
  intro x3 σ μ H locs ls h hPx hDx hPm hDm hS hl
  unfold b_law_779 at h
  refine lv_aload_n hx hb dL_law_779 rfl (lv_at hl 1 rfl) ?_
  refine zlx_i [] ⟨hx, hb, hml, hown, hts⟩ (c_X11_coming N l dC dI adx cI cJ _ σ  _ h) (cw_X11_coming hts mw_749 rfl rfl ⟨Nat.le_of_ble_eq_true rfl, Nat.le_of_ble_eq_true rfl⟩) rfl rfl hKx hPx hDx hPm hdis hS rfl hl.1 (rest := []) (Nat.le_of_ble_eq_true rfl) rfl ⟨Nat.le_of_ble_eq_true rfl, Nat.le_of_ble_eq_true rfl⟩ dL_law_780 (fun r1 τ2 H locs h hPx hDx hPm hS => ?_)
  refine lv_aload_n hx hb dL_law_783 rfl (lv_at hl 2 rfl) ?_
  refine zlm_i [] ⟨hx, hb, hml, hown, hts⟩ (c_X12_coming N l dC dI adm cI cJ cC _ μ  _ h) (cw_X12_coming hts mw_1255 rfl rfl ⟨Nat.le_of_ble_eq_true rfl, Nat.le_of_ble_eq_true rfl⟩) rfl rfl hK hPm hDm hPx hdis' hS rfl hl.1 (rest := [.int r1]) (Nat.le_of_ble_eq_true rfl) rfl ⟨Nat.le_of_ble_eq_true rfl, Nat.le_of_ble_eq_true rfl⟩ dL_law_784 (fun r3 τ4 H locs h hPm hDm hPx hS => ?_)
  refine lv_icmp_eq (tgt := 1121) hx hb dL_law_787 (by decide) (fun hc => ?_) (fun hc => ?_)
  · have h := h.1 hc
    obtain ⟨v5, ev5⟩ : ∃ z : Int32, z = x3 + (6 : Int32) := ⟨_, rfl⟩
    have h := h v5 ev5
    refine lv_iinc (v := v5) (lv' := [(3, .int v5), (0, .ref b), (1, .ref (adx 0)), (2, .ref (adm 0))]) hx hb dL_law_1121 hl (k := 3) rfl (by rw [ev5]; rfl) (by decide) rfl (fun ls hl => ?_)
    refine lv_goto (tgt := 18) hx hb dL_law_1124 (by decide) ?_
    exact hk_18 v5 τ2 τ4 _ _ _ h hPx hDx hPm hDm hS (lv_sub hl [1, 2, 3, 0] rfl)
  · have h := h.2 hc
    refine lv_iconst (v := (0 : Int32)) hx hb dL_law_790 (by decide) ?_
    exact h.elim
set_option maxHeartbeats 4000000 in
set_option maxRecDepth 100000 in
theorem t_law_792 (C0 : lw_At p s m meth c b L xs) (hK : va_K (dC, dI) vwCl (m_ty cI cJ cC) s) (hdis : ∀ j k, j < x_n → k < m_n → adx j ≠ adm k) (N : Nat) {k_18 : Int32 → zSt → zSt → Prop} (hk_18 : ∀ (x3 : Int32) (σ μ : zSt) (H : Heap) (locs : List Loc) (ls : Array Slot), k_18 x3 σ μ → va_P (dC, dI) vwCl (x_W adx cI cJ σ) H → va_D (fun q : Nat => s.heap.size ≤ q) (x_W adx cI cJ σ) → va_P (dC, dI) vwCl (m_W adm cI cJ cC μ) H → va_D (fun q : Nat => s.heap.size ≤ q) (m_W adm cI cJ cC μ) → va_S (fun q : Nat => s.heap.size ≤ q) s.heap H locs → lv_has ls 4 [(0, .ref b), (1, .ref (adx 0)), (2, .ref (adm 0)), (3, .int x3)] → W p l e room_1 s m #[Value.ref b] below meth c H locs 108 37792 (lw_Z below #[Value.ref b] s) (F0 m 18 ls [])) : ∀ (x3 : Int32) (σ μ : zSt) (H : Heap) (locs : List Loc) (ls : Array Slot), b_law_792 N k_18 L xs x3 σ μ → va_P (dC, dI) vwCl (x_W adx cI cJ σ) H → va_D (fun q : Nat => s.heap.size ≤ q) (x_W adx cI cJ σ) → va_P (dC, dI) vwCl (m_W adm cI cJ cC μ) H → va_D (fun q : Nat => s.heap.size ≤ q) (m_W adm cI cJ cC μ) → va_S (fun q : Nat => s.heap.size ≤ q) s.heap H locs → lv_has ls 4 [(0, .ref b), (1, .ref (adx 0)), (2, .ref (adm 0)), (3, .int x3)] → W p l e room_1 s m #[Value.ref b] below meth c H locs 108 37792 (lw_Z below #[Value.ref b] s) (F0 m 792 ls []) := by
  obtain ⟨hx, hb, hr, hml, hown, hts0, hX, hbl, hlocks, hgv⟩ := id C0
  have hts := lw_hts hts0
  have hbA : ¬ (fun q : Nat => s.heap.size ≤ q) b := Nat.not_le.mpr hbl
  have hKx := hK.sub (tys' := x_ty cI cJ) [0, 1] rfl
  have hdis' : ∀ j k, j < m_n → k < x_n → adm j ≠ adx k := fun j k h1 h2 h3 => hdis k j h2 h1 h3.symm
  intro x3 σ μ H locs ls h hPx hDx hPm hDm hS hl
  unfold b_law_792 at h
  refine lv_aload_n hx hb dL_law_792 rfl (lv_at hl 1 rfl) ?_
  refine lv_aload_n hx hb dL_law_793 rfl (lv_at hl 0 rfl) ?_
  refine lv_iload_n hx hb dL_law_794 rfl (lv_at hl 3 rfl) ?_
  refine lv_iconst (v := (1 : Int32)) hx hb dL_law_795 (by decide) ?_
  refine lv_iadd hx hb dL_law_796 ?_
  refine va_sld hx hb hX hbl hbA hS h.1 dL_law_797 ?_
  have h := h.2
  refine lv_aload_n hx hb dL_law_798 rfl (lv_at hl 0 rfl) ?_
  refine lv_iload_n hx hb dL_law_799 rfl (lv_at hl 3 rfl) ?_
  refine lv_iconst (v := (2 : Int32)) hx hb dL_law_800 (by decide) ?_
  refine lv_iadd hx hb dL_law_801 ?_
  refine va_sld hx hb hX hbl hbA hS h.1 dL_law_802 ?_
  have h := h.2
  refine lv_if_eq (tgt := 810) hx hb dL_law_803 (by decide) (fun hc => ?_) (fun hc => ?_)
  · have h := h.1 hc
    refine lv_iconst (v := (0 : Int32)) hx hb dL_law_810 (by decide) ?_
    refine zlx_l [.int (xs (x3 + (1 : Int32)).toNatClampNeg), .int (0 : Int32)] ⟨hx, hb, hml, hown, hts⟩ (c_X11_comes N l dC dI adx cI cJ _ σ (xs (x3 + (1 : Int32)).toNatClampNeg) (0 : Int32) _ h) (cw_X11_comes hts mw_760 rfl rfl ⟨Nat.le_of_ble_eq_true rfl, Nat.le_of_ble_eq_true rfl⟩) rfl rfl hKx hPx hDx hPm hdis hS rfl hl.1 (rest := []) (Nat.le_of_ble_eq_true rfl) rfl ⟨Nat.le_of_ble_eq_true rfl, Nat.le_of_ble_eq_true rfl⟩ dL_law_811 (fun r1 τ2 H locs h hPx hDx hPm hS => ?_)
    refine lv_aload_n hx hb dL_law_814 rfl (lv_at hl 2 rfl) ?_
    refine lv_aload_n hx hb dL_law_815 rfl (lv_at hl 0 rfl) ?_
    refine lv_iload_n hx hb dL_law_816 rfl (lv_at hl 3 rfl) ?_
    refine lv_iconst (v := (1 : Int32)) hx hb dL_law_817 (by decide) ?_
    refine lv_iadd hx hb dL_law_818 ?_
    refine va_sld hx hb hX hbl hbA hS h.1 dL_law_819 ?_
    have h := h.2
    refine lv_aload_n hx hb dL_law_820 rfl (lv_at hl 0 rfl) ?_
    refine lv_iload_n hx hb dL_law_821 rfl (lv_at hl 3 rfl) ?_
    refine lv_iconst (v := (2 : Int32)) hx hb dL_law_822 (by decide) ?_
    refine lv_iadd hx hb dL_law_823 ?_
    refine va_sld hx hb hX hbl hbA hS h.1 dL_law_824 ?_
    have h := h.2
    refine lv_if_eq (tgt := 832) hx hb dL_law_825 (by decide) (fun hc => ?_) (fun hc => ?_)
    · have h := h.1 hc
      refine lv_iconst (v := (0 : Int32)) hx hb dL_law_832 (by decide) ?_
      refine zlm_l [.int (xs (x3 + (1 : Int32)).toNatClampNeg), .int (0 : Int32)] ⟨hx, hb, hml, hown, hts⟩ (c_X12_comes N l dC dI adm cI cJ cC _ μ (xs (x3 + (1 : Int32)).toNatClampNeg) (0 : Int32) _ h) (cw_X12_comes hts mw_1265 rfl rfl ⟨Nat.le_of_ble_eq_true rfl, Nat.le_of_ble_eq_true rfl⟩) rfl rfl hK hPm hDm hPx hdis' hS rfl hl.1 (rest := [.long r1]) (Nat.le_of_ble_eq_true rfl) rfl ⟨Nat.le_of_ble_eq_true rfl, Nat.le_of_ble_eq_true rfl⟩ dL_law_833 (fun r3 τ4 H locs h hPm hDm hPx hS => ?_)
      refine W.lcmp hx hb dL_law_836 ?_
      refine lv_if_eq (tgt := 1121) hx hb dL_law_837 (by decide) (fun hc => ?_) (fun hc => ?_)
      · have h := h.1 hc
        obtain ⟨v5, ev5⟩ : ∃ z : Int32, z = x3 + (6 : Int32) := ⟨_, rfl⟩
        have h := h v5 ev5
        refine lv_iinc (v := v5) (lv' := [(3, .int v5), (0, .ref b), (1, .ref (adx 0)), (2, .ref (adm 0))]) hx hb dL_law_1121 hl (k := 3) rfl (by rw [ev5]; rfl) (by decide) rfl (fun ls hl => ?_)
        refine lv_goto (tgt := 18) hx hb dL_law_1124 (by decide) ?_
        exact hk_18 v5 τ2 τ4 _ _ _ h hPx hDx hPm hDm hS (lv_sub hl [1, 2, 3, 0] rfl)
      · have h := h.2 hc
        refine lv_iconst (v := (0 : Int32)) hx hb dL_law_840 (by decide) ?_
        exact h.elim
    · have h := h.2 hc
      refine lv_iconst (v := (1 : Int32)) hx hb dL_law_828 (by decide) ?_
      refine lv_goto (tgt := 833) hx hb dL_law_829 (by decide) ?_
      refine zlm_l [.int (xs (x3 + (1 : Int32)).toNatClampNeg), .int (1 : Int32)] ⟨hx, hb, hml, hown, hts⟩ (c_X12_comes N l dC dI adm cI cJ cC _ μ (xs (x3 + (1 : Int32)).toNatClampNeg) (1 : Int32) _ h) (cw_X12_comes hts mw_1265 rfl rfl ⟨Nat.le_of_ble_eq_true rfl, Nat.le_of_ble_eq_true rfl⟩) rfl rfl hK hPm hDm hPx hdis' hS rfl hl.1 (rest := [.long r1]) (Nat.le_of_ble_eq_true rfl) rfl ⟨Nat.le_of_ble_eq_true rfl, Nat.le_of_ble_eq_true rfl⟩ dL_law_833 (fun r6 τ7 H locs h hPm hDm hPx hS => ?_)
      refine W.lcmp hx hb dL_law_836 ?_
      refine lv_if_eq (tgt := 1121) hx hb dL_law_837 (by decide) (fun hc => ?_) (fun hc => ?_)
      · have h := h.1 hc
        obtain ⟨v8, ev8⟩ : ∃ z : Int32, z = x3 + (6 : Int32) := ⟨_, rfl⟩
        have h := h v8 ev8
        refine lv_iinc (v := v8) (lv' := [(3, .int v8), (0, .ref b), (1, .ref (adx 0)), (2, .ref (adm 0))]) hx hb dL_law_1121 hl (k := 3) rfl (by rw [ev8]; rfl) (by decide) rfl (fun ls hl => ?_)
        refine lv_goto (tgt := 18) hx hb dL_law_1124 (by decide) ?_
        exact hk_18 v8 τ2 τ7 _ _ _ h hPx hDx hPm hDm hS (lv_sub hl [1, 2, 3, 0] rfl)
      · have h := h.2 hc
        refine lv_iconst (v := (0 : Int32)) hx hb dL_law_840 (by decide) ?_
        exact h.elim
  · have h := h.2 hc
    refine lv_iconst (v := (1 : Int32)) hx hb dL_law_806 (by decide) ?_
    refine lv_goto (tgt := 811) hx hb dL_law_807 (by decide) ?_
    refine zlx_l [.int (xs (x3 + (1 : Int32)).toNatClampNeg), .int (1 : Int32)] ⟨hx, hb, hml, hown, hts⟩ (c_X11_comes N l dC dI adx cI cJ _ σ (xs (x3 + (1 : Int32)).toNatClampNeg) (1 : Int32) _ h) (cw_X11_comes hts mw_760 rfl rfl ⟨Nat.le_of_ble_eq_true rfl, Nat.le_of_ble_eq_true rfl⟩) rfl rfl hKx hPx hDx hPm hdis hS rfl hl.1 (rest := []) (Nat.le_of_ble_eq_true rfl) rfl ⟨Nat.le_of_ble_eq_true rfl, Nat.le_of_ble_eq_true rfl⟩ dL_law_811 (fun r9 τ10 H locs h hPx hDx hPm hS => ?_)
    refine lv_aload_n hx hb dL_law_814 rfl (lv_at hl 2 rfl) ?_
    refine lv_aload_n hx hb dL_law_815 rfl (lv_at hl 0 rfl) ?_
    refine lv_iload_n hx hb dL_law_816 rfl (lv_at hl 3 rfl) ?_
    refine lv_iconst (v := (1 : Int32)) hx hb dL_law_817 (by decide) ?_
    refine lv_iadd hx hb dL_law_818 ?_
    refine va_sld hx hb hX hbl hbA hS h.1 dL_law_819 ?_
    have h := h.2
    refine lv_aload_n hx hb dL_law_820 rfl (lv_at hl 0 rfl) ?_
    refine lv_iload_n hx hb dL_law_821 rfl (lv_at hl 3 rfl) ?_
    refine lv_iconst (v := (2 : Int32)) hx hb dL_law_822 (by decide) ?_
    refine lv_iadd hx hb dL_law_823 ?_
    refine va_sld hx hb hX hbl hbA hS h.1 dL_law_824 ?_
    have h := h.2
    refine lv_if_eq (tgt := 832) hx hb dL_law_825 (by decide) (fun hc => ?_) (fun hc => ?_)
    · have h := h.1 hc
      refine lv_iconst (v := (0 : Int32)) hx hb dL_law_832 (by decide) ?_
      refine zlm_l [.int (xs (x3 + (1 : Int32)).toNatClampNeg), .int (0 : Int32)] ⟨hx, hb, hml, hown, hts⟩ (c_X12_comes N l dC dI adm cI cJ cC _ μ (xs (x3 + (1 : Int32)).toNatClampNeg) (0 : Int32) _ h) (cw_X12_comes hts mw_1265 rfl rfl ⟨Nat.le_of_ble_eq_true rfl, Nat.le_of_ble_eq_true rfl⟩) rfl rfl hK hPm hDm hPx hdis' hS rfl hl.1 (rest := [.long r9]) (Nat.le_of_ble_eq_true rfl) rfl ⟨Nat.le_of_ble_eq_true rfl, Nat.le_of_ble_eq_true rfl⟩ dL_law_833 (fun r11 τ12 H locs h hPm hDm hPx hS => ?_)
      refine W.lcmp hx hb dL_law_836 ?_
      refine lv_if_eq (tgt := 1121) hx hb dL_law_837 (by decide) (fun hc => ?_) (fun hc => ?_)
      · have h := h.1 hc
        obtain ⟨v13, ev13⟩ : ∃ z : Int32, z = x3 + (6 : Int32) := ⟨_, rfl⟩
        have h := h v13 ev13
        refine lv_iinc (v := v13) (lv' := [(3, .int v13), (0, .ref b), (1, .ref (adx 0)), (2, .ref (adm 0))]) hx hb dL_law_1121 hl (k := 3) rfl (by rw [ev13]; rfl) (by decide) rfl (fun ls hl => ?_)
        refine lv_goto (tgt := 18) hx hb dL_law_1124 (by decide) ?_
        exact hk_18 v13 τ10 τ12 _ _ _ h hPx hDx hPm hDm hS (lv_sub hl [1, 2, 3, 0] rfl)
      · have h := h.2 hc
        refine lv_iconst (v := (0 : Int32)) hx hb dL_law_840 (by decide) ?_
        exact h.elim
    · have h := h.2 hc
      refine lv_iconst (v := (1 : Int32)) hx hb dL_law_828 (by decide) ?_
      refine lv_goto (tgt := 833) hx hb dL_law_829 (by decide) ?_
      refine zlm_l [.int (xs (x3 + (1 : Int32)).toNatClampNeg), .int (1 : Int32)] ⟨hx, hb, hml, hown, hts⟩ (c_X12_comes N l dC dI adm cI cJ cC _ μ (xs (x3 + (1 : Int32)).toNatClampNeg) (1 : Int32) _ h) (cw_X12_comes hts mw_1265 rfl rfl ⟨Nat.le_of_ble_eq_true rfl, Nat.le_of_ble_eq_true rfl⟩) rfl rfl hK hPm hDm hPx hdis' hS rfl hl.1 (rest := [.long r9]) (Nat.le_of_ble_eq_true rfl) rfl ⟨Nat.le_of_ble_eq_true rfl, Nat.le_of_ble_eq_true rfl⟩ dL_law_833 (fun r14 τ15 H locs h hPm hDm hPx hS => ?_)
      refine W.lcmp hx hb dL_law_836 ?_
      refine lv_if_eq (tgt := 1121) hx hb dL_law_837 (by decide) (fun hc => ?_) (fun hc => ?_)
      · have h := h.1 hc
        obtain ⟨v16, ev16⟩ : ∃ z : Int32, z = x3 + (6 : Int32) := ⟨_, rfl⟩
        have h := h v16 ev16
        refine lv_iinc (v := v16) (lv' := [(3, .int v16), (0, .ref b), (1, .ref (adx 0)), (2, .ref (adm 0))]) hx hb dL_law_1121 hl (k := 3) rfl (by rw [ev16]; rfl) (by decide) rfl (fun ls hl => ?_)
        refine lv_goto (tgt := 18) hx hb dL_law_1124 (by decide) ?_
        exact hk_18 v16 τ10 τ15 _ _ _ h hPx hDx hPm hDm hS (lv_sub hl [1, 2, 3, 0] rfl)
      · have h := h.2 hc
        refine lv_iconst (v := (0 : Int32)) hx hb dL_law_840 (by decide) ?_
        exact h.elim
set_option maxHeartbeats 4000000 in
set_option maxRecDepth 100000 in
theorem t_law_842 (C0 : lw_At p s m meth c b L xs) (hK : va_K (dC, dI) vwCl (m_ty cI cJ cC) s) (hdis : ∀ j k, j < x_n → k < m_n → adx j ≠ adm k) (N : Nat) {k_18 : Int32 → zSt → zSt → Prop} (hk_18 : ∀ (x3 : Int32) (σ μ : zSt) (H : Heap) (locs : List Loc) (ls : Array Slot), k_18 x3 σ μ → va_P (dC, dI) vwCl (x_W adx cI cJ σ) H → va_D (fun q : Nat => s.heap.size ≤ q) (x_W adx cI cJ σ) → va_P (dC, dI) vwCl (m_W adm cI cJ cC μ) H → va_D (fun q : Nat => s.heap.size ≤ q) (m_W adm cI cJ cC μ) → va_S (fun q : Nat => s.heap.size ≤ q) s.heap H locs → lv_has ls 4 [(0, .ref b), (1, .ref (adx 0)), (2, .ref (adm 0)), (3, .int x3)] → W p l e room_1 s m #[Value.ref b] below meth c H locs 108 37792 (lw_Z below #[Value.ref b] s) (F0 m 18 ls [])) : ∀ (x3 : Int32) (σ μ : zSt) (H : Heap) (locs : List Loc) (ls : Array Slot), b_law_842 N k_18 L xs x3 σ μ → va_P (dC, dI) vwCl (x_W adx cI cJ σ) H → va_D (fun q : Nat => s.heap.size ≤ q) (x_W adx cI cJ σ) → va_P (dC, dI) vwCl (m_W adm cI cJ cC μ) H → va_D (fun q : Nat => s.heap.size ≤ q) (m_W adm cI cJ cC μ) → va_S (fun q : Nat => s.heap.size ≤ q) s.heap H locs → lv_has ls 4 [(0, .ref b), (1, .ref (adx 0)), (2, .ref (adm 0)), (3, .int x3)] → W p l e room_1 s m #[Value.ref b] below meth c H locs 108 37792 (lw_Z below #[Value.ref b] s) (F0 m 842 ls []) := by
  obtain ⟨hx, hb, hr, hml, hown, hts0, hX, hbl, hlocks, hgv⟩ := id C0
  have hts := lw_hts hts0
  have hbA : ¬ (fun q : Nat => s.heap.size ≤ q) b := Nat.not_le.mpr hbl
  have hKx := hK.sub (tys' := x_ty cI cJ) [0, 1] rfl
  have hdis' : ∀ j k, j < m_n → k < x_n → adm j ≠ adx k := fun j k h1 h2 h3 => hdis k j h2 h1 h3.symm
  intro x3 σ μ H locs ls h hPx hDx hPm hDm hS hl
  unfold b_law_842 at h
  refine lv_aload_n hx hb dL_law_842 rfl (lv_at hl 1 rfl) ?_
  refine lv_aload_n hx hb dL_law_843 rfl (lv_at hl 0 rfl) ?_
  refine lv_iload_n hx hb dL_law_844 rfl (lv_at hl 3 rfl) ?_
  refine lv_iconst (v := (1 : Int32)) hx hb dL_law_845 (by decide) ?_
  refine lv_iadd hx hb dL_law_846 ?_
  refine va_sld hx hb hX hbl hbA hS h.1 dL_law_847 ?_
  have h := h.2
  refine zlx_l [.int (xs (x3 + (1 : Int32)).toNatClampNeg)] ⟨hx, hb, hml, hown, hts⟩ (c_X11_gifts N l dC dI adx cI cJ _ σ (xs (x3 + (1 : Int32)).toNatClampNeg) _ h) (cw_X11_gifts hts mw_764 rfl rfl ⟨Nat.le_of_ble_eq_true rfl, Nat.le_of_ble_eq_true rfl⟩) rfl rfl hKx hPx hDx hPm hdis hS rfl hl.1 (rest := []) (Nat.le_of_ble_eq_true rfl) rfl ⟨Nat.le_of_ble_eq_true rfl, Nat.le_of_ble_eq_true rfl⟩ dL_law_848 (fun r1 τ2 H locs h hPx hDx hPm hS => ?_)
  refine lv_aload_n hx hb dL_law_851 rfl (lv_at hl 2 rfl) ?_
  refine lv_aload_n hx hb dL_law_852 rfl (lv_at hl 0 rfl) ?_
  refine lv_iload_n hx hb dL_law_853 rfl (lv_at hl 3 rfl) ?_
  refine lv_iconst (v := (1 : Int32)) hx hb dL_law_854 (by decide) ?_
  refine lv_iadd hx hb dL_law_855 ?_
  refine va_sld hx hb hX hbl hbA hS h.1 dL_law_856 ?_
  have h := h.2
  refine zlm_l [.int (xs (x3 + (1 : Int32)).toNatClampNeg)] ⟨hx, hb, hml, hown, hts⟩ (c_X12_gifts N l dC dI adm cI cJ cC _ μ (xs (x3 + (1 : Int32)).toNatClampNeg) _ h) (cw_X12_gifts hts mw_1269 rfl rfl ⟨Nat.le_of_ble_eq_true rfl, Nat.le_of_ble_eq_true rfl⟩) rfl rfl hK hPm hDm hPx hdis' hS rfl hl.1 (rest := [.long r1]) (Nat.le_of_ble_eq_true rfl) rfl ⟨Nat.le_of_ble_eq_true rfl, Nat.le_of_ble_eq_true rfl⟩ dL_law_857 (fun r3 τ4 H locs h hPm hDm hPx hS => ?_)
  refine W.lcmp hx hb dL_law_860 ?_
  refine lv_if_eq (tgt := 1121) hx hb dL_law_861 (by decide) (fun hc => ?_) (fun hc => ?_)
  · have h := h.1 hc
    obtain ⟨v5, ev5⟩ : ∃ z : Int32, z = x3 + (6 : Int32) := ⟨_, rfl⟩
    have h := h v5 ev5
    refine lv_iinc (v := v5) (lv' := [(3, .int v5), (0, .ref b), (1, .ref (adx 0)), (2, .ref (adm 0))]) hx hb dL_law_1121 hl (k := 3) rfl (by rw [ev5]; rfl) (by decide) rfl (fun ls hl => ?_)
    refine lv_goto (tgt := 18) hx hb dL_law_1124 (by decide) ?_
    exact hk_18 v5 τ2 τ4 _ _ _ h hPx hDx hPm hDm hS (lv_sub hl [1, 2, 3, 0] rfl)
  · have h := h.2 hc
    refine lv_iconst (v := (0 : Int32)) hx hb dL_law_864 (by decide) ?_
    exact h.elim
set_option maxHeartbeats 4000000 in
set_option maxRecDepth 100000 in
theorem t_law_866 (C0 : lw_At p s m meth c b L xs) (hK : va_K (dC, dI) vwCl (m_ty cI cJ cC) s) (hdis : ∀ j k, j < x_n → k < m_n → adx j ≠ adm k) (N : Nat) {k_18 : Int32 → zSt → zSt → Prop} (hk_18 : ∀ (x3 : Int32) (σ μ : zSt) (H : Heap) (locs : List Loc) (ls : Array Slot), k_18 x3 σ μ → va_P (dC, dI) vwCl (x_W adx cI cJ σ) H → va_D (fun q : Nat => s.heap.size ≤ q) (x_W adx cI cJ σ) → va_P (dC, dI) vwCl (m_W adm cI cJ cC μ) H → va_D (fun q : Nat => s.heap.size ≤ q) (m_W adm cI cJ cC μ) → va_S (fun q : Nat => s.heap.size ≤ q) s.heap H locs → lv_has ls 4 [(0, .ref b), (1, .ref (adx 0)), (2, .ref (adm 0)), (3, .int x3)] → W p l e room_1 s m #[Value.ref b] below meth c H locs 108 37792 (lw_Z below #[Value.ref b] s) (F0 m 18 ls [])) : ∀ (x3 : Int32) (σ μ : zSt) (H : Heap) (locs : List Loc) (ls : Array Slot), b_law_866 N k_18 L xs x3 σ μ → va_P (dC, dI) vwCl (x_W adx cI cJ σ) H → va_D (fun q : Nat => s.heap.size ≤ q) (x_W adx cI cJ σ) → va_P (dC, dI) vwCl (m_W adm cI cJ cC μ) H → va_D (fun q : Nat => s.heap.size ≤ q) (m_W adm cI cJ cC μ) → va_S (fun q : Nat => s.heap.size ≤ q) s.heap H locs → lv_has ls 4 [(0, .ref b), (1, .ref (adx 0)), (2, .ref (adm 0)), (3, .int x3)] → W p l e room_1 s m #[Value.ref b] below meth c H locs 108 37792 (lw_Z below #[Value.ref b] s) (F0 m 866 ls []) := by
  obtain ⟨hx, hb, hr, hml, hown, hts0, hX, hbl, hlocks, hgv⟩ := id C0
  have hts := lw_hts hts0
  have hbA : ¬ (fun q : Nat => s.heap.size ≤ q) b := Nat.not_le.mpr hbl
  have hKx := hK.sub (tys' := x_ty cI cJ) [0, 1] rfl
  have hdis' : ∀ j k, j < m_n → k < x_n → adm j ≠ adx k := fun j k h1 h2 h3 => hdis k j h2 h1 h3.symm
  intro x3 σ μ H locs ls h hPx hDx hPm hDm hS hl
  unfold b_law_866 at h
  refine lv_aload_n hx hb dL_law_866 rfl (lv_at hl 1 rfl) ?_
  refine lv_aload_n hx hb dL_law_867 rfl (lv_at hl 0 rfl) ?_
  refine lv_iload_n hx hb dL_law_868 rfl (lv_at hl 3 rfl) ?_
  refine lv_iconst (v := (1 : Int32)) hx hb dL_law_869 (by decide) ?_
  refine lv_iadd hx hb dL_law_870 ?_
  refine va_sld hx hb hX hbl hbA hS h.1 dL_law_871 ?_
  have h := h.2
  refine lv_aload_n hx hb dL_law_872 rfl (lv_at hl 0 rfl) ?_
  refine lv_iload_n hx hb dL_law_873 rfl (lv_at hl 3 rfl) ?_
  refine lv_iconst (v := (2 : Int32)) hx hb dL_law_874 (by decide) ?_
  refine lv_iadd hx hb dL_law_875 ?_
  refine va_sld hx hb hX hbl hbA hS h.1 dL_law_876 ?_
  have h := h.2
  refine lv_aload_n hx hb dL_law_877 rfl (lv_at hl 0 rfl) ?_
  refine lv_iload_n hx hb dL_law_878 rfl (lv_at hl 3 rfl) ?_
  refine lv_iconst (v := (3 : Int32)) hx hb dL_law_879 (by decide) ?_
  refine lv_iadd hx hb dL_law_880 ?_
  refine va_sld hx hb hX hbl hbA hS h.1 dL_law_881 ?_
  have h := h.2
  refine lv_if_eq (tgt := 889) hx hb dL_law_882 (by decide) (fun hc => ?_) (fun hc => ?_)
  · have h := h.1 hc
    refine lv_iconst (v := (0 : Int32)) hx hb dL_law_889 (by decide) ?_
    refine zlx_l [.int (xs (x3 + (1 : Int32)).toNatClampNeg), .int (xs (x3 + (2 : Int32)).toNatClampNeg), .int (0 : Int32)] ⟨hx, hb, hml, hown, hts⟩ (c_X11_gift N l dC dI adx cI cJ _ σ (xs (x3 + (1 : Int32)).toNatClampNeg) (xs (x3 + (2 : Int32)).toNatClampNeg) (0 : Int32) _ h) (cw_X11_gift hts mw_778 rfl rfl ⟨Nat.le_of_ble_eq_true rfl, Nat.le_of_ble_eq_true rfl⟩) rfl rfl hKx hPx hDx hPm hdis hS rfl hl.1 (rest := []) (Nat.le_of_ble_eq_true rfl) rfl ⟨Nat.le_of_ble_eq_true rfl, Nat.le_of_ble_eq_true rfl⟩ dL_law_890 (fun r1 τ2 H locs h hPx hDx hPm hS => ?_)
    refine lv_aload_n hx hb dL_law_893 rfl (lv_at hl 2 rfl) ?_
    refine lv_aload_n hx hb dL_law_894 rfl (lv_at hl 0 rfl) ?_
    refine lv_iload_n hx hb dL_law_895 rfl (lv_at hl 3 rfl) ?_
    refine lv_iconst (v := (1 : Int32)) hx hb dL_law_896 (by decide) ?_
    refine lv_iadd hx hb dL_law_897 ?_
    refine va_sld hx hb hX hbl hbA hS h.1 dL_law_898 ?_
    have h := h.2
    refine lv_aload_n hx hb dL_law_899 rfl (lv_at hl 0 rfl) ?_
    refine lv_iload_n hx hb dL_law_900 rfl (lv_at hl 3 rfl) ?_
    refine lv_iconst (v := (2 : Int32)) hx hb dL_law_901 (by decide) ?_
    refine lv_iadd hx hb dL_law_902 ?_
    refine va_sld hx hb hX hbl hbA hS h.1 dL_law_903 ?_
    have h := h.2
    refine lv_aload_n hx hb dL_law_904 rfl (lv_at hl 0 rfl) ?_
    refine lv_iload_n hx hb dL_law_905 rfl (lv_at hl 3 rfl) ?_
    refine lv_iconst (v := (3 : Int32)) hx hb dL_law_906 (by decide) ?_
    refine lv_iadd hx hb dL_law_907 ?_
    refine va_sld hx hb hX hbl hbA hS h.1 dL_law_908 ?_
    have h := h.2
    refine lv_if_eq (tgt := 916) hx hb dL_law_909 (by decide) (fun hc => ?_) (fun hc => ?_)
    · have h := h.1 hc
      refine lv_iconst (v := (0 : Int32)) hx hb dL_law_916 (by decide) ?_
      refine zlm_l [.int (xs (x3 + (1 : Int32)).toNatClampNeg), .int (xs (x3 + (2 : Int32)).toNatClampNeg), .int (0 : Int32)] ⟨hx, hb, hml, hown, hts⟩ (c_X12_gift N l dC dI adm cI cJ cC _ μ (xs (x3 + (1 : Int32)).toNatClampNeg) (xs (x3 + (2 : Int32)).toNatClampNeg) (0 : Int32) _ h) (cw_X12_gift hts mw_1282 rfl rfl ⟨Nat.le_of_ble_eq_true rfl, Nat.le_of_ble_eq_true rfl⟩) rfl rfl hK hPm hDm hPx hdis' hS rfl hl.1 (rest := [.long r1]) (Nat.le_of_ble_eq_true rfl) rfl ⟨Nat.le_of_ble_eq_true rfl, Nat.le_of_ble_eq_true rfl⟩ dL_law_917 (fun r3 τ4 H locs h hPm hDm hPx hS => ?_)
      refine W.lcmp hx hb dL_law_920 ?_
      refine lv_if_eq (tgt := 1121) hx hb dL_law_921 (by decide) (fun hc => ?_) (fun hc => ?_)
      · have h := h.1 hc
        obtain ⟨v5, ev5⟩ : ∃ z : Int32, z = x3 + (6 : Int32) := ⟨_, rfl⟩
        have h := h v5 ev5
        refine lv_iinc (v := v5) (lv' := [(3, .int v5), (0, .ref b), (1, .ref (adx 0)), (2, .ref (adm 0))]) hx hb dL_law_1121 hl (k := 3) rfl (by rw [ev5]; rfl) (by decide) rfl (fun ls hl => ?_)
        refine lv_goto (tgt := 18) hx hb dL_law_1124 (by decide) ?_
        exact hk_18 v5 τ2 τ4 _ _ _ h hPx hDx hPm hDm hS (lv_sub hl [1, 2, 3, 0] rfl)
      · have h := h.2 hc
        refine lv_iconst (v := (0 : Int32)) hx hb dL_law_924 (by decide) ?_
        exact h.elim
    · have h := h.2 hc
      refine lv_iconst (v := (1 : Int32)) hx hb dL_law_912 (by decide) ?_
      refine lv_goto (tgt := 917) hx hb dL_law_913 (by decide) ?_
      refine zlm_l [.int (xs (x3 + (1 : Int32)).toNatClampNeg), .int (xs (x3 + (2 : Int32)).toNatClampNeg), .int (1 : Int32)] ⟨hx, hb, hml, hown, hts⟩ (c_X12_gift N l dC dI adm cI cJ cC _ μ (xs (x3 + (1 : Int32)).toNatClampNeg) (xs (x3 + (2 : Int32)).toNatClampNeg) (1 : Int32) _ h) (cw_X12_gift hts mw_1282 rfl rfl ⟨Nat.le_of_ble_eq_true rfl, Nat.le_of_ble_eq_true rfl⟩) rfl rfl hK hPm hDm hPx hdis' hS rfl hl.1 (rest := [.long r1]) (Nat.le_of_ble_eq_true rfl) rfl ⟨Nat.le_of_ble_eq_true rfl, Nat.le_of_ble_eq_true rfl⟩ dL_law_917 (fun r6 τ7 H locs h hPm hDm hPx hS => ?_)
      refine W.lcmp hx hb dL_law_920 ?_
      refine lv_if_eq (tgt := 1121) hx hb dL_law_921 (by decide) (fun hc => ?_) (fun hc => ?_)
      · have h := h.1 hc
        obtain ⟨v8, ev8⟩ : ∃ z : Int32, z = x3 + (6 : Int32) := ⟨_, rfl⟩
        have h := h v8 ev8
        refine lv_iinc (v := v8) (lv' := [(3, .int v8), (0, .ref b), (1, .ref (adx 0)), (2, .ref (adm 0))]) hx hb dL_law_1121 hl (k := 3) rfl (by rw [ev8]; rfl) (by decide) rfl (fun ls hl => ?_)
        refine lv_goto (tgt := 18) hx hb dL_law_1124 (by decide) ?_
        exact hk_18 v8 τ2 τ7 _ _ _ h hPx hDx hPm hDm hS (lv_sub hl [1, 2, 3, 0] rfl)
      · have h := h.2 hc
        refine lv_iconst (v := (0 : Int32)) hx hb dL_law_924 (by decide) ?_
        exact h.elim
  · have h := h.2 hc
    refine lv_iconst (v := (1 : Int32)) hx hb dL_law_885 (by decide) ?_
    refine lv_goto (tgt := 890) hx hb dL_law_886 (by decide) ?_
    refine zlx_l [.int (xs (x3 + (1 : Int32)).toNatClampNeg), .int (xs (x3 + (2 : Int32)).toNatClampNeg), .int (1 : Int32)] ⟨hx, hb, hml, hown, hts⟩ (c_X11_gift N l dC dI adx cI cJ _ σ (xs (x3 + (1 : Int32)).toNatClampNeg) (xs (x3 + (2 : Int32)).toNatClampNeg) (1 : Int32) _ h) (cw_X11_gift hts mw_778 rfl rfl ⟨Nat.le_of_ble_eq_true rfl, Nat.le_of_ble_eq_true rfl⟩) rfl rfl hKx hPx hDx hPm hdis hS rfl hl.1 (rest := []) (Nat.le_of_ble_eq_true rfl) rfl ⟨Nat.le_of_ble_eq_true rfl, Nat.le_of_ble_eq_true rfl⟩ dL_law_890 (fun r9 τ10 H locs h hPx hDx hPm hS => ?_)
    refine lv_aload_n hx hb dL_law_893 rfl (lv_at hl 2 rfl) ?_
    refine lv_aload_n hx hb dL_law_894 rfl (lv_at hl 0 rfl) ?_
    refine lv_iload_n hx hb dL_law_895 rfl (lv_at hl 3 rfl) ?_
    refine lv_iconst (v := (1 : Int32)) hx hb dL_law_896 (by decide) ?_
    refine lv_iadd hx hb dL_law_897 ?_
    refine va_sld hx hb hX hbl hbA hS h.1 dL_law_898 ?_
    have h := h.2
    refine lv_aload_n hx hb dL_law_899 rfl (lv_at hl 0 rfl) ?_
    refine lv_iload_n hx hb dL_law_900 rfl (lv_at hl 3 rfl) ?_
    refine lv_iconst (v := (2 : Int32)) hx hb dL_law_901 (by decide) ?_
    refine lv_iadd hx hb dL_law_902 ?_
    refine va_sld hx hb hX hbl hbA hS h.1 dL_law_903 ?_
    have h := h.2
    refine lv_aload_n hx hb dL_law_904 rfl (lv_at hl 0 rfl) ?_
    refine lv_iload_n hx hb dL_law_905 rfl (lv_at hl 3 rfl) ?_
    refine lv_iconst (v := (3 : Int32)) hx hb dL_law_906 (by decide) ?_
    refine lv_iadd hx hb dL_law_907 ?_
    refine va_sld hx hb hX hbl hbA hS h.1 dL_law_908 ?_
    have h := h.2
    refine lv_if_eq (tgt := 916) hx hb dL_law_909 (by decide) (fun hc => ?_) (fun hc => ?_)
    · have h := h.1 hc
      refine lv_iconst (v := (0 : Int32)) hx hb dL_law_916 (by decide) ?_
      refine zlm_l [.int (xs (x3 + (1 : Int32)).toNatClampNeg), .int (xs (x3 + (2 : Int32)).toNatClampNeg), .int (0 : Int32)] ⟨hx, hb, hml, hown, hts⟩ (c_X12_gift N l dC dI adm cI cJ cC _ μ (xs (x3 + (1 : Int32)).toNatClampNeg) (xs (x3 + (2 : Int32)).toNatClampNeg) (0 : Int32) _ h) (cw_X12_gift hts mw_1282 rfl rfl ⟨Nat.le_of_ble_eq_true rfl, Nat.le_of_ble_eq_true rfl⟩) rfl rfl hK hPm hDm hPx hdis' hS rfl hl.1 (rest := [.long r9]) (Nat.le_of_ble_eq_true rfl) rfl ⟨Nat.le_of_ble_eq_true rfl, Nat.le_of_ble_eq_true rfl⟩ dL_law_917 (fun r11 τ12 H locs h hPm hDm hPx hS => ?_)
      refine W.lcmp hx hb dL_law_920 ?_
      refine lv_if_eq (tgt := 1121) hx hb dL_law_921 (by decide) (fun hc => ?_) (fun hc => ?_)
      · have h := h.1 hc
        obtain ⟨v13, ev13⟩ : ∃ z : Int32, z = x3 + (6 : Int32) := ⟨_, rfl⟩
        have h := h v13 ev13
        refine lv_iinc (v := v13) (lv' := [(3, .int v13), (0, .ref b), (1, .ref (adx 0)), (2, .ref (adm 0))]) hx hb dL_law_1121 hl (k := 3) rfl (by rw [ev13]; rfl) (by decide) rfl (fun ls hl => ?_)
        refine lv_goto (tgt := 18) hx hb dL_law_1124 (by decide) ?_
        exact hk_18 v13 τ10 τ12 _ _ _ h hPx hDx hPm hDm hS (lv_sub hl [1, 2, 3, 0] rfl)
      · have h := h.2 hc
        refine lv_iconst (v := (0 : Int32)) hx hb dL_law_924 (by decide) ?_
        exact h.elim
    · have h := h.2 hc
      refine lv_iconst (v := (1 : Int32)) hx hb dL_law_912 (by decide) ?_
      refine lv_goto (tgt := 917) hx hb dL_law_913 (by decide) ?_
      refine zlm_l [.int (xs (x3 + (1 : Int32)).toNatClampNeg), .int (xs (x3 + (2 : Int32)).toNatClampNeg), .int (1 : Int32)] ⟨hx, hb, hml, hown, hts⟩ (c_X12_gift N l dC dI adm cI cJ cC _ μ (xs (x3 + (1 : Int32)).toNatClampNeg) (xs (x3 + (2 : Int32)).toNatClampNeg) (1 : Int32) _ h) (cw_X12_gift hts mw_1282 rfl rfl ⟨Nat.le_of_ble_eq_true rfl, Nat.le_of_ble_eq_true rfl⟩) rfl rfl hK hPm hDm hPx hdis' hS rfl hl.1 (rest := [.long r9]) (Nat.le_of_ble_eq_true rfl) rfl ⟨Nat.le_of_ble_eq_true rfl, Nat.le_of_ble_eq_true rfl⟩ dL_law_917 (fun r14 τ15 H locs h hPm hDm hPx hS => ?_)
      refine W.lcmp hx hb dL_law_920 ?_
      refine lv_if_eq (tgt := 1121) hx hb dL_law_921 (by decide) (fun hc => ?_) (fun hc => ?_)
      · have h := h.1 hc
        obtain ⟨v16, ev16⟩ : ∃ z : Int32, z = x3 + (6 : Int32) := ⟨_, rfl⟩
        have h := h v16 ev16
        refine lv_iinc (v := v16) (lv' := [(3, .int v16), (0, .ref b), (1, .ref (adx 0)), (2, .ref (adm 0))]) hx hb dL_law_1121 hl (k := 3) rfl (by rw [ev16]; rfl) (by decide) rfl (fun ls hl => ?_)
        refine lv_goto (tgt := 18) hx hb dL_law_1124 (by decide) ?_
        exact hk_18 v16 τ10 τ15 _ _ _ h hPx hDx hPm hDm hS (lv_sub hl [1, 2, 3, 0] rfl)
      · have h := h.2 hc
        refine lv_iconst (v := (0 : Int32)) hx hb dL_law_924 (by decide) ?_
        exact h.elim
set_option maxHeartbeats 4000000 in
set_option maxRecDepth 100000 in
theorem t_law_926 (C0 : lw_At p s m meth c b L xs) (hK : va_K (dC, dI) vwCl (m_ty cI cJ cC) s) (hdis : ∀ j k, j < x_n → k < m_n → adx j ≠ adm k) (N : Nat) {k_18 : Int32 → zSt → zSt → Prop} (hk_18 : ∀ (x3 : Int32) (σ μ : zSt) (H : Heap) (locs : List Loc) (ls : Array Slot), k_18 x3 σ μ → va_P (dC, dI) vwCl (x_W adx cI cJ σ) H → va_D (fun q : Nat => s.heap.size ≤ q) (x_W adx cI cJ σ) → va_P (dC, dI) vwCl (m_W adm cI cJ cC μ) H → va_D (fun q : Nat => s.heap.size ≤ q) (m_W adm cI cJ cC μ) → va_S (fun q : Nat => s.heap.size ≤ q) s.heap H locs → lv_has ls 4 [(0, .ref b), (1, .ref (adx 0)), (2, .ref (adm 0)), (3, .int x3)] → W p l e room_1 s m #[Value.ref b] below meth c H locs 108 37792 (lw_Z below #[Value.ref b] s) (F0 m 18 ls [])) : ∀ (x3 : Int32) (σ μ : zSt) (H : Heap) (locs : List Loc) (ls : Array Slot), b_law_926 N k_18 L xs x3 σ μ → va_P (dC, dI) vwCl (x_W adx cI cJ σ) H → va_D (fun q : Nat => s.heap.size ≤ q) (x_W adx cI cJ σ) → va_P (dC, dI) vwCl (m_W adm cI cJ cC μ) H → va_D (fun q : Nat => s.heap.size ≤ q) (m_W adm cI cJ cC μ) → va_S (fun q : Nat => s.heap.size ≤ q) s.heap H locs → lv_has ls 4 [(0, .ref b), (1, .ref (adx 0)), (2, .ref (adm 0)), (3, .int x3)] → W p l e room_1 s m #[Value.ref b] below meth c H locs 108 37792 (lw_Z below #[Value.ref b] s) (F0 m 926 ls []) := by
  obtain ⟨hx, hb, hr, hml, hown, hts0, hX, hbl, hlocks, hgv⟩ := id C0
  have hts := lw_hts hts0
  have hbA : ¬ (fun q : Nat => s.heap.size ≤ q) b := Nat.not_le.mpr hbl
  have hKx := hK.sub (tys' := x_ty cI cJ) [0, 1] rfl
  have hdis' : ∀ j k, j < m_n → k < x_n → adm j ≠ adx k := fun j k h1 h2 h3 => hdis k j h2 h1 h3.symm
  intro x3 σ μ H locs ls h hPx hDx hPm hDm hS hl
  unfold b_law_926 at h
  refine lv_aload_n hx hb dL_law_926 rfl (lv_at hl 1 rfl) ?_
  refine lv_aload_n hx hb dL_law_927 rfl (lv_at hl 0 rfl) ?_
  refine lv_iload_n hx hb dL_law_928 rfl (lv_at hl 3 rfl) ?_
  refine lv_iconst (v := (1 : Int32)) hx hb dL_law_929 (by decide) ?_
  refine lv_iadd hx hb dL_law_930 ?_
  refine va_sld hx hb hX hbl hbA hS h.1 dL_law_931 ?_
  have h := h.2
  refine lv_if_eq (tgt := 939) hx hb dL_law_932 (by decide) (fun hc => ?_) (fun hc => ?_)
  · have h := h.1 hc
    refine lv_iconst (v := (0 : Int32)) hx hb dL_law_939 (by decide) ?_
    refine zlx_l [.int (0 : Int32)] ⟨hx, hb, hml, hown, hts⟩ (c_X11_good N l dC dI adx cI cJ _ σ (0 : Int32) _ h) (cw_X11_good hts mw_782 rfl rfl ⟨Nat.le_of_ble_eq_true rfl, Nat.le_of_ble_eq_true rfl⟩) rfl rfl hKx hPx hDx hPm hdis hS rfl hl.1 (rest := []) (Nat.le_of_ble_eq_true rfl) rfl ⟨Nat.le_of_ble_eq_true rfl, Nat.le_of_ble_eq_true rfl⟩ dL_law_940 (fun r1 τ2 H locs h hPx hDx hPm hS => ?_)
    refine lv_aload_n hx hb dL_law_943 rfl (lv_at hl 2 rfl) ?_
    refine lv_aload_n hx hb dL_law_944 rfl (lv_at hl 0 rfl) ?_
    refine lv_iload_n hx hb dL_law_945 rfl (lv_at hl 3 rfl) ?_
    refine lv_iconst (v := (1 : Int32)) hx hb dL_law_946 (by decide) ?_
    refine lv_iadd hx hb dL_law_947 ?_
    refine va_sld hx hb hX hbl hbA hS h.1 dL_law_948 ?_
    have h := h.2
    refine lv_if_eq (tgt := 956) hx hb dL_law_949 (by decide) (fun hc => ?_) (fun hc => ?_)
    · have h := h.1 hc
      refine lv_iconst (v := (0 : Int32)) hx hb dL_law_956 (by decide) ?_
      refine zlm_l [.int (0 : Int32)] ⟨hx, hb, hml, hown, hts⟩ (c_X12_good N l dC dI adm cI cJ cC _ μ (0 : Int32) _ h) (cw_X12_good hts mw_1286 rfl rfl ⟨Nat.le_of_ble_eq_true rfl, Nat.le_of_ble_eq_true rfl⟩) rfl rfl hK hPm hDm hPx hdis' hS rfl hl.1 (rest := [.long r1]) (Nat.le_of_ble_eq_true rfl) rfl ⟨Nat.le_of_ble_eq_true rfl, Nat.le_of_ble_eq_true rfl⟩ dL_law_957 (fun r3 τ4 H locs h hPm hDm hPx hS => ?_)
      refine W.lcmp hx hb dL_law_960 ?_
      refine lv_if_eq (tgt := 1121) hx hb dL_law_961 (by decide) (fun hc => ?_) (fun hc => ?_)
      · have h := h.1 hc
        obtain ⟨v5, ev5⟩ : ∃ z : Int32, z = x3 + (6 : Int32) := ⟨_, rfl⟩
        have h := h v5 ev5
        refine lv_iinc (v := v5) (lv' := [(3, .int v5), (0, .ref b), (1, .ref (adx 0)), (2, .ref (adm 0))]) hx hb dL_law_1121 hl (k := 3) rfl (by rw [ev5]; rfl) (by decide) rfl (fun ls hl => ?_)
        refine lv_goto (tgt := 18) hx hb dL_law_1124 (by decide) ?_
        exact hk_18 v5 τ2 τ4 _ _ _ h hPx hDx hPm hDm hS (lv_sub hl [1, 2, 3, 0] rfl)
      · have h := h.2 hc
        refine lv_iconst (v := (0 : Int32)) hx hb dL_law_964 (by decide) ?_
        exact h.elim
    · have h := h.2 hc
      refine lv_iconst (v := (1 : Int32)) hx hb dL_law_952 (by decide) ?_
      refine lv_goto (tgt := 957) hx hb dL_law_953 (by decide) ?_
      refine zlm_l [.int (1 : Int32)] ⟨hx, hb, hml, hown, hts⟩ (c_X12_good N l dC dI adm cI cJ cC _ μ (1 : Int32) _ h) (cw_X12_good hts mw_1286 rfl rfl ⟨Nat.le_of_ble_eq_true rfl, Nat.le_of_ble_eq_true rfl⟩) rfl rfl hK hPm hDm hPx hdis' hS rfl hl.1 (rest := [.long r1]) (Nat.le_of_ble_eq_true rfl) rfl ⟨Nat.le_of_ble_eq_true rfl, Nat.le_of_ble_eq_true rfl⟩ dL_law_957 (fun r6 τ7 H locs h hPm hDm hPx hS => ?_)
      refine W.lcmp hx hb dL_law_960 ?_
      refine lv_if_eq (tgt := 1121) hx hb dL_law_961 (by decide) (fun hc => ?_) (fun hc => ?_)
      · have h := h.1 hc
        obtain ⟨v8, ev8⟩ : ∃ z : Int32, z = x3 + (6 : Int32) := ⟨_, rfl⟩
        have h := h v8 ev8
        refine lv_iinc (v := v8) (lv' := [(3, .int v8), (0, .ref b), (1, .ref (adx 0)), (2, .ref (adm 0))]) hx hb dL_law_1121 hl (k := 3) rfl (by rw [ev8]; rfl) (by decide) rfl (fun ls hl => ?_)
        refine lv_goto (tgt := 18) hx hb dL_law_1124 (by decide) ?_
        exact hk_18 v8 τ2 τ7 _ _ _ h hPx hDx hPm hDm hS (lv_sub hl [1, 2, 3, 0] rfl)
      · have h := h.2 hc
        refine lv_iconst (v := (0 : Int32)) hx hb dL_law_964 (by decide) ?_
        exact h.elim
  · have h := h.2 hc
    refine lv_iconst (v := (1 : Int32)) hx hb dL_law_935 (by decide) ?_
    refine lv_goto (tgt := 940) hx hb dL_law_936 (by decide) ?_
    refine zlx_l [.int (1 : Int32)] ⟨hx, hb, hml, hown, hts⟩ (c_X11_good N l dC dI adx cI cJ _ σ (1 : Int32) _ h) (cw_X11_good hts mw_782 rfl rfl ⟨Nat.le_of_ble_eq_true rfl, Nat.le_of_ble_eq_true rfl⟩) rfl rfl hKx hPx hDx hPm hdis hS rfl hl.1 (rest := []) (Nat.le_of_ble_eq_true rfl) rfl ⟨Nat.le_of_ble_eq_true rfl, Nat.le_of_ble_eq_true rfl⟩ dL_law_940 (fun r9 τ10 H locs h hPx hDx hPm hS => ?_)
    refine lv_aload_n hx hb dL_law_943 rfl (lv_at hl 2 rfl) ?_
    refine lv_aload_n hx hb dL_law_944 rfl (lv_at hl 0 rfl) ?_
    refine lv_iload_n hx hb dL_law_945 rfl (lv_at hl 3 rfl) ?_
    refine lv_iconst (v := (1 : Int32)) hx hb dL_law_946 (by decide) ?_
    refine lv_iadd hx hb dL_law_947 ?_
    refine va_sld hx hb hX hbl hbA hS h.1 dL_law_948 ?_
    have h := h.2
    refine lv_if_eq (tgt := 956) hx hb dL_law_949 (by decide) (fun hc => ?_) (fun hc => ?_)
    · have h := h.1 hc
      refine lv_iconst (v := (0 : Int32)) hx hb dL_law_956 (by decide) ?_
      refine zlm_l [.int (0 : Int32)] ⟨hx, hb, hml, hown, hts⟩ (c_X12_good N l dC dI adm cI cJ cC _ μ (0 : Int32) _ h) (cw_X12_good hts mw_1286 rfl rfl ⟨Nat.le_of_ble_eq_true rfl, Nat.le_of_ble_eq_true rfl⟩) rfl rfl hK hPm hDm hPx hdis' hS rfl hl.1 (rest := [.long r9]) (Nat.le_of_ble_eq_true rfl) rfl ⟨Nat.le_of_ble_eq_true rfl, Nat.le_of_ble_eq_true rfl⟩ dL_law_957 (fun r11 τ12 H locs h hPm hDm hPx hS => ?_)
      refine W.lcmp hx hb dL_law_960 ?_
      refine lv_if_eq (tgt := 1121) hx hb dL_law_961 (by decide) (fun hc => ?_) (fun hc => ?_)
      · have h := h.1 hc
        obtain ⟨v13, ev13⟩ : ∃ z : Int32, z = x3 + (6 : Int32) := ⟨_, rfl⟩
        have h := h v13 ev13
        refine lv_iinc (v := v13) (lv' := [(3, .int v13), (0, .ref b), (1, .ref (adx 0)), (2, .ref (adm 0))]) hx hb dL_law_1121 hl (k := 3) rfl (by rw [ev13]; rfl) (by decide) rfl (fun ls hl => ?_)
        refine lv_goto (tgt := 18) hx hb dL_law_1124 (by decide) ?_
        exact hk_18 v13 τ10 τ12 _ _ _ h hPx hDx hPm hDm hS (lv_sub hl [1, 2, 3, 0] rfl)
      · have h := h.2 hc
        refine lv_iconst (v := (0 : Int32)) hx hb dL_law_964 (by decide) ?_
        exact h.elim
    · have h := h.2 hc
      refine lv_iconst (v := (1 : Int32)) hx hb dL_law_952 (by decide) ?_
      refine lv_goto (tgt := 957) hx hb dL_law_953 (by decide) ?_
      refine zlm_l [.int (1 : Int32)] ⟨hx, hb, hml, hown, hts⟩ (c_X12_good N l dC dI adm cI cJ cC _ μ (1 : Int32) _ h) (cw_X12_good hts mw_1286 rfl rfl ⟨Nat.le_of_ble_eq_true rfl, Nat.le_of_ble_eq_true rfl⟩) rfl rfl hK hPm hDm hPx hdis' hS rfl hl.1 (rest := [.long r9]) (Nat.le_of_ble_eq_true rfl) rfl ⟨Nat.le_of_ble_eq_true rfl, Nat.le_of_ble_eq_true rfl⟩ dL_law_957 (fun r14 τ15 H locs h hPm hDm hPx hS => ?_)
      refine W.lcmp hx hb dL_law_960 ?_
      refine lv_if_eq (tgt := 1121) hx hb dL_law_961 (by decide) (fun hc => ?_) (fun hc => ?_)
      · have h := h.1 hc
        obtain ⟨v16, ev16⟩ : ∃ z : Int32, z = x3 + (6 : Int32) := ⟨_, rfl⟩
        have h := h v16 ev16
        refine lv_iinc (v := v16) (lv' := [(3, .int v16), (0, .ref b), (1, .ref (adx 0)), (2, .ref (adm 0))]) hx hb dL_law_1121 hl (k := 3) rfl (by rw [ev16]; rfl) (by decide) rfl (fun ls hl => ?_)
        refine lv_goto (tgt := 18) hx hb dL_law_1124 (by decide) ?_
        exact hk_18 v16 τ10 τ15 _ _ _ h hPx hDx hPm hDm hS (lv_sub hl [1, 2, 3, 0] rfl)
      · have h := h.2 hc
        refine lv_iconst (v := (0 : Int32)) hx hb dL_law_964 (by decide) ?_
        exact h.elim
set_option maxHeartbeats 4000000 in
set_option maxRecDepth 100000 in
theorem t_law_966 (C0 : lw_At p s m meth c b L xs) (hK : va_K (dC, dI) vwCl (m_ty cI cJ cC) s) (hdis : ∀ j k, j < x_n → k < m_n → adx j ≠ adm k) (N : Nat) {k_18 : Int32 → zSt → zSt → Prop} (hk_18 : ∀ (x3 : Int32) (σ μ : zSt) (H : Heap) (locs : List Loc) (ls : Array Slot), k_18 x3 σ μ → va_P (dC, dI) vwCl (x_W adx cI cJ σ) H → va_D (fun q : Nat => s.heap.size ≤ q) (x_W adx cI cJ σ) → va_P (dC, dI) vwCl (m_W adm cI cJ cC μ) H → va_D (fun q : Nat => s.heap.size ≤ q) (m_W adm cI cJ cC μ) → va_S (fun q : Nat => s.heap.size ≤ q) s.heap H locs → lv_has ls 4 [(0, .ref b), (1, .ref (adx 0)), (2, .ref (adm 0)), (3, .int x3)] → W p l e room_1 s m #[Value.ref b] below meth c H locs 108 37792 (lw_Z below #[Value.ref b] s) (F0 m 18 ls [])) : ∀ (x3 : Int32) (σ μ : zSt) (H : Heap) (locs : List Loc) (ls : Array Slot), b_law_966 N k_18 L xs x3 σ μ → va_P (dC, dI) vwCl (x_W adx cI cJ σ) H → va_D (fun q : Nat => s.heap.size ≤ q) (x_W adx cI cJ σ) → va_P (dC, dI) vwCl (m_W adm cI cJ cC μ) H → va_D (fun q : Nat => s.heap.size ≤ q) (m_W adm cI cJ cC μ) → va_S (fun q : Nat => s.heap.size ≤ q) s.heap H locs → lv_has ls 4 [(0, .ref b), (1, .ref (adx 0)), (2, .ref (adm 0)), (3, .int x3)] → W p l e room_1 s m #[Value.ref b] below meth c H locs 108 37792 (lw_Z below #[Value.ref b] s) (F0 m 966 ls []) := by
  obtain ⟨hx, hb, hr, hml, hown, hts0, hX, hbl, hlocks, hgv⟩ := id C0
  have hts := lw_hts hts0
  have hbA : ¬ (fun q : Nat => s.heap.size ≤ q) b := Nat.not_le.mpr hbl
  have hKx := hK.sub (tys' := x_ty cI cJ) [0, 1] rfl
  have hdis' : ∀ j k, j < m_n → k < x_n → adm j ≠ adx k := fun j k h1 h2 h3 => hdis k j h2 h1 h3.symm
  intro x3 σ μ H locs ls h hPx hDx hPm hDm hS hl
  unfold b_law_966 at h
  refine lv_aload_n hx hb dL_law_966 rfl (lv_at hl 1 rfl) ?_
  refine lv_aload_n hx hb dL_law_967 rfl (lv_at hl 0 rfl) ?_
  refine lv_iload_n hx hb dL_law_968 rfl (lv_at hl 3 rfl) ?_
  refine lv_iconst (v := (1 : Int32)) hx hb dL_law_969 (by decide) ?_
  refine lv_iadd hx hb dL_law_970 ?_
  refine va_sld hx hb hX hbl hbA hS h.1 dL_law_971 ?_
  have h := h.2
  refine lv_aload_n hx hb dL_law_972 rfl (lv_at hl 0 rfl) ?_
  refine lv_iload_n hx hb dL_law_973 rfl (lv_at hl 3 rfl) ?_
  refine lv_iconst (v := (2 : Int32)) hx hb dL_law_974 (by decide) ?_
  refine lv_iadd hx hb dL_law_975 ?_
  refine va_sld hx hb hX hbl hbA hS h.1 dL_law_976 ?_
  have h := h.2
  refine lv_aload_n hx hb dL_law_977 rfl (lv_at hl 0 rfl) ?_
  refine lv_iload_n hx hb dL_law_978 rfl (lv_at hl 3 rfl) ?_
  refine lv_iconst (v := (3 : Int32)) hx hb dL_law_979 (by decide) ?_
  refine lv_iadd hx hb dL_law_980 ?_
  refine va_sld hx hb hX hbl hbA hS h.1 dL_law_981 ?_
  have h := h.2
  refine lv_aload_n hx hb dL_law_982 rfl (lv_at hl 0 rfl) ?_
  refine lv_iload_n hx hb dL_law_983 rfl (lv_at hl 3 rfl) ?_
  refine lv_iconst (v := (4 : Int32)) hx hb dL_law_984 (by decide) ?_
  refine lv_iadd hx hb dL_law_985 ?_
  refine va_sld hx hb hX hbl hbA hS h.1 dL_law_986 ?_
  have h := h.2
  refine lv_if_eq (tgt := 994) hx hb dL_law_987 (by decide) (fun hc => ?_) (fun hc => ?_)
  · have h := h.1 hc
    refine lv_iconst (v := (0 : Int32)) hx hb dL_law_994 (by decide) ?_
    refine zlx_i [.int (xs (x3 + (1 : Int32)).toNatClampNeg), .int (xs (x3 + (2 : Int32)).toNatClampNeg), .int (xs (x3 + (3 : Int32)).toNatClampNeg), .int (0 : Int32)] ⟨hx, hb, hml, hown, hts⟩ (c_X11_edge N l dC dI adx cI cJ _ σ (xs (x3 + (1 : Int32)).toNatClampNeg) (xs (x3 + (2 : Int32)).toNatClampNeg) (xs (x3 + (3 : Int32)).toNatClampNeg) (0 : Int32) _ h) (cw_X11_edge hts mw_786 rfl rfl ⟨Nat.le_of_ble_eq_true rfl, Nat.le_of_ble_eq_true rfl⟩) rfl rfl hKx hPx hDx hPm hdis hS rfl hl.1 (rest := []) (Nat.le_of_ble_eq_true rfl) rfl ⟨Nat.le_of_ble_eq_true rfl, Nat.le_of_ble_eq_true rfl⟩ dL_law_995 (fun r1 τ2 H locs h hPx hDx hPm hS => ?_)
    refine lv_aload_n hx hb dL_law_998 rfl (lv_at hl 2 rfl) ?_
    refine lv_aload_n hx hb dL_law_999 rfl (lv_at hl 0 rfl) ?_
    refine lv_iload_n hx hb dL_law_1000 rfl (lv_at hl 3 rfl) ?_
    refine lv_iconst (v := (1 : Int32)) hx hb dL_law_1001 (by decide) ?_
    refine lv_iadd hx hb dL_law_1002 ?_
    refine va_sld hx hb hX hbl hbA hS h.1 dL_law_1003 ?_
    have h := h.2
    refine lv_aload_n hx hb dL_law_1004 rfl (lv_at hl 0 rfl) ?_
    refine lv_iload_n hx hb dL_law_1005 rfl (lv_at hl 3 rfl) ?_
    refine lv_iconst (v := (2 : Int32)) hx hb dL_law_1006 (by decide) ?_
    refine lv_iadd hx hb dL_law_1007 ?_
    refine va_sld hx hb hX hbl hbA hS h.1 dL_law_1008 ?_
    have h := h.2
    refine lv_aload_n hx hb dL_law_1009 rfl (lv_at hl 0 rfl) ?_
    refine lv_iload_n hx hb dL_law_1010 rfl (lv_at hl 3 rfl) ?_
    refine lv_iconst (v := (3 : Int32)) hx hb dL_law_1011 (by decide) ?_
    refine lv_iadd hx hb dL_law_1012 ?_
    refine va_sld hx hb hX hbl hbA hS h.1 dL_law_1013 ?_
    have h := h.2
    refine lv_aload_n hx hb dL_law_1014 rfl (lv_at hl 0 rfl) ?_
    refine lv_iload_n hx hb dL_law_1015 rfl (lv_at hl 3 rfl) ?_
    refine lv_iconst (v := (4 : Int32)) hx hb dL_law_1016 (by decide) ?_
    refine lv_iadd hx hb dL_law_1017 ?_
    refine va_sld hx hb hX hbl hbA hS h.1 dL_law_1018 ?_
    have h := h.2
    refine lv_if_eq (tgt := 1026) hx hb dL_law_1019 (by decide) (fun hc => ?_) (fun hc => ?_)
    · have h := h.1 hc
      refine lv_iconst (v := (0 : Int32)) hx hb dL_law_1026 (by decide) ?_
      refine zlm_i [.int (xs (x3 + (1 : Int32)).toNatClampNeg), .int (xs (x3 + (2 : Int32)).toNatClampNeg), .int (xs (x3 + (3 : Int32)).toNatClampNeg), .int (0 : Int32)] ⟨hx, hb, hml, hown, hts⟩ (c_X12_edge N l dC dI adm cI cJ cC _ μ (xs (x3 + (1 : Int32)).toNatClampNeg) (xs (x3 + (2 : Int32)).toNatClampNeg) (xs (x3 + (3 : Int32)).toNatClampNeg) (0 : Int32) _ h) (cw_X12_edge hts mw_1290 rfl rfl ⟨Nat.le_of_ble_eq_true rfl, Nat.le_of_ble_eq_true rfl⟩) rfl rfl hK hPm hDm hPx hdis' hS rfl hl.1 (rest := [.int r1]) (Nat.le_of_ble_eq_true rfl) rfl ⟨Nat.le_of_ble_eq_true rfl, Nat.le_of_ble_eq_true rfl⟩ dL_law_1027 (fun r3 τ4 H locs h hPm hDm hPx hS => ?_)
      refine lv_icmp_eq (tgt := 1121) hx hb dL_law_1030 (by decide) (fun hc => ?_) (fun hc => ?_)
      · have h := h.1 hc
        obtain ⟨v5, ev5⟩ : ∃ z : Int32, z = x3 + (6 : Int32) := ⟨_, rfl⟩
        have h := h v5 ev5
        refine lv_iinc (v := v5) (lv' := [(3, .int v5), (0, .ref b), (1, .ref (adx 0)), (2, .ref (adm 0))]) hx hb dL_law_1121 hl (k := 3) rfl (by rw [ev5]; rfl) (by decide) rfl (fun ls hl => ?_)
        refine lv_goto (tgt := 18) hx hb dL_law_1124 (by decide) ?_
        exact hk_18 v5 τ2 τ4 _ _ _ h hPx hDx hPm hDm hS (lv_sub hl [1, 2, 3, 0] rfl)
      · have h := h.2 hc
        refine lv_iconst (v := (0 : Int32)) hx hb dL_law_1033 (by decide) ?_
        exact h.elim
    · have h := h.2 hc
      refine lv_iconst (v := (1 : Int32)) hx hb dL_law_1022 (by decide) ?_
      refine lv_goto (tgt := 1027) hx hb dL_law_1023 (by decide) ?_
      refine zlm_i [.int (xs (x3 + (1 : Int32)).toNatClampNeg), .int (xs (x3 + (2 : Int32)).toNatClampNeg), .int (xs (x3 + (3 : Int32)).toNatClampNeg), .int (1 : Int32)] ⟨hx, hb, hml, hown, hts⟩ (c_X12_edge N l dC dI adm cI cJ cC _ μ (xs (x3 + (1 : Int32)).toNatClampNeg) (xs (x3 + (2 : Int32)).toNatClampNeg) (xs (x3 + (3 : Int32)).toNatClampNeg) (1 : Int32) _ h) (cw_X12_edge hts mw_1290 rfl rfl ⟨Nat.le_of_ble_eq_true rfl, Nat.le_of_ble_eq_true rfl⟩) rfl rfl hK hPm hDm hPx hdis' hS rfl hl.1 (rest := [.int r1]) (Nat.le_of_ble_eq_true rfl) rfl ⟨Nat.le_of_ble_eq_true rfl, Nat.le_of_ble_eq_true rfl⟩ dL_law_1027 (fun r6 τ7 H locs h hPm hDm hPx hS => ?_)
      refine lv_icmp_eq (tgt := 1121) hx hb dL_law_1030 (by decide) (fun hc => ?_) (fun hc => ?_)
      · have h := h.1 hc
        obtain ⟨v8, ev8⟩ : ∃ z : Int32, z = x3 + (6 : Int32) := ⟨_, rfl⟩
        have h := h v8 ev8
        refine lv_iinc (v := v8) (lv' := [(3, .int v8), (0, .ref b), (1, .ref (adx 0)), (2, .ref (adm 0))]) hx hb dL_law_1121 hl (k := 3) rfl (by rw [ev8]; rfl) (by decide) rfl (fun ls hl => ?_)
        refine lv_goto (tgt := 18) hx hb dL_law_1124 (by decide) ?_
        exact hk_18 v8 τ2 τ7 _ _ _ h hPx hDx hPm hDm hS (lv_sub hl [1, 2, 3, 0] rfl)
      · have h := h.2 hc
        refine lv_iconst (v := (0 : Int32)) hx hb dL_law_1033 (by decide) ?_
        exact h.elim
  · have h := h.2 hc
    refine lv_iconst (v := (1 : Int32)) hx hb dL_law_990 (by decide) ?_
    refine lv_goto (tgt := 995) hx hb dL_law_991 (by decide) ?_
    refine zlx_i [.int (xs (x3 + (1 : Int32)).toNatClampNeg), .int (xs (x3 + (2 : Int32)).toNatClampNeg), .int (xs (x3 + (3 : Int32)).toNatClampNeg), .int (1 : Int32)] ⟨hx, hb, hml, hown, hts⟩ (c_X11_edge N l dC dI adx cI cJ _ σ (xs (x3 + (1 : Int32)).toNatClampNeg) (xs (x3 + (2 : Int32)).toNatClampNeg) (xs (x3 + (3 : Int32)).toNatClampNeg) (1 : Int32) _ h) (cw_X11_edge hts mw_786 rfl rfl ⟨Nat.le_of_ble_eq_true rfl, Nat.le_of_ble_eq_true rfl⟩) rfl rfl hKx hPx hDx hPm hdis hS rfl hl.1 (rest := []) (Nat.le_of_ble_eq_true rfl) rfl ⟨Nat.le_of_ble_eq_true rfl, Nat.le_of_ble_eq_true rfl⟩ dL_law_995 (fun r9 τ10 H locs h hPx hDx hPm hS => ?_)
    refine lv_aload_n hx hb dL_law_998 rfl (lv_at hl 2 rfl) ?_
    refine lv_aload_n hx hb dL_law_999 rfl (lv_at hl 0 rfl) ?_
    refine lv_iload_n hx hb dL_law_1000 rfl (lv_at hl 3 rfl) ?_
    refine lv_iconst (v := (1 : Int32)) hx hb dL_law_1001 (by decide) ?_
    refine lv_iadd hx hb dL_law_1002 ?_
    refine va_sld hx hb hX hbl hbA hS h.1 dL_law_1003 ?_
    have h := h.2
    refine lv_aload_n hx hb dL_law_1004 rfl (lv_at hl 0 rfl) ?_
    refine lv_iload_n hx hb dL_law_1005 rfl (lv_at hl 3 rfl) ?_
    refine lv_iconst (v := (2 : Int32)) hx hb dL_law_1006 (by decide) ?_
    refine lv_iadd hx hb dL_law_1007 ?_
    refine va_sld hx hb hX hbl hbA hS h.1 dL_law_1008 ?_
    have h := h.2
    refine lv_aload_n hx hb dL_law_1009 rfl (lv_at hl 0 rfl) ?_
    refine lv_iload_n hx hb dL_law_1010 rfl (lv_at hl 3 rfl) ?_
    refine lv_iconst (v := (3 : Int32)) hx hb dL_law_1011 (by decide) ?_
    refine lv_iadd hx hb dL_law_1012 ?_
    refine va_sld hx hb hX hbl hbA hS h.1 dL_law_1013 ?_
    have h := h.2
    refine lv_aload_n hx hb dL_law_1014 rfl (lv_at hl 0 rfl) ?_
    refine lv_iload_n hx hb dL_law_1015 rfl (lv_at hl 3 rfl) ?_
    refine lv_iconst (v := (4 : Int32)) hx hb dL_law_1016 (by decide) ?_
    refine lv_iadd hx hb dL_law_1017 ?_
    refine va_sld hx hb hX hbl hbA hS h.1 dL_law_1018 ?_
    have h := h.2
    refine lv_if_eq (tgt := 1026) hx hb dL_law_1019 (by decide) (fun hc => ?_) (fun hc => ?_)
    · have h := h.1 hc
      refine lv_iconst (v := (0 : Int32)) hx hb dL_law_1026 (by decide) ?_
      refine zlm_i [.int (xs (x3 + (1 : Int32)).toNatClampNeg), .int (xs (x3 + (2 : Int32)).toNatClampNeg), .int (xs (x3 + (3 : Int32)).toNatClampNeg), .int (0 : Int32)] ⟨hx, hb, hml, hown, hts⟩ (c_X12_edge N l dC dI adm cI cJ cC _ μ (xs (x3 + (1 : Int32)).toNatClampNeg) (xs (x3 + (2 : Int32)).toNatClampNeg) (xs (x3 + (3 : Int32)).toNatClampNeg) (0 : Int32) _ h) (cw_X12_edge hts mw_1290 rfl rfl ⟨Nat.le_of_ble_eq_true rfl, Nat.le_of_ble_eq_true rfl⟩) rfl rfl hK hPm hDm hPx hdis' hS rfl hl.1 (rest := [.int r9]) (Nat.le_of_ble_eq_true rfl) rfl ⟨Nat.le_of_ble_eq_true rfl, Nat.le_of_ble_eq_true rfl⟩ dL_law_1027 (fun r11 τ12 H locs h hPm hDm hPx hS => ?_)
      refine lv_icmp_eq (tgt := 1121) hx hb dL_law_1030 (by decide) (fun hc => ?_) (fun hc => ?_)
      · have h := h.1 hc
        obtain ⟨v13, ev13⟩ : ∃ z : Int32, z = x3 + (6 : Int32) := ⟨_, rfl⟩
        have h := h v13 ev13
        refine lv_iinc (v := v13) (lv' := [(3, .int v13), (0, .ref b), (1, .ref (adx 0)), (2, .ref (adm 0))]) hx hb dL_law_1121 hl (k := 3) rfl (by rw [ev13]; rfl) (by decide) rfl (fun ls hl => ?_)
        refine lv_goto (tgt := 18) hx hb dL_law_1124 (by decide) ?_
        exact hk_18 v13 τ10 τ12 _ _ _ h hPx hDx hPm hDm hS (lv_sub hl [1, 2, 3, 0] rfl)
      · have h := h.2 hc
        refine lv_iconst (v := (0 : Int32)) hx hb dL_law_1033 (by decide) ?_
        exact h.elim
    · have h := h.2 hc
      refine lv_iconst (v := (1 : Int32)) hx hb dL_law_1022 (by decide) ?_
      refine lv_goto (tgt := 1027) hx hb dL_law_1023 (by decide) ?_
      refine zlm_i [.int (xs (x3 + (1 : Int32)).toNatClampNeg), .int (xs (x3 + (2 : Int32)).toNatClampNeg), .int (xs (x3 + (3 : Int32)).toNatClampNeg), .int (1 : Int32)] ⟨hx, hb, hml, hown, hts⟩ (c_X12_edge N l dC dI adm cI cJ cC _ μ (xs (x3 + (1 : Int32)).toNatClampNeg) (xs (x3 + (2 : Int32)).toNatClampNeg) (xs (x3 + (3 : Int32)).toNatClampNeg) (1 : Int32) _ h) (cw_X12_edge hts mw_1290 rfl rfl ⟨Nat.le_of_ble_eq_true rfl, Nat.le_of_ble_eq_true rfl⟩) rfl rfl hK hPm hDm hPx hdis' hS rfl hl.1 (rest := [.int r9]) (Nat.le_of_ble_eq_true rfl) rfl ⟨Nat.le_of_ble_eq_true rfl, Nat.le_of_ble_eq_true rfl⟩ dL_law_1027 (fun r14 τ15 H locs h hPm hDm hPx hS => ?_)
      refine lv_icmp_eq (tgt := 1121) hx hb dL_law_1030 (by decide) (fun hc => ?_) (fun hc => ?_)
      · have h := h.1 hc
        obtain ⟨v16, ev16⟩ : ∃ z : Int32, z = x3 + (6 : Int32) := ⟨_, rfl⟩
        have h := h v16 ev16
        refine lv_iinc (v := v16) (lv' := [(3, .int v16), (0, .ref b), (1, .ref (adx 0)), (2, .ref (adm 0))]) hx hb dL_law_1121 hl (k := 3) rfl (by rw [ev16]; rfl) (by decide) rfl (fun ls hl => ?_)
        refine lv_goto (tgt := 18) hx hb dL_law_1124 (by decide) ?_
        exact hk_18 v16 τ10 τ15 _ _ _ h hPx hDx hPm hDm hS (lv_sub hl [1, 2, 3, 0] rfl)
      · have h := h.2 hc
        refine lv_iconst (v := (0 : Int32)) hx hb dL_law_1033 (by decide) ?_
        exact h.elim
set_option maxHeartbeats 4000000 in
set_option maxRecDepth 100000 in
theorem t_law_1035 (C0 : lw_At p s m meth c b L xs) (hK : va_K (dC, dI) vwCl (m_ty cI cJ cC) s) (hdis : ∀ j k, j < x_n → k < m_n → adx j ≠ adm k) (N : Nat) {k_18 : Int32 → zSt → zSt → Prop} (hk_18 : ∀ (x3 : Int32) (σ μ : zSt) (H : Heap) (locs : List Loc) (ls : Array Slot), k_18 x3 σ μ → va_P (dC, dI) vwCl (x_W adx cI cJ σ) H → va_D (fun q : Nat => s.heap.size ≤ q) (x_W adx cI cJ σ) → va_P (dC, dI) vwCl (m_W adm cI cJ cC μ) H → va_D (fun q : Nat => s.heap.size ≤ q) (m_W adm cI cJ cC μ) → va_S (fun q : Nat => s.heap.size ≤ q) s.heap H locs → lv_has ls 4 [(0, .ref b), (1, .ref (adx 0)), (2, .ref (adm 0)), (3, .int x3)] → W p l e room_1 s m #[Value.ref b] below meth c H locs 108 37792 (lw_Z below #[Value.ref b] s) (F0 m 18 ls [])) : ∀ (x3 : Int32) (σ μ : zSt) (H : Heap) (locs : List Loc) (ls : Array Slot), b_law_1035 N k_18 L xs x3 σ μ → va_P (dC, dI) vwCl (x_W adx cI cJ σ) H → va_D (fun q : Nat => s.heap.size ≤ q) (x_W adx cI cJ σ) → va_P (dC, dI) vwCl (m_W adm cI cJ cC μ) H → va_D (fun q : Nat => s.heap.size ≤ q) (m_W adm cI cJ cC μ) → va_S (fun q : Nat => s.heap.size ≤ q) s.heap H locs → lv_has ls 4 [(0, .ref b), (1, .ref (adx 0)), (2, .ref (adm 0)), (3, .int x3)] → W p l e room_1 s m #[Value.ref b] below meth c H locs 108 37792 (lw_Z below #[Value.ref b] s) (F0 m 1035 ls []) := by
  obtain ⟨hx, hb, hr, hml, hown, hts0, hX, hbl, hlocks, hgv⟩ := id C0
  have hts := lw_hts hts0
  have hbA : ¬ (fun q : Nat => s.heap.size ≤ q) b := Nat.not_le.mpr hbl
  have hKx := hK.sub (tys' := x_ty cI cJ) [0, 1] rfl
  have hdis' : ∀ j k, j < m_n → k < x_n → adm j ≠ adx k := fun j k h1 h2 h3 => hdis k j h2 h1 h3.symm
  intro x3 σ μ H locs ls h hPx hDx hPm hDm hS hl
  unfold b_law_1035 at h
  refine lv_aload_n hx hb dL_law_1035 rfl (lv_at hl 1 rfl) ?_
  refine lv_aload_n hx hb dL_law_1036 rfl (lv_at hl 0 rfl) ?_
  refine lv_iload_n hx hb dL_law_1037 rfl (lv_at hl 3 rfl) ?_
  refine lv_iconst (v := (1 : Int32)) hx hb dL_law_1038 (by decide) ?_
  refine lv_iadd hx hb dL_law_1039 ?_
  refine va_sld hx hb hX hbl hbA hS h.1 dL_law_1040 ?_
  have h := h.2
  refine zlx_i [.int (xs (x3 + (1 : Int32)).toNatClampNeg)] ⟨hx, hb, hml, hown, hts⟩ (c_X11_lie N l dC dI adx cI cJ _ σ (xs (x3 + (1 : Int32)).toNatClampNeg) _ h) (cw_X11_lie hts mw_792 rfl rfl ⟨Nat.le_of_ble_eq_true rfl, Nat.le_of_ble_eq_true rfl⟩) rfl rfl hKx hPx hDx hPm hdis hS rfl hl.1 (rest := []) (Nat.le_of_ble_eq_true rfl) rfl ⟨Nat.le_of_ble_eq_true rfl, Nat.le_of_ble_eq_true rfl⟩ dL_law_1041 (fun r1 τ2 H locs h hPx hDx hPm hS => ?_)
  refine lv_aload_n hx hb dL_law_1044 rfl (lv_at hl 2 rfl) ?_
  refine lv_aload_n hx hb dL_law_1045 rfl (lv_at hl 0 rfl) ?_
  refine lv_iload_n hx hb dL_law_1046 rfl (lv_at hl 3 rfl) ?_
  refine lv_iconst (v := (1 : Int32)) hx hb dL_law_1047 (by decide) ?_
  refine lv_iadd hx hb dL_law_1048 ?_
  refine va_sld hx hb hX hbl hbA hS h.1 dL_law_1049 ?_
  have h := h.2
  refine zlm_i [.int (xs (x3 + (1 : Int32)).toNatClampNeg)] ⟨hx, hb, hml, hown, hts⟩ (c_X12_lie N l dC dI adm cI cJ cC _ μ (xs (x3 + (1 : Int32)).toNatClampNeg) _ h) (cw_X12_lie hts mw_1297 rfl rfl ⟨Nat.le_of_ble_eq_true rfl, Nat.le_of_ble_eq_true rfl⟩) rfl rfl hK hPm hDm hPx hdis' hS rfl hl.1 (rest := [.int r1]) (Nat.le_of_ble_eq_true rfl) rfl ⟨Nat.le_of_ble_eq_true rfl, Nat.le_of_ble_eq_true rfl⟩ dL_law_1050 (fun r3 τ4 H locs h hPm hDm hPx hS => ?_)
  refine lv_icmp_eq (tgt := 1121) hx hb dL_law_1053 (by decide) (fun hc => ?_) (fun hc => ?_)
  · have h := h.1 hc
    obtain ⟨v5, ev5⟩ : ∃ z : Int32, z = x3 + (6 : Int32) := ⟨_, rfl⟩
    have h := h v5 ev5
    refine lv_iinc (v := v5) (lv' := [(3, .int v5), (0, .ref b), (1, .ref (adx 0)), (2, .ref (adm 0))]) hx hb dL_law_1121 hl (k := 3) rfl (by rw [ev5]; rfl) (by decide) rfl (fun ls hl => ?_)
    refine lv_goto (tgt := 18) hx hb dL_law_1124 (by decide) ?_
    exact hk_18 v5 τ2 τ4 _ _ _ h hPx hDx hPm hDm hS (lv_sub hl [1, 2, 3, 0] rfl)
  · have h := h.2 hc
    refine lv_iconst (v := (0 : Int32)) hx hb dL_law_1056 (by decide) ?_
    exact h.elim
set_option maxHeartbeats 4000000 in
set_option maxRecDepth 100000 in
theorem t_law_1058 (C0 : lw_At p s m meth c b L xs) (hK : va_K (dC, dI) vwCl (m_ty cI cJ cC) s) (hdis : ∀ j k, j < x_n → k < m_n → adx j ≠ adm k) (N : Nat) {k_18 : Int32 → zSt → zSt → Prop} (hk_18 : ∀ (x3 : Int32) (σ μ : zSt) (H : Heap) (locs : List Loc) (ls : Array Slot), k_18 x3 σ μ → va_P (dC, dI) vwCl (x_W adx cI cJ σ) H → va_D (fun q : Nat => s.heap.size ≤ q) (x_W adx cI cJ σ) → va_P (dC, dI) vwCl (m_W adm cI cJ cC μ) H → va_D (fun q : Nat => s.heap.size ≤ q) (m_W adm cI cJ cC μ) → va_S (fun q : Nat => s.heap.size ≤ q) s.heap H locs → lv_has ls 4 [(0, .ref b), (1, .ref (adx 0)), (2, .ref (adm 0)), (3, .int x3)] → W p l e room_1 s m #[Value.ref b] below meth c H locs 108 37792 (lw_Z below #[Value.ref b] s) (F0 m 18 ls [])) : ∀ (x3 : Int32) (σ μ : zSt) (H : Heap) (locs : List Loc) (ls : Array Slot), b_law_1058 N k_18 L xs x3 σ μ → va_P (dC, dI) vwCl (x_W adx cI cJ σ) H → va_D (fun q : Nat => s.heap.size ≤ q) (x_W adx cI cJ σ) → va_P (dC, dI) vwCl (m_W adm cI cJ cC μ) H → va_D (fun q : Nat => s.heap.size ≤ q) (m_W adm cI cJ cC μ) → va_S (fun q : Nat => s.heap.size ≤ q) s.heap H locs → lv_has ls 4 [(0, .ref b), (1, .ref (adx 0)), (2, .ref (adm 0)), (3, .int x3)] → W p l e room_1 s m #[Value.ref b] below meth c H locs 108 37792 (lw_Z below #[Value.ref b] s) (F0 m 1058 ls []) := by
  obtain ⟨hx, hb, hr, hml, hown, hts0, hX, hbl, hlocks, hgv⟩ := id C0
  have hts := lw_hts hts0
  have hbA : ¬ (fun q : Nat => s.heap.size ≤ q) b := Nat.not_le.mpr hbl
  have hKx := hK.sub (tys' := x_ty cI cJ) [0, 1] rfl
  have hdis' : ∀ j k, j < m_n → k < x_n → adm j ≠ adx k := fun j k h1 h2 h3 => hdis k j h2 h1 h3.symm
  intro x3 σ μ H locs ls h hPx hDx hPm hDm hS hl
  unfold b_law_1058 at h
  refine lv_aload_n hx hb dL_law_1058 rfl (lv_at hl 1 rfl) ?_
  refine zlx_l [] ⟨hx, hb, hml, hown, hts⟩ (c_X11_lied N l dC dI adx cI cJ _ σ  _ h) (cw_X11_lied hts mw_797 rfl rfl ⟨Nat.le_of_ble_eq_true rfl, Nat.le_of_ble_eq_true rfl⟩) rfl rfl hKx hPx hDx hPm hdis hS rfl hl.1 (rest := []) (Nat.le_of_ble_eq_true rfl) rfl ⟨Nat.le_of_ble_eq_true rfl, Nat.le_of_ble_eq_true rfl⟩ dL_law_1059 (fun r1 τ2 H locs h hPx hDx hPm hS => ?_)
  refine lv_aload_n hx hb dL_law_1062 rfl (lv_at hl 2 rfl) ?_
  refine zlm_l [] ⟨hx, hb, hml, hown, hts⟩ (c_X12_lied N l dC dI adm cI cJ cC _ μ  _ h) (cw_X12_lied hts mw_1301 rfl rfl ⟨Nat.le_of_ble_eq_true rfl, Nat.le_of_ble_eq_true rfl⟩) rfl rfl hK hPm hDm hPx hdis' hS rfl hl.1 (rest := [.long r1]) (Nat.le_of_ble_eq_true rfl) rfl ⟨Nat.le_of_ble_eq_true rfl, Nat.le_of_ble_eq_true rfl⟩ dL_law_1063 (fun r3 τ4 H locs h hPm hDm hPx hS => ?_)
  refine W.lcmp hx hb dL_law_1066 ?_
  refine lv_if_eq (tgt := 1121) hx hb dL_law_1067 (by decide) (fun hc => ?_) (fun hc => ?_)
  · have h := h.1 hc
    obtain ⟨v5, ev5⟩ : ∃ z : Int32, z = x3 + (6 : Int32) := ⟨_, rfl⟩
    have h := h v5 ev5
    refine lv_iinc (v := v5) (lv' := [(3, .int v5), (0, .ref b), (1, .ref (adx 0)), (2, .ref (adm 0))]) hx hb dL_law_1121 hl (k := 3) rfl (by rw [ev5]; rfl) (by decide) rfl (fun ls hl => ?_)
    refine lv_goto (tgt := 18) hx hb dL_law_1124 (by decide) ?_
    exact hk_18 v5 τ2 τ4 _ _ _ h hPx hDx hPm hDm hS (lv_sub hl [1, 2, 3, 0] rfl)
  · have h := h.2 hc
    refine lv_iconst (v := (0 : Int32)) hx hb dL_law_1070 (by decide) ?_
    exact h.elim
set_option maxHeartbeats 4000000 in
set_option maxRecDepth 100000 in
theorem t_law_1072 (C0 : lw_At p s m meth c b L xs) (hK : va_K (dC, dI) vwCl (m_ty cI cJ cC) s) (hdis : ∀ j k, j < x_n → k < m_n → adx j ≠ adm k) (N : Nat) {k_18 : Int32 → zSt → zSt → Prop} (hk_18 : ∀ (x3 : Int32) (σ μ : zSt) (H : Heap) (locs : List Loc) (ls : Array Slot), k_18 x3 σ μ → va_P (dC, dI) vwCl (x_W adx cI cJ σ) H → va_D (fun q : Nat => s.heap.size ≤ q) (x_W adx cI cJ σ) → va_P (dC, dI) vwCl (m_W adm cI cJ cC μ) H → va_D (fun q : Nat => s.heap.size ≤ q) (m_W adm cI cJ cC μ) → va_S (fun q : Nat => s.heap.size ≤ q) s.heap H locs → lv_has ls 4 [(0, .ref b), (1, .ref (adx 0)), (2, .ref (adm 0)), (3, .int x3)] → W p l e room_1 s m #[Value.ref b] below meth c H locs 108 37792 (lw_Z below #[Value.ref b] s) (F0 m 18 ls [])) : ∀ (x3 : Int32) (σ μ : zSt) (H : Heap) (locs : List Loc) (ls : Array Slot), b_law_1072 N k_18 L xs x3 σ μ → va_P (dC, dI) vwCl (x_W adx cI cJ σ) H → va_D (fun q : Nat => s.heap.size ≤ q) (x_W adx cI cJ σ) → va_P (dC, dI) vwCl (m_W adm cI cJ cC μ) H → va_D (fun q : Nat => s.heap.size ≤ q) (m_W adm cI cJ cC μ) → va_S (fun q : Nat => s.heap.size ≤ q) s.heap H locs → lv_has ls 4 [(0, .ref b), (1, .ref (adx 0)), (2, .ref (adm 0)), (3, .int x3)] → W p l e room_1 s m #[Value.ref b] below meth c H locs 108 37792 (lw_Z below #[Value.ref b] s) (F0 m 1072 ls []) := by
  obtain ⟨hx, hb, hr, hml, hown, hts0, hX, hbl, hlocks, hgv⟩ := id C0
  have hts := lw_hts hts0
  have hbA : ¬ (fun q : Nat => s.heap.size ≤ q) b := Nat.not_le.mpr hbl
  have hKx := hK.sub (tys' := x_ty cI cJ) [0, 1] rfl
  have hdis' : ∀ j k, j < m_n → k < x_n → adm j ≠ adx k := fun j k h1 h2 h3 => hdis k j h2 h1 h3.symm
  intro x3 σ μ H locs ls h hPx hDx hPm hDm hS hl
  unfold b_law_1072 at h
  refine lv_aload_n hx hb dL_law_1072 rfl (lv_at hl 1 rfl) ?_
  refine zlx_i [] ⟨hx, hb, hml, hown, hts⟩ (c_X11_image N l dC dI adx cI cJ _ σ  _ h) (cw_X11_image hts mw_801 rfl rfl ⟨Nat.le_of_ble_eq_true rfl, Nat.le_of_ble_eq_true rfl⟩) rfl rfl hKx hPx hDx hPm hdis hS rfl hl.1 (rest := []) (Nat.le_of_ble_eq_true rfl) rfl ⟨Nat.le_of_ble_eq_true rfl, Nat.le_of_ble_eq_true rfl⟩ dL_law_1073 (fun r1 τ2 H locs h hPx hDx hPm hS => ?_)
  refine lv_aload_n hx hb dL_law_1076 rfl (lv_at hl 2 rfl) ?_
  refine zlm_i [] ⟨hx, hb, hml, hown, hts⟩ (c_X12_image N l dC dI adm cI cJ cC _ μ  _ h) (cw_X12_image hts mw_1305 rfl rfl ⟨Nat.le_of_ble_eq_true rfl, Nat.le_of_ble_eq_true rfl⟩) rfl rfl hK hPm hDm hPx hdis' hS rfl hl.1 (rest := [.int r1]) (Nat.le_of_ble_eq_true rfl) rfl ⟨Nat.le_of_ble_eq_true rfl, Nat.le_of_ble_eq_true rfl⟩ dL_law_1077 (fun r3 τ4 H locs h hPm hDm hPx hS => ?_)
  refine lv_icmp_eq (tgt := 1121) hx hb dL_law_1080 (by decide) (fun hc => ?_) (fun hc => ?_)
  · have h := h.1 hc
    obtain ⟨v5, ev5⟩ : ∃ z : Int32, z = x3 + (6 : Int32) := ⟨_, rfl⟩
    have h := h v5 ev5
    refine lv_iinc (v := v5) (lv' := [(3, .int v5), (0, .ref b), (1, .ref (adx 0)), (2, .ref (adm 0))]) hx hb dL_law_1121 hl (k := 3) rfl (by rw [ev5]; rfl) (by decide) rfl (fun ls hl => ?_)
    refine lv_goto (tgt := 18) hx hb dL_law_1124 (by decide) ?_
    exact hk_18 v5 τ2 τ4 _ _ _ h hPx hDx hPm hDm hS (lv_sub hl [1, 2, 3, 0] rfl)
  · have h := h.2 hc
    refine lv_iconst (v := (0 : Int32)) hx hb dL_law_1083 (by decide) ?_
    exact h.elim
set_option maxHeartbeats 4000000 in
set_option maxRecDepth 100000 in
theorem t_law_1085 (C0 : lw_At p s m meth c b L xs) (hK : va_K (dC, dI) vwCl (m_ty cI cJ cC) s) (hdis : ∀ j k, j < x_n → k < m_n → adx j ≠ adm k) (N : Nat) {k_18 : Int32 → zSt → zSt → Prop} (hk_18 : ∀ (x3 : Int32) (σ μ : zSt) (H : Heap) (locs : List Loc) (ls : Array Slot), k_18 x3 σ μ → va_P (dC, dI) vwCl (x_W adx cI cJ σ) H → va_D (fun q : Nat => s.heap.size ≤ q) (x_W adx cI cJ σ) → va_P (dC, dI) vwCl (m_W adm cI cJ cC μ) H → va_D (fun q : Nat => s.heap.size ≤ q) (m_W adm cI cJ cC μ) → va_S (fun q : Nat => s.heap.size ≤ q) s.heap H locs → lv_has ls 4 [(0, .ref b), (1, .ref (adx 0)), (2, .ref (adm 0)), (3, .int x3)] → W p l e room_1 s m #[Value.ref b] below meth c H locs 108 37792 (lw_Z below #[Value.ref b] s) (F0 m 18 ls [])) : ∀ (x3 : Int32) (σ μ : zSt) (H : Heap) (locs : List Loc) (ls : Array Slot), b_law_1085 N k_18 L xs x3 σ μ → va_P (dC, dI) vwCl (x_W adx cI cJ σ) H → va_D (fun q : Nat => s.heap.size ≤ q) (x_W adx cI cJ σ) → va_P (dC, dI) vwCl (m_W adm cI cJ cC μ) H → va_D (fun q : Nat => s.heap.size ≤ q) (m_W adm cI cJ cC μ) → va_S (fun q : Nat => s.heap.size ≤ q) s.heap H locs → lv_has ls 4 [(0, .ref b), (1, .ref (adx 0)), (2, .ref (adm 0)), (3, .int x3)] → W p l e room_1 s m #[Value.ref b] below meth c H locs 108 37792 (lw_Z below #[Value.ref b] s) (F0 m 1085 ls []) := by
  obtain ⟨hx, hb, hr, hml, hown, hts0, hX, hbl, hlocks, hgv⟩ := id C0
  have hts := lw_hts hts0
  have hbA : ¬ (fun q : Nat => s.heap.size ≤ q) b := Nat.not_le.mpr hbl
  have hKx := hK.sub (tys' := x_ty cI cJ) [0, 1] rfl
  have hdis' : ∀ j k, j < m_n → k < x_n → adm j ≠ adx k := fun j k h1 h2 h3 => hdis k j h2 h1 h3.symm
  intro x3 σ μ H locs ls h hPx hDx hPm hDm hS hl
  unfold b_law_1085 at h
  refine lv_aload_n hx hb dL_law_1085 rfl (lv_at hl 1 rfl) ?_
  refine lv_aload_n hx hb dL_law_1086 rfl (lv_at hl 0 rfl) ?_
  refine lv_iload_n hx hb dL_law_1087 rfl (lv_at hl 3 rfl) ?_
  refine lv_iconst (v := (1 : Int32)) hx hb dL_law_1088 (by decide) ?_
  refine lv_iadd hx hb dL_law_1089 ?_
  refine va_sld hx hb hX hbl hbA hS h.1 dL_law_1090 ?_
  have h := h.2
  refine zlx_i [.int (xs (x3 + (1 : Int32)).toNatClampNeg)] ⟨hx, hb, hml, hown, hts⟩ (c_X11_octet N l dC dI adx cI cJ _ σ (xs (x3 + (1 : Int32)).toNatClampNeg) _ h) (cw_X11_octet hts mw_805 rfl rfl ⟨Nat.le_of_ble_eq_true rfl, Nat.le_of_ble_eq_true rfl⟩) rfl rfl hKx hPx hDx hPm hdis hS rfl hl.1 (rest := []) (Nat.le_of_ble_eq_true rfl) rfl ⟨Nat.le_of_ble_eq_true rfl, Nat.le_of_ble_eq_true rfl⟩ dL_law_1091 (fun r1 τ2 H locs h hPx hDx hPm hS => ?_)
  refine lv_aload_n hx hb dL_law_1094 rfl (lv_at hl 2 rfl) ?_
  refine lv_aload_n hx hb dL_law_1095 rfl (lv_at hl 0 rfl) ?_
  refine lv_iload_n hx hb dL_law_1096 rfl (lv_at hl 3 rfl) ?_
  refine lv_iconst (v := (1 : Int32)) hx hb dL_law_1097 (by decide) ?_
  refine lv_iadd hx hb dL_law_1098 ?_
  refine va_sld hx hb hX hbl hbA hS h.1 dL_law_1099 ?_
  have h := h.2
  refine zlm_i [.int (xs (x3 + (1 : Int32)).toNatClampNeg)] ⟨hx, hb, hml, hown, hts⟩ (c_X12_octet N l dC dI adm cI cJ cC _ μ (xs (x3 + (1 : Int32)).toNatClampNeg) _ h) (cw_X12_octet hts mw_1313 rfl rfl ⟨Nat.le_of_ble_eq_true rfl, Nat.le_of_ble_eq_true rfl⟩) rfl rfl hK hPm hDm hPx hdis' hS rfl hl.1 (rest := [.int r1]) (Nat.le_of_ble_eq_true rfl) rfl ⟨Nat.le_of_ble_eq_true rfl, Nat.le_of_ble_eq_true rfl⟩ dL_law_1100 (fun r3 τ4 H locs h hPm hDm hPx hS => ?_)
  refine lv_icmp_eq (tgt := 1121) hx hb dL_law_1103 (by decide) (fun hc => ?_) (fun hc => ?_)
  · have h := h.1 hc
    obtain ⟨v5, ev5⟩ : ∃ z : Int32, z = x3 + (6 : Int32) := ⟨_, rfl⟩
    have h := h v5 ev5
    refine lv_iinc (v := v5) (lv' := [(3, .int v5), (0, .ref b), (1, .ref (adx 0)), (2, .ref (adm 0))]) hx hb dL_law_1121 hl (k := 3) rfl (by rw [ev5]; rfl) (by decide) rfl (fun ls hl => ?_)
    refine lv_goto (tgt := 18) hx hb dL_law_1124 (by decide) ?_
    exact hk_18 v5 τ2 τ4 _ _ _ h hPx hDx hPm hDm hS (lv_sub hl [1, 2, 3, 0] rfl)
  · have h := h.2 hc
    refine lv_iconst (v := (0 : Int32)) hx hb dL_law_1106 (by decide) ?_
    exact h.elim
set_option maxHeartbeats 4000000 in
set_option maxRecDepth 100000 in
theorem t_law_1108 (C0 : lw_At p s m meth c b L xs) (hK : va_K (dC, dI) vwCl (m_ty cI cJ cC) s) (hdis : ∀ j k, j < x_n → k < m_n → adx j ≠ adm k) (N : Nat) {k_18 : Int32 → zSt → zSt → Prop} (hk_18 : ∀ (x3 : Int32) (σ μ : zSt) (H : Heap) (locs : List Loc) (ls : Array Slot), k_18 x3 σ μ → va_P (dC, dI) vwCl (x_W adx cI cJ σ) H → va_D (fun q : Nat => s.heap.size ≤ q) (x_W adx cI cJ σ) → va_P (dC, dI) vwCl (m_W adm cI cJ cC μ) H → va_D (fun q : Nat => s.heap.size ≤ q) (m_W adm cI cJ cC μ) → va_S (fun q : Nat => s.heap.size ≤ q) s.heap H locs → lv_has ls 4 [(0, .ref b), (1, .ref (adx 0)), (2, .ref (adm 0)), (3, .int x3)] → W p l e room_1 s m #[Value.ref b] below meth c H locs 108 37792 (lw_Z below #[Value.ref b] s) (F0 m 18 ls [])) : ∀ (x3 : Int32) (σ μ : zSt) (H : Heap) (locs : List Loc) (ls : Array Slot), b_law_1108 N k_18 L xs x3 σ μ → va_P (dC, dI) vwCl (x_W adx cI cJ σ) H → va_D (fun q : Nat => s.heap.size ≤ q) (x_W adx cI cJ σ) → va_P (dC, dI) vwCl (m_W adm cI cJ cC μ) H → va_D (fun q : Nat => s.heap.size ≤ q) (m_W adm cI cJ cC μ) → va_S (fun q : Nat => s.heap.size ≤ q) s.heap H locs → lv_has ls 4 [(0, .ref b), (1, .ref (adx 0)), (2, .ref (adm 0)), (3, .int x3)] → W p l e room_1 s m #[Value.ref b] below meth c H locs 108 37792 (lw_Z below #[Value.ref b] s) (F0 m 1108 ls []) := by
  obtain ⟨hx, hb, hr, hml, hown, hts0, hX, hbl, hlocks, hgv⟩ := id C0
  have hts := lw_hts hts0
  have hbA : ¬ (fun q : Nat => s.heap.size ≤ q) b := Nat.not_le.mpr hbl
  have hKx := hK.sub (tys' := x_ty cI cJ) [0, 1] rfl
  have hdis' : ∀ j k, j < m_n → k < x_n → adm j ≠ adx k := fun j k h1 h2 h3 => hdis k j h2 h1 h3.symm
  intro x3 σ μ H locs ls h hPx hDx hPm hDm hS hl
  unfold b_law_1108 at h
  refine lv_aload_n hx hb dL_law_1108 rfl (lv_at hl 1 rfl) ?_
  refine zlx_i [] ⟨hx, hb, hml, hown, hts⟩ (c_X11_on N l dC dI adx cI cJ _ σ  _ h) (cw_X11_on hts mw_809 rfl rfl ⟨Nat.le_of_ble_eq_true rfl, Nat.le_of_ble_eq_true rfl⟩) rfl rfl hKx hPx hDx hPm hdis hS rfl hl.1 (rest := []) (Nat.le_of_ble_eq_true rfl) rfl ⟨Nat.le_of_ble_eq_true rfl, Nat.le_of_ble_eq_true rfl⟩ dL_law_1109 (fun r1 τ2 H locs h hPx hDx hPm hS => ?_)
  refine lv_aload_n hx hb dL_law_1112 rfl (lv_at hl 2 rfl) ?_
  refine zlm_i [] ⟨hx, hb, hml, hown, hts⟩ (c_X12_on N l dC dI adm cI cJ cC _ μ  _ h) (cw_X12_on hts mw_1317 rfl rfl ⟨Nat.le_of_ble_eq_true rfl, Nat.le_of_ble_eq_true rfl⟩) rfl rfl hK hPm hDm hPx hdis' hS rfl hl.1 (rest := [.int r1]) (Nat.le_of_ble_eq_true rfl) rfl ⟨Nat.le_of_ble_eq_true rfl, Nat.le_of_ble_eq_true rfl⟩ dL_law_1113 (fun r3 τ4 H locs h hPm hDm hPx hS => ?_)
  refine lv_icmp_eq (tgt := 1121) hx hb dL_law_1116 (by decide) (fun hc => ?_) (fun hc => ?_)
  · have h := h.1 hc
    obtain ⟨v5, ev5⟩ : ∃ z : Int32, z = x3 + (6 : Int32) := ⟨_, rfl⟩
    have h := h v5 ev5
    refine lv_iinc (v := v5) (lv' := [(3, .int v5), (0, .ref b), (1, .ref (adx 0)), (2, .ref (adm 0))]) hx hb dL_law_1121 hl (k := 3) rfl (by rw [ev5]; rfl) (by decide) rfl (fun ls hl => ?_)
    refine lv_goto (tgt := 18) hx hb dL_law_1124 (by decide) ?_
    exact hk_18 v5 τ2 τ4 _ _ _ h hPx hDx hPm hDm hS (lv_sub hl [1, 2, 3, 0] rfl)
  · have h := h.2 hc
    refine lv_iconst (v := (0 : Int32)) hx hb dL_law_1119 (by decide) ?_
    exact h.elim
set_option maxHeartbeats 4000000 in
set_option maxRecDepth 100000 in
theorem tb_law_18 (C0 : lw_At p s m meth c b L xs) (hK : va_K (dC, dI) vwCl (m_ty cI cJ cC) s) (hdis : ∀ j k, j < x_n → k < m_n → adx j ≠ adm k) (N : Nat) {k_18 : Int32 → zSt → zSt → Prop} (hk_18 : ∀ (x3 : Int32) (σ μ : zSt) (H : Heap) (locs : List Loc) (ls : Array Slot), k_18 x3 σ μ → va_P (dC, dI) vwCl (x_W adx cI cJ σ) H → va_D (fun q : Nat => s.heap.size ≤ q) (x_W adx cI cJ σ) → va_P (dC, dI) vwCl (m_W adm cI cJ cC μ) H → va_D (fun q : Nat => s.heap.size ≤ q) (m_W adm cI cJ cC μ) → va_S (fun q : Nat => s.heap.size ≤ q) s.heap H locs → lv_has ls 4 [(0, .ref b), (1, .ref (adx 0)), (2, .ref (adm 0)), (3, .int x3)] → W p l e room_1 s m #[Value.ref b] below meth c H locs 108 37792 (lw_Z below #[Value.ref b] s) (F0 m 18 ls [])) : ∀ (x3 : Int32) (σ μ : zSt) (H : Heap) (locs : List Loc) (ls : Array Slot), b_law_18 N k_18 L xs x3 σ μ → va_P (dC, dI) vwCl (x_W adx cI cJ σ) H → va_D (fun q : Nat => s.heap.size ≤ q) (x_W adx cI cJ σ) → va_P (dC, dI) vwCl (m_W adm cI cJ cC μ) H → va_D (fun q : Nat => s.heap.size ≤ q) (m_W adm cI cJ cC μ) → va_S (fun q : Nat => s.heap.size ≤ q) s.heap H locs → lv_has ls 4 [(0, .ref b), (1, .ref (adx 0)), (2, .ref (adm 0)), (3, .int x3)] → W p l e room_1 s m #[Value.ref b] below meth c H locs 108 37792 (lw_Z below #[Value.ref b] s) (F0 m 18 ls []) := by
  obtain ⟨hx, hb, hr, hml, hown, hts0, hX, hbl, hlocks, hgv⟩ := id C0
  have hts := lw_hts hts0
  have hbA : ¬ (fun q : Nat => s.heap.size ≤ q) b := Nat.not_le.mpr hbl
  have hKx := hK.sub (tys' := x_ty cI cJ) [0, 1] rfl
  have hdis' : ∀ j k, j < m_n → k < x_n → adm j ≠ adx k := fun j k h1 h2 h3 => hdis k j h2 h1 h3.symm
  intro x3 σ μ H locs ls h hPx hDx hPm hDm hS hl
  unfold b_law_18 at h
  refine lv_iload_n hx hb dL_law_18 rfl (lv_at hl 3 rfl) ?_
  refine lv_aload_n hx hb dL_law_19 rfl (lv_at hl 0 rfl) ?_
  refine va_slen hx hb hX hbl hbA hS dL_law_20 ?_
  refine lv_bipush (v := (6 : Int32)) hx hb dL_law_21 (by decide) ?_
  refine lv_isub hx hb dL_law_23 ?_
  refine lv_icmp_gt (tgt := 1127) hx hb dL_law_24 (by decide) (fun hc => ?_) (fun hc => ?_)
  · have h := h.1 hc
    refine lv_iconst (v := (1 : Int32)) hx hb dL_law_1127 (by decide) ?_
    exact W.widen (k := 600000) (n := 7302250) (Nat.le_of_ble_eq_true rfl) (Nat.le_of_ble_eq_true rfl) (lw_fin hS C0 dL_law_1128)
  · have h := h.2 hc
    refine lv_aload_n hx hb dL_law_27 rfl (lv_at hl 0 rfl) ?_
    refine lv_iload_n hx hb dL_law_28 rfl (lv_at hl 3 rfl) ?_
    refine va_sld hx hb hX hbl hbA hS h.1 dL_law_29 ?_
    have h := h.2
    refine lv_bipush (v := (31 : Int32)) hx hb dL_law_30 (by decide) ?_
    refine lv_iand hx hb dL_law_32 ?_
    refine lv_topi (fun v1 ev1 => ?_)
    have h := h v1 ev1
    by_cases hc0 : v1 = (0 : Int32)
    · have h := h.1 hc0
      refine lv_tableIn (off := 143) (tgt := 176) hx hb dL_law_33 (by rw [hc0]; decide) (by rw [hc0]; decide) (by rw [hc0]; rfl) (by decide) ?_
      exact t_law_176 C0 hK hdis N hk_18 x3 σ μ _ _ _ h hPx hDx hPm hDm hS (lv_sub hl [0, 1, 2, 3] rfl)
    · have hn0 := hc0
      have h := h.2 hc0
      by_cases hc1 : v1 = (1 : Int32)
      · have h := h.1 hc1
        refine lv_tableIn (off := 206) (tgt := 239) hx hb dL_law_33 (by rw [hc1]; decide) (by rw [hc1]; decide) (by rw [hc1]; rfl) (by decide) ?_
        exact t_law_239 C0 hK hdis N hk_18 x3 σ μ _ _ _ h hPx hDx hPm hDm hS (lv_sub hl [0, 1, 2, 3] rfl)
      · have hn1 := hc1
        have h := h.2 hc1
        by_cases hc2 : v1 = (2 : Int32)
        · have h := h.1 hc2
          refine lv_tableIn (off := 229) (tgt := 262) hx hb dL_law_33 (by rw [hc2]; decide) (by rw [hc2]; decide) (by rw [hc2]; rfl) (by decide) ?_
          exact t_law_262 C0 hK hdis N hk_18 x3 σ μ _ _ _ h hPx hDx hPm hDm hS (lv_sub hl [0, 1, 2, 3] rfl)
        · have hn2 := hc2
          have h := h.2 hc2
          by_cases hc3 : v1 = (3 : Int32)
          · have h := h.1 hc3
            refine lv_tableIn (off := 242) (tgt := 275) hx hb dL_law_33 (by rw [hc3]; decide) (by rw [hc3]; decide) (by rw [hc3]; rfl) (by decide) ?_
            exact t_law_275 C0 hK hdis N hk_18 x3 σ μ _ _ _ h hPx hDx hPm hDm hS (lv_sub hl [0, 1, 2, 3] rfl)
          · have hn3 := hc3
            have h := h.2 hc3
            by_cases hc4 : v1 = (4 : Int32)
            · have h := h.1 hc4
              refine lv_tableIn (off := 265) (tgt := 298) hx hb dL_law_33 (by rw [hc4]; decide) (by rw [hc4]; decide) (by rw [hc4]; rfl) (by decide) ?_
              exact t_law_298 C0 hK hdis N hk_18 x3 σ μ _ _ _ h hPx hDx hPm hDm hS (lv_sub hl [0, 1, 2, 3] rfl)
            · have hn4 := hc4
              have h := h.2 hc4
              by_cases hc5 : v1 = (5 : Int32)
              · have h := h.1 hc5
                refine lv_tableIn (off := 288) (tgt := 321) hx hb dL_law_33 (by rw [hc5]; decide) (by rw [hc5]; decide) (by rw [hc5]; rfl) (by decide) ?_
                exact t_law_321 C0 hK hdis N hk_18 x3 σ μ _ _ _ h hPx hDx hPm hDm hS (lv_sub hl [0, 1, 2, 3] rfl)
              · have hn5 := hc5
                have h := h.2 hc5
                by_cases hc6 : v1 = (6 : Int32)
                · have h := h.1 hc6
                  refine lv_tableIn (off := 321) (tgt := 354) hx hb dL_law_33 (by rw [hc6]; decide) (by rw [hc6]; decide) (by rw [hc6]; rfl) (by decide) ?_
                  exact t_law_354 C0 hK hdis N hk_18 x3 σ μ _ _ _ h hPx hDx hPm hDm hS (lv_sub hl [0, 1, 2, 3] rfl)
                · have hn6 := hc6
                  have h := h.2 hc6
                  by_cases hc7 : v1 = (7 : Int32)
                  · have h := h.1 hc7
                    refine lv_tableIn (off := 374) (tgt := 407) hx hb dL_law_33 (by rw [hc7]; decide) (by rw [hc7]; decide) (by rw [hc7]; rfl) (by decide) ?_
                    exact t_law_407 C0 hK hdis N hk_18 x3 σ μ _ _ _ h hPx hDx hPm hDm hS (lv_sub hl [0, 1, 2, 3] rfl)
                  · have hn7 := hc7
                    have h := h.2 hc7
                    by_cases hc8 : v1 = (8 : Int32)
                    · have h := h.1 hc8
                      refine lv_tableIn (off := 388) (tgt := 421) hx hb dL_law_33 (by rw [hc8]; decide) (by rw [hc8]; decide) (by rw [hc8]; rfl) (by decide) ?_
                      exact t_law_421 C0 hK hdis N hk_18 x3 σ μ _ _ _ h hPx hDx hPm hDm hS (lv_sub hl [0, 1, 2, 3] rfl)
                    · have hn8 := hc8
                      have h := h.2 hc8
                      by_cases hc9 : v1 = (9 : Int32)
                      · have h := h.1 hc9
                        refine lv_tableIn (off := 422) (tgt := 455) hx hb dL_law_33 (by rw [hc9]; decide) (by rw [hc9]; decide) (by rw [hc9]; rfl) (by decide) ?_
                        exact t_law_455 C0 hK hdis N hk_18 x3 σ μ _ _ _ h hPx hDx hPm hDm hS (lv_sub hl [0, 1, 2, 3] rfl)
                      · have hn9 := hc9
                        have h := h.2 hc9
                        by_cases hc10 : v1 = (10 : Int32)
                        · have h := h.1 hc10
                          refine lv_tableIn (off := 445) (tgt := 478) hx hb dL_law_33 (by rw [hc10]; decide) (by rw [hc10]; decide) (by rw [hc10]; rfl) (by decide) ?_
                          exact t_law_478 C0 hK hdis N hk_18 x3 σ μ _ _ _ h hPx hDx hPm hDm hS (lv_sub hl [0, 1, 2, 3] rfl)
                        · have hn10 := hc10
                          have h := h.2 hc10
                          by_cases hc11 : v1 = (11 : Int32)
                          · have h := h.1 hc11
                            refine lv_tableIn (off := 469) (tgt := 502) hx hb dL_law_33 (by rw [hc11]; decide) (by rw [hc11]; decide) (by rw [hc11]; rfl) (by decide) ?_
                            exact t_law_502 C0 hK hdis N hk_18 x3 σ μ _ _ _ h hPx hDx hPm hDm hS (lv_sub hl [0, 1, 2, 3] rfl)
                          · have hn11 := hc11
                            have h := h.2 hc11
                            by_cases hc12 : v1 = (12 : Int32)
                            · have h := h.1 hc12
                              refine lv_tableIn (off := 502) (tgt := 535) hx hb dL_law_33 (by rw [hc12]; decide) (by rw [hc12]; decide) (by rw [hc12]; rfl) (by decide) ?_
                              exact t_law_535 C0 hK hdis N hk_18 x3 σ μ _ _ _ h hPx hDx hPm hDm hS (lv_sub hl [0, 1, 2, 3] rfl)
                            · have hn12 := hc12
                              have h := h.2 hc12
                              by_cases hc13 : v1 = (13 : Int32)
                              · have h := h.1 hc13
                                refine lv_tableIn (off := 525) (tgt := 558) hx hb dL_law_33 (by rw [hc13]; decide) (by rw [hc13]; decide) (by rw [hc13]; rfl) (by decide) ?_
                                exact t_law_558 C0 hK hdis N hk_18 x3 σ μ _ _ _ h hPx hDx hPm hDm hS (lv_sub hl [0, 1, 2, 3] rfl)
                              · have hn13 := hc13
                                have h := h.2 hc13
                                by_cases hc14 : v1 = (14 : Int32)
                                · have h := h.1 hc14
                                  refine lv_tableIn (off := 549) (tgt := 582) hx hb dL_law_33 (by rw [hc14]; decide) (by rw [hc14]; decide) (by rw [hc14]; rfl) (by decide) ?_
                                  exact t_law_582 C0 hK hdis N hk_18 x3 σ μ _ _ _ h hPx hDx hPm hDm hS (lv_sub hl [0, 1, 2, 3] rfl)
                                · have hn14 := hc14
                                  have h := h.2 hc14
                                  by_cases hc15 : v1 = (15 : Int32)
                                  · have h := h.1 hc15
                                    refine lv_tableIn (off := 572) (tgt := 605) hx hb dL_law_33 (by rw [hc15]; decide) (by rw [hc15]; decide) (by rw [hc15]; rfl) (by decide) ?_
                                    exact t_law_605 C0 hK hdis N hk_18 x3 σ μ _ _ _ h hPx hDx hPm hDm hS (lv_sub hl [0, 1, 2, 3] rfl)
                                  · have hn15 := hc15
                                    have h := h.2 hc15
                                    by_cases hc16 : v1 = (16 : Int32)
                                    · have h := h.1 hc16
                                      refine lv_tableIn (off := 585) (tgt := 618) hx hb dL_law_33 (by rw [hc16]; decide) (by rw [hc16]; decide) (by rw [hc16]; rfl) (by decide) ?_
                                      exact t_law_618 C0 hK hdis N hk_18 x3 σ μ _ _ _ h hPx hDx hPm hDm hS (lv_sub hl [0, 1, 2, 3] rfl)
                                    · have hn16 := hc16
                                      have h := h.2 hc16
                                      by_cases hc17 : v1 = (17 : Int32)
                                      · have h := h.1 hc17
                                        refine lv_tableIn (off := 609) (tgt := 642) hx hb dL_law_33 (by rw [hc17]; decide) (by rw [hc17]; decide) (by rw [hc17]; rfl) (by decide) ?_
                                        exact t_law_642 C0 hK hdis N hk_18 x3 σ μ _ _ _ h hPx hDx hPm hDm hS (lv_sub hl [0, 1, 2, 3] rfl)
                                      · have hn17 := hc17
                                        have h := h.2 hc17
                                        by_cases hc18 : v1 = (18 : Int32)
                                        · have h := h.1 hc18
                                          refine lv_tableIn (off := 658) (tgt := 691) hx hb dL_law_33 (by rw [hc18]; decide) (by rw [hc18]; decide) (by rw [hc18]; rfl) (by decide) ?_
                                          exact t_law_691 C0 hK hdis N hk_18 x3 σ μ _ _ _ h hPx hDx hPm hDm hS (lv_sub hl [0, 1, 2, 3] rfl)
                                        · have hn18 := hc18
                                          have h := h.2 hc18
                                          by_cases hc19 : v1 = (19 : Int32)
                                          · have h := h.1 hc19
                                            refine lv_tableIn (off := 682) (tgt := 715) hx hb dL_law_33 (by rw [hc19]; decide) (by rw [hc19]; decide) (by rw [hc19]; rfl) (by decide) ?_
                                            exact t_law_715 C0 hK hdis N hk_18 x3 σ μ _ _ _ h hPx hDx hPm hDm hS (lv_sub hl [0, 1, 2, 3] rfl)
                                          · have hn19 := hc19
                                            have h := h.2 hc19
                                            by_cases hc20 : v1 = (20 : Int32)
                                            · have h := h.1 hc20
                                              refine lv_tableIn (off := 696) (tgt := 729) hx hb dL_law_33 (by rw [hc20]; decide) (by rw [hc20]; decide) (by rw [hc20]; rfl) (by decide) ?_
                                              exact t_law_729 C0 hK hdis N hk_18 x3 σ μ _ _ _ h hPx hDx hPm hDm hS (lv_sub hl [0, 1, 2, 3] rfl)
                                            · have hn20 := hc20
                                              have h := h.2 hc20
                                              by_cases hc21 : v1 = (21 : Int32)
                                              · have h := h.1 hc21
                                                refine lv_tableIn (off := 746) (tgt := 779) hx hb dL_law_33 (by rw [hc21]; decide) (by rw [hc21]; decide) (by rw [hc21]; rfl) (by decide) ?_
                                                exact t_law_779 C0 hK hdis N hk_18 x3 σ μ _ _ _ h hPx hDx hPm hDm hS (lv_sub hl [0, 1, 2, 3] rfl)
                                              · have hn21 := hc21
                                                have h := h.2 hc21
                                                by_cases hc22 : v1 = (22 : Int32)
                                                · have h := h.1 hc22
                                                  refine lv_tableIn (off := 759) (tgt := 792) hx hb dL_law_33 (by rw [hc22]; decide) (by rw [hc22]; decide) (by rw [hc22]; rfl) (by decide) ?_
                                                  exact t_law_792 C0 hK hdis N hk_18 x3 σ μ _ _ _ h hPx hDx hPm hDm hS (lv_sub hl [0, 1, 2, 3] rfl)
                                                · have hn22 := hc22
                                                  have h := h.2 hc22
                                                  by_cases hc23 : v1 = (23 : Int32)
                                                  · have h := h.1 hc23
                                                    refine lv_tableIn (off := 809) (tgt := 842) hx hb dL_law_33 (by rw [hc23]; decide) (by rw [hc23]; decide) (by rw [hc23]; rfl) (by decide) ?_
                                                    exact t_law_842 C0 hK hdis N hk_18 x3 σ μ _ _ _ h hPx hDx hPm hDm hS (lv_sub hl [0, 1, 2, 3] rfl)
                                                  · have hn23 := hc23
                                                    have h := h.2 hc23
                                                    by_cases hc24 : v1 = (24 : Int32)
                                                    · have h := h.1 hc24
                                                      refine lv_tableIn (off := 833) (tgt := 866) hx hb dL_law_33 (by rw [hc24]; decide) (by rw [hc24]; decide) (by rw [hc24]; rfl) (by decide) ?_
                                                      exact t_law_866 C0 hK hdis N hk_18 x3 σ μ _ _ _ h hPx hDx hPm hDm hS (lv_sub hl [0, 1, 2, 3] rfl)
                                                    · have hn24 := hc24
                                                      have h := h.2 hc24
                                                      by_cases hc25 : v1 = (25 : Int32)
                                                      · have h := h.1 hc25
                                                        refine lv_tableIn (off := 893) (tgt := 926) hx hb dL_law_33 (by rw [hc25]; decide) (by rw [hc25]; decide) (by rw [hc25]; rfl) (by decide) ?_
                                                        exact t_law_926 C0 hK hdis N hk_18 x3 σ μ _ _ _ h hPx hDx hPm hDm hS (lv_sub hl [0, 1, 2, 3] rfl)
                                                      · have hn25 := hc25
                                                        have h := h.2 hc25
                                                        by_cases hc26 : v1 = (26 : Int32)
                                                        · have h := h.1 hc26
                                                          refine lv_tableIn (off := 933) (tgt := 966) hx hb dL_law_33 (by rw [hc26]; decide) (by rw [hc26]; decide) (by rw [hc26]; rfl) (by decide) ?_
                                                          exact t_law_966 C0 hK hdis N hk_18 x3 σ μ _ _ _ h hPx hDx hPm hDm hS (lv_sub hl [0, 1, 2, 3] rfl)
                                                        · have hn26 := hc26
                                                          have h := h.2 hc26
                                                          by_cases hc27 : v1 = (27 : Int32)
                                                          · have h := h.1 hc27
                                                            refine lv_tableIn (off := 1002) (tgt := 1035) hx hb dL_law_33 (by rw [hc27]; decide) (by rw [hc27]; decide) (by rw [hc27]; rfl) (by decide) ?_
                                                            exact t_law_1035 C0 hK hdis N hk_18 x3 σ μ _ _ _ h hPx hDx hPm hDm hS (lv_sub hl [0, 1, 2, 3] rfl)
                                                          · have hn27 := hc27
                                                            have h := h.2 hc27
                                                            by_cases hc28 : v1 = (28 : Int32)
                                                            · have h := h.1 hc28
                                                              refine lv_tableIn (off := 1025) (tgt := 1058) hx hb dL_law_33 (by rw [hc28]; decide) (by rw [hc28]; decide) (by rw [hc28]; rfl) (by decide) ?_
                                                              exact t_law_1058 C0 hK hdis N hk_18 x3 σ μ _ _ _ h hPx hDx hPm hDm hS (lv_sub hl [0, 1, 2, 3] rfl)
                                                            · have hn28 := hc28
                                                              have h := h.2 hc28
                                                              by_cases hc29 : v1 = (29 : Int32)
                                                              · have h := h.1 hc29
                                                                refine lv_tableIn (off := 1039) (tgt := 1072) hx hb dL_law_33 (by rw [hc29]; decide) (by rw [hc29]; decide) (by rw [hc29]; rfl) (by decide) ?_
                                                                exact t_law_1072 C0 hK hdis N hk_18 x3 σ μ _ _ _ h hPx hDx hPm hDm hS (lv_sub hl [0, 1, 2, 3] rfl)
                                                              · have hn29 := hc29
                                                                have h := h.2 hc29
                                                                by_cases hc30 : v1 = (30 : Int32)
                                                                · have h := h.1 hc30
                                                                  refine lv_tableIn (off := 1052) (tgt := 1085) hx hb dL_law_33 (by rw [hc30]; decide) (by rw [hc30]; decide) (by rw [hc30]; rfl) (by decide) ?_
                                                                  exact t_law_1085 C0 hK hdis N hk_18 x3 σ μ _ _ _ h hPx hDx hPm hDm hS (lv_sub hl [0, 1, 2, 3] rfl)
                                                                · have hn30 := hc30
                                                                  have h := h.2 hc30
                                                                  by_cases hc31 : v1 = (31 : Int32)
                                                                  · have h := h.1 hc31
                                                                    refine lv_tableIn (off := 1075) (tgt := 1108) hx hb dL_law_33 (by rw [hc31]; decide) (by rw [hc31]; decide) (by rw [hc31]; rfl) (by decide) ?_
                                                                    exact t_law_1108 C0 hK hdis N hk_18 x3 σ μ _ _ _ h hPx hDx hPm hDm hS (lv_sub hl [0, 1, 2, 3] rfl)
                                                                  · have hn31 := hc31
                                                                    have h := h.2 hc31
                                                                    refine lv_tableOut (tgt := 1121) hx hb dL_law_33 (by have e0 := zne (k := 0) (by decide) hn0; have e1 := zne (k := 1) (by decide) hn1; have e2 := zne (k := 2) (by decide) hn2; have e3 := zne (k := 3) (by decide) hn3; have e4 := zne (k := 4) (by decide) hn4; have e5 := zne (k := 5) (by decide) hn5; have e6 := zne (k := 6) (by decide) hn6; have e7 := zne (k := 7) (by decide) hn7; have e8 := zne (k := 8) (by decide) hn8; have e9 := zne (k := 9) (by decide) hn9; have e10 := zne (k := 10) (by decide) hn10; have e11 := zne (k := 11) (by decide) hn11; have e12 := zne (k := 12) (by decide) hn12; have e13 := zne (k := 13) (by decide) hn13; have e14 := zne (k := 14) (by decide) hn14; have e15 := zne (k := 15) (by decide) hn15; have e16 := zne (k := 16) (by decide) hn16; have e17 := zne (k := 17) (by decide) hn17; have e18 := zne (k := 18) (by decide) hn18; have e19 := zne (k := 19) (by decide) hn19; have e20 := zne (k := 20) (by decide) hn20; have e21 := zne (k := 21) (by decide) hn21; have e22 := zne (k := 22) (by decide) hn22; have e23 := zne (k := 23) (by decide) hn23; have e24 := zne (k := 24) (by decide) hn24; have e25 := zne (k := 25) (by decide) hn25; have e26 := zne (k := 26) (by decide) hn26; have e27 := zne (k := 27) (by decide) hn27; have e28 := zne (k := 28) (by decide) hn28; have e29 := zne (k := 29) (by decide) hn29; have e30 := zne (k := 30) (by decide) hn30; have e31 := zne (k := 31) (by decide) hn31; omega) (by decide) ?_
                                                                    obtain ⟨v2, ev2⟩ : ∃ z : Int32, z = x3 + (6 : Int32) := ⟨_, rfl⟩
                                                                    have h := h v2 ev2
                                                                    refine lv_iinc (v := v2) (lv' := [(3, .int v2), (0, .ref b), (1, .ref (adx 0)), (2, .ref (adm 0))]) hx hb dL_law_1121 hl (k := 3) rfl (by rw [ev2]; rfl) (by decide) rfl (fun ls hl => ?_)
                                                                    refine lv_goto (tgt := 18) hx hb dL_law_1124 (by decide) ?_
                                                                    exact hk_18 v2 σ μ _ _ _ h hPx hDx hPm hDm hS (lv_sub hl [1, 2, 3, 0] rfl)
theorem t_law (C0 : lw_At p s m meth c b L xs) (hK : va_K (dC, dI) vwCl (m_ty cI cJ cC) s) (hdis : ∀ j k, j < x_n → k < m_n → adx j ≠ adm k) (N : Nat) : ∀ (f : Nat) (x3 : Int32) (σ μ : zSt) (H : Heap) (locs : List Loc) (ls : Array Slot), w_law N L xs f x3 σ μ → va_P (dC, dI) vwCl (x_W adx cI cJ σ) H → va_D (fun q : Nat => s.heap.size ≤ q) (x_W adx cI cJ σ) → va_P (dC, dI) vwCl (m_W adm cI cJ cC μ) H → va_D (fun q : Nat => s.heap.size ≤ q) (m_W adm cI cJ cC μ) → va_S (fun q : Nat => s.heap.size ≤ q) s.heap H locs → lv_has ls 4 [(0, .ref b), (1, .ref (adx 0)), (2, .ref (adm 0)), (3, .int x3)] → W p l e room_1 s m #[Value.ref b] below meth c H locs 108 37792 (lw_Z below #[Value.ref b] s) (F0 m 18 ls []) := by
  intro f
  induction f with
  | zero => intro x3 σ μ H locs ls h; exact h.elim
  | succ f ih => exact tb_law_18 C0 hK hdis N ih
end ql
