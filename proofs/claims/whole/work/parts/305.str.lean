def zbyL : List Int32 := [119, 104, 111, 32, 97, 116, 32, 99, 111, 115, 116, 32, 119, 104, 101, 110, 32, 110, 101, 119, 115, 32, 98, 97, 114, 32, 109, 111, 115, 116, 32, 111, 114, 32, 97, 110, 100, 32, 110, 111, 116, 32, 97, 108, 108, 32, 105, 115, 32, 119, 97, 121, 115, 32, 109, 105, 108, 101, 115, 32, 109, 105, 110, 101, 32, 116, 104, 101, 105, 114, 115, 32, 116, 105, 101, 115, 32, 109, 105, 110, 32, 109, 97, 120, 32]
def zby (j : Nat) : Int32 := zbyL.getD j 0
/-- the String constant of the reader, and what its calls read of the JDK's statics -/
def zSf (q qv : Nat) (A : Nat → Prop) (U : State) (H : Heap) : Prop :=
  va_O "java/lang/String" q A U H ∧ va_OF "java/lang/String" "coder" "B" (.int 0) q A U H ∧ va_OF "java/lang/String" "value" "[B" (.ref qv) q A U H ∧ va_T .byte qv 85 (fun j => .int (zby j)) A U H ∧ va_Z "java/lang/String" "COMPACT_STRINGS" "Z" (.int 1) A U H ∧ va_Zq "jdk/internal/util/Preconditions" "SIOOBE_FORMATTER" "Ljava/util/function/BiFunction;" A U H
theorem zSf.moved {q qv : Nat} {A : Nat → Prop} {u U : State} {H : Heap} (hvm : u.vm.Alike U.vm) (h : zSf q qv A u H) : zSf q qv A U H :=
  ⟨va_O.moved hvm h.1, va_OF.moved hvm h.2.1, va_OF.moved hvm h.2.2.1, va_T.moved hvm h.2.2.2.1, va_Z.moved hvm h.2.2.2.2.1, va_Zq.moved hvm h.2.2.2.2.2⟩
theorem zSf.kept {q qv : Nat} {A : Nat → Prop} {U : State} {H H1 : Heap} (h : zSf q qv A U H) (hq : ∀ a : Nat, a < H.size → ¬ A a → H1[a]? = H[a]?) : zSf q qv A U H1 :=
  ⟨h.1.kept hq, h.2.1.kept hq, h.2.2.1.kept hq, h.2.2.2.1.kept hq, h.2.2.2.2.1.kept hq, h.2.2.2.2.2.kept hq⟩
theorem zSf.narrow {q qv : Nat} {A B : Nat → Prop} {U : State} {H : Heap} (h : zSf q qv A U H) (hAB : ∀ q, B q → A q) : zSf q qv B U H :=
  ⟨h.1.narrow hAB, h.2.1.narrow hAB, h.2.2.1.narrow hAB, h.2.2.2.1.narrow hAB, h.2.2.2.2.1.narrow hAB, h.2.2.2.2.2.narrow hAB⟩
abbrev zN0 : Nat → Prop := fun _ => False
def zPs (q qv : Nat) : State → Prop := fun U => zSf q qv zN0 U U.heap
theorem zPs_blind {vs : List Value} {q qv : Nat} : FrameBlind (va_Pc vs (zPs q qv)) := fun a U g mk h => ⟨h.1, zSf.moved (u := U) (U := U.calling g mk a) (Vm.Alike.refl U.vm) h.2⟩
abbrev zQs (r : Int32) := va_Qi (fun (x : Int32) (_ : Unit) => x = r) (fun _ _ => True) zN0
def vs_J0_coder_7d493 : List Cond := .code yJ0_coder_7d493 cJ0_coder_7d493 1 (some .byte) :: zT
def rm_J0_coder_7d493 : Room := { frames := 0, cells := 0, slots := 0, locals := 0 }
set_option maxHeartbeats 4000000 in
set_option maxRecDepth 100000 in
theorem c_J0_coder_7d493 (l : Launch) (q qv : Nat) : Met l yJ0_coder_7d493 vs_J0_coder_7d493 rm_J0_coder_7d493 (va_Pc [.ref q] (zPs q qv)) (zQs 0) 0 0 zN0 := by
  refine Met.ofW (cc := cJ0_coder_7d493) (maxL := 1) (ret := (some .byte)) (by decide) rfl ?_
  intro p e s m args below meth c s₁ B hml hv
  obtain ⟨rfl, hF⟩ := hv
  have hx := B.exec
  have hb := B.bytes
  have hr := B.returns
  have hts := atoms_spec (ws := vs_J0_coder_7d493) B.pre
  have hown : s.vm.findClass RJ0 = some m.cls := findClass_of_methodNamed B.named
  have hlocks := B.notSynchronized
  have hS : va_S zN0 s.heap s.heap [] := va_S.rf
  have hl := lv_entry ([.ref q]) (n := 1) (Nat.le_of_ble_eq_true rfl)
  rw [lg_entry_eq]
  generalize (lg_sl ([.ref q]) ++ List.replicate (1 - (lg_sl ([.ref q])).length) Slot.unset).toArray = ls at hl ⊢
  have hl : lv_has ls 1 [(0, .ref q)] := hl
  obtain ⟨h1, h2, h3, h4, h5, h6⟩ := id hF
  refine va_gets hx hb h5 hS hown (hts _ (List.mem_cons_of_mem _ mw_138)) (fun _ h9 => h9) dJ0_coder_7d493_0 ?_
  refine lv_if_eq (tgt := 13) hx hb dJ0_coder_7d493_3 (by decide) (fun hc => absurd hc (by decide)) (fun hc => ?_)
  refine lv_aload_n hx hb dJ0_coder_7d493_6 rfl (lv_at hl 0 rfl) ?_
  refine vk_getf hx hb h2 hS hown (hts _ (List.mem_cons_of_mem _ mw_1323)) (fun _ h9 => h9) dJ0_coder_7d493_7 ?_
  refine lv_goto (tgt := 14) hx hb dJ0_coder_7d493_10 (by decide) ?_
  exact W.zret (v := 0) hx hb hr rfl (fun t ht hW => ⟨⟨0, (), rfl, rfl, trivial⟩, hS.F ht⟩) hS.2.2 dJ0_coder_7d493_14
def vs_J0_isLatin1_aae02 : List Cond := .code yJ0_isLatin1_aae02 cJ0_isLatin1_aae02 1 (some .boolean) :: zT
def rm_J0_isLatin1_aae02 : Room := { frames := 0, cells := 0, slots := 0, locals := 0 }
set_option maxHeartbeats 4000000 in
set_option maxRecDepth 100000 in
theorem c_J0_isLatin1_aae02 (l : Launch) (q qv : Nat) : Met l yJ0_isLatin1_aae02 vs_J0_isLatin1_aae02 rm_J0_isLatin1_aae02 (va_Pc [.ref q] (zPs q qv)) (zQs 1) 0 0 zN0 := by
  refine Met.ofW (cc := cJ0_isLatin1_aae02) (maxL := 1) (ret := (some .boolean)) (by decide) rfl ?_
  intro p e s m args below meth c s₁ B hml hv
  obtain ⟨rfl, hF⟩ := hv
  have hx := B.exec
  have hb := B.bytes
  have hr := B.returns
  have hts := atoms_spec (ws := vs_J0_isLatin1_aae02) B.pre
  have hown : s.vm.findClass RJ0 = some m.cls := findClass_of_methodNamed B.named
  have hlocks := B.notSynchronized
  have hS : va_S zN0 s.heap s.heap [] := va_S.rf
  have hl := lv_entry ([.ref q]) (n := 1) (Nat.le_of_ble_eq_true rfl)
  rw [lg_entry_eq]
  generalize (lg_sl ([.ref q]) ++ List.replicate (1 - (lg_sl ([.ref q])).length) Slot.unset).toArray = ls at hl ⊢
  have hl : lv_has ls 1 [(0, .ref q)] := hl
  obtain ⟨h1, h2, h3, h4, h5, h6⟩ := id hF
  refine va_gets hx hb h5 hS hown (hts _ (List.mem_cons_of_mem _ mw_138)) (fun _ h9 => h9) dJ0_isLatin1_aae02_0 ?_
  refine lv_if_eq (tgt := 17) hx hb dJ0_isLatin1_aae02_3 (by decide) (fun hc => absurd hc (by decide)) (fun hc => ?_)
  refine lv_aload_n hx hb dJ0_isLatin1_aae02_6 rfl (lv_at hl 0 rfl) ?_
  refine vk_getf hx hb h2 hS hown (hts _ (List.mem_cons_of_mem _ mw_1323)) (fun _ h9 => h9) dJ0_isLatin1_aae02_7 ?_
  refine lv_if_ne (tgt := 17) hx hb dJ0_isLatin1_aae02_10 (by decide) (fun hc => absurd rfl hc) (fun hc => ?_)
  refine lv_iconst (v := 1) hx hb dJ0_isLatin1_aae02_13 (by decide) ?_
  refine lv_goto (tgt := 18) hx hb dJ0_isLatin1_aae02_14 (by decide) ?_
  exact W.zret (v := 1) hx hb hr rfl (fun t ht hW => ⟨⟨1, (), rfl, rfl, trivial⟩, hS.F ht⟩) hS.2.2 dJ0_isLatin1_aae02_18
theorem vk_recv0 {q : Nat} {A : Nat → Prop} {s : State} {H : Heap} {locs : List Loc} (hE : va_O "java/lang/String" q A s s.heap) (hS : va_S A s.heap H locs) : ∃ cell : Cell, H[q]? = some cell ∧ cell.vm.isStatics = false ∧ s.vm.findClass RJ0 = some cell.cls := by
  obtain ⟨cell, h1, h2, h3, -⟩ := hE.kept (fun a h9 h8 => hS.2.1 a h9 h8)
  exact ⟨cell, h1, h2, h3⟩
def vs_J0_length_8abf5 : List Cond := .code yJ0_length_8abf5 cJ0_length_8abf5 1 (some .int) :: zT
def rm_J0_length_8abf5 : Room := { frames := 1, cells := 0, slots := 0, locals := 40 }
set_option maxHeartbeats 4000000 in
set_option maxRecDepth 100000 in
theorem c_J0_length_8abf5 (l : Launch) (q qv : Nat) : Met l yJ0_length_8abf5 vs_J0_length_8abf5 rm_J0_length_8abf5 (va_Pc [.ref q] (zPs q qv)) (zQs 85) 0 0 zN0 := by
  refine Met.ofW (cc := cJ0_length_8abf5) (maxL := 1) (ret := (some .int)) (by decide) rfl ?_
  intro p e s m args below meth c s₁ B hml hv
  obtain ⟨rfl, hF⟩ := hv
  have hx := B.exec
  have hb := B.bytes
  have hr := B.returns
  have hts := atoms_spec (ws := vs_J0_length_8abf5) B.pre
  have hown : s.vm.findClass RJ0 = some m.cls := findClass_of_methodNamed B.named
  have hlocks := B.notSynchronized
  have hS : va_S zN0 s.heap s.heap [] := va_S.rf
  have hl := lv_entry ([.ref q]) (n := 1) (Nat.le_of_ble_eq_true rfl)
  rw [lg_entry_eq]
  generalize (lg_sl ([.ref q]) ++ List.replicate (1 - (lg_sl ([.ref q])).length) Slot.unset).toArray = ls at hl ⊢
  have hl : lv_has ls 1 [(0, .ref q)] := hl
  obtain ⟨h1, h2, h3, h4, h5, h6⟩ := id hF
  refine lv_aload_n hx hb dJ0_length_8abf5_0 rfl (lv_at hl 0 rfl) ?_
  refine vk_getf hx hb h3 hS hown (hts _ (List.mem_cons_of_mem _ mw_1322)) (fun _ h9 => h9) dJ0_length_8abf5_1 ?_
  refine va_tlen (v := 85) hx hb h4 hS (by decide) dJ0_length_8abf5_4 ?_
  refine lv_aload_n hx hb dJ0_length_8abf5_5 rfl (lv_at hl 0 rfl) ?_
  refine va_calli (va_runV (As := []) (rest := [.int 85]) ⟨hx, hb, hml, hown, hts⟩ (c_J0_coder_7d493 l q qv) (zwV 0 hts mw_134 mw_135 mw_136 mw_8 mw_137 rfl rfl (by decide +kernel) ⟨Nat.le_of_ble_eq_true rfl, Nat.le_of_ble_eq_true rfl⟩) ⟨zPs_blind, vk_recv0 h1 hS, fun U hU hW => ⟨rfl, by show zSf _ _ _ U U.heap; rw [hU]; exact zSf.moved hW.alike (hF.kept (fun a h9 h8 => hS.2.1 a h9 h8))⟩⟩ rfl rfl hl.1 rfl (lv_room (Nat.le_of_ble_eq_true rfl)) dJ0_length_8abf5_6 ⟨Nat.zero_le _, Nat.zero_le _⟩) hS (fun q _ h => h) (fun q h => h) (fun r u t H locs ht hvm hw hB hz1 hk1 hS => ?_)
  subst hw
  refine lv_ishr hx hb dJ0_length_8abf5_9 ?_
  exact W.iret (v := 85) hx hb hr (fun t ht hW => ⟨⟨85, (), rfl, rfl, trivial⟩, hS.F ht⟩) hS.2.2 dJ0_length_8abf5_10
def vs_J3_checkIndex_8e157 : List Cond := .code yJ3_checkIndex_8e157 cJ3_checkIndex_8e157 3 (some .int) :: zT
def rm_J3_checkIndex_8e157 : Room := { frames := 0, cells := 0, slots := 0, locals := 0 }
def zPi (i n : Int32) : State → Prop := fun _ => ¬ i < 0 ∧ i < n
set_option maxHeartbeats 4000000 in
set_option maxRecDepth 100000 in
theorem c_J3_checkIndex_8e157_n (l : Launch) (i n : Int32) : Met l yJ3_checkIndex_8e157 vs_J3_checkIndex_8e157 rm_J3_checkIndex_8e157 (va_Pc [.int i, .int n, .null] (zPi i n)) (zQs i) 0 0 zN0 := by
  refine Met.ofW (cc := cJ3_checkIndex_8e157) (maxL := 3) (ret := (some .int)) (by decide) rfl ?_
  intro p e s m args below meth c s₁ B hml hv
  obtain ⟨rfl, hF⟩ := hv
  have hx := B.exec
  have hb := B.bytes
  have hr := B.returns
  have hts := atoms_spec (ws := vs_J3_checkIndex_8e157) B.pre
  have hown : s.vm.findClass RJ3 = some m.cls := findClass_of_methodNamed B.named
  have hlocks := B.notSynchronized
  have hS : va_S zN0 s.heap s.heap [] := va_S.rf
  have hl := lv_entry ([.int i, .int n, .null]) (n := 3) (Nat.le_of_ble_eq_true rfl)
  rw [lg_entry_eq]
  generalize (lg_sl ([.int i, .int n, .null]) ++ List.replicate (3 - (lg_sl ([.int i, .int n, .null])).length) Slot.unset).toArray = ls at hl ⊢
  obtain ⟨g1, g2⟩ := hF
  refine lv_iload_n hx hb dJ3_checkIndex_8e157_0 rfl (lv_at hl 0 rfl) ?_
  refine lv_if_lt (tgt := 9) hx hb dJ3_checkIndex_8e157_1 (by decide) (fun hc => absurd hc g1) (fun hc => ?_)
  refine lv_iload_n hx hb dJ3_checkIndex_8e157_4 rfl (lv_at hl 0 rfl) ?_
  refine lv_iload_n hx hb dJ3_checkIndex_8e157_5 rfl (lv_at hl 1 rfl) ?_
  refine lv_icmp_lt (tgt := 16) hx hb dJ3_checkIndex_8e157_6 (by decide) (fun hc => ?_) (fun hc => absurd g2 hc)
  refine lv_iload_n hx hb dJ3_checkIndex_8e157_16 rfl (lv_at hl 0 rfl) ?_
  exact W.iret (v := i) hx hb hr (fun t ht hW => ⟨⟨i, (), rfl, rfl, trivial⟩, hS.F ht⟩) hS.2.2 dJ3_checkIndex_8e157_17
set_option maxHeartbeats 4000000 in
set_option maxRecDepth 100000 in
theorem c_J3_checkIndex_8e157_r (l : Launch) (i n : Int32) (tt : Nat) : Met l yJ3_checkIndex_8e157 vs_J3_checkIndex_8e157 rm_J3_checkIndex_8e157 (va_Pc [.int i, .int n, .ref tt] (zPi i n)) (zQs i) 0 0 zN0 := by
  refine Met.ofW (cc := cJ3_checkIndex_8e157) (maxL := 3) (ret := (some .int)) (by decide) rfl ?_
  intro p e s m args below meth c s₁ B hml hv
  obtain ⟨rfl, hF⟩ := hv
  have hx := B.exec
  have hb := B.bytes
  have hr := B.returns
  have hts := atoms_spec (ws := vs_J3_checkIndex_8e157) B.pre
  have hown : s.vm.findClass RJ3 = some m.cls := findClass_of_methodNamed B.named
  have hlocks := B.notSynchronized
  have hS : va_S zN0 s.heap s.heap [] := va_S.rf
  have hl := lv_entry ([.int i, .int n, .ref tt]) (n := 3) (Nat.le_of_ble_eq_true rfl)
  rw [lg_entry_eq]
  generalize (lg_sl ([.int i, .int n, .ref tt]) ++ List.replicate (3 - (lg_sl ([.int i, .int n, .ref tt])).length) Slot.unset).toArray = ls at hl ⊢
  obtain ⟨g1, g2⟩ := hF
  refine lv_iload_n hx hb dJ3_checkIndex_8e157_0 rfl (lv_at hl 0 rfl) ?_
  refine lv_if_lt (tgt := 9) hx hb dJ3_checkIndex_8e157_1 (by decide) (fun hc => absurd hc g1) (fun hc => ?_)
  refine lv_iload_n hx hb dJ3_checkIndex_8e157_4 rfl (lv_at hl 0 rfl) ?_
  refine lv_iload_n hx hb dJ3_checkIndex_8e157_5 rfl (lv_at hl 1 rfl) ?_
  refine lv_icmp_lt (tgt := 16) hx hb dJ3_checkIndex_8e157_6 (by decide) (fun hc => ?_) (fun hc => absurd g2 hc)
  refine lv_iload_n hx hb dJ3_checkIndex_8e157_16 rfl (lv_at hl 0 rfl) ?_
  exact W.iret (v := i) hx hb hr (fun t ht hW => ⟨⟨i, (), rfl, rfl, trivial⟩, hS.F ht⟩) hS.2.2 dJ3_checkIndex_8e157_17
def vs_J0_checkIndex_df160 : List Cond := .code yJ0_checkIndex_df160 cJ0_checkIndex_df160 2 none :: zT
def rm_J0_checkIndex_df160 : Room := { frames := 1, cells := 0, slots := 0, locals := 40 }
def zPj (q qv : Nat) (i : Int32) : State → Prop := fun U => zPs q qv U ∧ vp_in i 85
theorem zPj_blind {vs : List Value} {q qv : Nat} {i : Int32} : FrameBlind (va_Pc vs (zPj q qv i)) := fun a U g mk h => ⟨h.1, zSf.moved (u := U) (U := U.calling g mk a) (Vm.Alike.refl U.vm) h.2.1, h.2.2⟩
theorem zin85 {i : Int32} (h : vp_in i 85) : ¬ i < 0 ∧ i < 85 := by
  obtain ⟨j, hj, rfl⟩ := vp_in_of h (by decide)
  exact ⟨nI_pos (by omega), by have := nI_lt (a := j) (b := 85) hj (by decide); exact this⟩
set_option maxHeartbeats 4000000 in
set_option maxRecDepth 100000 in
theorem c_J0_checkIndex_df160 (l : Launch) (q qv : Nat) (i : Int32) : Met l yJ0_checkIndex_df160 vs_J0_checkIndex_df160 rm_J0_checkIndex_df160 (va_Pc [.int i, .int 85] (zPj q qv i)) (va_Qv (fun _ : Unit => True) (fun _ _ => True) zN0) 0 0 zN0 := by
  refine Met.ofW (cc := cJ0_checkIndex_df160) (maxL := 2) (ret := none) (by decide) rfl ?_
  intro p e s m args below meth c s₁ B hml hv
  obtain ⟨rfl, hF⟩ := hv
  have hx := B.exec
  have hb := B.bytes
  have hr := B.returns
  have hts := atoms_spec (ws := vs_J0_checkIndex_df160) B.pre
  have hown : s.vm.findClass RJ0 = some m.cls := findClass_of_methodNamed B.named
  have hlocks := B.notSynchronized
  have hS : va_S zN0 s.heap s.heap [] := va_S.rf
  have hl := lv_entry ([.int i, .int 85]) (n := 2) (Nat.le_of_ble_eq_true rfl)
  rw [lg_entry_eq]
  generalize (lg_sl ([.int i, .int 85]) ++ List.replicate (2 - (lg_sl ([.int i, .int 85])).length) Slot.unset).toArray = ls at hl ⊢
  have hl : lv_has ls 2 [(0, .int i), (1, .int 85)] := hl
  obtain ⟨h1, h2, h3, h4, h5, h6⟩ := id hF.1
  refine lv_iload_n hx hb dJ0_checkIndex_df160_0 rfl (lv_at hl 0 rfl) ?_
  refine lv_iload_n hx hb dJ0_checkIndex_df160_1 rfl (lv_at hl 1 rfl) ?_
  rcases h6 with h6 | ⟨tt, h6⟩
  · refine va_gets hx hb h6 hS hown (hts _ (List.mem_cons_of_mem _ mw_153)) (fun _ h9 => h9) dJ0_checkIndex_df160_2 ?_
    refine va_calli (va_runS (As := [.int i, .int 85, .null]) (rest := []) ⟨hx, hb, hml, hown, hts⟩ (c_J3_checkIndex_8e157_n l i 85) (zwS 3 hts mw_154 mw_155 mw_10 mw_156 rfl rfl (by decide +kernel) ⟨Nat.le_of_ble_eq_true rfl, Nat.le_of_ble_eq_true rfl⟩) ⟨fun a U g mk h => h, fun U hU hW => ⟨rfl, zin85 hF.2⟩⟩ rfl rfl hl.1 rfl (lv_room (Nat.le_of_ble_eq_true rfl)) dJ0_checkIndex_df160_5 ⟨Nat.zero_le _, Nat.zero_le _⟩) hS (fun q _ h => h) (fun q h => h) (fun r u t H locs ht hvm hw hB hz1 hk1 hS => ?_)
    refine lv_pop hx hb dJ0_checkIndex_df160_8 rfl ?_
    exact W.vret hx hb hr (fun t ht hW => ⟨⟨(), rfl, trivial, trivial⟩, hS.F ht⟩) hS.2.2 dJ0_checkIndex_df160_9
  · refine va_gets hx hb h6 hS hown (hts _ (List.mem_cons_of_mem _ mw_153)) (fun _ h9 => h9) dJ0_checkIndex_df160_2 ?_
    refine va_calli (va_runS (As := [.int i, .int 85, .ref tt]) (rest := []) ⟨hx, hb, hml, hown, hts⟩ (c_J3_checkIndex_8e157_r l i 85 tt) (zwS 3 hts mw_154 mw_155 mw_10 mw_156 rfl rfl (by decide +kernel) ⟨Nat.le_of_ble_eq_true rfl, Nat.le_of_ble_eq_true rfl⟩) ⟨fun a U g mk h => h, fun U hU hW => ⟨rfl, zin85 hF.2⟩⟩ rfl rfl hl.1 rfl (lv_room (Nat.le_of_ble_eq_true rfl)) dJ0_checkIndex_df160_5 ⟨Nat.zero_le _, Nat.zero_le _⟩) hS (fun q _ h => h) (fun q h => h) (fun r u t H locs ht hvm hw hB hz1 hk1 hS => ?_)
    refine lv_pop hx hb dJ0_checkIndex_df160_8 rfl ?_
    exact W.vret hx hb hr (fun t ht hW => ⟨⟨(), rfl, trivial, trivial⟩, hS.F ht⟩) hS.2.2 dJ0_checkIndex_df160_9
def vs_J1_charAt_3b067 : List Cond := .code yJ1_charAt_3b067 cJ1_charAt_3b067 2 (some .char) :: zT
def rm_J1_charAt_3b067 : Room := { frames := 2, cells := 0, slots := 0, locals := 80 }
def zch (i : Int32) : Int32 := ((zby i.toNatClampNeg &&& 255).toUInt32 % 65536).toInt32
set_option maxHeartbeats 4000000 in
set_option maxRecDepth 100000 in
theorem c_J1_charAt_3b067 (l : Launch) (q qv : Nat) (i : Int32) : Met l yJ1_charAt_3b067 vs_J1_charAt_3b067 rm_J1_charAt_3b067 (va_Pc [.ref qv, .int i] (zPj q qv i)) (zQs (zch i)) 0 0 zN0 := by
  refine Met.ofW (cc := cJ1_charAt_3b067) (maxL := 2) (ret := (some .char)) (by decide) rfl ?_
  intro p e s m args below meth c s₁ B hml hv
  obtain ⟨rfl, hF⟩ := hv
  have hx := B.exec
  have hb := B.bytes
  have hr := B.returns
  have hts := atoms_spec (ws := vs_J1_charAt_3b067) B.pre
  have hown : s.vm.findClass RJ1 = some m.cls := findClass_of_methodNamed B.named
  have hlocks := B.notSynchronized
  have hS : va_S zN0 s.heap s.heap [] := va_S.rf
  have hl := lv_entry ([.ref qv, .int i]) (n := 2) (Nat.le_of_ble_eq_true rfl)
  rw [lg_entry_eq]
  generalize (lg_sl ([.ref qv, .int i]) ++ List.replicate (2 - (lg_sl ([.ref qv, .int i])).length) Slot.unset).toArray = ls at hl ⊢
  have hl : lv_has ls 2 [(0, .ref qv), (1, .int i)] := hl
  obtain ⟨h1, h2, h3, h4, h5, h6⟩ := id hF.1
  refine lv_iload_n hx hb dJ1_charAt_3b067_0 rfl (lv_at hl 1 rfl) ?_
  refine lv_aload_n hx hb dJ1_charAt_3b067_1 rfl (lv_at hl 0 rfl) ?_
  refine va_tlen (v := 85) hx hb h4 hS (by decide) dJ1_charAt_3b067_2 ?_
  refine va_callv (va_runS (As := [.int i, .int 85]) (rest := []) ⟨hx, hb, hml, hown, hts⟩ (c_J0_checkIndex_df160 l q qv i) (zwS 2 hts mw_150 mw_151 mw_8 mw_152 rfl rfl (by decide +kernel) ⟨Nat.le_of_ble_eq_true rfl, Nat.le_of_ble_eq_true rfl⟩) ⟨zPj_blind, fun U hU hW => ⟨rfl, by show zSf _ _ _ U U.heap; rw [hU]; exact zSf.moved hW.alike (hF.1.kept (fun a h9 h8 => hS.2.1 a h9 h8)), hF.2⟩⟩ rfl rfl hl.1 rfl (lv_room (Nat.le_of_ble_eq_true rfl)) dJ1_charAt_3b067_3 ⟨Nat.zero_le _, Nat.zero_le _⟩) hS (fun q _ h => h) (fun q h => h) (fun u t H locs ht hvm hw hB hz1 hk1 hS => ?_)
  refine lv_aload_n hx hb dJ1_charAt_3b067_6 rfl (lv_at hl 0 rfl) ?_
  refine lv_iload_n hx hb dJ1_charAt_3b067_7 rfl (lv_at hl 1 rfl) ?_
  refine va_tb (v := .int (zby i.toNatClampNeg)) hx hb h4 hS hF.2 rfl dJ1_charAt_3b067_8 ?_
  refine lv_sipush (v := 255) hx hb dJ1_charAt_3b067_9 (by decide) ?_
  refine lv_iand hx hb dJ1_charAt_3b067_12 ?_
  refine lv_i2c hx hb dJ1_charAt_3b067_13 rfl ?_
  exact W.zret (v := zch i) (ty := .char) hx hb hr (pk_nc _) (fun t ht hW => ⟨⟨zch i, (), rfl, rfl, trivial⟩, hS.F ht⟩) hS.2.2 dJ1_charAt_3b067_14
def vs_J0_charAt_5068e : List Cond := .code yJ0_charAt_5068e cJ0_charAt_5068e 2 (some .char) :: zT
def rm_J0_charAt_5068e : Room := { frames := 3, cells := 0, slots := 0, locals := 130 }
set_option maxHeartbeats 4000000 in
set_option maxRecDepth 100000 in
theorem c_J0_charAt_5068e (l : Launch) (q qv : Nat) (i : Int32) : Met l yJ0_charAt_5068e vs_J0_charAt_5068e rm_J0_charAt_5068e (va_Pc [.ref q, .int i] (zPj q qv i)) (zQs (zch i)) 0 0 zN0 := by
  refine Met.ofW (cc := cJ0_charAt_5068e) (maxL := 2) (ret := (some .char)) (by decide) rfl ?_
  intro p e s m args below meth c s₁ B hml hv
  obtain ⟨rfl, hF⟩ := hv
  have hx := B.exec
  have hb := B.bytes
  have hr := B.returns
  have hts := atoms_spec (ws := vs_J0_charAt_5068e) B.pre
  have hown : s.vm.findClass RJ0 = some m.cls := findClass_of_methodNamed B.named
  have hlocks := B.notSynchronized
  have hS : va_S zN0 s.heap s.heap [] := va_S.rf
  have hl := lv_entry ([.ref q, .int i]) (n := 2) (Nat.le_of_ble_eq_true rfl)
  rw [lg_entry_eq]
  generalize (lg_sl ([.ref q, .int i]) ++ List.replicate (2 - (lg_sl ([.ref q, .int i])).length) Slot.unset).toArray = ls at hl ⊢
  have hl : lv_has ls 2 [(0, .ref q), (1, .int i)] := hl
  obtain ⟨h1, h2, h3, h4, h5, h6⟩ := id hF.1
  refine lv_aload_n hx hb dJ0_charAt_5068e_0 rfl (lv_at hl 0 rfl) ?_
  refine va_calli (va_runV (As := []) (rest := []) ⟨hx, hb, hml, hown, hts⟩ (c_J0_isLatin1_aae02 l q qv) (zwV 0 hts mw_143 mw_144 mw_145 mw_8 mw_146 rfl rfl (by decide +kernel) ⟨Nat.le_of_ble_eq_true rfl, Nat.le_of_ble_eq_true rfl⟩) ⟨zPs_blind, vk_recv0 h1 hS, fun U hU hW => ⟨rfl, by show zSf _ _ _ U U.heap; rw [hU]; exact zSf.moved hW.alike (hF.1.kept (fun a h9 h8 => hS.2.1 a h9 h8))⟩⟩ rfl rfl hl.1 rfl (lv_room (Nat.le_of_ble_eq_true rfl)) dJ0_charAt_5068e_1 ⟨Nat.zero_le _, Nat.zero_le _⟩) hS (fun q _ h => h) (fun q h => h) (fun r u t H locs ht hvm hw hB hz1 hk1 hS => ?_)
  subst hw
  refine lv_if_eq (tgt := 16) hx hb dJ0_charAt_5068e_4 (by decide) (fun hc => absurd hc (by decide)) (fun hc => ?_)
  refine lv_aload_n hx hb dJ0_charAt_5068e_7 rfl (lv_at hl 0 rfl) ?_
  refine vk_getf hx hb h3 hS hown (hts _ (List.mem_cons_of_mem _ mw_1322)) (fun _ h9 => h9) dJ0_charAt_5068e_8 ?_
  refine lv_iload_n hx hb dJ0_charAt_5068e_11 rfl (lv_at hl 1 rfl) ?_
  refine va_calli (va_runS (As := [.ref qv, .int i]) (rest := []) ⟨hx, hb, hml, hown, hts⟩ (c_J1_charAt_3b067 l q qv i) (zwS 2 hts mw_147 mw_148 mw_9 mw_149 rfl rfl (by decide +kernel) ⟨Nat.le_of_ble_eq_true rfl, Nat.le_of_ble_eq_true rfl⟩) ⟨zPj_blind, fun U hU hW => ⟨rfl, by show zSf _ _ _ U U.heap; rw [hU]; exact zSf.moved hW.alike (hF.1.kept (fun a h9 h8 => hS.2.1 a h9 h8)), hF.2⟩⟩ rfl rfl hl.1 rfl (lv_room (Nat.le_of_ble_eq_true rfl)) dJ0_charAt_5068e_12 ⟨Nat.zero_le _, Nat.zero_le _⟩) hS (fun q _ h => h) (fun q h => h) (fun r u t H locs ht hvm hw hB hz1 hk1 hS => ?_)
  subst hw
  exact W.zret (v := zch i) (ty := .char) hx hb hr (pk_nc _) (fun t ht hW => ⟨⟨zch i, (), rfl, rfl, trivial⟩, hS.F ht⟩) hS.2.2 dJ0_charAt_5068e_15
theorem zlen {p : Program} {l : Launch} {e : Env} {R : Room} {s : State} {m : MethodId} {args : Array Value} {below : List Frame} {meth : Method} {c : Code} {H : Heap} {locs : List Loc} {cells slots : Nat} {Q2 : State → Prop} {D : va_G} {w : va_W} {A : Nat → Prop} {cc : ByteArray} {nL pc index qs qv : Nat} {ls : Array Slot} {rest : List Value} {own : String} {c0 : Cond} (S0 : CallFix p m c cc nL s args (c0 :: zT) own) (hml : Cond.methodLink own index yJ0_length_8abf5 ∈ zT) (hR : rm_J0_length_8abf5.frames + 1 ≤ R.frames ∧ 8 + (1 + 11) + rm_J0_length_8abf5.locals ≤ R.locals) (hF : zSf qs qv A s s.heap) (hP : va_P D vwCl w H) (hS : va_S A s.heap H locs) (hsz : ls.size = nL) (hW : (rest.map fun v => v.category).sum ≤ 8) (hcs : cells ≤ R.cells ∧ slots ≤ R.slots) (hdg : decode cc pc = .ok (.invokevirtual index, 3)) (kk : ∀ (H1 : Heap) (locs1 : List Loc), va_P D vwCl w H1 → va_S A s.heap H1 locs1 → W p l e R s m args below meth c H1 locs1 cells slots Q2 (F0 m (pc + 3) ls (.int (85) :: rest))) : W p l e R s m args below meth c H locs cells slots Q2 (F0 m pc ls (.ref qs :: rest)) := by
  refine va_calli (va_runV (As := []) (rest := rest) S0 (c_J0_length_8abf5 l qs qv) (zwV 0 S0.2.2.2.2 hml mw_131 mw_132 mw_8 mw_133 rfl rfl (by decide +kernel) hR) ⟨zPs_blind, vk_recv0 hF.1 hS, fun U hU hW => ⟨rfl, (by show zSf _ _ _ U U.heap; rw [hU]; exact zSf.moved hW.alike ((hF.kept (fun a h9 h8 => hS.2.1 a h9 h8)).narrow (fun _ h => h.elim)))⟩⟩ rfl rfl hsz rfl (lv_room hW) hdg hcs) hS (fun q _ h => h.elim) (fun q h => h.elim) (fun r u t H1 locs1 ht hvm hw hB hz1 hk1 hS1 => ?_)
  subst hw
  exact kk H1 locs1 (hP.kept (fun k x hx => hk1 x.1 ((hP k x hx).lt) id)) hS1
theorem zcha {p : Program} {l : Launch} {e : Env} {R : Room} {s : State} {m : MethodId} {args : Array Value} {below : List Frame} {meth : Method} {c : Code} {H : Heap} {locs : List Loc} {cells slots : Nat} {Q2 : State → Prop} {D : va_G} {w : va_W} {A : Nat → Prop} {cc : ByteArray} {nL pc index qs qv : Nat} {ls : Array Slot} {rest : List Value} {own : String} {c0 : Cond} {i : Int32} (S0 : CallFix p m c cc nL s args (c0 :: zT) own) (hml : Cond.methodLink own index yJ0_charAt_5068e ∈ zT) (hR : rm_J0_charAt_5068e.frames + 1 ≤ R.frames ∧ 8 + (2 + 11) + rm_J0_charAt_5068e.locals ≤ R.locals) (hF : zSf qs qv A s s.heap) (hi : vp_in i 85) (hP : va_P D vwCl w H) (hS : va_S A s.heap H locs) (hsz : ls.size = nL) (hW : (rest.map fun v => v.category).sum ≤ 8) (hcs : cells ≤ R.cells ∧ slots ≤ R.slots) (hdg : decode cc pc = .ok (.invokevirtual index, 3)) (kk : ∀ (H1 : Heap) (locs1 : List Loc), va_P D vwCl w H1 → va_S A s.heap H1 locs1 → W p l e R s m args below meth c H1 locs1 cells slots Q2 (F0 m (pc + 3) ls (.int (zch i) :: rest))) : W p l e R s m args below meth c H locs cells slots Q2 (F0 m pc ls (.int i :: .ref qs :: rest)) := by
  refine va_calli (va_runV (As := [.int i]) (rest := rest) S0 (c_J0_charAt_5068e l qs qv i) (zwV 1 S0.2.2.2.2 hml mw_140 mw_141 mw_8 mw_142 rfl rfl (by decide +kernel) hR) ⟨zPj_blind, vk_recv0 hF.1 hS, fun U hU hW => ⟨rfl, ⟨(by show zSf _ _ _ U U.heap; rw [hU]; exact zSf.moved hW.alike ((hF.kept (fun a h9 h8 => hS.2.1 a h9 h8)).narrow (fun _ h => h.elim))), hi⟩⟩⟩ rfl rfl hsz rfl (lv_room hW) hdg hcs) hS (fun q _ h => h.elim) (fun q h => h.elim) (fun r u t H1 locs1 ht hvm hw hB hz1 hk1 hS1 => ?_)
  subst hw
  exact kk H1 locs1 (hP.kept (fun k x hx => hk1 x.1 ((hP k x hx).lt) id)) hS1
