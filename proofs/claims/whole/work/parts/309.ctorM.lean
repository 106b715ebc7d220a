def zM0 : zSt := (zI (zI (zJ (zI zS0 7 (-1 : Int32)) 1 (-1 : Int64)) 16 (-1 : Int32)) 22 (-1 : Int32))
def rm_X12_init : Room := { frames := 1, cells := 45, slots := 11459, locals := 60 }
def vs_X12_init : List Cond := .code yX12_init cX12_init 1 none :: zT
set_option maxHeartbeats 8000000 in
set_option maxRecDepth 100000 in
theorem c_X12_init (l : Launch) (dC : Nat → ClassId) (dI : Nat → Nat → Nat) (cI cJ cC : ClassId) (h0 : Nat) (sz : Nat) : Met l yX12_init vs_X12_init rm_X12_init (va_Pc [.ref h0] (fun U => U.heap.size = sz ∧ va_P (dC, dI) vwCl [(h0, .inr (12, [.null, .int 0, .int 0, .int 0, .int 0, .int 0, .int 0, .int 0, .int 0, .null, .null, .null, .null, .null, .null, .null, .null, .null, .null, .null, .null, .null, .null, .null, .null, .null, .null, .null, .int 0, .null, .null, .null, .null, .null, .null, .null, .null, .null, .null, .null, .null, .int 0, .null, .int 0, .int 0, .int 0, .int 0, .long 0, .int 0, .long 0, .null, .null, .int 0, .int 0, .int 0, .null, .int 0, .int 0, .null, .null, .int 0, .int 0, .long 0, .int 0, .int 0, .long 0, .null, .null, .long 0, .int 0, .int 0, .int 0, .long 0, .int 0, .null, .null, .int 0, .null, .null, .int 0, .long 0, .null, .int 0]))] U.heap ∧ va_K (dC, dI) vwCl (m_ty cI cJ cC) U ∧ va_D (fun _ => True) [(h0, .inr (12, [.null, .int 0, .int 0, .int 0, .int 0, .int 0, .int 0, .int 0, .int 0, .null, .null, .null, .null, .null, .null, .null, .null, .null, .null, .null, .null, .null, .null, .null, .null, .null, .null, .null, .int 0, .null, .null, .null, .null, .null, .null, .null, .null, .null, .null, .null, .null, .int 0, .null, .int 0, .int 0, .int 0, .int 0, .long 0, .int 0, .long 0, .null, .null, .int 0, .int 0, .int 0, .null, .int 0, .int 0, .null, .null, .int 0, .int 0, .long 0, .int 0, .int 0, .long 0, .null, .null, .long 0, .int 0, .int 0, .int 0, .long 0, .int 0, .null, .null, .int 0, .null, .null, .int 0, .long 0, .null, .int 0]))])) (va_Qv (fun _ : Unit => True) (fun _ t => ∃ ad : Nat → Nat, ad 0 = h0 ∧ zB2 (dC, dI) (m_ty cI cJ cC) (m_W ad cI cJ cC) (va_A [(h0, .inr (12, [.null, .int 0, .int 0, .int 0, .int 0, .int 0, .int 0, .int 0, .int 0, .null, .null, .null, .null, .null, .null, .null, .null, .null, .null, .null, .null, .null, .null, .null, .null, .null, .null, .null, .int 0, .null, .null, .null, .null, .null, .null, .null, .null, .null, .null, .null, .null, .int 0, .null, .int 0, .int 0, .int 0, .int 0, .long 0, .int 0, .long 0, .null, .null, .int 0, .int 0, .int 0, .null, .int 0, .int 0, .null, .null, .int 0, .int 0, .long 0, .int 0, .int 0, .long 0, .null, .null, .long 0, .int 0, .int 0, .int 0, .long 0, .int 0, .null, .null, .int 0, .null, .null, .int 0, .long 0, .null, .int 0]))] sz) zM0 t) (va_A [(h0, .inr (12, [.null, .int 0, .int 0, .int 0, .int 0, .int 0, .int 0, .int 0, .int 0, .null, .null, .null, .null, .null, .null, .null, .null, .null, .null, .null, .null, .null, .null, .null, .null, .null, .null, .null, .int 0, .null, .null, .null, .null, .null, .null, .null, .null, .null, .null, .null, .null, .int 0, .null, .int 0, .int 0, .int 0, .int 0, .long 0, .int 0, .long 0, .null, .null, .int 0, .int 0, .int 0, .null, .int 0, .int 0, .null, .null, .int 0, .int 0, .long 0, .int 0, .int 0, .long 0, .null, .null, .long 0, .int 0, .int 0, .int 0, .long 0, .int 0, .null, .null, .int 0, .null, .null, .int 0, .long 0, .null, .int 0]))] sz)) 45 11459 (va_A [(h0, .inr (12, [.null, .int 0, .int 0, .int 0, .int 0, .int 0, .int 0, .int 0, .int 0, .null, .null, .null, .null, .null, .null, .null, .null, .null, .null, .null, .null, .null, .null, .null, .null, .null, .null, .null, .int 0, .null, .null, .null, .null, .null, .null, .null, .null, .null, .null, .null, .null, .int 0, .null, .int 0, .int 0, .int 0, .int 0, .long 0, .int 0, .long 0, .null, .null, .int 0, .int 0, .int 0, .null, .int 0, .int 0, .null, .null, .int 0, .int 0, .long 0, .int 0, .int 0, .long 0, .null, .null, .long 0, .int 0, .int 0, .int 0, .long 0, .int 0, .null, .null, .int 0, .null, .null, .int 0, .long 0, .null, .int 0]))] sz) := by
  refine Met.ofW (cc := cX12_init) (maxL := 1) (ret := none) (by decide) rfl ?_
  intro p e s m args below meth c s₁ B hml hv
  obtain ⟨rfl, hsz, hP, hK, hD0⟩ := hv
  have hx := B.exec
  have hb := B.bytes
  have hr := B.returns
  have hts := atoms_spec (ws := vs_X12_init) B.pre
  have hown : s.vm.findClass RX12 = some m.cls := findClass_of_methodNamed B.named
  have hlocks := B.notSynchronized
  have hin2 : meth.name = "<init>" := (name_of_methodNamed B.named B.method).1
  subst hsz
  have hD := hD0.self (sz := s.heap.size)
  generalize hAe : va_A [(h0, .inr (12, [.null, .int 0, .int 0, .int 0, .int 0, .int 0, .int 0, .int 0, .int 0, .null, .null, .null, .null, .null, .null, .null, .null, .null, .null, .null, .null, .null, .null, .null, .null, .null, .null, .null, .int 0, .null, .null, .null, .null, .null, .null, .null, .null, .null, .null, .null, .null, .int 0, .null, .int 0, .int 0, .int 0, .int 0, .long 0, .int 0, .long 0, .null, .null, .int 0, .int 0, .int 0, .null, .int 0, .int 0, .null, .null, .int 0, .int 0, .long 0, .int 0, .int 0, .long 0, .null, .null, .long 0, .int 0, .int 0, .int 0, .long 0, .int 0, .null, .null, .int 0, .null, .null, .int 0, .long 0, .null, .int 0]))] s.heap.size = A at hD ⊢
  have hA : ∀ q : Nat, s.heap.size ≤ q → A q := fun q h => by rw [← hAe]; exact Or.inr h
  have hS : va_S A s.heap s.heap [] := va_S.rf
  have hl := lv_entry ([.ref h0]) (n := 1) (Nat.le_of_ble_eq_true rfl)
  rw [lg_entry_eq]
  generalize (lg_sl ([.ref h0]) ++ List.replicate (1 - (lg_sl ([.ref h0])).length) Slot.unset).toArray = ls at hl ⊢
  have hl : lv_has ls 1 [(0, .ref h0)] := hl
  obtain ⟨f0, ef0⟩ : ∃ z : List Value, z = [.null, .int 0, .int 0, .int 0, .int 0, .int 0, .int 0, .int 0, .int 0, .null, .null, .null, .null, .null, .null, .null, .null, .null, .null, .null, .null, .null, .null, .null, .null, .null, .null, .null, .int 0, .null, .null, .null, .null, .null, .null, .null, .null, .null, .null, .null, .null, .int 0, .null, .int 0, .int 0, .int 0, .int 0, .long 0, .int 0, .long 0, .null, .null, .int 0, .int 0, .int 0, .null, .int 0, .int 0, .null, .null, .int 0, .int 0, .long 0, .int 0, .int 0, .long 0, .null, .null, .long 0, .int 0, .int 0, .int 0, .long 0, .int 0, .null, .null, .int 0, .null, .null, .int 0, .long 0, .null, .int 0] := ⟨_, rfl⟩
  have hP : va_P (dC, dI) vwCl ([(h0, .inr (12, f0))] ++ []) s.heap := by rw [ef0]; exact hP
  have hD : va_D A ([(h0, .inr (12, f0))] ++ []) := by rw [ef0]; exact hD
  have hlen : f0.length = 83 := by rw [ef0]; rfl
  refine lv_aload_n hx hb dX12_init_0 rfl (lv_at hl 0 rfl) ?_
  refine W.objInit hx hb hown (hts _ (List.mem_cons_of_mem _ mw_821)) (hts _ (List.mem_cons_of_mem _ mw_29)) (hts _ (List.mem_cons_of_mem _ mwx_obj)) rfl (by rw [hml]; exact hl.1) rfl dX12_init_1 (Nat.le_of_ble_eq_true rfl) (Nat.le_of_ble_eq_true rfl) ?_
  refine W.eq (g2 := F0 m 4 ls []) rfl ?_
  refine lv_aload_n hx hb dX12_init_4 rfl (lv_at hl 0 rfl) ?_
  refine lv_sipush (v := (800 : Int32)) hx hb dX12_init_5 (by decide) ?_
  refine znew_i (N' := 800) hx hb (hts _ (List.mem_cons_of_mem _ mw_38)) hK 0 rfl hP hD hS hA (by decide) (by decide) (by decide) (Nat.le_of_ble_eq_true rfl) (Nat.le_of_ble_eq_true rfl) dX12_init_8 (fun q1 H hP hD hS => ?_)
  have hpm := (zrot ([(h0, .inr (12, f0))] ++ []) [(q1, .inl (cI, 800, .inl (fun _ => 0)))]).trans (zswp [(q1, .inl (cI, 800, .inl (fun _ => 0)))] [(h0, .inr (12, f0))] [])
  have hP := zP_perm hpm hP
  have hD := zD_perm hpm hD
  clear hpm
  have hP : va_P (dC, dI) vwCl ([(h0, .inr (12, f0))] ++ ([(q1, .inl (cI, 800, .inl (fun _ => 0)))] ++ [])) H := hP
  have hD : va_D A ([(h0, .inr (12, f0))] ++ ([(q1, .inl (cI, 800, .inl (fun _ => 0)))] ++ [])) := hD
  refine va_putF (D := (dC, dI)) (ci := 12) (v := .ref q1) (ty := .array .int) (C := RX12) (T := TX12) (N := 83) hx hb hts (fun w h => List.mem_cons_of_mem _ (inX12 w h)) tyX12 tyX12_ok nmX12 hown hK hP hD hS 0 rfl rfl 0 (by decide) (hts _ (List.mem_cons_of_mem _ mw_823)) (fun _ h9 => h9) rfl hin2 rfl (by decide +kernel) rfl rfl (by rw [hlen]; decide) dX12_init_10 (fun H locs hP hD hS => ?_)
  obtain ⟨f2, ef2⟩ : ∃ z : List Value, z = tape.set 0 (.ref q1) := ⟨_, rfl⟩
  have hP : va_P (dC, dI) vwCl ([(h0, .inr (12, f2))] ++ ([(q1, .inl (cI, 800, .inl (fun _ => 0)))] ++ [])) H := by rw [ef2]; exact hP
  have hD : va_D A ([(h0, .inr (12, f2))] ++ ([(q1, .inl (cI, 800, .inl (fun _ => 0)))] ++ [])) := by rw [ef2]; exact hD
  have hlen : f2.length = 83 := by rw [ef2, List.length_set]; exact hlen
  refine lv_aload_n hx hb dX12_init_13 rfl (lv_at hl 0 rfl) ?_
  refine lv_iconst (v := (-1 : Int32)) hx hb dX12_init_14 (by decide) ?_
  refine va_put (D := (dC, dI)) (ci := 12) (v := .int (-1 : Int32)) (ty := .int) (C := RX12) (T := TX12) (N := 83) hx hb hts (fun w h => List.mem_cons_of_mem _ (inX12 w h)) tyX12 tyX12_ok nmX12 hown hK hP hD hS 0 rfl rfl 8 (by decide) (hts _ (List.mem_cons_of_mem _ mw_831)) (fun _ h9 => h9) rfl (by decide +kernel) rfl rfl (by rw [hlen]; decide) dX12_init_15 (fun H locs hP hD hS => ?_)
  obtain ⟨f3, ef3⟩ : ∃ z : List Value, z = faultPlace.set 8 (.int (-1 : Int32)) := ⟨_, rfl⟩
  have hP : va_P (dC, dI) vwCl ([(h0, .inr (12, f3))] ++ ([(q1, .inl (cI, 800, .inl (fun _ => 0)))] ++ [])) H := by rw [ef3]; exact hP
  have hD : va_D A ([(h0, .inr (12, f3))] ++ ([(q1, .inl (cI, 800, .inl (fun _ => 0)))] ++ [])) := by rw [ef3]; exact hD
  have hlen : f3.length = 83 := by rw [ef3, List.length_set]; exact hlen
  refine lv_aload_n hx hb dX12_init_18 rfl (lv_at hl 0 rfl) ?_
  refine lv_iconst (v := (3 : Int32)) hx hb dX12_init_19 (by decide) ?_
  obtain ⟨w5, ew5⟩ : ∃ z : va_W, z = [(q1, .inl (cI, 800, .inl (fun _ => 0)))] ++ [] := ⟨_, rfl⟩
  have hP : va_P (dC, dI) vwCl ([(h0, .inr (12, f3))] ++ w5) H := by rw [ew5]; exact hP
  have hD : va_D A ([(h0, .inr (12, f3))] ++ w5) := by rw [ew5]; exact hD
  refine znew_c (N' := 3) hx hb (hts _ (List.mem_cons_of_mem _ mw_906)) hK 2 rfl hP hD hS hA (by decide) (by decide) (by decide) (Nat.le_of_ble_eq_true rfl) (Nat.le_of_ble_eq_true rfl) dX12_init_20 (fun q4 H hP hD hS => ?_)
  have hpm := (zrot ([(h0, .inr (12, f3))] ++ w5) [(q4, .inl (cC, 3, .inl (fun _ => 0)))]).trans (zswp [(q4, .inl (cC, 3, .inl (fun _ => 0)))] [(h0, .inr (12, f3))] w5)
  have hP := zP_perm hpm hP
  have hD := zD_perm hpm hD
  clear hpm
  have hP : va_P (dC, dI) vwCl ([(h0, .inr (12, f3))] ++ ([(q4, .inl (cC, 3, .inl (fun _ => 0)))] ++ w5)) H := hP
  have hD : va_D A ([(h0, .inr (12, f3))] ++ ([(q4, .inl (cC, 3, .inl (fun _ => 0)))] ++ w5)) := hD
  refine lv_dup hx hb dX12_init_22 rfl ?_
  refine lv_iconst (v := (0 : Int32)) hx hb dX12_init_23 (by decide) ?_
  refine lv_bipush (v := (119 : Int32)) hx hb dX12_init_24 (by decide) ?_
  refine va_cast hx hb hK hP hD hS 1 2 rfl rfl (i := (0 : Int32)) (zin (by decide)) dX12_init_26 (fun H locs hP hD hS => ?_)
  have hP : va_P (dC, dI) vwCl ([(h0, .inr (12, f3))] ++ ([(q4, .inl (cC, 3, .inl (upd (fun _ => 0) 0 (vp_nar .char 119))))] ++ w5)) H := hP
  have hD : va_D A ([(h0, .inr (12, f3))] ++ ([(q4, .inl (cC, 3, .inl (upd (fun _ => 0) 0 (vp_nar .char 119))))] ++ w5)) := hD
  refine lv_dup hx hb dX12_init_27 rfl ?_
  refine lv_iconst (v := (1 : Int32)) hx hb dX12_init_28 (by decide) ?_
  refine lv_bipush (v := (104 : Int32)) hx hb dX12_init_29 (by decide) ?_
  refine va_cast hx hb hK hP hD hS 1 2 rfl rfl (i := (1 : Int32)) (zin (by decide)) dX12_init_31 (fun H locs hP hD hS => ?_)
  have hP : va_P (dC, dI) vwCl ([(h0, .inr (12, f3))] ++ ([(q4, .inl (cC, 3, .inl (upd (upd (fun _ => 0) 0 (vp_nar .char 119)) 1 (vp_nar .char 104))))] ++ w5)) H := hP
  have hD : va_D A ([(h0, .inr (12, f3))] ++ ([(q4, .inl (cC, 3, .inl (upd (upd (fun _ => 0) 0 (vp_nar .char 119)) 1 (vp_nar .char 104))))] ++ w5)) := hD
  refine lv_dup hx hb dX12_init_32 rfl ?_
  refine lv_iconst (v := (2 : Int32)) hx hb dX12_init_33 (by decide) ?_
  refine lv_bipush (v := (111 : Int32)) hx hb dX12_init_34 (by decide) ?_
  refine va_cast hx hb hK hP hD hS 1 2 rfl rfl (i := (2 : Int32)) (zin (by decide)) dX12_init_36 (fun H locs hP hD hS => ?_)
  have hP : va_P (dC, dI) vwCl ([(h0, .inr (12, f3))] ++ ([(q4, .inl (cC, 3, .inl (upd (upd (upd (fun _ => 0) 0 (vp_nar .char 119)) 1 (vp_nar .char 104)) 2 (vp_nar .char 111))))] ++ w5)) H := hP
  have hD : va_D A ([(h0, .inr (12, f3))] ++ ([(q4, .inl (cC, 3, .inl (upd (upd (upd (fun _ => 0) 0 (vp_nar .char 119)) 1 (vp_nar .char 104)) 2 (vp_nar .char 111))))] ++ w5)) := hD
  refine va_putF (D := (dC, dI)) (ci := 12) (v := .ref q4) (ty := .array .char) (C := RX12) (T := TX12) (N := 83) hx hb hts (fun w h => List.mem_cons_of_mem _ (inX12 w h)) tyX12 tyX12_ok nmX12 hown hK hP hD hS 0 rfl rfl 9 (by decide) (hts _ (List.mem_cons_of_mem _ mw_832)) (fun _ h9 => h9) rfl hin2 rfl (by decide +kernel) rfl rfl (by rw [hlen]; decide) dX12_init_37 (fun H locs hP hD hS => ?_)
  obtain ⟨f6, ef6⟩ : ∃ z : List Value, z = whoWord.set 9 (.ref q4) := ⟨_, rfl⟩
  have hP : va_P (dC, dI) vwCl ([(h0, .inr (12, f6))] ++ ([(q4, .inl (cC, 3, .inl (upd (upd (upd (fun _ => 0) 0 (vp_nar .char 119)) 1 (vp_nar .char 104)) 2 (vp_nar .char 111))))] ++ w5)) H := by rw [ef6]; exact hP
  have hD : va_D A ([(h0, .inr (12, f6))] ++ ([(q4, .inl (cC, 3, .inl (upd (upd (upd (fun _ => 0) 0 (vp_nar .char 119)) 1 (vp_nar .char 104)) 2 (vp_nar .char 111))))] ++ w5)) := by rw [ef6]; exact hD
  have hlen : f6.length = 83 := by rw [ef6, List.length_set]; exact hlen
  refine lv_aload_n hx hb dX12_init_40 rfl (lv_at hl 0 rfl) ?_
  refine lv_iconst (v := (2 : Int32)) hx hb dX12_init_41 (by decide) ?_
  obtain ⟨w8, ew8⟩ : ∃ z : va_W, z = [(q4, .inl (cC, 3, .inl (upd (upd (upd (fun _ => 0) 0 (vp_nar .char 119)) 1 (vp_nar .char 104)) 2 (vp_nar .char 111))))] ++ w5 := ⟨_, rfl⟩
  have hP : va_P (dC, dI) vwCl ([(h0, .inr (12, f6))] ++ w8) H := by rw [ew8]; exact hP
  have hD : va_D A ([(h0, .inr (12, f6))] ++ w8) := by rw [ew8]; exact hD
  refine znew_c (N' := 2) hx hb (hts _ (List.mem_cons_of_mem _ mw_906)) hK 2 rfl hP hD hS hA (by decide) (by decide) (by decide) (Nat.le_of_ble_eq_true rfl) (Nat.le_of_ble_eq_true rfl) dX12_init_42 (fun q7 H hP hD hS => ?_)
  have hpm := (zrot ([(h0, .inr (12, f6))] ++ w8) [(q7, .inl (cC, 2, .inl (fun _ => 0)))]).trans (zswp [(q7, .inl (cC, 2, .inl (fun _ => 0)))] [(h0, .inr (12, f6))] w8)
  have hP := zP_perm hpm hP
  have hD := zD_perm hpm hD
  clear hpm
  have hP : va_P (dC, dI) vwCl ([(h0, .inr (12, f6))] ++ ([(q7, .inl (cC, 2, .inl (fun _ => 0)))] ++ w8)) H := hP
  have hD : va_D A ([(h0, .inr (12, f6))] ++ ([(q7, .inl (cC, 2, .inl (fun _ => 0)))] ++ w8)) := hD
  refine lv_dup hx hb dX12_init_44 rfl ?_
  refine lv_iconst (v := (0 : Int32)) hx hb dX12_init_45 (by decide) ?_
  refine lv_bipush (v := (97 : Int32)) hx hb dX12_init_46 (by decide) ?_
  refine va_cast hx hb hK hP hD hS 1 2 rfl rfl (i := (0 : Int32)) (zin (by decide)) dX12_init_48 (fun H locs hP hD hS => ?_)
  have hP : va_P (dC, dI) vwCl ([(h0, .inr (12, f6))] ++ ([(q7, .inl (cC, 2, .inl (upd (fun _ => 0) 0 (vp_nar .char 97))))] ++ w8)) H := hP
  have hD : va_D A ([(h0, .inr (12, f6))] ++ ([(q7, .inl (cC, 2, .inl (upd (fun _ => 0) 0 (vp_nar .char 97))))] ++ w8)) := hD
  refine lv_dup hx hb dX12_init_49 rfl ?_
  refine lv_iconst (v := (1 : Int32)) hx hb dX12_init_50 (by decide) ?_
  refine lv_bipush (v := (116 : Int32)) hx hb dX12_init_51 (by decide) ?_
  refine va_cast hx hb hK hP hD hS 1 2 rfl rfl (i := (1 : Int32)) (zin (by decide)) dX12_init_53 (fun H locs hP hD hS => ?_)
  have hP : va_P (dC, dI) vwCl ([(h0, .inr (12, f6))] ++ ([(q7, .inl (cC, 2, .inl (upd (upd (fun _ => 0) 0 (vp_nar .char 97)) 1 (vp_nar .char 116))))] ++ w8)) H := hP
  have hD : va_D A ([(h0, .inr (12, f6))] ++ ([(q7, .inl (cC, 2, .inl (upd (upd (fun _ => 0) 0 (vp_nar .char 97)) 1 (vp_nar .char 116))))] ++ w8)) := hD
  refine va_putF (D := (dC, dI)) (ci := 12) (v := .ref q7) (ty := .array .char) (C := RX12) (T := TX12) (N := 83) hx hb hts (fun w h => List.mem_cons_of_mem _ (inX12 w h)) tyX12 tyX12_ok nmX12 hown hK hP hD hS 0 rfl rfl 10 (by decide) (hts _ (List.mem_cons_of_mem _ mw_833)) (fun _ h9 => h9) rfl hin2 rfl (by decide +kernel) rfl rfl (by rw [hlen]; decide) dX12_init_54 (fun H locs hP hD hS => ?_)
  obtain ⟨f9, ef9⟩ : ∃ z : List Value, z = atWord.set 10 (.ref q7) := ⟨_, rfl⟩
  have hP : va_P (dC, dI) vwCl ([(h0, .inr (12, f9))] ++ ([(q7, .inl (cC, 2, .inl (upd (upd (fun _ => 0) 0 (vp_nar .char 97)) 1 (vp_nar .char 116))))] ++ w8)) H := by rw [ef9]; exact hP
  have hD : va_D A ([(h0, .inr (12, f9))] ++ ([(q7, .inl (cC, 2, .inl (upd (upd (fun _ => 0) 0 (vp_nar .char 97)) 1 (vp_nar .char 116))))] ++ w8)) := by rw [ef9]; exact hD
  have hlen : f9.length = 83 := by rw [ef9, List.length_set]; exact hlen
  refine lv_aload_n hx hb dX12_init_57 rfl (lv_at hl 0 rfl) ?_
  refine lv_iconst (v := (4 : Int32)) hx hb dX12_init_58 (by decide) ?_
  obtain ⟨w11, ew11⟩ : ∃ z : va_W, z = [(q7, .inl (cC, 2, .inl (upd (upd (fun _ => 0) 0 (vp_nar .char 97)) 1 (vp_nar .char 116))))] ++ w8 := ⟨_, rfl⟩
  have hP : va_P (dC, dI) vwCl ([(h0, .inr (12, f9))] ++ w11) H := by rw [ew11]; exact hP
  have hD : va_D A ([(h0, .inr (12, f9))] ++ w11) := by rw [ew11]; exact hD
  refine znew_c (N' := 4) hx hb (hts _ (List.mem_cons_of_mem _ mw_906)) hK 2 rfl hP hD hS hA (by decide) (by decide) (by decide) (Nat.le_of_ble_eq_true rfl) (Nat.le_of_ble_eq_true rfl) dX12_init_59 (fun q10 H hP hD hS => ?_)
  have hpm := (zrot ([(h0, .inr (12, f9))] ++ w11) [(q10, .inl (cC, 4, .inl (fun _ => 0)))]).trans (zswp [(q10, .inl (cC, 4, .inl (fun _ => 0)))] [(h0, .inr (12, f9))] w11)
  have hP := zP_perm hpm hP
  have hD := zD_perm hpm hD
  clear hpm
  have hP : va_P (dC, dI) vwCl ([(h0, .inr (12, f9))] ++ ([(q10, .inl (cC, 4, .inl (fun _ => 0)))] ++ w11)) H := hP
  have hD : va_D A ([(h0, .inr (12, f9))] ++ ([(q10, .inl (cC, 4, .inl (fun _ => 0)))] ++ w11)) := hD
  refine lv_dup hx hb dX12_init_61 rfl ?_
  refine lv_iconst (v := (0 : Int32)) hx hb dX12_init_62 (by decide) ?_
  refine lv_bipush (v := (99 : Int32)) hx hb dX12_init_63 (by decide) ?_
  refine va_cast hx hb hK hP hD hS 1 2 rfl rfl (i := (0 : Int32)) (zin (by decide)) dX12_init_65 (fun H locs hP hD hS => ?_)
  have hP : va_P (dC, dI) vwCl ([(h0, .inr (12, f9))] ++ ([(q10, .inl (cC, 4, .inl (upd (fun _ => 0) 0 (vp_nar .char 99))))] ++ w11)) H := hP
  have hD : va_D A ([(h0, .inr (12, f9))] ++ ([(q10, .inl (cC, 4, .inl (upd (fun _ => 0) 0 (vp_nar .char 99))))] ++ w11)) := hD
  refine lv_dup hx hb dX12_init_66 rfl ?_
  refine lv_iconst (v := (1 : Int32)) hx hb dX12_init_67 (by decide) ?_
  refine lv_bipush (v := (111 : Int32)) hx hb dX12_init_68 (by decide) ?_
  refine va_cast hx hb hK hP hD hS 1 2 rfl rfl (i := (1 : Int32)) (zin (by decide)) dX12_init_70 (fun H locs hP hD hS => ?_)
  have hP : va_P (dC, dI) vwCl ([(h0, .inr (12, f9))] ++ ([(q10, .inl (cC, 4, .inl (upd (upd (fun _ => 0) 0 (vp_nar .char 99)) 1 (vp_nar .char 111))))] ++ w11)) H := hP
  have hD : va_D A ([(h0, .inr (12, f9))] ++ ([(q10, .inl (cC, 4, .inl (upd (upd (fun _ => 0) 0 (vp_nar .char 99)) 1 (vp_nar .char 111))))] ++ w11)) := hD
  refine lv_dup hx hb dX12_init_71 rfl ?_
  refine lv_iconst (v := (2 : Int32)) hx hb dX12_init_72 (by decide) ?_
  refine lv_bipush (v := (115 : Int32)) hx hb dX12_init_73 (by decide) ?_
  refine va_cast hx hb hK hP hD hS 1 2 rfl rfl (i := (2 : Int32)) (zin (by decide)) dX12_init_75 (fun H locs hP hD hS => ?_)
  have hP : va_P (dC, dI) vwCl ([(h0, .inr (12, f9))] ++ ([(q10, .inl (cC, 4, .inl (upd (upd (upd (fun _ => 0) 0 (vp_nar .char 99)) 1 (vp_nar .char 111)) 2 (vp_nar .char 115))))] ++ w11)) H := hP
  have hD : va_D A ([(h0, .inr (12, f9))] ++ ([(q10, .inl (cC, 4, .inl (upd (upd (upd (fun _ => 0) 0 (vp_nar .char 99)) 1 (vp_nar .char 111)) 2 (vp_nar .char 115))))] ++ w11)) := hD
  refine lv_dup hx hb dX12_init_76 rfl ?_
  refine lv_iconst (v := (3 : Int32)) hx hb dX12_init_77 (by decide) ?_
  refine lv_bipush (v := (116 : Int32)) hx hb dX12_init_78 (by decide) ?_
  refine va_cast hx hb hK hP hD hS 1 2 rfl rfl (i := (3 : Int32)) (zin (by decide)) dX12_init_80 (fun H locs hP hD hS => ?_)
  have hP : va_P (dC, dI) vwCl ([(h0, .inr (12, f9))] ++ ([(q10, .inl (cC, 4, .inl (upd (upd (upd (upd (fun _ => 0) 0 (vp_nar .char 99)) 1 (vp_nar .char 111)) 2 (vp_nar .char 115)) 3 (vp_nar .char 116))))] ++ w11)) H := hP
  have hD : va_D A ([(h0, .inr (12, f9))] ++ ([(q10, .inl (cC, 4, .inl (upd (upd (upd (upd (fun _ => 0) 0 (vp_nar .char 99)) 1 (vp_nar .char 111)) 2 (vp_nar .char 115)) 3 (vp_nar .char 116))))] ++ w11)) := hD
  refine va_putF (D := (dC, dI)) (ci := 12) (v := .ref q10) (ty := .array .char) (C := RX12) (T := TX12) (N := 83) hx hb hts (fun w h => List.mem_cons_of_mem _ (inX12 w h)) tyX12 tyX12_ok nmX12 hown hK hP hD hS 0 rfl rfl 11 (by decide) (hts _ (List.mem_cons_of_mem _ mw_834)) (fun _ h9 => h9) rfl hin2 rfl (by decide +kernel) rfl rfl (by rw [hlen]; decide) dX12_init_81 (fun H locs hP hD hS => ?_)
  obtain ⟨f12, ef12⟩ : ∃ z : List Value, z = costWord.set 11 (.ref q10) := ⟨_, rfl⟩
  have hP : va_P (dC, dI) vwCl ([(h0, .inr (12, f12))] ++ ([(q10, .inl (cC, 4, .inl (upd (upd (upd (upd (fun _ => 0) 0 (vp_nar .char 99)) 1 (vp_nar .char 111)) 2 (vp_nar .char 115)) 3 (vp_nar .char 116))))] ++ w11)) H := by rw [ef12]; exact hP
  have hD : va_D A ([(h0, .inr (12, f12))] ++ ([(q10, .inl (cC, 4, .inl (upd (upd (upd (upd (fun _ => 0) 0 (vp_nar .char 99)) 1 (vp_nar .char 111)) 2 (vp_nar .char 115)) 3 (vp_nar .char 116))))] ++ w11)) := by rw [ef12]; exact hD
  have hlen : f12.length = 83 := by rw [ef12, List.length_set]; exact hlen
  refine lv_aload_n hx hb dX12_init_84 rfl (lv_at hl 0 rfl) ?_
  refine lv_iconst (v := (4 : Int32)) hx hb dX12_init_85 (by decide) ?_
  obtain ⟨w14, ew14⟩ : ∃ z : va_W, z = [(q10, .inl (cC, 4, .inl (upd (upd (upd (upd (fun _ => 0) 0 (vp_nar .char 99)) 1 (vp_nar .char 111)) 2 (vp_nar .char 115)) 3 (vp_nar .char 116))))] ++ w11 := ⟨_, rfl⟩
  have hP : va_P (dC, dI) vwCl ([(h0, .inr (12, f12))] ++ w14) H := by rw [ew14]; exact hP
  have hD : va_D A ([(h0, .inr (12, f12))] ++ w14) := by rw [ew14]; exact hD
  refine znew_c (N' := 4) hx hb (hts _ (List.mem_cons_of_mem _ mw_906)) hK 2 rfl hP hD hS hA (by decide) (by decide) (by decide) (Nat.le_of_ble_eq_true rfl) (Nat.le_of_ble_eq_true rfl) dX12_init_86 (fun q13 H hP hD hS => ?_)
  have hpm := (zrot ([(h0, .inr (12, f12))] ++ w14) [(q13, .inl (cC, 4, .inl (fun _ => 0)))]).trans (zswp [(q13, .inl (cC, 4, .inl (fun _ => 0)))] [(h0, .inr (12, f12))] w14)
  have hP := zP_perm hpm hP
  have hD := zD_perm hpm hD
  clear hpm
  have hP : va_P (dC, dI) vwCl ([(h0, .inr (12, f12))] ++ ([(q13, .inl (cC, 4, .inl (fun _ => 0)))] ++ w14)) H := hP
  have hD : va_D A ([(h0, .inr (12, f12))] ++ ([(q13, .inl (cC, 4, .inl (fun _ => 0)))] ++ w14)) := hD
  refine lv_dup hx hb dX12_init_88 rfl ?_
  refine lv_iconst (v := (0 : Int32)) hx hb dX12_init_89 (by decide) ?_
  refine lv_bipush (v := (119 : Int32)) hx hb dX12_init_90 (by decide) ?_
  refine va_cast hx hb hK hP hD hS 1 2 rfl rfl (i := (0 : Int32)) (zin (by decide)) dX12_init_92 (fun H locs hP hD hS => ?_)
  have hP : va_P (dC, dI) vwCl ([(h0, .inr (12, f12))] ++ ([(q13, .inl (cC, 4, .inl (upd (fun _ => 0) 0 (vp_nar .char 119))))] ++ w14)) H := hP
  have hD : va_D A ([(h0, .inr (12, f12))] ++ ([(q13, .inl (cC, 4, .inl (upd (fun _ => 0) 0 (vp_nar .char 119))))] ++ w14)) := hD
  refine lv_dup hx hb dX12_init_93 rfl ?_
  refine lv_iconst (v := (1 : Int32)) hx hb dX12_init_94 (by decide) ?_
  refine lv_bipush (v := (104 : Int32)) hx hb dX12_init_95 (by decide) ?_
  refine va_cast hx hb hK hP hD hS 1 2 rfl rfl (i := (1 : Int32)) (zin (by decide)) dX12_init_97 (fun H locs hP hD hS => ?_)
  have hP : va_P (dC, dI) vwCl ([(h0, .inr (12, f12))] ++ ([(q13, .inl (cC, 4, .inl (upd (upd (fun _ => 0) 0 (vp_nar .char 119)) 1 (vp_nar .char 104))))] ++ w14)) H := hP
  have hD : va_D A ([(h0, .inr (12, f12))] ++ ([(q13, .inl (cC, 4, .inl (upd (upd (fun _ => 0) 0 (vp_nar .char 119)) 1 (vp_nar .char 104))))] ++ w14)) := hD
  refine lv_dup hx hb dX12_init_98 rfl ?_
  refine lv_iconst (v := (2 : Int32)) hx hb dX12_init_99 (by decide) ?_
  refine lv_bipush (v := (101 : Int32)) hx hb dX12_init_100 (by decide) ?_
  refine va_cast hx hb hK hP hD hS 1 2 rfl rfl (i := (2 : Int32)) (zin (by decide)) dX12_init_102 (fun H locs hP hD hS => ?_)
  have hP : va_P (dC, dI) vwCl ([(h0, .inr (12, f12))] ++ ([(q13, .inl (cC, 4, .inl (upd (upd (upd (fun _ => 0) 0 (vp_nar .char 119)) 1 (vp_nar .char 104)) 2 (vp_nar .char 101))))] ++ w14)) H := hP
  have hD : va_D A ([(h0, .inr (12, f12))] ++ ([(q13, .inl (cC, 4, .inl (upd (upd (upd (fun _ => 0) 0 (vp_nar .char 119)) 1 (vp_nar .char 104)) 2 (vp_nar .char 101))))] ++ w14)) := hD
  refine lv_dup hx hb dX12_init_103 rfl ?_
  refine lv_iconst (v := (3 : Int32)) hx hb dX12_init_104 (by decide) ?_
  refine lv_bipush (v := (110 : Int32)) hx hb dX12_init_105 (by decide) ?_
  refine va_cast hx hb hK hP hD hS 1 2 rfl rfl (i := (3 : Int32)) (zin (by decide)) dX12_init_107 (fun H locs hP hD hS => ?_)
  have hP : va_P (dC, dI) vwCl ([(h0, .inr (12, f12))] ++ ([(q13, .inl (cC, 4, .inl (upd (upd (upd (upd (fun _ => 0) 0 (vp_nar .char 119)) 1 (vp_nar .char 104)) 2 (vp_nar .char 101)) 3 (vp_nar .char 110))))] ++ w14)) H := hP
  have hD : va_D A ([(h0, .inr (12, f12))] ++ ([(q13, .inl (cC, 4, .inl (upd (upd (upd (upd (fun _ => 0) 0 (vp_nar .char 119)) 1 (vp_nar .char 104)) 2 (vp_nar .char 101)) 3 (vp_nar .char 110))))] ++ w14)) := hD
  refine va_putF (D := (dC, dI)) (ci := 12) (v := .ref q13) (ty := .array .char) (C := RX12) (T := TX12) (N := 83) hx hb hts (fun w h => List.mem_cons_of_mem _ (inX12 w h)) tyX12 tyX12_ok nmX12 hown hK hP hD hS 0 rfl rfl 12 (by decide) (hts _ (List.mem_cons_of_mem _ mw_835)) (fun _ h9 => h9) rfl hin2 rfl (by decide +kernel) rfl rfl (by rw [hlen]; decide) dX12_init_108 (fun H locs hP hD hS => ?_)
  obtain ⟨f15, ef15⟩ : ∃ z : List Value, z = whenWord.set 12 (.ref q13) := ⟨_, rfl⟩
  have hP : va_P (dC, dI) vwCl ([(h0, .inr (12, f15))] ++ ([(q13, .inl (cC, 4, .inl (upd (upd (upd (upd (fun _ => 0) 0 (vp_nar .char 119)) 1 (vp_nar .char 104)) 2 (vp_nar .char 101)) 3 (vp_nar .char 110))))] ++ w14)) H := by rw [ef15]; exact hP
  have hD : va_D A ([(h0, .inr (12, f15))] ++ ([(q13, .inl (cC, 4, .inl (upd (upd (upd (upd (fun _ => 0) 0 (vp_nar .char 119)) 1 (vp_nar .char 104)) 2 (vp_nar .char 101)) 3 (vp_nar .char 110))))] ++ w14)) := by rw [ef15]; exact hD
  have hlen : f15.length = 83 := by rw [ef15, List.length_set]; exact hlen
  refine lv_aload_n hx hb dX12_init_111 rfl (lv_at hl 0 rfl) ?_
  refine lv_iconst (v := (4 : Int32)) hx hb dX12_init_112 (by decide) ?_
  obtain ⟨w17, ew17⟩ : ∃ z : va_W, z = [(q13, .inl (cC, 4, .inl (upd (upd (upd (upd (fun _ => 0) 0 (vp_nar .char 119)) 1 (vp_nar .char 104)) 2 (vp_nar .char 101)) 3 (vp_nar .char 110))))] ++ w14 := ⟨_, rfl⟩
  have hP : va_P (dC, dI) vwCl ([(h0, .inr (12, f15))] ++ w17) H := by rw [ew17]; exact hP
  have hD : va_D A ([(h0, .inr (12, f15))] ++ w17) := by rw [ew17]; exact hD
  refine znew_c (N' := 4) hx hb (hts _ (List.mem_cons_of_mem _ mw_906)) hK 2 rfl hP hD hS hA (by decide) (by decide) (by decide) (Nat.le_of_ble_eq_true rfl) (Nat.le_of_ble_eq_true rfl) dX12_init_113 (fun q16 H hP hD hS => ?_)
  have hpm := (zrot ([(h0, .inr (12, f15))] ++ w17) [(q16, .inl (cC, 4, .inl (fun _ => 0)))]).trans (zswp [(q16, .inl (cC, 4, .inl (fun _ => 0)))] [(h0, .inr (12, f15))] w17)
  have hP := zP_perm hpm hP
  have hD := zD_perm hpm hD
  clear hpm
  have hP : va_P (dC, dI) vwCl ([(h0, .inr (12, f15))] ++ ([(q16, .inl (cC, 4, .inl (fun _ => 0)))] ++ w17)) H := hP
  have hD : va_D A ([(h0, .inr (12, f15))] ++ ([(q16, .inl (cC, 4, .inl (fun _ => 0)))] ++ w17)) := hD
  refine lv_dup hx hb dX12_init_115 rfl ?_
  refine lv_iconst (v := (0 : Int32)) hx hb dX12_init_116 (by decide) ?_
  refine lv_bipush (v := (110 : Int32)) hx hb dX12_init_117 (by decide) ?_
  refine va_cast hx hb hK hP hD hS 1 2 rfl rfl (i := (0 : Int32)) (zin (by decide)) dX12_init_119 (fun H locs hP hD hS => ?_)
  have hP : va_P (dC, dI) vwCl ([(h0, .inr (12, f15))] ++ ([(q16, .inl (cC, 4, .inl (upd (fun _ => 0) 0 (vp_nar .char 110))))] ++ w17)) H := hP
  have hD : va_D A ([(h0, .inr (12, f15))] ++ ([(q16, .inl (cC, 4, .inl (upd (fun _ => 0) 0 (vp_nar .char 110))))] ++ w17)) := hD
  refine lv_dup hx hb dX12_init_120 rfl ?_
  refine lv_iconst (v := (1 : Int32)) hx hb dX12_init_121 (by decide) ?_
  refine lv_bipush (v := (101 : Int32)) hx hb dX12_init_122 (by decide) ?_
  refine va_cast hx hb hK hP hD hS 1 2 rfl rfl (i := (1 : Int32)) (zin (by decide)) dX12_init_124 (fun H locs hP hD hS => ?_)
  have hP : va_P (dC, dI) vwCl ([(h0, .inr (12, f15))] ++ ([(q16, .inl (cC, 4, .inl (upd (upd (fun _ => 0) 0 (vp_nar .char 110)) 1 (vp_nar .char 101))))] ++ w17)) H := hP
  have hD : va_D A ([(h0, .inr (12, f15))] ++ ([(q16, .inl (cC, 4, .inl (upd (upd (fun _ => 0) 0 (vp_nar .char 110)) 1 (vp_nar .char 101))))] ++ w17)) := hD
  refine lv_dup hx hb dX12_init_125 rfl ?_
  refine lv_iconst (v := (2 : Int32)) hx hb dX12_init_126 (by decide) ?_
  refine lv_bipush (v := (119 : Int32)) hx hb dX12_init_127 (by decide) ?_
  refine va_cast hx hb hK hP hD hS 1 2 rfl rfl (i := (2 : Int32)) (zin (by decide)) dX12_init_129 (fun H locs hP hD hS => ?_)
  have hP : va_P (dC, dI) vwCl ([(h0, .inr (12, f15))] ++ ([(q16, .inl (cC, 4, .inl (upd (upd (upd (fun _ => 0) 0 (vp_nar .char 110)) 1 (vp_nar .char 101)) 2 (vp_nar .char 119))))] ++ w17)) H := hP
  have hD : va_D A ([(h0, .inr (12, f15))] ++ ([(q16, .inl (cC, 4, .inl (upd (upd (upd (fun _ => 0) 0 (vp_nar .char 110)) 1 (vp_nar .char 101)) 2 (vp_nar .char 119))))] ++ w17)) := hD
  refine lv_dup hx hb dX12_init_130 rfl ?_
  refine lv_iconst (v := (3 : Int32)) hx hb dX12_init_131 (by decide) ?_
  refine lv_bipush (v := (115 : Int32)) hx hb dX12_init_132 (by decide) ?_
  refine va_cast hx hb hK hP hD hS 1 2 rfl rfl (i := (3 : Int32)) (zin (by decide)) dX12_init_134 (fun H locs hP hD hS => ?_)
  have hP : va_P (dC, dI) vwCl ([(h0, .inr (12, f15))] ++ ([(q16, .inl (cC, 4, .inl (upd (upd (upd (upd (fun _ => 0) 0 (vp_nar .char 110)) 1 (vp_nar .char 101)) 2 (vp_nar .char 119)) 3 (vp_nar .char 115))))] ++ w17)) H := hP
  have hD : va_D A ([(h0, .inr (12, f15))] ++ ([(q16, .inl (cC, 4, .inl (upd (upd (upd (upd (fun _ => 0) 0 (vp_nar .char 110)) 1 (vp_nar .char 101)) 2 (vp_nar .char 119)) 3 (vp_nar .char 115))))] ++ w17)) := hD
  refine va_putF (D := (dC, dI)) (ci := 12) (v := .ref q16) (ty := .array .char) (C := RX12) (T := TX12) (N := 83) hx hb hts (fun w h => List.mem_cons_of_mem _ (inX12 w h)) tyX12 tyX12_ok nmX12 hown hK hP hD hS 0 rfl rfl 13 (by decide) (hts _ (List.mem_cons_of_mem _ mw_836)) (fun _ h9 => h9) rfl hin2 rfl (by decide +kernel) rfl rfl (by rw [hlen]; decide) dX12_init_135 (fun H locs hP hD hS => ?_)
  obtain ⟨f18, ef18⟩ : ∃ z : List Value, z = newsWord.set 13 (.ref q16) := ⟨_, rfl⟩
  have hP : va_P (dC, dI) vwCl ([(h0, .inr (12, f18))] ++ ([(q16, .inl (cC, 4, .inl (upd (upd (upd (upd (fun _ => 0) 0 (vp_nar .char 110)) 1 (vp_nar .char 101)) 2 (vp_nar .char 119)) 3 (vp_nar .char 115))))] ++ w17)) H := by rw [ef18]; exact hP
  have hD : va_D A ([(h0, .inr (12, f18))] ++ ([(q16, .inl (cC, 4, .inl (upd (upd (upd (upd (fun _ => 0) 0 (vp_nar .char 110)) 1 (vp_nar .char 101)) 2 (vp_nar .char 119)) 3 (vp_nar .char 115))))] ++ w17)) := by rw [ef18]; exact hD
  have hlen : f18.length = 83 := by rw [ef18, List.length_set]; exact hlen
  refine lv_aload_n hx hb dX12_init_138 rfl (lv_at hl 0 rfl) ?_
  refine lv_iconst (v := (3 : Int32)) hx hb dX12_init_139 (by decide) ?_
  obtain ⟨w20, ew20⟩ : ∃ z : va_W, z = [(q16, .inl (cC, 4, .inl (upd (upd (upd (upd (fun _ => 0) 0 (vp_nar .char 110)) 1 (vp_nar .char 101)) 2 (vp_nar .char 119)) 3 (vp_nar .char 115))))] ++ w17 := ⟨_, rfl⟩
  have hP : va_P (dC, dI) vwCl ([(h0, .inr (12, f18))] ++ w20) H := by rw [ew20]; exact hP
  have hD : va_D A ([(h0, .inr (12, f18))] ++ w20) := by rw [ew20]; exact hD
  refine znew_c (N' := 3) hx hb (hts _ (List.mem_cons_of_mem _ mw_906)) hK 2 rfl hP hD hS hA (by decide) (by decide) (by decide) (Nat.le_of_ble_eq_true rfl) (Nat.le_of_ble_eq_true rfl) dX12_init_140 (fun q19 H hP hD hS => ?_)
  have hpm := (zrot ([(h0, .inr (12, f18))] ++ w20) [(q19, .inl (cC, 3, .inl (fun _ => 0)))]).trans (zswp [(q19, .inl (cC, 3, .inl (fun _ => 0)))] [(h0, .inr (12, f18))] w20)
  have hP := zP_perm hpm hP
  have hD := zD_perm hpm hD
  clear hpm
  have hP : va_P (dC, dI) vwCl ([(h0, .inr (12, f18))] ++ ([(q19, .inl (cC, 3, .inl (fun _ => 0)))] ++ w20)) H := hP
  have hD : va_D A ([(h0, .inr (12, f18))] ++ ([(q19, .inl (cC, 3, .inl (fun _ => 0)))] ++ w20)) := hD
  refine lv_dup hx hb dX12_init_142 rfl ?_
  refine lv_iconst (v := (0 : Int32)) hx hb dX12_init_143 (by decide) ?_
  refine lv_bipush (v := (98 : Int32)) hx hb dX12_init_144 (by decide) ?_
  refine va_cast hx hb hK hP hD hS 1 2 rfl rfl (i := (0 : Int32)) (zin (by decide)) dX12_init_146 (fun H locs hP hD hS => ?_)
  have hP : va_P (dC, dI) vwCl ([(h0, .inr (12, f18))] ++ ([(q19, .inl (cC, 3, .inl (upd (fun _ => 0) 0 (vp_nar .char 98))))] ++ w20)) H := hP
  have hD : va_D A ([(h0, .inr (12, f18))] ++ ([(q19, .inl (cC, 3, .inl (upd (fun _ => 0) 0 (vp_nar .char 98))))] ++ w20)) := hD
  refine lv_dup hx hb dX12_init_147 rfl ?_
  refine lv_iconst (v := (1 : Int32)) hx hb dX12_init_148 (by decide) ?_
  refine lv_bipush (v := (97 : Int32)) hx hb dX12_init_149 (by decide) ?_
  refine va_cast hx hb hK hP hD hS 1 2 rfl rfl (i := (1 : Int32)) (zin (by decide)) dX12_init_151 (fun H locs hP hD hS => ?_)
  have hP : va_P (dC, dI) vwCl ([(h0, .inr (12, f18))] ++ ([(q19, .inl (cC, 3, .inl (upd (upd (fun _ => 0) 0 (vp_nar .char 98)) 1 (vp_nar .char 97))))] ++ w20)) H := hP
  have hD : va_D A ([(h0, .inr (12, f18))] ++ ([(q19, .inl (cC, 3, .inl (upd (upd (fun _ => 0) 0 (vp_nar .char 98)) 1 (vp_nar .char 97))))] ++ w20)) := hD
  refine lv_dup hx hb dX12_init_152 rfl ?_
  refine lv_iconst (v := (2 : Int32)) hx hb dX12_init_153 (by decide) ?_
  refine lv_bipush (v := (114 : Int32)) hx hb dX12_init_154 (by decide) ?_
  refine va_cast hx hb hK hP hD hS 1 2 rfl rfl (i := (2 : Int32)) (zin (by decide)) dX12_init_156 (fun H locs hP hD hS => ?_)
  have hP : va_P (dC, dI) vwCl ([(h0, .inr (12, f18))] ++ ([(q19, .inl (cC, 3, .inl (upd (upd (upd (fun _ => 0) 0 (vp_nar .char 98)) 1 (vp_nar .char 97)) 2 (vp_nar .char 114))))] ++ w20)) H := hP
  have hD : va_D A ([(h0, .inr (12, f18))] ++ ([(q19, .inl (cC, 3, .inl (upd (upd (upd (fun _ => 0) 0 (vp_nar .char 98)) 1 (vp_nar .char 97)) 2 (vp_nar .char 114))))] ++ w20)) := hD
  refine va_putF (D := (dC, dI)) (ci := 12) (v := .ref q19) (ty := .array .char) (C := RX12) (T := TX12) (N := 83) hx hb hts (fun w h => List.mem_cons_of_mem _ (inX12 w h)) tyX12 tyX12_ok nmX12 hown hK hP hD hS 0 rfl rfl 14 (by decide) (hts _ (List.mem_cons_of_mem _ mw_837)) (fun _ h9 => h9) rfl hin2 rfl (by decide +kernel) rfl rfl (by rw [hlen]; decide) dX12_init_157 (fun H locs hP hD hS => ?_)
  obtain ⟨f21, ef21⟩ : ∃ z : List Value, z = barWord.set 14 (.ref q19) := ⟨_, rfl⟩
  have hP : va_P (dC, dI) vwCl ([(h0, .inr (12, f21))] ++ ([(q19, .inl (cC, 3, .inl (upd (upd (upd (fun _ => 0) 0 (vp_nar .char 98)) 1 (vp_nar .char 97)) 2 (vp_nar .char 114))))] ++ w20)) H := by rw [ef21]; exact hP
  have hD : va_D A ([(h0, .inr (12, f21))] ++ ([(q19, .inl (cC, 3, .inl (upd (upd (upd (fun _ => 0) 0 (vp_nar .char 98)) 1 (vp_nar .char 97)) 2 (vp_nar .char 114))))] ++ w20)) := by rw [ef21]; exact hD
  have hlen : f21.length = 83 := by rw [ef21, List.length_set]; exact hlen
  refine lv_aload_n hx hb dX12_init_160 rfl (lv_at hl 0 rfl) ?_
  refine lv_iconst (v := (4 : Int32)) hx hb dX12_init_161 (by decide) ?_
  obtain ⟨w23, ew23⟩ : ∃ z : va_W, z = [(q19, .inl (cC, 3, .inl (upd (upd (upd (fun _ => 0) 0 (vp_nar .char 98)) 1 (vp_nar .char 97)) 2 (vp_nar .char 114))))] ++ w20 := ⟨_, rfl⟩
  have hP : va_P (dC, dI) vwCl ([(h0, .inr (12, f21))] ++ w23) H := by rw [ew23]; exact hP
  have hD : va_D A ([(h0, .inr (12, f21))] ++ w23) := by rw [ew23]; exact hD
  refine znew_c (N' := 4) hx hb (hts _ (List.mem_cons_of_mem _ mw_906)) hK 2 rfl hP hD hS hA (by decide) (by decide) (by decide) (Nat.le_of_ble_eq_true rfl) (Nat.le_of_ble_eq_true rfl) dX12_init_162 (fun q22 H hP hD hS => ?_)
  have hpm := (zrot ([(h0, .inr (12, f21))] ++ w23) [(q22, .inl (cC, 4, .inl (fun _ => 0)))]).trans (zswp [(q22, .inl (cC, 4, .inl (fun _ => 0)))] [(h0, .inr (12, f21))] w23)
  have hP := zP_perm hpm hP
  have hD := zD_perm hpm hD
  clear hpm
  have hP : va_P (dC, dI) vwCl ([(h0, .inr (12, f21))] ++ ([(q22, .inl (cC, 4, .inl (fun _ => 0)))] ++ w23)) H := hP
  have hD : va_D A ([(h0, .inr (12, f21))] ++ ([(q22, .inl (cC, 4, .inl (fun _ => 0)))] ++ w23)) := hD
  refine lv_dup hx hb dX12_init_164 rfl ?_
  refine lv_iconst (v := (0 : Int32)) hx hb dX12_init_165 (by decide) ?_
  refine lv_bipush (v := (109 : Int32)) hx hb dX12_init_166 (by decide) ?_
  refine va_cast hx hb hK hP hD hS 1 2 rfl rfl (i := (0 : Int32)) (zin (by decide)) dX12_init_168 (fun H locs hP hD hS => ?_)
  have hP : va_P (dC, dI) vwCl ([(h0, .inr (12, f21))] ++ ([(q22, .inl (cC, 4, .inl (upd (fun _ => 0) 0 (vp_nar .char 109))))] ++ w23)) H := hP
  have hD : va_D A ([(h0, .inr (12, f21))] ++ ([(q22, .inl (cC, 4, .inl (upd (fun _ => 0) 0 (vp_nar .char 109))))] ++ w23)) := hD
  refine lv_dup hx hb dX12_init_169 rfl ?_
  refine lv_iconst (v := (1 : Int32)) hx hb dX12_init_170 (by decide) ?_
  refine lv_bipush (v := (111 : Int32)) hx hb dX12_init_171 (by decide) ?_
  refine va_cast hx hb hK hP hD hS 1 2 rfl rfl (i := (1 : Int32)) (zin (by decide)) dX12_init_173 (fun H locs hP hD hS => ?_)
  have hP : va_P (dC, dI) vwCl ([(h0, .inr (12, f21))] ++ ([(q22, .inl (cC, 4, .inl (upd (upd (fun _ => 0) 0 (vp_nar .char 109)) 1 (vp_nar .char 111))))] ++ w23)) H := hP
  have hD : va_D A ([(h0, .inr (12, f21))] ++ ([(q22, .inl (cC, 4, .inl (upd (upd (fun _ => 0) 0 (vp_nar .char 109)) 1 (vp_nar .char 111))))] ++ w23)) := hD
  refine lv_dup hx hb dX12_init_174 rfl ?_
  refine lv_iconst (v := (2 : Int32)) hx hb dX12_init_175 (by decide) ?_
  refine lv_bipush (v := (115 : Int32)) hx hb dX12_init_176 (by decide) ?_
  refine va_cast hx hb hK hP hD hS 1 2 rfl rfl (i := (2 : Int32)) (zin (by decide)) dX12_init_178 (fun H locs hP hD hS => ?_)
  have hP : va_P (dC, dI) vwCl ([(h0, .inr (12, f21))] ++ ([(q22, .inl (cC, 4, .inl (upd (upd (upd (fun _ => 0) 0 (vp_nar .char 109)) 1 (vp_nar .char 111)) 2 (vp_nar .char 115))))] ++ w23)) H := hP
  have hD : va_D A ([(h0, .inr (12, f21))] ++ ([(q22, .inl (cC, 4, .inl (upd (upd (upd (fun _ => 0) 0 (vp_nar .char 109)) 1 (vp_nar .char 111)) 2 (vp_nar .char 115))))] ++ w23)) := hD
  refine lv_dup hx hb dX12_init_179 rfl ?_
  refine lv_iconst (v := (3 : Int32)) hx hb dX12_init_180 (by decide) ?_
  refine lv_bipush (v := (116 : Int32)) hx hb dX12_init_181 (by decide) ?_
  refine va_cast hx hb hK hP hD hS 1 2 rfl rfl (i := (3 : Int32)) (zin (by decide)) dX12_init_183 (fun H locs hP hD hS => ?_)
  have hP : va_P (dC, dI) vwCl ([(h0, .inr (12, f21))] ++ ([(q22, .inl (cC, 4, .inl (upd (upd (upd (upd (fun _ => 0) 0 (vp_nar .char 109)) 1 (vp_nar .char 111)) 2 (vp_nar .char 115)) 3 (vp_nar .char 116))))] ++ w23)) H := hP
  have hD : va_D A ([(h0, .inr (12, f21))] ++ ([(q22, .inl (cC, 4, .inl (upd (upd (upd (upd (fun _ => 0) 0 (vp_nar .char 109)) 1 (vp_nar .char 111)) 2 (vp_nar .char 115)) 3 (vp_nar .char 116))))] ++ w23)) := hD
  refine va_putF (D := (dC, dI)) (ci := 12) (v := .ref q22) (ty := .array .char) (C := RX12) (T := TX12) (N := 83) hx hb hts (fun w h => List.mem_cons_of_mem _ (inX12 w h)) tyX12 tyX12_ok nmX12 hown hK hP hD hS 0 rfl rfl 15 (by decide) (hts _ (List.mem_cons_of_mem _ mw_838)) (fun _ h9 => h9) rfl hin2 rfl (by decide +kernel) rfl rfl (by rw [hlen]; decide) dX12_init_184 (fun H locs hP hD hS => ?_)
  obtain ⟨f24, ef24⟩ : ∃ z : List Value, z = mostWord.set 15 (.ref q22) := ⟨_, rfl⟩
  have hP : va_P (dC, dI) vwCl ([(h0, .inr (12, f24))] ++ ([(q22, .inl (cC, 4, .inl (upd (upd (upd (upd (fun _ => 0) 0 (vp_nar .char 109)) 1 (vp_nar .char 111)) 2 (vp_nar .char 115)) 3 (vp_nar .char 116))))] ++ w23)) H := by rw [ef24]; exact hP
  have hD : va_D A ([(h0, .inr (12, f24))] ++ ([(q22, .inl (cC, 4, .inl (upd (upd (upd (upd (fun _ => 0) 0 (vp_nar .char 109)) 1 (vp_nar .char 111)) 2 (vp_nar .char 115)) 3 (vp_nar .char 116))))] ++ w23)) := by rw [ef24]; exact hD
  have hlen : f24.length = 83 := by rw [ef24, List.length_set]; exact hlen
  refine lv_aload_n hx hb dX12_init_187 rfl (lv_at hl 0 rfl) ?_
  refine lv_iconst (v := (2 : Int32)) hx hb dX12_init_188 (by decide) ?_
  obtain ⟨w26, ew26⟩ : ∃ z : va_W, z = [(q22, .inl (cC, 4, .inl (upd (upd (upd (upd (fun _ => 0) 0 (vp_nar .char 109)) 1 (vp_nar .char 111)) 2 (vp_nar .char 115)) 3 (vp_nar .char 116))))] ++ w23 := ⟨_, rfl⟩
  have hP : va_P (dC, dI) vwCl ([(h0, .inr (12, f24))] ++ w26) H := by rw [ew26]; exact hP
  have hD : va_D A ([(h0, .inr (12, f24))] ++ w26) := by rw [ew26]; exact hD
  refine znew_c (N' := 2) hx hb (hts _ (List.mem_cons_of_mem _ mw_906)) hK 2 rfl hP hD hS hA (by decide) (by decide) (by decide) (Nat.le_of_ble_eq_true rfl) (Nat.le_of_ble_eq_true rfl) dX12_init_189 (fun q25 H hP hD hS => ?_)
  have hpm := (zrot ([(h0, .inr (12, f24))] ++ w26) [(q25, .inl (cC, 2, .inl (fun _ => 0)))]).trans (zswp [(q25, .inl (cC, 2, .inl (fun _ => 0)))] [(h0, .inr (12, f24))] w26)
  have hP := zP_perm hpm hP
  have hD := zD_perm hpm hD
  clear hpm
  have hP : va_P (dC, dI) vwCl ([(h0, .inr (12, f24))] ++ ([(q25, .inl (cC, 2, .inl (fun _ => 0)))] ++ w26)) H := hP
  have hD : va_D A ([(h0, .inr (12, f24))] ++ ([(q25, .inl (cC, 2, .inl (fun _ => 0)))] ++ w26)) := hD
  refine lv_dup hx hb dX12_init_191 rfl ?_
  refine lv_iconst (v := (0 : Int32)) hx hb dX12_init_192 (by decide) ?_
  refine lv_bipush (v := (111 : Int32)) hx hb dX12_init_193 (by decide) ?_
  refine va_cast hx hb hK hP hD hS 1 2 rfl rfl (i := (0 : Int32)) (zin (by decide)) dX12_init_195 (fun H locs hP hD hS => ?_)
  have hP : va_P (dC, dI) vwCl ([(h0, .inr (12, f24))] ++ ([(q25, .inl (cC, 2, .inl (upd (fun _ => 0) 0 (vp_nar .char 111))))] ++ w26)) H := hP
  have hD : va_D A ([(h0, .inr (12, f24))] ++ ([(q25, .inl (cC, 2, .inl (upd (fun _ => 0) 0 (vp_nar .char 111))))] ++ w26)) := hD
  refine lv_dup hx hb dX12_init_196 rfl ?_
  refine lv_iconst (v := (1 : Int32)) hx hb dX12_init_197 (by decide) ?_
  refine lv_bipush (v := (114 : Int32)) hx hb dX12_init_198 (by decide) ?_
  refine va_cast hx hb hK hP hD hS 1 2 rfl rfl (i := (1 : Int32)) (zin (by decide)) dX12_init_200 (fun H locs hP hD hS => ?_)
  have hP : va_P (dC, dI) vwCl ([(h0, .inr (12, f24))] ++ ([(q25, .inl (cC, 2, .inl (upd (upd (fun _ => 0) 0 (vp_nar .char 111)) 1 (vp_nar .char 114))))] ++ w26)) H := hP
  have hD : va_D A ([(h0, .inr (12, f24))] ++ ([(q25, .inl (cC, 2, .inl (upd (upd (fun _ => 0) 0 (vp_nar .char 111)) 1 (vp_nar .char 114))))] ++ w26)) := hD
  refine va_putF (D := (dC, dI)) (ci := 12) (v := .ref q25) (ty := .array .char) (C := RX12) (T := TX12) (N := 83) hx hb hts (fun w h => List.mem_cons_of_mem _ (inX12 w h)) tyX12 tyX12_ok nmX12 hown hK hP hD hS 0 rfl rfl 16 (by decide) (hts _ (List.mem_cons_of_mem _ mw_839)) (fun _ h9 => h9) rfl hin2 rfl (by decide +kernel) rfl rfl (by rw [hlen]; decide) dX12_init_201 (fun H locs hP hD hS => ?_)
  obtain ⟨f27, ef27⟩ : ∃ z : List Value, z = orWord.set 16 (.ref q25) := ⟨_, rfl⟩
  have hP : va_P (dC, dI) vwCl ([(h0, .inr (12, f27))] ++ ([(q25, .inl (cC, 2, .inl (upd (upd (fun _ => 0) 0 (vp_nar .char 111)) 1 (vp_nar .char 114))))] ++ w26)) H := by rw [ef27]; exact hP
  have hD : va_D A ([(h0, .inr (12, f27))] ++ ([(q25, .inl (cC, 2, .inl (upd (upd (fun _ => 0) 0 (vp_nar .char 111)) 1 (vp_nar .char 114))))] ++ w26)) := by rw [ef27]; exact hD
  have hlen : f27.length = 83 := by rw [ef27, List.length_set]; exact hlen
  refine lv_aload_n hx hb dX12_init_204 rfl (lv_at hl 0 rfl) ?_
  refine lv_iconst (v := (3 : Int32)) hx hb dX12_init_205 (by decide) ?_
  obtain ⟨w29, ew29⟩ : ∃ z : va_W, z = [(q25, .inl (cC, 2, .inl (upd (upd (fun _ => 0) 0 (vp_nar .char 111)) 1 (vp_nar .char 114))))] ++ w26 := ⟨_, rfl⟩
  have hP : va_P (dC, dI) vwCl ([(h0, .inr (12, f27))] ++ w29) H := by rw [ew29]; exact hP
  have hD : va_D A ([(h0, .inr (12, f27))] ++ w29) := by rw [ew29]; exact hD
  refine znew_c (N' := 3) hx hb (hts _ (List.mem_cons_of_mem _ mw_906)) hK 2 rfl hP hD hS hA (by decide) (by decide) (by decide) (Nat.le_of_ble_eq_true rfl) (Nat.le_of_ble_eq_true rfl) dX12_init_206 (fun q28 H hP hD hS => ?_)
  have hpm := (zrot ([(h0, .inr (12, f27))] ++ w29) [(q28, .inl (cC, 3, .inl (fun _ => 0)))]).trans (zswp [(q28, .inl (cC, 3, .inl (fun _ => 0)))] [(h0, .inr (12, f27))] w29)
  have hP := zP_perm hpm hP
  have hD := zD_perm hpm hD
  clear hpm
  have hP : va_P (dC, dI) vwCl ([(h0, .inr (12, f27))] ++ ([(q28, .inl (cC, 3, .inl (fun _ => 0)))] ++ w29)) H := hP
  have hD : va_D A ([(h0, .inr (12, f27))] ++ ([(q28, .inl (cC, 3, .inl (fun _ => 0)))] ++ w29)) := hD
  refine lv_dup hx hb dX12_init_208 rfl ?_
  refine lv_iconst (v := (0 : Int32)) hx hb dX12_init_209 (by decide) ?_
  refine lv_bipush (v := (97 : Int32)) hx hb dX12_init_210 (by decide) ?_
  refine va_cast hx hb hK hP hD hS 1 2 rfl rfl (i := (0 : Int32)) (zin (by decide)) dX12_init_212 (fun H locs hP hD hS => ?_)
  have hP : va_P (dC, dI) vwCl ([(h0, .inr (12, f27))] ++ ([(q28, .inl (cC, 3, .inl (upd (fun _ => 0) 0 (vp_nar .char 97))))] ++ w29)) H := hP
  have hD : va_D A ([(h0, .inr (12, f27))] ++ ([(q28, .inl (cC, 3, .inl (upd (fun _ => 0) 0 (vp_nar .char 97))))] ++ w29)) := hD
  refine lv_dup hx hb dX12_init_213 rfl ?_
  refine lv_iconst (v := (1 : Int32)) hx hb dX12_init_214 (by decide) ?_
  refine lv_bipush (v := (110 : Int32)) hx hb dX12_init_215 (by decide) ?_
  refine va_cast hx hb hK hP hD hS 1 2 rfl rfl (i := (1 : Int32)) (zin (by decide)) dX12_init_217 (fun H locs hP hD hS => ?_)
  have hP : va_P (dC, dI) vwCl ([(h0, .inr (12, f27))] ++ ([(q28, .inl (cC, 3, .inl (upd (upd (fun _ => 0) 0 (vp_nar .char 97)) 1 (vp_nar .char 110))))] ++ w29)) H := hP
  have hD : va_D A ([(h0, .inr (12, f27))] ++ ([(q28, .inl (cC, 3, .inl (upd (upd (fun _ => 0) 0 (vp_nar .char 97)) 1 (vp_nar .char 110))))] ++ w29)) := hD
  refine lv_dup hx hb dX12_init_218 rfl ?_
  refine lv_iconst (v := (2 : Int32)) hx hb dX12_init_219 (by decide) ?_
  refine lv_bipush (v := (100 : Int32)) hx hb dX12_init_220 (by decide) ?_
  refine va_cast hx hb hK hP hD hS 1 2 rfl rfl (i := (2 : Int32)) (zin (by decide)) dX12_init_222 (fun H locs hP hD hS => ?_)
  have hP : va_P (dC, dI) vwCl ([(h0, .inr (12, f27))] ++ ([(q28, .inl (cC, 3, .inl (upd (upd (upd (fun _ => 0) 0 (vp_nar .char 97)) 1 (vp_nar .char 110)) 2 (vp_nar .char 100))))] ++ w29)) H := hP
  have hD : va_D A ([(h0, .inr (12, f27))] ++ ([(q28, .inl (cC, 3, .inl (upd (upd (upd (fun _ => 0) 0 (vp_nar .char 97)) 1 (vp_nar .char 110)) 2 (vp_nar .char 100))))] ++ w29)) := hD
  refine va_putF (D := (dC, dI)) (ci := 12) (v := .ref q28) (ty := .array .char) (C := RX12) (T := TX12) (N := 83) hx hb hts (fun w h => List.mem_cons_of_mem _ (inX12 w h)) tyX12 tyX12_ok nmX12 hown hK hP hD hS 0 rfl rfl 17 (by decide) (hts _ (List.mem_cons_of_mem _ mw_840)) (fun _ h9 => h9) rfl hin2 rfl (by decide +kernel) rfl rfl (by rw [hlen]; decide) dX12_init_223 (fun H locs hP hD hS => ?_)
  obtain ⟨f30, ef30⟩ : ∃ z : List Value, z = andWord.set 17 (.ref q28) := ⟨_, rfl⟩
  have hP : va_P (dC, dI) vwCl ([(h0, .inr (12, f30))] ++ ([(q28, .inl (cC, 3, .inl (upd (upd (upd (fun _ => 0) 0 (vp_nar .char 97)) 1 (vp_nar .char 110)) 2 (vp_nar .char 100))))] ++ w29)) H := by rw [ef30]; exact hP
  have hD : va_D A ([(h0, .inr (12, f30))] ++ ([(q28, .inl (cC, 3, .inl (upd (upd (upd (fun _ => 0) 0 (vp_nar .char 97)) 1 (vp_nar .char 110)) 2 (vp_nar .char 100))))] ++ w29)) := by rw [ef30]; exact hD
  have hlen : f30.length = 83 := by rw [ef30, List.length_set]; exact hlen
  refine lv_aload_n hx hb dX12_init_226 rfl (lv_at hl 0 rfl) ?_
  refine lv_iconst (v := (3 : Int32)) hx hb dX12_init_227 (by decide) ?_
  obtain ⟨w32, ew32⟩ : ∃ z : va_W, z = [(q28, .inl (cC, 3, .inl (upd (upd (upd (fun _ => 0) 0 (vp_nar .char 97)) 1 (vp_nar .char 110)) 2 (vp_nar .char 100))))] ++ w29 := ⟨_, rfl⟩
  have hP : va_P (dC, dI) vwCl ([(h0, .inr (12, f30))] ++ w32) H := by rw [ew32]; exact hP
  have hD : va_D A ([(h0, .inr (12, f30))] ++ w32) := by rw [ew32]; exact hD
  refine znew_c (N' := 3) hx hb (hts _ (List.mem_cons_of_mem _ mw_906)) hK 2 rfl hP hD hS hA (by decide) (by decide) (by decide) (Nat.le_of_ble_eq_true rfl) (Nat.le_of_ble_eq_true rfl) dX12_init_228 (fun q31 H hP hD hS => ?_)
  have hpm := (zrot ([(h0, .inr (12, f30))] ++ w32) [(q31, .inl (cC, 3, .inl (fun _ => 0)))]).trans (zswp [(q31, .inl (cC, 3, .inl (fun _ => 0)))] [(h0, .inr (12, f30))] w32)
  have hP := zP_perm hpm hP
  have hD := zD_perm hpm hD
  clear hpm
  have hP : va_P (dC, dI) vwCl ([(h0, .inr (12, f30))] ++ ([(q31, .inl (cC, 3, .inl (fun _ => 0)))] ++ w32)) H := hP
  have hD : va_D A ([(h0, .inr (12, f30))] ++ ([(q31, .inl (cC, 3, .inl (fun _ => 0)))] ++ w32)) := hD
  refine lv_dup hx hb dX12_init_230 rfl ?_
  refine lv_iconst (v := (0 : Int32)) hx hb dX12_init_231 (by decide) ?_
  refine lv_bipush (v := (110 : Int32)) hx hb dX12_init_232 (by decide) ?_
  refine va_cast hx hb hK hP hD hS 1 2 rfl rfl (i := (0 : Int32)) (zin (by decide)) dX12_init_234 (fun H locs hP hD hS => ?_)
  have hP : va_P (dC, dI) vwCl ([(h0, .inr (12, f30))] ++ ([(q31, .inl (cC, 3, .inl (upd (fun _ => 0) 0 (vp_nar .char 110))))] ++ w32)) H := hP
  have hD : va_D A ([(h0, .inr (12, f30))] ++ ([(q31, .inl (cC, 3, .inl (upd (fun _ => 0) 0 (vp_nar .char 110))))] ++ w32)) := hD
  refine lv_dup hx hb dX12_init_235 rfl ?_
  refine lv_iconst (v := (1 : Int32)) hx hb dX12_init_236 (by decide) ?_
  refine lv_bipush (v := (111 : Int32)) hx hb dX12_init_237 (by decide) ?_
  refine va_cast hx hb hK hP hD hS 1 2 rfl rfl (i := (1 : Int32)) (zin (by decide)) dX12_init_239 (fun H locs hP hD hS => ?_)
  have hP : va_P (dC, dI) vwCl ([(h0, .inr (12, f30))] ++ ([(q31, .inl (cC, 3, .inl (upd (upd (fun _ => 0) 0 (vp_nar .char 110)) 1 (vp_nar .char 111))))] ++ w32)) H := hP
  have hD : va_D A ([(h0, .inr (12, f30))] ++ ([(q31, .inl (cC, 3, .inl (upd (upd (fun _ => 0) 0 (vp_nar .char 110)) 1 (vp_nar .char 111))))] ++ w32)) := hD
  refine lv_dup hx hb dX12_init_240 rfl ?_
  refine lv_iconst (v := (2 : Int32)) hx hb dX12_init_241 (by decide) ?_
  refine lv_bipush (v := (116 : Int32)) hx hb dX12_init_242 (by decide) ?_
  refine va_cast hx hb hK hP hD hS 1 2 rfl rfl (i := (2 : Int32)) (zin (by decide)) dX12_init_244 (fun H locs hP hD hS => ?_)
  have hP : va_P (dC, dI) vwCl ([(h0, .inr (12, f30))] ++ ([(q31, .inl (cC, 3, .inl (upd (upd (upd (fun _ => 0) 0 (vp_nar .char 110)) 1 (vp_nar .char 111)) 2 (vp_nar .char 116))))] ++ w32)) H := hP
  have hD : va_D A ([(h0, .inr (12, f30))] ++ ([(q31, .inl (cC, 3, .inl (upd (upd (upd (fun _ => 0) 0 (vp_nar .char 110)) 1 (vp_nar .char 111)) 2 (vp_nar .char 116))))] ++ w32)) := hD
  refine va_putF (D := (dC, dI)) (ci := 12) (v := .ref q31) (ty := .array .char) (C := RX12) (T := TX12) (N := 83) hx hb hts (fun w h => List.mem_cons_of_mem _ (inX12 w h)) tyX12 tyX12_ok nmX12 hown hK hP hD hS 0 rfl rfl 18 (by decide) (hts _ (List.mem_cons_of_mem _ mw_841)) (fun _ h9 => h9) rfl hin2 rfl (by decide +kernel) rfl rfl (by rw [hlen]; decide) dX12_init_245 (fun H locs hP hD hS => ?_)
  obtain ⟨f33, ef33⟩ : ∃ z : List Value, z = notWord.set 18 (.ref q31) := ⟨_, rfl⟩
  have hP : va_P (dC, dI) vwCl ([(h0, .inr (12, f33))] ++ ([(q31, .inl (cC, 3, .inl (upd (upd (upd (fun _ => 0) 0 (vp_nar .char 110)) 1 (vp_nar .char 111)) 2 (vp_nar .char 116))))] ++ w32)) H := by rw [ef33]; exact hP
  have hD : va_D A ([(h0, .inr (12, f33))] ++ ([(q31, .inl (cC, 3, .inl (upd (upd (upd (fun _ => 0) 0 (vp_nar .char 110)) 1 (vp_nar .char 111)) 2 (vp_nar .char 116))))] ++ w32)) := by rw [ef33]; exact hD
  have hlen : f33.length = 83 := by rw [ef33, List.length_set]; exact hlen
  refine lv_aload_n hx hb dX12_init_248 rfl (lv_at hl 0 rfl) ?_
  refine lv_iconst (v := (3 : Int32)) hx hb dX12_init_249 (by decide) ?_
  obtain ⟨w35, ew35⟩ : ∃ z : va_W, z = [(q31, .inl (cC, 3, .inl (upd (upd (upd (fun _ => 0) 0 (vp_nar .char 110)) 1 (vp_nar .char 111)) 2 (vp_nar .char 116))))] ++ w32 := ⟨_, rfl⟩
  have hP : va_P (dC, dI) vwCl ([(h0, .inr (12, f33))] ++ w35) H := by rw [ew35]; exact hP
  have hD : va_D A ([(h0, .inr (12, f33))] ++ w35) := by rw [ew35]; exact hD
  refine znew_c (N' := 3) hx hb (hts _ (List.mem_cons_of_mem _ mw_906)) hK 2 rfl hP hD hS hA (by decide) (by decide) (by decide) (Nat.le_of_ble_eq_true rfl) (Nat.le_of_ble_eq_true rfl) dX12_init_250 (fun q34 H hP hD hS => ?_)
  have hpm := (zrot ([(h0, .inr (12, f33))] ++ w35) [(q34, .inl (cC, 3, .inl (fun _ => 0)))]).trans (zswp [(q34, .inl (cC, 3, .inl (fun _ => 0)))] [(h0, .inr (12, f33))] w35)
  have hP := zP_perm hpm hP
  have hD := zD_perm hpm hD
  clear hpm
  have hP : va_P (dC, dI) vwCl ([(h0, .inr (12, f33))] ++ ([(q34, .inl (cC, 3, .inl (fun _ => 0)))] ++ w35)) H := hP
  have hD : va_D A ([(h0, .inr (12, f33))] ++ ([(q34, .inl (cC, 3, .inl (fun _ => 0)))] ++ w35)) := hD
  refine lv_dup hx hb dX12_init_252 rfl ?_
  refine lv_iconst (v := (0 : Int32)) hx hb dX12_init_253 (by decide) ?_
  refine lv_bipush (v := (97 : Int32)) hx hb dX12_init_254 (by decide) ?_
  refine va_cast hx hb hK hP hD hS 1 2 rfl rfl (i := (0 : Int32)) (zin (by decide)) dX12_init_256 (fun H locs hP hD hS => ?_)
  have hP : va_P (dC, dI) vwCl ([(h0, .inr (12, f33))] ++ ([(q34, .inl (cC, 3, .inl (upd (fun _ => 0) 0 (vp_nar .char 97))))] ++ w35)) H := hP
  have hD : va_D A ([(h0, .inr (12, f33))] ++ ([(q34, .inl (cC, 3, .inl (upd (fun _ => 0) 0 (vp_nar .char 97))))] ++ w35)) := hD
  refine lv_dup hx hb dX12_init_257 rfl ?_
  refine lv_iconst (v := (1 : Int32)) hx hb dX12_init_258 (by decide) ?_
  refine lv_bipush (v := (108 : Int32)) hx hb dX12_init_259 (by decide) ?_
  refine va_cast hx hb hK hP hD hS 1 2 rfl rfl (i := (1 : Int32)) (zin (by decide)) dX12_init_261 (fun H locs hP hD hS => ?_)
  have hP : va_P (dC, dI) vwCl ([(h0, .inr (12, f33))] ++ ([(q34, .inl (cC, 3, .inl (upd (upd (fun _ => 0) 0 (vp_nar .char 97)) 1 (vp_nar .char 108))))] ++ w35)) H := hP
  have hD : va_D A ([(h0, .inr (12, f33))] ++ ([(q34, .inl (cC, 3, .inl (upd (upd (fun _ => 0) 0 (vp_nar .char 97)) 1 (vp_nar .char 108))))] ++ w35)) := hD
  refine lv_dup hx hb dX12_init_262 rfl ?_
  refine lv_iconst (v := (2 : Int32)) hx hb dX12_init_263 (by decide) ?_
  refine lv_bipush (v := (108 : Int32)) hx hb dX12_init_264 (by decide) ?_
  refine va_cast hx hb hK hP hD hS 1 2 rfl rfl (i := (2 : Int32)) (zin (by decide)) dX12_init_266 (fun H locs hP hD hS => ?_)
  have hP : va_P (dC, dI) vwCl ([(h0, .inr (12, f33))] ++ ([(q34, .inl (cC, 3, .inl (upd (upd (upd (fun _ => 0) 0 (vp_nar .char 97)) 1 (vp_nar .char 108)) 2 (vp_nar .char 108))))] ++ w35)) H := hP
  have hD : va_D A ([(h0, .inr (12, f33))] ++ ([(q34, .inl (cC, 3, .inl (upd (upd (upd (fun _ => 0) 0 (vp_nar .char 97)) 1 (vp_nar .char 108)) 2 (vp_nar .char 108))))] ++ w35)) := hD
  refine va_putF (D := (dC, dI)) (ci := 12) (v := .ref q34) (ty := .array .char) (C := RX12) (T := TX12) (N := 83) hx hb hts (fun w h => List.mem_cons_of_mem _ (inX12 w h)) tyX12 tyX12_ok nmX12 hown hK hP hD hS 0 rfl rfl 19 (by decide) (hts _ (List.mem_cons_of_mem _ mw_842)) (fun _ h9 => h9) rfl hin2 rfl (by decide +kernel) rfl rfl (by rw [hlen]; decide) dX12_init_267 (fun H locs hP hD hS => ?_)
  obtain ⟨f36, ef36⟩ : ∃ z : List Value, z = allWord.set 19 (.ref q34) := ⟨_, rfl⟩
  have hP : va_P (dC, dI) vwCl ([(h0, .inr (12, f36))] ++ ([(q34, .inl (cC, 3, .inl (upd (upd (upd (fun _ => 0) 0 (vp_nar .char 97)) 1 (vp_nar .char 108)) 2 (vp_nar .char 108))))] ++ w35)) H := by rw [ef36]; exact hP
  have hD : va_D A ([(h0, .inr (12, f36))] ++ ([(q34, .inl (cC, 3, .inl (upd (upd (upd (fun _ => 0) 0 (vp_nar .char 97)) 1 (vp_nar .char 108)) 2 (vp_nar .char 108))))] ++ w35)) := by rw [ef36]; exact hD
  have hlen : f36.length = 83 := by rw [ef36, List.length_set]; exact hlen
  refine lv_aload_n hx hb dX12_init_270 rfl (lv_at hl 0 rfl) ?_
  refine lv_iconst (v := (2 : Int32)) hx hb dX12_init_271 (by decide) ?_
  obtain ⟨w38, ew38⟩ : ∃ z : va_W, z = [(q34, .inl (cC, 3, .inl (upd (upd (upd (fun _ => 0) 0 (vp_nar .char 97)) 1 (vp_nar .char 108)) 2 (vp_nar .char 108))))] ++ w35 := ⟨_, rfl⟩
  have hP : va_P (dC, dI) vwCl ([(h0, .inr (12, f36))] ++ w38) H := by rw [ew38]; exact hP
  have hD : va_D A ([(h0, .inr (12, f36))] ++ w38) := by rw [ew38]; exact hD
  refine znew_c (N' := 2) hx hb (hts _ (List.mem_cons_of_mem _ mw_906)) hK 2 rfl hP hD hS hA (by decide) (by decide) (by decide) (Nat.le_of_ble_eq_true rfl) (Nat.le_of_ble_eq_true rfl) dX12_init_272 (fun q37 H hP hD hS => ?_)
  have hpm := (zrot ([(h0, .inr (12, f36))] ++ w38) [(q37, .inl (cC, 2, .inl (fun _ => 0)))]).trans (zswp [(q37, .inl (cC, 2, .inl (fun _ => 0)))] [(h0, .inr (12, f36))] w38)
  have hP := zP_perm hpm hP
  have hD := zD_perm hpm hD
  clear hpm
  have hP : va_P (dC, dI) vwCl ([(h0, .inr (12, f36))] ++ ([(q37, .inl (cC, 2, .inl (fun _ => 0)))] ++ w38)) H := hP
  have hD : va_D A ([(h0, .inr (12, f36))] ++ ([(q37, .inl (cC, 2, .inl (fun _ => 0)))] ++ w38)) := hD
  refine lv_dup hx hb dX12_init_274 rfl ?_
  refine lv_iconst (v := (0 : Int32)) hx hb dX12_init_275 (by decide) ?_
  refine lv_bipush (v := (105 : Int32)) hx hb dX12_init_276 (by decide) ?_
  refine va_cast hx hb hK hP hD hS 1 2 rfl rfl (i := (0 : Int32)) (zin (by decide)) dX12_init_278 (fun H locs hP hD hS => ?_)
  have hP : va_P (dC, dI) vwCl ([(h0, .inr (12, f36))] ++ ([(q37, .inl (cC, 2, .inl (upd (fun _ => 0) 0 (vp_nar .char 105))))] ++ w38)) H := hP
  have hD : va_D A ([(h0, .inr (12, f36))] ++ ([(q37, .inl (cC, 2, .inl (upd (fun _ => 0) 0 (vp_nar .char 105))))] ++ w38)) := hD
  refine lv_dup hx hb dX12_init_279 rfl ?_
  refine lv_iconst (v := (1 : Int32)) hx hb dX12_init_280 (by decide) ?_
  refine lv_bipush (v := (115 : Int32)) hx hb dX12_init_281 (by decide) ?_
  refine va_cast hx hb hK hP hD hS 1 2 rfl rfl (i := (1 : Int32)) (zin (by decide)) dX12_init_283 (fun H locs hP hD hS => ?_)
  have hP : va_P (dC, dI) vwCl ([(h0, .inr (12, f36))] ++ ([(q37, .inl (cC, 2, .inl (upd (upd (fun _ => 0) 0 (vp_nar .char 105)) 1 (vp_nar .char 115))))] ++ w38)) H := hP
  have hD : va_D A ([(h0, .inr (12, f36))] ++ ([(q37, .inl (cC, 2, .inl (upd (upd (fun _ => 0) 0 (vp_nar .char 105)) 1 (vp_nar .char 115))))] ++ w38)) := hD
  refine va_putF (D := (dC, dI)) (ci := 12) (v := .ref q37) (ty := .array .char) (C := RX12) (T := TX12) (N := 83) hx hb hts (fun w h => List.mem_cons_of_mem _ (inX12 w h)) tyX12 tyX12_ok nmX12 hown hK hP hD hS 0 rfl rfl 20 (by decide) (hts _ (List.mem_cons_of_mem _ mw_843)) (fun _ h9 => h9) rfl hin2 rfl (by decide +kernel) rfl rfl (by rw [hlen]; decide) dX12_init_284 (fun H locs hP hD hS => ?_)
  obtain ⟨f39, ef39⟩ : ∃ z : List Value, z = isWord.set 20 (.ref q37) := ⟨_, rfl⟩
  have hP : va_P (dC, dI) vwCl ([(h0, .inr (12, f39))] ++ ([(q37, .inl (cC, 2, .inl (upd (upd (fun _ => 0) 0 (vp_nar .char 105)) 1 (vp_nar .char 115))))] ++ w38)) H := by rw [ef39]; exact hP
  have hD : va_D A ([(h0, .inr (12, f39))] ++ ([(q37, .inl (cC, 2, .inl (upd (upd (fun _ => 0) 0 (vp_nar .char 105)) 1 (vp_nar .char 115))))] ++ w38)) := by rw [ef39]; exact hD
  have hlen : f39.length = 83 := by rw [ef39, List.length_set]; exact hlen
  refine lv_aload_n hx hb dX12_init_287 rfl (lv_at hl 0 rfl) ?_
  refine lv_iconst (v := (4 : Int32)) hx hb dX12_init_288 (by decide) ?_
  obtain ⟨w41, ew41⟩ : ∃ z : va_W, z = [(q37, .inl (cC, 2, .inl (upd (upd (fun _ => 0) 0 (vp_nar .char 105)) 1 (vp_nar .char 115))))] ++ w38 := ⟨_, rfl⟩
  have hP : va_P (dC, dI) vwCl ([(h0, .inr (12, f39))] ++ w41) H := by rw [ew41]; exact hP
  have hD : va_D A ([(h0, .inr (12, f39))] ++ w41) := by rw [ew41]; exact hD
  refine znew_c (N' := 4) hx hb (hts _ (List.mem_cons_of_mem _ mw_906)) hK 2 rfl hP hD hS hA (by decide) (by decide) (by decide) (Nat.le_of_ble_eq_true rfl) (Nat.le_of_ble_eq_true rfl) dX12_init_289 (fun q40 H hP hD hS => ?_)
  have hpm := (zrot ([(h0, .inr (12, f39))] ++ w41) [(q40, .inl (cC, 4, .inl (fun _ => 0)))]).trans (zswp [(q40, .inl (cC, 4, .inl (fun _ => 0)))] [(h0, .inr (12, f39))] w41)
  have hP := zP_perm hpm hP
  have hD := zD_perm hpm hD
  clear hpm
  have hP : va_P (dC, dI) vwCl ([(h0, .inr (12, f39))] ++ ([(q40, .inl (cC, 4, .inl (fun _ => 0)))] ++ w41)) H := hP
  have hD : va_D A ([(h0, .inr (12, f39))] ++ ([(q40, .inl (cC, 4, .inl (fun _ => 0)))] ++ w41)) := hD
  refine lv_dup hx hb dX12_init_291 rfl ?_
  refine lv_iconst (v := (0 : Int32)) hx hb dX12_init_292 (by decide) ?_
  refine lv_bipush (v := (119 : Int32)) hx hb dX12_init_293 (by decide) ?_
  refine va_cast hx hb hK hP hD hS 1 2 rfl rfl (i := (0 : Int32)) (zin (by decide)) dX12_init_295 (fun H locs hP hD hS => ?_)
  have hP : va_P (dC, dI) vwCl ([(h0, .inr (12, f39))] ++ ([(q40, .inl (cC, 4, .inl (upd (fun _ => 0) 0 (vp_nar .char 119))))] ++ w41)) H := hP
  have hD : va_D A ([(h0, .inr (12, f39))] ++ ([(q40, .inl (cC, 4, .inl (upd (fun _ => 0) 0 (vp_nar .char 119))))] ++ w41)) := hD
  refine lv_dup hx hb dX12_init_296 rfl ?_
  refine lv_iconst (v := (1 : Int32)) hx hb dX12_init_297 (by decide) ?_
  refine lv_bipush (v := (97 : Int32)) hx hb dX12_init_298 (by decide) ?_
  refine va_cast hx hb hK hP hD hS 1 2 rfl rfl (i := (1 : Int32)) (zin (by decide)) dX12_init_300 (fun H locs hP hD hS => ?_)
  have hP : va_P (dC, dI) vwCl ([(h0, .inr (12, f39))] ++ ([(q40, .inl (cC, 4, .inl (upd (upd (fun _ => 0) 0 (vp_nar .char 119)) 1 (vp_nar .char 97))))] ++ w41)) H := hP
  have hD : va_D A ([(h0, .inr (12, f39))] ++ ([(q40, .inl (cC, 4, .inl (upd (upd (fun _ => 0) 0 (vp_nar .char 119)) 1 (vp_nar .char 97))))] ++ w41)) := hD
  refine lv_dup hx hb dX12_init_301 rfl ?_
  refine lv_iconst (v := (2 : Int32)) hx hb dX12_init_302 (by decide) ?_
  refine lv_bipush (v := (121 : Int32)) hx hb dX12_init_303 (by decide) ?_
  refine va_cast hx hb hK hP hD hS 1 2 rfl rfl (i := (2 : Int32)) (zin (by decide)) dX12_init_305 (fun H locs hP hD hS => ?_)
  have hP : va_P (dC, dI) vwCl ([(h0, .inr (12, f39))] ++ ([(q40, .inl (cC, 4, .inl (upd (upd (upd (fun _ => 0) 0 (vp_nar .char 119)) 1 (vp_nar .char 97)) 2 (vp_nar .char 121))))] ++ w41)) H := hP
  have hD : va_D A ([(h0, .inr (12, f39))] ++ ([(q40, .inl (cC, 4, .inl (upd (upd (upd (fun _ => 0) 0 (vp_nar .char 119)) 1 (vp_nar .char 97)) 2 (vp_nar .char 121))))] ++ w41)) := hD
  refine lv_dup hx hb dX12_init_306 rfl ?_
  refine lv_iconst (v := (3 : Int32)) hx hb dX12_init_307 (by decide) ?_
  refine lv_bipush (v := (115 : Int32)) hx hb dX12_init_308 (by decide) ?_
  refine va_cast hx hb hK hP hD hS 1 2 rfl rfl (i := (3 : Int32)) (zin (by decide)) dX12_init_310 (fun H locs hP hD hS => ?_)
  have hP : va_P (dC, dI) vwCl ([(h0, .inr (12, f39))] ++ ([(q40, .inl (cC, 4, .inl (upd (upd (upd (upd (fun _ => 0) 0 (vp_nar .char 119)) 1 (vp_nar .char 97)) 2 (vp_nar .char 121)) 3 (vp_nar .char 115))))] ++ w41)) H := hP
  have hD : va_D A ([(h0, .inr (12, f39))] ++ ([(q40, .inl (cC, 4, .inl (upd (upd (upd (upd (fun _ => 0) 0 (vp_nar .char 119)) 1 (vp_nar .char 97)) 2 (vp_nar .char 121)) 3 (vp_nar .char 115))))] ++ w41)) := hD
  refine va_putF (D := (dC, dI)) (ci := 12) (v := .ref q40) (ty := .array .char) (C := RX12) (T := TX12) (N := 83) hx hb hts (fun w h => List.mem_cons_of_mem _ (inX12 w h)) tyX12 tyX12_ok nmX12 hown hK hP hD hS 0 rfl rfl 21 (by decide) (hts _ (List.mem_cons_of_mem _ mw_844)) (fun _ h9 => h9) rfl hin2 rfl (by decide +kernel) rfl rfl (by rw [hlen]; decide) dX12_init_311 (fun H locs hP hD hS => ?_)
  obtain ⟨f42, ef42⟩ : ∃ z : List Value, z = waysWord.set 21 (.ref q40) := ⟨_, rfl⟩
  have hP : va_P (dC, dI) vwCl ([(h0, .inr (12, f42))] ++ ([(q40, .inl (cC, 4, .inl (upd (upd (upd (upd (fun _ => 0) 0 (vp_nar .char 119)) 1 (vp_nar .char 97)) 2 (vp_nar .char 121)) 3 (vp_nar .char 115))))] ++ w41)) H := by rw [ef42]; exact hP
  have hD : va_D A ([(h0, .inr (12, f42))] ++ ([(q40, .inl (cC, 4, .inl (upd (upd (upd (upd (fun _ => 0) 0 (vp_nar .char 119)) 1 (vp_nar .char 97)) 2 (vp_nar .char 121)) 3 (vp_nar .char 115))))] ++ w41)) := by rw [ef42]; exact hD
  have hlen : f42.length = 83 := by rw [ef42, List.length_set]; exact hlen
  refine lv_aload_n hx hb dX12_init_314 rfl (lv_at hl 0 rfl) ?_
  refine lv_iconst (v := (5 : Int32)) hx hb dX12_init_315 (by decide) ?_
  obtain ⟨w44, ew44⟩ : ∃ z : va_W, z = [(q40, .inl (cC, 4, .inl (upd (upd (upd (upd (fun _ => 0) 0 (vp_nar .char 119)) 1 (vp_nar .char 97)) 2 (vp_nar .char 121)) 3 (vp_nar .char 115))))] ++ w41 := ⟨_, rfl⟩
  have hP : va_P (dC, dI) vwCl ([(h0, .inr (12, f42))] ++ w44) H := by rw [ew44]; exact hP
  have hD : va_D A ([(h0, .inr (12, f42))] ++ w44) := by rw [ew44]; exact hD
  refine znew_c (N' := 5) hx hb (hts _ (List.mem_cons_of_mem _ mw_906)) hK 2 rfl hP hD hS hA (by decide) (by decide) (by decide) (Nat.le_of_ble_eq_true rfl) (Nat.le_of_ble_eq_true rfl) dX12_init_316 (fun q43 H hP hD hS => ?_)
  have hpm := (zrot ([(h0, .inr (12, f42))] ++ w44) [(q43, .inl (cC, 5, .inl (fun _ => 0)))]).trans (zswp [(q43, .inl (cC, 5, .inl (fun _ => 0)))] [(h0, .inr (12, f42))] w44)
  have hP := zP_perm hpm hP
  have hD := zD_perm hpm hD
  clear hpm
  have hP : va_P (dC, dI) vwCl ([(h0, .inr (12, f42))] ++ ([(q43, .inl (cC, 5, .inl (fun _ => 0)))] ++ w44)) H := hP
  have hD : va_D A ([(h0, .inr (12, f42))] ++ ([(q43, .inl (cC, 5, .inl (fun _ => 0)))] ++ w44)) := hD
  refine lv_dup hx hb dX12_init_318 rfl ?_
  refine lv_iconst (v := (0 : Int32)) hx hb dX12_init_319 (by decide) ?_
  refine lv_bipush (v := (109 : Int32)) hx hb dX12_init_320 (by decide) ?_
  refine va_cast hx hb hK hP hD hS 1 2 rfl rfl (i := (0 : Int32)) (zin (by decide)) dX12_init_322 (fun H locs hP hD hS => ?_)
  have hP : va_P (dC, dI) vwCl ([(h0, .inr (12, f42))] ++ ([(q43, .inl (cC, 5, .inl (upd (fun _ => 0) 0 (vp_nar .char 109))))] ++ w44)) H := hP
  have hD : va_D A ([(h0, .inr (12, f42))] ++ ([(q43, .inl (cC, 5, .inl (upd (fun _ => 0) 0 (vp_nar .char 109))))] ++ w44)) := hD
  refine lv_dup hx hb dX12_init_323 rfl ?_
  refine lv_iconst (v := (1 : Int32)) hx hb dX12_init_324 (by decide) ?_
  refine lv_bipush (v := (105 : Int32)) hx hb dX12_init_325 (by decide) ?_
  refine va_cast hx hb hK hP hD hS 1 2 rfl rfl (i := (1 : Int32)) (zin (by decide)) dX12_init_327 (fun H locs hP hD hS => ?_)
  have hP : va_P (dC, dI) vwCl ([(h0, .inr (12, f42))] ++ ([(q43, .inl (cC, 5, .inl (upd (upd (fun _ => 0) 0 (vp_nar .char 109)) 1 (vp_nar .char 105))))] ++ w44)) H := hP
  have hD : va_D A ([(h0, .inr (12, f42))] ++ ([(q43, .inl (cC, 5, .inl (upd (upd (fun _ => 0) 0 (vp_nar .char 109)) 1 (vp_nar .char 105))))] ++ w44)) := hD
  refine lv_dup hx hb dX12_init_328 rfl ?_
  refine lv_iconst (v := (2 : Int32)) hx hb dX12_init_329 (by decide) ?_
  refine lv_bipush (v := (108 : Int32)) hx hb dX12_init_330 (by decide) ?_
  refine va_cast hx hb hK hP hD hS 1 2 rfl rfl (i := (2 : Int32)) (zin (by decide)) dX12_init_332 (fun H locs hP hD hS => ?_)
  have hP : va_P (dC, dI) vwCl ([(h0, .inr (12, f42))] ++ ([(q43, .inl (cC, 5, .inl (upd (upd (upd (fun _ => 0) 0 (vp_nar .char 109)) 1 (vp_nar .char 105)) 2 (vp_nar .char 108))))] ++ w44)) H := hP
  have hD : va_D A ([(h0, .inr (12, f42))] ++ ([(q43, .inl (cC, 5, .inl (upd (upd (upd (fun _ => 0) 0 (vp_nar .char 109)) 1 (vp_nar .char 105)) 2 (vp_nar .char 108))))] ++ w44)) := hD
  refine lv_dup hx hb dX12_init_333 rfl ?_
  refine lv_iconst (v := (3 : Int32)) hx hb dX12_init_334 (by decide) ?_
  refine lv_bipush (v := (101 : Int32)) hx hb dX12_init_335 (by decide) ?_
  refine va_cast hx hb hK hP hD hS 1 2 rfl rfl (i := (3 : Int32)) (zin (by decide)) dX12_init_337 (fun H locs hP hD hS => ?_)
  have hP : va_P (dC, dI) vwCl ([(h0, .inr (12, f42))] ++ ([(q43, .inl (cC, 5, .inl (upd (upd (upd (upd (fun _ => 0) 0 (vp_nar .char 109)) 1 (vp_nar .char 105)) 2 (vp_nar .char 108)) 3 (vp_nar .char 101))))] ++ w44)) H := hP
  have hD : va_D A ([(h0, .inr (12, f42))] ++ ([(q43, .inl (cC, 5, .inl (upd (upd (upd (upd (fun _ => 0) 0 (vp_nar .char 109)) 1 (vp_nar .char 105)) 2 (vp_nar .char 108)) 3 (vp_nar .char 101))))] ++ w44)) := hD
  refine lv_dup hx hb dX12_init_338 rfl ?_
  refine lv_iconst (v := (4 : Int32)) hx hb dX12_init_339 (by decide) ?_
  refine lv_bipush (v := (115 : Int32)) hx hb dX12_init_340 (by decide) ?_
  refine va_cast hx hb hK hP hD hS 1 2 rfl rfl (i := (4 : Int32)) (zin (by decide)) dX12_init_342 (fun H locs hP hD hS => ?_)
  have hP : va_P (dC, dI) vwCl ([(h0, .inr (12, f42))] ++ ([(q43, .inl (cC, 5, .inl (upd (upd (upd (upd (upd (fun _ => 0) 0 (vp_nar .char 109)) 1 (vp_nar .char 105)) 2 (vp_nar .char 108)) 3 (vp_nar .char 101)) 4 (vp_nar .char 115))))] ++ w44)) H := hP
  have hD : va_D A ([(h0, .inr (12, f42))] ++ ([(q43, .inl (cC, 5, .inl (upd (upd (upd (upd (upd (fun _ => 0) 0 (vp_nar .char 109)) 1 (vp_nar .char 105)) 2 (vp_nar .char 108)) 3 (vp_nar .char 101)) 4 (vp_nar .char 115))))] ++ w44)) := hD
  refine va_putF (D := (dC, dI)) (ci := 12) (v := .ref q43) (ty := .array .char) (C := RX12) (T := TX12) (N := 83) hx hb hts (fun w h => List.mem_cons_of_mem _ (inX12 w h)) tyX12 tyX12_ok nmX12 hown hK hP hD hS 0 rfl rfl 22 (by decide) (hts _ (List.mem_cons_of_mem _ mw_845)) (fun _ h9 => h9) rfl hin2 rfl (by decide +kernel) rfl rfl (by rw [hlen]; decide) dX12_init_343 (fun H locs hP hD hS => ?_)
  obtain ⟨f45, ef45⟩ : ∃ z : List Value, z = milesWord.set 22 (.ref q43) := ⟨_, rfl⟩
  have hP : va_P (dC, dI) vwCl ([(h0, .inr (12, f45))] ++ ([(q43, .inl (cC, 5, .inl (upd (upd (upd (upd (upd (fun _ => 0) 0 (vp_nar .char 109)) 1 (vp_nar .char 105)) 2 (vp_nar .char 108)) 3 (vp_nar .char 101)) 4 (vp_nar .char 115))))] ++ w44)) H := by rw [ef45]; exact hP
  have hD : va_D A ([(h0, .inr (12, f45))] ++ ([(q43, .inl (cC, 5, .inl (upd (upd (upd (upd (upd (fun _ => 0) 0 (vp_nar .char 109)) 1 (vp_nar .char 105)) 2 (vp_nar .char 108)) 3 (vp_nar .char 101)) 4 (vp_nar .char 115))))] ++ w44)) := by rw [ef45]; exact hD
  have hlen : f45.length = 83 := by rw [ef45, List.length_set]; exact hlen
  refine lv_aload_n hx hb dX12_init_346 rfl (lv_at hl 0 rfl) ?_
  refine lv_iconst (v := (4 : Int32)) hx hb dX12_init_347 (by decide) ?_
  obtain ⟨w47, ew47⟩ : ∃ z : va_W, z = [(q43, .inl (cC, 5, .inl (upd (upd (upd (upd (upd (fun _ => 0) 0 (vp_nar .char 109)) 1 (vp_nar .char 105)) 2 (vp_nar .char 108)) 3 (vp_nar .char 101)) 4 (vp_nar .char 115))))] ++ w44 := ⟨_, rfl⟩
  have hP : va_P (dC, dI) vwCl ([(h0, .inr (12, f45))] ++ w47) H := by rw [ew47]; exact hP
  have hD : va_D A ([(h0, .inr (12, f45))] ++ w47) := by rw [ew47]; exact hD
  refine znew_c (N' := 4) hx hb (hts _ (List.mem_cons_of_mem _ mw_906)) hK 2 rfl hP hD hS hA (by decide) (by decide) (by decide) (Nat.le_of_ble_eq_true rfl) (Nat.le_of_ble_eq_true rfl) dX12_init_348 (fun q46 H hP hD hS => ?_)
  have hpm := (zrot ([(h0, .inr (12, f45))] ++ w47) [(q46, .inl (cC, 4, .inl (fun _ => 0)))]).trans (zswp [(q46, .inl (cC, 4, .inl (fun _ => 0)))] [(h0, .inr (12, f45))] w47)
  have hP := zP_perm hpm hP
  have hD := zD_perm hpm hD
  clear hpm
  have hP : va_P (dC, dI) vwCl ([(h0, .inr (12, f45))] ++ ([(q46, .inl (cC, 4, .inl (fun _ => 0)))] ++ w47)) H := hP
  have hD : va_D A ([(h0, .inr (12, f45))] ++ ([(q46, .inl (cC, 4, .inl (fun _ => 0)))] ++ w47)) := hD
  refine lv_dup hx hb dX12_init_350 rfl ?_
  refine lv_iconst (v := (0 : Int32)) hx hb dX12_init_351 (by decide) ?_
  refine lv_bipush (v := (109 : Int32)) hx hb dX12_init_352 (by decide) ?_
  refine va_cast hx hb hK hP hD hS 1 2 rfl rfl (i := (0 : Int32)) (zin (by decide)) dX12_init_354 (fun H locs hP hD hS => ?_)
  have hP : va_P (dC, dI) vwCl ([(h0, .inr (12, f45))] ++ ([(q46, .inl (cC, 4, .inl (upd (fun _ => 0) 0 (vp_nar .char 109))))] ++ w47)) H := hP
  have hD : va_D A ([(h0, .inr (12, f45))] ++ ([(q46, .inl (cC, 4, .inl (upd (fun _ => 0) 0 (vp_nar .char 109))))] ++ w47)) := hD
  refine lv_dup hx hb dX12_init_355 rfl ?_
  refine lv_iconst (v := (1 : Int32)) hx hb dX12_init_356 (by decide) ?_
  refine lv_bipush (v := (105 : Int32)) hx hb dX12_init_357 (by decide) ?_
  refine va_cast hx hb hK hP hD hS 1 2 rfl rfl (i := (1 : Int32)) (zin (by decide)) dX12_init_359 (fun H locs hP hD hS => ?_)
  have hP : va_P (dC, dI) vwCl ([(h0, .inr (12, f45))] ++ ([(q46, .inl (cC, 4, .inl (upd (upd (fun _ => 0) 0 (vp_nar .char 109)) 1 (vp_nar .char 105))))] ++ w47)) H := hP
  have hD : va_D A ([(h0, .inr (12, f45))] ++ ([(q46, .inl (cC, 4, .inl (upd (upd (fun _ => 0) 0 (vp_nar .char 109)) 1 (vp_nar .char 105))))] ++ w47)) := hD
  refine lv_dup hx hb dX12_init_360 rfl ?_
  refine lv_iconst (v := (2 : Int32)) hx hb dX12_init_361 (by decide) ?_
  refine lv_bipush (v := (110 : Int32)) hx hb dX12_init_362 (by decide) ?_
  refine va_cast hx hb hK hP hD hS 1 2 rfl rfl (i := (2 : Int32)) (zin (by decide)) dX12_init_364 (fun H locs hP hD hS => ?_)
  have hP : va_P (dC, dI) vwCl ([(h0, .inr (12, f45))] ++ ([(q46, .inl (cC, 4, .inl (upd (upd (upd (fun _ => 0) 0 (vp_nar .char 109)) 1 (vp_nar .char 105)) 2 (vp_nar .char 110))))] ++ w47)) H := hP
  have hD : va_D A ([(h0, .inr (12, f45))] ++ ([(q46, .inl (cC, 4, .inl (upd (upd (upd (fun _ => 0) 0 (vp_nar .char 109)) 1 (vp_nar .char 105)) 2 (vp_nar .char 110))))] ++ w47)) := hD
  refine lv_dup hx hb dX12_init_365 rfl ?_
  refine lv_iconst (v := (3 : Int32)) hx hb dX12_init_366 (by decide) ?_
  refine lv_bipush (v := (101 : Int32)) hx hb dX12_init_367 (by decide) ?_
  refine va_cast hx hb hK hP hD hS 1 2 rfl rfl (i := (3 : Int32)) (zin (by decide)) dX12_init_369 (fun H locs hP hD hS => ?_)
  have hP : va_P (dC, dI) vwCl ([(h0, .inr (12, f45))] ++ ([(q46, .inl (cC, 4, .inl (upd (upd (upd (upd (fun _ => 0) 0 (vp_nar .char 109)) 1 (vp_nar .char 105)) 2 (vp_nar .char 110)) 3 (vp_nar .char 101))))] ++ w47)) H := hP
  have hD : va_D A ([(h0, .inr (12, f45))] ++ ([(q46, .inl (cC, 4, .inl (upd (upd (upd (upd (fun _ => 0) 0 (vp_nar .char 109)) 1 (vp_nar .char 105)) 2 (vp_nar .char 110)) 3 (vp_nar .char 101))))] ++ w47)) := hD
  refine va_putF (D := (dC, dI)) (ci := 12) (v := .ref q46) (ty := .array .char) (C := RX12) (T := TX12) (N := 83) hx hb hts (fun w h => List.mem_cons_of_mem _ (inX12 w h)) tyX12 tyX12_ok nmX12 hown hK hP hD hS 0 rfl rfl 23 (by decide) (hts _ (List.mem_cons_of_mem _ mw_846)) (fun _ h9 => h9) rfl hin2 rfl (by decide +kernel) rfl rfl (by rw [hlen]; decide) dX12_init_370 (fun H locs hP hD hS => ?_)
  obtain ⟨f48, ef48⟩ : ∃ z : List Value, z = mineWord.set 23 (.ref q46) := ⟨_, rfl⟩
  have hP : va_P (dC, dI) vwCl ([(h0, .inr (12, f48))] ++ ([(q46, .inl (cC, 4, .inl (upd (upd (upd (upd (fun _ => 0) 0 (vp_nar .char 109)) 1 (vp_nar .char 105)) 2 (vp_nar .char 110)) 3 (vp_nar .char 101))))] ++ w47)) H := by rw [ef48]; exact hP
  have hD : va_D A ([(h0, .inr (12, f48))] ++ ([(q46, .inl (cC, 4, .inl (upd (upd (upd (upd (fun _ => 0) 0 (vp_nar .char 109)) 1 (vp_nar .char 105)) 2 (vp_nar .char 110)) 3 (vp_nar .char 101))))] ++ w47)) := by rw [ef48]; exact hD
  have hlen : f48.length = 83 := by rw [ef48, List.length_set]; exact hlen
  refine lv_aload_n hx hb dX12_init_373 rfl (lv_at hl 0 rfl) ?_
  refine lv_bipush (v := (6 : Int32)) hx hb dX12_init_374 (by decide) ?_
  obtain ⟨w50, ew50⟩ : ∃ z : va_W, z = [(q46, .inl (cC, 4, .inl (upd (upd (upd (upd (fun _ => 0) 0 (vp_nar .char 109)) 1 (vp_nar .char 105)) 2 (vp_nar .char 110)) 3 (vp_nar .char 101))))] ++ w47 := ⟨_, rfl⟩
  have hP : va_P (dC, dI) vwCl ([(h0, .inr (12, f48))] ++ w50) H := by rw [ew50]; exact hP
  have hD : va_D A ([(h0, .inr (12, f48))] ++ w50) := by rw [ew50]; exact hD
  refine znew_c (N' := 6) hx hb (hts _ (List.mem_cons_of_mem _ mw_906)) hK 2 rfl hP hD hS hA (by decide) (by decide) (by decide) (Nat.le_of_ble_eq_true rfl) (Nat.le_of_ble_eq_true rfl) dX12_init_376 (fun q49 H hP hD hS => ?_)
  have hpm := (zrot ([(h0, .inr (12, f48))] ++ w50) [(q49, .inl (cC, 6, .inl (fun _ => 0)))]).trans (zswp [(q49, .inl (cC, 6, .inl (fun _ => 0)))] [(h0, .inr (12, f48))] w50)
  have hP := zP_perm hpm hP
  have hD := zD_perm hpm hD
  clear hpm
  have hP : va_P (dC, dI) vwCl ([(h0, .inr (12, f48))] ++ ([(q49, .inl (cC, 6, .inl (fun _ => 0)))] ++ w50)) H := hP
  have hD : va_D A ([(h0, .inr (12, f48))] ++ ([(q49, .inl (cC, 6, .inl (fun _ => 0)))] ++ w50)) := hD
  refine lv_dup hx hb dX12_init_378 rfl ?_
  refine lv_iconst (v := (0 : Int32)) hx hb dX12_init_379 (by decide) ?_
  refine lv_bipush (v := (116 : Int32)) hx hb dX12_init_380 (by decide) ?_
  refine va_cast hx hb hK hP hD hS 1 2 rfl rfl (i := (0 : Int32)) (zin (by decide)) dX12_init_382 (fun H locs hP hD hS => ?_)
  have hP : va_P (dC, dI) vwCl ([(h0, .inr (12, f48))] ++ ([(q49, .inl (cC, 6, .inl (upd (fun _ => 0) 0 (vp_nar .char 116))))] ++ w50)) H := hP
  have hD : va_D A ([(h0, .inr (12, f48))] ++ ([(q49, .inl (cC, 6, .inl (upd (fun _ => 0) 0 (vp_nar .char 116))))] ++ w50)) := hD
  refine lv_dup hx hb dX12_init_383 rfl ?_
  refine lv_iconst (v := (1 : Int32)) hx hb dX12_init_384 (by decide) ?_
  refine lv_bipush (v := (104 : Int32)) hx hb dX12_init_385 (by decide) ?_
  refine va_cast hx hb hK hP hD hS 1 2 rfl rfl (i := (1 : Int32)) (zin (by decide)) dX12_init_387 (fun H locs hP hD hS => ?_)
  have hP : va_P (dC, dI) vwCl ([(h0, .inr (12, f48))] ++ ([(q49, .inl (cC, 6, .inl (upd (upd (fun _ => 0) 0 (vp_nar .char 116)) 1 (vp_nar .char 104))))] ++ w50)) H := hP
  have hD : va_D A ([(h0, .inr (12, f48))] ++ ([(q49, .inl (cC, 6, .inl (upd (upd (fun _ => 0) 0 (vp_nar .char 116)) 1 (vp_nar .char 104))))] ++ w50)) := hD
  refine lv_dup hx hb dX12_init_388 rfl ?_
  refine lv_iconst (v := (2 : Int32)) hx hb dX12_init_389 (by decide) ?_
  refine lv_bipush (v := (101 : Int32)) hx hb dX12_init_390 (by decide) ?_
  refine va_cast hx hb hK hP hD hS 1 2 rfl rfl (i := (2 : Int32)) (zin (by decide)) dX12_init_392 (fun H locs hP hD hS => ?_)
  have hP : va_P (dC, dI) vwCl ([(h0, .inr (12, f48))] ++ ([(q49, .inl (cC, 6, .inl (upd (upd (upd (fun _ => 0) 0 (vp_nar .char 116)) 1 (vp_nar .char 104)) 2 (vp_nar .char 101))))] ++ w50)) H := hP
  have hD : va_D A ([(h0, .inr (12, f48))] ++ ([(q49, .inl (cC, 6, .inl (upd (upd (upd (fun _ => 0) 0 (vp_nar .char 116)) 1 (vp_nar .char 104)) 2 (vp_nar .char 101))))] ++ w50)) := hD
  refine lv_dup hx hb dX12_init_393 rfl ?_
  refine lv_iconst (v := (3 : Int32)) hx hb dX12_init_394 (by decide) ?_
  refine lv_bipush (v := (105 : Int32)) hx hb dX12_init_395 (by decide) ?_
  refine va_cast hx hb hK hP hD hS 1 2 rfl rfl (i := (3 : Int32)) (zin (by decide)) dX12_init_397 (fun H locs hP hD hS => ?_)
  have hP : va_P (dC, dI) vwCl ([(h0, .inr (12, f48))] ++ ([(q49, .inl (cC, 6, .inl (upd (upd (upd (upd (fun _ => 0) 0 (vp_nar .char 116)) 1 (vp_nar .char 104)) 2 (vp_nar .char 101)) 3 (vp_nar .char 105))))] ++ w50)) H := hP
  have hD : va_D A ([(h0, .inr (12, f48))] ++ ([(q49, .inl (cC, 6, .inl (upd (upd (upd (upd (fun _ => 0) 0 (vp_nar .char 116)) 1 (vp_nar .char 104)) 2 (vp_nar .char 101)) 3 (vp_nar .char 105))))] ++ w50)) := hD
  refine lv_dup hx hb dX12_init_398 rfl ?_
  refine lv_iconst (v := (4 : Int32)) hx hb dX12_init_399 (by decide) ?_
  refine lv_bipush (v := (114 : Int32)) hx hb dX12_init_400 (by decide) ?_
  refine va_cast hx hb hK hP hD hS 1 2 rfl rfl (i := (4 : Int32)) (zin (by decide)) dX12_init_402 (fun H locs hP hD hS => ?_)
  have hP : va_P (dC, dI) vwCl ([(h0, .inr (12, f48))] ++ ([(q49, .inl (cC, 6, .inl (upd (upd (upd (upd (upd (fun _ => 0) 0 (vp_nar .char 116)) 1 (vp_nar .char 104)) 2 (vp_nar .char 101)) 3 (vp_nar .char 105)) 4 (vp_nar .char 114))))] ++ w50)) H := hP
  have hD : va_D A ([(h0, .inr (12, f48))] ++ ([(q49, .inl (cC, 6, .inl (upd (upd (upd (upd (upd (fun _ => 0) 0 (vp_nar .char 116)) 1 (vp_nar .char 104)) 2 (vp_nar .char 101)) 3 (vp_nar .char 105)) 4 (vp_nar .char 114))))] ++ w50)) := hD
  refine lv_dup hx hb dX12_init_403 rfl ?_
  refine lv_iconst (v := (5 : Int32)) hx hb dX12_init_404 (by decide) ?_
  refine lv_bipush (v := (115 : Int32)) hx hb dX12_init_405 (by decide) ?_
  refine va_cast hx hb hK hP hD hS 1 2 rfl rfl (i := (5 : Int32)) (zin (by decide)) dX12_init_407 (fun H locs hP hD hS => ?_)
  have hP : va_P (dC, dI) vwCl ([(h0, .inr (12, f48))] ++ ([(q49, .inl (cC, 6, .inl (upd (upd (upd (upd (upd (upd (fun _ => 0) 0 (vp_nar .char 116)) 1 (vp_nar .char 104)) 2 (vp_nar .char 101)) 3 (vp_nar .char 105)) 4 (vp_nar .char 114)) 5 (vp_nar .char 115))))] ++ w50)) H := hP
  have hD : va_D A ([(h0, .inr (12, f48))] ++ ([(q49, .inl (cC, 6, .inl (upd (upd (upd (upd (upd (upd (fun _ => 0) 0 (vp_nar .char 116)) 1 (vp_nar .char 104)) 2 (vp_nar .char 101)) 3 (vp_nar .char 105)) 4 (vp_nar .char 114)) 5 (vp_nar .char 115))))] ++ w50)) := hD
  refine va_putF (D := (dC, dI)) (ci := 12) (v := .ref q49) (ty := .array .char) (C := RX12) (T := TX12) (N := 83) hx hb hts (fun w h => List.mem_cons_of_mem _ (inX12 w h)) tyX12 tyX12_ok nmX12 hown hK hP hD hS 0 rfl rfl 24 (by decide) (hts _ (List.mem_cons_of_mem _ mw_847)) (fun _ h9 => h9) rfl hin2 rfl (by decide +kernel) rfl rfl (by rw [hlen]; decide) dX12_init_408 (fun H locs hP hD hS => ?_)
  obtain ⟨f51, ef51⟩ : ∃ z : List Value, z = theirsWord.set 24 (.ref q49) := ⟨_, rfl⟩
  have hP : va_P (dC, dI) vwCl ([(h0, .inr (12, f51))] ++ ([(q49, .inl (cC, 6, .inl (upd (upd (upd (upd (upd (upd (fun _ => 0) 0 (vp_nar .char 116)) 1 (vp_nar .char 104)) 2 (vp_nar .char 101)) 3 (vp_nar .char 105)) 4 (vp_nar .char 114)) 5 (vp_nar .char 115))))] ++ w50)) H := by rw [ef51]; exact hP
  have hD : va_D A ([(h0, .inr (12, f51))] ++ ([(q49, .inl (cC, 6, .inl (upd (upd (upd (upd (upd (upd (fun _ => 0) 0 (vp_nar .char 116)) 1 (vp_nar .char 104)) 2 (vp_nar .char 101)) 3 (vp_nar .char 105)) 4 (vp_nar .char 114)) 5 (vp_nar .char 115))))] ++ w50)) := by rw [ef51]; exact hD
  have hlen : f51.length = 83 := by rw [ef51, List.length_set]; exact hlen
  refine lv_aload_n hx hb dX12_init_411 rfl (lv_at hl 0 rfl) ?_
  refine lv_iconst (v := (4 : Int32)) hx hb dX12_init_412 (by decide) ?_
  obtain ⟨w53, ew53⟩ : ∃ z : va_W, z = [(q49, .inl (cC, 6, .inl (upd (upd (upd (upd (upd (upd (fun _ => 0) 0 (vp_nar .char 116)) 1 (vp_nar .char 104)) 2 (vp_nar .char 101)) 3 (vp_nar .char 105)) 4 (vp_nar .char 114)) 5 (vp_nar .char 115))))] ++ w50 := ⟨_, rfl⟩
  have hP : va_P (dC, dI) vwCl ([(h0, .inr (12, f51))] ++ w53) H := by rw [ew53]; exact hP
  have hD : va_D A ([(h0, .inr (12, f51))] ++ w53) := by rw [ew53]; exact hD
  refine znew_c (N' := 4) hx hb (hts _ (List.mem_cons_of_mem _ mw_906)) hK 2 rfl hP hD hS hA (by decide) (by decide) (by decide) (Nat.le_of_ble_eq_true rfl) (Nat.le_of_ble_eq_true rfl) dX12_init_413 (fun q52 H hP hD hS => ?_)
  have hpm := (zrot ([(h0, .inr (12, f51))] ++ w53) [(q52, .inl (cC, 4, .inl (fun _ => 0)))]).trans (zswp [(q52, .inl (cC, 4, .inl (fun _ => 0)))] [(h0, .inr (12, f51))] w53)
  have hP := zP_perm hpm hP
  have hD := zD_perm hpm hD
  clear hpm
  have hP : va_P (dC, dI) vwCl ([(h0, .inr (12, f51))] ++ ([(q52, .inl (cC, 4, .inl (fun _ => 0)))] ++ w53)) H := hP
  have hD : va_D A ([(h0, .inr (12, f51))] ++ ([(q52, .inl (cC, 4, .inl (fun _ => 0)))] ++ w53)) := hD
  refine lv_dup hx hb dX12_init_415 rfl ?_
  refine lv_iconst (v := (0 : Int32)) hx hb dX12_init_416 (by decide) ?_
  refine lv_bipush (v := (116 : Int32)) hx hb dX12_init_417 (by decide) ?_
  refine va_cast hx hb hK hP hD hS 1 2 rfl rfl (i := (0 : Int32)) (zin (by decide)) dX12_init_419 (fun H locs hP hD hS => ?_)
  have hP : va_P (dC, dI) vwCl ([(h0, .inr (12, f51))] ++ ([(q52, .inl (cC, 4, .inl (upd (fun _ => 0) 0 (vp_nar .char 116))))] ++ w53)) H := hP
  have hD : va_D A ([(h0, .inr (12, f51))] ++ ([(q52, .inl (cC, 4, .inl (upd (fun _ => 0) 0 (vp_nar .char 116))))] ++ w53)) := hD
  refine lv_dup hx hb dX12_init_420 rfl ?_
  refine lv_iconst (v := (1 : Int32)) hx hb dX12_init_421 (by decide) ?_
  refine lv_bipush (v := (105 : Int32)) hx hb dX12_init_422 (by decide) ?_
  refine va_cast hx hb hK hP hD hS 1 2 rfl rfl (i := (1 : Int32)) (zin (by decide)) dX12_init_424 (fun H locs hP hD hS => ?_)
  have hP : va_P (dC, dI) vwCl ([(h0, .inr (12, f51))] ++ ([(q52, .inl (cC, 4, .inl (upd (upd (fun _ => 0) 0 (vp_nar .char 116)) 1 (vp_nar .char 105))))] ++ w53)) H := hP
  have hD : va_D A ([(h0, .inr (12, f51))] ++ ([(q52, .inl (cC, 4, .inl (upd (upd (fun _ => 0) 0 (vp_nar .char 116)) 1 (vp_nar .char 105))))] ++ w53)) := hD
  refine lv_dup hx hb dX12_init_425 rfl ?_
  refine lv_iconst (v := (2 : Int32)) hx hb dX12_init_426 (by decide) ?_
  refine lv_bipush (v := (101 : Int32)) hx hb dX12_init_427 (by decide) ?_
  refine va_cast hx hb hK hP hD hS 1 2 rfl rfl (i := (2 : Int32)) (zin (by decide)) dX12_init_429 (fun H locs hP hD hS => ?_)
  have hP : va_P (dC, dI) vwCl ([(h0, .inr (12, f51))] ++ ([(q52, .inl (cC, 4, .inl (upd (upd (upd (fun _ => 0) 0 (vp_nar .char 116)) 1 (vp_nar .char 105)) 2 (vp_nar .char 101))))] ++ w53)) H := hP
  have hD : va_D A ([(h0, .inr (12, f51))] ++ ([(q52, .inl (cC, 4, .inl (upd (upd (upd (fun _ => 0) 0 (vp_nar .char 116)) 1 (vp_nar .char 105)) 2 (vp_nar .char 101))))] ++ w53)) := hD
  refine lv_dup hx hb dX12_init_430 rfl ?_
  refine lv_iconst (v := (3 : Int32)) hx hb dX12_init_431 (by decide) ?_
  refine lv_bipush (v := (115 : Int32)) hx hb dX12_init_432 (by decide) ?_
  refine va_cast hx hb hK hP hD hS 1 2 rfl rfl (i := (3 : Int32)) (zin (by decide)) dX12_init_434 (fun H locs hP hD hS => ?_)
  have hP : va_P (dC, dI) vwCl ([(h0, .inr (12, f51))] ++ ([(q52, .inl (cC, 4, .inl (upd (upd (upd (upd (fun _ => 0) 0 (vp_nar .char 116)) 1 (vp_nar .char 105)) 2 (vp_nar .char 101)) 3 (vp_nar .char 115))))] ++ w53)) H := hP
  have hD : va_D A ([(h0, .inr (12, f51))] ++ ([(q52, .inl (cC, 4, .inl (upd (upd (upd (upd (fun _ => 0) 0 (vp_nar .char 116)) 1 (vp_nar .char 105)) 2 (vp_nar .char 101)) 3 (vp_nar .char 115))))] ++ w53)) := hD
  refine va_putF (D := (dC, dI)) (ci := 12) (v := .ref q52) (ty := .array .char) (C := RX12) (T := TX12) (N := 83) hx hb hts (fun w h => List.mem_cons_of_mem _ (inX12 w h)) tyX12 tyX12_ok nmX12 hown hK hP hD hS 0 rfl rfl 25 (by decide) (hts _ (List.mem_cons_of_mem _ mw_848)) (fun _ h9 => h9) rfl hin2 rfl (by decide +kernel) rfl rfl (by rw [hlen]; decide) dX12_init_435 (fun H locs hP hD hS => ?_)
  obtain ⟨f54, ef54⟩ : ∃ z : List Value, z = tiesWord.set 25 (.ref q52) := ⟨_, rfl⟩
  have hP : va_P (dC, dI) vwCl ([(h0, .inr (12, f54))] ++ ([(q52, .inl (cC, 4, .inl (upd (upd (upd (upd (fun _ => 0) 0 (vp_nar .char 116)) 1 (vp_nar .char 105)) 2 (vp_nar .char 101)) 3 (vp_nar .char 115))))] ++ w53)) H := by rw [ef54]; exact hP
  have hD : va_D A ([(h0, .inr (12, f54))] ++ ([(q52, .inl (cC, 4, .inl (upd (upd (upd (upd (fun _ => 0) 0 (vp_nar .char 116)) 1 (vp_nar .char 105)) 2 (vp_nar .char 101)) 3 (vp_nar .char 115))))] ++ w53)) := by rw [ef54]; exact hD
  have hlen : f54.length = 83 := by rw [ef54, List.length_set]; exact hlen
  refine lv_aload_n hx hb dX12_init_438 rfl (lv_at hl 0 rfl) ?_
  refine lv_iconst (v := (3 : Int32)) hx hb dX12_init_439 (by decide) ?_
  obtain ⟨w56, ew56⟩ : ∃ z : va_W, z = [(q52, .inl (cC, 4, .inl (upd (upd (upd (upd (fun _ => 0) 0 (vp_nar .char 116)) 1 (vp_nar .char 105)) 2 (vp_nar .char 101)) 3 (vp_nar .char 115))))] ++ w53 := ⟨_, rfl⟩
  have hP : va_P (dC, dI) vwCl ([(h0, .inr (12, f54))] ++ w56) H := by rw [ew56]; exact hP
  have hD : va_D A ([(h0, .inr (12, f54))] ++ w56) := by rw [ew56]; exact hD
  refine znew_c (N' := 3) hx hb (hts _ (List.mem_cons_of_mem _ mw_906)) hK 2 rfl hP hD hS hA (by decide) (by decide) (by decide) (Nat.le_of_ble_eq_true rfl) (Nat.le_of_ble_eq_true rfl) dX12_init_440 (fun q55 H hP hD hS => ?_)
  have hpm := (zrot ([(h0, .inr (12, f54))] ++ w56) [(q55, .inl (cC, 3, .inl (fun _ => 0)))]).trans (zswp [(q55, .inl (cC, 3, .inl (fun _ => 0)))] [(h0, .inr (12, f54))] w56)
  have hP := zP_perm hpm hP
  have hD := zD_perm hpm hD
  clear hpm
  have hP : va_P (dC, dI) vwCl ([(h0, .inr (12, f54))] ++ ([(q55, .inl (cC, 3, .inl (fun _ => 0)))] ++ w56)) H := hP
  have hD : va_D A ([(h0, .inr (12, f54))] ++ ([(q55, .inl (cC, 3, .inl (fun _ => 0)))] ++ w56)) := hD
  refine lv_dup hx hb dX12_init_442 rfl ?_
  refine lv_iconst (v := (0 : Int32)) hx hb dX12_init_443 (by decide) ?_
  refine lv_bipush (v := (109 : Int32)) hx hb dX12_init_444 (by decide) ?_
  refine va_cast hx hb hK hP hD hS 1 2 rfl rfl (i := (0 : Int32)) (zin (by decide)) dX12_init_446 (fun H locs hP hD hS => ?_)
  have hP : va_P (dC, dI) vwCl ([(h0, .inr (12, f54))] ++ ([(q55, .inl (cC, 3, .inl (upd (fun _ => 0) 0 (vp_nar .char 109))))] ++ w56)) H := hP
  have hD : va_D A ([(h0, .inr (12, f54))] ++ ([(q55, .inl (cC, 3, .inl (upd (fun _ => 0) 0 (vp_nar .char 109))))] ++ w56)) := hD
  refine lv_dup hx hb dX12_init_447 rfl ?_
  refine lv_iconst (v := (1 : Int32)) hx hb dX12_init_448 (by decide) ?_
  refine lv_bipush (v := (105 : Int32)) hx hb dX12_init_449 (by decide) ?_
  refine va_cast hx hb hK hP hD hS 1 2 rfl rfl (i := (1 : Int32)) (zin (by decide)) dX12_init_451 (fun H locs hP hD hS => ?_)
  have hP : va_P (dC, dI) vwCl ([(h0, .inr (12, f54))] ++ ([(q55, .inl (cC, 3, .inl (upd (upd (fun _ => 0) 0 (vp_nar .char 109)) 1 (vp_nar .char 105))))] ++ w56)) H := hP
  have hD : va_D A ([(h0, .inr (12, f54))] ++ ([(q55, .inl (cC, 3, .inl (upd (upd (fun _ => 0) 0 (vp_nar .char 109)) 1 (vp_nar .char 105))))] ++ w56)) := hD
  refine lv_dup hx hb dX12_init_452 rfl ?_
  refine lv_iconst (v := (2 : Int32)) hx hb dX12_init_453 (by decide) ?_
  refine lv_bipush (v := (110 : Int32)) hx hb dX12_init_454 (by decide) ?_
  refine va_cast hx hb hK hP hD hS 1 2 rfl rfl (i := (2 : Int32)) (zin (by decide)) dX12_init_456 (fun H locs hP hD hS => ?_)
  have hP : va_P (dC, dI) vwCl ([(h0, .inr (12, f54))] ++ ([(q55, .inl (cC, 3, .inl (upd (upd (upd (fun _ => 0) 0 (vp_nar .char 109)) 1 (vp_nar .char 105)) 2 (vp_nar .char 110))))] ++ w56)) H := hP
  have hD : va_D A ([(h0, .inr (12, f54))] ++ ([(q55, .inl (cC, 3, .inl (upd (upd (upd (fun _ => 0) 0 (vp_nar .char 109)) 1 (vp_nar .char 105)) 2 (vp_nar .char 110))))] ++ w56)) := hD
  refine va_putF (D := (dC, dI)) (ci := 12) (v := .ref q55) (ty := .array .char) (C := RX12) (T := TX12) (N := 83) hx hb hts (fun w h => List.mem_cons_of_mem _ (inX12 w h)) tyX12 tyX12_ok nmX12 hown hK hP hD hS 0 rfl rfl 26 (by decide) (hts _ (List.mem_cons_of_mem _ mw_849)) (fun _ h9 => h9) rfl hin2 rfl (by decide +kernel) rfl rfl (by rw [hlen]; decide) dX12_init_457 (fun H locs hP hD hS => ?_)
  obtain ⟨f57, ef57⟩ : ∃ z : List Value, z = minWord.set 26 (.ref q55) := ⟨_, rfl⟩
  have hP : va_P (dC, dI) vwCl ([(h0, .inr (12, f57))] ++ ([(q55, .inl (cC, 3, .inl (upd (upd (upd (fun _ => 0) 0 (vp_nar .char 109)) 1 (vp_nar .char 105)) 2 (vp_nar .char 110))))] ++ w56)) H := by rw [ef57]; exact hP
  have hD : va_D A ([(h0, .inr (12, f57))] ++ ([(q55, .inl (cC, 3, .inl (upd (upd (upd (fun _ => 0) 0 (vp_nar .char 109)) 1 (vp_nar .char 105)) 2 (vp_nar .char 110))))] ++ w56)) := by rw [ef57]; exact hD
  have hlen : f57.length = 83 := by rw [ef57, List.length_set]; exact hlen
  refine lv_aload_n hx hb dX12_init_460 rfl (lv_at hl 0 rfl) ?_
  refine lv_iconst (v := (3 : Int32)) hx hb dX12_init_461 (by decide) ?_
  obtain ⟨w59, ew59⟩ : ∃ z : va_W, z = [(q55, .inl (cC, 3, .inl (upd (upd (upd (fun _ => 0) 0 (vp_nar .char 109)) 1 (vp_nar .char 105)) 2 (vp_nar .char 110))))] ++ w56 := ⟨_, rfl⟩
  have hP : va_P (dC, dI) vwCl ([(h0, .inr (12, f57))] ++ w59) H := by rw [ew59]; exact hP
  have hD : va_D A ([(h0, .inr (12, f57))] ++ w59) := by rw [ew59]; exact hD
  refine znew_c (N' := 3) hx hb (hts _ (List.mem_cons_of_mem _ mw_906)) hK 2 rfl hP hD hS hA (by decide) (by decide) (by decide) (Nat.le_of_ble_eq_true rfl) (Nat.le_of_ble_eq_true rfl) dX12_init_462 (fun q58 H hP hD hS => ?_)
  have hpm := (zrot ([(h0, .inr (12, f57))] ++ w59) [(q58, .inl (cC, 3, .inl (fun _ => 0)))]).trans (zswp [(q58, .inl (cC, 3, .inl (fun _ => 0)))] [(h0, .inr (12, f57))] w59)
  have hP := zP_perm hpm hP
  have hD := zD_perm hpm hD
  clear hpm
  have hP : va_P (dC, dI) vwCl ([(h0, .inr (12, f57))] ++ ([(q58, .inl (cC, 3, .inl (fun _ => 0)))] ++ w59)) H := hP
  have hD : va_D A ([(h0, .inr (12, f57))] ++ ([(q58, .inl (cC, 3, .inl (fun _ => 0)))] ++ w59)) := hD
  refine lv_dup hx hb dX12_init_464 rfl ?_
  refine lv_iconst (v := (0 : Int32)) hx hb dX12_init_465 (by decide) ?_
  refine lv_bipush (v := (109 : Int32)) hx hb dX12_init_466 (by decide) ?_
  refine va_cast hx hb hK hP hD hS 1 2 rfl rfl (i := (0 : Int32)) (zin (by decide)) dX12_init_468 (fun H locs hP hD hS => ?_)
  have hP : va_P (dC, dI) vwCl ([(h0, .inr (12, f57))] ++ ([(q58, .inl (cC, 3, .inl (upd (fun _ => 0) 0 (vp_nar .char 109))))] ++ w59)) H := hP
  have hD : va_D A ([(h0, .inr (12, f57))] ++ ([(q58, .inl (cC, 3, .inl (upd (fun _ => 0) 0 (vp_nar .char 109))))] ++ w59)) := hD
  refine lv_dup hx hb dX12_init_469 rfl ?_
  refine lv_iconst (v := (1 : Int32)) hx hb dX12_init_470 (by decide) ?_
  refine lv_bipush (v := (97 : Int32)) hx hb dX12_init_471 (by decide) ?_
  refine va_cast hx hb hK hP hD hS 1 2 rfl rfl (i := (1 : Int32)) (zin (by decide)) dX12_init_473 (fun H locs hP hD hS => ?_)
  have hP : va_P (dC, dI) vwCl ([(h0, .inr (12, f57))] ++ ([(q58, .inl (cC, 3, .inl (upd (upd (fun _ => 0) 0 (vp_nar .char 109)) 1 (vp_nar .char 97))))] ++ w59)) H := hP
  have hD : va_D A ([(h0, .inr (12, f57))] ++ ([(q58, .inl (cC, 3, .inl (upd (upd (fun _ => 0) 0 (vp_nar .char 109)) 1 (vp_nar .char 97))))] ++ w59)) := hD
  refine lv_dup hx hb dX12_init_474 rfl ?_
  refine lv_iconst (v := (2 : Int32)) hx hb dX12_init_475 (by decide) ?_
  refine lv_bipush (v := (120 : Int32)) hx hb dX12_init_476 (by decide) ?_
  refine va_cast hx hb hK hP hD hS 1 2 rfl rfl (i := (2 : Int32)) (zin (by decide)) dX12_init_478 (fun H locs hP hD hS => ?_)
  have hP : va_P (dC, dI) vwCl ([(h0, .inr (12, f57))] ++ ([(q58, .inl (cC, 3, .inl (upd (upd (upd (fun _ => 0) 0 (vp_nar .char 109)) 1 (vp_nar .char 97)) 2 (vp_nar .char 120))))] ++ w59)) H := hP
  have hD : va_D A ([(h0, .inr (12, f57))] ++ ([(q58, .inl (cC, 3, .inl (upd (upd (upd (fun _ => 0) 0 (vp_nar .char 109)) 1 (vp_nar .char 97)) 2 (vp_nar .char 120))))] ++ w59)) := hD
  refine va_putF (D := (dC, dI)) (ci := 12) (v := .ref q58) (ty := .array .char) (C := RX12) (T := TX12) (N := 83) hx hb hts (fun w h => List.mem_cons_of_mem _ (inX12 w h)) tyX12 tyX12_ok nmX12 hown hK hP hD hS 0 rfl rfl 27 (by decide) (hts _ (List.mem_cons_of_mem _ mw_850)) (fun _ h9 => h9) rfl hin2 rfl (by decide +kernel) rfl rfl (by rw [hlen]; decide) dX12_init_479 (fun H locs hP hD hS => ?_)
  obtain ⟨f60, ef60⟩ : ∃ z : List Value, z = maxWord.set 27 (.ref q58) := ⟨_, rfl⟩
  have hP : va_P (dC, dI) vwCl ([(h0, .inr (12, f60))] ++ ([(q58, .inl (cC, 3, .inl (upd (upd (upd (fun _ => 0) 0 (vp_nar .char 109)) 1 (vp_nar .char 97)) 2 (vp_nar .char 120))))] ++ w59)) H := by rw [ef60]; exact hP
  have hD : va_D A ([(h0, .inr (12, f60))] ++ ([(q58, .inl (cC, 3, .inl (upd (upd (upd (fun _ => 0) 0 (vp_nar .char 109)) 1 (vp_nar .char 97)) 2 (vp_nar .char 120))))] ++ w59)) := by rw [ef60]; exact hD
  have hlen : f60.length = 83 := by rw [ef60, List.length_set]; exact hlen
  refine lv_aload_n hx hb dX12_init_482 rfl (lv_at hl 0 rfl) ?_
  refine lv_iconst (v := (2 : Int32)) hx hb dX12_init_483 (by decide) ?_
  obtain ⟨w62, ew62⟩ : ∃ z : va_W, z = [(q58, .inl (cC, 3, .inl (upd (upd (upd (fun _ => 0) 0 (vp_nar .char 109)) 1 (vp_nar .char 97)) 2 (vp_nar .char 120))))] ++ w59 := ⟨_, rfl⟩
  have hP : va_P (dC, dI) vwCl ([(h0, .inr (12, f60))] ++ w62) H := by rw [ew62]; exact hP
  have hD : va_D A ([(h0, .inr (12, f60))] ++ w62) := by rw [ew62]; exact hD
  refine znew_i (N' := 2) hx hb (hts _ (List.mem_cons_of_mem _ mw_38)) hK 0 rfl hP hD hS hA (by decide) (by decide) (by decide) (Nat.le_of_ble_eq_true rfl) (Nat.le_of_ble_eq_true rfl) dX12_init_484 (fun q61 H hP hD hS => ?_)
  have hpm := (zrot ([(h0, .inr (12, f60))] ++ w62) [(q61, .inl (cI, 2, .inl (fun _ => 0)))]).trans (zswp [(q61, .inl (cI, 2, .inl (fun _ => 0)))] [(h0, .inr (12, f60))] w62)
  have hP := zP_perm hpm hP
  have hD := zD_perm hpm hD
  clear hpm
  have hP : va_P (dC, dI) vwCl ([(h0, .inr (12, f60))] ++ ([(q61, .inl (cI, 2, .inl (fun _ => 0)))] ++ w62)) H := hP
  have hD : va_D A ([(h0, .inr (12, f60))] ++ ([(q61, .inl (cI, 2, .inl (fun _ => 0)))] ++ w62)) := hD
  refine va_putF (D := (dC, dI)) (ci := 12) (v := .ref q61) (ty := .array .int) (C := RX12) (T := TX12) (N := 83) hx hb hts (fun w h => List.mem_cons_of_mem _ (inX12 w h)) tyX12 tyX12_ok nmX12 hown hK hP hD hS 0 rfl rfl 29 (by decide) (hts _ (List.mem_cons_of_mem _ mw_852)) (fun _ h9 => h9) rfl hin2 rfl (by decide +kernel) rfl rfl (by rw [hlen]; decide) dX12_init_486 (fun H locs hP hD hS => ?_)
  obtain ⟨f63, ef63⟩ : ∃ z : List Value, z = persons.set 29 (.ref q61) := ⟨_, rfl⟩
  have hP : va_P (dC, dI) vwCl ([(h0, .inr (12, f63))] ++ ([(q61, .inl (cI, 2, .inl (fun _ => 0)))] ++ w62)) H := by rw [ef63]; exact hP
  have hD : va_D A ([(h0, .inr (12, f63))] ++ ([(q61, .inl (cI, 2, .inl (fun _ => 0)))] ++ w62)) := by rw [ef63]; exact hD
  have hlen : f63.length = 83 := by rw [ef63, List.length_set]; exact hlen
  refine lv_aload_n hx hb dX12_init_489 rfl (lv_at hl 0 rfl) ?_
  refine lv_bipush (v := (20 : Int32)) hx hb dX12_init_490 (by decide) ?_
  obtain ⟨w65, ew65⟩ : ∃ z : va_W, z = [(q61, .inl (cI, 2, .inl (fun _ => 0)))] ++ w62 := ⟨_, rfl⟩
  have hP : va_P (dC, dI) vwCl ([(h0, .inr (12, f63))] ++ w65) H := by rw [ew65]; exact hP
  have hD : va_D A ([(h0, .inr (12, f63))] ++ w65) := by rw [ew65]; exact hD
  refine znew_l (N' := 20) hx hb (hts _ (List.mem_cons_of_mem _ mw_57)) hK 1 rfl hP hD hS hA (by decide) (by decide) (by decide) (Nat.le_of_ble_eq_true rfl) (Nat.le_of_ble_eq_true rfl) dX12_init_492 (fun q64 H hP hD hS => ?_)
  have hpm := (zrot ([(h0, .inr (12, f63))] ++ w65) [(q64, .inl (cJ, 20, .inr (.inl (fun _ => 0))))]).trans (zswp [(q64, .inl (cJ, 20, .inr (.inl (fun _ => 0))))] [(h0, .inr (12, f63))] w65)
  have hP := zP_perm hpm hP
  have hD := zD_perm hpm hD
  clear hpm
  have hP : va_P (dC, dI) vwCl ([(h0, .inr (12, f63))] ++ ([(q64, .inl (cJ, 20, .inr (.inl (fun _ => 0))))] ++ w65)) H := hP
  have hD : va_D A ([(h0, .inr (12, f63))] ++ ([(q64, .inl (cJ, 20, .inr (.inl (fun _ => 0))))] ++ w65)) := hD
  refine va_putF (D := (dC, dI)) (ci := 12) (v := .ref q64) (ty := .array .long) (C := RX12) (T := TX12) (N := 83) hx hb hts (fun w h => List.mem_cons_of_mem _ (inX12 w h)) tyX12 tyX12_ok nmX12 hown hK hP hD hS 0 rfl rfl 30 (by decide) (hts _ (List.mem_cons_of_mem _ mw_853)) (fun _ h9 => h9) rfl hin2 rfl (by decide +kernel) rfl rfl (by rw [hlen]; decide) dX12_init_494 (fun H locs hP hD hS => ?_)
  obtain ⟨f66, ef66⟩ : ∃ z : List Value, z = personName.set 30 (.ref q64) := ⟨_, rfl⟩
  have hP : va_P (dC, dI) vwCl ([(h0, .inr (12, f66))] ++ ([(q64, .inl (cJ, 20, .inr (.inl (fun _ => 0))))] ++ w65)) H := by rw [ef66]; exact hP
  have hD : va_D A ([(h0, .inr (12, f66))] ++ ([(q64, .inl (cJ, 20, .inr (.inl (fun _ => 0))))] ++ w65)) := by rw [ef66]; exact hD
  have hlen : f66.length = 83 := by rw [ef66, List.length_set]; exact hlen
  refine lv_aload_n hx hb dX12_init_497 rfl (lv_at hl 0 rfl) ?_
  refine lv_bipush (v := (20 : Int32)) hx hb dX12_init_498 (by decide) ?_
  obtain ⟨w68, ew68⟩ : ∃ z : va_W, z = [(q64, .inl (cJ, 20, .inr (.inl (fun _ => 0))))] ++ w65 := ⟨_, rfl⟩
  have hP : va_P (dC, dI) vwCl ([(h0, .inr (12, f66))] ++ w68) H := by rw [ew68]; exact hP
  have hD : va_D A ([(h0, .inr (12, f66))] ++ w68) := by rw [ew68]; exact hD
  refine znew_i (N' := 20) hx hb (hts _ (List.mem_cons_of_mem _ mw_38)) hK 0 rfl hP hD hS hA (by decide) (by decide) (by decide) (Nat.le_of_ble_eq_true rfl) (Nat.le_of_ble_eq_true rfl) dX12_init_500 (fun q67 H hP hD hS => ?_)
  have hpm := (zrot ([(h0, .inr (12, f66))] ++ w68) [(q67, .inl (cI, 20, .inl (fun _ => 0)))]).trans (zswp [(q67, .inl (cI, 20, .inl (fun _ => 0)))] [(h0, .inr (12, f66))] w68)
  have hP := zP_perm hpm hP
  have hD := zD_perm hpm hD
  clear hpm
  have hP : va_P (dC, dI) vwCl ([(h0, .inr (12, f66))] ++ ([(q67, .inl (cI, 20, .inl (fun _ => 0)))] ++ w68)) H := hP
  have hD : va_D A ([(h0, .inr (12, f66))] ++ ([(q67, .inl (cI, 20, .inl (fun _ => 0)))] ++ w68)) := hD
  refine va_putF (D := (dC, dI)) (ci := 12) (v := .ref q67) (ty := .array .int) (C := RX12) (T := TX12) (N := 83) hx hb hts (fun w h => List.mem_cons_of_mem _ (inX12 w h)) tyX12 tyX12_ok nmX12 hown hK hP hD hS 0 rfl rfl 31 (by decide) (hts _ (List.mem_cons_of_mem _ mw_854)) (fun _ h9 => h9) rfl hin2 rfl (by decide +kernel) rfl rfl (by rw [hlen]; decide) dX12_init_502 (fun H locs hP hD hS => ?_)
  obtain ⟨f69, ef69⟩ : ∃ z : List Value, z = place.set 31 (.ref q67) := ⟨_, rfl⟩
  have hP : va_P (dC, dI) vwCl ([(h0, .inr (12, f69))] ++ ([(q67, .inl (cI, 20, .inl (fun _ => 0)))] ++ w68)) H := by rw [ef69]; exact hP
  have hD : va_D A ([(h0, .inr (12, f69))] ++ ([(q67, .inl (cI, 20, .inl (fun _ => 0)))] ++ w68)) := by rw [ef69]; exact hD
  have hlen : f69.length = 83 := by rw [ef69, List.length_set]; exact hlen
  refine lv_aload_n hx hb dX12_init_505 rfl (lv_at hl 0 rfl) ?_
  refine lv_bipush (v := (20 : Int32)) hx hb dX12_init_506 (by decide) ?_
  obtain ⟨w71, ew71⟩ : ∃ z : va_W, z = [(q67, .inl (cI, 20, .inl (fun _ => 0)))] ++ w68 := ⟨_, rfl⟩
  have hP : va_P (dC, dI) vwCl ([(h0, .inr (12, f69))] ++ w71) H := by rw [ew71]; exact hP
  have hD : va_D A ([(h0, .inr (12, f69))] ++ w71) := by rw [ew71]; exact hD
  refine znew_i (N' := 20) hx hb (hts _ (List.mem_cons_of_mem _ mw_38)) hK 0 rfl hP hD hS hA (by decide) (by decide) (by decide) (Nat.le_of_ble_eq_true rfl) (Nat.le_of_ble_eq_true rfl) dX12_init_508 (fun q70 H hP hD hS => ?_)
  have hpm := (zrot ([(h0, .inr (12, f69))] ++ w71) [(q70, .inl (cI, 20, .inl (fun _ => 0)))]).trans (zswp [(q70, .inl (cI, 20, .inl (fun _ => 0)))] [(h0, .inr (12, f69))] w71)
  have hP := zP_perm hpm hP
  have hD := zD_perm hpm hD
  clear hpm
  have hP : va_P (dC, dI) vwCl ([(h0, .inr (12, f69))] ++ ([(q70, .inl (cI, 20, .inl (fun _ => 0)))] ++ w71)) H := hP
  have hD : va_D A ([(h0, .inr (12, f69))] ++ ([(q70, .inl (cI, 20, .inl (fun _ => 0)))] ++ w71)) := hD
  refine va_putF (D := (dC, dI)) (ci := 12) (v := .ref q70) (ty := .array .int) (C := RX12) (T := TX12) (N := 83) hx hb hts (fun w h => List.mem_cons_of_mem _ (inX12 w h)) tyX12 tyX12_ok nmX12 hown hK hP hD hS 0 rfl rfl 32 (by decide) (hts _ (List.mem_cons_of_mem _ mw_855)) (fun _ h9 => h9) rfl hin2 rfl (by decide +kernel) rfl rfl (by rw [hlen]; decide) dX12_init_510 (fun H locs hP hD hS => ?_)
  obtain ⟨f72, ef72⟩ : ∃ z : List Value, z = most.set 32 (.ref q70) := ⟨_, rfl⟩
  have hP : va_P (dC, dI) vwCl ([(h0, .inr (12, f72))] ++ ([(q70, .inl (cI, 20, .inl (fun _ => 0)))] ++ w71)) H := by rw [ef72]; exact hP
  have hD : va_D A ([(h0, .inr (12, f72))] ++ ([(q70, .inl (cI, 20, .inl (fun _ => 0)))] ++ w71)) := by rw [ef72]; exact hD
  have hlen : f72.length = 83 := by rw [ef72, List.length_set]; exact hlen
  refine lv_aload_n hx hb dX12_init_513 rfl (lv_at hl 0 rfl) ?_
  refine lv_iconst (v := (2 : Int32)) hx hb dX12_init_514 (by decide) ?_
  obtain ⟨w74, ew74⟩ : ∃ z : va_W, z = [(q70, .inl (cI, 20, .inl (fun _ => 0)))] ++ w71 := ⟨_, rfl⟩
  have hP : va_P (dC, dI) vwCl ([(h0, .inr (12, f72))] ++ w74) H := by rw [ew74]; exact hP
  have hD : va_D A ([(h0, .inr (12, f72))] ++ w74) := by rw [ew74]; exact hD
  refine znew_i (N' := 2) hx hb (hts _ (List.mem_cons_of_mem _ mw_38)) hK 0 rfl hP hD hS hA (by decide) (by decide) (by decide) (Nat.le_of_ble_eq_true rfl) (Nat.le_of_ble_eq_true rfl) dX12_init_515 (fun q73 H hP hD hS => ?_)
  have hpm := (zrot ([(h0, .inr (12, f72))] ++ w74) [(q73, .inl (cI, 2, .inl (fun _ => 0)))]).trans (zswp [(q73, .inl (cI, 2, .inl (fun _ => 0)))] [(h0, .inr (12, f72))] w74)
  have hP := zP_perm hpm hP
  have hD := zD_perm hpm hD
  clear hpm
  have hP : va_P (dC, dI) vwCl ([(h0, .inr (12, f72))] ++ ([(q73, .inl (cI, 2, .inl (fun _ => 0)))] ++ w74)) H := hP
  have hD : va_D A ([(h0, .inr (12, f72))] ++ ([(q73, .inl (cI, 2, .inl (fun _ => 0)))] ++ w74)) := hD
  refine va_putF (D := (dC, dI)) (ci := 12) (v := .ref q73) (ty := .array .int) (C := RX12) (T := TX12) (N := 83) hx hb hts (fun w h => List.mem_cons_of_mem _ (inX12 w h)) tyX12 tyX12_ok nmX12 hown hK hP hD hS 0 rfl rfl 33 (by decide) (hts _ (List.mem_cons_of_mem _ mw_856)) (fun _ h9 => h9) rfl hin2 rfl (by decide +kernel) rfl rfl (by rw [hlen]; decide) dX12_init_517 (fun H locs hP hD hS => ?_)
  obtain ⟨f75, ef75⟩ : ∃ z : List Value, z = rules.set 33 (.ref q73) := ⟨_, rfl⟩
  have hP : va_P (dC, dI) vwCl ([(h0, .inr (12, f75))] ++ ([(q73, .inl (cI, 2, .inl (fun _ => 0)))] ++ w74)) H := by rw [ef75]; exact hP
  have hD : va_D A ([(h0, .inr (12, f75))] ++ ([(q73, .inl (cI, 2, .inl (fun _ => 0)))] ++ w74)) := by rw [ef75]; exact hD
  have hlen : f75.length = 83 := by rw [ef75, List.length_set]; exact hlen
  refine lv_aload_n hx hb dX12_init_520 rfl (lv_at hl 0 rfl) ?_
  refine lv_bipush (v := (40 : Int32)) hx hb dX12_init_521 (by decide) ?_
  obtain ⟨w77, ew77⟩ : ∃ z : va_W, z = [(q73, .inl (cI, 2, .inl (fun _ => 0)))] ++ w74 := ⟨_, rfl⟩
  have hP : va_P (dC, dI) vwCl ([(h0, .inr (12, f75))] ++ w77) H := by rw [ew77]; exact hP
  have hD : va_D A ([(h0, .inr (12, f75))] ++ w77) := by rw [ew77]; exact hD
  refine znew_i (N' := 40) hx hb (hts _ (List.mem_cons_of_mem _ mw_38)) hK 0 rfl hP hD hS hA (by decide) (by decide) (by decide) (Nat.le_of_ble_eq_true rfl) (Nat.le_of_ble_eq_true rfl) dX12_init_523 (fun q76 H hP hD hS => ?_)
  have hpm := (zrot ([(h0, .inr (12, f75))] ++ w77) [(q76, .inl (cI, 40, .inl (fun _ => 0)))]).trans (zswp [(q76, .inl (cI, 40, .inl (fun _ => 0)))] [(h0, .inr (12, f75))] w77)
  have hP := zP_perm hpm hP
  have hD := zD_perm hpm hD
  clear hpm
  have hP : va_P (dC, dI) vwCl ([(h0, .inr (12, f75))] ++ ([(q76, .inl (cI, 40, .inl (fun _ => 0)))] ++ w77)) H := hP
  have hD : va_D A ([(h0, .inr (12, f75))] ++ ([(q76, .inl (cI, 40, .inl (fun _ => 0)))] ++ w77)) := hD
  refine va_putF (D := (dC, dI)) (ci := 12) (v := .ref q76) (ty := .array .int) (C := RX12) (T := TX12) (N := 83) hx hb hts (fun w h => List.mem_cons_of_mem _ (inX12 w h)) tyX12 tyX12_ok nmX12 hown hK hP hD hS 0 rfl rfl 34 (by decide) (hts _ (List.mem_cons_of_mem _ mw_857)) (fun _ h9 => h9) rfl hin2 rfl (by decide +kernel) rfl rfl (by rw [hlen]; decide) dX12_init_525 (fun H locs hP hD hS => ?_)
  obtain ⟨f78, ef78⟩ : ∃ z : List Value, z = sort.set 34 (.ref q76) := ⟨_, rfl⟩
  have hP : va_P (dC, dI) vwCl ([(h0, .inr (12, f78))] ++ ([(q76, .inl (cI, 40, .inl (fun _ => 0)))] ++ w77)) H := by rw [ef78]; exact hP
  have hD : va_D A ([(h0, .inr (12, f78))] ++ ([(q76, .inl (cI, 40, .inl (fun _ => 0)))] ++ w77)) := by rw [ef78]; exact hD
  have hlen : f78.length = 83 := by rw [ef78, List.length_set]; exact hlen
  refine lv_aload_n hx hb dX12_init_528 rfl (lv_at hl 0 rfl) ?_
  refine lv_bipush (v := (40 : Int32)) hx hb dX12_init_529 (by decide) ?_
  obtain ⟨w80, ew80⟩ : ∃ z : va_W, z = [(q76, .inl (cI, 40, .inl (fun _ => 0)))] ++ w77 := ⟨_, rfl⟩
  have hP : va_P (dC, dI) vwCl ([(h0, .inr (12, f78))] ++ w80) H := by rw [ew80]; exact hP
  have hD : va_D A ([(h0, .inr (12, f78))] ++ w80) := by rw [ew80]; exact hD
  refine znew_i (N' := 40) hx hb (hts _ (List.mem_cons_of_mem _ mw_38)) hK 0 rfl hP hD hS hA (by decide) (by decide) (by decide) (Nat.le_of_ble_eq_true rfl) (Nat.le_of_ble_eq_true rfl) dX12_init_531 (fun q79 H hP hD hS => ?_)
  have hpm := (zrot ([(h0, .inr (12, f78))] ++ w80) [(q79, .inl (cI, 40, .inl (fun _ => 0)))]).trans (zswp [(q79, .inl (cI, 40, .inl (fun _ => 0)))] [(h0, .inr (12, f78))] w80)
  have hP := zP_perm hpm hP
  have hD := zD_perm hpm hD
  clear hpm
  have hP : va_P (dC, dI) vwCl ([(h0, .inr (12, f78))] ++ ([(q79, .inl (cI, 40, .inl (fun _ => 0)))] ++ w80)) H := hP
  have hD : va_D A ([(h0, .inr (12, f78))] ++ ([(q79, .inl (cI, 40, .inl (fun _ => 0)))] ++ w80)) := hD
  refine va_putF (D := (dC, dI)) (ci := 12) (v := .ref q79) (ty := .array .int) (C := RX12) (T := TX12) (N := 83) hx hb hts (fun w h => List.mem_cons_of_mem _ (inX12 w h)) tyX12 tyX12_ok nmX12 hown hK hP hD hS 0 rfl rfl 35 (by decide) (hts _ (List.mem_cons_of_mem _ mw_858)) (fun _ h9 => h9) rfl hin2 rfl (by decide +kernel) rfl rfl (by rw [hlen]; decide) dX12_init_533 (fun H locs hP hD hS => ?_)
  obtain ⟨f81, ef81⟩ : ∃ z : List Value, z = sumFrom.set 35 (.ref q79) := ⟨_, rfl⟩
  have hP : va_P (dC, dI) vwCl ([(h0, .inr (12, f81))] ++ ([(q79, .inl (cI, 40, .inl (fun _ => 0)))] ++ w80)) H := by rw [ef81]; exact hP
  have hD : va_D A ([(h0, .inr (12, f81))] ++ ([(q79, .inl (cI, 40, .inl (fun _ => 0)))] ++ w80)) := by rw [ef81]; exact hD
  have hlen : f81.length = 83 := by rw [ef81, List.length_set]; exact hlen
  refine lv_aload_n hx hb dX12_init_536 rfl (lv_at hl 0 rfl) ?_
  refine lv_bipush (v := (40 : Int32)) hx hb dX12_init_537 (by decide) ?_
  obtain ⟨w83, ew83⟩ : ∃ z : va_W, z = [(q79, .inl (cI, 40, .inl (fun _ => 0)))] ++ w80 := ⟨_, rfl⟩
  have hP : va_P (dC, dI) vwCl ([(h0, .inr (12, f81))] ++ w83) H := by rw [ew83]; exact hP
  have hD : va_D A ([(h0, .inr (12, f81))] ++ w83) := by rw [ew83]; exact hD
  refine znew_i (N' := 40) hx hb (hts _ (List.mem_cons_of_mem _ mw_38)) hK 0 rfl hP hD hS hA (by decide) (by decide) (by decide) (Nat.le_of_ble_eq_true rfl) (Nat.le_of_ble_eq_true rfl) dX12_init_539 (fun q82 H hP hD hS => ?_)
  have hpm := (zrot ([(h0, .inr (12, f81))] ++ w83) [(q82, .inl (cI, 40, .inl (fun _ => 0)))]).trans (zswp [(q82, .inl (cI, 40, .inl (fun _ => 0)))] [(h0, .inr (12, f81))] w83)
  have hP := zP_perm hpm hP
  have hD := zD_perm hpm hD
  clear hpm
  have hP : va_P (dC, dI) vwCl ([(h0, .inr (12, f81))] ++ ([(q82, .inl (cI, 40, .inl (fun _ => 0)))] ++ w83)) H := hP
  have hD : va_D A ([(h0, .inr (12, f81))] ++ ([(q82, .inl (cI, 40, .inl (fun _ => 0)))] ++ w83)) := hD
  refine va_putF (D := (dC, dI)) (ci := 12) (v := .ref q82) (ty := .array .int) (C := RX12) (T := TX12) (N := 83) hx hb hts (fun w h => List.mem_cons_of_mem _ (inX12 w h)) tyX12 tyX12_ok nmX12 hown hK hP hD hS 0 rfl rfl 36 (by decide) (hts _ (List.mem_cons_of_mem _ mw_859)) (fun _ h9 => h9) rfl hin2 rfl (by decide +kernel) rfl rfl (by rw [hlen]; decide) dX12_init_541 (fun H locs hP hD hS => ?_)
  obtain ⟨f84, ef84⟩ : ∃ z : List Value, z = sumEnd.set 36 (.ref q82) := ⟨_, rfl⟩
  have hP : va_P (dC, dI) vwCl ([(h0, .inr (12, f84))] ++ ([(q82, .inl (cI, 40, .inl (fun _ => 0)))] ++ w83)) H := by rw [ef84]; exact hP
  have hD : va_D A ([(h0, .inr (12, f84))] ++ ([(q82, .inl (cI, 40, .inl (fun _ => 0)))] ++ w83)) := by rw [ef84]; exact hD
  have hlen : f84.length = 83 := by rw [ef84, List.length_set]; exact hlen
  refine lv_aload_n hx hb dX12_init_544 rfl (lv_at hl 0 rfl) ?_
  refine lv_bipush (v := (40 : Int32)) hx hb dX12_init_545 (by decide) ?_
  obtain ⟨w86, ew86⟩ : ∃ z : va_W, z = [(q82, .inl (cI, 40, .inl (fun _ => 0)))] ++ w83 := ⟨_, rfl⟩
  have hP : va_P (dC, dI) vwCl ([(h0, .inr (12, f84))] ++ w86) H := by rw [ew86]; exact hP
  have hD : va_D A ([(h0, .inr (12, f84))] ++ w86) := by rw [ew86]; exact hD
  refine znew_i (N' := 40) hx hb (hts _ (List.mem_cons_of_mem _ mw_38)) hK 0 rfl hP hD hS hA (by decide) (by decide) (by decide) (Nat.le_of_ble_eq_true rfl) (Nat.le_of_ble_eq_true rfl) dX12_init_547 (fun q85 H hP hD hS => ?_)
  have hpm := (zrot ([(h0, .inr (12, f84))] ++ w86) [(q85, .inl (cI, 40, .inl (fun _ => 0)))]).trans (zswp [(q85, .inl (cI, 40, .inl (fun _ => 0)))] [(h0, .inr (12, f84))] w86)
  have hP := zP_perm hpm hP
  have hD := zD_perm hpm hD
  clear hpm
  have hP : va_P (dC, dI) vwCl ([(h0, .inr (12, f84))] ++ ([(q85, .inl (cI, 40, .inl (fun _ => 0)))] ++ w86)) H := hP
  have hD : va_D A ([(h0, .inr (12, f84))] ++ ([(q85, .inl (cI, 40, .inl (fun _ => 0)))] ++ w86)) := hD
  refine va_putF (D := (dC, dI)) (ci := 12) (v := .ref q85) (ty := .array .int) (C := RX12) (T := TX12) (N := 83) hx hb hts (fun w h => List.mem_cons_of_mem _ (inX12 w h)) tyX12 tyX12_ok nmX12 hown hK hP hD hS 0 rfl rfl 37 (by decide) (hts _ (List.mem_cons_of_mem _ mw_860)) (fun _ h9 => h9) rfl hin2 rfl (by decide +kernel) rfl rfl (by rw [hlen]; decide) dX12_init_549 (fun H locs hP hD hS => ?_)
  obtain ⟨f87, ef87⟩ : ∃ z : List Value, z = testEnd.set 37 (.ref q85) := ⟨_, rfl⟩
  have hP : va_P (dC, dI) vwCl ([(h0, .inr (12, f87))] ++ ([(q85, .inl (cI, 40, .inl (fun _ => 0)))] ++ w86)) H := by rw [ef87]; exact hP
  have hD : va_D A ([(h0, .inr (12, f87))] ++ ([(q85, .inl (cI, 40, .inl (fun _ => 0)))] ++ w86)) := by rw [ef87]; exact hD
  have hlen : f87.length = 83 := by rw [ef87, List.length_set]; exact hlen
  refine lv_aload_n hx hb dX12_init_552 rfl (lv_at hl 0 rfl) ?_
  refine lv_iconst (v := (2 : Int32)) hx hb dX12_init_553 (by decide) ?_
  obtain ⟨w89, ew89⟩ : ∃ z : va_W, z = [(q85, .inl (cI, 40, .inl (fun _ => 0)))] ++ w86 := ⟨_, rfl⟩
  have hP : va_P (dC, dI) vwCl ([(h0, .inr (12, f87))] ++ w89) H := by rw [ew89]; exact hP
  have hD : va_D A ([(h0, .inr (12, f87))] ++ w89) := by rw [ew89]; exact hD
  refine znew_i (N' := 2) hx hb (hts _ (List.mem_cons_of_mem _ mw_38)) hK 0 rfl hP hD hS hA (by decide) (by decide) (by decide) (Nat.le_of_ble_eq_true rfl) (Nat.le_of_ble_eq_true rfl) dX12_init_554 (fun q88 H hP hD hS => ?_)
  have hpm := (zrot ([(h0, .inr (12, f87))] ++ w89) [(q88, .inl (cI, 2, .inl (fun _ => 0)))]).trans (zswp [(q88, .inl (cI, 2, .inl (fun _ => 0)))] [(h0, .inr (12, f87))] w89)
  have hP := zP_perm hpm hP
  have hD := zD_perm hpm hD
  clear hpm
  have hP : va_P (dC, dI) vwCl ([(h0, .inr (12, f87))] ++ ([(q88, .inl (cI, 2, .inl (fun _ => 0)))] ++ w89)) H := hP
  have hD : va_D A ([(h0, .inr (12, f87))] ++ ([(q88, .inl (cI, 2, .inl (fun _ => 0)))] ++ w89)) := hD
  refine va_putF (D := (dC, dI)) (ci := 12) (v := .ref q88) (ty := .array .int) (C := RX12) (T := TX12) (N := 83) hx hb hts (fun w h => List.mem_cons_of_mem _ (inX12 w h)) tyX12 tyX12_ok nmX12 hown hK hP hD hS 0 rfl rfl 38 (by decide) (hts _ (List.mem_cons_of_mem _ mw_861)) (fun _ h9 => h9) rfl hin2 rfl (by decide +kernel) rfl rfl (by rw [hlen]; decide) dX12_init_556 (fun H locs hP hD hS => ?_)
  obtain ⟨f90, ef90⟩ : ∃ z : List Value, z = barMany.set 38 (.ref q88) := ⟨_, rfl⟩
  have hP : va_P (dC, dI) vwCl ([(h0, .inr (12, f90))] ++ ([(q88, .inl (cI, 2, .inl (fun _ => 0)))] ++ w89)) H := by rw [ef90]; exact hP
  have hD : va_D A ([(h0, .inr (12, f90))] ++ ([(q88, .inl (cI, 2, .inl (fun _ => 0)))] ++ w89)) := by rw [ef90]; exact hD
  have hlen : f90.length = 83 := by rw [ef90, List.length_set]; exact hlen
  refine lv_aload_n hx hb dX12_init_559 rfl (lv_at hl 0 rfl) ?_
  refine lv_iconst (v := (2 : Int32)) hx hb dX12_init_560 (by decide) ?_
  obtain ⟨w92, ew92⟩ : ∃ z : va_W, z = [(q88, .inl (cI, 2, .inl (fun _ => 0)))] ++ w89 := ⟨_, rfl⟩
  have hP : va_P (dC, dI) vwCl ([(h0, .inr (12, f90))] ++ w92) H := by rw [ew92]; exact hP
  have hD : va_D A ([(h0, .inr (12, f90))] ++ w92) := by rw [ew92]; exact hD
  refine znew_l (N' := 2) hx hb (hts _ (List.mem_cons_of_mem _ mw_57)) hK 1 rfl hP hD hS hA (by decide) (by decide) (by decide) (Nat.le_of_ble_eq_true rfl) (Nat.le_of_ble_eq_true rfl) dX12_init_561 (fun q91 H hP hD hS => ?_)
  have hpm := (zrot ([(h0, .inr (12, f90))] ++ w92) [(q91, .inl (cJ, 2, .inr (.inl (fun _ => 0))))]).trans (zswp [(q91, .inl (cJ, 2, .inr (.inl (fun _ => 0))))] [(h0, .inr (12, f90))] w92)
  have hP := zP_perm hpm hP
  have hD := zD_perm hpm hD
  clear hpm
  have hP : va_P (dC, dI) vwCl ([(h0, .inr (12, f90))] ++ ([(q91, .inl (cJ, 2, .inr (.inl (fun _ => 0))))] ++ w92)) H := hP
  have hD : va_D A ([(h0, .inr (12, f90))] ++ ([(q91, .inl (cJ, 2, .inr (.inl (fun _ => 0))))] ++ w92)) := hD
  refine va_putF (D := (dC, dI)) (ci := 12) (v := .ref q91) (ty := .array .long) (C := RX12) (T := TX12) (N := 83) hx hb hts (fun w h => List.mem_cons_of_mem _ (inX12 w h)) tyX12 tyX12_ok nmX12 hown hK hP hD hS 0 rfl rfl 39 (by decide) (hts _ (List.mem_cons_of_mem _ mw_862)) (fun _ h9 => h9) rfl hin2 rfl (by decide +kernel) rfl rfl (by rw [hlen]; decide) dX12_init_563 (fun H locs hP hD hS => ?_)
  obtain ⟨f93, ef93⟩ : ∃ z : List Value, z = barred.set 39 (.ref q91) := ⟨_, rfl⟩
  have hP : va_P (dC, dI) vwCl ([(h0, .inr (12, f93))] ++ ([(q91, .inl (cJ, 2, .inr (.inl (fun _ => 0))))] ++ w92)) H := by rw [ef93]; exact hP
  have hD : va_D A ([(h0, .inr (12, f93))] ++ ([(q91, .inl (cJ, 2, .inr (.inl (fun _ => 0))))] ++ w92)) := by rw [ef93]; exact hD
  have hlen : f93.length = 83 := by rw [ef93, List.length_set]; exact hlen
  refine lv_aload_n hx hb dX12_init_566 rfl (lv_at hl 0 rfl) ?_
  refine lv_sipush (v := (1800 : Int32)) hx hb dX12_init_567 (by decide) ?_
  obtain ⟨w95, ew95⟩ : ∃ z : va_W, z = [(q91, .inl (cJ, 2, .inr (.inl (fun _ => 0))))] ++ w92 := ⟨_, rfl⟩
  have hP : va_P (dC, dI) vwCl ([(h0, .inr (12, f93))] ++ w95) H := by rw [ew95]; exact hP
  have hD : va_D A ([(h0, .inr (12, f93))] ++ w95) := by rw [ew95]; exact hD
  refine znew_i (N' := 1800) hx hb (hts _ (List.mem_cons_of_mem _ mw_38)) hK 0 rfl hP hD hS hA (by decide) (by decide) (by decide) (Nat.le_of_ble_eq_true rfl) (Nat.le_of_ble_eq_true rfl) dX12_init_570 (fun q94 H hP hD hS => ?_)
  have hpm := (zrot ([(h0, .inr (12, f93))] ++ w95) [(q94, .inl (cI, 1800, .inl (fun _ => 0)))]).trans (zswp [(q94, .inl (cI, 1800, .inl (fun _ => 0)))] [(h0, .inr (12, f93))] w95)
  have hP := zP_perm hpm hP
  have hD := zD_perm hpm hD
  clear hpm
  have hP : va_P (dC, dI) vwCl ([(h0, .inr (12, f93))] ++ ([(q94, .inl (cI, 1800, .inl (fun _ => 0)))] ++ w95)) H := hP
  have hD : va_D A ([(h0, .inr (12, f93))] ++ ([(q94, .inl (cI, 1800, .inl (fun _ => 0)))] ++ w95)) := hD
  refine va_putF (D := (dC, dI)) (ci := 12) (v := .ref q94) (ty := .array .int) (C := RX12) (T := TX12) (N := 83) hx hb hts (fun w h => List.mem_cons_of_mem _ (inX12 w h)) tyX12 tyX12_ok nmX12 hown hK hP hD hS 0 rfl rfl 40 (by decide) (hts _ (List.mem_cons_of_mem _ mw_863)) (fun _ h9 => h9) rfl hin2 rfl (by decide +kernel) rfl rfl (by rw [hlen]; decide) dX12_init_572 (fun H locs hP hD hS => ?_)
  obtain ⟨f96, ef96⟩ : ∃ z : List Value, z = codes.set 40 (.ref q94) := ⟨_, rfl⟩
  have hP : va_P (dC, dI) vwCl ([(h0, .inr (12, f96))] ++ ([(q94, .inl (cI, 1800, .inl (fun _ => 0)))] ++ w95)) H := by rw [ef96]; exact hP
  have hD : va_D A ([(h0, .inr (12, f96))] ++ ([(q94, .inl (cI, 1800, .inl (fun _ => 0)))] ++ w95)) := by rw [ef96]; exact hD
  have hlen : f96.length = 83 := by rw [ef96, List.length_set]; exact hlen
  refine lv_aload_n hx hb dX12_init_575 rfl (lv_at hl 0 rfl) ?_
  refine lv_sipush (v := (900 : Int32)) hx hb dX12_init_576 (by decide) ?_
  obtain ⟨w98, ew98⟩ : ∃ z : va_W, z = [(q94, .inl (cI, 1800, .inl (fun _ => 0)))] ++ w95 := ⟨_, rfl⟩
  have hP : va_P (dC, dI) vwCl ([(h0, .inr (12, f96))] ++ w98) H := by rw [ew98]; exact hP
  have hD : va_D A ([(h0, .inr (12, f96))] ++ w98) := by rw [ew98]; exact hD
  refine znew_i (N' := 900) hx hb (hts _ (List.mem_cons_of_mem _ mw_38)) hK 0 rfl hP hD hS hA (by decide) (by decide) (by decide) (Nat.le_of_ble_eq_true rfl) (Nat.le_of_ble_eq_true rfl) dX12_init_579 (fun q97 H hP hD hS => ?_)
  have hpm := (zrot ([(h0, .inr (12, f96))] ++ w98) [(q97, .inl (cI, 900, .inl (fun _ => 0)))]).trans (zswp [(q97, .inl (cI, 900, .inl (fun _ => 0)))] [(h0, .inr (12, f96))] w98)
  have hP := zP_perm hpm hP
  have hD := zD_perm hpm hD
  clear hpm
  have hP : va_P (dC, dI) vwCl ([(h0, .inr (12, f96))] ++ ([(q97, .inl (cI, 900, .inl (fun _ => 0)))] ++ w98)) H := hP
  have hD : va_D A ([(h0, .inr (12, f96))] ++ ([(q97, .inl (cI, 900, .inl (fun _ => 0)))] ++ w98)) := hD
  refine va_putF (D := (dC, dI)) (ci := 12) (v := .ref q97) (ty := .array .int) (C := RX12) (T := TX12) (N := 83) hx hb hts (fun w h => List.mem_cons_of_mem _ (inX12 w h)) tyX12 tyX12_ok nmX12 hown hK hP hD hS 0 rfl rfl 42 (by decide) (hts _ (List.mem_cons_of_mem _ mw_865)) (fun _ h9 => h9) rfl hin2 rfl (by decide +kernel) rfl rfl (by rw [hlen]; decide) dX12_init_581 (fun H locs hP hD hS => ?_)
  obtain ⟨f99, ef99⟩ : ∃ z : List Value, z = wait.set 42 (.ref q97) := ⟨_, rfl⟩
  have hP : va_P (dC, dI) vwCl ([(h0, .inr (12, f99))] ++ ([(q97, .inl (cI, 900, .inl (fun _ => 0)))] ++ w98)) H := by rw [ef99]; exact hP
  have hD : va_D A ([(h0, .inr (12, f99))] ++ ([(q97, .inl (cI, 900, .inl (fun _ => 0)))] ++ w98)) := by rw [ef99]; exact hD
  have hlen : f99.length = 83 := by rw [ef99, List.length_set]; exact hlen
  refine lv_aload_n hx hb dX12_init_584 rfl (lv_at hl 0 rfl) ?_
  refine lv_ldc2 (v := (-1 : Int64)) hx hb hown (hts _ (List.mem_cons_of_mem _ mw_822)) dX12_init_585 ?_
  refine va_put (D := (dC, dI)) (ci := 12) (v := .long (-1 : Int64)) (ty := .long) (C := RX12) (T := TX12) (N := 83) hx hb hts (fun w h => List.mem_cons_of_mem _ (inX12 w h)) tyX12 tyX12_ok nmX12 hown hK hP hD hS 0 rfl rfl 49 (by decide) (hts _ (List.mem_cons_of_mem _ mw_872)) (fun _ h9 => h9) rfl (by decide +kernel) rfl rfl (by rw [hlen]; decide) dX12_init_588 (fun H locs hP hD hS => ?_)
  obtain ⟨f100, ef100⟩ : ∃ z : List Value, z = looked.set 49 (.long (-1 : Int64)) := ⟨_, rfl⟩
  have hP : va_P (dC, dI) vwCl ([(h0, .inr (12, f100))] ++ ([(q97, .inl (cI, 900, .inl (fun _ => 0)))] ++ w98)) H := by rw [ef100]; exact hP
  have hD : va_D A ([(h0, .inr (12, f100))] ++ ([(q97, .inl (cI, 900, .inl (fun _ => 0)))] ++ w98)) := by rw [ef100]; exact hD
  have hlen : f100.length = 83 := by rw [ef100, List.length_set]; exact hlen
  refine lv_aload_n hx hb dX12_init_591 rfl (lv_at hl 0 rfl) ?_
  refine lv_bipush (v := (100 : Int32)) hx hb dX12_init_592 (by decide) ?_
  obtain ⟨w102, ew102⟩ : ∃ z : va_W, z = [(q97, .inl (cI, 900, .inl (fun _ => 0)))] ++ w98 := ⟨_, rfl⟩
  have hP : va_P (dC, dI) vwCl ([(h0, .inr (12, f100))] ++ w102) H := by rw [ew102]; exact hP
  have hD : va_D A ([(h0, .inr (12, f100))] ++ w102) := by rw [ew102]; exact hD
  refine znew_i (N' := 100) hx hb (hts _ (List.mem_cons_of_mem _ mw_38)) hK 0 rfl hP hD hS hA (by decide) (by decide) (by decide) (Nat.le_of_ble_eq_true rfl) (Nat.le_of_ble_eq_true rfl) dX12_init_594 (fun q101 H hP hD hS => ?_)
  have hpm := (zrot ([(h0, .inr (12, f100))] ++ w102) [(q101, .inl (cI, 100, .inl (fun _ => 0)))]).trans (zswp [(q101, .inl (cI, 100, .inl (fun _ => 0)))] [(h0, .inr (12, f100))] w102)
  have hP := zP_perm hpm hP
  have hD := zD_perm hpm hD
  clear hpm
  have hP : va_P (dC, dI) vwCl ([(h0, .inr (12, f100))] ++ ([(q101, .inl (cI, 100, .inl (fun _ => 0)))] ++ w102)) H := hP
  have hD : va_D A ([(h0, .inr (12, f100))] ++ ([(q101, .inl (cI, 100, .inl (fun _ => 0)))] ++ w102)) := hD
  refine va_putF (D := (dC, dI)) (ci := 12) (v := .ref q101) (ty := .array .int) (C := RX12) (T := TX12) (N := 83) hx hb hts (fun w h => List.mem_cons_of_mem _ (inX12 w h)) tyX12 tyX12_ok nmX12 hown hK hP hD hS 0 rfl rfl 50 (by decide) (hts _ (List.mem_cons_of_mem _ mw_873)) (fun _ h9 => h9) rfl hin2 rfl (by decide +kernel) rfl rfl (by rw [hlen]; decide) dX12_init_596 (fun H locs hP hD hS => ?_)
  obtain ⟨f103, ef103⟩ : ∃ z : List Value, z = way.set 50 (.ref q101) := ⟨_, rfl⟩
  have hP : va_P (dC, dI) vwCl ([(h0, .inr (12, f103))] ++ ([(q101, .inl (cI, 100, .inl (fun _ => 0)))] ++ w102)) H := by rw [ef103]; exact hP
  have hD : va_D A ([(h0, .inr (12, f103))] ++ ([(q101, .inl (cI, 100, .inl (fun _ => 0)))] ++ w102)) := by rw [ef103]; exact hD
  have hlen : f103.length = 83 := by rw [ef103, List.length_set]; exact hlen
  refine lv_aload_n hx hb dX12_init_599 rfl (lv_at hl 0 rfl) ?_
  refine lv_bipush (v := (10 : Int32)) hx hb dX12_init_600 (by decide) ?_
  obtain ⟨w105, ew105⟩ : ∃ z : va_W, z = [(q101, .inl (cI, 100, .inl (fun _ => 0)))] ++ w102 := ⟨_, rfl⟩
  have hP : va_P (dC, dI) vwCl ([(h0, .inr (12, f103))] ++ w105) H := by rw [ew105]; exact hP
  have hD : va_D A ([(h0, .inr (12, f103))] ++ w105) := by rw [ew105]; exact hD
  refine znew_i (N' := 10) hx hb (hts _ (List.mem_cons_of_mem _ mw_38)) hK 0 rfl hP hD hS hA (by decide) (by decide) (by decide) (Nat.le_of_ble_eq_true rfl) (Nat.le_of_ble_eq_true rfl) dX12_init_602 (fun q104 H hP hD hS => ?_)
  have hpm := (zrot ([(h0, .inr (12, f103))] ++ w105) [(q104, .inl (cI, 10, .inl (fun _ => 0)))]).trans (zswp [(q104, .inl (cI, 10, .inl (fun _ => 0)))] [(h0, .inr (12, f103))] w105)
  have hP := zP_perm hpm hP
  have hD := zD_perm hpm hD
  clear hpm
  have hP : va_P (dC, dI) vwCl ([(h0, .inr (12, f103))] ++ ([(q104, .inl (cI, 10, .inl (fun _ => 0)))] ++ w105)) H := hP
  have hD : va_D A ([(h0, .inr (12, f103))] ++ ([(q104, .inl (cI, 10, .inl (fun _ => 0)))] ++ w105)) := hD
  refine va_putF (D := (dC, dI)) (ci := 12) (v := .ref q104) (ty := .array .int) (C := RX12) (T := TX12) (N := 83) hx hb hts (fun w h => List.mem_cons_of_mem _ (inX12 w h)) tyX12 tyX12_ok nmX12 hown hK hP hD hS 0 rfl rfl 51 (by decide) (hts _ (List.mem_cons_of_mem _ mw_874)) (fun _ h9 => h9) rfl hin2 rfl (by decide +kernel) rfl rfl (by rw [hlen]; decide) dX12_init_604 (fun H locs hP hD hS => ?_)
  obtain ⟨f106, ef106⟩ : ∃ z : List Value, z = own.set 51 (.ref q104) := ⟨_, rfl⟩
  have hP : va_P (dC, dI) vwCl ([(h0, .inr (12, f106))] ++ ([(q104, .inl (cI, 10, .inl (fun _ => 0)))] ++ w105)) H := by rw [ef106]; exact hP
  have hD : va_D A ([(h0, .inr (12, f106))] ++ ([(q104, .inl (cI, 10, .inl (fun _ => 0)))] ++ w105)) := by rw [ef106]; exact hD
  have hlen : f106.length = 83 := by rw [ef106, List.length_set]; exact hlen
  refine lv_aload_n hx hb dX12_init_607 rfl (lv_at hl 0 rfl) ?_
  refine lv_iconst (v := (-1 : Int32)) hx hb dX12_init_608 (by decide) ?_
  refine va_put (D := (dC, dI)) (ci := 12) (v := .int (-1 : Int32)) (ty := .int) (C := RX12) (T := TX12) (N := 83) hx hb hts (fun w h => List.mem_cons_of_mem _ (inX12 w h)) tyX12 tyX12_ok nmX12 hown hK hP hD hS 0 rfl rfl 53 (by decide) (hts _ (List.mem_cons_of_mem _ mw_876)) (fun _ h9 => h9) rfl (by decide +kernel) rfl rfl (by rw [hlen]; decide) dX12_init_609 (fun H locs hP hD hS => ?_)
  obtain ⟨f107, ef107⟩ : ∃ z : List Value, z = liar.set 53 (.int (-1 : Int32)) := ⟨_, rfl⟩
  have hP : va_P (dC, dI) vwCl ([(h0, .inr (12, f107))] ++ ([(q104, .inl (cI, 10, .inl (fun _ => 0)))] ++ w105)) H := by rw [ef107]; exact hP
  have hD : va_D A ([(h0, .inr (12, f107))] ++ ([(q104, .inl (cI, 10, .inl (fun _ => 0)))] ++ w105)) := by rw [ef107]; exact hD
  have hlen : f107.length = 83 := by rw [ef107, List.length_set]; exact hlen
  refine lv_aload_n hx hb dX12_init_612 rfl (lv_at hl 0 rfl) ?_
  refine lv_sipush (v := (900 : Int32)) hx hb dX12_init_613 (by decide) ?_
  obtain ⟨w109, ew109⟩ : ∃ z : va_W, z = [(q104, .inl (cI, 10, .inl (fun _ => 0)))] ++ w105 := ⟨_, rfl⟩
  have hP : va_P (dC, dI) vwCl ([(h0, .inr (12, f107))] ++ w109) H := by rw [ew109]; exact hP
  have hD : va_D A ([(h0, .inr (12, f107))] ++ w109) := by rw [ew109]; exact hD
  refine znew_l (N' := 900) hx hb (hts _ (List.mem_cons_of_mem _ mw_57)) hK 1 rfl hP hD hS hA (by decide) (by decide) (by decide) (Nat.le_of_ble_eq_true rfl) (Nat.le_of_ble_eq_true rfl) dX12_init_616 (fun q108 H hP hD hS => ?_)
  have hpm := (zrot ([(h0, .inr (12, f107))] ++ w109) [(q108, .inl (cJ, 900, .inr (.inl (fun _ => 0))))]).trans (zswp [(q108, .inl (cJ, 900, .inr (.inl (fun _ => 0))))] [(h0, .inr (12, f107))] w109)
  have hP := zP_perm hpm hP
  have hD := zD_perm hpm hD
  clear hpm
  have hP : va_P (dC, dI) vwCl ([(h0, .inr (12, f107))] ++ ([(q108, .inl (cJ, 900, .inr (.inl (fun _ => 0))))] ++ w109)) H := hP
  have hD : va_D A ([(h0, .inr (12, f107))] ++ ([(q108, .inl (cJ, 900, .inr (.inl (fun _ => 0))))] ++ w109)) := hD
  refine va_putF (D := (dC, dI)) (ci := 12) (v := .ref q108) (ty := .array .long) (C := RX12) (T := TX12) (N := 83) hx hb hts (fun w h => List.mem_cons_of_mem _ (inX12 w h)) tyX12 tyX12_ok nmX12 hown hK hP hD hS 0 rfl rfl 55 (by decide) (hts _ (List.mem_cons_of_mem _ mw_878)) (fun _ h9 => h9) rfl hin2 rfl (by decide +kernel) rfl rfl (by rw [hlen]; decide) dX12_init_618 (fun H locs hP hD hS => ?_)
  obtain ⟨f110, ef110⟩ : ∃ z : List Value, z = pile.set 55 (.ref q108) := ⟨_, rfl⟩
  have hP : va_P (dC, dI) vwCl ([(h0, .inr (12, f110))] ++ ([(q108, .inl (cJ, 900, .inr (.inl (fun _ => 0))))] ++ w109)) H := by rw [ef110]; exact hP
  have hD : va_D A ([(h0, .inr (12, f110))] ++ ([(q108, .inl (cJ, 900, .inr (.inl (fun _ => 0))))] ++ w109)) := by rw [ef110]; exact hD
  have hlen : f110.length = 83 := by rw [ef110, List.length_set]; exact hlen
  refine lv_aload_n hx hb dX12_init_621 rfl (lv_at hl 0 rfl) ?_
  refine lv_sipush (v := (5120 : Int32)) hx hb dX12_init_622 (by decide) ?_
  obtain ⟨w112, ew112⟩ : ∃ z : va_W, z = [(q108, .inl (cJ, 900, .inr (.inl (fun _ => 0))))] ++ w109 := ⟨_, rfl⟩
  have hP : va_P (dC, dI) vwCl ([(h0, .inr (12, f110))] ++ w112) H := by rw [ew112]; exact hP
  have hD : va_D A ([(h0, .inr (12, f110))] ++ w112) := by rw [ew112]; exact hD
  refine znew_l (N' := 5120) hx hb (hts _ (List.mem_cons_of_mem _ mw_57)) hK 1 rfl hP hD hS hA (by decide) (by decide) (by decide) (Nat.le_of_ble_eq_true rfl) (Nat.le_of_ble_eq_true rfl) dX12_init_625 (fun q111 H hP hD hS => ?_)
  have hpm := (zrot ([(h0, .inr (12, f110))] ++ w112) [(q111, .inl (cJ, 5120, .inr (.inl (fun _ => 0))))]).trans (zswp [(q111, .inl (cJ, 5120, .inr (.inl (fun _ => 0))))] [(h0, .inr (12, f110))] w112)
  have hP := zP_perm hpm hP
  have hD := zD_perm hpm hD
  clear hpm
  have hP : va_P (dC, dI) vwCl ([(h0, .inr (12, f110))] ++ ([(q111, .inl (cJ, 5120, .inr (.inl (fun _ => 0))))] ++ w112)) H := hP
  have hD : va_D A ([(h0, .inr (12, f110))] ++ ([(q111, .inl (cJ, 5120, .inr (.inl (fun _ => 0))))] ++ w112)) := hD
  refine va_putF (D := (dC, dI)) (ci := 12) (v := .ref q111) (ty := .array .long) (C := RX12) (T := TX12) (N := 83) hx hb hts (fun w h => List.mem_cons_of_mem _ (inX12 w h)) tyX12 tyX12_ok nmX12 hown hK hP hD hS 0 rfl rfl 58 (by decide) (hts _ (List.mem_cons_of_mem _ mw_881)) (fun _ h9 => h9) rfl hin2 rfl (by decide +kernel) rfl rfl (by rw [hlen]; decide) dX12_init_627 (fun H locs hP hD hS => ?_)
  obtain ⟨f113, ef113⟩ : ∃ z : List Value, z = table.set 58 (.ref q111) := ⟨_, rfl⟩
  have hP : va_P (dC, dI) vwCl ([(h0, .inr (12, f113))] ++ ([(q111, .inl (cJ, 5120, .inr (.inl (fun _ => 0))))] ++ w112)) H := by rw [ef113]; exact hP
  have hD : va_D A ([(h0, .inr (12, f113))] ++ ([(q111, .inl (cJ, 5120, .inr (.inl (fun _ => 0))))] ++ w112)) := by rw [ef113]; exact hD
  have hlen : f113.length = 83 := by rw [ef113, List.length_set]; exact hlen
  refine lv_aload_n hx hb dX12_init_630 rfl (lv_at hl 0 rfl) ?_
  refine lv_bipush (v := (10 : Int32)) hx hb dX12_init_631 (by decide) ?_
  obtain ⟨w115, ew115⟩ : ∃ z : va_W, z = [(q111, .inl (cJ, 5120, .inr (.inl (fun _ => 0))))] ++ w112 := ⟨_, rfl⟩
  have hP : va_P (dC, dI) vwCl ([(h0, .inr (12, f113))] ++ w115) H := by rw [ew115]; exact hP
  have hD : va_D A ([(h0, .inr (12, f113))] ++ w115) := by rw [ew115]; exact hD
  refine znew_l (N' := 10) hx hb (hts _ (List.mem_cons_of_mem _ mw_57)) hK 1 rfl hP hD hS hA (by decide) (by decide) (by decide) (Nat.le_of_ble_eq_true rfl) (Nat.le_of_ble_eq_true rfl) dX12_init_633 (fun q114 H hP hD hS => ?_)
  have hpm := (zrot ([(h0, .inr (12, f113))] ++ w115) [(q114, .inl (cJ, 10, .inr (.inl (fun _ => 0))))]).trans (zswp [(q114, .inl (cJ, 10, .inr (.inl (fun _ => 0))))] [(h0, .inr (12, f113))] w115)
  have hP := zP_perm hpm hP
  have hD := zD_perm hpm hD
  clear hpm
  have hP : va_P (dC, dI) vwCl ([(h0, .inr (12, f113))] ++ ([(q114, .inl (cJ, 10, .inr (.inl (fun _ => 0))))] ++ w115)) H := hP
  have hD : va_D A ([(h0, .inr (12, f113))] ++ ([(q114, .inl (cJ, 10, .inr (.inl (fun _ => 0))))] ++ w115)) := hD
  refine va_putF (D := (dC, dI)) (ci := 12) (v := .ref q114) (ty := .array .long) (C := RX12) (T := TX12) (N := 83) hx hb hts (fun w h => List.mem_cons_of_mem _ (inX12 w h)) tyX12 tyX12_ok nmX12 hown hK hP hD hS 0 rfl rfl 59 (by decide) (hts _ (List.mem_cons_of_mem _ mw_882)) (fun _ h9 => h9) rfl hin2 rfl (by decide +kernel) rfl rfl (by rw [hlen]; decide) dX12_init_635 (fun H locs hP hD hS => ?_)
  obtain ⟨f116, ef116⟩ : ∃ z : List Value, z = now.set 59 (.ref q114) := ⟨_, rfl⟩
  have hP : va_P (dC, dI) vwCl ([(h0, .inr (12, f116))] ++ ([(q114, .inl (cJ, 10, .inr (.inl (fun _ => 0))))] ++ w115)) H := by rw [ef116]; exact hP
  have hD : va_D A ([(h0, .inr (12, f116))] ++ ([(q114, .inl (cJ, 10, .inr (.inl (fun _ => 0))))] ++ w115)) := by rw [ef116]; exact hD
  have hlen : f116.length = 83 := by rw [ef116, List.length_set]; exact hlen
  refine lv_aload_n hx hb dX12_init_638 rfl (lv_at hl 0 rfl) ?_
  refine lv_iconst (v := (-1 : Int32)) hx hb dX12_init_639 (by decide) ?_
  refine va_put (D := (dC, dI)) (ci := 12) (v := .int (-1 : Int32)) (ty := .int) (C := RX12) (T := TX12) (N := 83) hx hb hts (fun w h => List.mem_cons_of_mem _ (inX12 w h)) tyX12 tyX12_ok nmX12 hown hK hP hD hS 0 rfl rfl 63 (by decide) (hts _ (List.mem_cons_of_mem _ mw_886)) (fun _ h9 => h9) rfl (by decide +kernel) rfl rfl (by rw [hlen]; decide) dX12_init_640 (fun H locs hP hD hS => ?_)
  obtain ⟨f117, ef117⟩ : ∃ z : List Value, z = barSort.set 63 (.int (-1 : Int32)) := ⟨_, rfl⟩
  have hP : va_P (dC, dI) vwCl ([(h0, .inr (12, f117))] ++ ([(q114, .inl (cJ, 10, .inr (.inl (fun _ => 0))))] ++ w115)) H := by rw [ef117]; exact hP
  have hD : va_D A ([(h0, .inr (12, f117))] ++ ([(q114, .inl (cJ, 10, .inr (.inl (fun _ => 0))))] ++ w115)) := by rw [ef117]; exact hD
  have hlen : f117.length = 83 := by rw [ef117, List.length_set]; exact hlen
  refine lv_aload_n hx hb dX12_init_643 rfl (lv_at hl 0 rfl) ?_
  refine lv_bipush (v := (45 : Int32)) hx hb dX12_init_644 (by decide) ?_
  obtain ⟨w119, ew119⟩ : ∃ z : va_W, z = [(q114, .inl (cJ, 10, .inr (.inl (fun _ => 0))))] ++ w115 := ⟨_, rfl⟩
  have hP : va_P (dC, dI) vwCl ([(h0, .inr (12, f117))] ++ w119) H := by rw [ew119]; exact hP
  have hD : va_D A ([(h0, .inr (12, f117))] ++ w119) := by rw [ew119]; exact hD
  refine znew_i (N' := 45) hx hb (hts _ (List.mem_cons_of_mem _ mw_38)) hK 0 rfl hP hD hS hA (by decide) (by decide) (by decide) (Nat.le_of_ble_eq_true rfl) (Nat.le_of_ble_eq_true rfl) dX12_init_646 (fun q118 H hP hD hS => ?_)
  have hpm := (zrot ([(h0, .inr (12, f117))] ++ w119) [(q118, .inl (cI, 45, .inl (fun _ => 0)))]).trans (zswp [(q118, .inl (cI, 45, .inl (fun _ => 0)))] [(h0, .inr (12, f117))] w119)
  have hP := zP_perm hpm hP
  have hD := zD_perm hpm hD
  clear hpm
  have hP : va_P (dC, dI) vwCl ([(h0, .inr (12, f117))] ++ ([(q118, .inl (cI, 45, .inl (fun _ => 0)))] ++ w119)) H := hP
  have hD : va_D A ([(h0, .inr (12, f117))] ++ ([(q118, .inl (cI, 45, .inl (fun _ => 0)))] ++ w119)) := hD
  refine va_putF (D := (dC, dI)) (ci := 12) (v := .ref q118) (ty := .array .int) (C := RX12) (T := TX12) (N := 83) hx hb hts (fun w h => List.mem_cons_of_mem _ (inX12 w h)) tyX12 tyX12_ok nmX12 hown hK hP hD hS 0 rfl rfl 66 (by decide) (hts _ (List.mem_cons_of_mem _ mw_889)) (fun _ h9 => h9) rfl hin2 rfl (by decide +kernel) rfl rfl (by rw [hlen]; decide) dX12_init_648 (fun H locs hP hD hS => ?_)
  obtain ⟨f120, ef120⟩ : ∃ z : List Value, z = drawn.set 66 (.ref q118) := ⟨_, rfl⟩
  have hP : va_P (dC, dI) vwCl ([(h0, .inr (12, f120))] ++ ([(q118, .inl (cI, 45, .inl (fun _ => 0)))] ++ w119)) H := by rw [ef120]; exact hP
  have hD : va_D A ([(h0, .inr (12, f120))] ++ ([(q118, .inl (cI, 45, .inl (fun _ => 0)))] ++ w119)) := by rw [ef120]; exact hD
  have hlen : f120.length = 83 := by rw [ef120, List.length_set]; exact hlen
  refine lv_aload_n hx hb dX12_init_651 rfl (lv_at hl 0 rfl) ?_
  refine lv_sipush (v := (201 : Int32)) hx hb dX12_init_652 (by decide) ?_
  obtain ⟨w122, ew122⟩ : ∃ z : va_W, z = [(q118, .inl (cI, 45, .inl (fun _ => 0)))] ++ w119 := ⟨_, rfl⟩
  have hP : va_P (dC, dI) vwCl ([(h0, .inr (12, f120))] ++ w122) H := by rw [ew122]; exact hP
  have hD : va_D A ([(h0, .inr (12, f120))] ++ w122) := by rw [ew122]; exact hD
  refine znew_l (N' := 201) hx hb (hts _ (List.mem_cons_of_mem _ mw_57)) hK 1 rfl hP hD hS hA (by decide) (by decide) (by decide) (Nat.le_of_ble_eq_true rfl) (Nat.le_of_ble_eq_true rfl) dX12_init_655 (fun q121 H hP hD hS => ?_)
  have hpm := (zrot ([(h0, .inr (12, f120))] ++ w122) [(q121, .inl (cJ, 201, .inr (.inl (fun _ => 0))))]).trans (zswp [(q121, .inl (cJ, 201, .inr (.inl (fun _ => 0))))] [(h0, .inr (12, f120))] w122)
  have hP := zP_perm hpm hP
  have hD := zD_perm hpm hD
  clear hpm
  have hP : va_P (dC, dI) vwCl ([(h0, .inr (12, f120))] ++ ([(q121, .inl (cJ, 201, .inr (.inl (fun _ => 0))))] ++ w122)) H := hP
  have hD : va_D A ([(h0, .inr (12, f120))] ++ ([(q121, .inl (cJ, 201, .inr (.inl (fun _ => 0))))] ++ w122)) := hD
  refine va_putF (D := (dC, dI)) (ci := 12) (v := .ref q121) (ty := .array .long) (C := RX12) (T := TX12) (N := 83) hx hb hts (fun w h => List.mem_cons_of_mem _ (inX12 w h)) tyX12 tyX12_ok nmX12 hown hK hP hD hS 0 rfl rfl 67 (by decide) (hts _ (List.mem_cons_of_mem _ mw_890)) (fun _ h9 => h9) rfl hin2 rfl (by decide +kernel) rfl rfl (by rw [hlen]; decide) dX12_init_657 (fun H locs hP hD hS => ?_)
  obtain ⟨f123, ef123⟩ : ∃ z : List Value, z = passed.set 67 (.ref q121) := ⟨_, rfl⟩
  have hP : va_P (dC, dI) vwCl ([(h0, .inr (12, f123))] ++ ([(q121, .inl (cJ, 201, .inr (.inl (fun _ => 0))))] ++ w122)) H := by rw [ef123]; exact hP
  have hD : va_D A ([(h0, .inr (12, f123))] ++ ([(q121, .inl (cJ, 201, .inr (.inl (fun _ => 0))))] ++ w122)) := by rw [ef123]; exact hD
  have hlen : f123.length = 83 := by rw [ef123, List.length_set]; exact hlen
  refine lv_aload_n hx hb dX12_init_660 rfl (lv_at hl 0 rfl) ?_
  refine lv_sipush (v := (1024 : Int32)) hx hb dX12_init_661 (by decide) ?_
  obtain ⟨w125, ew125⟩ : ∃ z : va_W, z = [(q121, .inl (cJ, 201, .inr (.inl (fun _ => 0))))] ++ w122 := ⟨_, rfl⟩
  have hP : va_P (dC, dI) vwCl ([(h0, .inr (12, f123))] ++ w125) H := by rw [ew125]; exact hP
  have hD : va_D A ([(h0, .inr (12, f123))] ++ w125) := by rw [ew125]; exact hD
  refine znew_l (N' := 1024) hx hb (hts _ (List.mem_cons_of_mem _ mw_57)) hK 1 rfl hP hD hS hA (by decide) (by decide) (by decide) (Nat.le_of_ble_eq_true rfl) (Nat.le_of_ble_eq_true rfl) dX12_init_664 (fun q124 H hP hD hS => ?_)
  have hpm := (zrot ([(h0, .inr (12, f123))] ++ w125) [(q124, .inl (cJ, 1024, .inr (.inl (fun _ => 0))))]).trans (zswp [(q124, .inl (cJ, 1024, .inr (.inl (fun _ => 0))))] [(h0, .inr (12, f123))] w125)
  have hP := zP_perm hpm hP
  have hD := zD_perm hpm hD
  clear hpm
  have hP : va_P (dC, dI) vwCl ([(h0, .inr (12, f123))] ++ ([(q124, .inl (cJ, 1024, .inr (.inl (fun _ => 0))))] ++ w125)) H := hP
  have hD : va_D A ([(h0, .inr (12, f123))] ++ ([(q124, .inl (cJ, 1024, .inr (.inl (fun _ => 0))))] ++ w125)) := hD
  refine va_putF (D := (dC, dI)) (ci := 12) (v := .ref q124) (ty := .array .long) (C := RX12) (T := TX12) (N := 83) hx hb hts (fun w h => List.mem_cons_of_mem _ (inX12 w h)) tyX12 tyX12_ok nmX12 hown hK hP hD hS 0 rfl rfl 74 (by decide) (hts _ (List.mem_cons_of_mem _ mw_897)) (fun _ h9 => h9) rfl hin2 rfl (by decide +kernel) rfl rfl (by rw [hlen]; decide) dX12_init_666 (fun H locs hP hD hS => ?_)
  obtain ⟨f126, ef126⟩ : ∃ z : List Value, z = list.set 74 (.ref q124) := ⟨_, rfl⟩
  have hP : va_P (dC, dI) vwCl ([(h0, .inr (12, f126))] ++ ([(q124, .inl (cJ, 1024, .inr (.inl (fun _ => 0))))] ++ w125)) H := by rw [ef126]; exact hP
  have hD : va_D A ([(h0, .inr (12, f126))] ++ ([(q124, .inl (cJ, 1024, .inr (.inl (fun _ => 0))))] ++ w125)) := by rw [ef126]; exact hD
  have hlen : f126.length = 83 := by rw [ef126, List.length_set]; exact hlen
  refine lv_aload_n hx hb dX12_init_669 rfl (lv_at hl 0 rfl) ?_
  refine lv_iconst (v := (5 : Int32)) hx hb dX12_init_670 (by decide) ?_
  obtain ⟨w128, ew128⟩ : ∃ z : va_W, z = [(q124, .inl (cJ, 1024, .inr (.inl (fun _ => 0))))] ++ w125 := ⟨_, rfl⟩
  have hP : va_P (dC, dI) vwCl ([(h0, .inr (12, f126))] ++ w128) H := by rw [ew128]; exact hP
  have hD : va_D A ([(h0, .inr (12, f126))] ++ w128) := by rw [ew128]; exact hD
  refine znew_i (N' := 5) hx hb (hts _ (List.mem_cons_of_mem _ mw_38)) hK 0 rfl hP hD hS hA (by decide) (by decide) (by decide) (Nat.le_of_ble_eq_true rfl) (Nat.le_of_ble_eq_true rfl) dX12_init_671 (fun q127 H hP hD hS => ?_)
  have hpm := (zrot ([(h0, .inr (12, f126))] ++ w128) [(q127, .inl (cI, 5, .inl (fun _ => 0)))]).trans (zswp [(q127, .inl (cI, 5, .inl (fun _ => 0)))] [(h0, .inr (12, f126))] w128)
  have hP := zP_perm hpm hP
  have hD := zD_perm hpm hD
  clear hpm
  have hP : va_P (dC, dI) vwCl ([(h0, .inr (12, f126))] ++ ([(q127, .inl (cI, 5, .inl (fun _ => 0)))] ++ w128)) H := hP
  have hD : va_D A ([(h0, .inr (12, f126))] ++ ([(q127, .inl (cI, 5, .inl (fun _ => 0)))] ++ w128)) := hD
  refine va_putF (D := (dC, dI)) (ci := 12) (v := .ref q127) (ty := .array .int) (C := RX12) (T := TX12) (N := 83) hx hb hts (fun w h => List.mem_cons_of_mem _ (inX12 w h)) tyX12 tyX12_ok nmX12 hown hK hP hD hS 0 rfl rfl 75 (by decide) (hts _ (List.mem_cons_of_mem _ mw_898)) (fun _ h9 => h9) rfl hin2 rfl (by decide +kernel) rfl rfl (by rw [hlen]; decide) dX12_init_673 (fun H locs hP hD hS => ?_)
  obtain ⟨f129, ef129⟩ : ∃ z : List Value, z = order.set 75 (.ref q127) := ⟨_, rfl⟩
  have hP : va_P (dC, dI) vwCl ([(h0, .inr (12, f129))] ++ ([(q127, .inl (cI, 5, .inl (fun _ => 0)))] ++ w128)) H := by rw [ef129]; exact hP
  have hD : va_D A ([(h0, .inr (12, f129))] ++ ([(q127, .inl (cI, 5, .inl (fun _ => 0)))] ++ w128)) := by rw [ef129]; exact hD
  have hlen : f129.length = 83 := by rw [ef129, List.length_set]; exact hlen
  refine lv_aload_n hx hb dX12_init_676 rfl (lv_at hl 0 rfl) ?_
  refine lv_bipush (v := (120 : Int32)) hx hb dX12_init_677 (by decide) ?_
  obtain ⟨w131, ew131⟩ : ∃ z : va_W, z = [(q127, .inl (cI, 5, .inl (fun _ => 0)))] ++ w128 := ⟨_, rfl⟩
  have hP : va_P (dC, dI) vwCl ([(h0, .inr (12, f129))] ++ w131) H := by rw [ew131]; exact hP
  have hD : va_D A ([(h0, .inr (12, f129))] ++ w131) := by rw [ew131]; exact hD
  refine znew_l (N' := 120) hx hb (hts _ (List.mem_cons_of_mem _ mw_57)) hK 1 rfl hP hD hS hA (by decide) (by decide) (by decide) (Nat.le_of_ble_eq_true rfl) (Nat.le_of_ble_eq_true rfl) dX12_init_679 (fun q130 H hP hD hS => ?_)
  have hpm := (zrot ([(h0, .inr (12, f129))] ++ w131) [(q130, .inl (cJ, 120, .inr (.inl (fun _ => 0))))]).trans (zswp [(q130, .inl (cJ, 120, .inr (.inl (fun _ => 0))))] [(h0, .inr (12, f129))] w131)
  have hP := zP_perm hpm hP
  have hD := zD_perm hpm hD
  clear hpm
  have hP : va_P (dC, dI) vwCl ([(h0, .inr (12, f129))] ++ ([(q130, .inl (cJ, 120, .inr (.inl (fun _ => 0))))] ++ w131)) H := hP
  have hD : va_D A ([(h0, .inr (12, f129))] ++ ([(q130, .inl (cJ, 120, .inr (.inl (fun _ => 0))))] ++ w131)) := hD
  refine va_putF (D := (dC, dI)) (ci := 12) (v := .ref q130) (ty := .array .long) (C := RX12) (T := TX12) (N := 83) hx hb hts (fun w h => List.mem_cons_of_mem _ (inX12 w h)) tyX12 tyX12_ok nmX12 hown hK hP hD hS 0 rfl rfl 77 (by decide) (hts _ (List.mem_cons_of_mem _ mw_900)) (fun _ h9 => h9) rfl hin2 rfl (by decide +kernel) rfl rfl (by rw [hlen]; decide) dX12_init_681 (fun H locs hP hD hS => ?_)
  obtain ⟨f132, ef132⟩ : ∃ z : List Value, z = come.set 77 (.ref q130) := ⟨_, rfl⟩
  have hP : va_P (dC, dI) vwCl ([(h0, .inr (12, f132))] ++ ([(q130, .inl (cJ, 120, .inr (.inl (fun _ => 0))))] ++ w131)) H := by rw [ef132]; exact hP
  have hD : va_D A ([(h0, .inr (12, f132))] ++ ([(q130, .inl (cJ, 120, .inr (.inl (fun _ => 0))))] ++ w131)) := by rw [ef132]; exact hD
  have hlen : f132.length = 83 := by rw [ef132, List.length_set]; exact hlen
  refine lv_aload_n hx hb dX12_init_684 rfl (lv_at hl 0 rfl) ?_
  refine lv_bipush (v := (120 : Int32)) hx hb dX12_init_685 (by decide) ?_
  obtain ⟨w134, ew134⟩ : ∃ z : va_W, z = [(q130, .inl (cJ, 120, .inr (.inl (fun _ => 0))))] ++ w131 := ⟨_, rfl⟩
  have hP : va_P (dC, dI) vwCl ([(h0, .inr (12, f132))] ++ w134) H := by rw [ew134]; exact hP
  have hD : va_D A ([(h0, .inr (12, f132))] ++ w134) := by rw [ew134]; exact hD
  refine znew_i (N' := 120) hx hb (hts _ (List.mem_cons_of_mem _ mw_38)) hK 0 rfl hP hD hS hA (by decide) (by decide) (by decide) (Nat.le_of_ble_eq_true rfl) (Nat.le_of_ble_eq_true rfl) dX12_init_687 (fun q133 H hP hD hS => ?_)
  have hpm := (zrot ([(h0, .inr (12, f132))] ++ w134) [(q133, .inl (cI, 120, .inl (fun _ => 0)))]).trans (zswp [(q133, .inl (cI, 120, .inl (fun _ => 0)))] [(h0, .inr (12, f132))] w134)
  have hP := zP_perm hpm hP
  have hD := zD_perm hpm hD
  clear hpm
  have hP : va_P (dC, dI) vwCl ([(h0, .inr (12, f132))] ++ ([(q133, .inl (cI, 120, .inl (fun _ => 0)))] ++ w134)) H := hP
  have hD : va_D A ([(h0, .inr (12, f132))] ++ ([(q133, .inl (cI, 120, .inl (fun _ => 0)))] ++ w134)) := hD
  refine va_putF (D := (dC, dI)) (ci := 12) (v := .ref q133) (ty := .array .int) (C := RX12) (T := TX12) (N := 83) hx hb hts (fun w h => List.mem_cons_of_mem _ (inX12 w h)) tyX12 tyX12_ok nmX12 hown hK hP hD hS 0 rfl rfl 78 (by decide) (hts _ (List.mem_cons_of_mem _ mw_901)) (fun _ h9 => h9) rfl hin2 rfl (by decide +kernel) rfl rfl (by rw [hlen]; decide) dX12_init_689 (fun H locs hP hD hS => ?_)
  obtain ⟨f135, ef135⟩ : ∃ z : List Value, z = orders.set 78 (.ref q133) := ⟨_, rfl⟩
  have hP : va_P (dC, dI) vwCl ([(h0, .inr (12, f135))] ++ ([(q133, .inl (cI, 120, .inl (fun _ => 0)))] ++ w134)) H := by rw [ef135]; exact hP
  have hD : va_D A ([(h0, .inr (12, f135))] ++ ([(q133, .inl (cI, 120, .inl (fun _ => 0)))] ++ w134)) := by rw [ef135]; exact hD
  have hlen : f135.length = 83 := by rw [ef135, List.length_set]; exact hlen
  refine lv_aload_n hx hb dX12_init_692 rfl (lv_at hl 0 rfl) ?_
  refine lv_bipush (v := (10 : Int32)) hx hb dX12_init_693 (by decide) ?_
  obtain ⟨w137, ew137⟩ : ∃ z : va_W, z = [(q133, .inl (cI, 120, .inl (fun _ => 0)))] ++ w134 := ⟨_, rfl⟩
  have hP : va_P (dC, dI) vwCl ([(h0, .inr (12, f135))] ++ w137) H := by rw [ew137]; exact hP
  have hD : va_D A ([(h0, .inr (12, f135))] ++ w137) := by rw [ew137]; exact hD
  refine znew_i (N' := 10) hx hb (hts _ (List.mem_cons_of_mem _ mw_38)) hK 0 rfl hP hD hS hA (by decide) (by decide) (by decide) (Nat.le_of_ble_eq_true rfl) (Nat.le_of_ble_eq_true rfl) dX12_init_695 (fun q136 H hP hD hS => ?_)
  have hpm := (zrot ([(h0, .inr (12, f135))] ++ w137) [(q136, .inl (cI, 10, .inl (fun _ => 0)))]).trans (zswp [(q136, .inl (cI, 10, .inl (fun _ => 0)))] [(h0, .inr (12, f135))] w137)
  have hP := zP_perm hpm hP
  have hD := zD_perm hpm hD
  clear hpm
  have hP : va_P (dC, dI) vwCl ([(h0, .inr (12, f135))] ++ ([(q136, .inl (cI, 10, .inl (fun _ => 0)))] ++ w137)) H := hP
  have hD : va_D A ([(h0, .inr (12, f135))] ++ ([(q136, .inl (cI, 10, .inl (fun _ => 0)))] ++ w137)) := hD
  refine va_putF (D := (dC, dI)) (ci := 12) (v := .ref q136) (ty := .array .int) (C := RX12) (T := TX12) (N := 83) hx hb hts (fun w h => List.mem_cons_of_mem _ (inX12 w h)) tyX12 tyX12_ok nmX12 hown hK hP hD hS 0 rfl rfl 81 (by decide) (hts _ (List.mem_cons_of_mem _ mw_904)) (fun _ h9 => h9) rfl hin2 rfl (by decide +kernel) rfl rfl (by rw [hlen]; decide) dX12_init_697 (fun H locs hP hD hS => ?_)
  obtain ⟨f138, ef138⟩ : ∃ z : List Value, z = octet.set 81 (.ref q136) := ⟨_, rfl⟩
  have hP : va_P (dC, dI) vwCl ([(h0, .inr (12, f138))] ++ ([(q136, .inl (cI, 10, .inl (fun _ => 0)))] ++ w137)) H := by rw [ef138]; exact hP
  have hD : va_D A ([(h0, .inr (12, f138))] ++ ([(q136, .inl (cI, 10, .inl (fun _ => 0)))] ++ w137)) := by rw [ef138]; exact hD
  have hlen : f138.length = 83 := by rw [ef138, List.length_set]; exact hlen
  subst ew137
  subst ew134
  subst ew131
  subst ew128
  subst ew125
  subst ew122
  subst ew119
  subst ew115
  subst ew112
  subst ew109
  subst ew105
  subst ew102
  subst ew98
  subst ew95
  subst ew92
  subst ew89
  subst ew86
  subst ew83
  subst ew80
  subst ew77
  subst ew74
  subst ew71
  subst ew68
  subst ew65
  subst ew62
  subst ew59
  subst ew56
  subst ew53
  subst ew50
  subst ew47
  subst ew44
  subst ew41
  subst ew38
  subst ew35
  subst ew32
  subst ew29
  subst ew26
  subst ew23
  subst ew20
  subst ew17
  subst ew14
  subst ew11
  subst ew8
  subst ew5
  subst ef138
  subst ef135
  subst ef132
  subst ef129
  subst ef126
  subst ef123
  subst ef120
  subst ef117
  subst ef116
  subst ef113
  subst ef110
  subst ef107
  subst ef106
  subst ef103
  subst ef100
  subst ef99
  subst ef96
  subst ef93
  subst ef90
  subst ef87
  subst ef84
  subst ef81
  subst ef78
  subst ef75
  subst ef72
  subst ef69
  subst ef66
  subst ef63
  subst ef60
  subst ef57
  subst ef54
  subst ef51
  subst ef48
  subst ef45
  subst ef42
  subst ef39
  subst ef36
  subst ef33
  subst ef30
  subst ef27
  subst ef24
  subst ef21
  subst ef18
  subst ef15
  subst ef12
  subst ef9
  subst ef6
  subst ef3
  subst ef2
  subst ef0
  have hP := hP.sub (ws' := m_W (zad [h0, q1, q61, q64, q67, q70, q73, q76, q79, q82, q85, q88, q91, q94, q97, q101, q104, q108, q111, q114, q118, q121, q124, q127, q130, q133, q136, q4, q7, q10, q13, q16, q19, q22, q25, q28, q31, q34, q37, q40, q43, q46, q49, q52, q55, q58]) cI cJ cC zM0) [0, 45, 25, 24, 23, 22, 21, 20, 19, 18, 17, 16, 15, 14, 13, 12, 11, 10, 9, 8, 7, 6, 5, 4, 3, 2, 1, 44, 43, 42, 41, 40, 39, 38, 37, 36, 35, 34, 33, 32, 31, 30, 29, 28, 27, 26] rfl
  have hD := hD.sub (ws' := m_W (zad [h0, q1, q61, q64, q67, q70, q73, q76, q79, q82, q85, q88, q91, q94, q97, q101, q104, q108, q111, q114, q118, q121, q124, q127, q130, q133, q136, q4, q7, q10, q13, q16, q19, q22, q25, q28, q31, q34, q37, q40, q43, q46, q49, q52, q55, q58]) cI cJ cC zM0) [0, 45, 25, 24, 23, 22, 21, 20, 19, 18, 17, 16, 15, 14, 13, 12, 11, 10, 9, 8, 7, 6, 5, 4, 3, 2, 1, 44, 43, 42, 41, 40, 39, 38, 37, 36, 35, 34, 33, 32, 31, 30, 29, 28, 27, 26] (by decide) rfl
  exact W.vret hx hb hr (fun t ht hW => ⟨⟨(), rfl, trivial, (zad [h0, q1, q61, q64, q67, q70, q73, q76, q79, q82, q85, q88, q91, q94, q97, q101, q104, q108, q111, q114, q118, q121, q124, q127, q130, q133, q136, q4, q7, q10, q13, q16, q19, q22, q25, q28, q31, q34, q37, q40, q43, q46, q49, q52, q55, q58]), rfl, by rw [ht]; exact hP, va_K.moved hW.alike hK, hD⟩, hS.F ht⟩) hS.2.2 dX12_init_700
