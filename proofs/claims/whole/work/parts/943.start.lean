theorem zarr {args : Array Value} {s : State} {ty : FieldType} (harr : (Cond.arrayClass ty).before args s = true) : ∃ cA : ClassId, ArrOfT s cA ty ∧ s.vm.findClass ("[" ++ ty.toString) = some cA := by
  obtain ⟨c, k, comp, h1, h2, h3⟩ := Cond.arrayClass_spec harr
  exact ⟨c, fun n z => ⟨fun k h => (by cases h), k, h2, comp, h3⟩, h1⟩
theorem zT_lw {w : Cond} (h : w ∈ zT) : w ∈ lw_tbl := (List.mem_filter.mp h).1
theorem mwl_cs : (Cond.laysStatic "java/lang/String" "COMPACT_STRINGS" "Z" : Cond) ∈ lw_tbl := List.mem_append_right _ (List.mem_append_left _ (List.mem_of_getElem? (i := 208) rfl))
theorem mwl_sf : (Cond.laysStatic "jdk/internal/util/Preconditions" "SIOOBE_FORMATTER" "Ljava/util/function/BiFunction;" : Cond) ∈ lw_tbl := List.mem_append_right _ (List.mem_append_left _ (List.mem_of_getElem? (i := 224) rfl))
def zTm : Term := .string "TieStreet$Reader" 36
def zEl (j : Nat) : Cond := Cond.eq (.elem (.field zTm "java/lang/String" "value" "[B") (.int (Int32.ofNat j))) (.int (zby j))
set_option maxRecDepth 100000 in
/-- what the Statement gives of the String constant -/
theorem zstr {args : Array Value} {s : State} {A : Nat → Prop} (hts : ∀ w ∈ lw_tbl, w.before args s = true) (hgv : (Jvm.Cond.and given_1 narrow_1).before args s = true) (hA : ∀ a : Nat, a < s.heap.size → ¬ A a) : ∃ qs qv : Nat, vk_R RX5 36 zOWN qs s ∧ zSf qs qv A s s.heap := by
  have hs := flat_of_before _ hgv
  have hel : ∀ j : Nat, j < 85 → (zEl j).before args s = true := by
    intro j hj
    have hall : ∀ j ∈ List.range 85, zEl j ∈ flatC (Jvm.Cond.and given_1 narrow_1) := by decide +kernel
    exact hs _ (hall j (List.mem_range.mpr hj))
  obtain ⟨adK, adV, hV, he⟩ := vk_Sof (args := args) (s := s) (N := 1) (tm := fun _ => zTm) (len := [85]) (byt := [zbyL]) (A := A) (fun i hi => by
      obtain rfl : i = 0 := by omega
      decide)
    (fun i hi => hs (Cond.exactly zTm "java/lang/String") (by decide +kernel))
    (fun i hi => hs (Cond.eq (.field zTm "java/lang/String" "coder" "B") (.int 0)) (by decide +kernel))
    (fun i hi => hs (Cond.arrayOf (.field zTm "java/lang/String" "value" "[B") .byte) (by decide +kernel))
    (fun i hi => by
      obtain rfl : i = 0 := by omega
      exact hs (Cond.eq (.length (.field zTm "java/lang/String" "value" "[B")) (.int (Int32.ofNat 85))) (by decide +kernel))
    (fun i hi j hj => by
      obtain rfl : i = 0 := by omega
      exact hel j hj)
    (fun i j hi hj hij => absurd (by omega : i = j) hij) hA
  obtain ⟨h1, h2, h3, h4⟩ := hV.1 0 (by decide)
  have hcs : (Cond.eq (.static "java/lang/String" "COMPACT_STRINGS" "Z") (.int 1)).before args s = true := hs _ (by decide +kernel)
  have hsf : (Cond.isRef (.static "jdk/internal/util/Preconditions" "SIOOBE_FORMATTER" "Ljava/util/function/BiFunction;")).before args s = true := hs _ (by decide +kernel)
  refine ⟨adK 0, adV 0, ?_, h1, h2, h3, h4, va_Zof (hts _ mwl_cs) (hts _ (zT_lw mw_8)) (va_eqi hcs) hA, va_Zqof (hts _ mwl_sf) (hts _ (zT_lw mw_10)) hsf hA⟩
  have h5 : (Term.string RX5 36).eval args s none [] s = some (.ref (adK 0)) := he 0 (by decide)
  exact vk_R.of (hts _ mws_own) h5
/-- what is owed of numbers alone: on every script of at most 3072 ints class and reference answer alike -/
def zlaw (N L : Nat) (xs : Nat → Int32) : Prop := w_X11_init N (fun σ => w_law N L xs N 0 σ zM0)
theorem zaddr {w : va_W} {n : Nat} {ad : Nat → Nat} (hw : w.map (fun q => q.1) = (List.range n).map ad) {k : Nat} (hk : k < n) : ∃ q ∈ w, q.1 = ad k := by
  have h : ad k ∈ w.map (fun q => q.1) := by rw [hw]; exact List.mem_map.mpr ⟨k, List.mem_range.mpr hk, rfl⟩
  obtain ⟨q, h1, h2⟩ := List.mem_map.mp h
  exact ⟨q, h1, h2⟩
set_option maxHeartbeats 8000000 in
set_option maxRecDepth 100000 in
/-- the law from its entry, open in what is owed of numbers -/
theorem whole_start_open (N : Nat) (hpure : ∀ (L : Nat) (xs : Nat → Int32), L ≤ 3072 → zlaw N L xs) {p : Program} {e : Env} {s : State} {m : MethodId} {below : List Frame} {meth : Method} {c : Code} (l : Launch) {b L : Nat} {xs : Nat → Int32} (hL : L ≤ 3072) (C0 : lw_At p s m meth c b L xs) : W p l e room_1 s m #[Value.ref b] below meth c s.heap [] 0 0 (lw_Z below #[Value.ref b] s) (entryFrame m ([Value.ref b] : List Value).toArray 4) := by
  obtain ⟨hx, hb, hr, hml, hown, hts0, hX, hbl, hlocks, hgv⟩ := id C0
  have hts := lw_hts hts0
  have hA : ∀ q : Nat, s.heap.size ≤ q → (fun q : Nat => s.heap.size ≤ q) q := fun _ h => h
  have hbA : ¬ (fun q : Nat => s.heap.size ≤ q) b := Nat.not_le.mpr hbl
  obtain ⟨c0, iS0, hKn0⟩ := u_known (C := RX0) (T := TX0) (N := 9) (n := 9) hts0 (fun w h => zT_lw (inX0 w h)) (hts0 _ (zT_lw mw_212))
  obtain ⟨c1, iS1, hKn1⟩ := u_known (C := RX1) (T := TX1) (N := 3) (n := 3) hts0 (fun w h => zT_lw (inX1 w h)) (hts0 _ (zT_lw mw_257))
  obtain ⟨c2, iS2, hKn2⟩ := u_known (C := RX2) (T := TX2) (N := 2) (n := 2) hts0 (fun w h => zT_lw (inX2 w h)) (hts0 _ (zT_lw mw_249))
  obtain ⟨c3, iS3, hKn3⟩ := u_known (C := RX3) (T := TX3) (N := 3) (n := 3) hts0 (fun w h => zT_lw (inX3 w h)) (hts0 _ (zT_lw mw_40))
  obtain ⟨c4, iS4, hKn4⟩ := u_known (C := RX4) (T := TX4) (N := 8) (n := 8) hts0 (fun w h => zT_lw (inX4 w h)) (hts0 _ (zT_lw mw_59))
  obtain ⟨c5, iS5, hKn5⟩ := u_known (C := RX5) (T := TX5) (N := 14) (n := 14) hts0 (fun w h => zT_lw (inX5 w h)) (hts0 _ (zT_lw mw_107))
  obtain ⟨c6, iS6, hKn6⟩ := u_known (C := RX6) (T := TX6) (N := 10) (n := 10) hts0 (fun w h => zT_lw (inX6 w h)) (hts0 _ (zT_lw mw_88))
  obtain ⟨c7, iS7, hKn7⟩ := u_known (C := RX7) (T := TX7) (N := 2) (n := 2) hts0 (fun w h => zT_lw (inX7 w h)) (hts0 _ (zT_lw mw_31))
  obtain ⟨c8, iS8, hKn8⟩ := u_known (C := RX8) (T := TX8) (N := 7) (n := 7) hts0 (fun w h => zT_lw (inX8 w h)) (hts0 _ (zT_lw mw_113))
  obtain ⟨c9, iS9, hKn9⟩ := u_known (C := RX9) (T := TX9) (N := 7) (n := 7) hts0 (fun w h => zT_lw (inX9 w h)) (hts0 _ (zT_lw mw_233))
  obtain ⟨c10, iS10, hKn10⟩ := u_known (C := RX10) (T := TX10) (N := 10) (n := 10) hts0 (fun w h => zT_lw (inX10 w h)) (hts0 _ (zT_lw mw_194))
  obtain ⟨c11, iS11, hKn11⟩ := u_known (C := RX11) (T := TX11) (N := 17) (n := 17) hts0 (fun w h => zT_lw (inX11 w h)) (hts0 _ (zT_lw mw_24))
  obtain ⟨c12, iS12, hKn12⟩ := u_known (C := RX12) (T := TX12) (N := 83) (n := 83) hts0 (fun w h => zT_lw (inX12 w h)) (hts0 _ (zT_lw mw_827))
  obtain ⟨dC, dI, hKc⟩ : ∃ (dC : Nat → ClassId) (dI : Nat → Nat → Nat), ∀ (k : Nat) (q : vw_C), vwCl[k]? = some q → u_Kn s q.1 q.2.1 q.2.2 (dC k) (dI k) := by
    refine ⟨fun k => if k = 0 then c0 else if k = 1 then c1 else if k = 2 then c2 else if k = 3 then c3 else if k = 4 then c4 else if k = 5 then c5 else if k = 6 then c6 else if k = 7 then c7 else if k = 8 then c8 else if k = 9 then c9 else if k = 10 then c10 else if k = 11 then c11 else c12, fun k => if k = 0 then iS0 else if k = 1 then iS1 else if k = 2 then iS2 else if k = 3 then iS3 else if k = 4 then iS4 else if k = 5 then iS5 else if k = 6 then iS6 else if k = 7 then iS7 else if k = 8 then iS8 else if k = 9 then iS9 else if k = 10 then iS10 else if k = 11 then iS11 else iS12, ?_⟩
    intro k q hq
    match k, hq with
    | 0, hq => cases hq; exact hKn0
    | 1, hq => cases hq; exact hKn1
    | 2, hq => cases hq; exact hKn2
    | 3, hq => cases hq; exact hKn3
    | 4, hq => cases hq; exact hKn4
    | 5, hq => cases hq; exact hKn5
    | 6, hq => cases hq; exact hKn6
    | 7, hq => cases hq; exact hKn7
    | 8, hq => cases hq; exact hKn8
    | 9, hq => cases hq; exact hKn9
    | 10, hq => cases hq; exact hKn10
    | 11, hq => cases hq; exact hKn11
    | 12, hq => cases hq; exact hKn12
    | k + 13, hq => simp [vwCl] at hq
  obtain ⟨cI, aI1, aI2⟩ := zarr (ty := .int) (hts0 _ (zT_lw mw_38))
  obtain ⟨cJ, aJ1, aJ2⟩ := zarr (ty := .long) (hts0 _ (zT_lw mw_57))
  obtain ⟨cC, aC1, aC2⟩ := zarr (ty := .char) (hts0 _ (zT_lw mw_916))
  have hK : va_K (dC, dI) vwCl (m_ty cI cJ cC) s := by
    refine ⟨hKc, fun k q h => ?_⟩
    match k, h with
    | 0, h => cases h; exact ⟨aI1, aI2⟩
    | 1, h => cases h; exact ⟨aJ1, aJ2⟩
    | 2, h => cases h; exact ⟨aC1, aC2⟩
    | k + 3, h => simp [m_ty] at h
  obtain ⟨qs, qv, hRs, hFs⟩ := zstr (A := fun q : Nat => s.heap.size ≤ q) hts0 hgv (fun a h h2 => absurd h (Nat.not_lt.mpr h2))
  have hn_9 : va_Nw (.methodLinkNest RX11 9 yX7_init "TieStreet") s := va_Nw.of rfl (hts0 _ mwn_9)
  have hn_34 : va_Nw (.methodLinkNest RX11 34 yX6_init "TieStreet") s := va_Nw.of rfl (hts0 _ mwn_34)
  have hn_77 : va_Nw (.methodLinkNest RX11 77 yX2_init "TieStreet") s := va_Nw.of rfl (hts0 _ mwn_77)
  have hS : va_S (fun q : Nat => s.heap.size ≤ q) s.heap s.heap [] := va_S.rf
  have hP : va_P (dC, dI) vwCl [] s.heap := fun k q h => by simp at h
  have hD : va_D (fun q : Nat => s.heap.size ≤ q) [] := ⟨fun i j p q h => by simp at h, fun k q h => by simp at h⟩
  have hl := lv_entry ([.ref b]) (n := 4) (Nat.le_of_ble_eq_true rfl)
  rw [lg_entry_eq]
  generalize (lg_sl ([.ref b]) ++ List.replicate (4 - (lg_sl ([.ref b])).length) Slot.unset).toArray = ls at hl ⊢
  have hl : lv_has ls 4 [(0, .ref b)] := hl
  refine va_new (ci := 11) (fs := [.null, .null, .null, .null, .null, .null, .null, .null, .null, .null, .null, .null, .null, .null, .null, .long 0, .long 0]) (C := RX11) (T := TX11) (N := 17) hx hb hts (fun w h => List.mem_cons_of_mem _ (inX11 w h)) tyX11 tyX11_ok hown (hts _ (List.mem_cons_of_mem _ mw_23)) (hts _ (List.mem_cons_of_mem _ mw_24)) (hts _ (List.mem_cons_of_mem _ mw_1)) hK hP hD hS hA rfl (fun j hj => by rcases (show j = 0 ∨ j = 1 ∨ j = 2 ∨ j = 3 ∨ j = 4 ∨ j = 5 ∨ j = 6 ∨ j = 7 ∨ j = 8 ∨ j = 9 ∨ j = 10 ∨ j = 11 ∨ j = 12 ∨ j = 13 ∨ j = 14 ∨ j = 15 ∨ j = 16 by omega) with rfl | rfl | rfl | rfl | rfl | rfl | rfl | rfl | rfl | rfl | rfl | rfl | rfl | rfl | rfl | rfl | rfl <;> rfl) (Nat.le_of_ble_eq_true rfl) (Nat.le_of_ble_eq_true rfl) dL_law_0 (fun q0 H hP hD hS => ?_)
  have hP : va_P (dC, dI) vwCl ([(q0, .inr (11, [.null, .null, .null, .null, .null, .null, .null, .null, .null, .null, .null, .null, .null, .null, .null, .long 0, .long 0]))] ++ []) H := hP
  have hD : va_D (fun q : Nat => s.heap.size ≤ q) ([(q0, .inr (11, [.null, .null, .null, .null, .null, .null, .null, .null, .null, .null, .null, .null, .null, .null, .null, .long 0, .long 0]))] ++ []) := hD
  refine lv_dup hx hb dL_law_3 rfl ?_
  have hPc := zP_left hP
  have hDc := zD_left hD
  have hFc := zfree hD hS hA
  have h := hpure L xs hL
  unfold zlaw at h
  refine va_callv (va_runI (As := []) (rest := [.ref q0]) ⟨hx, hb, hml, hown, hts⟩ (c_X11_init l dC dI cI cJ cC q0 qs qv H.size N _ h) (cwI 0 hts (zG (u := []) (fun w h => absurd h List.not_mem_nil) mw_27) rfl rfl rfl (hts _ (List.mem_cons_of_mem _ mw_1)) (hts _ (List.mem_cons_of_mem _ mw_25)) (hts _ (List.mem_cons_of_mem _ mw_26)) rfl (by decide +kernel) ⟨Nat.le_of_ble_eq_true rfl, Nat.le_of_ble_eq_true rfl⟩) ⟨fun a U g mk q => by obtain ⟨q0, q1, qP, qK, qD, qR, qF, n1, n2, n3⟩ := q; exact ⟨q0, q1, qP, va_K.moved (u := U) (U := U.calling g mk a) (Vm.Alike.refl U.vm) qK, qD, vk_R.same (u := U) rfl qR, zSf.moved (u := U) (U := U.calling g mk a) (Vm.Alike.refl U.vm) qF, va_Nw.same rfl (u := U) rfl n1, va_Nw.same rfl (u := U) rfl n2, va_Nw.same rfl (u := U) rfl n3⟩, fun U hU hW => ⟨rfl, by rw [hU], by rw [hU]; exact hPc, va_K.moved hW.alike hK, hDc.weaken (fun _ _ _ _ => trivial), vk_R.warm hW hRs, by rw [hU]; exact zSf.moved hW.alike ((hFs.kept (fun a h9 h8 => hS.2.1 a h9 h8)).narrow hFc), va_Nw.warmM hW hn_9, va_Nw.warmM hW hn_34, va_Nw.warmM hW hn_77⟩⟩ rfl rfl hl.1 rfl (lv_room (Nat.le_of_ble_eq_true rfl)) dL_law_4 ⟨Nat.le_of_ble_eq_true rfl, Nat.le_of_ble_eq_true rfl⟩) hS (fun q _ h => hFc q h) hFc (fun σ t H1 locs ht hvm hw hB hz1 hk1 hS => ?_)
  obtain ⟨adx, rfl, hP1, hK1, hD1⟩ := hB
  rw [ht] at hP1
  obtain ⟨hP, hD⟩ := zjoin hP hD hk1 hFc hP1 hD1
  generalize H1 = H at hP hS ⊢
  clear hP1 hD1 hK1 hPc hDc hFc hk1 hz1
  have h := hw
  have hP : va_P (dC, dI) vwCl (x_W adx cI cJ σ ++ []) H := hP
  refine lv_astore_n (lv' := [(1, .ref (adx 0)), (0, .ref b)]) hx hb dL_law_7 rfl hl (by decide) rfl (fun ls hl => ?_)
  refine va_new (ci := 12) (fs := [.null, .int 0, .int 0, .int 0, .int 0, .int 0, .int 0, .int 0, .int 0, .null, .null, .null, .null, .null, .null, .null, .null, .null, .null, .null, .null, .null, .null, .null, .null, .null, .null, .null, .int 0, .null, .null, .null, .null, .null, .null, .null, .null, .null, .null, .null, .null, .int 0, .null, .int 0, .int 0, .int 0, .int 0, .long 0, .int 0, .long 0, .null, .null, .int 0, .int 0, .int 0, .null, .int 0, .int 0, .null, .null, .int 0, .int 0, .long 0, .int 0, .int 0, .long 0, .null, .null, .long 0, .int 0, .int 0, .int 0, .long 0, .int 0, .null, .null, .int 0, .null, .null, .int 0, .long 0, .null, .int 0]) (C := RX12) (T := TX12) (N := 83) hx hb hts (fun w h => List.mem_cons_of_mem _ (inX12 w h)) tyX12 tyX12_ok hown (hts _ (List.mem_cons_of_mem _ mw_826)) (hts _ (List.mem_cons_of_mem _ mw_827)) (hts _ (List.mem_cons_of_mem _ mw_18)) hK hP hD hS hA rfl (fun j hj => by rcases (show j = 0 ∨ j = 1 ∨ j = 2 ∨ j = 3 ∨ j = 4 ∨ j = 5 ∨ j = 6 ∨ j = 7 ∨ j = 8 ∨ j = 9 ∨ j = 10 ∨ j = 11 ∨ j = 12 ∨ j = 13 ∨ j = 14 ∨ j = 15 ∨ j = 16 ∨ j = 17 ∨ j = 18 ∨ j = 19 ∨ j = 20 ∨ j = 21 ∨ j = 22 ∨ j = 23 ∨ j = 24 ∨ j = 25 ∨ j = 26 ∨ j = 27 ∨ j = 28 ∨ j = 29 ∨ j = 30 ∨ j = 31 ∨ j = 32 ∨ j = 33 ∨ j = 34 ∨ j = 35 ∨ j = 36 ∨ j = 37 ∨ j = 38 ∨ j = 39 ∨ j = 40 ∨ j = 41 ∨ j = 42 ∨ j = 43 ∨ j = 44 ∨ j = 45 ∨ j = 46 ∨ j = 47 ∨ j = 48 ∨ j = 49 ∨ j = 50 ∨ j = 51 ∨ j = 52 ∨ j = 53 ∨ j = 54 ∨ j = 55 ∨ j = 56 ∨ j = 57 ∨ j = 58 ∨ j = 59 ∨ j = 60 ∨ j = 61 ∨ j = 62 ∨ j = 63 ∨ j = 64 ∨ j = 65 ∨ j = 66 ∨ j = 67 ∨ j = 68 ∨ j = 69 ∨ j = 70 ∨ j = 71 ∨ j = 72 ∨ j = 73 ∨ j = 74 ∨ j = 75 ∨ j = 76 ∨ j = 77 ∨ j = 78 ∨ j = 79 ∨ j = 80 ∨ j = 81 ∨ j = 82 by omega) with rfl | rfl | rfl | rfl | rfl | rfl | rfl | rfl | rfl | rfl | rfl | rfl | rfl | rfl | rfl | rfl | rfl | rfl | rfl | rfl | rfl | rfl | rfl | rfl | rfl | rfl | rfl | rfl | rfl | rfl | rfl | rfl | rfl | rfl | rfl | rfl | rfl | rfl | rfl | rfl | rfl | rfl | rfl | rfl | rfl | rfl | rfl | rfl | rfl | rfl | rfl | rfl | rfl | rfl | rfl | rfl | rfl | rfl | rfl | rfl | rfl | rfl | rfl | rfl | rfl | rfl | rfl | rfl | rfl | rfl | rfl | rfl | rfl | rfl | rfl | rfl | rfl | rfl | rfl | rfl | rfl | rfl | rfl <;> rfl) (Nat.le_of_ble_eq_true rfl) (Nat.le_of_ble_eq_true rfl) dL_law_8 (fun q1 H hP hD hS => ?_)
  have hpm := zrot (x_W adx cI cJ σ ++ []) [(q1, .inr (12, [.null, .int 0, .int 0, .int 0, .int 0, .int 0, .int 0, .int 0, .int 0, .null, .null, .null, .null, .null, .null, .null, .null, .null, .null, .null, .null, .null, .null, .null, .null, .null, .null, .null, .int 0, .null, .null, .null, .null, .null, .null, .null, .null, .null, .null, .null, .null, .int 0, .null, .int 0, .int 0, .int 0, .int 0, .long 0, .int 0, .long 0, .null, .null, .int 0, .int 0, .int 0, .null, .int 0, .int 0, .null, .null, .int 0, .int 0, .long 0, .int 0, .int 0, .long 0, .null, .null, .long 0, .int 0, .int 0, .int 0, .long 0, .int 0, .null, .null, .int 0, .null, .null, .int 0, .long 0, .null, .int 0]))]
  have hP := zP_perm hpm hP
  have hD := zD_perm hpm hD
  refine lv_dup hx hb dL_law_11 rfl ?_
  have hPc := zP_left hP
  have hDc := zD_left hD
  have hFc := zfree hD hS hA
  refine va_callv (va_runI (As := []) (rest := [.ref q1]) ⟨hx, hb, hml, hown, hts⟩ (c_X12_init l dC dI cI cJ cC q1 H.size) (cwI 0 hts (zG (u := []) (fun w h => absurd h List.not_mem_nil) mw_830) rfl rfl rfl (hts _ (List.mem_cons_of_mem _ mw_18)) (hts _ (List.mem_cons_of_mem _ mw_828)) (hts _ (List.mem_cons_of_mem _ mw_829)) rfl (by decide +kernel) ⟨Nat.le_of_ble_eq_true rfl, Nat.le_of_ble_eq_true rfl⟩) ⟨fun a U g mk q => by obtain ⟨q0, q1, qP, qK, qD⟩ := q; exact ⟨q0, q1, qP, va_K.moved (u := U) (U := U.calling g mk a) (Vm.Alike.refl U.vm) qK, qD⟩, fun U hU hW => ⟨rfl, by rw [hU], by rw [hU]; exact hPc, va_K.moved hW.alike hK, hDc.weaken (fun _ _ _ _ => trivial)⟩⟩ rfl rfl hl.1 rfl (lv_room (Nat.le_of_ble_eq_true rfl)) dL_law_12 ⟨Nat.le_of_ble_eq_true rfl, Nat.le_of_ble_eq_true rfl⟩) hS (fun q _ h => hFc q h) hFc (fun u t H1 locs ht hvm hw hB hz1 hk1 hS => ?_)
  obtain ⟨adm, rfl, hP1, hK1, hD1⟩ := hB
  rw [ht] at hP1
  obtain ⟨hP, hD⟩ := zjoin hP hD hk1 hFc hP1 hD1
  generalize H1 = H at hP hS ⊢
  have hPm := zP_left hP
  have hDm := zD_left hD
  have hPx := zP_left (zP_left (zP_perm (zrot _ _) hP))
  have hDx := zD_left (zD_left (zD_perm (zrot _ _) hD))
  have hdis : ∀ j k, j < x_n → k < m_n → adx j ≠ adm k := by
    intro j k hj hk e
    have hx1 := zaddr (w := x_W adx cI cJ σ) (n := x_n) (ad := adx) rfl hj
    have hm1 := zaddr (w := m_W adm cI cJ cC zM0) (n := m_n) (ad := adm) rfl hk
    obtain ⟨a, ha, ea⟩ := hx1
    obtain ⟨b2, hb2, eb⟩ := hm1
    exact (List.pairwise_append.mp (zD_iff.mp hD).1).2.2 b2 hb2 a (List.mem_append_left _ ha) (eb.trans (e.symm.trans ea.symm))
  refine lv_astore_n (lv' := [(2, .ref (adm 0)), (1, .ref (adx 0)), (0, .ref b)]) hx hb dL_law_15 rfl hl (by decide) rfl (fun ls hl => ?_)
  refine lv_iconst (v := (0 : Int32)) hx hb dL_law_16 (by decide) ?_
  refine lv_istore_n (lv' := [(3, .int (0 : Int32)), (2, .ref (adm 0)), (1, .ref (adx 0)), (0, .ref b)]) hx hb dL_law_17 rfl hl (by decide) rfl (fun ls hl => ?_)
  exact t_law C0 hK hdis N N 0 σ zM0 _ _ _ h hPx hDx hPm hDm hS (lv_sub hl [3, 2, 1, 0] rfl)
