/-! The state of one side: int fields, long fields, int arrays, long arrays, each by its number. -/
abbrev zSt : Type := (Nat → Int32) × (Nat → Int64) × (Nat → Nat → Int32) × (Nat → Nat → Int64)
def zI (σ : zSt) (k : Nat) (v : Int32) : zSt := (va_up σ.1 k v, σ.2)
def zJ (σ : zSt) (k : Nat) (v : Int64) : zSt := (σ.1, va_up σ.2.1 k v, σ.2.2)
def zA (σ : zSt) (k : Nat) (f : Nat → Int32) : zSt := (σ.1, σ.2.1, va_up σ.2.2.1 k f, σ.2.2.2)
def zB (σ : zSt) (k : Nat) (f : Nat → Int64) : zSt := (σ.1, σ.2.1, σ.2.2.1, va_up σ.2.2.2 k f)
/-- the addresses of a side's n cells, and all that are new -/
def zAW (n : Nat) (ad : Nat → Nat) (sz : Nat) : Nat → Prop := fun q => (∃ k, k < n ∧ q = ad k) ∨ sz ≤ q
theorem zAW_mono {n : Nat} {ad : Nat → Nat} {a b : Nat} (h : a ≤ b) : ∀ q, zAW n ad b q → zAW n ad a q := fun _ h1 => h1.elim Or.inl (fun h2 => Or.inr (Nat.le_trans h h2))
/-- a boolean is 0 or 1 -/
def zb (v : Int32) : Prop := narrow .boolean (.int v) = .int v ∧ fits .boolean (.int v) = true
theorem zb_0 : zb 0 := ⟨rfl, rfl⟩
theorem zb_1 : zb 1 := ⟨rfl, rfl⟩
theorem zin {i : Int32} {n : Nat} (h : (decide (i < 0) || Nat.ble n i.toNatClampNeg) = false) : vp_in i n := by
  intro h2
  rcases h2 with h2 | h2
  · simp [h2] at h
  · have h3 := Nat.ble_eq_true_of_le h2
    simp [h3] at h
/-- what a method finds, and what it leaves: the side's cells -/
def zPc (D : va_G) (tys : List (ClassId × FieldType)) (wd : zSt → va_W) (sz : Nat) (σ : zSt) : State → Prop := fun U => U.heap.size = sz ∧ va_P D vwCl (wd σ) U.heap ∧ va_K D vwCl tys U ∧ va_D (fun _ => True) (wd σ)
def zB2 (D : va_G) (tys : List (ClassId × FieldType)) (wd : zSt → va_W) (A : Nat → Prop) (u : zSt) (t : State) : Prop := va_P D vwCl (wd u) t.heap ∧ va_K D vwCl tys t ∧ va_D A (wd u)
abbrev zQi (D : va_G) (tys : List (ClassId × FieldType)) (wd : zSt → va_W) (A : Nat → Prop) (Q : Int32 → zSt → Prop) := va_Qi Q (zB2 D tys wd A) A
abbrev zQl (D : va_G) (tys : List (ClassId × FieldType)) (wd : zSt → va_W) (A : Nat → Prop) (Q : Int64 → zSt → Prop) := va_Ql Q (zB2 D tys wd A) A
abbrev zQv (D : va_G) (tys : List (ClassId × FieldType)) (wd : zSt → va_W) (A : Nat → Prop) (Q : zSt → Prop) := va_Qv Q (zB2 D tys wd A) A
/-- what a method stands on -/
def zCx (p : Program) (s : State) (m : MethodId) (meth : Method) (c : Code) (args : Array Value) (own : String) (cc : ByteArray) (nL : Nat) (rt : Option FieldType) (Ts : List Cond) : Prop :=
  p.tables.exec = Jvm.exec ∧ c.code = cc ∧ c.maxLocals = nL ∧ meth.sig.returnType = rt ∧ s.vm.findClass own = some m.cls ∧ (∀ w ∈ Ts, w.before args s = true) ∧ meth.locks = false
section zz
variable {p : Program} {l : Launch} {e : Env} {R : Room} {s : State} {m : MethodId} {args : Array Value} {below : List Frame} {meth : Method} {c : Code} {H : Heap} {locs : List Loc} {Q2 : State → Prop} {D : va_G} {tys : List (ClassId × FieldType)} {wd : zSt → va_W} {n0 : Nat} {ad : Nat → Nat} {cc : ByteArray} {pc : Nat} {ls : Array Slot} {rest : List Value} {σ : zSt} {cells slots : Nat}
theorem zPc_blind {sz : Nat} {vs : List Value} : FrameBlind (va_Pc vs (zPc D tys wd sz σ)) := fun a U g mk q => by
  obtain ⟨q0, q1, qP, qK, qD⟩ := q
  exact ⟨q0, q1, qP, va_K.moved (u := U) (U := U.calling g mk a) (Vm.Alike.refl U.vm) qK, qD⟩
theorem zret_i {Q : Int32 → zSt → Prop} {r : Int32} (hx : p.tables.exec = Jvm.exec) (hb : c.code = cc) (hr : meth.sig.returnType = some .int) (hlocks : meth.locks = false) (hK : va_K D vwCl tys s) (hP : va_P D vwCl (wd σ) H) (hD : va_D (zAW n0 ad s.heap.size) (wd σ)) (hS : va_S (zAW n0 ad s.heap.size) s.heap H locs) (h : Q r σ) (hdg : decode cc pc = .ok (.ireturn, 1)) :
    W p l e R s m args below meth c H locs cells slots (MQ below (zQi D tys wd (zAW n0 ad s.heap.size) Q) args s cells slots (zAW n0 ad s.heap.size)) (F0 m pc ls [.int r]) :=
  W.iret (v := r) hx hb hr (fun t ht hW => ⟨⟨r, σ, rfl, h, by rw [ht]; exact hP, va_K.moved hW.alike hK, hD⟩, hS.F ht⟩) hS.2.2 hdg hlocks
theorem zret_z {Q : Int32 → zSt → Prop} {r : Int32} (hx : p.tables.exec = Jvm.exec) (hb : c.code = cc) (hr : meth.sig.returnType = some .boolean) (hlocks : meth.locks = false) (hK : va_K D vwCl tys s) (hP : va_P D vwCl (wd σ) H) (hD : va_D (zAW n0 ad s.heap.size) (wd σ)) (hS : va_S (zAW n0 ad s.heap.size) s.heap H locs) (hz : zb r) (h : Q r σ) (hdg : decode cc pc = .ok (.ireturn, 1)) :
    W p l e R s m args below meth c H locs cells slots (MQ below (zQi D tys wd (zAW n0 ad s.heap.size) Q) args s cells slots (zAW n0 ad s.heap.size)) (F0 m pc ls [.int r]) :=
  W.zret (v := r) hx hb hr hz.1 (fun t ht hW => ⟨⟨r, σ, rfl, h, by rw [ht]; exact hP, va_K.moved hW.alike hK, hD⟩, hS.F ht⟩) hS.2.2 hdg hlocks
theorem zret_l {Q : Int64 → zSt → Prop} {r : Int64} (hx : p.tables.exec = Jvm.exec) (hb : c.code = cc) (hr : meth.sig.returnType = some .long) (hlocks : meth.locks = false) (hK : va_K D vwCl tys s) (hP : va_P D vwCl (wd σ) H) (hD : va_D (zAW n0 ad s.heap.size) (wd σ)) (hS : va_S (zAW n0 ad s.heap.size) s.heap H locs) (h : Q r σ) (hdg : decode cc pc = .ok (.lreturn, 1)) :
    W p l e R s m args below meth c H locs cells slots (MQ below (zQl D tys wd (zAW n0 ad s.heap.size) Q) args s cells slots (zAW n0 ad s.heap.size)) (F0 m pc ls [.long r]) :=
  W.lret (v := r) hx hb hr (fun t ht hW => ⟨⟨r, σ, rfl, h, by rw [ht]; exact hP, va_K.moved hW.alike hK, hD⟩, hS.F ht⟩) hS.2.2 hdg hlocks
theorem zret_v {Q : zSt → Prop} (hx : p.tables.exec = Jvm.exec) (hb : c.code = cc) (hr : meth.sig.returnType = none) (hlocks : meth.locks = false) (hK : va_K D vwCl tys s) (hP : va_P D vwCl (wd σ) H) (hD : va_D (zAW n0 ad s.heap.size) (wd σ)) (hS : va_S (zAW n0 ad s.heap.size) s.heap H locs) (h : Q σ) (hdg : decode cc pc = .ok (.return_, 1)) :
    W p l e R s m args below meth c H locs cells slots (MQ below (zQv D tys wd (zAW n0 ad s.heap.size) Q) args s cells slots (zAW n0 ad s.heap.size)) (F0 m pc ls []) :=
  W.vret hx hb hr (fun t ht hW => ⟨⟨σ, rfl, h, by rw [ht]; exact hP, va_K.moved hW.alike hK, hD⟩, hS.F ht⟩) hS.2.2 hdg hlocks
variable {y : MethodName} {bytes : ByteArray} {maxL nL n index : Nat} {ret : Option FieldType} {ws : List Cond} {rm : Room} {Ts : List Cond} {own C : String} {T : u_T} {N' ci k : Nat} {fs : List Value}
theorem zD_in {A B : Nat → Prop} {w : va_W} (h : va_D A w) (hAB : ∀ q, A q → B q) : va_D B w := h.weaken (fun _ q _ h => hAB q.1 h)
theorem zcv_i {Q : Int32 → zSt → Prop} (As : List Value) (S : CallFix p m c cc nL s args Ts own) (hM : Met l y ws rm (va_Pc (.ref (ad k) :: As) (zPc D tys wd H.size σ)) (zQi D tys wd (zAW n0 ad H.size) Q) 0 0 (zAW n0 ad H.size)) (cw : CallW R s args own C index y bytes maxL ret ws rm 0 0 n) (hc : vwCl[ci]? = some (C, T, N')) (he : (wd σ)[k]? = some (ad k, .inr (ci, fs))) (hK : va_K D vwCl tys s) (hP : va_P D vwCl (wd σ) H) (hD : va_D (zAW n0 ad s.heap.size) (wd σ)) (hS : va_S (zAW n0 ad s.heap.size) s.heap H locs) (hn : As.length = n) (hsz : ls.size = nL) (hW : (rest.map fun v => v.category).sum ≤ 8) {st : List Value} (hst : st = As.reverse ++ .ref (ad k) :: rest) (hcs : cells ≤ R.cells ∧ slots ≤ R.slots) (hdg : decode cc pc = .ok (.invokevirtual index, 3))
    (kk : ∀ (r : Int32) (τ : zSt) (H1 : Heap) (locs1 : List Loc), Q r τ → va_P D vwCl (wd τ) H1 → va_D (zAW n0 ad s.heap.size) (wd τ) → va_S (zAW n0 ad s.heap.size) s.heap H1 locs1 → W p l e R s m args below meth c H1 locs1 cells slots Q2 (F0 m (pc + 3) ls (.int r :: rest))) :
    W p l e R s m args below meth c H locs cells slots Q2 (F0 m pc ls st) :=
  va_calli (va_runV (As := As) (rest := rest) S hM cw ⟨zPc_blind, va_recv hK hP hc he, fun U hU hW => ⟨rfl, by rw [hU], by rw [hU]; exact hP, va_K.moved hW.alike hK, hD.weaken (fun _ _ _ _ => trivial)⟩⟩ rfl hn hsz hst (lv_room hW) hdg hcs) hS (fun q _ h => zAW_mono hS.1 q h) (zAW_mono hS.1) (fun r u t H1 locs1 ht hvm hw hB hz1 hk1 hS1 => kk r u H1 locs1 hw (by rw [← ht]; exact hB.1) (zD_in hB.2.2 (zAW_mono hS.1)) hS1)
theorem zcv_l {Q : Int64 → zSt → Prop} (As : List Value) (S : CallFix p m c cc nL s args Ts own) (hM : Met l y ws rm (va_Pc (.ref (ad k) :: As) (zPc D tys wd H.size σ)) (zQl D tys wd (zAW n0 ad H.size) Q) 0 0 (zAW n0 ad H.size)) (cw : CallW R s args own C index y bytes maxL ret ws rm 0 0 n) (hc : vwCl[ci]? = some (C, T, N')) (he : (wd σ)[k]? = some (ad k, .inr (ci, fs))) (hK : va_K D vwCl tys s) (hP : va_P D vwCl (wd σ) H) (hD : va_D (zAW n0 ad s.heap.size) (wd σ)) (hS : va_S (zAW n0 ad s.heap.size) s.heap H locs) (hn : As.length = n) (hsz : ls.size = nL) (hW : (rest.map fun v => v.category).sum ≤ 8) {st : List Value} (hst : st = As.reverse ++ .ref (ad k) :: rest) (hcs : cells ≤ R.cells ∧ slots ≤ R.slots) (hdg : decode cc pc = .ok (.invokevirtual index, 3))
    (kk : ∀ (r : Int64) (τ : zSt) (H1 : Heap) (locs1 : List Loc), Q r τ → va_P D vwCl (wd τ) H1 → va_D (zAW n0 ad s.heap.size) (wd τ) → va_S (zAW n0 ad s.heap.size) s.heap H1 locs1 → W p l e R s m args below meth c H1 locs1 cells slots Q2 (F0 m (pc + 3) ls (.long r :: rest))) :
    W p l e R s m args below meth c H locs cells slots Q2 (F0 m pc ls st) :=
  va_calll (va_runV (As := As) (rest := rest) S hM cw ⟨zPc_blind, va_recv hK hP hc he, fun U hU hW => ⟨rfl, by rw [hU], by rw [hU]; exact hP, va_K.moved hW.alike hK, hD.weaken (fun _ _ _ _ => trivial)⟩⟩ rfl hn hsz hst (lv_room hW) hdg hcs) hS (fun q _ h => zAW_mono hS.1 q h) (zAW_mono hS.1) (fun r u t H1 locs1 ht hvm hw hB hz1 hk1 hS1 => kk r u H1 locs1 hw (by rw [← ht]; exact hB.1) (zD_in hB.2.2 (zAW_mono hS.1)) hS1)
theorem zcv_v {Q : zSt → Prop} (As : List Value) (S : CallFix p m c cc nL s args Ts own) (hM : Met l y ws rm (va_Pc (.ref (ad k) :: As) (zPc D tys wd H.size σ)) (zQv D tys wd (zAW n0 ad H.size) Q) 0 0 (zAW n0 ad H.size)) (cw : CallW R s args own C index y bytes maxL ret ws rm 0 0 n) (hc : vwCl[ci]? = some (C, T, N')) (he : (wd σ)[k]? = some (ad k, .inr (ci, fs))) (hK : va_K D vwCl tys s) (hP : va_P D vwCl (wd σ) H) (hD : va_D (zAW n0 ad s.heap.size) (wd σ)) (hS : va_S (zAW n0 ad s.heap.size) s.heap H locs) (hn : As.length = n) (hsz : ls.size = nL) (hW : (rest.map fun v => v.category).sum ≤ 8) {st : List Value} (hst : st = As.reverse ++ .ref (ad k) :: rest) (hcs : cells ≤ R.cells ∧ slots ≤ R.slots) (hdg : decode cc pc = .ok (.invokevirtual index, 3))
    (kk : ∀ (τ : zSt) (H1 : Heap) (locs1 : List Loc), Q τ → va_P D vwCl (wd τ) H1 → va_D (zAW n0 ad s.heap.size) (wd τ) → va_S (zAW n0 ad s.heap.size) s.heap H1 locs1 → W p l e R s m args below meth c H1 locs1 cells slots Q2 (F0 m (pc + 3) ls rest)) :
    W p l e R s m args below meth c H locs cells slots Q2 (F0 m pc ls st) :=
  va_callv (va_runV (As := As) (rest := rest) S hM cw ⟨zPc_blind, va_recv hK hP hc he, fun U hU hW => ⟨rfl, by rw [hU], by rw [hU]; exact hP, va_K.moved hW.alike hK, hD.weaken (fun _ _ _ _ => trivial)⟩⟩ rfl hn hsz hst (lv_room hW) hdg hcs) hS (fun q _ h => zAW_mono hS.1 q h) (zAW_mono hS.1) (fun u t H1 locs1 ht hvm hw hB hz1 hk1 hS1 => kk u H1 locs1 hw (by rw [← ht]; exact hB.1) (zD_in hB.2.2 (zAW_mono hS.1)) hS1)
theorem zcs_i {Q : Int32 → zSt → Prop} (As : List Value) (S : CallFix p m c cc nL s args Ts own) (hM : Met l y ws rm (va_Pc As (zPc D tys wd H.size σ)) (zQi D tys wd (zAW n0 ad H.size) Q) 0 0 (zAW n0 ad H.size)) (cw : CallB R s args own index y bytes maxL ret ws rm 0 0 n ∧ (Cond.static y).before args s = true) (hK : va_K D vwCl tys s) (hP : va_P D vwCl (wd σ) H) (hD : va_D (zAW n0 ad s.heap.size) (wd σ)) (hS : va_S (zAW n0 ad s.heap.size) s.heap H locs) (hn : As.length = n) (hsz : ls.size = nL) (hW : (rest.map fun v => v.category).sum ≤ 8) {st : List Value} (hst : st = As.reverse ++ rest) (hcs : cells ≤ R.cells ∧ slots ≤ R.slots) (hdg : decode cc pc = .ok (.invokestatic index, 3))
    (kk : ∀ (r : Int32) (τ : zSt) (H1 : Heap) (locs1 : List Loc), Q r τ → va_P D vwCl (wd τ) H1 → va_D (zAW n0 ad s.heap.size) (wd τ) → va_S (zAW n0 ad s.heap.size) s.heap H1 locs1 → W p l e R s m args below meth c H1 locs1 cells slots Q2 (F0 m (pc + 3) ls (.int r :: rest))) :
    W p l e R s m args below meth c H locs cells slots Q2 (F0 m pc ls st) :=
  va_calli (va_runS (As := As) (rest := rest) S hM cw ⟨zPc_blind, fun U hU hW => ⟨rfl, by rw [hU], by rw [hU]; exact hP, va_K.moved hW.alike hK, hD.weaken (fun _ _ _ _ => trivial)⟩⟩ rfl hn hsz hst (lv_room hW) hdg hcs) hS (fun q _ h => zAW_mono hS.1 q h) (zAW_mono hS.1) (fun r u t H1 locs1 ht hvm hw hB hz1 hk1 hS1 => kk r u H1 locs1 hw (by rw [← ht]; exact hB.1) (zD_in hB.2.2 (zAW_mono hS.1)) hS1)
theorem zcs_l {Q : Int64 → zSt → Prop} (As : List Value) (S : CallFix p m c cc nL s args Ts own) (hM : Met l y ws rm (va_Pc As (zPc D tys wd H.size σ)) (zQl D tys wd (zAW n0 ad H.size) Q) 0 0 (zAW n0 ad H.size)) (cw : CallB R s args own index y bytes maxL ret ws rm 0 0 n ∧ (Cond.static y).before args s = true) (hK : va_K D vwCl tys s) (hP : va_P D vwCl (wd σ) H) (hD : va_D (zAW n0 ad s.heap.size) (wd σ)) (hS : va_S (zAW n0 ad s.heap.size) s.heap H locs) (hn : As.length = n) (hsz : ls.size = nL) (hW : (rest.map fun v => v.category).sum ≤ 8) {st : List Value} (hst : st = As.reverse ++ rest) (hcs : cells ≤ R.cells ∧ slots ≤ R.slots) (hdg : decode cc pc = .ok (.invokestatic index, 3))
    (kk : ∀ (r : Int64) (τ : zSt) (H1 : Heap) (locs1 : List Loc), Q r τ → va_P D vwCl (wd τ) H1 → va_D (zAW n0 ad s.heap.size) (wd τ) → va_S (zAW n0 ad s.heap.size) s.heap H1 locs1 → W p l e R s m args below meth c H1 locs1 cells slots Q2 (F0 m (pc + 3) ls (.long r :: rest))) :
    W p l e R s m args below meth c H locs cells slots Q2 (F0 m pc ls st) :=
  va_calll (va_runS (As := As) (rest := rest) S hM cw ⟨zPc_blind, fun U hU hW => ⟨rfl, by rw [hU], by rw [hU]; exact hP, va_K.moved hW.alike hK, hD.weaken (fun _ _ _ _ => trivial)⟩⟩ rfl hn hsz hst (lv_room hW) hdg hcs) hS (fun q _ h => zAW_mono hS.1 q h) (zAW_mono hS.1) (fun r u t H1 locs1 ht hvm hw hB hz1 hk1 hS1 => kk r u H1 locs1 hw (by rw [← ht]; exact hB.1) (zD_in hB.2.2 (zAW_mono hS.1)) hS1)
theorem zcs_v {Q : zSt → Prop} (As : List Value) (S : CallFix p m c cc nL s args Ts own) (hM : Met l y ws rm (va_Pc As (zPc D tys wd H.size σ)) (zQv D tys wd (zAW n0 ad H.size) Q) 0 0 (zAW n0 ad H.size)) (cw : CallB R s args own index y bytes maxL ret ws rm 0 0 n ∧ (Cond.static y).before args s = true) (hK : va_K D vwCl tys s) (hP : va_P D vwCl (wd σ) H) (hD : va_D (zAW n0 ad s.heap.size) (wd σ)) (hS : va_S (zAW n0 ad s.heap.size) s.heap H locs) (hn : As.length = n) (hsz : ls.size = nL) (hW : (rest.map fun v => v.category).sum ≤ 8) {st : List Value} (hst : st = As.reverse ++ rest) (hcs : cells ≤ R.cells ∧ slots ≤ R.slots) (hdg : decode cc pc = .ok (.invokestatic index, 3))
    (kk : ∀ (τ : zSt) (H1 : Heap) (locs1 : List Loc), Q τ → va_P D vwCl (wd τ) H1 → va_D (zAW n0 ad s.heap.size) (wd τ) → va_S (zAW n0 ad s.heap.size) s.heap H1 locs1 → W p l e R s m args below meth c H1 locs1 cells slots Q2 (F0 m (pc + 3) ls rest)) :
    W p l e R s m args below meth c H locs cells slots Q2 (F0 m pc ls st) :=
  va_callv (va_runS (As := As) (rest := rest) S hM cw ⟨zPc_blind, fun U hU hW => ⟨rfl, by rw [hU], by rw [hU]; exact hP, va_K.moved hW.alike hK, hD.weaken (fun _ _ _ _ => trivial)⟩⟩ rfl hn hsz hst (lv_room hW) hdg hcs) hS (fun q _ h => zAW_mono hS.1 q h) (zAW_mono hS.1) (fun u t H1 locs1 ht hvm hw hB hz1 hk1 hS1 => kk u H1 locs1 hw (by rw [← ht]; exact hB.1) (zD_in hB.2.2 (zAW_mono hS.1)) hS1)
theorem zG {c0 : Cond} {u : List Cond} {c1 : Cond} (h1 : ∀ w ∈ u, w ∈ zT) (h2 : c1 ∈ zT) : GoodIn (c0 :: zT) (u ++ c1 :: zT) := by
  intro w hw
  have hm : w ∈ zT := by
    rcases List.mem_append.mp hw with h | h
    · exact h1 w h
    · rcases List.mem_cons.mp h with h | h
      · rw [h]; exact h2
      · exact h
  exact ⟨List.mem_cons_of_mem _ hm, good_of_word (List.mem_filter.mp hm).2⟩
theorem zwV {c0 : Cond} (n : Nat) (hts : ∀ w ∈ c0 :: zT, w.before args s = true) (h1 : Cond.methodLink own index y ∈ zT) (h2 : Cond.instanceMethod y ∈ zT) (h3 : Cond.selects C y y ∈ zT) (h4 : Cond.initialized C ∈ zT) (h5 : Cond.code y bytes maxL ret ∈ zT) (hrc : rm.cells = 0) (hrs : rm.slots = 0)
    (hd : y.cls = C ∧ y.cls ≠ "java/lang/invoke/MethodHandle" ∧ y.cls ≠ "java/lang/invoke/VarHandle" ∧ (parseMethodDescriptor y.desc).map (fun d => d.parameters.length) = some n) (hR : rm.frames + 1 ≤ R.frames ∧ 8 + (maxL + 11) + rm.locals ≤ R.locals) :
    CallW R s args own C index y bytes maxL ret (Cond.code y bytes maxL ret :: zT) rm 0 0 n :=
  cwV n hts (zG (u := [.methodLink own index y, .instanceMethod y, .selects C y y, .initialized C]) (fun w h => by
    simp only [List.mem_cons, List.not_mem_nil, or_false] at h
    rcases h with h | h | h | h <;> rw [h] <;> assumption) h5) rfl hrc hrs hd hR
theorem zwS {c0 : Cond} (n : Nat) (hts : ∀ w ∈ c0 :: zT, w.before args s = true) (h1 : Cond.methodLink own index y ∈ zT) (h2 : Cond.static y ∈ zT) (h4 : Cond.initialized y.cls ∈ zT) (h5 : Cond.code y bytes maxL ret ∈ zT) (hrc : rm.cells = 0) (hrs : rm.slots = 0)
    (hd : y.cls ≠ "java/lang/invoke/MethodHandle" ∧ y.cls ≠ "java/lang/invoke/VarHandle" ∧ (parseMethodDescriptor y.desc).map (fun d => d.parameters.length) = some n) (hR : rm.frames + 1 ≤ R.frames ∧ 8 + (maxL + 11) + rm.locals ≤ R.locals) :
    CallB R s args own index y bytes maxL ret (Cond.code y bytes maxL ret :: zT) rm 0 0 n ∧ (Cond.static y).before args s = true :=
  va_cwS n hts (zG (u := [.methodLink own index y, .static y, .initialized y.cls]) (fun w h => by
    simp only [List.mem_cons, List.not_mem_nil, or_false] at h
    rcases h with h | h | h <;> rw [h] <;> assumption) h5) rfl hrc hrs hd hR
end zz
theorem zne {x y : Int32} {k : Int} (hk : y.toInt = k) (h : ¬ x = y) : ¬ x.toInt = k := fun q => h (Int32.toInt_inj.mp (q.trans hk.symm))
theorem zD0 {w : va_W} {n sz : Nat} {ad : Nat → Nat} {B : Nat → Prop} (hw : w.map (fun q => q.1) = (List.range n).map ad) (h : va_D B w) : va_D (zAW n ad sz) w := by
  refine ⟨h.1, fun k q hk => Or.inl ?_⟩
  have h1 : (w.map (fun q => q.1))[k]? = some q.1 := by rw [List.getElem?_map, hk]; rfl
  rw [hw, List.getElem?_map] at h1
  cases h2 : (List.range n)[k]? with
  | none => rw [h2] at h1; cases h1
  | some j =>
    rw [h2] at h1
    have h3 := List.mem_range.mp (List.mem_of_getElem? h2)
    exact ⟨j, h3, (Option.some.inj h1).symm⟩
def rmq_sum (q d : Nat) : Room := { frames := 12 + 4 * d + q, cells := 0, slots := 0, locals := 500 + 120 * d + 30 * q }
def rmq_fact (q d : Nat) : Room := { frames := 70 + 3 * d + q, cells := 0, slots := 0, locals := 2500 + 90 * d + 30 * q }
theorem zW_mono {p : Program} {l : Launch} {e : Env} {R : Room} {s : State} {m : MethodId} {args : Array Value} {below : List Frame} {meth : Method} {c : Code} {H : Heap} {locs : List Loc} {cells slots : Nat} {Q Q' : State → Prop} {g : JFrame} (hq : ∀ t, Q t → Q' t) (h : W p l e R s m args below meth c H locs cells slots Q g) : W p l e R s m args below meth c H locs cells slots Q' g := fun T hT X => by
  obtain ⟨t, h1, h2⟩ := h T hT X
  exact ⟨t, h1, hq t h2⟩
theorem zMQ_mono {below : List Frame} {Qc Qc' : Array Value → State → Outcome → State → Prop} {a : Array Value} {s : State} {mc ms : Nat} {free : Addr → Prop} (hq : ∀ o t, Qc a s o t → Qc' a s o t) : ∀ t, MQ below Qc a s mc ms free t → MQ below Qc' a s mc ms free t := fun t h => by
  obtain ⟨o, h1, h2, h3, h4⟩ := h
  exact ⟨o, h1, h2, hq o t h3, h4⟩
def zad (l : List Nat) (k : Nat) : Nat := l.getD k 0
theorem zA_eq {win w : va_W} {n sz : Nat} {ad : Nat → Nat} (hw : w.map (fun q => q.1) = (List.range n).map ad) (hD : va_D (va_A win sz) w) (hin : ∀ q ∈ win, ∃ j, j < n ∧ q.1 = ad j) : va_A win sz = zAW n ad sz := by
  funext q
  refine propext ⟨fun h => ?_, fun h => ?_⟩
  · rcases h with ⟨k, e, h⟩ | h
    · exact Or.inl (hin _ (List.mem_of_getElem? h))
    · exact Or.inr h
  · rcases h with ⟨k, hk, rfl⟩ | h
    · have h1 : ((List.range n).map ad)[k]? = some (ad k) := by rw [List.getElem?_map, List.getElem?_range hk]; rfl
      rw [← hw, List.getElem?_map] at h1
      cases h2 : w[k]? with
      | none => rw [h2] at h1; cases h1
      | some x =>
        rw [h2] at h1
        have h3 := hD.2 k x h2
        have h4 : x.1 = ad k := Option.some.inj h1
        rw [← h4]
        exact h3
    · exact Or.inr h
section zn
variable {p : Program} {l : Launch} {e : Env} {R : Room} {s : State} {m : MethodId} {args : Array Value} {below : List Frame} {meth : Method} {c : Code} {H H0 : Heap} {locs : List Loc} {cells slots : Nat} {Q : State → Prop} {D : va_G} {cl : List vw_C} {tys : List (ClassId × FieldType)} {ws : va_W} {A : Nat → Prop} {cc : ByteArray} {pc : Nat} {ls : Array Slot} {rest : List Value} {cA : ClassId} {n : Int32} {N' : Nat}
theorem zcls {a b : ClassId} {ty : FieldType} (hty : ∀ C, ty ≠ .object C) (h1 : va_RA s a ty) (h2 : va_RA s b ty) : a = b := by
  cases ty with
  | object C => exact absurd rfl (hty C)
  | _ => exact Option.some.inj (h1.symm.trans h2)
theorem znew_i (hx : p.tables.exec = Jvm.exec) (hb : c.code = cc) (harr : (Cond.arrayClass .int).before args s = true) (hK : va_K D cl tys s) (t0 : Nat) (ht : tys[t0]? = some (cA, .int)) (hP : va_P D cl ws H) (hD : va_D A ws) (hS : va_S A H0 H locs) (hA : ∀ q, H0.size ≤ q → A q) (hn : ¬ n < 0) (hN : n.toNatClampNeg = N') (hbytes : N' * componentBytes .int ≤ 536870912) (hcells : cells + 1 ≤ R.cells) (hslots : slots + N' ≤ R.slots) (hdg : decode cc pc = .ok (.newarray .int, 2))
    (kk : ∀ (q : Nat) (H1 : Heap), va_P D cl (ws ++ [(q, .inl (cA, N', .inl (fun _ => 0)))]) H1 → va_D A (ws ++ [(q, .inl (cA, N', .inl (fun _ => 0)))]) → va_S A H0 H1 locs → W p l e R s m args below meth c H1 locs (cells + 1) (slots + N') Q (F0 m (pc + 2) ls (.ref q :: rest))) : W p l e R s m args below meth c H locs cells slots Q (F0 m pc ls (.int n :: rest)) :=
  va_newa (atype := .int) (ty := .int) (a0 := (N', .inl (fun _ => 0))) hx hb harr rfl hK hP hD hS hA (fun cA => rfl) hn hN hbytes hcells hslots hdg (fun q cB H1 hK1 hP1 hD1 hS1 => by
    have e : cB = cA := zcls (ty := .int) (fun C h => by cases h) (hK1.2 tys.length (cB, .int) (by simp)).2 (hK.2 t0 _ ht).2
    subst e
    exact kk q H1 hP1 hD1 hS1)
theorem znew_l (hx : p.tables.exec = Jvm.exec) (hb : c.code = cc) (harr : (Cond.arrayClass .long).before args s = true) (hK : va_K D cl tys s) (t0 : Nat) (ht : tys[t0]? = some (cA, .long)) (hP : va_P D cl ws H) (hD : va_D A ws) (hS : va_S A H0 H locs) (hA : ∀ q, H0.size ≤ q → A q) (hn : ¬ n < 0) (hN : n.toNatClampNeg = N') (hbytes : N' * componentBytes .long ≤ 536870912) (hcells : cells + 1 ≤ R.cells) (hslots : slots + N' ≤ R.slots) (hdg : decode cc pc = .ok (.newarray .long, 2))
    (kk : ∀ (q : Nat) (H1 : Heap), va_P D cl (ws ++ [(q, .inl (cA, N', .inr (.inl (fun _ => 0))))]) H1 → va_D A (ws ++ [(q, .inl (cA, N', .inr (.inl (fun _ => 0))))]) → va_S A H0 H1 locs → W p l e R s m args below meth c H1 locs (cells + 1) (slots + N') Q (F0 m (pc + 2) ls (.ref q :: rest))) : W p l e R s m args below meth c H locs cells slots Q (F0 m pc ls (.int n :: rest)) :=
  va_newa (atype := .long) (ty := .long) (a0 := (N', .inr (.inl (fun _ => 0)))) hx hb harr rfl hK hP hD hS hA (fun cA => rfl) hn hN hbytes hcells hslots hdg (fun q cB H1 hK1 hP1 hD1 hS1 => by
    have e : cB = cA := zcls (ty := .long) (fun C h => by cases h) (hK1.2 tys.length (cB, .long) (by simp)).2 (hK.2 t0 _ ht).2
    subst e
    exact kk q H1 hP1 hD1 hS1)
theorem znew_c (hx : p.tables.exec = Jvm.exec) (hb : c.code = cc) (harr : (Cond.arrayClass .char).before args s = true) (hK : va_K D cl tys s) (t0 : Nat) (ht : tys[t0]? = some (cA, .char)) (hP : va_P D cl ws H) (hD : va_D A ws) (hS : va_S A H0 H locs) (hA : ∀ q, H0.size ≤ q → A q) (hn : ¬ n < 0) (hN : n.toNatClampNeg = N') (hbytes : N' * componentBytes .char ≤ 536870912) (hcells : cells + 1 ≤ R.cells) (hslots : slots + N' ≤ R.slots) (hdg : decode cc pc = .ok (.newarray .char, 2))
    (kk : ∀ (q : Nat) (H1 : Heap), va_P D cl (ws ++ [(q, .inl (cA, N', .inl (fun _ => 0)))]) H1 → va_D A (ws ++ [(q, .inl (cA, N', .inl (fun _ => 0)))]) → va_S A H0 H1 locs → W p l e R s m args below meth c H1 locs (cells + 1) (slots + N') Q (F0 m (pc + 2) ls (.ref q :: rest))) : W p l e R s m args below meth c H locs cells slots Q (F0 m pc ls (.int n :: rest)) :=
  va_newa (atype := .char) (ty := .char) (a0 := (N', .inl (fun _ => 0))) hx hb harr rfl hK hP hD hS hA (fun cA => rfl) hn hN hbytes hcells hslots hdg (fun q cB H1 hK1 hP1 hD1 hS1 => by
    have e : cB = cA := zcls (ty := .char) (fun C h => by cases h) (hK1.2 tys.length (cB, .char) (by simp)).2 (hK.2 t0 _ ht).2
    subst e
    exact kk q H1 hP1 hD1 hS1)
end zn

