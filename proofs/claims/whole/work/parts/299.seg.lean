/-! worlds in segments: order does not matter -/
theorem zP_iff {D : va_G} {cl : List vw_C} {w : va_W} {H : Heap} : va_P D cl w H ↔ ∀ q ∈ w, va_at D cl q H :=
  ⟨fun h q hq => by obtain ⟨k, hk⟩ := List.getElem?_of_mem hq; exact h k q hk, fun h k q hk => h q (List.mem_of_getElem? hk)⟩
theorem zD_iff {A : Nat → Prop} {w : va_W} : va_D A w ↔ w.Pairwise (fun p q => p.1 ≠ q.1) ∧ ∀ q ∈ w, A q.1 := by
  constructor
  · intro h
    refine ⟨List.pairwise_iff_getElem.mpr (fun i j hi hj hij e => ?_), fun q hq => ?_⟩
    · have := h.1 i j w[i] w[j] (List.getElem?_eq_getElem hi) (List.getElem?_eq_getElem hj) e
      omega
    · obtain ⟨k, hk⟩ := List.getElem?_of_mem hq
      exact h.2 k q hk
  · intro h
    refine ⟨fun i j p q hp hq e => ?_, fun k q hk => h.2 q (List.mem_of_getElem? hk)⟩
    obtain ⟨hi, rfl⟩ := List.getElem?_eq_some_iff.mp hp
    obtain ⟨hj, rfl⟩ := List.getElem?_eq_some_iff.mp hq
    rcases Nat.lt_trichotomy i j with h1 | h1 | h1
    · exact absurd e (List.pairwise_iff_getElem.mp h.1 i j hi hj h1)
    · exact h1
    · exact absurd e.symm (List.pairwise_iff_getElem.mp h.1 j i hj hi h1)
theorem zP_perm {D : va_G} {cl : List vw_C} {w w' : va_W} {H : Heap} (hp : w.Perm w') (h : va_P D cl w H) : va_P D cl w' H := zP_iff.mpr (fun q hq => zP_iff.mp h q (hp.mem_iff.mpr hq))
theorem zD_perm {A : Nat → Prop} {w w' : va_W} (hp : w.Perm w') (h : va_D A w) : va_D A w' := by
  obtain ⟨h1, h2⟩ := zD_iff.mp h
  exact zD_iff.mpr ⟨hp.pairwise h1 (fun h e => h e.symm), fun q hq => h2 q (hp.mem_iff.mpr hq)⟩
theorem zP_left {D : va_G} {cl : List vw_C} {a b : va_W} {H : Heap} (h : va_P D cl (a ++ b) H) : va_P D cl a H := zP_iff.mpr (fun q hq => zP_iff.mp h q (List.mem_append_left _ hq))
theorem zD_left {A : Nat → Prop} {a b : va_W} (h : va_D A (a ++ b)) : va_D A a := by
  obtain ⟨h1, h2⟩ := zD_iff.mp h
  exact zD_iff.mpr ⟨(List.pairwise_append.mp h1).1, fun q hq => h2 q (List.mem_append_left _ hq)⟩
theorem zfree {A0 : Nat → Prop} {wc wa : va_W} {H0 H : Heap} {locs : List Loc} (hD : va_D A0 (wc ++ wa)) (hS : va_S A0 H0 H locs) (hA : ∀ q, H0.size ≤ q → A0 q) : ∀ q, va_A wc H.size q → A0 q := by
  intro q h
  rcases h with ⟨k, e, h⟩ | h
  · exact (zD_iff.mp hD).2 (q, e) (List.mem_append_left _ (List.mem_of_getElem? h))
  · exact hA q (Nat.le_trans hS.1 h)
theorem zjoin {A0 : Nat → Prop} {D : va_G} {cl : List vw_C} {wc wa w1 : va_W} {H H1 : Heap} (hP : va_P D cl (wc ++ wa) H) (hD : va_D A0 (wc ++ wa)) (hk : ∀ q : Nat, q < H.size → ¬ va_A wc H.size q → H1[q]? = H[q]?) (hF : ∀ q, va_A wc H.size q → A0 q) (hP1 : va_P D cl w1 H1) (hD1 : va_D (va_A wc H.size) w1) : va_P D cl (w1 ++ wa) H1 ∧ va_D A0 (w1 ++ wa) := by
  obtain ⟨d1, d2⟩ := zD_iff.mp hD
  obtain ⟨e1, e2⟩ := zD_iff.mp hD1
  obtain ⟨-, da, dx⟩ := List.pairwise_append.mp d1
  have hlt : ∀ x ∈ wa, x.1 < H.size := fun x hx => (zP_iff.mp hP x (List.mem_append_right _ hx)).lt
  have hout : ∀ x ∈ wa, ¬ va_A wc H.size x.1 := by
    intro x hx h
    rcases h with ⟨k, e, h⟩ | h
    · exact dx (x.1, e) (List.mem_of_getElem? h) x hx rfl
    · exact absurd (hlt x hx) (Nat.not_lt.mpr h)
  refine ⟨zP_iff.mpr (fun q hq => ?_), zD_iff.mpr ⟨List.pairwise_append.mpr ⟨e1, da, fun p hp q hq e => ?_⟩, fun q hq => ?_⟩⟩
  · rcases List.mem_append.mp hq with h | h
    · exact zP_iff.mp hP1 q h
    · exact (zP_iff.mp hP q (List.mem_append_right _ h)).kept (hk q.1 (hlt q h) (hout q h))
  · have := e2 p hp
    rw [e] at this
    exact hout q hq this
  · rcases List.mem_append.mp hq with h | h
    · exact hF _ (e2 q h)
    · exact d2 q (List.mem_append_right _ h)
theorem zrot (a b : va_W) : (a ++ b).Perm (b ++ a) := List.perm_append_comm
theorem zal (a : va_W) {b c : va_W} (h : b.Perm c) : (a ++ b).Perm (a ++ c) := h.append_left a
theorem zswp (a b c : va_W) : (a ++ (b ++ c)).Perm (b ++ (a ++ c)) := List.perm_append_comm_assoc a b c
theorem zpermOf {a b : va_W} (is : List Nat) (h : is.map (fun i => a[i]?) = b.map some) (hn : is.isPerm (List.range a.length) = true) : a.Perm b := by
  have h1 : is.Perm (List.range a.length) := List.isPerm_iff.mp hn
  have h2 : (is.map (fun i => a[i]?)).Perm ((List.range a.length).map (fun i => a[i]?)) := h1.map _
  have h3 : (List.range a.length).map (fun i => a[i]?) = a.map some := by
    apply List.ext_getElem?
    intro i
    rw [List.getElem?_map, List.getElem?_map]
    by_cases hi : i < a.length
    · rw [List.getElem?_range hi]
      show some a[i]? = Option.map some a[i]?
      rw [List.getElem?_eq_getElem hi]; rfl
    · rw [List.getElem?_eq_none (by simpa using hi), List.getElem?_eq_none (by omega)]; rfl
  rw [h, h3] at h2
  have h4 := h2.symm.filterMap id
  simpa [List.filterMap_map] using h4

