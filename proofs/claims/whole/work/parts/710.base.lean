/-! reading a state that was changed; numbers; loops that count -/
section ba
variable {σ : zSt} {j k : Nat}
theorem zI_1s {v : Int32} : (zI σ k v).1 k = v := if_pos rfl
theorem zI_1n {v : Int32} (h : j ≠ k) : (zI σ k v).1 j = σ.1 j := if_neg h
theorem zI_2 {v : Int32} : (zI σ k v).2 = σ.2 := rfl
theorem zJ_1 {v : Int64} : (zJ σ k v).1 = σ.1 := rfl
theorem zJ_2s {v : Int64} : (zJ σ k v).2.1 k = v := if_pos rfl
theorem zJ_2n {v : Int64} (h : j ≠ k) : (zJ σ k v).2.1 j = σ.2.1 j := if_neg h
theorem zJ_3 {v : Int64} : (zJ σ k v).2.2 = σ.2.2 := rfl
theorem zA_1 {f : Nat → Int32} : (zA σ k f).1 = σ.1 := rfl
theorem zA_2 {f : Nat → Int32} : (zA σ k f).2.1 = σ.2.1 := rfl
theorem zA_3s {f : Nat → Int32} : (zA σ k f).2.2.1 k = f := if_pos rfl
theorem zA_3n {f : Nat → Int32} (h : j ≠ k) : (zA σ k f).2.2.1 j = σ.2.2.1 j := if_neg h
theorem zA_4 {f : Nat → Int32} : (zA σ k f).2.2.2 = σ.2.2.2 := rfl
theorem zB_1 {f : Nat → Int64} : (zB σ k f).1 = σ.1 := rfl
theorem zB_2 {f : Nat → Int64} : (zB σ k f).2.1 = σ.2.1 := rfl
theorem zB_3 {f : Nat → Int64} : (zB σ k f).2.2.1 = σ.2.2.1 := rfl
theorem zB_4s {f : Nat → Int64} : (zB σ k f).2.2.2 k = f := if_pos rfl
theorem zB_4n {f : Nat → Int64} (h : j ≠ k) : (zB σ k f).2.2.2 j = σ.2.2.2 j := if_neg h
end ba
theorem li_0 : (0 : Int32) = nI 0 := rfl
theorem li_1 : (1 : Int32) = nI 1 := rfl
theorem li_2 : (2 : Int32) = nI 2 := rfl
theorem li_3 : (3 : Int32) = nI 3 := rfl
theorem li_4 : (4 : Int32) = nI 4 := rfl
theorem li_5 : (5 : Int32) = nI 5 := rfl
theorem li_6 : (6 : Int32) = nI 6 := rfl
theorem li_7 : (7 : Int32) = nI 7 := rfl
theorem li_8 : (8 : Int32) = nI 8 := rfl
theorem li_9 : (9 : Int32) = nI 9 := rfl
theorem li_10 : (10 : Int32) = nI 10 := rfl
theorem li_11 : (11 : Int32) = nI 11 := rfl
theorem li_12 : (12 : Int32) = nI 12 := rfl
theorem li_13 : (13 : Int32) = nI 13 := rfl
theorem li_14 : (14 : Int32) = nI 14 := rfl
theorem li_15 : (15 : Int32) = nI 15 := rfl
theorem li_16 : (16 : Int32) = nI 16 := rfl
theorem li_17 : (17 : Int32) = nI 17 := rfl
theorem li_18 : (18 : Int32) = nI 18 := rfl
theorem li_19 : (19 : Int32) = nI 19 := rfl
theorem li_20 : (20 : Int32) = nI 20 := rfl
theorem li_21 : (21 : Int32) = nI 21 := rfl
theorem li_22 : (22 : Int32) = nI 22 := rfl
theorem li_23 : (23 : Int32) = nI 23 := rfl
theorem li_24 : (24 : Int32) = nI 24 := rfl
theorem li_25 : (25 : Int32) = nI 25 := rfl
theorem li_26 : (26 : Int32) = nI 26 := rfl
theorem li_30 : (30 : Int32) = nI 30 := rfl
theorem li_31 : (31 : Int32) = nI 31 := rfl
theorem li_32 : (32 : Int32) = nI 32 := rfl
theorem li_39 : (39 : Int32) = nI 39 := rfl
theorem li_40 : (40 : Int32) = nI 40 := rfl
theorem li_45 : (45 : Int32) = nI 45 := rfl
theorem li_64 : (64 : Int32) = nI 64 := rfl
theorem li_99 : (99 : Int32) = nI 99 := rfl
theorem li_100 : (100 : Int32) = nI 100 := rfl
theorem li_120 : (120 : Int32) = nI 120 := rfl
theorem li_127 : (127 : Int32) = nI 127 := rfl
theorem li_200 : (200 : Int32) = nI 200 := rfl
theorem li_201 : (201 : Int32) = nI 201 := rfl
theorem li_255 : (255 : Int32) = nI 255 := rfl
theorem li_256 : (256 : Int32) = nI 256 := rfl
theorem li_512 : (512 : Int32) = nI 512 := rfl
theorem li_780 : (780 : Int32) = nI 780 := rfl
theorem li_800 : (800 : Int32) = nI 800 := rfl
theorem li_801 : (801 : Int32) = nI 801 := rfl
theorem li_900 : (900 : Int32) = nI 900 := rfl
theorem li_999 : (999 : Int32) = nI 999 := rfl
theorem li_1000 : (1000 : Int32) = nI 1000 := rfl
theorem li_1024 : (1024 : Int32) = nI 1024 := rfl
theorem li_8191 : (8191 : Int32) = nI 8191 := rfl
theorem li_8192 : (8192 : Int32) = nI 8192 := rfl
theorem vpi {n N : Nat} (hn : n < 2 ^ 31) (hN : N < 2 ^ 31) : vp_in (nI n) N ↔ n < N := by
  rw [vp_in_iff, nI_toInt hn]; omega
/-- a loop that counts up to e -/
theorem loopU {S : Type} (W : Nat → Nat → S → Prop) (I : Nat → S → Prop) (e : Nat) (hx : ∀ f s, I e s → W (f + 1) e s) (hs : ∀ f i s, i < e → I i s → (∀ s', I (i + 1) s' → W f (i + 1) s') → W (f + 1) i s) : ∀ (f i : Nat) (s : S), i ≤ e → e - i < f → I i s → W f i s
  | 0, _, _, _, h, _ => absurd h (Nat.not_lt_zero _)
  | f + 1, i, s, hi, h, hI => by
    rcases Nat.lt_or_ge i e with g | g
    · exact hs f i s g hI (fun s' h' => loopU W I e hx hs f (i + 1) s' g (by omega) h')
    · have : i = e := by omega
      subst this
      exact hx f s hI
/-- the same, with the loop's own words: at the end, and at a turn -/
theorem li_m1 : (-1 : Int32).toInt = -1 := by decide
theorem m1_ne {n : Nat} (h : n < 2 ^ 31) : ¬ nI n = -1 := by
  rw [fa_eq, nI_toInt h, li_m1]; omega
theorem ne_m1 {n : Nat} (h : n < 2 ^ 31) : ¬ -1 = nI n := fun e => m1_ne h e.symm
theorem m1_lt {n : Nat} (h : n < 2 ^ 31) : (-1 : Int32) < nI n := by
  rw [fa_lt, nI_toInt h, li_m1]; omega
/-- bits of ints -/
theorem shI : ∀ k, k < 31 → (((nI k) &&& nI 31).toBitVec.smod 32).toNat = k := by decide +kernel
theorem bitI {m k : Nat} (hm : m < 2 ^ 31) (hk : k < 31) : ((nI m >>> (nI k &&& nI 31)) &&& nI 1) = nI 0 ↔ m.testBit k = false := by
  rw [pk_shrN hm _ k (shI k hk), show nI 1 = nI (2 ^ 1 - 1) from rfl, fa_mask, nI_eq (by omega) (by omega), Nat.testBit_eq_decide_div_mod_eq]
  simp
theorem oneI {k : Nat} (hk : k < 31) : nI 1 <<< (nI k &&& nI 31) = nI (2 ^ k) := by
  have h2 : 2 ^ k < 2 ^ 31 := Nat.pow_lt_pow_right (by decide) hk
  rw [pk_shlN _ k (shI k hk) (by omega), Nat.one_mul]
/-- bits of longs -/
theorem bitJ {n p : Nat} (hn : n < 2 ^ 62) (hp : p < 62) : ((lN n >>> ((nI p).toInt64 &&& 63)) &&& 1) = 0 ↔ n.testBit p = false := by
  rw [bitL hn hp]
  cases n.testBit p with
  | false => exact ⟨fun _ => rfl, fun _ => rfl⟩
  | true => exact ⟨fun h => absurd h (by decide), fun h => absurd h (by decide)⟩
theorem oneJ {k : Nat} (hk : k < 63) : (1 : Int64) <<< ((nI k).toInt64 &&& 63) = lN (2 ^ k) := by
  rw [show (1 : Int64) = lN 1 from rfl, wb_shl 1 (by omega), Nat.one_mul]
