/-! ===== numbers ===== -/
theorem i32_ix {i : Int} (h0 : 0 ≤ i) (h1 : i < 2147483648) : (Int32.ofInt i).toNatClampNeg = i.toNat ∧ ¬ (Int32.ofInt i) < 0 := by
  have e : (Int32.ofInt i).toInt = i := Int32.toInt_ofInt_of_le (by omega) (by omega)
  refine ⟨?_, ?_⟩
  · show (Int32.ofInt i).toInt.toNat = _
    rw [e]
  · rw [Int32.lt_iff_toInt_lt, e]
    show ¬ i < (0 : Int32).toInt
    simp; omega
theorem i32_in {i n : Int} (h0 : 0 ≤ i) (h1 : i < n) (h2 : n ≤ 1000000) {sz : Nat} (hs : n.toNat ≤ sz) : ¬ (Int32.ofInt i < 0 ∨ sz ≤ (Int32.ofInt i).toNatClampNeg) := by
  obtain ⟨e, e2⟩ := i32_ix h0 (by omega)
  rw [e]
  rintro (h | h)
  · exact e2 h
  · omega
theorem i32_to {x : Int} (h : rg x) : (Int32.ofInt x).toInt = x := Int32.toInt_ofInt_of_le (by have := h.1; omega) (by have := h.2; omega)
theorem i64_to {x : Int} (h : rgL x) : (Int64.ofInt x).toInt = x := Int64.toInt_ofInt_of_le (by have := h.1; omega) (by have := h.2; omega)
theorem i32_lt {x y : Int} (hx : rg x) (hy : rg y) : (Int32.ofInt x < Int32.ofInt y) ↔ x < y := by rw [Int32.lt_iff_toInt_lt, i32_to hx, i32_to hy]
theorem i32_le {x y : Int} (hx : rg x) (hy : rg y) : (Int32.ofInt x ≤ Int32.ofInt y) ↔ x ≤ y := by rw [Int32.le_iff_toInt_le, i32_to hx, i32_to hy]
theorem i32_eq {x y : Int} (hx : rg x) (hy : rg y) : (Int32.ofInt x = Int32.ofInt y) ↔ x = y := by rw [← Int32.toInt_inj, i32_to hx, i32_to hy]
theorem i64_lt {x y : Int} (hx : rgL x) (hy : rgL y) : (Int64.ofInt x < Int64.ofInt y) ↔ x < y := by rw [Int64.lt_iff_toInt_lt, i64_to hx, i64_to hy]
theorem i64_eq {x y : Int} (hx : rgL x) (hy : rgL y) : (Int64.ofInt x = Int64.ofInt y) ↔ x = y := by rw [← Int64.toInt_inj, i64_to hx, i64_to hy]
theorem i32_div {x y : Int} (hx : rg x) (hy : rg y) : Int32.ofInt (x.tdiv y) = Int32.ofInt x / Int32.ofInt y := by
  apply Int32.toInt_inj.mp
  rw [Int32.toInt_div, i32_to hx, i32_to hy, Int32.toInt_ofInt]
theorem i64_div {x y : Int} (hx : rgL x) (hy : rgL y) : Int64.ofInt (x.tdiv y) = Int64.ofInt x / Int64.ofInt y := by
  apply Int64.toInt_inj.mp
  rw [Int64.toInt_div, i64_to hx, i64_to hy, Int64.toInt_ofInt]
theorem i32_rem {x y : Int} (hx : rg x) (hy : rg y) : Int32.ofInt (x.tmod y) = Int32.ofInt x - Int32.ofInt x / Int32.ofInt y * Int32.ofInt y := by
  rw [← i32_div hx hy, ← Int32.ofInt_mul, ← Int32.ofInt_sub]
  congr 1
  have := Int.tmod_add_mul_tdiv x y
  rw [Int.mul_comm] at this
  omega
theorem i64_rem {x y : Int} (hx : rgL x) (hy : rgL y) : Int64.ofInt (x.tmod y) = Int64.ofInt x - Int64.ofInt x / Int64.ofInt y * Int64.ofInt y := by
  rw [← i64_div hx hy, ← Int64.ofInt_mul, ← Int64.ofInt_sub]
  congr 1
  have := Int.tmod_add_mul_tdiv x y
  rw [Int.mul_comm] at this
  omega
theorem i32_ne0 {y : Int} (hy : rg y) (h : y ≠ 0) : ¬ Int32.ofInt y = 0 := fun e => h (by have := (i32_eq (y := 0) hy (by decide)).mp (by rw [e]; rfl); exact this)
theorem i64_ne0 {y : Int} (hy : rgL y) (h : y ≠ 0) : ¬ Int64.ofInt y = 0 := fun e => h (by have := (i64_eq (y := 0) hy (by decide)).mp (by rw [e]; rfl); exact this)
theorem i32_push8 {k : Int} (h1 : -128 ≤ k) (h2 : k ≤ 127) : (Int8.ofInt k).toInt32 = Int32.ofInt k := by
  have e : (Int8.ofInt k).toInt = k := Int8.toInt_ofInt_of_le (by omega) (by omega)
  rw [← Int32.ofInt_int8ToInt, e]
theorem i32_push16 {k : Int} (h1 : -32768 ≤ k) (h2 : k ≤ 32767) : (Int16.ofInt k).toInt32 = Int32.ofInt k := by
  have e : (Int16.ofInt k).toInt = k := Int16.toInt_ofInt_of_le (by omega) (by omega)
  rw [← Int32.ofInt_int16ToInt, e]
theorem i64_of32 {x : Int} (h : rg x) : (Int32.ofInt x).toInt64 = Int64.ofInt x := by
  rw [← Int64.ofInt_int32ToInt, i32_to h]
theorem i32_of64 (x : Int) : (Int64.ofInt x).toInt32 = Int32.ofInt x := by
  apply Int32.toInt_inj.mp
  rw [Int64.toInt_toInt32, Int64.toInt_ofInt, Int32.toInt_ofInt]
  exact Int.bmod_bmod_of_dvd (by decide)
theorem lcmp_of {x y : Int} (hx : rgL x) (hy : rgL y) : lg_cmp (Int64.ofInt x) (Int64.ofInt y) = Int32.ofInt (cmpL x y) := by
  unfold lg_cmp cmpL
  simp only [gt_iff_lt, i64_lt hx hy, i64_lt hy hx, i64_eq hx hy]
  by_cases h1 : x < y
  · rw [if_neg (show ¬ y < x by omega), if_neg (show ¬ x = y by omega), if_pos h1]
    rfl
  · by_cases h2 : x = y
    · rw [if_neg (show ¬ y < x by omega), if_pos h2, if_neg h1, if_pos h2]
      rfl
    · rw [if_pos (show y < x by omega), if_neg h1, if_neg h2]
      rfl
theorem shp_lim : ∀ a, (shp a).2.1 ≤ 20000 ∧ (shp a).2.2 ≤ 20000 ∧ 0 ≤ (shp a).2.1 ∧ 0 ≤ (shp a).2.2 := by
  intro a
  by_cases h : a < 101
  · revert a; decide +kernel
  · have : shp a = (9, 0, 0) := by
      unfold shp
      have key : ∀ (l : List (Nat × Int × Int)) (k : Nat), l.length ≤ k → nthD l k (9, 0, 0) = (9, 0, 0) := by
        intro l
        induction l with
        | nil => intro k _; rfl
        | cons x r ih =>
          intro k hk
          cases k with
          | zero => simp at hk
          | succ k => exact ih k (by simpa using hk)
      exact key _ _ (by show 101 ≤ a; omega)
    rw [this]; decide
theorem shp_lt {a : Nat} (h : (shp a).1 ≠ 9) : a < 101 := by
  by_cases ha : a < 101
  · exact ha
  · exfalso; apply h
    unfold shp
    have key : ∀ (l : List (Nat × Int × Int)) (k : Nat), l.length ≤ k → nthD l k (9, 0, 0) = (9, 0, 0) := by
      intro l
      induction l with
      | nil => intro k _; rfl
      | cons x r ih =>
        intro k hk
        cases k with
        | zero => simp at hk
        | succ k => exact ih k (by simpa using hk)
    rw [key _ _ (by show 101 ≤ a; omega)]
set_option maxRecDepth 100000 in
theorem shp_new : ∀ a, a < 101 → ((shp a).1 = 0 ∨ (shp a).1 = 1 ∨ (shp a).1 = 2 ∨ (shp a).1 = 4) → 11 ≤ a := by decide +kernel
