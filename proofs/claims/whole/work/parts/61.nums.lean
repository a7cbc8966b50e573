/-! machine numbers as fractions -/
def q6 (x : Int64) : Rat := (x.toInt : Rat)
def q3 (x : Int32) : Rat := (x.toInt : Rat)
theorem q6_inj {x y : Int64} : q6 x = q6 y ↔ x = y := by
  unfold q6
  rw [Rat.intCast_inj]
  exact Int64.toInt_inj
theorem q6_lt {x y : Int64} : x < y ↔ q6 x < q6 y := by
  unfold q6
  rw [Int64.lt_iff_toInt_lt, Rat.intCast_lt_intCast]
theorem q6_le {x y : Int64} : x ≤ y ↔ q6 x ≤ q6 y := by
  unfold q6
  rw [Int64.le_iff_toInt_le, Rat.intCast_le_intCast]
theorem q3_inj {x y : Int32} : q3 x = q3 y ↔ x = y := by
  unfold q3
  rw [Rat.intCast_inj]
  exact Int32.toInt_inj
theorem q3_lt {x y : Int32} : x < y ↔ q3 x < q3 y := by
  unfold q3
  rw [Int32.lt_iff_toInt_lt, Rat.intCast_lt_intCast]
theorem q3_le {x y : Int32} : x ≤ y ↔ q3 x ≤ q3 y := by
  unfold q3
  rw [Int32.le_iff_toInt_le, Rat.intCast_le_intCast]
theorem q6_0 : q6 0 = 0 := rfl
theorem q6_1 : q6 1 = 1 := rfl
theorem q6_m1 : q6 (-1) = -1 := rfl
theorem q3_0 : q3 0 = 0 := rfl
theorem q6_i (x : Int32) : q6 x.toInt64 = q3 x := by
  unfold q6 q3
  rw [Int32.toInt_toInt64]
theorem isZ_int {z : Int} {K : Nat} (h : isZ (z : Rat) K) : -(K : Int) ≤ z ∧ z ≤ K := by
  obtain ⟨a, e, h1, h2⟩ := h
  rw [Rat.intCast_inj] at e
  subst e
  exact ⟨h1, h2⟩
theorem q6_add {x y : Int64} {K : Nat} (h : isZ (q6 x + q6 y) K) (hK : K < 2 ^ 63) : q6 (x + y) = q6 x + q6 y := by
  unfold q6 at h ⊢
  rw [← Rat.intCast_add] at h ⊢
  have hb := isZ_int h
  rw [Int64.toInt_add, Int.bmod_eq_of_le (by omega) (by omega)]
theorem q6_sub {x y : Int64} {K : Nat} (h : isZ (q6 x - q6 y) K) (hK : K < 2 ^ 63) : q6 (x - y) = q6 x - q6 y := by
  unfold q6 at h ⊢
  rw [← Rat.intCast_sub] at h ⊢
  have hb := isZ_int h
  rw [Int64.toInt_sub, Int.bmod_eq_of_le (by omega) (by omega)]
theorem q6_mul {x y : Int64} {K : Nat} (h : isZ (q6 x * q6 y) K) (hK : K < 2 ^ 63) : q6 (x * y) = q6 x * q6 y := by
  unfold q6 at h ⊢
  rw [← Rat.intCast_mul] at h ⊢
  have hb := isZ_int h
  rw [Int64.toInt_mul, Int.bmod_eq_of_le (by omega) (by omega)]
theorem q6_neg {x : Int64} {K : Nat} (h : isZ (q6 x) K) (hK : K < 2 ^ 63) : q6 (-x) = - q6 x := by
  unfold q6 at h ⊢
  have hb := isZ_int h
  rw [← Rat.intCast_neg, Int64.toInt_neg, Int.bmod_eq_of_le (by omega) (by omega)]
theorem q3_sub {x y : Int32} {K : Nat} (h : isZ (q3 x - q3 y) K) (hK : K < 2 ^ 31) : q3 (x - y) = q3 x - q3 y := by
  unfold q3 at h ⊢
  rw [← Rat.intCast_sub] at h ⊢
  have hb := isZ_int h
  rw [Int32.toInt_sub, Int.bmod_eq_of_le (by omega) (by omega)]
theorem q3_add {x y : Int32} {K : Nat} (h : isZ (q3 x + q3 y) K) (hK : K < 2 ^ 31) : q3 (x + y) = q3 x + q3 y := by
  unfold q3 at h ⊢
  rw [← Rat.intCast_add] at h ⊢
  have hb := isZ_int h
  rw [Int32.toInt_add, Int.bmod_eq_of_le (by omega) (by omega)]
theorem q3_mul {x y : Int32} {K : Nat} (h : isZ (q3 x * q3 y) K) (hK : K < 2 ^ 31) : q3 (x * y) = q3 x * q3 y := by
  unfold q3 at h ⊢
  rw [← Rat.intCast_mul] at h ⊢
  have hb := isZ_int h
  rw [Int32.toInt_mul, Int.bmod_eq_of_le (by omega) (by omega)]
theorem q3_neg {x : Int32} {K : Nat} (h : isZ (q3 x) K) (hK : K < 2 ^ 31) : q3 (-x) = - q3 x := by
  unfold q3 at h ⊢
  have hb := isZ_int h
  rw [← Rat.intCast_neg, Int32.toInt_neg, Int.bmod_eq_of_le (by omega) (by omega)]
/-- a division that leaves no rest -/
theorem q6_div {x y : Int64} {r : Rat} {K : Nat} (hy : q6 y ≠ 0) (e : q6 x = q6 y * r) (h : isZ r K) (hK : K < 2 ^ 63) : q6 (x / y) = r := by
  obtain ⟨z, ez, h1, h2⟩ := h
  subst ez
  unfold q6 at e hy ⊢
  rw [← Rat.intCast_mul, Rat.intCast_inj] at e
  have hy0 : y.toInt ≠ 0 := fun h0 => hy (by rw [h0]; rfl)
  rw [Int64.toInt_div, e, Int.mul_tdiv_cancel_left _ hy0, Int.bmod_eq_of_le (by omega) (by omega)]
theorem q3_nI {n : Nat} (h : n < 2 ^ 31) : q3 (nI n) = (n : Rat) := by
  unfold q3
  rw [nI_toInt h]
  rfl
theorem q6_lN {n : Nat} (h : n < 2 ^ 63) : q6 (lN n) = (n : Rat) := by
  unfold q6
  rw [pk_lT h]
  rfl
theorem isZ_q6 (x : Int64) : ∃ z : Int, q6 x = (z : Rat) := ⟨x.toInt, rfl⟩
theorem q6_ii {x : Int64} {K : Nat} (h : isZ (q6 x) K) (hK : K < 2 ^ 31) : q3 x.toInt32 = q6 x := by
  unfold q6 at h
  have hb := isZ_int h
  unfold q3 q6
  rw [Int64.toInt_toInt32, Int.bmod_eq_of_le (by omega) (by omega)]
