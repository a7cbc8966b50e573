/-! greatest common divisors; the scale -/
def nz (r : Rat) : Nat := r.num.natAbs
theorem nz_q6 (u : Int64) : nz (q6 u) = u.toInt.natAbs := by unfold nz q6; rw [Rat.num_intCast]
theorem lN_div {a b : Nat} (ha : a < 2 ^ 63) (hb : b < 2 ^ 63) : lN a / lN b = lN (a / b) := by
  refine Int64.toInt_inj.mp ?_
  have h : a / b < 2 ^ 63 := Nat.lt_of_le_of_lt (Nat.div_le_self a b) ha
  rw [Int64.toInt_div, pk_lT ha, pk_lT hb, pk_lT h, ← Int.ofNat_tdiv]
  generalize a / b = c at h ⊢
  rw [Int.bmod_eq_of_le (by omega) (by omega)]
theorem lN_mod {a b : Nat} (ha : a < 2 ^ 63) (hb : b < 2 ^ 63) : lN a - lN a / lN b * lN b = lN (a % b) := by
  have h1 : a / b * b ≤ a := Nat.div_mul_le_self a b
  rw [lN_div ha hb, lN_mul, lN_sub h1]
  congr 1
  have := Nat.div_add_mod a b
  rw [Nat.mul_comm] at this
  omega
theorem lN_0 {b : Nat} (hb : b < 2 ^ 63) : lN b = 0 ↔ b = 0 := by
  constructor
  · intro h
    have := congrArg Int64.toInt h
    rw [pk_lT hb] at this
    have h0 : (0 : Int64).toInt = 0 := rfl
    omega
  · intro h; rw [h]; rfl
theorem half_mod {x y : Nat} (hy : 0 < y) (hr : 0 < x % y) : 2 * (y % (x % y)) < y := by
  have h1 := Nat.mod_lt x hy
  have h2 := Nat.mod_lt y hr
  have h3 := Nat.div_add_mod y (x % y)
  have h4 : 1 ≤ y / (x % y) := (Nat.le_div_iff_mul_le hr).mpr (by omega)
  have h5 : x % y * 1 ≤ x % y * (y / (x % y)) := Nat.mul_le_mul_left _ h4
  omega
theorem pn_gcd_loop {m : Nat} {S : z_S} : ∀ n x y i q, x < 2 ^ 63 → y < 2 ^ 63 → y < 2 ^ n → i + 2 * n + 2 ≤ 1000 → 2 * n + 2 < q → f_N_commonDivisor_15 m q (lN x) (lN y) (nI i) S = some (lN (Nat.gcd x y), S) := by
  intro n
  induction n with
  | zero =>
    intro x y i q hx hy hn hi hq
    obtain ⟨q, rfl⟩ : ∃ q', q = q' + 1 := ⟨q - 1, by omega⟩
    have : y = 0 := by omega
    subst this
    have k1 : ¬ (1000 : Int32) ≤ nI i := nI_ge (a := i) (b := 1000) (by omega) (by omega)
    rw [f_N_commonDivisor_15, if_neg k1, if_pos ((lN_0 hy).mpr rfl), Nat.gcd_zero_right]
    rfl
  | succ n ih =>
    intro x y i q hx hy hn hi hq
    obtain ⟨q, rfl⟩ : ∃ q', q = q' + 2 := ⟨q - 2, by omega⟩
    have k1 : ¬ (1000 : Int32) ≤ nI i := nI_ge (a := i) (b := 1000) (by omega) (by omega)
    have k2 : ¬ (1000 : Int32) ≤ nI (i + 1) := nI_ge (a := i + 1) (b := 1000) (by omega) (by omega)
    rw [f_N_commonDivisor_15, if_neg k1]
    by_cases hy0 : y = 0
    · rw [if_pos ((lN_0 hy).mpr hy0), hy0, Nat.gcd_zero_right]
      rfl
    · have v1 : vn (lN y) = true := by unfold vn; simp [lN_0 hy, hy0]
      have hr : x % y < y := Nat.mod_lt x (by omega)
      rw [if_neg (fun e => hy0 ((lN_0 hy).mp e)), ck_t v1, lN_mod hx hy, nI_1, f_N_commonDivisor_15, if_neg k2]
      have g1 : Nat.gcd x y = Nat.gcd y (x % y) := by rw [Nat.gcd_comm x y, Nat.gcd_rec, Nat.gcd_comm]
      by_cases hr0 : x % y = 0
      · rw [if_pos ((lN_0 (by omega)).mpr hr0), g1, hr0, Nat.gcd_zero_right]
        rfl
      · have v2 : vn (lN (x % y)) = true := by unfold vn; simp [lN_0 (show x % y < 2 ^ 63 by omega), hr0]
        have hh := half_mod (x := x) (y := y) (by omega) (by omega)
        have g2 : Nat.gcd y (x % y) = Nat.gcd (x % y) (y % (x % y)) := by rw [Nat.gcd_comm y (x % y), Nat.gcd_rec, Nat.gcd_comm]
        rw [if_neg (fun e => hr0 ((lN_0 (by omega)).mp e)), ck_t v2, lN_mod hy (by omega), nI_1, g1, g2]
        refine ih (x % y) (y % (x % y)) (i + 1 + 1) q (by omega) (by omega) ?_ (by omega) (by omega)
        rw [Nat.pow_succ] at hn
        omega
theorem pm_gcd_loop {m : Nat} {S : z_S} : ∀ n x y i q, x < 2 ^ 63 → y < 2 ^ 63 → y < 2 ^ n → i + 2 * n + 2 ≤ 1000 → 2 * n + 2 < q → f_M_divisor_31 m q (lN x) (lN y) (nI i) S = some (lN (Nat.gcd x y), S) := by
  intro n
  induction n with
  | zero =>
    intro x y i q hx hy hn hi hq
    obtain ⟨q, rfl⟩ : ∃ q', q = q' + 1 := ⟨q - 1, by omega⟩
    have : y = 0 := by omega
    subst this
    have k1 : ¬ (1000000 : Int32) ≤ nI i := nI_ge (a := i) (b := 1000000) (by omega) (by omega)
    rw [f_M_divisor_31, if_neg k1, if_pos ((lN_0 hy).mpr rfl), Nat.gcd_zero_right]
    rfl
  | succ n ih =>
    intro x y i q hx hy hn hi hq
    obtain ⟨q, rfl⟩ : ∃ q', q = q' + 2 := ⟨q - 2, by omega⟩
    have k1 : ¬ (1000000 : Int32) ≤ nI i := nI_ge (a := i) (b := 1000000) (by omega) (by omega)
    have k2 : ¬ (1000000 : Int32) ≤ nI (i + 1) := nI_ge (a := i + 1) (b := 1000000) (by omega) (by omega)
    rw [f_M_divisor_31, if_neg k1]
    by_cases hy0 : y = 0
    · rw [if_pos ((lN_0 hy).mpr hy0), hy0, Nat.gcd_zero_right]
      rfl
    · have v1 : vn (lN y) = true := by unfold vn; simp [lN_0 hy, hy0]
      have hr : x % y < y := Nat.mod_lt x (by omega)
      rw [if_neg (fun e => hy0 ((lN_0 hy).mp e)), ck_t v1, lN_mod hx hy, nI_1, f_M_divisor_31, if_neg k2]
      have g1 : Nat.gcd x y = Nat.gcd y (x % y) := by rw [Nat.gcd_comm x y, Nat.gcd_rec, Nat.gcd_comm]
      by_cases hr0 : x % y = 0
      · rw [if_pos ((lN_0 (by omega)).mpr hr0), g1, hr0, Nat.gcd_zero_right]
        rfl
      · have v2 : vn (lN (x % y)) = true := by unfold vn; simp [lN_0 (show x % y < 2 ^ 63 by omega), hr0]
        have hh := half_mod (x := x) (y := y) (by omega) (by omega)
        have g2 : Nat.gcd y (x % y) = Nat.gcd (x % y) (y % (x % y)) := by rw [Nat.gcd_comm y (x % y), Nat.gcd_rec, Nat.gcd_comm]
        rw [if_neg (fun e => hr0 ((lN_0 (by omega)).mp e)), ck_t v2, lN_mod hy (by omega), nI_1, g1, g2]
        refine ih (x % y) (y % (x % y)) (i + 1 + 1) q (by omega) (by omega) ?_ (by omega) (by omega)
        rw [Nat.pow_succ] at hn
        omega
theorem nz_lt {u : Int64} {K : Nat} (h : isZ (q6 u) K) (hK : K < 2 ^ 63) : nz (q6 u) < 2 ^ 63 := by
  rw [nz_q6]
  have := isZ_int (z := u.toInt) h
  omega
theorem abs_N {u : Int64} {K : Nat} (h : isZ (q6 u) K) (hK : K < 2 ^ 63) : (if 0 < u then u else -u) = lN (nz (q6 u)) := by
  have hb := isZ_int (z := u.toInt) h
  have hl := nz_lt h hK
  rw [nz_q6] at hl ⊢
  refine Int64.toInt_inj.mp ?_
  rw [pk_lT hl]
  by_cases c : 0 < u
  · rw [if_pos c]
    have c : (0 : Int64).toInt < u.toInt := Int64.lt_iff_toInt_lt.mp c
    have h0 : (0 : Int64).toInt = 0 := rfl
    omega
  · rw [if_neg c, Int64.toInt_neg, Int.bmod_eq_of_le (by omega) (by omega)]
    have c : ¬ (0 : Int64).toInt < u.toInt := fun q => c (Int64.lt_iff_toInt_lt.mpr q)
    have h0 : (0 : Int64).toInt = 0 := rfl
    omega
theorem abs_M {u : Int64} {K : Nat} (h : isZ (q6 u) K) (hK : K < 2 ^ 63) : (0 ≤ u ∧ u = lN (nz (q6 u))) ∨ (¬ 0 ≤ u ∧ -u = lN (nz (q6 u))) := by
  have hb := isZ_int (z := u.toInt) h
  have hl := nz_lt h hK
  rw [nz_q6] at hl ⊢
  have h0 : (0 : Int64).toInt = 0 := rfl
  by_cases c : 0 ≤ u
  · refine Or.inl ⟨c, Int64.toInt_inj.mp ?_⟩
    have c : (0 : Int64).toInt ≤ u.toInt := Int64.le_iff_toInt_le.mp c
    rw [pk_lT hl]
    omega
  · refine Or.inr ⟨c, Int64.toInt_inj.mp ?_⟩
    have c : ¬ (0 : Int64).toInt ≤ u.toInt := fun q => c (Int64.le_iff_toInt_le.mpr q)
    rw [pk_lT hl, Int64.toInt_neg, Int.bmod_eq_of_le (by omega) (by omega)]
    omega
theorem pn_gcd {m : Nat} {S : z_S} {u v : Int64} {K : Nat} (hm : 200 < m) (hu : isZ (q6 u) K) (hv : isZ (q6 v) K) (hK : K < 2 ^ 63) : f_N_commonDivisor m u v S = some (lN (Nat.gcd (nz (q6 u)) (nz (q6 v))), S) := by
  unfold f_N_commonDivisor
  rw [abs_N hu hK, abs_N hv hK]
  exact pn_gcd_loop 63 _ _ 0 m (nz_lt hu hK) (nz_lt hv hK) (nz_lt hv hK) (by omega) (by omega)
theorem pm_gcd {m : Nat} {S : z_S} {u v : Int64} {K : Nat} (hm : 200 < m) (hu : isZ (q6 u) K) (hv : isZ (q6 v) K) (hK : K < 2 ^ 63) : f_M_divisor m u v S = some (lN (Nat.gcd (nz (q6 u)) (nz (q6 v))), S) := by
  have fin : f_M_divisor_31 m m (lN (nz (q6 u))) (lN (nz (q6 v))) 0 S = some (lN (Nat.gcd (nz (q6 u)) (nz (q6 v))), S) := pm_gcd_loop 63 _ _ 0 m (nz_lt hu hK) (nz_lt hv hK) (nz_lt hv hK) (by omega) (by omega)
  unfold f_M_divisor f_M_divisor_12 f_M_divisor_26
  rcases abs_M hu hK with ⟨a1, a2⟩ | ⟨a1, a2⟩ <;> rcases abs_M hv hK with ⟨b1, b2⟩ | ⟨b1, b2⟩
  · rw [if_pos a1, if_pos b1]
    conv => lhs; rw [a2, b2]
    exact fin
  · rw [if_pos a1, if_neg b1]
    conv => lhs; rw [a2, b2]
    exact fin
  · rw [if_neg a1, if_pos b1]
    conv => lhs; rw [a2, b2]
    exact fin
  · rw [if_neg a1, if_neg b1, a2, b2]
    exact fin
/-! the scale: the bottom over the common divisor, whatever the bottom -/
def gl (d : Nat) (f : Nat → Nat) : Nat → Nat
  | 0 => d
  | k + 1 => Nat.gcd (gl d f k) (f k)
theorem gl_mul (c d : Nat) (f : Nat → Nat) : ∀ k, gl (c * d) (fun i => c * f i) k = c * gl d f k := by
  intro k
  induction k with
  | zero => rfl
  | succ k ih => show Nat.gcd _ _ = _; rw [ih, Nat.gcd_mul_left]; rfl
theorem gl_congr {d d' : Nat} {f f' : Nat → Nat} (hd : d = d') : ∀ k, (∀ i, i < k → f i = f' i) → gl d f k = gl d' f' k := by
  intro k
  induction k with
  | zero => intro _; exact hd
  | succ k ih => intro h; show Nat.gcd _ _ = Nat.gcd _ _; rw [ih (fun i hi => h i (by omega)), h k (by omega)]
theorem gl_dvd (d : Nat) (f : Nat → Nat) : ∀ k, gl d f k ∣ d ∧ ∀ i, i < k → gl d f k ∣ f i := by
  intro k
  induction k with
  | zero => exact ⟨Nat.dvd_refl _, fun i hi => by omega⟩
  | succ k ih =>
    have h1 : gl d f (k + 1) ∣ gl d f k := Nat.gcd_dvd_left _ _
    refine ⟨Nat.dvd_trans h1 ih.1, fun i hi => ?_⟩
    by_cases e : i = k
    · rw [e]; exact Nat.gcd_dvd_right _ _
    · exact Nat.dvd_trans h1 (ih.2 i (by omega))
def wh (D : Nat) (y : Rat) : Prop := ∃ z : Int, (z : Rat) = (D : Rat) * y
def isSc (U s c : Nat) (x f : Nat → Rat) : Prop := ∃ D : Nat, 0 < D ∧ (∀ i, i < s → wh D (x i)) ∧ (∀ i, i < c → wh D (f i)) ∧ U * gl (gl D (fun i => nz ((D : Rat) * x i)) s) (fun i => nz ((D : Rat) * f i)) c = D
theorem nz_int {z : Int} {r : Rat} (h : (z : Rat) = r) : nz r = z.natAbs := by unfold nz; rw [← h, Rat.num_intCast]
theorem nz_scale {D E : Nat} {y : Rat} (h1 : wh D y) (h2 : wh E y) : E * nz ((D : Rat) * y) = D * nz ((E : Rat) * y) := by
  obtain ⟨z, e1⟩ := h1
  obtain ⟨u, e2⟩ := h2
  rw [nz_int e1, nz_int e2]
  have h : (E : Int) * z = (D : Int) * u := by
    have : (((E : Int) * z : Int) : Rat) = (((D : Int) * u : Int) : Rat) := by
      rw [Rat.intCast_mul, Rat.intCast_mul, e1, e2]
      show (E : Rat) * ((D : Rat) * y) = (D : Rat) * ((E : Rat) * y)
      grind
    exact Rat.intCast_inj.mp this
  have := congrArg Int.natAbs h
  rw [Int.natAbs_mul, Int.natAbs_mul] at this
  exact this
theorem isSc_uniq {U U' s c : Nat} {x f : Nat → Rat} (h : isSc U s c x f) (h' : isSc U' s c x f) : U = U' := by
  obtain ⟨D, d0, d1, d2, d3⟩ := h
  obtain ⟨E, e0, e1, e2, e3⟩ := h'
  have hG : E * gl (gl D (fun i => nz ((D : Rat) * x i)) s) (fun i => nz ((D : Rat) * f i)) c = D * gl (gl E (fun i => nz ((E : Rat) * x i)) s) (fun i => nz ((E : Rat) * f i)) c := by
    rw [← gl_mul, ← gl_mul, ← gl_mul, ← gl_mul]
    refine gl_congr (gl_congr (Nat.mul_comm _ _) s fun i hi => nz_scale (d1 i hi) (e1 i hi)) c fun i hi => nz_scale (d2 i hi) (e2 i hi)
  generalize gl (gl D (fun i => nz ((D : Rat) * x i)) s) (fun i => nz ((D : Rat) * f i)) c = G at *
  generalize gl (gl E (fun i => nz ((E : Rat) * x i)) s) (fun i => nz ((E : Rat) * f i)) c = H at *
  have hG0 : 0 < G := by
    rcases Nat.eq_zero_or_pos G with q | q
    · rw [q] at d3; omega
    · exact q
  have hH0 : 0 < H := by
    rcases Nat.eq_zero_or_pos H with q | q
    · rw [q] at e3; omega
    · exact q
  rw [← e3, ← d3] at hG
  have h1 : U' * (H * G) = U * (H * G) := by
    rw [Nat.mul_assoc, Nat.mul_assoc, Nat.mul_comm G H] at hG
    exact hG
  exact (Nat.eq_of_mul_eq_mul_right (Nat.mul_pos hH0 hG0) h1).symm
/-- a number over a common divisor -/
theorem quo {D G U : Nat} {y : Rat} (hG : 0 < G) (hU : U * G = D) (hw : wh D y) (hd : G ∣ nz ((D : Rat) * y)) : wh U y ∧ (D : Rat) * y = (G : Rat) * ((U : Rat) * y) := by
  have hD : (D : Rat) = (U : Rat) * (G : Rat) := by rw [← hU]; exact Rat.natCast_mul U G
  refine ⟨?_, by rw [hD]; grind⟩
  obtain ⟨z, e⟩ := hw
  rw [nz_int e] at hd
  have hd : (G : Int) ∣ z := Int.ofNat_dvd_left.mpr hd
  obtain ⟨u, hu⟩ := hd
  refine ⟨u, ?_⟩
  have hG1 : (G : Rat) ≠ 0 := by
    intro h
    have : ((G : Nat) : Rat) = ((0 : Nat) : Rat) := h
    have := Rat.natCast_inj.mp this
    omega
  have h1 : (G : Rat) * (u : Rat) = (G : Rat) * ((U : Rat) * y) := by
    have h2 : ((z : Int) : Rat) = (G : Rat) * (u : Rat) := by rw [hu, Rat.intCast_mul]; rfl
    rw [← h2, e, hD]; grind
  grind
theorem isZ_of {r : Rat} {K : Nat} (h : ∃ z : Int, (z : Rat) = r) (h1 : - (K : Rat) ≤ r) (h2 : r ≤ (K : Rat)) : isZ r K := by
  obtain ⟨z, e⟩ := h
  refine ⟨z, e.symm, ?_, ?_⟩
  · rw [← e] at h1
    have : ((-(K : Int) : Int) : Rat) ≤ (z : Rat) := by rw [Rat.intCast_neg]; exact h1
    exact Rat.intCast_le_intCast.mp this
  · rw [← e] at h2
    have : ((K : Int) : Rat) ≥ (z : Rat) := h2
    exact Rat.intCast_le_intCast.mp this
