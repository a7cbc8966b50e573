/-! connected just when there are trees -/
def tb (m a : Nat) : Bool := m.testBit a
def stp (m a b : Nat) : Nat := if m &&& (2 ^ a ||| 2 ^ b) = 0 then m else m ||| (2 ^ a ||| 2 ^ b)
def pc (m : Nat) : Nat := (tb m 0).toNat + (tb m 1).toNat + (tb m 2).toNat + (tb m 3).toNat
theorem stp_t1 : ((List.range 256).all fun t => decide ((if (nI (t / 16) &&& (((1 : Int32) <<< (nI (t / 4 % 4) &&& 31)) ||| ((1 : Int32) <<< (nI (t % 4) &&& 31)))) = 0 then nI (t / 16) else (nI (t / 16) ||| (((1 : Int32) <<< (nI (t / 4 % 4) &&& 31)) ||| ((1 : Int32) <<< (nI (t % 4) &&& 31))))) = nI (stp (t / 16) (t / 4 % 4) (t % 4)))) = true := by decide +kernel
theorem stp_t2 : ((List.range 256).all fun t => decide (stp (t / 16) (t / 4 % 4) (t % 4) < 16 ∧ (stp (t / 16) (t / 4 % 4) (t % 4) = t / 16 ∨ pc (t / 16) < pc (stp (t / 16) (t / 4 % 4) (t % 4))) ∧ (tb (t / 16) 0 = true → tb (stp (t / 16) (t / 4 % 4) (t % 4)) 0 = true) ∧ (stp (t / 16) (t / 4 % 4) (t % 4) = t / 16 → tb (t / 16) (t / 4 % 4) = tb (t / 16) (t % 4)))) = true := by decide +kernel
theorem stp_t3 : ((List.range 4096).all fun t => decide ((t / 256) &&& (t / 16 % 16) = t / 256 → tb (t / 16 % 16) (t / 4 % 4) = tb (t / 16 % 16) (t % 4) → (stp (t / 256) (t / 4 % 4) (t % 4)) &&& (t / 16 % 16) = stp (t / 256) (t / 4 % 4) (t % 4))) = true := by decide +kernel
theorem all_at {n t : Nat} {p : Nat → Bool} (h : ((List.range n).all p) = true) (ht : t < n) : p t = true := List.all_eq_true.mp h t (List.mem_range.mpr ht)
theorem stp_1 {m a b : Nat} (hm : m < 16) (ha : a < 4) (hb : b < 4) : (if (nI m &&& (((1 : Int32) <<< (nI a &&& 31)) ||| ((1 : Int32) <<< (nI b &&& 31)))) = 0 then nI m else (nI m ||| (((1 : Int32) <<< (nI a &&& 31)) ||| ((1 : Int32) <<< (nI b &&& 31))))) = nI (stp m a b) := by
  have h := all_at stp_t1 (t := m * 16 + a * 4 + b) (by omega)
  have e1 : (m * 16 + a * 4 + b) / 16 = m := by omega
  have e2 : (m * 16 + a * 4 + b) / 4 % 4 = a := by omega
  have e3 : (m * 16 + a * 4 + b) % 4 = b := by omega
  simp only [e1, e2, e3] at h
  exact of_decide_eq_true h
theorem stp_2 {m a b : Nat} (hm : m < 16) (ha : a < 4) (hb : b < 4) : stp m a b < 16 ∧ (stp m a b = m ∨ pc m < pc (stp m a b)) ∧ (tb m 0 = true → tb (stp m a b) 0 = true) ∧ (stp m a b = m → tb m a = tb m b) := by
  have h := all_at stp_t2 (t := m * 16 + a * 4 + b) (by omega)
  have e1 : (m * 16 + a * 4 + b) / 16 = m := by omega
  have e2 : (m * 16 + a * 4 + b) / 4 % 4 = a := by omega
  have e3 : (m * 16 + a * 4 + b) % 4 = b := by omega
  simp only [e1, e2, e3] at h
  exact of_decide_eq_true h
theorem stp_3 {m U a b : Nat} (hm : m < 16) (hU : U < 16) (ha : a < 4) (hb : b < 4) (h1 : m &&& U = m) (h2 : tb U a = tb U b) : (stp m a b) &&& U = stp m a b := by
  have h := all_at stp_t3 (t := m * 256 + U * 16 + a * 4 + b) (by omega)
  have e0 : (m * 256 + U * 16 + a * 4 + b) / 256 = m := by omega
  have e1 : (m * 256 + U * 16 + a * 4 + b) / 16 % 16 = U := by omega
  have e2 : (m * 256 + U * 16 + a * 4 + b) / 4 % 4 = a := by omega
  have e3 : (m * 256 + U * 16 + a * 4 + b) % 4 = b := by omega
  simp only [e0, e1, e2, e3] at h
  exact of_decide_eq_true h h1 h2
def cutU (U : Nat) : Prop := U < 16 ∧ tb U 0 = true ∧ U ≠ 15
theorem cutU_l {U : Nat} (h : cutU U) : U = 1 ∨ U = 3 ∨ U = 5 ∨ U = 7 ∨ U = 9 ∨ U = 11 ∨ U = 13 := by
  obtain ⟨h1, h2, h3⟩ := h
  have : ∀ U, U < 16 → tb U 0 = true → U ≠ 15 → (U = 1 ∨ U = 3 ∨ U = 5 ∨ U = 7 ∨ U = 9 ∨ U = 11 ∨ U = 13) := by decide
  exact this U h1 h2 h3
theorem Tr_poly {L : Nat → Nat → Rat} (hL : symm4 L) {r : Nat} (hr : r < 4) : Tr L r = (- L 0 1) * (- L 0 2) * (- L 0 3) + (- L 0 1) * (- L 0 2) * (- L 1 3) + (- L 0 1) * (- L 0 2) * (- L 2 3) + (- L 0 1) * (- L 0 3) * (- L 1 2) + (- L 0 1) * (- L 0 3) * (- L 2 3) + (- L 0 1) * (- L 1 2) * (- L 1 3) + (- L 0 1) * (- L 1 2) * (- L 2 3) + (- L 0 1) * (- L 1 3) * (- L 2 3) + (- L 0 2) * (- L 0 3) * (- L 1 2) + (- L 0 2) * (- L 0 3) * (- L 1 3) + (- L 0 2) * (- L 1 2) * (- L 1 3) + (- L 0 2) * (- L 1 2) * (- L 2 3) + (- L 0 2) * (- L 1 3) * (- L 2 3) + (- L 0 3) * (- L 1 2) * (- L 1 3) + (- L 0 3) * (- L 1 2) * (- L 2 3) + (- L 0 3) * (- L 1 3) * (- L 2 3) := by
  obtain ⟨a1, a2, a3, a4, a5, a6, d0, d1, d2, d3⟩ := symm4_out hL
  unfold Tr Adj cof
  rw [sm4]
  rcases lt4 hr with e | e | e | e <;> subst e <;> simp only [bs, Nat.reduceAdd, Nat.reduceMod, Nat.reduceSub, Nat.reduceEqDiff, true_or, or_true, or_self, reduceIte, a1, a2, a3, a4, a5, a6, d0, d1, d2, d3] <;> grind
theorem cut0 {L : Nat → Nat → Rat} (hL : symm4 L) {r U : Nat} (hr : r < 4) (hU : cutU U) (h : ∀ u v, u < 4 → v < 4 → tb U u = true → tb U v = false → L u v = 0) : Tr L r = 0 := by
  rw [Tr_poly hL hr]
  rcases cutU_l hU with e | e | e | e | e | e | e <;> subst e
  · have z01 := h 0 1 (by omega) (by omega) (by decide) (by decide)
    have z02 := h 0 2 (by omega) (by omega) (by decide) (by decide)
    have z03 := h 0 3 (by omega) (by omega) (by decide) (by decide)
    simp only [z01, z02, z03]
    grind
  · have z02 := h 0 2 (by omega) (by omega) (by decide) (by decide)
    have z03 := h 0 3 (by omega) (by omega) (by decide) (by decide)
    have z12 := h 1 2 (by omega) (by omega) (by decide) (by decide)
    have z13 := h 1 3 (by omega) (by omega) (by decide) (by decide)
    simp only [z02, z03, z12, z13]
    grind
  · have z01 := h 0 1 (by omega) (by omega) (by decide) (by decide)
    have z03 := h 0 3 (by omega) (by omega) (by decide) (by decide)
    have z12 := (hL.1 1 2).trans (h 2 1 (by omega) (by omega) (by decide) (by decide))
    have z23 := h 2 3 (by omega) (by omega) (by decide) (by decide)
    simp only [z01, z03, z12, z23]
    grind
  · have z03 := h 0 3 (by omega) (by omega) (by decide) (by decide)
    have z13 := h 1 3 (by omega) (by omega) (by decide) (by decide)
    have z23 := h 2 3 (by omega) (by omega) (by decide) (by decide)
    simp only [z03, z13, z23]
    grind
  · have z01 := h 0 1 (by omega) (by omega) (by decide) (by decide)
    have z02 := h 0 2 (by omega) (by omega) (by decide) (by decide)
    have z13 := (hL.1 1 3).trans (h 3 1 (by omega) (by omega) (by decide) (by decide))
    have z23 := (hL.1 2 3).trans (h 3 2 (by omega) (by omega) (by decide) (by decide))
    simp only [z01, z02, z13, z23]
    grind
  · have z02 := h 0 2 (by omega) (by omega) (by decide) (by decide)
    have z12 := h 1 2 (by omega) (by omega) (by decide) (by decide)
    have z23 := (hL.1 2 3).trans (h 3 2 (by omega) (by omega) (by decide) (by decide))
    simp only [z02, z12, z23]
    grind
  · have z01 := h 0 1 (by omega) (by omega) (by decide) (by decide)
    have z12 := (hL.1 1 2).trans (h 2 1 (by omega) (by omega) (by decide) (by decide))
    have z13 := (hL.1 1 3).trans (h 3 1 (by omega) (by omega) (by decide) (by decide))
    simp only [z01, z12, z13]
    grind
theorem pat_all : ∀ a b c d e f : Bool, ((a && b && c) || (a && b && e) || (a && b && f) || (a && c && d) || (a && c && f) || (a && d && e) || (a && d && f) || (a && e && f) || (b && c && d) || (b && c && e) || (b && d && e) || (b && d && f) || (b && e && f) || (c && d && e) || (c && d && f) || (c && e && f) || (!a && !b && !c) || (!b && !c && !d && !e) || (!a && !c && !d && !f) || (!c && !e && !f) || (!a && !b && !e && !f) || (!b && !d && !f) || (!a && !d && !e)) = true := by decide
theorem conn_pos {L : Nat → Nat → Rat} (hL : symm4 L) (hn : ∀ u v, u < v → v < 4 → L u v ≤ 0) {r : Nat} (hr : r < 4) : 0 < Tr L r ∨ ∃ U, cutU U ∧ ∀ u v, u < 4 → v < 4 → tb U u = true → tb U v = false → L u v = 0 := by
  rw [Tr_poly hL hr]
  have n0 : 0 ≤ - L 0 1 := by have := hn 0 1 (by omega) (by omega); grind
  have n1 : 0 ≤ - L 0 2 := by have := hn 0 2 (by omega) (by omega); grind
  have n2 : 0 ≤ - L 0 3 := by have := hn 0 3 (by omega) (by omega); grind
  have n3 : 0 ≤ - L 1 2 := by have := hn 1 2 (by omega) (by omega); grind
  have n4 : 0 ≤ - L 1 3 := by have := hn 1 3 (by omega) (by omega); grind
  have n5 : 0 ≤ - L 2 3 := by have := hn 2 3 (by omega) (by omega); grind
  have m0 := Rat.mul_nonneg (Rat.mul_nonneg n0 n1) n2
  have m1 := Rat.mul_nonneg (Rat.mul_nonneg n0 n1) n4
  have m2 := Rat.mul_nonneg (Rat.mul_nonneg n0 n1) n5
  have m3 := Rat.mul_nonneg (Rat.mul_nonneg n0 n2) n3
  have m4 := Rat.mul_nonneg (Rat.mul_nonneg n0 n2) n5
  have m5 := Rat.mul_nonneg (Rat.mul_nonneg n0 n3) n4
  have m6 := Rat.mul_nonneg (Rat.mul_nonneg n0 n3) n5
  have m7 := Rat.mul_nonneg (Rat.mul_nonneg n0 n4) n5
  have m8 := Rat.mul_nonneg (Rat.mul_nonneg n1 n2) n3
  have m9 := Rat.mul_nonneg (Rat.mul_nonneg n1 n2) n4
  have m10 := Rat.mul_nonneg (Rat.mul_nonneg n1 n3) n4
  have m11 := Rat.mul_nonneg (Rat.mul_nonneg n1 n3) n5
  have m12 := Rat.mul_nonneg (Rat.mul_nonneg n1 n4) n5
  have m13 := Rat.mul_nonneg (Rat.mul_nonneg n2 n3) n4
  have m14 := Rat.mul_nonneg (Rat.mul_nonneg n2 n3) n5
  have m15 := Rat.mul_nonneg (Rat.mul_nonneg n2 n4) n5
  have hp := pat_all (decide (0 < - L 0 1)) (decide (0 < - L 0 2)) (decide (0 < - L 0 3)) (decide (0 < - L 1 2)) (decide (0 < - L 1 3)) (decide (0 < - L 2 3))
  simp only [Bool.or_eq_true, Bool.and_eq_true, decide_eq_true_eq, Bool.not_eq_true', decide_eq_false_iff_not] at hp
  rcases hp with (((((((((((((((((((((h | h) | h) | h) | h) | h) | h) | h) | h) | h) | h) | h) | h) | h) | h) | h) | h) | h) | h) | h) | h) | h) | h
  · have := Rat.mul_pos (Rat.mul_pos h.1.1 h.1.2) h.2
    exact Or.inl (by grind)
  · have := Rat.mul_pos (Rat.mul_pos h.1.1 h.1.2) h.2
    exact Or.inl (by grind)
  · have := Rat.mul_pos (Rat.mul_pos h.1.1 h.1.2) h.2
    exact Or.inl (by grind)
  · have := Rat.mul_pos (Rat.mul_pos h.1.1 h.1.2) h.2
    exact Or.inl (by grind)
  · have := Rat.mul_pos (Rat.mul_pos h.1.1 h.1.2) h.2
    exact Or.inl (by grind)
  · have := Rat.mul_pos (Rat.mul_pos h.1.1 h.1.2) h.2
    exact Or.inl (by grind)
  · have := Rat.mul_pos (Rat.mul_pos h.1.1 h.1.2) h.2
    exact Or.inl (by grind)
  · have := Rat.mul_pos (Rat.mul_pos h.1.1 h.1.2) h.2
    exact Or.inl (by grind)
  · have := Rat.mul_pos (Rat.mul_pos h.1.1 h.1.2) h.2
    exact Or.inl (by grind)
  · have := Rat.mul_pos (Rat.mul_pos h.1.1 h.1.2) h.2
    exact Or.inl (by grind)
  · have := Rat.mul_pos (Rat.mul_pos h.1.1 h.1.2) h.2
    exact Or.inl (by grind)
  · have := Rat.mul_pos (Rat.mul_pos h.1.1 h.1.2) h.2
    exact Or.inl (by grind)
  · have := Rat.mul_pos (Rat.mul_pos h.1.1 h.1.2) h.2
    exact Or.inl (by grind)
  · have := Rat.mul_pos (Rat.mul_pos h.1.1 h.1.2) h.2
    exact Or.inl (by grind)
  · have := Rat.mul_pos (Rat.mul_pos h.1.1 h.1.2) h.2
    exact Or.inl (by grind)
  · have := Rat.mul_pos (Rat.mul_pos h.1.1 h.1.2) h.2
    exact Or.inl (by grind)
  · refine Or.inr ⟨1, ⟨by omega, by decide, by omega⟩, fun u v hu hv h1 h2 => ?_⟩
    have z0 : L 0 1 = 0 := by have := h.1.1; grind
    have y0 : L 1 0 = 0 := by rw [hL.1]; exact z0
    have z1 : L 0 2 = 0 := by have := h.1.2; grind
    have y1 : L 2 0 = 0 := by rw [hL.1]; exact z1
    have z2 : L 0 3 = 0 := by have := h.2; grind
    have y2 : L 3 0 = 0 := by rw [hL.1]; exact z2
    rcases lt4 hu with e | e | e | e <;> subst e <;> rcases lt4 hv with e | e | e | e <;> subst e <;> first | assumption | exact absurd h1 (by decide) | exact absurd h2 (by decide)
  · refine Or.inr ⟨3, ⟨by omega, by decide, by omega⟩, fun u v hu hv h1 h2 => ?_⟩
    have z0 : L 0 2 = 0 := by have := h.1.1.1; grind
    have y0 : L 2 0 = 0 := by rw [hL.1]; exact z0
    have z1 : L 0 3 = 0 := by have := h.1.1.2; grind
    have y1 : L 3 0 = 0 := by rw [hL.1]; exact z1
    have z2 : L 1 2 = 0 := by have := h.1.2; grind
    have y2 : L 2 1 = 0 := by rw [hL.1]; exact z2
    have z3 : L 1 3 = 0 := by have := h.2; grind
    have y3 : L 3 1 = 0 := by rw [hL.1]; exact z3
    rcases lt4 hu with e | e | e | e <;> subst e <;> rcases lt4 hv with e | e | e | e <;> subst e <;> first | assumption | exact absurd h1 (by decide) | exact absurd h2 (by decide)
  · refine Or.inr ⟨5, ⟨by omega, by decide, by omega⟩, fun u v hu hv h1 h2 => ?_⟩
    have z0 : L 0 1 = 0 := by have := h.1.1.1; grind
    have y0 : L 1 0 = 0 := by rw [hL.1]; exact z0
    have z1 : L 0 3 = 0 := by have := h.1.1.2; grind
    have y1 : L 3 0 = 0 := by rw [hL.1]; exact z1
    have z2 : L 1 2 = 0 := by have := h.1.2; grind
    have y2 : L 2 1 = 0 := by rw [hL.1]; exact z2
    have z3 : L 2 3 = 0 := by have := h.2; grind
    have y3 : L 3 2 = 0 := by rw [hL.1]; exact z3
    rcases lt4 hu with e | e | e | e <;> subst e <;> rcases lt4 hv with e | e | e | e <;> subst e <;> first | assumption | exact absurd h1 (by decide) | exact absurd h2 (by decide)
  · refine Or.inr ⟨7, ⟨by omega, by decide, by omega⟩, fun u v hu hv h1 h2 => ?_⟩
    have z0 : L 0 3 = 0 := by have := h.1.1; grind
    have y0 : L 3 0 = 0 := by rw [hL.1]; exact z0
    have z1 : L 1 3 = 0 := by have := h.1.2; grind
    have y1 : L 3 1 = 0 := by rw [hL.1]; exact z1
    have z2 : L 2 3 = 0 := by have := h.2; grind
    have y2 : L 3 2 = 0 := by rw [hL.1]; exact z2
    rcases lt4 hu with e | e | e | e <;> subst e <;> rcases lt4 hv with e | e | e | e <;> subst e <;> first | assumption | exact absurd h1 (by decide) | exact absurd h2 (by decide)
  · refine Or.inr ⟨9, ⟨by omega, by decide, by omega⟩, fun u v hu hv h1 h2 => ?_⟩
    have z0 : L 0 1 = 0 := by have := h.1.1.1; grind
    have y0 : L 1 0 = 0 := by rw [hL.1]; exact z0
    have z1 : L 0 2 = 0 := by have := h.1.1.2; grind
    have y1 : L 2 0 = 0 := by rw [hL.1]; exact z1
    have z2 : L 1 3 = 0 := by have := h.1.2; grind
    have y2 : L 3 1 = 0 := by rw [hL.1]; exact z2
    have z3 : L 2 3 = 0 := by have := h.2; grind
    have y3 : L 3 2 = 0 := by rw [hL.1]; exact z3
    rcases lt4 hu with e | e | e | e <;> subst e <;> rcases lt4 hv with e | e | e | e <;> subst e <;> first | assumption | exact absurd h1 (by decide) | exact absurd h2 (by decide)
  · refine Or.inr ⟨11, ⟨by omega, by decide, by omega⟩, fun u v hu hv h1 h2 => ?_⟩
    have z0 : L 0 2 = 0 := by have := h.1.1; grind
    have y0 : L 2 0 = 0 := by rw [hL.1]; exact z0
    have z1 : L 1 2 = 0 := by have := h.1.2; grind
    have y1 : L 2 1 = 0 := by rw [hL.1]; exact z1
    have z2 : L 2 3 = 0 := by have := h.2; grind
    have y2 : L 3 2 = 0 := by rw [hL.1]; exact z2
    rcases lt4 hu with e | e | e | e <;> subst e <;> rcases lt4 hv with e | e | e | e <;> subst e <;> first | assumption | exact absurd h1 (by decide) | exact absurd h2 (by decide)
  · refine Or.inr ⟨13, ⟨by omega, by decide, by omega⟩, fun u v hu hv h1 h2 => ?_⟩
    have z0 : L 0 1 = 0 := by have := h.1.1; grind
    have y0 : L 1 0 = 0 := by rw [hL.1]; exact z0
    have z1 : L 1 2 = 0 := by have := h.1.2; grind
    have y1 : L 2 1 = 0 := by rw [hL.1]; exact z1
    have z2 : L 1 3 = 0 := by have := h.2; grind
    have y2 : L 3 1 = 0 := by rw [hL.1]; exact z2
    rcases lt4 hu with e | e | e | e <;> subst e <;> rcases lt4 hv with e | e | e | e <;> subst e <;> first | assumption | exact absurd h1 (by decide) | exact absurd h2 (by decide)
section CONN
variable {N : Net} {m : Nat}
def mN (M : z_S) (N : Net) : Prop := gF M 0 = nI N.1 ∧ ∀ k, k < N.1 → gI M 0 k = nI (N.2.1 k) ∧ gI M 1 k = nI (N.2.2.1 k) ∧ gI M 2 k = nI (N.2.2.2.1 k) ∧ gI M 3 k = nI (N.2.2.2.2 k)
def shut (N : Net) (U : Nat) : Prop := ∀ k, k < N.1 → tb U (N.2.1 k) = tb U (N.2.2.1 k)
theorem dl_np {fa fb : Nat → Nat} {k u v : Nat} (h : u ≠ v) (hk : fa k ≠ fb k) : dl fa fb k u * dl fa fb k v ≤ 0 := by
  unfold dl
  split <;> split <;> split <;> split <;> first | (exfalso; omega) | grind
theorem shut_L (hN : netOk N) {U : Nat} (h : shut N U) {u v : Nat} (h1 : tb U u = true) (h2 : tb U v = false) : LN N u v = 0 := by
  refine sm_zero fun k hk => ?_
  have hs := h k hk
  have hne : u ≠ v := fun e => by rw [e, h2] at h1; cases h1
  unfold dl
  by_cases q1 : u = N.2.1 k
  · rw [if_pos q1]
    have : v ≠ N.2.1 k := fun e => hne (q1.trans e.symm)
    have : v ≠ N.2.2.1 k := fun e => by rw [← q1, h1, ← e, h2] at hs; cases hs
    simp only [*, if_false]
    grind
  · by_cases q2 : u = N.2.2.1 k
    · have : v ≠ N.2.2.1 k := fun e => hne (q2.trans e.symm)
      have : v ≠ N.2.1 k := fun e => by rw [← q2, h1, ← e, h2] at hs; cases hs
      rw [if_neg ‹v ≠ N.2.1 k›, if_neg ‹v ≠ N.2.2.1 k›]
      grind
    · rw [if_neg q1, if_neg q2]
      grind
theorem L_shut (hN : netOk N) {U : Nat} (hU : U < 16) (h : ∀ u v, u < 4 → v < 4 → tb U u = true → tb U v = false → LN N u v = 0) : shut N U := by
  intro k hk
  obtain ⟨n1, n2, n3, n4, n5, n6⟩ := hN.2.1 k hk
  have neg : ∀ u v, u < 4 → v < 4 → u ≠ v → LN N u v = 0 → (N.2.1 k = u ∧ N.2.2.1 k = v ∨ N.2.1 k = v ∧ N.2.2.1 k = u) → False := by
    intro u v hu hv huv h0 hj
    have hterm : ∀ j, j < N.1 → (N.2.2.2.1 j : Rat) * dl N.2.1 N.2.2.1 j u * dl N.2.1 N.2.2.1 j v ≤ 0 := by
      intro j hj
      have hs := nat_nn (N.2.2.2.1 j)
      have : dl N.2.1 N.2.2.1 j u * dl N.2.1 N.2.2.1 j v ≤ 0 := by
        exact dl_np huv (hN.2.1 j hj).2.2.1
      have h2 := Rat.mul_nonneg hs (by grind : 0 ≤ - (dl N.2.1 N.2.2.1 j u * dl N.2.1 N.2.2.1 j v))
      grind
    have h1 := sm_eq0 hterm h0 k hk
    have h1 : (N.2.2.2.1 k : Rat) * dl N.2.1 N.2.2.1 k u * dl N.2.1 N.2.2.1 k v = 0 := h1
    have hp : (1 : Rat) ≤ (N.2.2.2.1 k : Rat) := by
      have : ((1 : Nat) : Rat) ≤ (N.2.2.2.1 k : Rat) := Rat.natCast_le_natCast.mpr n4
      exact this
    unfold dl at h1
    rcases hj with ⟨e1, e2⟩ | ⟨e1, e2⟩
    · rw [if_pos e1.symm, if_neg (by omega), if_neg (by omega), if_pos e2.symm] at h1
      grind
    · rw [if_neg (by omega), if_pos e2.symm, if_pos e1.symm, if_neg (by omega)] at h1
      grind
  cases q1 : tb U (N.2.1 k) <;> cases q2 : tb U (N.2.2.1 k)
  · rfl
  · exact (neg _ _ n2 n1 (fun e => n3 e.symm) (h _ _ n2 n1 q2 q1) (Or.inr ⟨rfl, rfl⟩)).elim
  · exact (neg _ _ n1 n2 n3 (h _ _ n1 n2 q1 q2) (Or.inl ⟨rfl, rfl⟩)).elim
  · rfl
/-- trees, or a cut that no line crosses -/
theorem trees_or (hN : netOk N) {r : Nat} (hr : r < 4) : (0 < Tr (LN N) r ∧ ¬ ∃ U, cutU U ∧ shut N U) ∨ (¬ 0 < Tr (LN N) r ∧ ∃ U, cutU U ∧ shut N U) := by
  have hL := symm4_N hN
  have hz : ∀ U, cutU U → shut N U → Tr (LN N) r = 0 := fun U hU hs => cut0 hL hr hU (fun u v hu hv h1 h2 => shut_L hN hs h1 h2)
  have hneg : ∀ u v, u < v → v < 4 → LN N u v ≤ 0 := by
    intro u v huv hv
    refine sm_nonpos fun j hj => ?_
    obtain ⟨n1, n2, n3, n4, n5, n6⟩ := hN.2.1 j hj
    have hs := nat_nn (N.2.2.2.1 j)
    have : dl N.2.1 N.2.2.1 j u * dl N.2.1 N.2.2.1 j v ≤ 0 := by
      exact dl_np (by omega) n3
    have h2 := Rat.mul_nonneg hs (by grind : 0 ≤ - (dl N.2.1 N.2.2.1 j u * dl N.2.1 N.2.2.1 j v))
    grind
  rcases conn_pos hL hneg hr with h | ⟨U, hU, h⟩
  · exact Or.inl ⟨h, fun ⟨U, hU, hs⟩ => by have := hz U hU hs; grind⟩
  · have hs := L_shut hN hU.1 h
    exact Or.inr ⟨by have := hz U hU hs; grind, U, hU, hs⟩
def rnd (N : Net) : Nat → Nat → Nat
  | 0, m => m
  | k + 1, m => stp (rnd N k m) (N.2.1 k) (N.2.2.1 k)
theorem rnd_ok (hN : netOk N) {x : Nat} (hx : x < 16) (h0 : tb x 0 = true) : ∀ k, k ≤ N.1 → rnd N k x < 16 ∧ tb (rnd N k x) 0 = true ∧ pc x ≤ pc (rnd N k x) ∧ (pc (rnd N k x) = pc x → rnd N k x = x ∧ ∀ j, j < k → tb x (N.2.1 j) = tb x (N.2.2.1 j)) := by
  intro k
  induction k with
  | zero => intro _; exact ⟨hx, h0, Nat.le_refl _, fun _ => ⟨rfl, fun j hj => by omega⟩⟩
  | succ k ih =>
    intro hk
    obtain ⟨a1, a2, a3, a4⟩ := ih (by omega)
    obtain ⟨n1, n2, -⟩ := hN.2.1 k (by omega)
    obtain ⟨b1, b2, b3, b4⟩ := stp_2 a1 n1 n2
    refine ⟨b1, b3 a2, ?_, fun h => ?_⟩
    · show pc x ≤ pc (stp _ _ _)
      rcases b2 with e | e
      · rw [e]; exact a3
      · omega
    · have h : pc (stp (rnd N k x) (N.2.1 k) (N.2.2.1 k)) = pc x := h
      rcases b2 with e | e
      · have h5 : pc (rnd N k x) = pc x := by rw [← h, e]
        obtain ⟨c1, c2⟩ := a4 h5
        refine ⟨?_, fun j hj => ?_⟩
        · show stp _ _ _ = x
          rw [e, c1]
        · by_cases e2 : j = k
          · subst e2
            have := b4 e
            rw [c1] at this
            exact this
          · exact c2 j (by omega)
      · omega
theorem rnd_sub (hN : netOk N) {U : Nat} (hU : U < 16) (hs : shut N U) {x : Nat} (hx : x < 16) (h0 : tb x 0 = true) (h1 : x &&& U = x) : ∀ k, k ≤ N.1 → rnd N k x &&& U = rnd N k x := by
  intro k
  induction k with
  | zero => intro _; exact h1
  | succ k ih =>
    intro hk
    obtain ⟨n1, n2, -⟩ := hN.2.1 k (by omega)
    exact stp_3 (rnd_ok hN hx h0 k (by omega)).1 hU n1 n2 (ih (by omega)) (hs k (by omega))
theorem pc_4 : ∀ x, x < 16 → (pc x ≤ 4 ∧ (pc x = 4 → x = 15)) := by decide
def thr (N : Net) : Nat := rnd N N.1 (rnd N N.1 (rnd N N.1 1))
theorem thr_iff (hN : netOk N) : thr N < 16 ∧ (thr N = 15 ↔ ¬ ∃ U, cutU U ∧ shut N U) := by
  obtain ⟨a1, a2, a3, a4⟩ := rnd_ok hN (x := 1) (by omega) (by decide) N.1 (Nat.le_refl _)
  obtain ⟨b1, b2, b3, b4⟩ := rnd_ok hN a1 a2 N.1 (Nat.le_refl _)
  obtain ⟨c1, c2, c3, c4⟩ := rnd_ok hN b1 b2 N.1 (Nat.le_refl _)
  refine ⟨c1, fun h => ?_, fun h => ?_⟩
  · rintro ⟨U, hU, hs⟩
    have e0 : 1 &&& U = 1 := by
      have : ∀ U, U < 16 → tb U 0 = true → 1 &&& U = 1 := by decide
      exact this U hU.1 hU.2.1
    have e1 := rnd_sub hN hU.1 hs (x := 1) (by omega) (by decide) e0 N.1 (Nat.le_refl _)
    have e2 := rnd_sub hN hU.1 hs a1 a2 e1 N.1 (Nat.le_refl _)
    have e3 := rnd_sub hN hU.1 hs b1 b2 e2 N.1 (Nat.le_refl _)
    have e3 : thr N &&& U = thr N := e3
    rw [h] at e3
    have : ∀ U, U < 16 → 15 &&& U = 15 → U = 15 := by decide
    exact hU.2.2 (this U hU.1 e3)
  · by_cases q : thr N = 15
    · exact q
    · refine (h ?_).elim
      have p1 : pc 1 = 1 := by decide
      have p4 := pc_4 _ c1
      by_cases q1 : pc (rnd N N.1 1) = pc 1
      · obtain ⟨s1, s2⟩ := a4 q1
        exact ⟨1, ⟨by omega, by decide, by omega⟩, s2⟩
      · by_cases q2 : pc (rnd N N.1 (rnd N N.1 1)) = pc (rnd N N.1 1)
        · obtain ⟨s1, s2⟩ := b4 q2
          refine ⟨rnd N N.1 1, ⟨a1, a2, fun e => q ?_⟩, s2⟩
          unfold thr
          rw [s1, s1, e]
        · by_cases q3 : pc (rnd N N.1 (rnd N N.1 (rnd N N.1 1))) = pc (rnd N N.1 (rnd N N.1 1))
          · obtain ⟨s1, s2⟩ := c4 q3
            refine ⟨rnd N N.1 (rnd N N.1 1), ⟨b1, b2, fun e => q ?_⟩, s2⟩
            unfold thr
            rw [s1, e]
          · exact absurd (p4.2 (by omega)) q
theorem pm_conn_in (hN : netOk N) {k4 : Int32 → Int32 → z_S → Option (Int32 × z_S)} {M : z_S} (hc : mN M N) {x : Nat} (hx : x < 16) (h0 : tb x 0 = true) {t : Nat} : ∀ q k, k ≤ N.1 → N.1 - k < q → f_M_connected_11 m k4 q (nI (rnd N k x)) (nI t) (nI k) M = k4 (nI (rnd N N.1 x)) (nI (t + 1)) M := by
  have h6 := hN.1
  intro q
  induction q with
  | zero => intro k _ h; omega
  | succ q ih =>
    intro k hk hq
    by_cases e : k = N.1
    · rw [f_M_connected_11, if_pos (by rw [hc.1]; exact nI_le (by omega) (by omega)), nI_1, e]
    · have hkc : k < N.1 := by omega
      obtain ⟨n1, n2, -⟩ := hN.2.1 k hkc
      obtain ⟨c1, c2, -⟩ := hc.2 k hkc
      have hv : vi (nI k) 6 = true := vi_n (by omega) (by omega)
      rw [f_M_connected_11, if_neg (by rw [hc.1]; exact nI_ge hkc (by omega)), ck_t hv, ck_t hv, cl_n (by omega), c1, c2]
      unfold f_M_connected_38 f_M_connected_53
      rw [nI_1]
      have hs := stp_1 (rnd_ok hN hx h0 k (by omega)).1 n1 n2
      have h1 := ih (k + 1) (by omega) (by omega)
      rw [← h1]
      by_cases q1 : (nI (rnd N k x) &&& (((1 : Int32) <<< (nI (N.2.1 k) &&& 31)) ||| ((1 : Int32) <<< (nI (N.2.2.1 k) &&& 31)))) = 0
      · rw [if_pos q1] at hs
        rw [if_pos q1, hs]
        rfl
      · rw [if_neg q1] at hs
        rw [if_neg q1, hs]
        rfl
theorem pm_conn (hN : netOk N) (hm : 8 < m) {M : z_S} (hc : mN M N) {r : Nat} (hr : r < 4) : (0 < Tr (LN N) r ∧ f_M_connected m M = some (1, M)) ∨ (¬ 0 < Tr (LN N) r ∧ f_M_connected m M = some (0, M)) := by
  have h6 := hN.1
  obtain ⟨a1, a2, a3, a4⟩ := rnd_ok hN (x := 1) (by omega) (by decide) N.1 (Nat.le_refl _)
  obtain ⟨b1, b2, b3, b4⟩ := rnd_ok hN a1 a2 N.1 (Nat.le_refl _)
  obtain ⟨t1, t2⟩ := thr_iff hN
  have e : f_M_connected m M = if nI (thr N) = 15 then some (1, M) else some (0, M) := by
    obtain ⟨q, rfl⟩ : ∃ q, m = q + 4 := ⟨m - 4, by omega⟩
    unfold f_M_connected
    rw [f_M_connected_4, if_neg (by decide)]
    rw [show f_M_connected_11 (q + 4) (f_M_connected_4 (q + 4) (q + 3)) (q + 4) 1 0 0 M = _ from pm_conn_in (m := q + 4) hN hc (x := 1) (by omega) (by decide) (t := 0) (q + 4) 0 (by omega) (by omega)]
    rw [f_M_connected_4, if_neg (by decide)]
    rw [show f_M_connected_11 (q + 4) (f_M_connected_4 (q + 4) (q + 2)) (q + 4) (nI (rnd N N.1 1)) (nI (0 + 1)) 0 M = _ from pm_conn_in (m := q + 4) hN hc a1 a2 (t := 0 + 1) (q + 4) 0 (by omega) (by omega)]
    rw [f_M_connected_4, if_neg (by decide)]
    rw [show f_M_connected_11 (q + 4) (f_M_connected_4 (q + 4) (q + 1)) (q + 4) (nI (rnd N N.1 (rnd N N.1 1))) (nI (0 + 1 + 1)) 0 M = _ from pm_conn_in (m := q + 4) hN hc b1 b2 (t := 0 + 1 + 1) (q + 4) 0 (by omega) (by omega)]
    rw [f_M_connected_4, if_pos (by decide)]
    rfl
  have hd : nI (thr N) = 15 ↔ thr N = 15 := by
    have : ∀ x, x < 16 → (nI x = 15 ↔ x = 15) := by decide
    exact this _ t1
  rcases trees_or hN hr with ⟨h1, h2⟩ | ⟨h1, h2⟩
  · exact Or.inl ⟨h1, by rw [e, if_pos (hd.mpr (t2.mpr h2))]⟩
  · exact Or.inr ⟨h1, by rw [e, if_neg (fun h => (t2.mp (hd.mp h)) h2)]⟩
end CONN
