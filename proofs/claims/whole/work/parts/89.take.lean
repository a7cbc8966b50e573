/-! the class takes the results -/
theorem nz_lN {G : Nat} (h : G < 2 ^ 63) : nz (q6 (lN G)) = G := by rw [nz_q6, pk_lT h]; rfl
theorem isZ_lN {G : Nat} : G < 2 ^ 63 → isZ (q6 (lN G)) (2 ^ 63 - 1) := fun h => by rw [q6_lN h]; exact isZ_nat (by omega)
theorem vn_lN {G : Nat} (h0 : 0 < G) (h : G < 2 ^ 63) : vn (lN G) = true := by unfold vn; simp [lN_0 h]; omega
theorem natR {U K : Nat} {y : Rat} (hU : U ≤ K) {Y : Nat} (h1 : - (Y : Rat) ≤ y) (h2 : y ≤ (Y : Rat)) : - ((K * Y : Nat) : Rat) ≤ (U : Rat) * y ∧ (U : Rat) * y ≤ ((K * Y : Nat) : Rat) := by
  have u0 := nat_nn U
  have e : ((K * Y : Nat) : Rat) = (K : Rat) * (Y : Rat) := Rat.natCast_mul K Y
  have hk : (U : Rat) ≤ (K : Rat) := Rat.natCast_le_natCast.mpr hU
  have y0 := nat_nn Y
  have a1 := Rat.mul_nonneg u0 (by grind : 0 ≤ (Y : Rat) - y)
  have a2 := Rat.mul_nonneg u0 (by grind : 0 ≤ (Y : Rat) + y)
  have a3 := Rat.mul_nonneg (by grind : 0 ≤ (K : Rat) - (U : Rat)) y0
  rw [e]
  constructor <;> grind
section TAKE
variable {N : Net} {B : Bk} {m r : Nat} {a : Rat} {t : tab} {fz : Nat → Bool}
theorem CS_tr {S T : z_S} (h : CS N B r a S t fz) (h3 : gF T 3 = gF S 3) (h4 : gF T 4 = gF S 4) (h1 : gG T 1 = gG S 1) (hj : gJ T = gJ S) (hI : ∀ k, 13 ≤ k → k ≤ 18 → gI T k = gI S k) : CS N B r a T t fz := by
  obtain ⟨p, ⟨⟨a1, a2, a3, a4⟩, a5, a6, a7, a8, a9, a10, a11⟩, l⟩ := h
  refine ⟨p, ⟨⟨a1, a2, by rw [h3]; exact a3, by rw [h4]; exact a4⟩, by rw [h1]; exact a5, by rw [hj]; exact a6, by rw [hI 13 (by omega) (by omega)]; exact a7, by rw [hI 14 (by omega) (by omega)]; exact a8, by rw [hI 15 (by omega) (by omega), hI 16 (by omega) (by omega)]; exact a9, by rw [hI 17 (by omega) (by omega)]; exact a10, by rw [hI 18 (by omega) (by omega)]; exact a11⟩, l⟩
def fsC (D : Nat) (w : Nat → Rat) (i : Nat) : Nat := nz ((D : Rat) * w i)
def flC (D : Nat) (w : Nat → Rat) (k : Nat) : Nat := nz ((D : Rat) * w (9 + k))
theorem gl_pos {D : Nat} (hD : 0 < D) (f : Nat → Nat) (k : Nat) : 0 < gl D f k ∧ gl D f k ≤ D := by
  have h := (gl_dvd D f k).1
  exact ⟨Nat.pos_of_dvd_of_pos h hD, Nat.le_of_dvd hD h⟩
def G40 (m : Nat) (G : Nat) (S : z_S) : Option (Unit × z_S) := bo (f_P_top m (15 : Int32) (sF S 6 (((gG S 1) / lN G).toInt32))) (fun v95 S95 => ck (vn (lN G)) (f_O_take_107 m m (lN G) (0 : Int32) (sG S95 2 (v95 / lN G))))
theorem pt_40 (hN : netOk N) (hB : bkOk B) (ha : a = 0 ∨ a = 1) (hm : 200 < m) {D : Nat} (hD : 0 < D) (hD2 : D ≤ 20250) (hDb : (D : Rat) = t.1) {S : z_S} (hc : CS N B r a S t fz) (hF : gF S 0 = nI N.1) : ∀ q k G, k ≤ N.1 → N.1 - k < q → 0 < G → G ≤ D → f_O_take_40 m q (lN (gl G (flC D t.2.2.2.2) k)) (nI k) S = G40 m (gl G (flC D t.2.2.2.2) N.1) S := by
  have h6 := hN.1
  intro q
  induction q with
  | zero => intro k G _ h; omega
  | succ q ih =>
    intro k G hk hq g0 gD
    have hg := gl_pos g0 (flC D t.2.2.2.2) k
    by_cases e : k = N.1
    · rw [f_O_take_40, if_pos (by rw [hF]; exact nI_le (by omega) (by omega)), if_neg (fun e2 => by have := (lN_0 (by omega)).mp e2; omega), ck_t (vn_lN hg.1 (by omega)), e]
      rfl
    · have hkc : k < N.1 := by omega
      obtain ⟨v, v1, v2, v3⟩ := cs_top (m := m) hN hB ha hc (by omega) (u := 9 + k) (by omega) (Or.inr (Or.inr (Or.inl ⟨by omega, by omega⟩)))
      rw [f_O_take_40, if_neg (by rw [hF]; exact nI_ge hkc (by omega)), nine (by omega), bo_s v1, bo_s (pn_gcd (m := m) hm (isZ_lN (by omega)) (isZ_mono v3 (by omega)) (by omega)), nI_1, nz_lN (by omega), v2, ← hDb]
      exact ih (k + 1) G (by omega) (by omega) g0 gD
theorem pt_9 (hN : netOk N) (hB : bkOk B) (ha : a = 0 ∨ a = 1) (hm : 200 < m) {D : Nat} (hD : 0 < D) (hD2 : D ≤ 20250) (hDb : (D : Rat) = t.1) {S : z_S} (hc : CS N B r a S t fz) (hF : gF S 0 = nI N.1) (hF1 : gF S 1 = nI B.1) : ∀ q k, k ≤ B.1 → B.1 - k < q → f_O_take_9 m q (lN (gl D (fsC D t.2.2.2.2) k)) (nI k) S = G40 m (gl (gl D (fsC D t.2.2.2.2) B.1) (flC D t.2.2.2.2) N.1) S := by
  have h6 := hN.1
  have h8 := hB.1
  intro q
  induction q with
  | zero => intro k _ h; omega
  | succ q ih =>
    intro k hk hq
    have hg := gl_pos hD (fsC D t.2.2.2.2) k
    by_cases e : k = B.1
    · rw [f_O_take_9, if_pos (by rw [hF1]; exact nI_le (by omega) (by omega)), e]
      have hg := gl_pos hD (fsC D t.2.2.2.2) B.1
      exact pt_40 hN hB ha hm hD hD2 hDb hc hF m 0 _ (by omega) (by omega) hg.1 hg.2
    · obtain ⟨v, v1, v2, v3⟩ := cs_top (m := m) hN hB ha hc (by omega) (u := k) (by omega) (Or.inl (by omega))
      rw [f_O_take_9, if_neg (by rw [hF1]; exact nI_ge (by omega) (by omega)), bo_s v1, bo_s (pn_gcd (m := m) hm (isZ_lN (by omega)) (isZ_mono v3 (by omega)) (by omega)), nI_1, nz_lN (by omega), v2, ← hDb]
      exact ih (k + 1) (by omega) (by omega)
def TF (S S' : z_S) : Prop := (∀ t, t ≠ 5 → t ≠ 6 → gF S' t = gF S t) ∧ (∀ k, k ≠ 2 → gG S' k = gG S k) ∧ (∀ t, t ≠ 19 → t ≠ 20 → gI S' t = gI S t) ∧ gJ S' = gJ S
theorem pt_142 (hN : netOk N) (hB : bkOk B) (ha : a = 0 ∨ a = 1) (hm : 200 < m) {G U : Nat} (hG : 0 < G) (hG2 : G ≤ 20250) (hdiv : ∀ k, k < N.1 → t.1 * t.2.2.2.2 (9 + k) = (G : Rat) * ((U : Rat) * t.2.2.2.2 (9 + k)) ∧ isZ ((U : Rat) * t.2.2.2.2 (9 + k)) 60750000) : ∀ q k (S : z_S), k ≤ N.1 → N.1 - k < q → CS N B r a S t fz → gF S 0 = nI N.1 → (∀ i, i < k → q3 (gI S 20 i) = (U : Rat) * t.2.2.2.2 (9 + i)) → ∃ S', f_O_take_142 m q (lN G) (nI k) S = some ((), S') ∧ gF S' 5 = 1 ∧ (∀ t, t ≠ 5 → gF S' t = gF S t) ∧ gG S' = gG S ∧ gJ S' = gJ S ∧ (∀ t, t ≠ 20 → gI S' t = gI S t) ∧ (∀ i, i < N.1 → q3 (gI S' 20 i) = (U : Rat) * t.2.2.2.2 (9 + i)) := by
  have h6 := hN.1
  intro q
  induction q with
  | zero => intro k S _ h; omega
  | succ q ih =>
    intro k S hk hq hc hF hd
    by_cases e : k = N.1
    · refine ⟨sF S 5 1, ?_, rfl, fun t ht => by simp only [gs, if_neg ht], rfl, rfl, fun _ _ => rfl, fun i hi => hd i (by omega)⟩
      rw [f_O_take_142, if_pos (by rw [hF]; exact nI_le (by omega) (by omega))]
    · have hkc : k < N.1 := by omega
      obtain ⟨v, v1, v2, v3⟩ := cs_top (m := m) hN hB ha hc (by omega) (u := 9 + k) (by omega) (Or.inr (Or.inr (Or.inl ⟨by omega, by omega⟩)))
      obtain ⟨z1, z2⟩ := hdiv k hkc
      have hGq : q6 (lN G) = (G : Rat) := q6_lN (by omega)
      have hG1 : (G : Rat) ≠ 0 := by
        intro h
        have : ((G : Nat) : Rat) = ((0 : Nat) : Rat) := h
        have := Rat.natCast_inj.mp this
        omega
      have e1 : q6 (v / lN G) = (U : Rat) * t.2.2.2.2 (9 + k) := q6_div (by rw [hGq]; exact hG1) (by rw [v2, hGq]; exact z1) z2 (by omega)
      have e2 : q3 (v / lN G).toInt32 = (U : Rat) * t.2.2.2.2 (9 + k) := by rw [q6_ii (by rw [e1]; exact z2) (by omega), e1]
      have hX : ∃ X, X = sI S 20 (upd (gI S 20) k (v / lN G).toInt32) := ⟨_, rfl⟩
      obtain ⟨X, hX⟩ := hX
      have iX : ∀ t, t ≠ 20 → gI X t = gI S t := fun t ht => by rw [hX]; simp only [gs, if_neg ht]
      obtain ⟨S', y1, y2, y3, y4, y5, y6, y7⟩ := ih (k + 1) X (by omega) (by omega) (CS_tr hc (by rw [hX]; rfl) (by rw [hX]; rfl) (by rw [hX]; rfl) (by rw [hX]; rfl) (fun t _ _ => iX t (by omega))) (by rw [hX]; exact hF) (fun i hi => by
        rw [hX, sI_up]
        by_cases e3 : i = k
        · rw [if_pos ⟨rfl, e3⟩, e3]; exact e2
        · rw [if_neg (fun q => e3 q.2)]; exact hd i (by omega))
      refine ⟨S', ?_, y2, fun t ht => by rw [y3 t ht, hX]; rfl, by rw [y4, hX]; rfl, by rw [y5, hX]; rfl, fun t ht => by rw [y6 t ht, iX t ht], y7⟩
      rw [f_O_take_142, if_neg (by rw [hF]; exact nI_ge hkc (by omega)), nine (by omega), bo_s v1, ck_t (vn_lN hG (by omega)), ck_t (vi_n (by omega) (by omega)), cl_n (by omega), nI_1, ← hX]
      exact y1
theorem pt_107 (hN : netOk N) (hB : bkOk B) (ha : a = 0 ∨ a = 1) (hm : 200 < m) {G U : Nat} (hG : 0 < G) (hG2 : G ≤ 20250) (hdiv : ∀ k, k < N.1 → t.1 * t.2.2.2.2 (9 + k) = (G : Rat) * ((U : Rat) * t.2.2.2.2 (9 + k)) ∧ isZ ((U : Rat) * t.2.2.2.2 (9 + k)) 60750000) (hdiv2 : ∀ k, k < B.1 → t.1 * t.2.2.2.2 k = (G : Rat) * ((U : Rat) * t.2.2.2.2 k) ∧ isZ ((U : Rat) * t.2.2.2.2 k) 60750000) : ∀ q k (S : z_S), k ≤ B.1 → B.1 - k < q → CS N B r a S t fz → gF S 0 = nI N.1 → gF S 1 = nI B.1 → (∀ i, i < k → q3 (gI S 19 i) = (U : Rat) * t.2.2.2.2 i) → ∃ S', f_O_take_107 m q (lN G) (nI k) S = some ((), S') ∧ gF S' 5 = 1 ∧ (∀ t, t ≠ 5 → gF S' t = gF S t) ∧ gG S' = gG S ∧ gJ S' = gJ S ∧ (∀ t, t ≠ 19 → t ≠ 20 → gI S' t = gI S t) ∧ (∀ i, i < B.1 → q3 (gI S' 19 i) = (U : Rat) * t.2.2.2.2 i) ∧ (∀ i, i < N.1 → q3 (gI S' 20 i) = (U : Rat) * t.2.2.2.2 (9 + i)) := by
  have h6 := hN.1
  have h8 := hB.1
  intro q
  induction q with
  | zero => intro k S _ h; omega
  | succ q ih =>
    intro k S hk hq hc hF hF1 hd
    by_cases e : k = B.1
    · obtain ⟨S', y1, y2, y3, y4, y5, y6, y7⟩ := pt_142 (m := m) (q := m) (k := 0) hN hB ha hm hG hG2 hdiv S (by omega) (by omega) hc hF (fun i hi => by omega)
      refine ⟨S', ?_, y2, y3, y4, y5, fun t _ h2 => y6 t h2, fun i hi => by rw [y6 19 (by omega)]; exact hd i (by omega), y7⟩
      rw [f_O_take_107, if_pos (by rw [hF1]; exact nI_le (by omega) (by omega))]
      exact y1
    · obtain ⟨v, v1, v2, v3⟩ := cs_top (m := m) hN hB ha hc (by omega) (u := k) (by omega) (Or.inl (by omega))
      obtain ⟨z1, z2⟩ := hdiv2 k (by omega)
      have hGq : q6 (lN G) = (G : Rat) := q6_lN (by omega)
      have hG1 : (G : Rat) ≠ 0 := by
        intro h
        have : ((G : Nat) : Rat) = ((0 : Nat) : Rat) := h
        have := Rat.natCast_inj.mp this
        omega
      have e1 : q6 (v / lN G) = (U : Rat) * t.2.2.2.2 k := q6_div (by rw [hGq]; exact hG1) (by rw [v2, hGq]; exact z1) z2 (by omega)
      have e2 : q3 (v / lN G).toInt32 = (U : Rat) * t.2.2.2.2 k := by rw [q6_ii (by rw [e1]; exact z2) (by omega), e1]
      have hX : ∃ X, X = sI S 19 (upd (gI S 19) k (v / lN G).toInt32) := ⟨_, rfl⟩
      obtain ⟨X, hX⟩ := hX
      have iX : ∀ t, t ≠ 19 → gI X t = gI S t := fun t ht => by rw [hX]; simp only [gs, if_neg ht]
      obtain ⟨S', y1, y2, y3, y4, y5, y6, y7, y8⟩ := ih (k + 1) X (by omega) (by omega) (CS_tr hc (by rw [hX]; rfl) (by rw [hX]; rfl) (by rw [hX]; rfl) (by rw [hX]; rfl) (fun t _ _ => iX t (by omega))) (by rw [hX]; exact hF) (by rw [hX]; exact hF1) (fun i hi => by
        rw [hX, sI_up]
        by_cases e3 : i = k
        · rw [if_pos ⟨rfl, e3⟩, e3]; exact e2
        · rw [if_neg (fun q => e3 q.2)]; exact hd i (by omega))
      refine ⟨S', ?_, y2, fun t ht => by rw [y3 t ht, hX]; rfl, by rw [y4, hX]; rfl, by rw [y5, hX]; rfl, fun t h1 h2 => by rw [y6 t h1 h2, iX t h1], y7, y8⟩
      rw [f_O_take_107, if_neg (by rw [hF1]; exact nI_ge (by omega) (by omega)), bo_s v1, ck_t (vn_lN hG (by omega)), ck_t (vi_n (by omega) (by omega)), cl_n (by omega), nI_1, ← hX]
      exact y1
/-- the results in whole numbers -/
theorem pt_take (hN : netOk N) (hB : bkOk B) (hr : r < 4) (ha : a = 0 ∨ a = 1) (hm : 200 < m) {S : z_S} (hc : CS N B r a S t fz) (hF : gF S 0 = nI N.1) (hF1 : gF S 1 = nI B.1) : ∃ S' U, f_O_take m S = some ((), S') ∧ TF S S' ∧ 0 < U ∧ U ≤ 20250 ∧ isSc U B.1 N.1 t.2.2.2.2 (fun k => t.2.2.2.2 (9 + k)) ∧ gF S' 5 = 1 ∧ gF S' 6 = nI U ∧ q6 (gG S' 2) = (U : Rat) * t.2.2.2.2 15 ∧ (∀ i, i < B.1 → q3 (gI S' 19 i) = (U : Rat) * t.2.2.2.2 i ∧ isZ ((U : Rat) * t.2.2.2.2 i) 60750000) ∧ (∀ i, i < N.1 → q3 (gI S' 20 i) = (U : Rat) * t.2.2.2.2 (9 + i) ∧ isZ ((U : Rat) * t.2.2.2.2 (9 + i)) 60750000) ∧ isZ ((U : Rat) * t.2.2.2.2 15) 972000000000 := by
  have h6 := hN.1
  have h8 := hB.1
  have hp := hc.1
  have hl := hc.2.2
  have hbp : 0 < t.1 := hp.1.1.1
  obtain ⟨z, ez, z1, z2⟩ := PI_b hp
  have hz0 : 0 < z := by
    rw [ez] at hbp
    have : ((0 : Int) : Rat) < (z : Rat) := hbp
    exact Rat.intCast_lt_intCast.mp this
  obtain ⟨D, hDz⟩ : ∃ D : Nat, (D : Int) = z := ⟨z.toNat, by omega⟩
  have hDb : (D : Rat) = t.1 := by rw [ez, ← hDz]; rfl
  have hD : 0 < D := by omega
  have hD2 : D ≤ 20250 := by omega
  have hG1 : gG S 1 = lN D := q6_inj.mp (by rw [hc.2.1.2.1, q6_lN (by omega), hDb])
  have hbd := fun u (hu : u < 15) (hlu : lives N B u) => good_bnd hp.1.1 hu ((hl u).mpr hlu)
  have whs : ∀ u, u < 16 → lives N B u → wh D (t.2.2.2.2 u) := fun u hu hlu => by
    obtain ⟨v, -, v2, -⟩ := cs_top (m := m) hN hB ha hc (by omega) hu hlu
    exact ⟨v.toInt, by rw [hDb, ← v2]; rfl⟩
  have w1 : ∀ i, i < B.1 → wh D (t.2.2.2.2 i) := fun i hi => whs i (by omega) (Or.inl hi)
  have w2 : ∀ i, i < N.1 → wh D (t.2.2.2.2 (9 + i)) := fun i hi => whs (9 + i) (by omega) (Or.inr (Or.inr (Or.inl ⟨by omega, by omega⟩)))
  have hGG := gl_pos hD (fsC D t.2.2.2.2) B.1
  have hGG2 := gl_pos hGG.1 (flC D t.2.2.2.2) N.1
  have hdd := gl_dvd D (fsC D t.2.2.2.2) B.1
  have hdd2 := gl_dvd (gl D (fsC D t.2.2.2.2) B.1) (flC D t.2.2.2.2) N.1
  have h9 := pt_9 (m := m) hN hB ha hm hD hD2 hDb hc hF hF1 m 0 (by omega) (by omega)
  have hGe : ∃ G, G = gl (gl D (fsC D t.2.2.2.2) B.1) (flC D t.2.2.2.2) N.1 := ⟨_, rfl⟩
  obtain ⟨G, hGe⟩ := hGe
  rw [← hGe] at h9 hGG2 hdd2
  have hGD : G ∣ D := Nat.dvd_trans hdd2.1 hdd.1
  have hUG : D / G * G = D := Nat.div_mul_cancel hGD
  have hUe : ∃ U, U = D / G := ⟨_, rfl⟩
  obtain ⟨U, hUe⟩ := hUe
  rw [← hUe] at hUG
  have hU0 : 0 < U := by
    rcases Nat.eq_zero_or_pos U with q | q
    · rw [q] at hUG; omega
    · exact q
  have hU2 : U ≤ 20250 := by
    have : U * 1 ≤ U * G := Nat.mul_le_mul_left U hGG2.1
    omega
  have q1 : ∀ i, i < B.1 → t.1 * t.2.2.2.2 i = (G : Rat) * ((U : Rat) * t.2.2.2.2 i) ∧ isZ ((U : Rat) * t.2.2.2.2 i) 60750000 := fun i hi => by
    obtain ⟨k1, k2⟩ := quo hGG2.1 hUG (w1 i hi) (Nat.dvd_trans hdd2.1 (hdd.2 i hi))
    have hb := hbd i (by omega) (Or.inl hi)
    rw [loN_j hB hi, hiN_j hi] at hb
    obtain ⟨zq, e1, e2, e3⟩ := (hB.2 i hi).2.2.2.1
    have hq : B.2.2.2.2 i ≤ ((3000 : Nat) : Rat) := by
      rw [e1]
      have : ((zq : Int) : Rat) ≤ (((3000 : Nat) : Int) : Rat) := Rat.intCast_le_intCast.mpr e3
      exact this
    have hn : (0 : Rat) ≤ ((3000 : Nat) : Rat) := nat_nn 3000
    obtain ⟨n1, n2⟩ := natR (Y := 3000) hU2 (y := t.2.2.2.2 i) (by grind) (by grind)
    exact ⟨by rw [← hDb]; exact k2, isZ_of k1 n1 n2⟩
  have q2 : ∀ i, i < N.1 → t.1 * t.2.2.2.2 (9 + i) = (G : Rat) * ((U : Rat) * t.2.2.2.2 (9 + i)) ∧ isZ ((U : Rat) * t.2.2.2.2 (9 + i)) 60750000 := fun i hi => by
    obtain ⟨k1, k2⟩ := quo hGG2.1 hUG (w2 i hi) (hdd2.2 i hi)
    have hb := hbd (9 + i) (by omega) (Or.inr (Or.inr (Or.inl ⟨by omega, by omega⟩)))
    rw [loN_k hi, hiN_k hB hi] at hb
    have hq : (N.2.2.2.2 i : Rat) ≤ ((3000 : Nat) : Rat) := Rat.natCast_le_natCast.mpr (by have := (hN.2.1 i hi).2.2.2.2.2; omega)
    obtain ⟨n1, n2⟩ := natR (Y := 3000) hU2 (y := t.2.2.2.2 (9 + i)) (by grind) (by grind)
    exact ⟨by rw [← hDb]; exact k2, isZ_of k1 n1 n2⟩
  have hw15 := ((NV_iff hN hB hr _).mp hp.1.1.2.2.2.1).2.2
  have q15 : isZ ((U : Rat) * t.2.2.2.2 15) 972000000000 := by
    rw [hw15]
    unfold wl
    rw [← sm_mul]
    refine isZ_mono (isZ_sm (K := 2000 * 60750000) (fun j hj => ?_)) (by have : B.1 * (2000 * 60750000) ≤ 8 * (2000 * 60750000) := Nat.mul_le_mul_right _ hB.1; omega)
    have dj := hB.2 j hj
    rw [show (U : Rat) * (B.2.2.1 j * B.2.2.2.1 j * t.2.2.2.2 j) = B.2.2.1 j * (B.2.2.2.1 j * ((U : Rat) * t.2.2.2.2 j)) by grind]
    exact isZ_pm dj.2.1 (isZ_mul dj.2.2.1 (q1 j hj).2)
  have hdR : (D : Rat) = (U : Rat) * (G : Rat) := by rw [← hUG]; exact Rat.natCast_mul U G
  have hX : ∃ X, X = sF S 6 ((gG S 1 / lN G).toInt32) := ⟨_, rfl⟩
  obtain ⟨X, hX⟩ := hX
  have hcX : CS N B r a X t fz := by rw [hX]; exact CS_tr hc rfl rfl rfl rfl (fun _ _ _ => rfl)
  obtain ⟨v, v1, v2, v3⟩ := cs_top (m := m) hN hB ha hcX (by omega) (u := 15) (by omega) (Or.inr (Or.inr (Or.inr (Or.inl rfl))))
  have hGq : q6 (lN G) = (G : Rat) := q6_lN (by omega)
  have hGn : (G : Rat) ≠ 0 := by
    intro h
    have : ((G : Nat) : Rat) = ((0 : Nat) : Rat) := h
    have := Rat.natCast_inj.mp this
    omega
  have e15 : q6 (v / lN G) = (U : Rat) * t.2.2.2.2 15 := q6_div (by rw [hGq]; exact hGn) (by rw [v2, hGq, ← hDb, hdR]; grind) q15 (by omega)
  have hcY : CS N B r a (sG X 2 (v / lN G)) t fz := CS_tr hcX rfl rfl (by simp only [gs, Nat.reduceEqDiff, reduceIte]) rfl (fun _ _ _ => rfl)
  obtain ⟨S', y1, y2, y3, y4, y5, y6, y7, y8⟩ := pt_107 (m := m) hN hB ha hm hGG2.1 (by omega) q2 q1 m 0 (sG X 2 (v / lN G)) (by omega) (by omega) hcY (by rw [hX]; exact hF) (by rw [hX]; exact hF1) (fun i hi => by omega)
  refine ⟨S', U, ?_, ⟨fun t h1 h2 => ?_, fun k hk => ?_, fun t h1 h2 => ?_, ?_⟩, hU0, hU2, ⟨D, hD, w1, w2, by rw [hGe] at hUG; exact hUG⟩, y2, ?_, ?_, fun i hi => ⟨y7 i hi, (q1 i hi).2⟩, fun i hi => ⟨y8 i hi, (q2 i hi).2⟩, q15⟩
  · unfold f_O_take
    rw [hG1]
    refine Eq.trans h9 ?_
    unfold G40
    rw [← hX, bo_s (show f_P_top m 15 X = some (v, X) from v1), ck_t (vn_lN hGG2.1 (by omega))]
    exact y1
  · rw [y3 t h1, hX]; simp only [gs, if_neg h2]
  · rw [y4, hX]; simp only [gs, if_neg hk]
  · rw [y6 t h1 h2, hX]; rfl
  · rw [y5, hX]; rfl
  · rw [y3 6 (by omega), hX]
    simp only [gs, reduceIte]
    rw [hG1, lN_div (by omega) (by omega), lN_i, ← hUe]
  · rw [y4]
    simp only [gs, reduceIte]
    exact e15
def cpos (s : Nat) (x : Nat → Rat) : Nat := cnt s (fun j => decide (0 < x j))
theorem pt_taken (hB : bkOk B) {U : Nat} (hU : 0 < U) {x : Nat → Rat} {S : z_S} (h : ∀ i, i < B.1 → q3 (gI S 19 i) = (U : Rat) * x i) : ∀ q k, k ≤ B.1 → B.1 - k < q → f_O_taken_4 m q (nI B.1) (nI (cpos k x)) (nI k) S = some (nI (cpos B.1 x), S) := by
  have h8 := hB.1
  have hUp : (0 : Rat) < (U : Rat) := by
    have : ((0 : Nat) : Rat) < (U : Rat) := Rat.natCast_lt_natCast.mpr hU
    exact this
  intro q
  induction q with
  | zero => intro k _ h; omega
  | succ q ih =>
    intro k hk hq
    by_cases e : k = B.1
    · rw [f_O_taken_4, if_pos (nI_le (by omega) (by omega)), e]
    · have h1 := ih (k + 1) (by omega) (by omega)
      have hs : cpos (k + 1) x = cpos k x + (if decide (0 < x k) = true then 1 else 0) := rfl
      rw [f_O_taken_4, if_neg (nI_ge (by omega) (by omega)), ck_t (vi_n (by omega) (by omega)), cl_n (by omega)]
      unfold f_O_taken_21
      rw [nI_1]
      by_cases c : 0 < x k
      · rw [if_neg (by rw [q3_le, h k (by omega)]; have := Rat.mul_pos hUp c; rw [q3_0]; grind), nI_1]
        rw [hs, if_pos (decide_eq_true c)] at h1
        exact h1
      · rw [if_pos (by rw [q3_le, h k (by omega)]; have := Rat.mul_nonneg (by grind : (0 : Rat) ≤ (U : Rat)) (by grind : 0 ≤ - x k); rw [q3_0]; grind)]
        rw [hs, if_neg (by simp [c])] at h1
        exact h1
end TAKE
