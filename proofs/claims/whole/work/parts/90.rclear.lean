/-! the reference's results -/
section RCLEAR
variable {N : Net} {B : Bk} {m : Nat} {b : Rat} {h : v3} {x : Nat → Rat}
def CFr (M M' : z_S) : Prop := gF M' = gF M ∧ (∀ k, k ≠ 4 → k ≠ 5 → gG M' k = gG M k) ∧ (∀ t, t ≠ 10 → gI M' t = gI M t) ∧ ∀ t, t ≠ 8 → t ≠ 9 → gJ M' t = gJ M t
theorem CFr_tr {M M' M'' : z_S} (h : CFr M M') (h' : CFr M' M'') : CFr M M'' := ⟨h'.1.trans h.1, fun k a c => (h'.2.1 k a c).trans (h.2.1 k a c), fun t a => (h'.2.2.1 t a).trans (h.2.2.1 t a), fun t a c => (h'.2.2.2 t a c).trans (h.2.2.2 t a c)⟩
theorem CFr_rf (M : z_S) : CFr M M := ⟨rfl, fun _ _ _ => rfl, fun _ _ => rfl, fun _ _ _ => rfl⟩
theorem mN_C {M M' : z_S} (h : CFr M M') (hM : mN M N) : mN M' N := ⟨by rw [h.1]; exact hM.1, by rw [h.2.2.1 0 (by omega), h.2.2.1 1 (by omega), h.2.2.1 2 (by omega), h.2.2.1 3 (by omega)]; exact hM.2⟩
theorem mB_C {M M' : z_S} (h : CFr M M') (hM : mB M B) : mB M' B := ⟨by rw [h.1]; exact hM.1, by rw [h.2.2.1 4 (by omega), h.2.2.1 5 (by omega), h.2.2.1 6 (by omega), h.2.2.1 7 (by omega)]; exact hM.2⟩
theorem BSt_C {M M' : z_S} (h1 : CFr M M') (hB : BSt M B b h x) : BSt M' B b h x := by
  obtain ⟨a1, a2, a3, a4⟩ := hB
  exact ⟨by rw [h1.2.1 2 (by omega) (by omega)]; exact a1, by rw [h1.2.1 3 (by omega) (by omega)]; exact a2, by rw [h1.2.2.2 7 (by omega) (by omega)]; exact a3, by rw [h1.2.2.2 6 (by omega) (by omega)]; exact a4⟩
theorem rc_27 : ∀ q n (M : z_S), n ≤ 4 → 4 - n < q → (∀ i, i < n → gI M 10 i = 0) → ∃ M', f_M_clear_27 m q (nI n) M = f_M_clear_52 m m (gG M' 2) 0 M' ∧ CFr M M' ∧ gG M' = gG M ∧ gJ M' = gJ M ∧ ∀ i, i < 4 → gI M' 10 i = 0 := by
  intro q
  induction q with
  | zero => intro n M _ h; omega
  | succ q ih =>
    intro n M hn hq h0
    by_cases e : n = 4
    · refine ⟨M, ?_, CFr_rf M, rfl, rfl, fun i hi => h0 i (by omega)⟩
      rw [f_M_clear_27, if_pos (k4le (by omega) (by omega))]
    · obtain ⟨M', y1, y2, y3, y4, y5⟩ := ih (n + 1) (sI M 10 (upd (gI M 10) n 0)) (by omega) (by omega) (fun i hi => by
        rw [sI_up]
        by_cases e2 : i = n
        · rw [if_pos ⟨rfl, e2⟩]
        · rw [if_neg (fun q => e2 q.2)]; exact h0 i (by omega))
      have hX : CFr M (sI M 10 (upd (gI M 10) n 0)) := ⟨rfl, fun _ _ _ => rfl, fun t ht => by simp only [gs, if_neg ht], fun _ _ _ => rfl⟩
      refine ⟨M', ?_, CFr_tr hX y2, y3, y4, y5⟩
      rw [f_M_clear_27, if_neg (k4ge (by omega)), ck_t (vi_n (by omega) (by omega)), cl_n (by omega), nI_1]
      exact y1
theorem rc_52 (hB : bkOk B) (hm : 200 < m) {D : Nat} (hD : 0 < D) (hD2 : D ≤ 20250) (hx : ∀ j, j < B.1 → 0 ≤ x j ∧ x j ≤ B.2.2.2.2 j) {M : z_S} (hM : mB M B) (hS : BSt M B (D : Rat) h x) : ∀ q k, k ≤ B.1 → B.1 - k < q → f_M_clear_52 m q (lN (gl D (fun i => nz ((D : Rat) * x i)) k)) (nI k) M = f_M_clear_79 m m (lN (gl D (fun i => nz ((D : Rat) * x i)) B.1)) 0 M := by
  have h8 := hB.1
  intro q
  induction q with
  | zero => intro k _ h; omega
  | succ q ih =>
    intro k hk hq
    have hg := gl_pos hD (fun i => nz ((D : Rat) * x i)) k
    by_cases e : k = B.1
    · rw [f_M_clear_52, if_pos (by rw [hM.1]; exact nI_le (by omega) (by omega)), e]
    · have e7 := hS.2.2.1 k (by omega)
      have hz := bx_Z hB hS.1.2.1 hS.1.2.2 hx (show k < B.1 by omega) e7
      rw [← e7] at hz
      rw [f_M_clear_52, if_neg (by rw [hM.1]; exact nI_ge (by omega) (by omega)), ck_t (vi_n (by omega) (by omega)), cl_n (by omega), bo_s (pm_gcd (m := m) hm (isZ_lN (by omega)) (isZ_mono hz (by omega)) (by omega)), nI_1, nz_lN (by omega), e7]
      exact ih (k + 1) (by omega) (by omega)
def R79 (m : Nat) (G : Nat) (M : z_S) : Option (Int32 × z_S) := f_M_clear_161 m m (lN G) (0 : Int32) (0 : Int32) (sG (sG M 4 ((gG M 2) / lN G)) 5 (0 : Int64))
theorem rc_79 (hN : netOk N) (hm : 200 < m) {D G0 : Nat} (hD : 0 < D) (hD2 : D ≤ 20250) (hG0 : 0 < G0) (hGD : G0 ≤ D) : ∀ q k (M : z_S), k ≤ N.1 → N.1 - k < q → mN M N → BSt M B (D : Rat) h x → (∀ i, i < k → q6 (gJ M 9 i) = (D : Rat) * dot (lpl N i) h) → ∃ M', f_M_clear_79 m q (lN (gl G0 (fun i => nz ((D : Rat) * dot (lpl N i) h)) k)) (nI k) M = R79 m (gl G0 (fun i => nz ((D : Rat) * dot (lpl N i) h)) N.1) M' ∧ CFr M M' ∧ gG M' = gG M ∧ gI M' = gI M ∧ (∀ i, i < N.1 → q6 (gJ M' 9 i) = (D : Rat) * dot (lpl N i) h) := by
  have h6 := hN.1
  intro q
  induction q with
  | zero => intro k M _ h; omega
  | succ q ih =>
    intro k M hk hq hM hS h9
    have hg := gl_pos hG0 (fun i => nz ((D : Rat) * dot (lpl N i) h)) k
    by_cases e : k = N.1
    · refine ⟨M, ?_, CFr_rf M, rfl, rfl, fun i hi => h9 i (by omega)⟩
      rw [f_M_clear_79, if_pos (by rw [hM.1]; exact nI_le (by omega) (by omega)), ck_t (vn_lN hg.1 (by omega)), e]
      rfl
    · have hkc : k < N.1 := by omega
      obtain ⟨c1, c2, c3, c4⟩ := hM.2 k hkc
      obtain ⟨n1, n2, n3, n4, n5, n6⟩ := hN.2.1 k hkc
      have hv : vi (nI k) 6 = true := vi_n (by omega) (by omega)
      have hck : (nI k).toNatClampNeg = k := cl_n (by omega)
      have va : vi (nI (N.2.1 k)) 4 = true := vi_n (by omega) (by omega)
      have vb : vi (nI (N.2.2.1 k)) 4 = true := vi_n (by omega) (by omega)
      have ka : (nI (N.2.1 k)).toNatClampNeg = N.2.1 k := cl_n (by omega)
      have kb : (nI (N.2.2.1 k)).toNatClampNeg = N.2.2.1 k := cl_n (by omega)
      have a1 := hS.2.2.2 _ n1
      have a2 := hS.2.2.2 _ n2
      have e1 : q6 (gJ M 6 (N.2.1 k) - gJ M 6 (N.2.2.1 k)) = (D : Rat) * hc h (N.2.1 k) - (D : Rat) * hc h (N.2.2.1 k) := by
        rw [q6_sub (by rw [a1.1, a2.1]; exact isZ_sub a1.2 a2.2) (by omega), a1.1, a2.1]
      have e2 : q6 (nI (N.2.2.2.1 k)).toInt64 = (N.2.2.2.1 k : Rat) := by rw [q6_i, q3_nI (by omega)]
      have e3 : (N.2.2.2.1 k : Rat) * ((D : Rat) * hc h (N.2.1 k) - (D : Rat) * hc h (N.2.2.1 k)) = (D : Rat) * dot (lpl N k) h := by rw [lpl_hc hN h hkc]; grind
      have hfz : isZ ((D : Rat) * dot (lpl N k) h) 675000000 := by
        rw [← e3]
        exact isZ_mul (K := 5) (L := 135000000) (isZ_nat n5) (isZ_sub (K := 67500000) (L := 67500000) a1.2 a2.2)
      have hc9 : ∃ c9, c9 = (nI (N.2.2.2.1 k)).toInt64 * (gJ M 6 (N.2.1 k) - gJ M 6 (N.2.2.1 k)) := ⟨_, rfl⟩
      obtain ⟨c9, hc9⟩ := hc9
      have e4 : q6 c9 = (D : Rat) * dot (lpl N k) h := by rw [hc9, q6_mul (by rw [e1, e2, e3]; exact hfz) (by omega), e1, e2, e3]
      have hX : ∃ X, X = sJ M 9 (vp_updL (gJ M 9) k c9) := ⟨_, rfl⟩
      obtain ⟨X, hX⟩ := hX
      have hC : CFr M X := by rw [hX]; exact ⟨rfl, fun _ _ _ => rfl, fun _ _ => rfl, fun t _ ht => by rw [sJ_at, if_neg ht]⟩
      have x9 : ∀ i, gJ X 9 i = if i = k then c9 else gJ M 9 i := fun i => by
        rw [hX, sJ_up]
        by_cases c : i = k
        · rw [if_pos ⟨rfl, c⟩, if_pos c]
        · rw [if_neg (fun q => c q.2), if_neg c]
      obtain ⟨M', y1, y2, y3, y4, y5⟩ := ih (k + 1) X (by omega) (by omega) (mN_C hC hM) (BSt_C hC hS) (fun i hi => by
        rw [x9]
        by_cases c : i = k
        · rw [if_pos c, c]; exact e4
        · rw [if_neg c]; exact h9 i (by omega))
      refine ⟨M', ?_, CFr_tr hC y2, by rw [y3, hX]; rfl, by rw [y4, hX]; rfl, y5⟩
      rw [f_M_clear_79, if_neg (by rw [hM.1]; exact nI_ge hkc (by omega)), ck_t hv, ck_t hv, hck, c1, c2, c3, ck_t va, ck_t hv, ck_t vb, ck_t hv, ka, kb, ← hc9, ← hX]
      unfold f_M_clear_124
      rw [ck_t hv, hck, x9, if_pos rfl, bo_s (pm_gcd (m := m) hm (isZ_lN (by omega)) (by rw [e4]; exact isZ_mono hfz (by omega)) (by omega)), nI_1, nz_lN (by omega), e4]
      exact y1
theorem rc_274 (hN : netOk N) {G U : Nat} (hG : 0 < G) (hG2 : G ≤ 20250) {f : Nat → Rat} (hdiv : ∀ k, k < N.1 → isZ ((U : Rat) * f k) 60750000) {x3 : Int32} : ∀ q k (M : z_S), k ≤ N.1 → N.1 - k < q → mN M N → (∀ i, i < k → q6 (gJ M 9 i) = (U : Rat) * f i) → (∀ i, k ≤ i → i < N.1 → q6 (gJ M 9 i) = (G : Rat) * ((U : Rat) * f i)) → ∃ M', f_M_clear_274 m q (lN G) x3 (nI k) M = some (x3, M') ∧ gF M' = gF M ∧ gG M' = gG M ∧ gI M' = gI M ∧ (∀ t, t ≠ 9 → gJ M' t = gJ M t) ∧ (∀ i, i < N.1 → q6 (gJ M' 9 i) = (U : Rat) * f i) := by
  have h6 := hN.1
  have hGq : q6 (lN G) = (G : Rat) := q6_lN (by omega)
  have hGn : (G : Rat) ≠ 0 := by
    intro h
    have : ((G : Nat) : Rat) = ((0 : Nat) : Rat) := h
    have := Rat.natCast_inj.mp this
    omega
  intro q
  induction q with
  | zero => intro k M _ h; omega
  | succ q ih =>
    intro k M hk hq hM h1 h2
    by_cases e : k = N.1
    · refine ⟨M, ?_, rfl, rfl, rfl, fun _ _ => rfl, fun i hi => h1 i (by omega)⟩
      rw [f_M_clear_274, if_pos (by rw [hM.1]; exact nI_le (by omega) (by omega))]
    · have hkc : k < N.1 := by omega
      have e1 : q6 (gJ M 9 k / lN G) = (U : Rat) * f k := q6_div (by rw [hGq]; exact hGn) (by rw [hGq]; exact h2 k (Nat.le_refl _) hkc) (hdiv k hkc) (by omega)
      have hX : ∃ X, X = sJ M 9 (vp_updL (gJ M 9) k (gJ M 9 k / lN G)) := ⟨_, rfl⟩
      obtain ⟨X, hX⟩ := hX
      have x9 : ∀ i, gJ X 9 i = if i = k then gJ M 9 k / lN G else gJ M 9 i := fun i => by
        rw [hX, sJ_up]
        by_cases c : i = k
        · rw [if_pos ⟨rfl, c⟩, if_pos c]
        · rw [if_neg (fun q => c q.2), if_neg c]
      obtain ⟨M', y1, y2, y3, y4, y5, y6⟩ := ih (k + 1) X (by omega) (by omega) (by rw [hX]; exact hM) (fun i hi => by
        rw [x9]
        by_cases c : i = k
        · rw [if_pos c, c]; exact e1
        · rw [if_neg c]; exact h1 i (by omega)) (fun i i1 i2 => by rw [x9, if_neg (by omega)]; exact h2 i (by omega) i2)
      refine ⟨M', ?_, by rw [y2, hX]; rfl, by rw [y3, hX]; rfl, by rw [y4, hX]; rfl, fun t ht => by rw [y5 t ht, hX, sJ_at, if_neg ht], y6⟩
      rw [f_M_clear_274, if_neg (by rw [hM.1]; exact nI_ge hkc (by omega)), ck_t (vi_n (by omega) (by omega)), ck_t (vn_lN hG (by omega)), ck_t (vi_n (by omega) (by omega)), cl_n (by omega), nI_1, ← hX]
      exact y1
theorem rc_161 (hN : netOk N) (hB : bkOk B) (hm : 200 < m) {G U : Nat} (hG : 0 < G) (hG2 : G ≤ 20250) (hU : 0 < U) {f : Nat → Rat} (hdiv : ∀ k, k < N.1 → isZ ((U : Rat) * f k) 60750000) (hdiv2 : ∀ k, k < B.1 → isZ ((U : Rat) * x k) 60750000) : ∀ q k (M : z_S), k ≤ B.1 → B.1 - k < q → mN M N → mB M B → (∀ i, i < k → q6 (gJ M 8 i) = (U : Rat) * x i) → (∀ i, i < B.1 → q6 (gJ M 7 i) = (G : Rat) * ((U : Rat) * x i)) → (∀ i, i < N.1 → q6 (gJ M 9 i) = (G : Rat) * ((U : Rat) * f i)) → q6 (gG M 5) = (U : Rat) * sm k (fun j => B.2.2.1 j * B.2.2.2.1 j * x j) → ∃ M', f_M_clear_161 m q (lN G) (nI (cpos k x)) (nI k) M = some (nI (cpos B.1 x), M') ∧ gF M' = gF M ∧ (∀ k, k ≠ 5 → gG M' k = gG M k) ∧ gI M' = gI M ∧ (∀ t, t ≠ 8 → t ≠ 9 → gJ M' t = gJ M t) ∧ (∀ i, i < B.1 → q6 (gJ M' 8 i) = (U : Rat) * x i) ∧ (∀ i, i < N.1 → q6 (gJ M' 9 i) = (U : Rat) * f i) ∧ q6 (gG M' 5) = (U : Rat) * wl B x := by
  have h8 := hB.1
  have h6 := hN.1
  have hUp : (0 : Rat) < (U : Rat) := by
    have : ((0 : Nat) : Rat) < (U : Rat) := Rat.natCast_lt_natCast.mpr hU
    exact this
  have hGq : q6 (lN G) = (G : Rat) := q6_lN (by omega)
  have hGn : (G : Rat) ≠ 0 := by
    intro h
    have : ((G : Nat) : Rat) = ((0 : Nat) : Rat) := h
    have := Rat.natCast_inj.mp this
    omega
  intro q
  induction q with
  | zero => intro k M _ h; omega
  | succ q ih =>
    intro k M hk hq hM hMB a8 a7 a9 a5
    by_cases e : k = B.1
    · obtain ⟨M', y1, y2, y3, y4, y5, y6⟩ := rc_274 (m := m) (U := U) (f := f) (x3 := nI (cpos k x)) hN hG hG2 hdiv m 0 M (by omega) (by omega) hM (fun i hi => by omega) (fun i _ hi => a9 i hi)
      refine ⟨M', ?_, y2, fun k _ => by rw [y3], y4, fun t _ ht => y5 t ht, fun i hi => by rw [y5 8 (by omega)]; exact a8 i (by omega), y6, by rw [y3, a5, e]; rfl⟩
      rw [f_M_clear_161, if_pos (by rw [hMB.1]; exact nI_le (by omega) (by omega))]
      rw [e] at y1 ⊢
      exact y1
    · have hks : k < B.1 := by omega
      obtain ⟨b1, b2, b3, b4⟩ := hMB.2 k hks
      obtain ⟨d1, d2, d3, d4, d5⟩ := hB.2 k hks
      have hvk : vi (nI k) 8 = true := vi_n (by omega) (by omega)
      have hck : (nI k).toNatClampNeg = k := cl_n (by omega)
      have e1 : q6 (gJ M 7 k / lN G) = (U : Rat) * x k := q6_div (by rw [hGq]; exact hGn) (by rw [hGq]; exact a7 k hks) (hdiv2 k hks) (by omega)
      have hX : ∃ X, X = sJ M 8 (vp_updL (gJ M 8) k (gJ M 7 k / lN G)) := ⟨_, rfl⟩
      obtain ⟨X, hX⟩ := hX
      have x8 : ∀ i, gJ X 8 i = if i = k then gJ M 7 k / lN G else gJ M 8 i := fun i => by
        rw [hX, sJ_up]
        by_cases c : i = k
        · rw [if_pos ⟨rfl, c⟩, if_pos c]
        · rw [if_neg (fun q => c q.2), if_neg c]
      have xj : ∀ t, t ≠ 8 → gJ X t = gJ M t := fun t ht => by rw [hX, sJ_at, if_neg ht]
      have xI : gI X = gI M := by rw [hX]; rfl
      have xG : gG X = gG M := by rw [hX]; rfl
      have xF : gF X = gF M := by rw [hX]; rfl
      have hpz := isZ_mul d3 (hdiv2 k hks)
      have e2 : q6 ((gI X 6 k).toInt64 * gJ X 8 k) = B.2.2.2.1 k * ((U : Rat) * x k) := by
        rw [xI, x8, if_pos rfl, q6_mul (by rw [q6_i, b3, e1]; exact hpz) (by omega), q6_i, b3, e1]
      have hgz : isZ (q6 (gG M 5)) (8 * (2000 * 60750000)) := by
        rw [a5, ← sm_mul]
        refine isZ_mono (isZ_sm (K := 2000 * 60750000) (fun j hj => ?_)) (by have : k * (2000 * 60750000) ≤ 8 * (2000 * 60750000) := Nat.mul_le_mul_right _ (by omega); exact this)
        have dj := hB.2 j (by omega)
        rw [show (U : Rat) * (B.2.2.1 j * B.2.2.2.1 j * x j) = B.2.2.1 j * (B.2.2.2.1 j * ((U : Rat) * x j)) by grind]
        exact isZ_pm dj.2.1 (isZ_mul dj.2.2.1 (hdiv2 j (by omega)))
      have hs5 : (U : Rat) * sm (k + 1) (fun j => B.2.2.1 j * B.2.2.2.1 j * x j) = (U : Rat) * sm k (fun j => B.2.2.1 j * B.2.2.2.1 j * x j) + (U : Rat) * (B.2.2.1 k * B.2.2.2.1 k * x k) := by show (U : Rat) * (sm k _ + _) = _; grind
      have fin : ∀ v : Int64, q6 v = (U : Rat) * sm (k + 1) (fun j => B.2.2.1 j * B.2.2.2.1 j * x j) → ∃ M', f_M_clear_262 m (f_M_clear_161 m q) (lN G) (nI (cpos (k + 1) x)) (nI k) v X = some (nI (cpos B.1 x), M') ∧ gF M' = gF M ∧ (∀ k, k ≠ 5 → gG M' k = gG M k) ∧ gI M' = gI M ∧ (∀ t, t ≠ 8 → t ≠ 9 → gJ M' t = gJ M t) ∧ (∀ i, i < B.1 → q6 (gJ M' 8 i) = (U : Rat) * x i) ∧ (∀ i, i < N.1 → q6 (gJ M' 9 i) = (U : Rat) * f i) ∧ q6 (gG M' 5) = (U : Rat) * wl B x := by
        intro v hv
        obtain ⟨M', y1, y2, y3, y4, y5, y6, y7, y8⟩ := ih (k + 1) (sG X 5 v) (by omega) (by omega) (by rw [hX]; exact hM) (by rw [hX]; exact hMB) (fun i hi => by
          show q6 (gJ X 8 i) = _
          rw [x8]
          by_cases c : i = k
          · rw [if_pos c, c]; exact e1
          · rw [if_neg c]; exact a8 i (by omega)) (fun i hi => by show q6 (gJ X 7 i) = _; rw [xj 7 (by omega)]; exact a7 i hi) (fun i hi => by show q6 (gJ X 9 i) = _; rw [xj 9 (by omega)]; exact a9 i hi) (by simp only [gs, reduceIte]; exact hv)
        refine ⟨M', ?_, by rw [y2]; exact xF, fun k hk => by rw [y3 k hk]; simp only [gs, if_neg hk]; rw [xG], by rw [y4]; exact xI, fun t h1 h2 => by rw [y5 t h1 h2]; exact xj t h1, y6, y7, y8⟩
        unfold f_M_clear_262
        rw [nI_1]
        exact y1
      have go : ∃ M', f_M_clear_205 m (f_M_clear_161 m q) (lN G) (nI k) (nI (cpos (k + 1) x)) X = some (nI (cpos B.1 x), M') ∧ gF M' = gF M ∧ (∀ k, k ≠ 5 → gG M' k = gG M k) ∧ gI M' = gI M ∧ (∀ t, t ≠ 8 → t ≠ 9 → gJ M' t = gJ M t) ∧ (∀ i, i < B.1 → q6 (gJ M' 8 i) = (U : Rat) * x i) ∧ (∀ i, i < N.1 → q6 (gJ M' 9 i) = (U : Rat) * f i) ∧ q6 (gG M' 5) = (U : Rat) * wl B x := by
        unfold f_M_clear_205
        rw [ck_t hvk, hck]
        rcases b1 with ⟨x1, x2⟩ | ⟨x1, x2⟩
        · rw [show gI X 4 k = 1 by rw [xI]; exact x1, if_neg (by decide), ck_t hvk, ck_t hvk]
          exact fin _ (by rw [hs5, q6_add (by rw [e2, xG]; exact isZ_add hgz hpz) (by omega), e2, xG, a5, x2]; grind)
        · rw [show gI X 4 k = 0 by rw [xI]; exact x1, if_pos rfl, ck_t hvk, ck_t hvk]
          exact fin _ (by rw [hs5, q6_sub (by rw [e2, xG]; exact isZ_sub hgz hpz) (by omega), e2, xG, a5, x2]; grind)
      have hs : cpos (k + 1) x = cpos k x + (if decide (0 < x k) = true then 1 else 0) := rfl
      rw [f_M_clear_161, if_neg (by rw [hMB.1]; exact nI_ge hks (by omega)), ck_t hvk, ck_t (vn_lN hG (by omega)), ck_t hvk, ck_t hvk, hck, ← hX, x8, if_pos rfl]
      by_cases c : 0 < x k
      · rw [if_neg (by rw [q6_le, e1]; have := Rat.mul_pos hUp c; rw [q6_0]; grind), nI_1]
        rw [hs, if_pos (decide_eq_true c)] at go
        exact go
      · rw [if_pos (by rw [q6_le, e1]; have := Rat.mul_nonneg (by grind : (0 : Rat) ≤ (U : Rat)) (by grind : 0 ≤ - x k); rw [q6_0]; grind)]
        rw [hs, if_neg (by simp [c])] at go
        exact go
/-- the reference's results, from the best that the search kept -/
theorem rc_clear (hN : netOk N) (hB : bkOk B) (hm : 200 < m) (hx : ∀ j, j < B.1 → 0 ≤ x j ∧ x j ≤ B.2.2.2.2 j) (hl : linesOk N h) {M : z_S} (hM : mN M N) (hMB : mB M B) (hS : BSt M B b h x) : ∃ M' U, f_M_clear_27 m m 0 M = some (nI (cpos B.1 x), M') ∧ CFr M M' ∧ 0 < U ∧ U ≤ 20250 ∧ isSc U B.1 N.1 x (fun k => dot (lpl N k) h) ∧ gG M' 4 = lN U ∧ q6 (gG M' 5) = (U : Rat) * wl B x ∧ (∀ i, i < B.1 → q6 (gJ M' 8 i) = (U : Rat) * x i) ∧ (∀ i, i < N.1 → q6 (gJ M' 9 i) = (U : Rat) * dot (lpl N i) h) ∧ ∀ i, i < 4 → gI M' 10 i = 0 := by
  have h6 := hN.1
  have h8 := hB.1
  obtain ⟨z, ez, z1, z2⟩ := hS.1.2.2
  have hz0 : 0 < z := by
    have hbp := hS.1.2.1
    rw [ez] at hbp
    have : ((0 : Int) : Rat) < (z : Rat) := hbp
    exact Rat.intCast_lt_intCast.mp this
  obtain ⟨D, hDz⟩ : ∃ D : Nat, (D : Int) = z := ⟨z.toNat, by omega⟩
  have hDb : b = (D : Rat) := by rw [ez, ← hDz]; rfl
  have hD : 0 < D := by omega
  have hD2 : D ≤ 20250 := by omega
  subst hDb
  obtain ⟨X, x1, x2, x3, x4, x5⟩ := rc_27 (m := m) m 0 M (by omega) (by omega) (fun i hi => by omega)
  have hSX := BSt_C x2 hS
  have hG2 : gG X 2 = lN D := q6_inj.mp (by rw [hSX.1.1, q6_lN (by omega)])
  have e52 := rc_52 (m := m) hB hm hD hD2 hx (mB_C x2 hMB) hSX m 0 (by omega) (by omega)
  have hGG := gl_pos hD (fun i => nz ((D : Rat) * x i)) B.1
  obtain ⟨Y, y1, y2, y3, y4, y5⟩ := rc_79 (m := m) (G0 := gl D (fun i => nz ((D : Rat) * x i)) B.1) hN hm hD hD2 hGG.1 hGG.2 m 0 X (by omega) (by omega) (mN_C x2 hM) hSX (fun i hi => by omega)
  have hGG2 := gl_pos hGG.1 (fun i => nz ((D : Rat) * dot (lpl N i) h)) N.1
  have hdd := gl_dvd D (fun i => nz ((D : Rat) * x i)) B.1
  have hdd2 := gl_dvd (gl D (fun i => nz ((D : Rat) * x i)) B.1) (fun i => nz ((D : Rat) * dot (lpl N i) h)) N.1
  have hGe : ∃ G, G = gl (gl D (fun i => nz ((D : Rat) * x i)) B.1) (fun i => nz ((D : Rat) * dot (lpl N i) h)) N.1 := ⟨_, rfl⟩
  obtain ⟨G, hGe⟩ := hGe
  rw [← hGe] at y1 hGG2 hdd2
  have hGD : G ∣ D := Nat.dvd_trans hdd2.1 hdd.1
  have hUG : D / G * G = D := Nat.div_mul_cancel hGD
  have hUe : ∃ U, U = D / G := ⟨_, rfl⟩
  obtain ⟨U, hUe⟩ := hUe
  rw [← hUe] at hUG
  have hU0 : 0 < U := by
    rcases Nat.eq_zero_or_pos U with q | q
    · rw [q] at hUG; omega
    · exact q
  have hU2 : U ≤ 20250 := by
    have : U * 1 ≤ U * G := Nat.mul_le_mul_left U hGG2.1
    omega
  have w1 : ∀ i, i < B.1 → wh D (x i) := fun i hi => ⟨(gJ M 7 i).toInt, hS.2.2.1 i hi⟩
  have w2 : ∀ i, i < N.1 → wh D (dot (lpl N i) h) := fun i hi => ⟨(gJ Y 9 i).toInt, y5 i hi⟩
  have q1 : ∀ i, i < B.1 → (D : Rat) * x i = (G : Rat) * ((U : Rat) * x i) ∧ isZ ((U : Rat) * x i) 60750000 := fun i hi => by
    obtain ⟨k1, k2⟩ := quo hGG2.1 hUG (w1 i hi) (Nat.dvd_trans hdd2.1 (hdd.2 i hi))
    have hb := hx i hi
    obtain ⟨zq, e1, e2, e3⟩ := (hB.2 i hi).2.2.2.1
    have hq : B.2.2.2.2 i ≤ ((3000 : Nat) : Rat) := by
      rw [e1]
      have : ((zq : Int) : Rat) ≤ (((3000 : Nat) : Int) : Rat) := Rat.intCast_le_intCast.mpr e3
      exact this
    have hn : (0 : Rat) ≤ ((3000 : Nat) : Rat) := nat_nn 3000
    obtain ⟨n1, n2⟩ := natR (Y := 3000) hU2 (y := x i) (by grind) (by grind)
    exact ⟨k2, isZ_of k1 n1 n2⟩
  have q2 : ∀ i, i < N.1 → (D : Rat) * dot (lpl N i) h = (G : Rat) * ((U : Rat) * dot (lpl N i) h) ∧ isZ ((U : Rat) * dot (lpl N i) h) 60750000 := fun i hi => by
    obtain ⟨k1, k2⟩ := quo hGG2.1 hUG (w2 i hi) (hdd2.2 i hi)
    have hb := hl i hi
    have hq : (N.2.2.2.2 i : Rat) ≤ ((3000 : Nat) : Rat) := Rat.natCast_le_natCast.mpr (by have := (hN.2.1 i hi).2.2.2.2.2; omega)
    obtain ⟨n1, n2⟩ := natR (Y := 3000) hU2 (y := dot (lpl N i) h) (by grind) (by grind)
    exact ⟨k2, isZ_of k1 n1 n2⟩
  have hZ : ∃ Z, Z = sG (sG Y 4 ((gG Y 2) / lN G)) 5 (0 : Int64) := ⟨_, rfl⟩
  obtain ⟨Z, hZ⟩ := hZ
  have hCZ : CFr Y Z := by rw [hZ]; exact ⟨rfl, fun k h4 h5 => by simp only [gs, if_neg h4, if_neg h5], fun _ _ => rfl, fun _ _ _ => rfl⟩
  have hxy := CFr_tr x2 y2
  have hxz := CFr_tr hxy hCZ
  have jZ : gJ Z = gJ Y := by rw [hZ]; rfl
  obtain ⟨M', u1, u2, u3, u4, u5, u6, u7, u8⟩ := rc_161 (m := m) (x := x) (f := fun k => dot (lpl N k) h) hN hB hm hGG2.1 (by omega) hU0 (fun k hk => (q2 k hk).2) (fun k hk => (q1 k hk).2) m 0 Z (by omega) (by omega) (mN_C hxz hM) (mB_C hxz hMB) (fun i hi => by omega) (fun i hi => by rw [jZ, y2.2.2.2 7 (by omega) (by omega), hSX.2.2.1 i hi]; exact (q1 i hi).1) (fun i hi => by rw [jZ, y5 i hi]; exact (q2 i hi).1) (by rw [hZ]; show (0 : Rat) = _ * 0; grind)
  refine ⟨M', U, ?_, CFr_tr hxz ⟨u2, fun k _ h5 => u3 k h5, fun t _ => by rw [u4], u5⟩, hU0, hU2, ⟨D, hD, w1, w2, by rw [hGe] at hUG; exact hUG⟩, ?_, u8, u6, u7, fun i hi => ?_⟩
  · refine Eq.trans x1 ?_
    rw [hG2]
    refine Eq.trans e52 (Eq.trans y1 ?_)
    unfold R79
    rw [← hZ]
    exact u1
  · rw [u3 4 (by omega), hZ]
    simp only [gs, Nat.reduceEqDiff, reduceIte]
    rw [y3, hG2, lN_div (by omega) (by omega), ← hUe]
  · rw [u4, show gI Z = gI Y by rw [hZ]; rfl, y4]
    exact x5 i hi
end RCLEAR
