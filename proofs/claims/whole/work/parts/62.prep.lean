/-! the program's cells stand for a table -/
def PRep (S : z_S) (R n : Nat) (s : tab) (lo hi : Nat → Rat) (fz : Nat → Bool) : Prop :=
  (R ≤ 8 ∧ n ≤ 8 ∧ gF S 3 = nI R ∧ gF S 4 = nI n) ∧ q6 (gG S 1) = s.1 ∧ (∀ i j, i < R → j < n → q6 (gJ S (8 + i) j) = s.2.1 i j) ∧ (∀ i, i < R → gI S 13 i = nI (s.2.2.1 i) ∧ s.2.2.1 i < 16) ∧ (∀ j, j < n → gI S 14 j = nI (s.2.2.2.1 j)) ∧ (∀ u, u < 15 → live (R + 3) n s u → q3 (gI S 15 u) = lo u ∧ q3 (gI S 16 u) = hi u) ∧ (∀ j, j < n → q3 (gI S 17 (s.2.2.2.1 j)) = s.2.2.2.2 (s.2.2.2.1 j)) ∧ (∀ j, j < n → gI S 18 j = bI (fz j))
def bnds (lo hi : Nat → Rat) : Prop := ∀ u, u < 15 → isZ (lo u) 3000 ∧ isZ (hi u) 3000
section PREP
variable {S : z_S} {R n m : Nat} {isG : Nat → Prop} {pl : Nat → v3} {gr : Nat → Nat} {sg pw : Nat → Rat} {lo hi : Nat → Rat} {s : tab} {fz : Nat → Bool}
theorem pr_cell (h : PI (R + 3) n isG pl gr sg pw lo hi s) (hr : PRep S R n s lo hi fz) {i j : Nat} (hi0 : i < R) (hj : j < n) : isZ (s.2.1 i j) 607500000 := by
  have := (hr.2.2.2.1 i hi0).2
  by_cases e : s.2.2.1 i = 15
  · exact PI_worth h (by omega) hj e
  · exact isZ_mono (PI_cell h (by omega) hj (by omega)) (by omega)
theorem pr_col15 (h : PI (R + 3) n isG pl gr sg pw lo hi s) {j : Nat} (hj : j < n) : s.2.2.2.1 j < 15 := (h.1.1.2.2.2.2.1 j hj).1
theorem pr_w (h : PI (R + 3) n isG pl gr sg pw lo hi s) (hb : bnds lo hi) {j : Nat} (hj : j < n) : isZ (s.2.2.2.2 (s.2.2.2.1 j)) 3000 := by
  obtain ⟨a1, a2, a3⟩ := h.1.1.2.2.2.2.1 j hj
  rcases a3 with a3 | a3
  · rw [a3]; exact (hb _ a1).1
  · rw [a3]; exact (hb _ a1).2
theorem pr_rowTop_5 (h : PI (R + 3) n isG pl gr sg pw lo hi s) (hr : PRep S R n s lo hi fz) (hb : bnds lo hi) {i : Nat} (hi0 : i < R) : ∀ q j (acc : Int64), j ≤ n → n - j < q → q6 acc = sm j (fun k => s.2.1 i k * s.2.2.2.2 (s.2.2.2.1 k)) → ∃ v, f_P_rowTop_5 m q (nI i) acc (nI j) S = some (v, S) ∧ q6 v = sm n (fun k => s.2.1 i k * s.2.2.2.2 (s.2.2.2.1 k)) := by
  obtain ⟨⟨r1, r2, r3, r4⟩, r5, r6, r7, r8, r9, r10, r11⟩ := hr
  have hr : PRep S R n s lo hi fz := ⟨⟨r1, r2, r3, r4⟩, r5, r6, r7, r8, r9, r10, r11⟩
  intro q
  induction q with
  | zero => intro j acc _ h; omega
  | succ q ih =>
    intro j acc hj hq hacc
    by_cases e : j = n
    · subst e
      refine ⟨acc, ?_, hacc⟩
      rw [f_P_rowTop_5, if_pos (by rw [r4]; exact nI_le (Nat.le_refl _) (by omega))]
    · have hjn : j < n := by omega
      have hc15 := pr_col15 h hjn
      have hz : ∀ k, k < j + 1 → isZ (s.2.1 i k * s.2.2.2.2 (s.2.2.2.1 k)) (607500000 * 3000) := fun k hk => isZ_mul (pr_cell h hr hi0 (by omega)) (pr_w h hb (by omega))
      have e1 : q6 (gJ S (8 + i) j * (gI S 17 (s.2.2.2.1 j)).toInt64) = s.2.1 i j * s.2.2.2.2 (s.2.2.2.1 j) := by
        have e2 : q6 (gJ S (8 + i) j) * q6 (gI S 17 (s.2.2.2.1 j)).toInt64 = s.2.1 i j * s.2.2.2.2 (s.2.2.2.1 j) := by rw [r6 i j hi0 hjn, q6_i, r10 j hjn]
        rw [q6_mul (K := 607500000 * 3000) (by rw [e2]; exact hz j (by omega)) (by omega), e2]
      have e3 : q6 (acc + gJ S (8 + i) j * (gI S 17 (s.2.2.2.1 j)).toInt64) = sm (j + 1) (fun k => s.2.1 i k * s.2.2.2.2 (s.2.2.2.1 k)) := by
        have e4 : q6 acc + q6 (gJ S (8 + i) j * (gI S 17 (s.2.2.2.1 j)).toInt64) = sm (j + 1) (fun k => s.2.1 i k * s.2.2.2.2 (s.2.2.2.1 k)) := by rw [hacc, e1]; rfl
        have e5 : (j + 1) * (607500000 * 3000) ≤ 9 * (607500000 * 3000) := Nat.mul_le_mul_right _ (by omega)
        rw [q6_add (K := 9 * (607500000 * 3000)) (by rw [e4]; exact isZ_mono (isZ_sm hz) e5) (by omega), e4]
      obtain ⟨v, h1, h2⟩ := ih (j + 1) _ (by omega) (by omega) e3
      refine ⟨v, ?_, h2⟩
      rw [f_P_rowTop_5, if_neg (by rw [r4]; exact nI_ge hjn (by omega)), ck_t (vi_n (by omega) (by omega)), ck_t (vi_n (by omega) (by omega)), ck_t (vi_n (by omega) (by omega)), cl_n (by omega), cl_n (by omega), r8 j hjn, ck_t (vi_n (by omega) (by omega)), cl_n (by omega)]
      unfold f_P_rowTop_40
      rw [nI_1]
      exact h1
/-- what a row stands at, times bottom -/
theorem pr_rowTop (h : PI (R + 3) n isG pl gr sg pw lo hi s) (hr : PRep S R n s lo hi fz) (hb : bnds lo hi) (hm : 8 < m) {i : Nat} (hi0 : i < R) : ∃ v, f_P_rowTop m (nI i) S = some (v, S) ∧ q6 v = s.1 * s.2.2.2.2 (s.2.2.1 i) ∧ isZ (q6 v) (9 * (607500000 * 3000)) := by
  obtain ⟨v, h1, h2⟩ := pr_rowTop_5 (m := m) h hr hb hi0 m 0 0 (by omega) (by have := hr.1.2.1; omega) rfl
  refine ⟨v, h1, ?_, ?_⟩
  · rw [h2]
    exact ((h.1.1.2.2.1 _).mpr h.1.1.2.2.2.1 i (by omega)).symm
  · rw [h2]
    exact isZ_mono (isZ_sm (K := 607500000 * 3000) (fun k hk => isZ_mul (pr_cell h hr hi0 hk) (pr_w h hb hk))) (Nat.mul_le_mul_right _ (by have := hr.1.2.1; omega))
theorem pr_rowOf_2 (hr : PRep S R n s lo hi fz) {u : Nat} (hu : u < 16) : ∀ q i, i ≤ R → R - i < q → ((∃ k, i ≤ k ∧ k < R ∧ s.2.2.1 k = u) → ∃ k, k < R ∧ s.2.2.1 k = u ∧ f_P_rowOf_2 m q (nI u) (nI i) S = some (nI k, S)) ∧ ((¬ ∃ k, i ≤ k ∧ k < R ∧ s.2.2.1 k = u) → f_P_rowOf_2 m q (nI u) (nI i) S = some (-1, S)) := by
  obtain ⟨⟨r1, r2, r3, r4⟩, r5, r6, r7, r8, r9, r10, r11⟩ := hr
  intro q
  induction q with
  | zero => intro i _ h; omega
  | succ q ih =>
    intro i hi hq
    by_cases e : i = R
    · subst e
      refine ⟨fun ⟨k, h1, h2, _⟩ => by omega, fun _ => ?_⟩
      rw [f_P_rowOf_2, if_pos (by rw [r3]; exact nI_le (Nat.le_refl _) (by omega))]
    · have hiR : i < R := by omega
      obtain ⟨i1, i2⟩ := ih (i + 1) (by omega) (by omega)
      have st : f_P_rowOf_2 m (q + 1) (nI u) (nI i) S = if s.2.2.1 i = u then some (nI i, S) else f_P_rowOf_2 m q (nI u) (nI (i + 1)) S := by
        rw [f_P_rowOf_2, if_neg (by rw [r3]; exact nI_ge hiR (by omega)), ck_t (vi_n (by omega) (by omega)), cl_n (by omega), (r7 i hiR).1, nI_1]
        have hlt := (r7 i hiR).2
        by_cases e2 : s.2.2.1 i = u
        · rw [if_pos e2, if_pos (by rw [e2])]
        · rw [if_neg e2, if_neg (fun h => e2 ((nI_eq (by omega) (by omega)).mp h))]
      rw [st]
      by_cases e2 : s.2.2.1 i = u
      · rw [if_pos e2]
        exact ⟨fun _ => ⟨i, hiR, e2, rfl⟩, fun h => absurd ⟨i, Nat.le_refl _, hiR, e2⟩ h⟩
      · rw [if_neg e2]
        refine ⟨fun ⟨k, h1, h2, h3⟩ => i1 ⟨k, ?_, h2, h3⟩, fun h => i2 fun ⟨k, h1, h2, h3⟩ => h ⟨k, by omega, h2, h3⟩⟩
        by_cases e5 : k = i
        · subst e5; exact absurd h3 e2
        · omega
theorem pr_rowOf (hr : PRep S R n s lo hi fz) (hm : 8 < m) {u : Nat} (hu : u < 16) : ((∃ k, k < R ∧ s.2.2.1 k = u) → ∃ k, k < R ∧ s.2.2.1 k = u ∧ f_P_rowOf m (nI u) S = some (nI k, S)) ∧ ((¬ ∃ k, k < R ∧ s.2.2.1 k = u) → f_P_rowOf m (nI u) S = some (-1, S)) := by
  obtain ⟨h1, h2⟩ := pr_rowOf_2 (m := m) hr hu m 0 (by omega) (by have := hr.1.1; omega)
  exact ⟨fun ⟨k, a, b⟩ => h1 ⟨k, by omega, a, b⟩, fun h => h2 fun ⟨k, _, a, b⟩ => h ⟨k, a, b⟩⟩
/-- the gains of an aim, by the columns' solutions -/
def gm (R : Nat) (s : tab) (aim : Nat) : Nat → Rat := fun j => Col (R + 3) s.1 s.2.1 s.2.2.1 s.2.2.2.1 j aim
theorem gm_Gain (h : PI (R + 3) n isG pl gr sg pw lo hi s) {aim : Nat} (hl : live (R + 3) n s aim) : Gain (R + 3) n s.1 s.2.1 s.2.2.1 s.2.2.2.1 aim (gm R s aim) := by
  rcases hl with ⟨i, hi0, e⟩ | ⟨j0, hj0, e⟩
  · refine Or.inl ⟨i, hi0, e, fun j hj => ?_⟩
    unfold gm; rw [← e, Col_row h.1.1.2.1 hj hi0]
  · refine Or.inr ⟨j0, hj0, e, fun j hj => ?_⟩
    unfold gm; rw [← e, Col_col h.1.1.2.1 hj hj0]
    by_cases ej : j = j0
    · rw [if_pos ej, if_pos ej.symm]
    · rw [if_neg ej, if_neg (fun q => ej q.symm)]
/-- the row of the aim, as rowOf tells it -/
def arow (R : Nat) (s : tab) (aim : Nat) (x : Int32) : Prop := (∃ i, i < R ∧ s.2.2.1 i = aim ∧ x = nI i) ∨ ((¬ ∃ i, i < R ∧ s.2.2.1 i = aim) ∧ x = -1)
theorem pr_gain (h : PI (R + 3) n isG pl gr sg pw lo hi s) (hr : PRep S R n s lo hi fz) {aim j : Nat} {x : Int32} (ha : aim < 16) (hx : arow R s aim x) (hg : ∀ i, R ≤ i → i < R + 3 → s.2.2.1 i ≠ aim) (hj : j < n) : ∃ v, f_P_gain m (nI aim) x (nI j) S = some (v, S) ∧ q6 v = gm R s aim j := by
  obtain ⟨⟨r1, r2, r3, r4⟩, r5, r6, r7, r8, r9, r10, r11⟩ := hr
  have hwf := h.1.1.2.1
  rcases hx with ⟨i, hi0, e, rfl⟩ | ⟨hn, rfl⟩
  · refine ⟨gJ S (8 + i) j, ?_, ?_⟩
    · unfold f_P_gain
      rw [if_neg (nI_pos (by omega)), ck_t (vi_n (by omega) (by omega)), ck_t (vi_n (by omega) (by omega)), cl_n (by omega), cl_n (by omega)]
    · unfold gm
      rw [r6 i j hi0 hj, ← e, Col_row hwf hj (by omega)]
  · have hc15 := pr_col15 h hj
    have hno : ∀ i, i < R + 3 → s.2.2.1 i ≠ aim := fun i hi0 e => by
      by_cases hiR : i < R
      · exact hn ⟨i, hiR, e⟩
      · exact hg i (by omega) hi0 e
    by_cases e : s.2.2.2.1 j = aim
    · refine ⟨gG S 1, ?_, ?_⟩
      · unfold f_P_gain f_P_gain_31
        rw [if_pos (by decide), ck_t (vi_n (by omega) (by omega)), cl_n (by omega), r8 j hj, if_pos (by rw [e])]
      · unfold gm
        rw [r5, ← e, Col_col hwf hj hj, if_pos rfl]
    · refine ⟨0, ?_, ?_⟩
      · unfold f_P_gain f_P_gain_31
        rw [if_pos (by decide), ck_t (vi_n (by omega) (by omega)), cl_n (by omega), r8 j hj, if_neg (fun q => e ((nI_eq (by omega) (by omega)).mp q))]
      · unfold gm
        rw [Col_none hno e]
        rfl
theorem pr_canMove (h : PI (R + 3) n isG pl gr sg pw lo hi s) (hr : PRep S R n s lo hi fz) {j : Nat} (hj : j < n) {v : Int64} {g : Nat → Rat} (hv : q6 v = g j) : (elig lo hi s.2.2.2.2 g s.2.2.2.1 j → f_P_canMove m (nI (s.2.2.2.1 j)) v S = some (1, S)) ∧ (¬ elig lo hi s.2.2.2.2 g s.2.2.2.1 j → f_P_canMove m (nI (s.2.2.2.1 j)) v S = some (0, S)) := by
  obtain ⟨⟨r1, r2, r3, r4⟩, r5, r6, r7, r8, r9, r10, r11⟩ := hr
  have hc15 := pr_col15 h hj
  obtain ⟨b1, b2⟩ := r9 _ hc15 (Or.inr ⟨j, hj, rfl⟩)
  have b3 := r10 j hj
  have hvi : vi (nI (s.2.2.2.1 j)) 16 = true := vi_n (by omega) (by omega)
  have hcl : (nI (s.2.2.2.1 j)).toNatClampNeg = s.2.2.2.1 j := cl_n (by omega)
  unfold f_P_canMove f_P_canMove_26 f_P_canMove_52 f_P_canMove_53 elig
  rw [ck_t hvi, ck_t hvi, ck_t hvi, ck_t hvi, hcl, ck_t vz_0, ck_t vz_1]
  have g1 : v ≤ 0 ↔ g j ≤ 0 := by rw [q6_le, hv, q6_0]
  have g2 : (0 : Int64) ≤ v ↔ 0 ≤ g j := by rw [q6_le, hv, q6_0]
  have g3 : gI S 17 (s.2.2.2.1 j) ≤ gI S 15 (s.2.2.2.1 j) ↔ s.2.2.2.2 (s.2.2.2.1 j) ≤ lo (s.2.2.2.1 j) := by rw [q3_le, b3, b1]
  have g4 : gI S 16 (s.2.2.2.1 j) ≤ gI S 17 (s.2.2.2.1 j) ↔ hi (s.2.2.2.1 j) ≤ s.2.2.2.2 (s.2.2.2.1 j) := by rw [q3_le, b3, b2]
  by_cases c1 : g j ≤ 0
  · rw [if_pos (g1.mpr c1)]
    by_cases c2 : 0 ≤ g j
    · rw [if_pos (g2.mpr c2)]
      exact ⟨fun q => by rcases q with q | q <;> (have := q.1; grind), fun _ => rfl⟩
    · rw [if_neg (fun q => c2 (g2.mp q))]
      by_cases c3 : s.2.2.2.2 (s.2.2.2.1 j) ≤ lo (s.2.2.2.1 j)
      · rw [if_pos (g3.mpr c3)]
        exact ⟨fun q => by rcases q with q | q <;> (have := q.1; have := q.2; grind), fun _ => rfl⟩
      · rw [if_neg (fun q => c3 (g3.mp q))]
        exact ⟨fun _ => rfl, fun q => absurd (Or.inr ⟨by grind, by grind⟩) q⟩
  · rw [if_neg (fun q => c1 (g1.mp q))]
    by_cases c3 : hi (s.2.2.2.1 j) ≤ s.2.2.2.2 (s.2.2.2.1 j)
    · rw [if_pos (g4.mpr c3)]
      exact ⟨fun q => by rcases q with q | q <;> (have := q.1; have := q.2; grind), fun _ => rfl⟩
    · rw [if_neg (fun q => c3 (g4.mp q))]
      exact ⟨fun _ => rfl, fun q => absurd (Or.inl ⟨by grind, by grind⟩) q⟩
/-- what firstGain has found among the first j columns -/
def fnd (n : Nat) (lo hi w g : Nat → Rat) (cv : Nat → Nat) (fz : Nat → Bool) (j : Nat) (x : Int32) : Prop := (x = -1 ∧ ∀ k, k < j → fz k = false → ¬ elig lo hi w g cv k) ∨ ∃ c, c < j ∧ x = nI c ∧ fz c = false ∧ elig lo hi w g cv c ∧ ∀ k, k < j → fz k = false → elig lo hi w g cv k → cv c ≤ cv k
theorem pr_firstGain_5 (h : PI (R + 3) n isG pl gr sg pw lo hi s) (hr : PRep S R n s lo hi fz) {aim : Nat} {x : Int32} (ha : aim < 16) (hx : arow R s aim x) (hg : ∀ i, R ≤ i → i < R + 3 → s.2.2.1 i ≠ aim) : ∀ q j (f : Int32), j ≤ n → n - j < q → fnd n lo hi s.2.2.2.2 (gm R s aim) s.2.2.2.1 fz j f → ∃ f', f_P_firstGain_5 m q (nI aim) x f (nI j) S = some (f', S) ∧ fnd n lo hi s.2.2.2.2 (gm R s aim) s.2.2.2.1 fz n f' := by
  have hr0 := hr
  obtain ⟨⟨r1, r2, r3, r4⟩, r5, r6, r7, r8, r9, r10, r11⟩ := hr
  intro q
  induction q with
  | zero => intro j f _ h; omega
  | succ q ih =>
    intro j f hj hq hf
    by_cases e : j = n
    · subst e
      refine ⟨f, ?_, hf⟩
      rw [f_P_firstGain_5, if_pos (by rw [r4]; exact nI_le (Nat.le_refl _) (by omega))]
    · have hjn : j < n := by omega
      have hc15 := pr_col15 h hjn
      have hvj : vi (nI j) 8 = true := vi_n (by omega) (by omega)
      have hclj : (nI j).toNatClampNeg = j := cl_n (by omega)
      obtain ⟨gv, gv1, gv2⟩ := pr_gain (m := m) h hr0 ha hx hg hjn
      obtain ⟨cm1, cm0⟩ := pr_canMove (m := m) h hr0 hjn gv2
      -- the rest of the body, when the column counts as less
      have body : ∀ f0, ((fz j = false ∧ elig lo hi s.2.2.2.2 (gm R s aim) s.2.2.2.1 j) → f_P_firstGain_39 m (f_P_firstGain_5 m q) (nI aim) x f0 (nI j) 1 S = f_P_firstGain_5 m q (nI aim) x (nI j) (nI (j + 1)) S) ∧ (¬ (fz j = false ∧ elig lo hi s.2.2.2.2 (gm R s aim) s.2.2.2.1 j) → f_P_firstGain_39 m (f_P_firstGain_5 m q) (nI aim) x f0 (nI j) 1 S = f_P_firstGain_5 m q (nI aim) x f0 (nI (j + 1)) S) := by
        intro f0
        unfold f_P_firstGain_39 f_P_firstGain_81
        rw [if_neg (by decide), ck_t hvj, hclj, r11 j hjn, ck_t hvj]
        cases hfz : fz j with
        | true =>
          rw [if_neg (by decide), nI_1]
          exact ⟨fun q => absurd q.1 (by decide), fun _ => rfl⟩
        | false =>
          rw [if_pos (by rfl), bo_s gv1, r8 j hjn]
          by_cases he : elig lo hi s.2.2.2.2 (gm R s aim) s.2.2.2.1 j
          · rw [bo_s (cm1 he), if_neg (by decide), nI_1]
            exact ⟨fun _ => rfl, fun q => absurd ⟨rfl, he⟩ q⟩
          · rw [bo_s (cm0 he), if_pos rfl, nI_1]
            exact ⟨fun q => absurd q.2 he, fun _ => rfl⟩
      rcases hf with ⟨rfl, hnone⟩ | ⟨c, hcj, rfl, hfc, hec, hmin⟩
      · have st : f_P_firstGain_5 m (q + 1) (nI aim) x (-1) (nI j) S = f_P_firstGain_39 m (f_P_firstGain_5 m q) (nI aim) x (-1) (nI j) 1 S := by
          rw [f_P_firstGain_5, if_neg (by rw [r4]; exact nI_ge hjn (by omega)), if_pos (by decide)]
          unfold f_P_firstGain_34
          rfl
        rw [st]
        by_cases he : fz j = false ∧ elig lo hi s.2.2.2.2 (gm R s aim) s.2.2.2.1 j
        · rw [(body _).1 he]
          refine ih (j + 1) _ (by omega) (by omega) (Or.inr ⟨j, by omega, rfl, he.1, he.2, fun k hk hfk hek => ?_⟩)
          by_cases ek : k = j
          · rw [ek]; exact Nat.le_refl _
          · exact absurd hek (hnone k (by omega) hfk)
        · rw [(body _).2 he]
          refine ih (j + 1) _ (by omega) (by omega) (Or.inl ⟨rfl, fun k hk hfk => ?_⟩)
          by_cases ek : k = j
          · subst ek; exact fun q => he ⟨hfk, q⟩
          · exact hnone k (by omega) hfk
      · have hcc := pr_col15 h (show c < n by omega)
        by_cases hless : s.2.2.2.1 c ≤ s.2.2.2.1 j
        · have st : f_P_firstGain_5 m (q + 1) (nI aim) x (nI c) (nI j) S = f_P_firstGain_5 m q (nI aim) x (nI c) (nI (j + 1)) S := by
            rw [f_P_firstGain_5, if_neg (by rw [r4]; exact nI_ge hjn (by omega)), if_neg (nI_pos (by omega)), ck_t hvj, ck_t (vi_n (by omega) (by omega)), hclj, cl_n (by omega), r8 j hjn, r8 c (by omega), if_pos (nI_le hless (by omega))]
            unfold f_P_firstGain_39 f_P_firstGain_81
            rw [if_pos rfl, nI_1]
          rw [st]
          refine ih (j + 1) _ (by omega) (by omega) (Or.inr ⟨c, by omega, rfl, hfc, hec, fun k hk hfk hek => ?_⟩)
          by_cases ek : k = j
          · rw [ek]; exact hless
          · exact hmin k (by omega) hfk hek
        · have st : f_P_firstGain_5 m (q + 1) (nI aim) x (nI c) (nI j) S = f_P_firstGain_39 m (f_P_firstGain_5 m q) (nI aim) x (nI c) (nI j) 1 S := by
            rw [f_P_firstGain_5, if_neg (by rw [r4]; exact nI_ge hjn (by omega)), if_neg (nI_pos (by omega)), ck_t hvj, ck_t (vi_n (by omega) (by omega)), hclj, cl_n (by omega), r8 j hjn, r8 c (by omega), if_neg (nI_ge (by omega) (by omega))]
            unfold f_P_firstGain_34
            rfl
          rw [st]
          by_cases he : fz j = false ∧ elig lo hi s.2.2.2.2 (gm R s aim) s.2.2.2.1 j
          · rw [(body _).1 he]
            refine ih (j + 1) _ (by omega) (by omega) (Or.inr ⟨j, by omega, rfl, he.1, he.2, fun k hk hfk hek => ?_⟩)
            by_cases ek : k = j
            · rw [ek]; exact Nat.le_refl _
            · have := hmin k (by omega) hfk hek; omega
          · rw [(body _).2 he]
            refine ih (j + 1) _ (by omega) (by omega) (Or.inr ⟨c, by omega, rfl, hfc, hec, fun k hk hfk hek => ?_⟩)
            by_cases ek : k = j
            · subst ek; exact absurd ⟨hfk, hek⟩ he
            · exact hmin k (by omega) hfk hek
theorem pr_firstGain (h : PI (R + 3) n isG pl gr sg pw lo hi s) (hr : PRep S R n s lo hi fz) (hm : 8 < m) {aim : Nat} {x : Int32} (ha : aim < 16) (hx : arow R s aim x) (hg : ∀ i, R ≤ i → i < R + 3 → s.2.2.1 i ≠ aim) : ∃ f', f_P_firstGain m (nI aim) x S = some (f', S) ∧ fnd n lo hi s.2.2.2.2 (gm R s aim) s.2.2.2.1 fz n f' := pr_firstGain_5 (m := m) h hr ha hx hg m 0 (-1) (by omega) (by have := hr.1.2.1; omega) (Or.inl ⟨rfl, fun k hk => by omega⟩)
end PREP
