/-! the reference at three planes: meet, flows, linesHold -/
def cl3 (pa : Nat → v3) (pd : Nat → Rat) (p c i : Nat) : Rat := if c = i then pd p else if c = 1 then (pa p).1 else if c = 2 then (pa p).2.1 else (pa p).2.2
def bz (c i : Nat) : Nat := if c = i then 50000 else 15
def mi3 (pa : Nat → v3) (pd : Nat → Rat) (p q u v i : Nat) : Rat := cl3 pa pd p u i * cl3 pa pd q v i - cl3 pa pd p v i * cl3 pa pd q u i
def de3 (pa : Nat → v3) (pd : Nat → Rat) (p q s i : Nat) : Rat := cl3 pa pd p 1 i * mi3 pa pd q s 2 3 i - cl3 pa pd p 2 i * mi3 pa pd q s 1 3 i + cl3 pa pd p 3 i * mi3 pa pd q s 1 2 i
def hc (h : v3) (w : Nat) : Rat := if w = 0 then 0 else if w = 1 then h.1 else if w = 2 then h.2.1 else h.2.2
def HT (M : z_S) (b : Rat) (h : v3) : Prop := (q6 (gG M 0) = b ∧ 0 < b ∧ isZ b 20250) ∧ ∀ w, w < 4 → q6 (gJ M 4 w) = b * hc h w ∧ isZ (b * hc h w) 67500000
def SF (M M' : z_S) : Prop := gF M' = gF M ∧ (∀ k, k ≠ 0 → k ≠ 1 → gG M' k = gG M k) ∧ gI M' = gI M ∧ ∀ t, t ≠ 4 → t ≠ 5 → gJ M' t = gJ M t
theorem SF_tr {M M' M'' : z_S} (h : SF M M') (h' : SF M' M'') : SF M M'' := ⟨h'.1.trans h.1, fun k a b => (h'.2.1 k a b).trans (h.2.1 k a b), h'.2.2.1.trans h.2.2.1, fun t a b => (h'.2.2.2 t a b).trans (h.2.2.2 t a b)⟩
theorem SF_rf (M : z_S) : SF M M := ⟨rfl, fun _ _ _ => rfl, rfl, fun _ _ _ => rfl⟩
section MEET
variable {N : Net} {B : Bk} {m P : Nat} {pa : Nat → v3} {pd : Nat → Rat} {M : z_S}
theorem PLs_S {M' : z_S} (h : SF M M') (hP : PLs M P pa pd) : PLs M' P pa pd := ⟨hP.1, by rw [h.1]; exact hP.2.1, by rw [h.2.2.2 0 (by omega) (by omega), h.2.2.2 1 (by omega) (by omega), h.2.2.2 2 (by omega) (by omega), h.2.2.2 3 (by omega) (by omega)]; exact hP.2.2⟩
theorem mN_S {M' : z_S} (h : SF M M') (hM : mN M N) : mN M' N := ⟨by rw [h.1]; exact hM.1, by rw [h.2.2.1]; exact hM.2⟩
theorem mB_S {M' : z_S} (h : SF M M') (hM : mB M B) : mB M' B := ⟨by rw [h.1]; exact hM.1, by rw [h.2.2.1]; exact hM.2⟩
theorem mT_S {M' : z_S} {tu : Nat → Nat} (h : SF M M') (hM : mT M B tu) : mT M' B tu := by unfold mT; rw [h.2.2.1]; exact hM
theorem pm_cell (hP : PLs M P pa pd) {p c i : Nat} (hp : p < P) (hc : 1 ≤ c ∧ c < 4) (hi : i < 4) : ∃ v, f_M_cell m (nI p) (nI c) (nI i) M = some (v, M) ∧ q6 v = cl3 pa pd p c i ∧ isZ (cl3 pa pd p c i) (bz c i) := by
  obtain ⟨h24, -, h3⟩ := hP
  obtain ⟨⟨a1, a2, a3, a4⟩, z1, z2⟩ := h3 p hp
  have hv : vi (nI p) 24 = true := vi_n (by omega) (by omega)
  have hcp : (nI p).toNatClampNeg = p := cl_n (by omega)
  have e1 : nI c = 1 ↔ c = 1 := nI_iff (a := c) (b := 1) (by omega) (by omega)
  have e2 : nI c = 2 ↔ c = 2 := nI_iff (a := c) (b := 2) (by omega) (by omega)
  have e3 : nI c = nI i ↔ c = i := nI_iff (by omega) (by omega)
  unfold f_M_cell f_M_cell_48 cl3 bz
  by_cases q : c = i
  · rw [if_pos (e3.mpr q), if_pos q, if_pos q, ck_t hv, hcp]
    exact ⟨_, rfl, a4, z2⟩
  · rw [if_neg (fun h => q (e3.mp h)), if_neg q, if_neg q]
    by_cases q1 : c = 1
    · rw [if_pos (e1.mpr q1), if_pos q1, ck_t hv, hcp]
      exact ⟨_, rfl, a1, z1.1⟩
    · rw [if_neg (fun h => q1 (e1.mp h)), if_neg q1]
      by_cases q2 : c = 2
      · rw [if_pos (e2.mpr q2), if_pos q2, ck_t hv, hcp]
        exact ⟨_, rfl, a2, z1.2.1⟩
      · rw [if_neg (fun h => q2 (e2.mp h)), if_neg q2, ck_t hv, hcp]
        exact ⟨_, rfl, a3, z1.2.2⟩
theorem pm_minor (hP : PLs M P pa pd) {p q u v i : Nat} (hp : p < P) (hq : q < P) (hu : 1 ≤ u ∧ u < 4) (hv : 1 ≤ v ∧ v < 4) (hi : i < 4) : ∃ x, f_M_minor m (nI p) (nI q) (nI u) (nI v) (nI i) M = some (x, M) ∧ q6 x = mi3 pa pd p q u v i ∧ isZ (mi3 pa pd p q u v i) (bz u i * bz v i + bz v i * bz u i) := by
  obtain ⟨x1, a1, a2, a3⟩ := pm_cell (m := m) hP hp hu hi
  obtain ⟨x2, b1, b2, b3⟩ := pm_cell (m := m) hP hq hv hi
  obtain ⟨x3, c1, c2, c3⟩ := pm_cell (m := m) hP hp hv hi
  obtain ⟨x4, d1, d2, d3⟩ := pm_cell (m := m) hP hq hu hi
  have hb : ∀ c, bz c i ≤ 50000 := fun c => by unfold bz; by_cases q : c = i; rw [if_pos q]; exact Nat.le_refl _; rw [if_neg q]; omega
  have hbm : bz u i * bz v i ≤ 2500000000 := Nat.mul_le_mul (hb u) (hb v)
  have hbm2 : bz v i * bz u i ≤ 2500000000 := Nat.mul_le_mul (hb v) (hb u)
  have z := isZ_sub (isZ_mul a3 b3) (isZ_mul c3 d3)
  refine ⟨x1 * x2 - x3 * x4, ?_, ?_, z⟩
  · unfold f_M_minor
    rw [bo_s a1, bo_s b1, bo_s c1, bo_s d1]
  · have e1 : q6 (x1 * x2) = cl3 pa pd p u i * cl3 pa pd q v i := by rw [q6_mul (by rw [a2, b2]; exact isZ_mul a3 b3) (by omega), a2, b2]
    have e2 : q6 (x3 * x4) = cl3 pa pd p v i * cl3 pa pd q u i := by rw [q6_mul (by rw [c2, d2]; exact isZ_mul c3 d3) (by omega), c2, d2]
    rw [q6_sub (by rw [e1, e2]; exact z) (by omega), e1, e2]
    rfl
theorem bz_det : ∀ i, i < 4 → bz 1 i * (bz 2 i * bz 3 i + bz 3 i * bz 2 i) + bz 2 i * (bz 1 i * bz 3 i + bz 3 i * bz 1 i) + bz 3 i * (bz 1 i * bz 2 i + bz 2 i * bz 1 i) ≤ (if i = 0 then 20250 else 67500000) ∧ bz 1 i * (bz 2 i * bz 3 i + bz 3 i * bz 2 i) ≤ 67500000 ∧ bz 2 i * (bz 1 i * bz 3 i + bz 3 i * bz 1 i) ≤ 67500000 ∧ bz 3 i * (bz 1 i * bz 2 i + bz 2 i * bz 1 i) ≤ 67500000 := by
  intro i hi
  rcases lt4 hi with e | e | e | e <;> subst e <;> decide
theorem pm_det (hP : PLs M P pa pd) {p q s i : Nat} (hp : p < P) (hq : q < P) (hs : s < P) (hi : i < 4) : ∃ x, f_M_determinant m (nI p) (nI q) (nI s) (nI i) M = some (x, M) ∧ q6 x = de3 pa pd p q s i ∧ isZ (de3 pa pd p q s i) (if i = 0 then 20250 else 67500000) := by
  obtain ⟨x1, a1, a2, a3⟩ := pm_cell (m := m) hP (c := 1) hp (by omega) hi
  obtain ⟨y1, b1, b2, b3⟩ := pm_minor (m := m) hP (u := 2) (v := 3) hq hs (by omega) (by omega) hi
  obtain ⟨x2, c1, c2, c3⟩ := pm_cell (m := m) hP (c := 2) hp (by omega) hi
  obtain ⟨y2, d1, d2, d3⟩ := pm_minor (m := m) hP (u := 1) (v := 3) hq hs (by omega) (by omega) hi
  obtain ⟨x3, e1, e2, e3⟩ := pm_cell (m := m) hP (c := 3) hp (by omega) hi
  obtain ⟨y3, f1, f2, f3⟩ := pm_minor (m := m) hP (u := 1) (v := 2) hq hs (by omega) (by omega) hi
  obtain ⟨k1, k2, k3, k4⟩ := bz_det i hi
  have m1 : q6 (x1 * y1) = cl3 pa pd p 1 i * mi3 pa pd q s 2 3 i := by rw [q6_mul (by rw [a2, b2]; exact isZ_mul a3 b3) (by omega), a2, b2]
  have m2 : q6 (x2 * y2) = cl3 pa pd p 2 i * mi3 pa pd q s 1 3 i := by rw [q6_mul (by rw [c2, d2]; exact isZ_mul c3 d3) (by omega), c2, d2]
  have m3 : q6 (x3 * y3) = cl3 pa pd p 3 i * mi3 pa pd q s 1 2 i := by rw [q6_mul (by rw [e2, f2]; exact isZ_mul e3 f3) (by omega), e2, f2]
  have z1 := isZ_mono (isZ_mul a3 b3) k2
  have z2 := isZ_mono (isZ_mul c3 d3) k3
  have z3 := isZ_mono (isZ_mul e3 f3) k4
  have z := isZ_mono (isZ_add (isZ_sub (isZ_mul a3 b3) (isZ_mul c3 d3)) (isZ_mul e3 f3)) k1
  have m4 : q6 (x1 * y1 - x2 * y2) = cl3 pa pd p 1 i * mi3 pa pd q s 2 3 i - cl3 pa pd p 2 i * mi3 pa pd q s 1 3 i := by rw [q6_sub (by rw [m1, m2]; exact isZ_sub z1 z2) (by omega), m1, m2]
  refine ⟨x1 * y1 - x2 * y2 + x3 * y3, ?_, ?_, z⟩
  · unfold f_M_determinant
    rw [bo_s (show f_M_cell m (nI p) 1 (nI i) M = some (x1, M) from a1), bo_s (show f_M_minor m (nI q) (nI s) 2 3 (nI i) M = some (y1, M) from b1), bo_s (show f_M_cell m (nI p) 2 (nI i) M = some (x2, M) from c1), bo_s (show f_M_minor m (nI q) (nI s) 1 3 (nI i) M = some (y2, M) from d1), bo_s (show f_M_cell m (nI p) 3 (nI i) M = some (x3, M) from e1), bo_s (show f_M_minor m (nI q) (nI s) 1 2 (nI i) M = some (y3, M) from f1)]
  · rw [q6_add (K := 67500000 + 67500000 + 67500000) (by rw [m4, m3]; exact isZ_add (isZ_sub z1 z2) z3) (by omega), m4, m3]
    rfl
theorem de3_0 (p q s : Nat) : de3 pa pd p q s 0 = det3 (pa p) (pa q) (pa s) := by
  unfold de3 mi3 cl3 det3 dot crs
  simp only [Nat.reduceEqDiff, reduceIte]
  grind
/-- three planes with a determinant meet in one point -/
theorem cramer {p q s : Nat} (hd : det3 (pa p) (pa q) (pa s) ≠ 0) : ∃ h : v3, dot (pa p) h = pd p ∧ dot (pa q) h = pd q ∧ dot (pa s) h = pd s ∧ de3 pa pd p q s 1 = det3 (pa p) (pa q) (pa s) * h.1 ∧ de3 pa pd p q s 2 = det3 (pa p) (pa q) (pa s) * h.2.1 ∧ de3 pa pd p q s 3 = det3 (pa p) (pa q) (pa s) * h.2.2 := by
  refine ⟨(de3 pa pd p q s 1 / det3 (pa p) (pa q) (pa s), de3 pa pd p q s 2 / det3 (pa p) (pa q) (pa s), de3 pa pd p q s 3 / det3 (pa p) (pa q) (pa s)), ?_, ?_, ?_, by grind, by grind, by grind⟩
  · show (pa p).1 * _ + (pa p).2.1 * _ + (pa p).2.2 * _ = _
    have : (pa p).1 * de3 pa pd p q s 1 + (pa p).2.1 * de3 pa pd p q s 2 + (pa p).2.2 * de3 pa pd p q s 3 = pd p * det3 (pa p) (pa q) (pa s) := by
      unfold de3 mi3 cl3 det3 dot crs
      simp only [Nat.reduceEqDiff, reduceIte]
      grind
    grind
  · show (pa q).1 * _ + (pa q).2.1 * _ + (pa q).2.2 * _ = _
    have : (pa q).1 * de3 pa pd p q s 1 + (pa q).2.1 * de3 pa pd p q s 2 + (pa q).2.2 * de3 pa pd p q s 3 = pd q * det3 (pa p) (pa q) (pa s) := by
      unfold de3 mi3 cl3 det3 dot crs
      simp only [Nat.reduceEqDiff, reduceIte]
      grind
    grind
  · show (pa s).1 * _ + (pa s).2.1 * _ + (pa s).2.2 * _ = _
    have : (pa s).1 * de3 pa pd p q s 1 + (pa s).2.1 * de3 pa pd p q s 2 + (pa s).2.2 * de3 pa pd p q s 3 = pd s * det3 (pa p) (pa q) (pa s) := by
      unfold de3 mi3 cl3 det3 dot crs
      simp only [Nat.reduceEqDiff, reduceIte]
      grind
    grind
theorem meet_uniq {a b c : v3} (hd : det3 a b c ≠ 0) {h h' : v3} (h1 : dot a h = dot a h') (h2 : dot b h = dot b h') (h3 : dot c h = dot c h') : h = h' := by
  have e1 : det3 a b c * (h.1 - h'.1) = 0 := by
    have : det3 a b c * (h.1 - h'.1) = (dot a h - dot a h') * (crs b c).1 + (dot b h - dot b h') * (crs c a).1 + (dot c h - dot c h') * (crs a b).1 := by unfold det3 dot crs; grind
    rw [this, h1, h2, h3]; grind
  have e2 : det3 a b c * (h.2.1 - h'.2.1) = 0 := by
    have : det3 a b c * (h.2.1 - h'.2.1) = (dot a h - dot a h') * (crs b c).2.1 + (dot b h - dot b h') * (crs c a).2.1 + (dot c h - dot c h') * (crs a b).2.1 := by unfold det3 dot crs; grind
    rw [this, h1, h2, h3]; grind
  have e3 : det3 a b c * (h.2.2 - h'.2.2) = 0 := by
    have : det3 a b c * (h.2.2 - h'.2.2) = (dot a h - dot a h') * (crs b c).2.2 + (dot b h - dot b h') * (crs c a).2.2 + (dot c h - dot c h') * (crs a b).2.2 := by unfold det3 dot crs; grind
    rw [this, h1, h2, h3]; grind
  have z1 := (Rat.mul_eq_zero.mp e1).resolve_left hd
  have z2 := (Rat.mul_eq_zero.mp e2).resolve_left hd
  have z3 := (Rat.mul_eq_zero.mp e3).resolve_left hd
  exact v3_ext (by grind) (by grind) (by grind)
theorem pm_meet_loop (hP0 : PLs M P pa pd) {p q s : Nat} (hp : p < P) (hq : q < P) (hs : s < P) {x6 : Int64} (hx : q6 x6 = 1 ∨ q6 x6 = -1) : ∀ f k (M' : z_S), 1 ≤ k → k ≤ 4 → 4 - k < f → SF M M' → (∀ i, 1 ≤ i → i < k → q6 (gJ M' 4 i) = q6 x6 * de3 pa pd p q s i) → ∃ M'', f_M_meet_54 m f (nI p) (nI q) (nI s) x6 (nI k) M' = some (1, M'') ∧ SF M M'' ∧ gG M'' = gG M' ∧ gJ M'' 4 0 = gJ M' 4 0 ∧ (∀ i, 1 ≤ i → i < 4 → q6 (gJ M'' 4 i) = q6 x6 * de3 pa pd p q s i) := by
  intro f
  induction f with
  | zero => intro k M' _ _ h; omega
  | succ f ih =>
    intro k M' h1 h4 hf hS hd
    by_cases e : k = 4
    · subst e
      refine ⟨M', ?_, hS, rfl, rfl, hd⟩
      rw [f_M_meet_54, if_pos (by decide)]
    · obtain ⟨v, v1, v2, v3⟩ := pm_det (m := m) (PLs_S hS hP0) hp hq hs (show k < 4 by omega)
      have v3 := isZ_mono v3 (show (if k = 0 then 20250 else 67500000) ≤ 67500000 by by_cases q : k = 0; rw [if_pos q]; omega; rw [if_neg q]; omega)
      have hz : isZ (q6 x6 * q6 v) 67500000 := by rw [v2]; exact isZ_pm hx v3
      have hm6 : q6 (x6 * v) = q6 x6 * de3 pa pd p q s k := by rw [q6_mul hz (by omega), v2]
      have hX : SF M' (sJ M' 4 (vp_updL (gJ M' 4) k (x6 * v))) := ⟨rfl, fun _ _ _ => rfl, rfl, fun t a _ => by rw [sJ_at, if_neg a]⟩
      obtain ⟨M'', g1, g2, g3, g4, g5⟩ := ih (k + 1) (sJ M' 4 (vp_updL (gJ M' 4) k (x6 * v))) (by omega) (by omega) (by omega) (SF_tr hS hX) (fun i i1 i2 => by
        rw [sJ_up]
        by_cases e2 : i = k
        · rw [if_pos ⟨rfl, e2⟩, e2]; exact hm6
        · rw [if_neg (fun q => e2 q.2)]; exact hd i i1 (by omega))
      refine ⟨M'', ?_, g2, by rw [g3]; rfl, by rw [g4, sJ_up, if_neg (by omega)], g5⟩
      rw [f_M_meet_54, if_neg (by rw [Int32.not_lt]; exact nI_le (a := k) (b := 3) (by omega) (by omega)), bo_s v1, ck_t (vi_n (by omega) (by omega)), cl_n (by omega), nI_1]
      exact g1
theorem pm_meet (hm : 9 < m) (hP : PLs M P pa pd) {p q s : Nat} (hp : p < P) (hq : q < P) (hs : s < P) : (det3 (pa p) (pa q) (pa s) = 0 ∧ f_M_meet m (nI p) (nI q) (nI s) M = some (0, M)) ∨ (det3 (pa p) (pa q) (pa s) ≠ 0 ∧ ∃ M' b h, f_M_meet m (nI p) (nI q) (nI s) M = some (1, M') ∧ SF M M' ∧ HT M' b h ∧ dot (pa p) h = pd p ∧ dot (pa q) h = pd q ∧ dot (pa s) h = pd s) := by
  obtain ⟨v, v1, v2, v3⟩ := pm_det (m := m) hP hp hq hs (i := 0) (by omega)
  rw [de3_0] at v2 v3
  rw [if_pos rfl] at v3
  by_cases hd : det3 (pa p) (pa q) (pa s) = 0
  · refine Or.inl ⟨hd, ?_⟩
    unfold f_M_meet
    rw [bo_s (show f_M_determinant m (nI p) (nI q) (nI s) 0 M = some (v, M) from v1), if_pos (q6_inj.mp (by rw [v2, hd, q6_0]))]
  · refine Or.inr ⟨hd, ?_⟩
    obtain ⟨h, h1, h2, h3, h4, h5, h6⟩ := cramer (pd := pd) hd
    have go : ∀ x6 : Int64, (q6 x6 = 1 ∨ q6 x6 = -1) → 0 < q6 x6 * det3 (pa p) (pa q) (pa s) → ∃ M' b h, f_M_meet_33 m (nI p) (nI q) (nI s) v x6 M = some (1, M') ∧ SF M M' ∧ HT M' b h ∧ dot (pa p) h = pd p ∧ dot (pa q) h = pd q ∧ dot (pa s) h = pd s := by
      intro x6 hx hpos
      have hz : isZ (q6 x6 * det3 (pa p) (pa q) (pa s)) 20250 := isZ_pm hx v3
      have hb : q6 (v * x6) = q6 x6 * det3 (pa p) (pa q) (pa s) := by
        have e : q6 v * q6 x6 = q6 x6 * det3 (pa p) (pa q) (pa s) := by rw [v2]; grind
        rw [q6_mul (by rw [e]; exact hz) (by omega), e]
      have hY : ∃ Y, Y = sJ (sG M 0 (v * x6)) 4 (vp_updL (gJ (sG M 0 (v * x6)) 4) 0 0) := ⟨_, rfl⟩
      obtain ⟨Y, hY⟩ := hY
      have hS : SF M Y := by rw [hY]; exact ⟨rfl, fun k a _ => by simp only [gs, if_neg a], rfl, fun t a _ => by rw [sJ_at, if_neg a]; rfl⟩
      obtain ⟨M'', g1, g2, g3, g4, g5⟩ := pm_meet_loop (m := m) hP hp hq hs hx m 1 Y (by omega) (by omega) (by omega) hS (fun i a b => by omega)
      have ez : ∀ i, 1 ≤ i → i < 4 → isZ (de3 pa pd p q s i) 67500000 := fun i a b => by
        obtain ⟨_, _, _, z⟩ := pm_det (m := m) hP hp hq hs b
        rw [if_neg (by omega)] at z
        exact z
      refine ⟨M'', q6 x6 * det3 (pa p) (pa q) (pa s), h, ?_, g2, ⟨⟨?_, hpos, hz⟩, fun w hw => ?_⟩, h1, h2, h3⟩
      · unfold f_M_meet_33
        rw [← g1, hY]
        rfl
      · rw [g3, hY]; exact hb
      · rcases lt4 hw with e | e | e | e <;> subst e
        · unfold hc
          rw [g4, hY, if_pos rfl, show q6 x6 * det3 (pa p) (pa q) (pa s) * 0 = 0 by grind]
          exact ⟨by rw [sJ_up, if_pos ⟨rfl, rfl⟩]; rfl, isZ_0 _⟩
        · have e : q6 x6 * det3 (pa p) (pa q) (pa s) * hc h 1 = q6 x6 * de3 pa pd p q s 1 := by unfold hc; simp only [Nat.reduceEqDiff, reduceIte]; rw [h4]; grind
          rw [e, g5 1 (by omega) (by omega)]
          exact ⟨rfl, isZ_pm hx (ez 1 (by omega) (by omega))⟩
        · have e : q6 x6 * det3 (pa p) (pa q) (pa s) * hc h 2 = q6 x6 * de3 pa pd p q s 2 := by unfold hc; simp only [Nat.reduceEqDiff, reduceIte]; rw [h5]; grind
          rw [e, g5 2 (by omega) (by omega)]
          exact ⟨rfl, isZ_pm hx (ez 2 (by omega) (by omega))⟩
        · have e : q6 x6 * det3 (pa p) (pa q) (pa s) * hc h 3 = q6 x6 * de3 pa pd p q s 3 := by unfold hc; simp only [Nat.reduceEqDiff, reduceIte]; rw [h6]; grind
          rw [e, g5 3 (by omega) (by omega)]
          exact ⟨rfl, isZ_pm hx (ez 3 (by omega) (by omega))⟩
    unfold f_M_meet
    rw [bo_s (show f_M_determinant m (nI p) (nI q) (nI s) 0 M = some (v, M) from v1), if_neg (fun e => hd (by rw [← v2, e]; rfl))]
    by_cases hs0 : (0 : Int64) ≤ v
    · rw [if_pos hs0]
      rw [q6_le, q6_0, v2] at hs0
      exact go 1 (Or.inl rfl) (by rw [q6_1]; grind)
    · rw [if_neg hs0]
      rw [q6_le, q6_0, v2] at hs0
      exact go (-1) (Or.inr rfl) (by rw [q6_m1]; grind)
theorem lpl_hc (hN : netOk N) (h : v3) {k : Nat} (hk : k < N.1) : dot (lpl N k) h = (N.2.2.2.1 k : Rat) * (hc h (N.2.1 k) - hc h (N.2.2.1 k)) := by
  rw [← dl_dot (hN.2.1 k hk).1 (hN.2.1 k hk).2.1 (hc h)]
  unfold dot lpl hc
  simp only [Nat.reduceEqDiff, reduceIte]
  grind
theorem npl_sum (hN : netOk N) (h : v3) (v : Nat) : dot (npl (LN N) v) h = sm N.1 (fun k => if N.2.2.1 k = v then dot (lpl N k) h else if N.2.1 k = v then - dot (lpl N k) h else 0) := by
  have e : dot (npl (LN N) v) h = - (LN N v 1 * h.1 + LN N v 2 * h.2.1 + LN N v 3 * h.2.2) := by unfold dot npl; grind
  rw [e]
  unfold LN Lp
  have e1 : ∀ (f : Nat → Rat) (x : Rat), sm N.1 f * x = sm N.1 (fun k => x * f k) := fun f x => by rw [sm_mul]; grind
  rw [e1, e1, e1, ← sm_add, ← sm_add, ← sm_neg]
  refine sm_congr fun k hk => ?_
  have hn := (hN.2.1 k hk).2.2.1
  have ef : dot (lpl N k) h = (N.2.2.2.1 k : Rat) * (dl N.2.1 N.2.2.1 k 1 * h.1 + dl N.2.1 N.2.2.1 k 2 * h.2.1 + dl N.2.1 N.2.2.1 k 3 * h.2.2) := by unfold dot lpl; grind
  rw [ef]
  by_cases q1 : N.2.2.1 k = v
  · have : dl N.2.1 N.2.2.1 k v = -1 := by unfold dl; rw [if_neg (by omega), if_pos q1.symm]; grind
    rw [if_pos q1, this]; grind
  · rw [if_neg q1]
    by_cases q2 : N.2.1 k = v
    · have : dl N.2.1 N.2.2.1 k v = 1 := by unfold dl; rw [if_pos q2.symm, if_neg (by omega)]; grind
      rw [if_pos q2, this]; grind
    · have : dl N.2.1 N.2.2.1 k v = 0 := by unfold dl; rw [if_neg (by omega), if_neg (by omega)]; grind
      rw [if_neg q2, this]; grind
theorem flow_Z (hN : netOk N) {b : Rat} {h : v3} (hH : HT M b h) {k : Nat} (hk : k < N.1) : isZ (b * dot (lpl N k) h) 675000000 := by
  obtain ⟨n1, n2, n3, n4, n5, n6⟩ := hN.2.1 k hk
  have e : b * dot (lpl N k) h = (N.2.2.2.1 k : Rat) * (b * hc h (N.2.1 k) - b * hc h (N.2.2.1 k)) := by rw [lpl_hc hN h hk]; grind
  rw [e]
  exact isZ_mul (K := 5) (L := 135000000) (isZ_nat n5) (isZ_sub (K := 67500000) (L := 67500000) (hH.2 _ n1).2 (hH.2 _ n2).2)
theorem pm_flow (hN : netOk N) (hM : mN M N) {b : Rat} {h : v3} (hH : HT M b h) {k : Nat} (hk : k < N.1) : ∃ x, f_M_flowHere m (nI k) M = some (x, M) ∧ q6 x = b * dot (lpl N k) h := by
  have h6 := hN.1
  obtain ⟨c1, c2, c3, c4⟩ := hM.2 k hk
  obtain ⟨n1, n2, n3, n4, n5, n6⟩ := hN.2.1 k hk
  have hv : vi (nI k) 6 = true := vi_n (by omega) (by omega)
  have hck : (nI k).toNatClampNeg = k := cl_n (by omega)
  have a1 := hH.2 _ n1
  have a2 := hH.2 _ n2
  have e1 : q6 (gJ M 4 (N.2.1 k) - gJ M 4 (N.2.2.1 k)) = b * hc h (N.2.1 k) - b * hc h (N.2.2.1 k) := by
    rw [q6_sub (by rw [a1.1, a2.1]; exact isZ_sub a1.2 a2.2) (by omega), a1.1, a2.1]
  have e2 : q6 (nI (N.2.2.2.1 k)).toInt64 = (N.2.2.2.1 k : Rat) := by rw [q6_i, q3_nI (by omega)]
  have e3 : (N.2.2.2.1 k : Rat) * (b * hc h (N.2.1 k) - b * hc h (N.2.2.1 k)) = b * dot (lpl N k) h := by rw [lpl_hc hN h hk]; grind
  refine ⟨(nI (N.2.2.2.1 k)).toInt64 * (gJ M 4 (N.2.1 k) - gJ M 4 (N.2.2.1 k)), ?_, ?_⟩
  · unfold f_M_flowHere
    have va : vi (nI (N.2.1 k)) 4 = true := vi_n (by omega) (by omega)
    have vb : vi (nI (N.2.2.1 k)) 4 = true := vi_n (by omega) (by omega)
    have ka : (nI (N.2.1 k)).toNatClampNeg = N.2.1 k := cl_n (by omega)
    have kb : (nI (N.2.2.1 k)).toNatClampNeg = N.2.2.1 k := cl_n (by omega)
    simp only [ck_t hv, hck, c1, c2, c3, ck_t va, ck_t vb, ka, kb]
  · rw [q6_mul (by rw [e1, e2, e3]; exact flow_Z hN hH hk) (by omega), e1, e2, e3]
theorem pm_brought_loop (hN : netOk N) (hM : mN M N) {b : Rat} {h : v3} (hH : HT M b h) {v : Nat} (hv : v < 4) : ∀ q k (acc : Int64), k ≤ N.1 → N.1 - k < q → q6 acc = b * sm k (fun k => if N.2.2.1 k = v then dot (lpl N k) h else if N.2.1 k = v then - dot (lpl N k) h else 0) → ∃ x, f_M_brought_5 m q (nI v) acc (nI k) M = some (x, M) ∧ q6 x = b * dot (npl (LN N) v) h := by
  have h6 := hN.1
  intro q
  induction q with
  | zero => intro k acc _ h; omega
  | succ q ih =>
    intro k acc hk hq hacc
    by_cases e : k = N.1
    · refine ⟨acc, ?_, by rw [hacc, e, npl_sum hN]⟩
      rw [f_M_brought_5, if_pos (by rw [hM.1]; exact nI_le (by omega) (by omega))]
    · have hkc : k < N.1 := by omega
      obtain ⟨c1, c2, c3, c4⟩ := hM.2 k hkc
      obtain ⟨n1, n2, n3, n4, n5, n6⟩ := hN.2.1 k hkc
      have hvk : vi (nI k) 6 = true := vi_n (by omega) (by omega)
      have hck : (nI k).toNatClampNeg = k := cl_n (by omega)
      obtain ⟨x, x1, x2⟩ := pm_flow (m := m) hN hM hH hkc
      have hfz := flow_Z hN hH hkc
      have hz : isZ (q6 acc) (6 * 675000000) := by
        rw [hacc, ← sm_mul]
        refine isZ_mono (isZ_sm (K := 675000000) (fun j hj => ?_)) (by omega)
        have hj := flow_Z hN hH (show j < N.1 by omega)
        by_cases a : N.2.2.1 j = v
        · rw [if_pos a]; exact hj
        · rw [if_neg a]
          by_cases a' : N.2.1 j = v
          · rw [if_pos a', show b * - dot (lpl N j) h = - (b * dot (lpl N j) h) by grind]; exact isZ_neg hj
          · rw [if_neg a', show b * 0 = 0 by grind]; exact isZ_0 _
      have hs : ∀ f : Nat → Rat, b * sm (k + 1) f = b * sm k f + b * f k := fun f => by show b * (sm k f + f k) = _; grind
      rw [f_M_brought_5, if_neg (by rw [hM.1]; exact nI_ge hkc (by omega)), bo_s x1, ck_t hvk, hck, c1, c2]
      unfold f_M_brought_59
      rw [nI_1]
      by_cases q1 : N.2.2.1 k = v
      · rw [if_pos (by rw [q1])]
        exact ih (k + 1) _ (by omega) (by omega) (by rw [hs, q6_add (by rw [x2]; exact isZ_add hz hfz) (by omega), hacc, x2, if_pos q1])
      · rw [if_neg (fun q => q1 ((nI_iff (by omega) (by omega)).mp q)), ck_t hvk]
        by_cases q2 : N.2.1 k = v
        · rw [if_pos (by rw [q2])]
          exact ih (k + 1) _ (by omega) (by omega) (by rw [hs, q6_sub (by rw [x2]; exact isZ_sub hz hfz) (by omega), hacc, x2, if_neg q1, if_pos q2]; grind)
        · rw [if_neg (fun q => q2 ((nI_iff (by omega) (by omega)).mp q))]
          exact ih (k + 1) _ (by omega) (by omega) (by rw [hs, hacc, if_neg q1, if_neg q2]; grind)
theorem pm_brought (hN : netOk N) (hm : 9 < m) (hM : mN M N) {b : Rat} {h : v3} (hH : HT M b h) {v : Nat} (hv : v < 4) : ∃ x, f_M_brought m (nI v) M = some (x, M) ∧ q6 x = b * dot (npl (LN N) v) h := pm_brought_loop (m := m) hN hM hH hv m 0 0 (by omega) (by have := hN.1; omega) (by show (0 : Rat) = b * 0; grind)
theorem pm_lines_loop (hN : netOk N) (hM : mN M N) {b : Rat} {h : v3} (hH : HT M b h) : ∀ q k, k ≤ N.1 → N.1 - k < q → ((∀ i, k ≤ i → i < N.1 → - (N.2.2.2.2 i : Rat) ≤ dot (lpl N i) h ∧ dot (lpl N i) h ≤ (N.2.2.2.2 i : Rat)) → f_M_linesHold_2 m q (nI k) M = some (1, M)) ∧ ((¬ ∀ i, k ≤ i → i < N.1 → - (N.2.2.2.2 i : Rat) ≤ dot (lpl N i) h ∧ dot (lpl N i) h ≤ (N.2.2.2.2 i : Rat)) → f_M_linesHold_2 m q (nI k) M = some (0, M)) := by
  have h6 := hN.1
  intro q
  induction q with
  | zero => intro k _ h; omega
  | succ q ih =>
    intro k hk hq
    by_cases e : k = N.1
    · have : f_M_linesHold_2 m (q + 1) (nI k) M = some (1, M) := by rw [f_M_linesHold_2, if_pos (by rw [hM.1]; exact nI_le (by omega) (by omega))]
      exact ⟨fun _ => this, fun hn => (hn fun i a b => by omega).elim⟩
    · have hkc : k < N.1 := by omega
      obtain ⟨c1, c2, c3, c4⟩ := hM.2 k hkc
      obtain ⟨n1, n2, n3, n4, n5, n6⟩ := hN.2.1 k hkc
      have hvk : vi (nI k) 6 = true := vi_n (by omega) (by omega)
      have hck : (nI k).toNatClampNeg = k := cl_n (by omega)
      obtain ⟨x, x1, x2⟩ := pm_flow (m := m) hN hM hH hkc
      obtain ⟨i1, i2⟩ := ih (k + 1) (by omega) (by omega)
      obtain ⟨⟨b1, b2, b3⟩, -⟩ := hH
      have hfm : q3 (nI (N.2.2.2.2 k)) = (N.2.2.2.2 k : Rat) := q3_nI (by omega)
      have hfm2 : q3 (-nI (N.2.2.2.2 k)) = - (N.2.2.2.2 k : Rat) := by rw [q3_neg (K := 1000) (by rw [hfm]; exact isZ_nat n6) (by omega), hfm]
      have u1 : q6 ((nI (N.2.2.2.2 k)).toInt64 * gG M 0) = (N.2.2.2.2 k : Rat) * b := by rw [q6_mul (K := 1000 * 20250) (by rw [q6_i, hfm, b1]; exact isZ_mul (isZ_nat n6) b3) (by omega), q6_i, hfm, b1]
      have u2 : q6 ((-nI (N.2.2.2.2 k)).toInt64 * gG M 0) = - (N.2.2.2.2 k : Rat) * b := by rw [q6_mul (K := 1000 * 20250) (by rw [q6_i, hfm2, b1]; exact isZ_mul (isZ_neg (isZ_nat n6)) b3) (by omega), q6_i, hfm2, b1]
      have w1 : ((nI (N.2.2.2.2 k)).toInt64 * gG M 0) < x ↔ (N.2.2.2.2 k : Rat) < dot (lpl N k) h := by
        rw [q6_lt, u1, x2]
        constructor
        · intro hl
          by_cases q : (N.2.2.2.2 k : Rat) < dot (lpl N k) h
          · exact q
          · have := Rat.mul_nonneg (by grind : 0 ≤ b) (by grind : 0 ≤ (N.2.2.2.2 k : Rat) - dot (lpl N k) h); grind
        · intro hl
          have := Rat.mul_pos b2 (by grind : 0 < dot (lpl N k) h - (N.2.2.2.2 k : Rat)); grind
      have w2 : ((-nI (N.2.2.2.2 k)).toInt64 * gG M 0) ≤ x ↔ - (N.2.2.2.2 k : Rat) ≤ dot (lpl N k) h := by
        rw [q6_le, u2, x2]
        constructor
        · intro hl
          by_cases q : - (N.2.2.2.2 k : Rat) ≤ dot (lpl N k) h
          · exact q
          · have := Rat.mul_pos b2 (by grind : 0 < - (N.2.2.2.2 k : Rat) - dot (lpl N k) h); grind
        · intro hl
          have := Rat.mul_nonneg (by grind : 0 ≤ b) (by grind : 0 ≤ dot (lpl N k) h - - (N.2.2.2.2 k : Rat)); grind
      rw [f_M_linesHold_2, if_neg (by rw [hM.1]; exact nI_ge hkc (by omega)), bo_s x1, ck_t hvk, hck, c4]
      unfold f_M_linesHold_51
      rw [nI_1]
      by_cases q1 : (N.2.2.2.2 k : Rat) < dot (lpl N k) h
      · rw [if_pos (w1.mpr q1)]
        exact ⟨fun hl => by have := hl k (Nat.le_refl _) hkc; grind, fun _ => rfl⟩
      · rw [if_neg (fun q => q1 (w1.mp q)), ck_t hvk]
        by_cases q2 : - (N.2.2.2.2 k : Rat) ≤ dot (lpl N k) h
        · rw [if_pos (w2.mpr q2)]
          refine ⟨fun hl => i1 fun i a b => hl i (by omega) b, fun hl => i2 fun hl2 => hl fun i a b => ?_⟩
          by_cases e2 : i = k
          · rw [e2]; exact ⟨q2, by grind⟩
          · exact hl2 i (by omega) b
        · rw [if_neg (fun q => q2 (w2.mp q))]
          exact ⟨fun hl => (q2 (hl k (Nat.le_refl _) hkc).1).elim, fun _ => rfl⟩
theorem pm_linesHold (hN : netOk N) (hm : 9 < m) (hM : mN M N) {b : Rat} {h : v3} (hH : HT M b h) : (linesOk N h → f_M_linesHold m M = some (1, M)) ∧ (¬ linesOk N h → f_M_linesHold m M = some (0, M)) := by
  obtain ⟨h1, h2⟩ := pm_lines_loop (m := m) hN hM hH m 0 (by omega) (by have := hN.1; omega)
  exact ⟨fun hl => h1 fun i _ b => hl i b, fun hl => h2 fun h3 => hl fun i b => h3 i (by omega) b⟩
end MEET
