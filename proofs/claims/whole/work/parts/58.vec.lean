/-! vectors of three: three planes, their crossings; what a pivot does to them -/
abbrev v3 : Type := Rat × Rat × Rat
def dot (a b : v3) : Rat := a.1 * b.1 + a.2.1 * b.2.1 + a.2.2 * b.2.2
def crs (a b : v3) : v3 := (a.2.1 * b.2.2 - a.2.2 * b.2.1, a.2.2 * b.1 - a.1 * b.2.2, a.1 * b.2.1 - a.2.1 * b.1)
def scl (k : Rat) (a : v3) : v3 := (k * a.1, k * a.2.1, k * a.2.2)
def subv (a b : v3) : v3 := (a.1 - b.1, a.2.1 - b.2.1, a.2.2 - b.2.2)
def det3 (a b c : v3) : Rat := dot a (crs b c)
theorem v3_ext {a b : v3} (h1 : a.1 = b.1) (h2 : a.2.1 = b.2.1) (h3 : a.2.2 = b.2.2) : a = b := Prod.ext h1 (Prod.ext h2 h3)
def inU (p q r d : v3) : Prop := d = (0, 0, 0) ∨ ∃ e : Rat, (e = 1 ∨ e = -1) ∧ (d = scl e (crs q r) ∨ d = scl e (crs r p) ∨ d = scl e (crs p q))
theorem det3_rot (p q r : v3) : det3 q r p = det3 p q r := by
  obtain ⟨p1, p2, p3⟩ := p; obtain ⟨q1, q2, q3⟩ := q; obtain ⟨r1, r2, r3⟩ := r
  show q1 * (r2 * p3 - r3 * p2) + q2 * (r3 * p1 - r1 * p3) + q3 * (r1 * p2 - r2 * p1) = p1 * (q2 * r3 - q3 * r2) + p2 * (q3 * r1 - q1 * r3) + p3 * (q1 * r2 - q2 * r1)
  grind
theorem inU_rot {p q r d : v3} (h : inU p q r d) : inU q r p d := by
  rcases h with h | ⟨e, he, h | h | h⟩
  · exact Or.inl h
  · exact Or.inr ⟨e, he, Or.inr (Or.inr h)⟩
  · exact Or.inr ⟨e, he, Or.inl h⟩
  · exact Or.inr ⟨e, he, Or.inr (Or.inl h)⟩
theorem scl_scl (a b : Rat) (d : v3) : scl a (scl b d) = scl (a * b) d := by
  obtain ⟨x, y, z⟩ := d
  exact v3_ext (show a * (b * x) = a * b * x by grind) (show a * (b * y) = a * b * y by grind) (show a * (b * z) = a * b * z by grind)
theorem inU_scl {p q r d : v3} {k : Rat} (hk : k = 1 ∨ k = -1) (h : inU p q r d) : inU p q r (scl k d) := by
  rcases h with h | ⟨e, he, h⟩
  · left; rw [h]; exact v3_ext (show k * 0 = 0 by grind) (show k * 0 = 0 by grind) (show k * 0 = 0 by grind)
  · right
    refine ⟨k * e, by rcases hk with rfl | rfl <;> rcases he with rfl | rfl <;> grind, ?_⟩
    rcases h with h | h | h
    · exact Or.inl (by rw [h, scl_scl])
    · exact Or.inr (Or.inl (by rw [h, scl_scl]))
    · exact Or.inr (Or.inr (by rw [h, scl_scl]))
/-- b c a-rule at three planes -/
theorem swap23 (p q r t : v3) : subv (scl (dot t (crs q r)) (crs r p)) (scl (dot t (crs r p)) (crs q r)) = scl (det3 p q r) (crs r t) ∧ subv (scl (dot t (crs q r)) (crs p q)) (scl (dot t (crs p q)) (crs q r)) = scl (det3 p q r) (crs t q) := by
  obtain ⟨p1, p2, p3⟩ := p; obtain ⟨q1, q2, q3⟩ := q; obtain ⟨r1, r2, r3⟩ := r; obtain ⟨t1, t2, t3⟩ := t
  refine ⟨v3_ext ?_ ?_ ?_, v3_ext ?_ ?_ ?_⟩ <;> simp only [subv, scl, dot, crs, det3] <;> grind
theorem dot_scl (t d : v3) (k : Rat) : dot t (scl k d) = k * dot t d := by
  obtain ⟨a, b, c⟩ := t; obtain ⟨x, y, z⟩ := d
  show a * (k * x) + b * (k * y) + c * (k * z) = k * (a * x + b * y + c * z)
  grind
theorem subv_scl (a b k : Rat) (x y : v3) : subv (scl (k * a) x) (scl (k * b) y) = scl k (subv (scl a x) (scl b y)) := by
  obtain ⟨x1, x2, x3⟩ := x; obtain ⟨y1, y2, y3⟩ := y
  exact v3_ext (show k * a * x1 - k * b * y1 = k * (a * x1 - b * y1) by grind) (show k * a * x2 - k * b * y2 = k * (a * x2 - b * y2) by grind) (show k * a * x3 - k * b * y3 = k * (a * x3 - b * y3) by grind)
/-- the pivot's core: the plane t comes in place of p -/
theorem core {p q r t dc dj : v3} {b e : Rat} (hb : b = det3 p q r) (hb0 : 0 < b) (he : e = 1 ∨ e = -1) (hdc : dc = scl e (crs q r)) (hm : dot t dc ≠ 0) (hj : inU p q r dj) : ∃ th : Rat, (th = 1 ∨ th = -1) ∧ det3 (scl th t) q r = (if 0 < dot t dc then dot t dc else - dot t dc) ∧ inU (scl th t) q r (scl (1 / b) (subv (scl (dot t dc) dj) (scl (dot t dj) dc))) ∧ inU (scl th t) q r dc := by
  have hbn : b ≠ 0 := by grind
  have hdet : ∀ th : Rat, det3 (scl th t) q r = th * dot t (crs q r) := by
    intro th
    obtain ⟨q1, q2, q3⟩ := q; obtain ⟨r1, r2, r3⟩ := r; obtain ⟨t1, t2, t3⟩ := t
    show th * t1 * (q2 * r3 - q3 * r2) + th * t2 * (q3 * r1 - q1 * r3) + th * t3 * (q1 * r2 - q2 * r1) = th * (t1 * (q2 * r3 - q3 * r2) + t2 * (q3 * r1 - q1 * r3) + t3 * (q1 * r2 - q2 * r1))
    grind
  have hdt : dot t dc = e * dot t (crs q r) := by rw [hdc, dot_scl]
  have main : ∀ th : Rat, (th = 1 ∨ th = -1) → inU (scl th t) q r (scl (1 / b) (subv (scl (dot t dc) dj) (scl (dot t dj) dc))) ∧ inU (scl th t) q r dc := by
    intro th hth
    refine ⟨?_, Or.inr ⟨e, he, Or.inl hdc⟩⟩
    have hth2 : th * th = 1 := by rcases hth with rfl | rfl <;> grind
    rcases hj with hj | ⟨f, hf, hj | hj | hj⟩
    · left
      rw [hj]
      have : dot t ((0, 0, 0) : v3) = 0 := by show t.1 * 0 + t.2.1 * 0 + t.2.2 * 0 = 0; grind
      rw [this]
      exact v3_ext (show 1 / b * (dot t dc * 0 - 0 * dc.1) = 0 by grind) (show 1 / b * (dot t dc * 0 - 0 * dc.2.1) = 0 by grind) (show 1 / b * (dot t dc * 0 - 0 * dc.2.2) = 0 by grind)
    · left
      have e1 : subv (scl (dot t dc) dj) (scl (dot t dj) dc) = (0, 0, 0) := by
        rw [hdt, hj, hdc, dot_scl, scl_scl, scl_scl]
        obtain ⟨x, y, z⟩ := crs q r
        exact v3_ext (show (e * dot t (x, y, z)) * f * x - (f * dot t (x, y, z)) * e * x = 0 by grind) (show (e * dot t (x, y, z)) * f * y - (f * dot t (x, y, z)) * e * y = 0 by grind) (show (e * dot t (x, y, z)) * f * z - (f * dot t (x, y, z)) * e * z = 0 by grind)
      rw [e1]
      exact v3_ext (show 1 / b * 0 = 0 by grind) (show 1 / b * 0 = 0 by grind) (show 1 / b * 0 = 0 by grind)
    · right
      refine ⟨e * f * th, ?_, Or.inr (Or.inl ?_)⟩
      · rcases he with rfl | rfl <;> rcases hf with rfl | rfl <;> rcases hth with rfl | rfl <;> grind
      · have e1 : subv (scl (dot t dc) dj) (scl (dot t dj) dc) = scl (e * f) (scl b (crs r t)) := by
          rw [hb, ← (swap23 p q r t).1, ← subv_scl, hdt, hj, hdc, dot_scl, scl_scl, scl_scl]
          congr 2 <;> grind
        rw [e1, scl_scl, scl_scl]
        obtain ⟨r1, r2, r3⟩ := r; obtain ⟨t1, t2, t3⟩ := t
        refine v3_ext ?_ ?_ ?_ <;> simp only [scl, crs] <;> grind
    · right
      refine ⟨e * f * th, ?_, Or.inr (Or.inr ?_)⟩
      · rcases he with rfl | rfl <;> rcases hf with rfl | rfl <;> rcases hth with rfl | rfl <;> grind
      · have e1 : subv (scl (dot t dc) dj) (scl (dot t dj) dc) = scl (e * f) (scl b (crs t q)) := by
          rw [hb, ← (swap23 p q r t).2, ← subv_scl, hdt, hj, hdc, dot_scl, scl_scl, scl_scl]
          congr 2 <;> grind
        rw [e1, scl_scl, scl_scl]
        obtain ⟨q1, q2, q3⟩ := q; obtain ⟨t1, t2, t3⟩ := t
        refine v3_ext ?_ ?_ ?_ <;> simp only [scl, crs] <;> grind
  by_cases hs : 0 < dot t dc
  · refine ⟨e, he, ?_, main e he⟩
    rw [if_pos hs, hdet, hdt]
  · refine ⟨-e, by rcases he with rfl | rfl <;> grind, ?_, main (-e) (by rcases he with rfl | rfl <;> grind)⟩
    rw [if_neg hs, hdet, hdt]
    grind
