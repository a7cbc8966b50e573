/-! tables: rows and columns hold different variables; solutions by columns; Bland's rule lets no table return -/
def Wf (R n : Nat) (rv cv : Nat → Nat) : Prop := (∀ i k, i < R → k < R → rv i = rv k → i = k) ∧ (∀ i k, i < n → k < n → cv i = cv k → i = k) ∧ (∀ i k, i < R → k < n → rv i ≠ cv k)
theorem Wf_pivot {R n r c : Nat} {rv cv : Nat → Nat} (h : Wf R n rv cv) (hr : r < R) (hc : c < n) : Wf R n (pvR rv cv r c) (pvK rv cv r c) := by
  obtain ⟨h1, h2, h3⟩ := h
  refine ⟨fun i k hi hk e => ?_, fun i k hi hk e => ?_, fun i k hi hk e => ?_⟩
  · unfold pvR at e
    by_cases a : i = r <;> by_cases b : k = r
    · omega
    · rw [if_pos a, if_neg b] at e; exact absurd e.symm (h3 k c hk hc)
    · rw [if_neg a, if_pos b] at e; exact absurd e (h3 i c hi hc)
    · rw [if_neg a, if_neg b] at e; exact h1 i k hi hk e
  · unfold pvK at e
    by_cases a : i = c <;> by_cases b : k = c
    · omega
    · rw [if_pos a, if_neg b] at e; exact absurd e (h3 r k hr hk)
    · rw [if_neg a, if_pos b] at e; exact absurd e.symm (h3 r i hr hi)
    · rw [if_neg a, if_neg b] at e; exact h2 i k hi hk e
  · unfold pvR pvK at e
    by_cases a : i = r <;> by_cases b : k = c
    · rw [if_pos a, if_pos b] at e; exact h3 r c hr hc e.symm
    · rw [if_pos a, if_neg b] at e; exact b (h2 c k hc hk e).symm
    · rw [if_neg a, if_pos b] at e; exact a (h1 i r hi hr e)
    · rw [if_neg a, if_neg b] at e; exact h3 i k hi hk e
/-- the solution with column j at b, the other columns at 0 -/
def Col (R : Nat) (b : Rat) (C : Nat → Nat → Rat) (rv cv : Nat → Nat) (j : Nat) : Nat → Rat := fun u => sm R (fun i => if rv i = u then C i j else 0) + (if cv j = u then b else 0)
theorem Col_row {R n : Nat} {b : Rat} {C : Nat → Nat → Rat} {rv cv : Nat → Nat} (h : Wf R n rv cv) {j i : Nat} (hj : j < n) (hi : i < R) : Col R b C rv cv j (rv i) = C i j := by
  unfold Col
  rw [sm_one hi (fun k hk hki => if_neg fun e => hki (h.1 k i hk hi e)), if_pos rfl, if_neg (fun e => h.2.2 i j hi hj e.symm)]
  grind
theorem Col_col {R n : Nat} {b : Rat} {C : Nat → Nat → Rat} {rv cv : Nat → Nat} (h : Wf R n rv cv) {j k : Nat} (hj : j < n) (hk : k < n) : Col R b C rv cv j (cv k) = if k = j then b else 0 := by
  unfold Col
  rw [sm_zero (fun i hi => if_neg (h.2.2 i k hi hk))]
  by_cases e : k = j
  · subst e; rw [if_pos rfl, if_pos rfl]; grind
  · rw [if_neg e, if_neg (fun q => e (h.2.1 j k hj hk q).symm)]; grind
theorem Col_none {R : Nat} {b : Rat} {C : Nat → Nat → Rat} {rv cv : Nat → Nat} {j u : Nat} (h1 : ∀ i, i < R → rv i ≠ u) (h2 : cv j ≠ u) : Col R b C rv cv j u = 0 := by
  unfold Col
  rw [sm_zero (fun i hi => if_neg (h1 i hi)), if_neg h2]
  grind
theorem Col_eqs {R n : Nat} {b : Rat} {C : Nat → Nat → Rat} {rv cv : Nat → Nat} (h : Wf R n rv cv) {j : Nat} (hj : j < n) : Eqs R n b C rv cv (Col R b C rv cv j) := by
  intro i hi
  rw [Col_row h hj hi, sm_one (c := j) hj (fun k hk hkj => by rw [Col_col h hj hk, if_neg hkj]; grind), Col_col h hj hj, if_pos rfl]
  grind
theorem Eqs_add {R n : Nat} {b : Rat} {C : Nat → Nat → Rat} {rv cv : Nat → Nat} {y z : Nat → Rat} (a : Rat) (h1 : Eqs R n b C rv cv y) (h2 : Eqs R n b C rv cv z) : Eqs R n b C rv cv (fun u => y u + a * z u) := by
  intro i hi
  have e : sm n (fun j => C i j * (y (cv j) + a * z (cv j))) = sm n (fun j => C i j * y (cv j)) + a * sm n (fun j => C i j * z (cv j)) := by
    rw [← sm_mul, ← sm_add]
    exact sm_congr fun j _ => by grind
  show b * (y (rv i) + a * z (rv i)) = _
  rw [e, ← h1 i hi, ← h2 i hi]
  grind
theorem Eqs_uniq {R n : Nat} {b : Rat} {C : Nat → Nat → Rat} {rv cv : Nat → Nat} {y z : Nat → Rat} (hb : b ≠ 0) (h1 : Eqs R n b C rv cv y) (h2 : Eqs R n b C rv cv z) (h : ∀ j, j < n → y (cv j) = z (cv j)) : ∀ i, i < R → y (rv i) = z (rv i) := by
  intro i hi
  have e : b * y (rv i) = b * z (rv i) := by
    rw [h1 i hi, h2 i hi]
    exact sm_congr fun j hj => by rw [h j hj]
  grind
/-- what the aim gains by the columns -/
def Gain (R n : Nat) (b : Rat) (C : Nat → Nat → Rat) (rv cv : Nat → Nat) (aim : Nat) (γ : Nat → Rat) : Prop := (∃ i, i < R ∧ rv i = aim ∧ ∀ j, j < n → γ j = C i j) ∨ (∃ j0, j0 < n ∧ cv j0 = aim ∧ ∀ j, j < n → γ j = if j = j0 then b else 0)
theorem Gain_eq {R n : Nat} {b : Rat} {C : Nat → Nat → Rat} {rv cv : Nat → Nat} {aim : Nat} {γ : Nat → Rat} (h : Gain R n b C rv cv aim γ) {y : Nat → Rat} (hy : Eqs R n b C rv cv y) : b * y aim = sm n (fun j => γ j * y (cv j)) := by
  rcases h with ⟨i, hi, e, h⟩ | ⟨j0, hj0, e, h⟩
  · rw [← e, hy i hi]
    exact sm_congr fun j hj => by rw [h j hj]
  · rw [sm_one (c := j0) hj0 (fun j hj hne => by rw [h j hj, if_neg hne]; grind), h j0 hj0, if_pos rfl, e]
/-- one move of a table under Bland's rule that moves nothing: column c enters in the direction of its gain, row r leaves; w is the point -/
def Deg (R n nb : Nat) (b : Rat) (C : Nat → Nat → Rat) (rv cv : Nat → Nat) (γ : Nat → Rat) (lo hi w : Nat → Rat) (fz : Nat → Bool) (c r : Nat) : Prop :=
  c < n ∧ r < R ∧ fz c = false ∧ rv r < nb ∧
  ((0 < γ c ∧ w (cv c) < hi (cv c)) ∨ (γ c < 0 ∧ lo (cv c) < w (cv c))) ∧
  (∀ j, j < n → fz j = false → cv j < cv c → ¬ (0 < γ j ∧ w (cv j) < hi (cv j)) ∧ ¬ (γ j < 0 ∧ lo (cv j) < w (cv j))) ∧
  ((0 < γ c * C r c ∧ w (rv r) = hi (rv r)) ∨ (γ c * C r c < 0 ∧ w (rv r) = lo (rv r))) ∧
  (∀ i, i < R → rv i < nb → ((0 < γ c * C i c ∧ w (rv i) = hi (rv i)) ∨ (γ c * C i c < 0 ∧ w (rv i) = lo (rv i))) → rv r ≤ rv i)
theorem has_max {p q : Nat} (f : Nat → Nat) (h : p < q) : ∃ a, p ≤ a ∧ a < q ∧ ∀ t, p ≤ t → t < q → f t ≤ f a := by
  induction q with
  | zero => omega
  | succ q ih =>
    by_cases e : p = q
    · subst e; exact ⟨p, Nat.le_refl _, by omega, fun t h1 h2 => by rw [show t = p by omega]; exact Nat.le_refl _⟩
    · obtain ⟨a, h1, h2, h3⟩ := ih (by omega)
      by_cases hq : f q ≤ f a
      · exact ⟨a, h1, by omega, fun t t1 t2 => by
          by_cases et : t = q
          · subst et; exact hq
          · exact h3 t t1 (by omega)⟩
      · exact ⟨q, by omega, by omega, fun t t1 t2 => by
          by_cases et : t = q
          · subst et; exact Nat.le_refl _
          · have := h3 t t1 (by omega); omega⟩
