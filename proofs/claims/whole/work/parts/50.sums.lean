/-! sums of fractions; tables of a linear system and their pivots -/
def sm (n : Nat) (f : Nat → Rat) : Rat := match n with
  | 0 => 0
  | k + 1 => sm k f + f k
theorem sm_congr {n : Nat} {f g : Nat → Rat} (h : ∀ j, j < n → f j = g j) : sm n f = sm n g := by
  induction n with
  | zero => rfl
  | succ n ih => show sm n f + f n = sm n g + g n; rw [ih (fun j hj => h j (by omega)), h n (by omega)]
theorem sm_add (n : Nat) (f g : Nat → Rat) : sm n (fun j => f j + g j) = sm n f + sm n g := by
  induction n with
  | zero => show (0 : Rat) = 0 + 0; grind
  | succ n ih => show sm n (fun j => f j + g j) + (f n + g n) = (sm n f + f n) + (sm n g + g n); rw [ih]; grind
theorem sm_mul (n : Nat) (a : Rat) (f : Nat → Rat) : sm n (fun j => a * f j) = a * sm n f := by
  induction n with
  | zero => show (0 : Rat) = a * 0; grind
  | succ n ih => show sm n (fun j => a * f j) + a * f n = a * (sm n f + f n); rw [ih]; grind
theorem sm_sub (n : Nat) (f g : Nat → Rat) : sm n (fun j => f j - g j) = sm n f - sm n g := by
  induction n with
  | zero => show (0 : Rat) = 0 - 0; grind
  | succ n ih => show sm n (fun j => f j - g j) + (f n - g n) = (sm n f + f n) - (sm n g + g n); rw [ih]; grind
theorem sm_neg (n : Nat) (f : Nat → Rat) : sm n (fun j => - f j) = - sm n f := by
  induction n with
  | zero => show (0 : Rat) = - 0; grind
  | succ n ih => show sm n (fun j => - f j) + (- f n) = - (sm n f + f n); rw [ih]; grind
theorem sm_zero {n : Nat} {f : Nat → Rat} (h : ∀ j, j < n → f j = 0) : sm n f = 0 := by
  induction n with
  | zero => rfl
  | succ n ih => show sm n f + f n = 0; rw [ih (fun j hj => h j (by omega)), h n (by omega)]; grind
theorem sm_upd {n c : Nat} {f g : Nat → Rat} (hc : c < n) (h : ∀ j, j < n → j ≠ c → f j = g j) : sm n f = sm n g + (f c - g c) := by
  induction n with
  | zero => omega
  | succ n ih =>
    show sm n f + f n = (sm n g + g n) + (f c - g c)
    by_cases e : c = n
    · subst e
      rw [sm_congr (f := f) (g := g) (fun j hj => h j (by omega) (by omega))]
      grind
    · rw [ih (by omega) (fun j hj hj2 => h j (by omega) hj2), h n (by omega) (fun q => e q.symm)]
      grind
theorem sm_one {n c : Nat} {f : Nat → Rat} (hc : c < n) (h : ∀ j, j < n → j ≠ c → f j = 0) : sm n f = f c := by
  rw [sm_upd (g := fun _ => 0) hc h, sm_zero (fun _ _ => rfl)]
  grind
theorem sm_le {n : Nat} {f g : Nat → Rat} (h : ∀ j, j < n → f j ≤ g j) : sm n f ≤ sm n g := by
  induction n with
  | zero => exact Rat.le_refl
  | succ n ih =>
    show sm n f + f n ≤ sm n g + g n
    have h1 := ih (fun j hj => h j (by omega))
    have h2 := h n (by omega)
    grind
theorem sm_nonpos {n : Nat} {f : Nat → Rat} (h : ∀ j, j < n → f j ≤ 0) : sm n f ≤ 0 := by
  have h1 := sm_le (g := fun _ => 0) h
  rwa [sm_zero (fun _ _ => rfl)] at h1
theorem sm_pos_ex {n : Nat} {f : Nat → Rat} (h : 0 < sm n f) : ∃ j, j < n ∧ 0 < f j := by
  refine Classical.byContradiction fun hc => ?_
  have h1 := sm_nonpos (n := n) (f := f) (fun j hj => by
    by_cases h2 : 0 < f j
    · exact absurd ⟨j, hj, h2⟩ hc
    · grind)
  grind
theorem sm_eq0 {n : Nat} {f : Nat → Rat} (h : ∀ j, j < n → f j ≤ 0) (h0 : sm n f = 0) : ∀ j, j < n → f j = 0 := by
  induction n with
  | zero => intro j hj; omega
  | succ n ih =>
    have h1 := sm_nonpos (n := n) (f := f) (fun j hj => h j (by omega))
    have h2 := h n (by omega)
    have h3 : sm n f + f n = 0 := h0
    intro j hj
    by_cases e : j = n
    · subst e; grind
    · exact ih (fun j hj => h j (by omega)) (by grind) j (by omega)
theorem sm_comm (n m : Nat) (f : Nat → Nat → Rat) : sm n (fun i => sm m (fun j => f i j)) = sm m (fun j => sm n (fun i => f i j)) := by
  induction n with
  | zero => exact (sm_zero (n := m) (fun _ _ => rfl)).symm
  | succ n ih =>
    show sm n (fun i => sm m (fun j => f i j)) + sm m (fun j => f n j) = sm m (fun j => sm n (fun i => f i j) + f n j)
    rw [sm_add, ih]
/-- the rows of a table, as equations: every row's variable, times b, is the sum over the columns -/
def Eqs (R n : Nat) (b : Rat) (C : Nat → Nat → Rat) (rv cv : Nat → Nat) (y : Nat → Rat) : Prop := ∀ i, i < R → b * y (rv i) = sm n (fun j => C i j * y (cv j))
def pvC (g b : Rat) (C : Nat → Nat → Rat) (r c : Nat) : Nat → Nat → Rat := fun i j => if i = r then (if j = c then g * b else - g * C r j) else (if j = c then g * C i c else g * (C i j * C r c - C i c * C r j) / b)
def pvR (rv cv : Nat → Nat) (r c : Nat) : Nat → Nat := fun i => if i = r then cv c else rv i
def pvK (rv cv : Nat → Nat) (r c : Nat) : Nat → Nat := fun j => if j = c then rv r else cv j
theorem Eqs_pivot {R n r c : Nat} {b g : Rat} {C : Nat → Nat → Rat} {rv cv : Nat → Nat} {y : Nat → Rat} (hr : r < R) (hc : c < n) (hb : b ≠ 0) (hg : g * g = 1) (hm : C r c ≠ 0) : Eqs R n b C rv cv y ↔ Eqs R n (g * C r c) (pvC g b C r c) (pvR rv cv r c) (pvK rv cv r c) y := by
  have er : sm n (fun j => pvC g b C r c r j * y (pvK rv cv r c j)) = - g * sm n (fun j => C r j * y (cv j)) + g * b * y (rv r) + g * C r c * y (cv c) := by
    rw [sm_upd (c := c) (g := fun j => (- g) * (C r j * y (cv j))) hc (fun j _ hj => by simp only [pvC, pvK, if_pos, if_neg hj]; grind), sm_mul]
    simp only [pvC, pvK, if_pos]
    grind
  have ei : ∀ i, i ≠ r → sm n (fun j => pvC g b C r c i j * y (pvK rv cv r c j)) = g / b * (C r c * sm n (fun j => C i j * y (cv j)) - C i c * sm n (fun j => C r j * y (cv j))) + g * C i c * y (rv r) := by
    intro i hi
    rw [sm_upd (c := c) (g := fun j => g / b * (C r c * (C i j * y (cv j)) - C i c * (C r j * y (cv j)))) hc (fun j _ hj => by simp only [pvC, pvK, if_neg hi, if_neg hj]; grind), sm_mul, sm_sub, sm_mul, sm_mul]
    simp only [pvC, pvK, if_pos, if_neg hi]
    grind
  constructor
  · intro h i hi
    by_cases e : i = r
    · subst e
      rw [er]
      have h1 := h i hi
      simp only [pvR, if_pos]
      grind
    · rw [ei i e]
      have h1 := h i hi
      have h2 := h r hr
      simp only [pvR, if_neg e]
      rw [← h1, ← h2]
      grind
  · intro h
    have h2 : b * y (rv r) = sm n (fun j => C r j * y (cv j)) := by
      have h1 := h r hr
      rw [er] at h1
      simp only [pvR, if_pos] at h1
      have h3 : g * (b * y (rv r)) = g * sm n (fun j => C r j * y (cv j)) := by grind
      have h4 : g * (g * (b * y (rv r))) = g * (g * sm n (fun j => C r j * y (cv j))) := by rw [h3]
      grind
    intro i hi
    by_cases e : i = r
    · subst e; exact h2
    · have h1 := h i hi
      rw [ei i e] at h1
      simp only [pvR, if_neg e] at h1
      rw [← h2] at h1
      have h3 : g * (C r c * y (rv i)) = g * (C r c * (sm n (fun j => C i j * y (cv j)) / b)) := by grind
      have h4 : C r c * y (rv i) = C r c * (sm n (fun j => C i j * y (cv j)) / b) := by
        have h5 : g * (g * (C r c * y (rv i))) = g * (g * (C r c * (sm n (fun j => C i j * y (cv j)) / b))) := by rw [h3]
        grind
      have h6 : y (rv i) = sm n (fun j => C i j * y (cv j)) / b := by grind
      rw [h6]
      grind
