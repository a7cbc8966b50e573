/-! a table with its point, and one move of the simplex method over it -/
def Good (R n : Nat) (V : (Nat → Rat) → Prop) (lo hi : Nat → Rat) (b : Rat) (C : Nat → Nat → Rat) (rv cv : Nat → Nat) (w : Nat → Rat) : Prop :=
  0 < b ∧ Wf R n rv cv ∧ (∀ y, Eqs R n b C rv cv y ↔ V y) ∧ V w ∧ (∀ j, j < n → cv j < 15 ∧ lo (cv j) ≤ hi (cv j) ∧ (w (cv j) = lo (cv j) ∨ w (cv j) = hi (cv j))) ∧ (∀ i, i < R → rv i < 15 → lo (rv i) ≤ w (rv i) ∧ w (rv i) ≤ hi (rv i))
def elig (lo hi : Nat → Rat) (w : Nat → Rat) (γ : Nat → Rat) (cv : Nat → Nat) (j : Nat) : Prop := (0 < γ j ∧ w (cv j) < hi (cv j)) ∨ (γ j < 0 ∧ lo (cv j) < w (cv j))
/-- how far the variable of row i is from the bound to which it goes when column c moves in direction d -/
def roomR (lo hi : Nat → Rat) (w : Nat → Rat) (C : Nat → Nat → Rat) (rv : Nat → Nat) (d : Rat) (c i : Nat) : Rat := if 0 < d * C i c then hi (rv i) - w (rv i) else w (rv i) - lo (rv i)
def absR (x : Rat) : Rat := if 0 < x then x else - x
theorem absR_nonneg (x : Rat) : 0 ≤ absR x := by unfold absR; by_cases h : 0 < x <;> simp only [h, if_true, if_false] <;> grind
theorem absR_pos {x : Rat} (h : x ≠ 0) : 0 < absR x := by unfold absR; by_cases h1 : 0 < x <;> simp only [h1, if_true, if_false] <;> grind
theorem q_div_le {x b r : Rat} (hb : 0 < b) (h : x ≤ b * r) : x / b ≤ r := by
  have hb0 : b ≠ 0 := by grind
  have h1 : 0 ≤ (b * r - x) * b⁻¹ := Rat.mul_nonneg (by grind) (by have := Rat.inv_pos.mpr hb; grind)
  have h2 : (b * r - x) * b⁻¹ = r - x / b := by grind
  rw [h2] at h1
  grind
theorem q_div_lt {x b r : Rat} (hb : 0 < b) (h : x < b * r) : x / b < r := by
  have hb0 : b ≠ 0 := by grind
  have h1 : 0 < (b * r - x) * b⁻¹ := Rat.mul_pos (by grind) (Rat.inv_pos.mpr hb)
  have h2 : (b * r - x) * b⁻¹ = r - x / b := by grind
  rw [h2] at h1
  grind
theorem q_le_div {x b r : Rat} (hb : 0 < b) (h : b * r ≤ x) : r ≤ x / b := by
  have hb0 : b ≠ 0 := by grind
  have h1 : 0 ≤ (x - b * r) * b⁻¹ := Rat.mul_nonneg (by grind) (by have := Rat.inv_pos.mpr hb; grind)
  have h2 : (x - b * r) * b⁻¹ = x / b - r := by grind
  rw [h2] at h1
  grind
/-- what is chosen: the column by the least variable that gains; its direction -/
def Cho (n : Nat) (lo hi w γ : Nat → Rat) (cv : Nat → Nat) (fz : Nat → Bool) (c : Nat) (d : Rat) : Prop :=
  c < n ∧ fz c = false ∧ elig lo hi w γ cv c ∧ (∀ j, j < n → fz j = false → cv j < cv c → ¬ elig lo hi w γ cv j) ∧ ((0 < γ c ∧ d = 1) ∨ (γ c < 0 ∧ d = -1))
/-- nothing stops the column before its own other bound -/
def Flip (R : Nat) (lo hi w : Nat → Rat) (b : Rat) (C : Nat → Nat → Rat) (rv cv : Nat → Nat) (c : Nat) (d : Rat) : Prop :=
  ∀ i, i < R → rv i < 15 → C i c ≠ 0 → (hi (cv c) - lo (cv c)) * absR (C i c) ≤ b * roomR lo hi w C rv d c i
/-- row r stops it first, the least variable of those that do -/
def Stop (R : Nat) (lo hi w : Nat → Rat) (b : Rat) (C : Nat → Nat → Rat) (rv cv : Nat → Nat) (c : Nat) (d : Rat) (r : Nat) : Prop :=
  r < R ∧ rv r < 15 ∧ C r c ≠ 0 ∧ b * roomR lo hi w C rv d c r < (hi (cv c) - lo (cv c)) * absR (C r c) ∧
  ∀ i, i < R → rv i < 15 → C i c ≠ 0 → roomR lo hi w C rv d c r * absR (C i c) < roomR lo hi w C rv d c i * absR (C r c) ∨ (roomR lo hi w C rv d c r * absR (C i c) = roomR lo hi w C rv d c i * absR (C r c) ∧ rv r ≤ rv i)
def moved (R : Nat) (b : Rat) (C : Nat → Nat → Rat) (rv cv : Nat → Nat) (w : Nat → Rat) (c : Nat) (x : Rat) : Nat → Rat := fun u => w u + x * Col R b C rv cv c u
theorem moved_V {R n : Nat} {V : (Nat → Rat) → Prop} {lo hi : Nat → Rat} {b : Rat} {C : Nat → Nat → Rat} {rv cv : Nat → Nat} {w : Nat → Rat} (h : Good R n V lo hi b C rv cv w) {c : Nat} (hc : c < n) (x : Rat) : V (moved R b C rv cv w c x) := (h.2.2.1 _).mp (Eqs_add x ((h.2.2.1 _).mpr h.2.2.2.1) (Col_eqs h.2.1 hc))
theorem moved_row {R n : Nat} {b : Rat} {C : Nat → Nat → Rat} {rv cv : Nat → Nat} {w : Nat → Rat} (h : Wf R n rv cv) {c i : Nat} (hc : c < n) (hi : i < R) (x : Rat) : moved R b C rv cv w c x (rv i) = w (rv i) + x * C i c := by
  unfold moved; rw [Col_row h hc hi]
theorem moved_col {R n : Nat} {b : Rat} {C : Nat → Nat → Rat} {rv cv : Nat → Nat} {w : Nat → Rat} (h : Wf R n rv cv) {c j : Nat} (hc : c < n) (hj : j < n) (x : Rat) : moved R b C rv cv w c x (cv j) = if j = c then w (cv c) + x * b else w (cv j) := by
  unfold moved; rw [Col_col h hc hj]
  by_cases e : j = c
  · subst e; rw [if_pos rfl, if_pos rfl]
  · rw [if_neg e, if_neg e]; grind
/-- the chosen column stands at the bound from which it goes -/
theorem Cho_at {R n : Nat} {V : (Nat → Rat) → Prop} {lo hi : Nat → Rat} {b : Rat} {C : Nat → Nat → Rat} {rv cv : Nat → Nat} {w γ : Nat → Rat} {fz : Nat → Bool} (h : Good R n V lo hi b C rv cv w) {c : Nat} {d : Rat} (hc : Cho n lo hi w γ cv fz c d) : lo (cv c) < hi (cv c) ∧ ((d = 1 ∧ w (cv c) = lo (cv c) ∧ 0 < γ c) ∨ (d = -1 ∧ w (cv c) = hi (cv c) ∧ γ c < 0)) := by
  obtain ⟨c1, c2, c3, c4, c5⟩ := hc
  obtain ⟨-, l1, l2⟩ := h.2.2.2.2.1 c c1
  unfold elig at c3
  rcases c3 with ⟨g1, g2⟩ | ⟨g1, g2⟩
  · have hw : w (cv c) = lo (cv c) := by
      rcases l2 with l2 | l2
      · exact l2
      · exfalso; grind
    refine ⟨by grind, Or.inl ⟨?_, hw, g1⟩⟩
    rcases c5 with c5 | c5
    · exact c5.2
    · exfalso; have := c5.1; grind
  · have hw : w (cv c) = hi (cv c) := by
      rcases l2 with l2 | l2
      · exfalso; grind
      · exact l2
    refine ⟨by grind, Or.inr ⟨?_, hw, g1⟩⟩
    rcases c5 with c5 | c5
    · exfalso; have := c5.1; grind
    · exact c5.2
theorem room_nonneg {R n : Nat} {V : (Nat → Rat) → Prop} {lo hi : Nat → Rat} {b : Rat} {C : Nat → Nat → Rat} {rv cv : Nat → Nat} {w : Nat → Rat} (h : Good R n V lo hi b C rv cv w) {i : Nat} (hi0 : i < R) (h15 : rv i < 15) (d : Rat) (c : Nat) : 0 ≤ roomR lo hi w C rv d c i := by
  obtain ⟨h1, h2⟩ := h.2.2.2.2.2 i hi0 h15
  unfold roomR
  by_cases h3 : 0 < d * C i c
  · rw [if_pos h3]; grind
  · rw [if_neg h3]; grind
/-- a row within its bounds stays so when the column moves by at most what its room lets -/
theorem row_stays {lo hi w : Nat → Rat} {b t d : Rat} {C : Nat → Nat → Rat} {rv : Nat → Nat} {c i : Nat} (hb : 0 < b) (ht : 0 ≤ t) (hd : d = 1 ∨ d = -1) (h1 : lo (rv i) ≤ w (rv i)) (h2 : w (rv i) ≤ hi (rv i)) (h3 : C i c ≠ 0 → t * absR (C i c) ≤ b * roomR lo hi w C rv d c i) : lo (rv i) ≤ w (rv i) + d * t / b * C i c ∧ w (rv i) + d * t / b * C i c ≤ hi (rv i) := by
  by_cases h0 : C i c = 0
  · rw [h0]; grind
  · have h4 := h3 h0
    -- the change, times b
    have e1 : d * t / b * C i c = (t * (d * C i c)) / b := by grind
    have key : ∀ x r : Rat, x ≤ b * r → x / b ≤ r := fun x r hx => q_div_le hb hx
    have key2 : ∀ x : Rat, 0 ≤ x → 0 ≤ x / b := fun x hx => q_le_div hb (by grind)
    unfold roomR at h4
    by_cases hs : 0 < d * C i c
    · rw [if_pos hs] at h4
      have ea : absR (C i c) = d * C i c := by
        unfold absR
        rcases hd with hd | hd <;> subst hd
        · rw [if_pos (by grind)]; grind
        · rw [if_neg (by grind)]; grind
      rw [ea] at h4
      have k1 := key _ _ h4
      have k2 := key2 (t * (d * C i c)) (Rat.mul_nonneg ht (by grind))
      rw [e1]
      grind
    · rw [if_neg hs] at h4
      have ea : absR (C i c) = - (d * C i c) := by
        unfold absR
        rcases hd with hd | hd <;> subst hd
        · rw [if_neg (by grind)]; grind
        · rw [if_pos (by grind)]; grind
      rw [ea] at h4
      have k1 := key _ _ h4
      have k2 := key2 (t * (- (d * C i c))) (Rat.mul_nonneg ht (by grind))
      rw [e1]
      grind
theorem Flip_good {R n : Nat} {V : (Nat → Rat) → Prop} {lo hi : Nat → Rat} {b : Rat} {C : Nat → Nat → Rat} {rv cv : Nat → Nat} {w γ : Nat → Rat} {fz : Nat → Bool} (h : Good R n V lo hi b C rv cv w) {c : Nat} {d : Rat} (hc : Cho n lo hi w γ cv fz c d) (hf : Flip R lo hi w b C rv cv c d) : Good R n V lo hi b C rv cv (moved R b C rv cv w c (d * (hi (cv c) - lo (cv c)) / b)) := by
  obtain ⟨hlt, hat⟩ := Cho_at h hc
  have hcn := hc.1
  obtain ⟨h1, h2, h3, h4, h5, h6⟩ := h
  have hd : d = 1 ∨ d = -1 := by rcases hat with hat | hat; exact Or.inl hat.1; exact Or.inr hat.1
  refine ⟨h1, h2, h3, moved_V ⟨h1, h2, h3, h4, h5, h6⟩ hcn _, fun j hj => ?_, fun i hi0 h15 => ?_⟩
  · obtain ⟨a1, a2, a3⟩ := h5 j hj
    refine ⟨a1, a2, ?_⟩
    rw [moved_col h2 hcn hj]
    by_cases e : j = c
    · subst e
      rw [if_pos rfl]
      rcases hat with ⟨rfl, e2, -⟩ | ⟨rfl, e2, -⟩
      · right; rw [e2]; grind
      · left; rw [e2]; grind
    · rw [if_neg e]; exact a3
  · rw [moved_row h2 hcn hi0]
    obtain ⟨a1, a2⟩ := h6 i hi0 h15
    exact row_stays h1 (by grind) hd a1 a2 (fun h0 => hf i hi0 h15 h0)
/-- how far the column goes when row r stops it -/
def tOf (lo hi w : Nat → Rat) (b : Rat) (C : Nat → Nat → Rat) (rv : Nat → Nat) (d : Rat) (c r : Nat) : Rat := b * roomR lo hi w C rv d c r / absR (C r c)
def sgn (x : Rat) : Rat := if 0 < x then 1 else -1
theorem Stop_good {R n : Nat} {V : (Nat → Rat) → Prop} {lo hi : Nat → Rat} {b : Rat} {C : Nat → Nat → Rat} {rv cv : Nat → Nat} {w γ : Nat → Rat} {fz : Nat → Bool} (h : Good R n V lo hi b C rv cv w) (hlh : ∀ i, i < R → rv i < 15 → lo (rv i) ≤ hi (rv i)) {c r : Nat} {d : Rat} (hc : Cho n lo hi w γ cv fz c d) (hs : Stop R lo hi w b C rv cv c d r) : Good R n V lo hi (sgn (C r c) * C r c) (pvC (sgn (C r c)) b C r c) (pvR rv cv r c) (pvK rv cv r c) (moved R b C rv cv w c (d * tOf lo hi w b C rv d c r / b)) := by
  have hG := h
  obtain ⟨hlt, hat⟩ := Cho_at h hc
  have hcn := hc.1
  obtain ⟨h1, h2, h3, h4, h5, h6⟩ := h
  obtain ⟨s1, s2, s3, s4, s5⟩ := hs
  have hd : d = 1 ∨ d = -1 := by rcases hat with hat | hat; exact Or.inl hat.1; exact Or.inr hat.1
  have hap := absR_pos s3
  have hip : 0 < (absR (C r c))⁻¹ := Rat.inv_pos.mpr hap
  have hrm := room_nonneg hG s1 s2 d c
  have ht0 : 0 ≤ tOf lo hi w b C rv d c r := by
    unfold tOf
    exact q_le_div hap (by have := Rat.mul_nonneg (by grind : 0 ≤ b) hrm; grind)
  have htl : tOf lo hi w b C rv d c r < hi (cv c) - lo (cv c) := by
    unfold tOf
    exact q_div_lt hap (by grind)
  have hgg : sgn (C r c) * sgn (C r c) = 1 := by unfold sgn; by_cases q : 0 < C r c <;> simp only [q, if_true, if_false] <;> grind
  have hmp : 0 < sgn (C r c) * C r c := by unfold sgn; by_cases q : 0 < C r c <;> simp only [q, if_true, if_false] <;> grind
  have rows : ∀ i, i < R → rv i < 15 → lo (rv i) ≤ w (rv i) + d * tOf lo hi w b C rv d c r / b * C i c ∧ w (rv i) + d * tOf lo hi w b C rv d c r / b * C i c ≤ hi (rv i) := by
    intro i hi0 h15
    obtain ⟨a1, a2⟩ := h6 i hi0 h15
    refine row_stays h1 ht0 hd a1 a2 (fun h0 => ?_)
    have h7 : roomR lo hi w C rv d c r * absR (C i c) ≤ roomR lo hi w C rv d c i * absR (C r c) := by
      rcases s5 i hi0 h15 h0 with h7 | h7
      · grind
      · have := h7.1; grind
    have h8 : 0 ≤ b * (roomR lo hi w C rv d c i * absR (C r c) - roomR lo hi w C rv d c r * absR (C i c)) := Rat.mul_nonneg (by grind) (by grind)
    have h9 : tOf lo hi w b C rv d c r * absR (C i c) = (b * roomR lo hi w C rv d c r * absR (C i c)) / absR (C r c) := by unfold tOf; grind
    rw [h9]
    exact q_div_le hap (by grind)
  -- where the row that stops comes to stand
  have atr : w (rv r) + d * tOf lo hi w b C rv d c r / b * C r c = lo (rv r) ∨ w (rv r) + d * tOf lo hi w b C rv d c r / b * C r c = hi (rv r) := by
    unfold tOf roomR
    have h9 : absR (C r c) ≠ 0 := by grind
    have hb0 : b ≠ 0 := by grind
    by_cases q : 0 < d * C r c
    · right
      have ea : absR (C r c) = d * C r c := by
        unfold absR
        rcases hd with hd | hd <;> subst hd
        · rw [if_pos (by grind)]; grind
        · rw [if_neg (by grind)]; grind
      rw [if_pos q, ea]
      rw [ea] at h9
      grind
    · left
      have ea : absR (C r c) = - (d * C r c) := by
        unfold absR
        rcases hd with hd | hd <;> subst hd
        · rw [if_neg (by grind)]; grind
        · rw [if_pos (by grind)]; grind
      rw [if_neg q, ea]
      rw [ea] at h9
      grind
  refine ⟨hmp, Wf_pivot h2 s1 hcn, fun y => (Eqs_pivot s1 hcn (by grind) hgg s3).symm.trans (h3 y), moved_V hG hcn _, fun j hj => ?_, fun i hi0 h15 => ?_⟩
  · unfold pvK
    by_cases e : j = c
    · rw [if_pos e]
      refine ⟨s2, hlh r s1 s2, ?_⟩
      rw [moved_row h2 hcn s1]
      exact atr
    · rw [if_neg e]
      obtain ⟨a1, a2, a3⟩ := h5 j hj
      refine ⟨a1, a2, ?_⟩
      rw [moved_col h2 hcn hj, if_neg e]
      exact a3
  · unfold pvR at h15 ⊢
    by_cases e : i = r
    · rw [if_pos e] at h15 ⊢
      rw [moved_col h2 hcn hcn, if_pos rfl]
      have hb0 : b ≠ 0 := by grind
      have e9 : d * tOf lo hi w b C rv d c r / b * b = d * tOf lo hi w b C rv d c r := by grind
      rw [e9]
      rcases hat with ⟨rfl, e2, -⟩ | ⟨rfl, e2, -⟩
      · rw [e2]; grind
      · rw [e2]; grind
    · rw [if_neg e] at h15 ⊢
      rw [moved_row h2 hcn hi0]
      exact rows i hi0 h15
