/-! the network's matrix: each line adds its strength; its adjugate with a root -/
def dl (fa fb : Nat → Nat) (k v : Nat) : Rat := (if v = fa k then 1 else 0) - (if v = fb k then 1 else 0)
def Lp (c : Nat) (fa fb fs : Nat → Nat) (a b : Nat) : Rat := sm c (fun k => (fs k : Rat) * dl fa fb k a * dl fa fb k b)
theorem dl_sum {fa fb : Nat → Nat} {k : Nat} (ha : fa k < 4) (hb : fb k < 4) : dl fa fb k 0 + dl fa fb k 1 + dl fa fb k 2 + dl fa fb k 3 = 0 := by
  unfold dl
  have h1 : ∀ x : Nat, x < 4 → ((if 0 = x then (1 : Rat) else 0) + (if 1 = x then 1 else 0) + (if 2 = x then 1 else 0) + (if 3 = x then 1 else 0)) = 1 := by
    intro x hx
    rcases (show x = 0 ∨ x = 1 ∨ x = 2 ∨ x = 3 by omega) with e | e | e | e <;> subst e <;> simp only [Nat.reduceEqDiff, reduceIte] <;> grind
  have := h1 _ ha
  have := h1 _ hb
  grind
theorem Lp_sym (c : Nat) (fa fb fs : Nat → Nat) (a b : Nat) : Lp c fa fb fs a b = Lp c fa fb fs b a := sm_congr fun k _ => by grind
theorem Lp_sum {c : Nat} {fa fb : Nat → Nat} (fs : Nat → Nat) (h : ∀ k, k < c → fa k < 4 ∧ fb k < 4) (a : Nat) : Lp c fa fb fs a 0 + Lp c fa fb fs a 1 + Lp c fa fb fs a 2 + Lp c fa fb fs a 3 = 0 := by
  unfold Lp
  rw [← sm_add, ← sm_add, ← sm_add]
  refine sm_zero fun k hk => ?_
  have := dl_sum (h k hk).1 (h k hk).2
  have h2 : (fs k : Rat) * dl fa fb k a * (dl fa fb k 0 + dl fa fb k 1 + dl fa fb k 2 + dl fa fb k 3) = 0 := by rw [this]; grind
  grind
def bs (r i : Nat) : Nat := (r + 1 + i % 3) % 4
def cof (L : Nat → Nat → Rat) (r i j : Nat) : Rat := L (bs r (i + 1)) (bs r (j + 1)) * L (bs r (i + 2)) (bs r (j + 2)) - L (bs r (i + 1)) (bs r (j + 2)) * L (bs r (i + 2)) (bs r (j + 1))
def Adj (L : Nat → Nat → Rat) (r x y : Nat) : Rat := if x = r ∨ y = r then 0 else cof L r ((x + 3 - r) % 4) ((y + 3 - r) % 4)
def Tr (L : Nat → Nat → Rat) (r : Nat) : Rat := sm 4 (fun n => L (bs r 0) n * Adj L r (bs r 0) n)
theorem sm4 (f : Nat → Rat) : sm 4 f = f 0 + f 1 + f 2 + f 3 := by
  show 0 + f 0 + f 1 + f 2 + f 3 = _
  grind
theorem lt4 {w : Nat} (h : w < 4) : w = 0 ∨ w = 1 ∨ w = 2 ∨ w = 3 := by omega
def symm4 (L : Nat → Nat → Rat) : Prop := (∀ a b, L a b = L b a) ∧ ∀ a, L a 0 + L a 1 + L a 2 + L a 3 = 0
theorem symm4_out {L : Nat → Nat → Rat} (h : symm4 L) : L 1 0 = L 0 1 ∧ L 2 0 = L 0 2 ∧ L 3 0 = L 0 3 ∧ L 2 1 = L 1 2 ∧ L 3 1 = L 1 3 ∧ L 3 2 = L 2 3 ∧ L 0 0 = -(L 0 1 + L 0 2 + L 0 3) ∧ L 1 1 = -(L 0 1 + L 1 2 + L 1 3) ∧ L 2 2 = -(L 0 2 + L 1 2 + L 2 3) ∧ L 3 3 = -(L 0 3 + L 1 3 + L 2 3) := by
  have h0 := h.2 0
  have h1 := h.2 1
  have h2 := h.2 2
  have h3 := h.2 3
  have a1 := h.1 1 0
  have a2 := h.1 2 0
  have a3 := h.1 3 0
  have a4 := h.1 2 1
  have a5 := h.1 3 1
  have a6 := h.1 3 2
  refine ⟨a1, a2, a3, a4, a5, a6, ?_, ?_, ?_, ?_⟩ <;> grind
/-- the heights that intakes at the nodes beside the root bring about -/
theorem solve1 {L : Nat → Nat → Rat} (hL : symm4 L) {r : Nat} (hr : r < 4) {h X : Nat → Rat} (hX : ∀ v, v < 4 → v ≠ r → - (L v 0 * h 0 + L v 1 * h 1 + L v 2 * h 2 + L v 3 * h 3) = X v) {w : Nat} (hw : w < 4) : Tr L r * (h w - h r) = - (Adj L r w 0 * X 0 + Adj L r w 1 * X 1 + Adj L r w 2 * X 2 + Adj L r w 3 * X 3) := by
  obtain ⟨a1, a2, a3, a4, a5, a6, d0, d1, d2, d3⟩ := symm4_out hL
  unfold Tr Adj cof
  rw [sm4]
  rcases lt4 hr with e | e | e | e <;> subst e
  · have x1 := hX 1 (by omega) (by omega)
    have x2 := hX 2 (by omega) (by omega)
    have x3 := hX 3 (by omega) (by omega)
    rcases lt4 hw with e | e | e | e <;> subst e <;> simp only [bs, Nat.reduceAdd, Nat.reduceMod, Nat.reduceSub, Nat.reduceEqDiff, true_or, or_true, or_self, reduceIte, a1, a2, a3, a4, a5, a6, d0, d1, d2, d3, ← x1, ← x2, ← x3] <;> grind
  · have x1 := hX 0 (by omega) (by omega)
    have x2 := hX 2 (by omega) (by omega)
    have x3 := hX 3 (by omega) (by omega)
    rcases lt4 hw with e | e | e | e <;> subst e <;> simp only [bs, Nat.reduceAdd, Nat.reduceMod, Nat.reduceSub, Nat.reduceEqDiff, true_or, or_true, or_self, reduceIte, a1, a2, a3, a4, a5, a6, d0, d1, d2, d3, ← x1, ← x2, ← x3] <;> grind
  · have x1 := hX 0 (by omega) (by omega)
    have x2 := hX 1 (by omega) (by omega)
    have x3 := hX 3 (by omega) (by omega)
    rcases lt4 hw with e | e | e | e <;> subst e <;> simp only [bs, Nat.reduceAdd, Nat.reduceMod, Nat.reduceSub, Nat.reduceEqDiff, true_or, or_true, or_self, reduceIte, a1, a2, a3, a4, a5, a6, d0, d1, d2, d3, ← x1, ← x2, ← x3] <;> grind
  · have x1 := hX 0 (by omega) (by omega)
    have x2 := hX 1 (by omega) (by omega)
    have x3 := hX 2 (by omega) (by omega)
    rcases lt4 hw with e | e | e | e <;> subst e <;> simp only [bs, Nat.reduceAdd, Nat.reduceMod, Nat.reduceSub, Nat.reduceEqDiff, true_or, or_true, or_self, reduceIte, a1, a2, a3, a4, a5, a6, d0, d1, d2, d3, ← x1, ← x2, ← x3] <;> grind
/-- the adjugate's columns, put in as heights, give the intakes back -/
theorem solve2 {L : Nat → Nat → Rat} (hL : symm4 L) {r : Nat} (hr : r < 4) {u : Nat} (hu : u < 4) {v : Nat} (hv : v < 4) : L v 0 * Adj L r 0 u + L v 1 * Adj L r 1 u + L v 2 * Adj L r 2 u + L v 3 * Adj L r 3 u = if u = r then 0 else if v = u then Tr L r else if v = r then - Tr L r else 0 := by
  obtain ⟨a1, a2, a3, a4, a5, a6, d0, d1, d2, d3⟩ := symm4_out hL
  unfold Tr Adj cof
  rw [sm4]
  rcases lt4 hr with e | e | e | e <;> subst e <;> rcases lt4 hu with e | e | e | e <;> subst e <;> rcases lt4 hv with e | e | e | e <;> subst e <;> simp only [bs, Nat.reduceAdd, Nat.reduceMod, Nat.reduceSub, Nat.reduceEqDiff, true_or, or_true, or_self, reduceIte, a1, a2, a3, a4, a5, a6, d0, d1, d2, d3] <;> grind
