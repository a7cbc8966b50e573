/-! the table that load makes: of this network, from nothing taken -/
abbrev Net : Type := Nat × (Nat → Nat) × (Nat → Nat) × (Nat → Nat) × (Nat → Nat)
abbrev Bk : Type := Nat × (Nat → Nat) × (Nat → Rat) × (Nat → Rat) × (Nat → Rat)
def netOk (N : Net) : Prop := N.1 ≤ 6 ∧ (∀ k, k < N.1 → N.2.1 k < 4 ∧ N.2.2.1 k < 4 ∧ N.2.1 k ≠ N.2.2.1 k ∧ 1 ≤ N.2.2.2.1 k ∧ N.2.2.2.1 k ≤ 5 ∧ N.2.2.2.2 k ≤ 1000) ∧ (∀ i k, i < k → k < N.1 → pid (N.2.1 i) (N.2.2.1 i) ≠ pid (N.2.1 k) (N.2.2.1 k))
def bkOk (B : Bk) : Prop := B.1 ≤ 8 ∧ ∀ j, j < B.1 → B.2.1 j < 4 ∧ (B.2.2.1 j = 1 ∨ B.2.2.1 j = -1) ∧ isZ (B.2.2.2.1 j) 2000 ∧ isZ (B.2.2.2.2 j) 3000 ∧ 0 ≤ B.2.2.2.2 j
def LN (N : Net) (a b : Nat) : Rat := Lp N.1 N.2.1 N.2.2.1 N.2.2.2.1 a b
def lpl (N : Net) (k : Nat) : v3 := ((N.2.2.2.1 k : Rat) * dl N.2.1 N.2.2.1 k 1, (N.2.2.2.1 k : Rat) * dl N.2.1 N.2.2.1 k 2, (N.2.2.2.1 k : Rat) * dl N.2.1 N.2.2.1 k 3)
def npl (L : Nat → Nat → Rat) (v : Nat) : v3 := (- L v 1, - L v 2, - L v 3)
def isGn (N : Net) (g : Nat) : Prop := g < 4 ∨ (9 ≤ g ∧ g < 9 + N.1)
def pln (N : Net) (g : Nat) : v3 := if g < 4 then npl (LN N) g else lpl N (g - 9)
def grn (N : Net) (B : Bk) (r u : Nat) : Nat := if u < B.1 then B.2.1 u else if u = 8 then r else if 9 ≤ u ∧ u < 9 + N.1 then u else 99
def sgn' (B : Bk) (u : Nat) : Rat := if u < B.1 then B.2.2.1 u else 1
def pwn (B : Bk) (u : Nat) : Rat := if u < B.1 then B.2.2.1 u * B.2.2.2.1 u else 0
def xs (B : Bk) (y : Nat → Rat) (v : Nat) : Rat := sm B.1 (fun j => if B.2.1 j = v then B.2.2.1 j * y j else 0)
def wl (B : Bk) (y : Nat → Rat) : Rat := sm B.1 (fun j => B.2.2.1 j * B.2.2.2.1 j * y j)
def hy (y : Nat → Rat) : v3 := (y 16, y 17, y 18)
theorem sm_ext {n : Nat} {f : Nat → Rat} : ∀ m, n ≤ m → (∀ j, n ≤ j → j < m → f j = 0) → sm m f = sm n f := by
  intro m
  induction m with
  | zero => intro h _; have : n = 0 := by omega
            rw [this]
  | succ m ih =>
    intro h h0
    by_cases e : n = m + 1
    · rw [e]
    · show sm m f + f m = _
      rw [ih (by omega) (fun j a b => h0 j a (by omega)), h0 m (by omega) (by omega)]
      grind
theorem symm4_N {N : Net} (h : netOk N) : symm4 (LN N) := ⟨fun a b => Lp_sym _ _ _ _ a b, fun a => Lp_sum _ (fun k hk => ⟨(h.2.1 k hk).1, (h.2.1 k hk).2.1⟩) a⟩
section NET
variable {N : Net} {B : Bk} {r : Nat}
theorem grn_node (hB : bkOk B) (hr : r < 4) (y : Nat → Rat) {v : Nat} (hv : v < 4) : sm 15 (fun u => if grn N B r u = v then sgn' B u * y u else 0) = xs B y v + if r = v then y 8 else 0 := by
  have h8 := hB.1
  rw [sm_ext (n := 9) 15 (by omega) (fun j a b => by
    have : grn N B r j ≠ v := by
      unfold grn
      rw [if_neg (by omega), if_neg (by omega)]
      by_cases q : 9 ≤ j ∧ j < 9 + N.1
      · rw [if_pos q]; omega
      · rw [if_neg q]; omega
    simp only [if_neg this])]
  show sm 8 _ + _ = _
  rw [sm_ext (n := B.1) 8 h8 (fun j a b => by
    have : grn N B r j ≠ v := by
      unfold grn
      rw [if_neg (by omega), if_neg (by omega), if_neg (by omega)]; omega
    simp only [if_neg this])]
  have e8 : grn N B r 8 = r := by unfold grn; rw [if_neg (by omega), if_pos rfl]
  have s8 : sgn' B 8 = 1 := by unfold sgn'; rw [if_neg (by omega)]
  have : sm B.1 (fun u => if grn N B r u = v then sgn' B u * y u else 0) = xs B y v := sm_congr fun j hj => by
    have e1 : grn N B r j = B.2.1 j := by unfold grn; rw [if_pos hj]
    have e2 : sgn' B j = B.2.2.1 j := by unfold sgn'; rw [if_pos hj]
    rw [e1, e2]
  rw [this]
  simp only [e8, s8]
  by_cases q : r = v
  · rw [if_pos q, if_pos q]; grind
  · rw [if_neg q, if_neg q]
theorem grn_line (hN : netOk N) (hB : bkOk B) (hr : r < 4) (y : Nat → Rat) {k : Nat} (hk : k < N.1) : sm 15 (fun u => if grn N B r u = 9 + k then sgn' B u * y u else 0) = y (9 + k) := by
  have h8 := hB.1
  have h6 := hN.1
  rw [sm_one (c := 9 + k) (by omega) (fun j hj hne => by
    have : grn N B r j ≠ 9 + k := by
      unfold grn
      by_cases q1 : j < B.1
      · rw [if_pos q1]; have := (hB.2 j q1).1; omega
      · rw [if_neg q1]
        by_cases q2 : j = 8
        · rw [if_pos q2]; omega
        · rw [if_neg q2]
          by_cases q3 : 9 ≤ j ∧ j < 9 + N.1
          · rw [if_pos q3]; exact hne
          · rw [if_neg q3]; omega
    rw [if_neg this])]
  have e1 : grn N B r (9 + k) = 9 + k := by unfold grn; rw [if_neg (by omega), if_neg (by omega), if_pos (by omega)]
  have e2 : sgn' B (9 + k) = 1 := by unfold sgn'; rw [if_neg (by omega)]
  rw [if_pos e1, e2]
  grind
theorem pwn_sum (hB : bkOk B) (y : Nat → Rat) : sm 15 (fun u => pwn B u * y u) = wl B y := by
  have h8 := hB.1
  rw [sm_ext (n := B.1) 15 (by omega) (fun j a b => by unfold pwn; rw [if_neg (by omega)]; grind)]
  exact sm_congr fun j hj => by unfold pwn; rw [if_pos hj]
abbrev NV (N : Net) (B : Bk) (r : Nat) : (Nat → Rat) → Prop := NetV (isGn N) (pln N) (grn N B r) (sgn' B) (pwn B)
/-- what the network asks, in the market's words -/
theorem NV_iff (hN : netOk N) (hB : bkOk B) (hr : r < 4) (y : Nat → Rat) : NV N B r y ↔ (∀ v, v < 4 → dot (npl (LN N) v) (hy y) = xs B y v + if r = v then y 8 else 0) ∧ (∀ k, k < N.1 → dot (lpl N k) (hy y) = y (9 + k)) ∧ y 15 = wl B y := by
  have ep : ∀ k, pln N (9 + k) = lpl N k := fun k => by unfold pln; rw [if_neg (by omega), Nat.add_sub_cancel_left]
  constructor
  · intro h
    refine ⟨fun v hv => ?_, fun k hk => ?_, ?_⟩
    · have := h.1 v (Or.inl hv)
      rw [grn_node hB hr y hv] at this
      unfold pln at this
      rw [if_pos hv] at this
      exact this
    · have := h.1 (9 + k) (Or.inr ⟨by omega, by omega⟩)
      rw [grn_line hN hB hr y hk, ep] at this
      exact this
    · rw [← pwn_sum hB y]; exact h.2
  · intro h
    refine ⟨fun g hg => ?_, ?_⟩
    · rcases hg with hg | hg
      · rw [grn_node hB hr y hg]
        unfold pln
        rw [if_pos hg]
        exact h.1 g hg
      · have e : g = 9 + (g - 9) := by omega
        rw [e, grn_line hN hB hr y (by omega), ep]
        exact h.2.1 _ (by omega)
    · rw [pwn_sum hB y]; exact h.2.2
/-- the table of the start -/
def sC (N : Net) (B : Bk) (r i j : Nat) : Rat := if i < N.1 then B.2.2.1 j * ((N.2.2.2.1 i : Rat) * (Adj (LN N) r (N.2.2.1 i) (B.2.1 j) - Adj (LN N) r (N.2.1 i) (B.2.1 j))) else if i = N.1 then - B.2.2.1 j * Tr (LN N) r else if i = N.1 + 1 then B.2.2.1 j * B.2.2.2.1 j * Tr (LN N) r else B.2.2.1 j * (Adj (LN N) r 0 (B.2.1 j) - Adj (LN N) r (i - (N.1 + 1)) (B.2.1 j))
def sR (N : Net) (i : Nat) : Nat := if i < N.1 then 9 + i else if i = N.1 then 8 else if i = N.1 + 1 then 15 else 16 + (i - (N.1 + 2))
def sT (N : Net) (B : Bk) (r : Nat) : tab := (Tr (LN N) r, sC N B r, sR N, fun j => j, fun _ => 0)
theorem grp (hB : bkOk B) (F y : Nat → Rat) : sm B.1 (fun j => B.2.2.1 j * F (B.2.1 j) * y j) = F 0 * xs B y 0 + F 1 * xs B y 1 + F 2 * xs B y 2 + F 3 * xs B y 3 := by
  unfold xs
  rw [← sm_mul, ← sm_mul, ← sm_mul, ← sm_mul, ← sm_add, ← sm_add, ← sm_add]
  refine sm_congr fun j hj => ?_
  rcases lt4 (hB.2 j hj).1 with e | e | e | e <;> rw [e] <;> simp only [Nat.reduceEqDiff, reduceIte] <;> grind
theorem dl_dot {fa fb : Nat → Nat} {k : Nat} (ha : fa k < 4) (hb : fb k < 4) (g : Nat → Rat) : dl fa fb k 0 * g 0 + dl fa fb k 1 * g 1 + dl fa fb k 2 * g 2 + dl fa fb k 3 * g 3 = g (fa k) - g (fb k) := by
  unfold dl
  rcases lt4 ha with e | e | e | e <;> rw [e] <;> rcases lt4 hb with e | e | e | e <;> rw [e] <;> simp only [Nat.reduceEqDiff, reduceIte] <;> grind
/-- heights as a function of the node -/
def hn (y : Nat → Rat) (w : Nat) : Rat := if w = 0 then 0 else y (15 + w)
theorem lpl_dot (hN : netOk N) (y : Nat → Rat) {k : Nat} (hk : k < N.1) : dot (lpl N k) (hy y) = (N.2.2.2.1 k : Rat) * (hn y (N.2.1 k) - hn y (N.2.2.1 k)) := by
  rw [← dl_dot (hN.2.1 k hk).1 (hN.2.1 k hk).2.1 (hn y)]
  unfold dot lpl hy hn
  simp only [Nat.reduceEqDiff, reduceIte, Nat.reduceAdd]
  grind
theorem npl_dot (L : Nat → Nat → Rat) (y : Nat → Rat) (v : Nat) : dot (npl L v) (hy y) = - (L v 0 * hn y 0 + L v 1 * hn y 1 + L v 2 * hn y 2 + L v 3 * hn y 3) := by
  unfold dot npl hy hn
  simp only [Nat.reduceEqDiff, reduceIte, Nat.reduceAdd]
  grind
theorem start_eqs (hN : netOk N) (hB : bkOk B) (hr : r < 4) (hT : 0 < Tr (LN N) r) (y : Nat → Rat) : Eqs (N.1 + 2 + 3) B.1 (Tr (LN N) r) (sC N B r) (sR N) (fun j => j) y ↔ (∀ k, k < N.1 → Tr (LN N) r * y (9 + k) = sm B.1 (fun j => B.2.2.1 j * ((N.2.2.2.1 k : Rat) * (Adj (LN N) r (N.2.2.1 k) (B.2.1 j) - Adj (LN N) r (N.2.1 k) (B.2.1 j))) * y j)) ∧ (Tr (LN N) r * y 8 = sm B.1 (fun j => - B.2.2.1 j * Tr (LN N) r * y j)) ∧ (Tr (LN N) r * y 15 = sm B.1 (fun j => B.2.2.1 j * B.2.2.2.1 j * Tr (LN N) r * y j)) ∧ (∀ w, 1 ≤ w → w < 4 → Tr (LN N) r * y (15 + w) = sm B.1 (fun j => B.2.2.1 j * (Adj (LN N) r 0 (B.2.1 j) - Adj (LN N) r w (B.2.1 j)) * y j)) := by
  have c1 : ∀ k, k < N.1 → ∀ j, sC N B r k j = B.2.2.1 j * ((N.2.2.2.1 k : Rat) * (Adj (LN N) r (N.2.2.1 k) (B.2.1 j) - Adj (LN N) r (N.2.1 k) (B.2.1 j))) := fun k hk j => by unfold sC; rw [if_pos hk]
  have c2 : ∀ j, sC N B r N.1 j = - B.2.2.1 j * Tr (LN N) r := fun j => by unfold sC; rw [if_neg (by omega), if_pos rfl]
  have c3 : ∀ j, sC N B r (N.1 + 1) j = B.2.2.1 j * B.2.2.2.1 j * Tr (LN N) r := fun j => by unfold sC; rw [if_neg (by omega), if_neg (by omega), if_pos rfl]
  have c4 : ∀ w, 1 ≤ w → ∀ j, sC N B r (N.1 + 1 + w) j = B.2.2.1 j * (Adj (LN N) r 0 (B.2.1 j) - Adj (LN N) r w (B.2.1 j)) := fun w hw j => by unfold sC; rw [if_neg (by omega), if_neg (by omega), if_neg (by omega), Nat.add_sub_cancel_left]
  have r1 : ∀ k, k < N.1 → sR N k = 9 + k := fun k hk => by unfold sR; rw [if_pos hk]
  have r2 : sR N N.1 = 8 := by unfold sR; rw [if_neg (by omega), if_pos rfl]
  have r3 : sR N (N.1 + 1) = 15 := by unfold sR; rw [if_neg (by omega), if_neg (by omega), if_pos rfl]
  have r4 : ∀ w, 1 ≤ w → sR N (N.1 + 1 + w) = 15 + w := fun w hw => by unfold sR; rw [if_neg (by omega), if_neg (by omega), if_neg (by omega)]; omega
  constructor
  · intro h
    refine ⟨fun k hk => ?_, ?_, ?_, fun w w1 w2 => ?_⟩
    · have := h k (by omega); rw [r1 k hk] at this; rw [this]; exact sm_congr fun j _ => by rw [c1 k hk]
    · have := h N.1 (by omega); rw [r2] at this; rw [this]; exact sm_congr fun j _ => by rw [c2]
    · have := h (N.1 + 1) (by omega); rw [r3] at this; rw [this]; exact sm_congr fun j _ => by rw [c3]
    · have := h (N.1 + 1 + w) (by omega); rw [r4 w w1] at this; rw [this]; exact sm_congr fun j _ => by rw [c4 w w1]
  · intro ⟨h1, h2, h3, h4⟩ i hi
    by_cases q1 : i < N.1
    · rw [r1 i q1, h1 i q1]; exact sm_congr fun j _ => by rw [c1 i q1]
    · by_cases q2 : i = N.1
      · rw [q2, r2, h2]; exact sm_congr fun j _ => by rw [c2]
      · by_cases q3 : i = N.1 + 1
        · rw [q3, r3, h3]; exact sm_congr fun j _ => by rw [c3]
        · have e : i = N.1 + 1 + (i - (N.1 + 1)) := by omega
          rw [e, r4 _ (by omega), h4 _ (by omega) (by omega)]; exact sm_congr fun j _ => by rw [c4 _ (by omega)]
theorem start_V (hN : netOk N) (hB : bkOk B) (hr : r < 4) (hT : 0 < Tr (LN N) r) (y : Nat → Rat) : Eqs (N.1 + 2 + 3) B.1 (Tr (LN N) r) (sC N B r) (sR N) (fun j => j) y ↔ NV N B r y := by
  rw [start_eqs hN hB hr hT, NV_iff hN hB hr]
  have hL := symm4_N hN
  have g1 : ∀ k, sm B.1 (fun j => B.2.2.1 j * ((N.2.2.2.1 k : Rat) * (Adj (LN N) r (N.2.2.1 k) (B.2.1 j) - Adj (LN N) r (N.2.1 k) (B.2.1 j))) * y j) = _ := fun k => grp hB (fun u => (N.2.2.2.1 k : Rat) * (Adj (LN N) r (N.2.2.1 k) u - Adj (LN N) r (N.2.1 k) u)) y
  have g2 : sm B.1 (fun j => - B.2.2.1 j * Tr (LN N) r * y j) = - Tr (LN N) r * (xs B y 0 + xs B y 1 + xs B y 2 + xs B y 3) := by
    rw [show sm B.1 (fun j => - B.2.2.1 j * Tr (LN N) r * y j) = sm B.1 (fun j => B.2.2.1 j * (fun _ => - Tr (LN N) r) (B.2.1 j) * y j) from sm_congr fun j _ => by show _ = B.2.2.1 j * (- Tr (LN N) r) * y j; grind, grp hB (fun _ => - Tr (LN N) r) y]
    grind
  have g3 : sm B.1 (fun j => B.2.2.1 j * B.2.2.2.1 j * Tr (LN N) r * y j) = Tr (LN N) r * wl B y := by
    unfold wl
    rw [← sm_mul]; exact sm_congr fun j _ => by grind
  have g4 : ∀ w, sm B.1 (fun j => B.2.2.1 j * (Adj (LN N) r 0 (B.2.1 j) - Adj (LN N) r w (B.2.1 j)) * y j) = _ := fun w => grp hB (fun u => Adj (LN N) r 0 u - Adj (LN N) r w u) y
  rw [g2, g3]
  simp only [g1, g4]
  have hA0 : ∀ u, Adj (LN N) r r u = 0 := fun u => by unfold Adj; rw [if_pos (Or.inl rfl)]
  have hT0 : Tr (LN N) r ≠ 0 := by grind
  generalize hTt : Tr (LN N) r = T at *
  have hX : ∃ X : Nat → Rat, X = xs B y := ⟨_, rfl⟩
  obtain ⟨X, hX⟩ := hX
  simp only [← hX]
  constructor
  · intro ⟨e1, e2, e3, e4⟩
    have e8 : y 8 = - (X 0 + X 1 + X 2 + X 3) := by grind
    have eh : ∀ w, w < 4 → T * hn y w = (Adj (LN N) r 0 0 - Adj (LN N) r w 0) * X 0 + (Adj (LN N) r 0 1 - Adj (LN N) r w 1) * X 1 + (Adj (LN N) r 0 2 - Adj (LN N) r w 2) * X 2 + (Adj (LN N) r 0 3 - Adj (LN N) r w 3) * X 3 := by
      intro w hw
      by_cases q : w = 0
      · subst q; unfold hn; rw [if_pos rfl]; grind
      · unfold hn; rw [if_neg q]; exact e4 w (by omega) hw
    refine ⟨fun v hv => ?_, fun k hk => ?_, by grind⟩
    · rw [npl_dot]
      have h0 := eh 0 (by omega)
      have h1 := eh 1 (by omega)
      have h2 := eh 2 (by omega)
      have h3 := eh 3 (by omega)
      have s0 := solve2 hL hr (u := 0) (by omega) hv
      have s1 := solve2 hL hr (u := 1) (by omega) hv
      have s2 := solve2 hL hr (u := 2) (by omega) hv
      have s3 := solve2 hL hr (u := 3) (by omega) hv
      have hs := hL.2 v
      rw [hTt] at s0 s1 s2 s3
      have key : T * (- (LN N v 0 * hn y 0 + LN N v 1 * hn y 1 + LN N v 2 * hn y 2 + LN N v 3 * hn y 3)) = (LN N v 0 * Adj (LN N) r 0 0 + LN N v 1 * Adj (LN N) r 1 0 + LN N v 2 * Adj (LN N) r 2 0 + LN N v 3 * Adj (LN N) r 3 0) * X 0 + (LN N v 0 * Adj (LN N) r 0 1 + LN N v 1 * Adj (LN N) r 1 1 + LN N v 2 * Adj (LN N) r 2 1 + LN N v 3 * Adj (LN N) r 3 1) * X 1 + (LN N v 0 * Adj (LN N) r 0 2 + LN N v 1 * Adj (LN N) r 1 2 + LN N v 2 * Adj (LN N) r 2 2 + LN N v 3 * Adj (LN N) r 3 2) * X 2 + (LN N v 0 * Adj (LN N) r 0 3 + LN N v 1 * Adj (LN N) r 1 3 + LN N v 2 * Adj (LN N) r 2 3 + LN N v 3 * Adj (LN N) r 3 3) * X 3 := by
        have k1 : T * (- (LN N v 0 * hn y 0 + LN N v 1 * hn y 1 + LN N v 2 * hn y 2 + LN N v 3 * hn y 3)) = - (LN N v 0 * (T * hn y 0) + LN N v 1 * (T * hn y 1) + LN N v 2 * (T * hn y 2) + LN N v 3 * (T * hn y 3)) := by grind
        rw [k1, h0, h1, h2, h3]
        have hs' : LN N v 0 = - (LN N v 1 + LN N v 2 + LN N v 3) := by grind
        rw [hs']
        grind
      rw [s0, s1, s2, s3] at key
      clear s0 s1 s2 s3 h0 h1 h2 h3 eh e1 e2 e3 e4 g1 g2 g3 g4
      rcases lt4 hr with e | e | e | e <;> subst e <;> rcases lt4 hv with e | e | e | e <;> subst e <;> simp only [Nat.reduceEqDiff, reduceIte] at key ⊢ <;> grind
    · rw [lpl_dot hN y hk]
      have ha := eh (N.2.1 k) (hN.2.1 k hk).1
      have hb := eh (N.2.2.1 k) (hN.2.1 k hk).2.1
      have := e1 k hk
      have k1 : T * ((N.2.2.2.1 k : Rat) * (hn y (N.2.1 k) - hn y (N.2.2.1 k))) = (N.2.2.2.1 k : Rat) * (T * hn y (N.2.1 k) - T * hn y (N.2.2.1 k)) := by grind
      rw [ha, hb] at k1
      have k2 : T * ((N.2.2.2.1 k : Rat) * (hn y (N.2.1 k) - hn y (N.2.2.1 k))) = T * y (9 + k) := by rw [k1, this]; grind
      clear g1 g2 g3 g4 e1 e2 e3 e4 eh
      grind
  · intro ⟨e1, e2, e3⟩
    have hs : ∀ v, v < 4 → v ≠ r → - (LN N v 0 * hn y 0 + LN N v 1 * hn y 1 + LN N v 2 * hn y 2 + LN N v 3 * hn y 3) = X v := fun v hv hne => by
      have := e1 v hv
      rw [npl_dot, if_neg (Ne.symm hne)] at this
      grind
    have e8 : y 8 = - (X 0 + X 1 + X 2 + X 3) := by
      have a0 := e1 0 (by omega)
      have a1 := e1 1 (by omega)
      have a2 := e1 2 (by omega)
      have a3 := e1 3 (by omega)
      rw [npl_dot] at a0 a1 a2 a3
      obtain ⟨b1, b2, b3, b4, b5, b6, d0, d1, d2, d3⟩ := symm4_out hL
      rw [b1, d1] at a1
      rw [b2, b4, d2] at a2
      rw [b3, b5, b6, d3] at a3
      rw [d0] at a0
      clear g1 g2 g3 g4 e1 e2 e3 hs
      rcases lt4 hr with e | e | e | e <;> subst e <;> simp only [Nat.reduceEqDiff, reduceIte] at a0 a1 a2 a3 <;> grind
    have sv := fun w (hw : w < 4) => solve1 hL hr hs hw
    rw [hTt] at sv
    refine ⟨fun k hk => ?_, by grind, by grind, fun w w1 w2 => ?_⟩
    · have := e2 k hk
      rw [lpl_dot hN y hk] at this
      rw [← this]
      have ha := sv _ (hN.2.1 k hk).1
      have hb := sv _ (hN.2.1 k hk).2.1
      clear g1 g2 g3 g4 e1 e2 e3 hs
      have k1 : T * ((N.2.2.2.1 k : Rat) * (hn y (N.2.1 k) - hn y (N.2.2.1 k))) = (N.2.2.2.1 k : Rat) * (T * (hn y (N.2.1 k) - hn y r) - T * (hn y (N.2.2.1 k) - hn y r)) := by grind
      rw [k1, ha, hb]
      grind
    · have h0 := sv 0 (by omega)
      have hw := sv w w2
      have e0 : hn y 0 = 0 := by unfold hn; rw [if_pos rfl]
      have ew : hn y w = y (15 + w) := by unfold hn; rw [if_neg (by omega)]
      rw [e0] at h0
      rw [ew] at hw
      clear g1 g2 g3 g4 e1 e2 e3 hs
      grind
end NET
