/-! how many tables there are: a run of moves is shorter than that -/
def cnt (m : Nat) (p : Nat → Bool) : Nat := match m with
  | 0 => 0
  | k + 1 => cnt k p + (if p k = true then 1 else 0)
theorem cnt_congr {m : Nat} {p q : Nat → Bool} (h : ∀ u, u < m → p u = q u) : cnt m p = cnt m q := by
  induction m with
  | zero => rfl
  | succ m ih => show cnt m p + _ = cnt m q + _; rw [ih (fun u hu => h u (by omega)), h m (by omega)]
theorem cnt_le (m : Nat) (p : Nat → Bool) : cnt m p ≤ m := by
  induction m with
  | zero => exact Nat.le_refl _
  | succ m ih =>
    show cnt m p + (if p m = true then 1 else 0) ≤ m + 1
    cases h : p m <;> simp <;> omega
theorem cnt_not (m : Nat) (p : Nat → Bool) : cnt m p + cnt m (fun u => !p u) = m := by
  induction m with
  | zero => rfl
  | succ m ih =>
    show (cnt m p + (if p m = true then 1 else 0)) + (cnt m (fun u => !p u) + (if (!p m) = true then 1 else 0)) = m + 1
    cases h : p m <;> simp <;> omega
theorem cnt_split (a m : Nat) (p : Nat → Bool) : cnt (a + m) p = cnt a p + cnt m (fun u => p (a + u)) := by
  induction m with
  | zero => rfl
  | succ m ih =>
    show cnt (a + m) p + (if p (a + m) = true then 1 else 0) = cnt a p + (cnt m (fun u => p (a + u)) + (if p (a + m) = true then 1 else 0))
    rw [ih]; omega
theorem cnt_zero {m : Nat} {p : Nat → Bool} (h : ∀ u, u < m → p u = false) : cnt m p = 0 := by
  induction m with
  | zero => rfl
  | succ m ih => show cnt m p + _ = 0; rw [ih (fun u hu => h u (by omega)), h m (by omega)]; rfl
theorem cnt_add1 {m x : Nat} {p q : Nat → Bool} (hx : x < m) (hp : p x = false) (hq : q x = true) (h : ∀ u, u < m → u ≠ x → q u = p u) : cnt m q = cnt m p + 1 := by
  induction m with
  | zero => omega
  | succ m ih =>
    show cnt m q + _ = cnt m p + _ + 1
    by_cases e : x = m
    · subst e
      rw [cnt_congr (fun u hu => h u (by omega) (by omega)), hp, hq]
      rfl
    · rw [ih (by omega) (fun u hu hne => h u (by omega) hne), h m (by omega) (fun q => e q.symm)]
      omega
def colb (n : Nat) (cv : Nat → Nat) (u : Nat) : Bool := (List.range n).any (fun j => cv j == u)
theorem colb_iff {n : Nat} {cv : Nat → Nat} {u : Nat} : colb n cv u = true ↔ ∃ j, j < n ∧ cv j = u := by
  unfold colb
  rw [List.any_eq_true]
  constructor
  · rintro ⟨j, hj, e⟩; exact ⟨j, List.mem_range.mp hj, beq_iff_eq.mp e⟩
  · rintro ⟨j, hj, e⟩; exact ⟨j, List.mem_range.mpr hj, beq_iff_eq.mpr e⟩
theorem colb_false {n : Nat} {cv : Nat → Nat} {u : Nat} (h : ¬ ∃ j, j < n ∧ cv j = u) : colb n cv u = false := by
  cases e : colb n cv u with
  | false => rfl
  | true => exact absurd (colb_iff.mp e) h
theorem cnt_cols {n m : Nat} {cv : Nat → Nat} (hi : ∀ i k, i < n → k < n → cv i = cv k → i = k) (hl : ∀ j, j < n → cv j < m) : cnt m (colb n cv) = n := by
  induction n with
  | zero => exact cnt_zero fun u _ => rfl
  | succ n ih =>
    have h1 := ih (fun i k h1 h2 e => hi i k (by omega) (by omega) e) (fun j hj => hl j (by omega))
    rw [cnt_add1 (x := cv n) (p := colb n cv) (hl n (by omega)) (colb_false fun ⟨j, hj, e⟩ => by have := hi j n (by omega) (by omega) e; omega) (colb_iff.mpr ⟨n, by omega, rfl⟩) (fun u hu hne => ?_), h1]
    cases e : colb n cv u with
    | true => obtain ⟨j, hj, e2⟩ := colb_iff.mp e; exact colb_iff.mpr ⟨j, by omega, e2⟩
    | false =>
      refine colb_false fun ⟨j, hj, e2⟩ => ?_
      by_cases ej : j = n
      · subst ej; exact hne e2.symm
      · rw [colb_iff.mpr ⟨j, by omega, e2⟩] at e; cases e
/-- a word of digits 0, 1, 2 as a number -/
def enc (m : Nat) (d : Nat → Nat) : Nat := match m with
  | 0 => 0
  | k + 1 => d 0 + 3 * enc k (fun i => d (i + 1))
def zer (m x : Nat) : Nat := match m with
  | 0 => 0
  | k + 1 => (if x % 3 = 0 then 1 else 0) + zer k (x / 3)
theorem enc_lt : ∀ (m : Nat) (d : Nat → Nat), (∀ i, i < m → d i < 3) → enc m d < 3 ^ m
  | 0, _, _ => by show 0 < 1; omega
  | m + 1, d, h => by
    have h1 := enc_lt m (fun i => d (i + 1)) (fun i hi => h (i + 1) (by omega))
    have h2 := h 0 (by omega)
    show d 0 + 3 * enc m (fun i => d (i + 1)) < 3 ^ m * 3
    omega
theorem enc_inj : ∀ (m : Nat) (d e : Nat → Nat), (∀ i, i < m → d i < 3) → (∀ i, i < m → e i < 3) → enc m d = enc m e → ∀ i, i < m → d i = e i
  | 0, _, _, _, _, _, _, h => absurd h (by omega)
  | m + 1, d, e, h1, h2, h3, i, hi => by
    have h3 : d 0 + 3 * enc m (fun i => d (i + 1)) = e 0 + 3 * enc m (fun i => e (i + 1)) := h3
    have a1 := h1 0 (by omega)
    have a2 := h2 0 (by omega)
    cases i with
    | zero => omega
    | succ i => exact enc_inj m (fun i => d (i + 1)) (fun i => e (i + 1)) (fun i hi => h1 (i + 1) (by omega)) (fun i hi => h2 (i + 1) (by omega)) (by omega) i (by omega)
theorem cnt_front (m : Nat) (p : Nat → Bool) : cnt (m + 1) p = (if p 0 = true then 1 else 0) + cnt m (fun u => p (u + 1)) := by
  have h := cnt_split 1 m p
  rw [show 1 + m = m + 1 by omega] at h
  rw [h, cnt_congr (p := fun u => p (1 + u)) (q := fun u => p (u + 1)) (fun u _ => by rw [Nat.add_comm])]
  show (0 + (if p 0 = true then 1 else 0)) + cnt m (fun u => p (u + 1)) = (if p 0 = true then 1 else 0) + cnt m (fun u => p (u + 1))
  rw [Nat.zero_add]
theorem zer_enc : ∀ (m : Nat) (d : Nat → Nat), (∀ i, i < m → d i < 3) → zer m (enc m d) = cnt m (fun i => d i == 0)
  | 0, _, _ => rfl
  | m + 1, d, h => by
    have a1 := h 0 (by omega)
    have ih := zer_enc m (fun i => d (i + 1)) (fun i hi => h (i + 1) (by omega))
    rw [cnt_front]
    show (if (d 0 + 3 * enc m (fun i => d (i + 1))) % 3 = 0 then 1 else 0) + zer m ((d 0 + 3 * enc m (fun i => d (i + 1))) / 3) = _
    rw [show (d 0 + 3 * enc m (fun i => d (i + 1))) / 3 = enc m (fun i => d (i + 1)) by omega, ih, show (d 0 + 3 * enc m (fun i => d (i + 1))) % 3 = d 0 by omega]
    by_cases e : d 0 = 0 <;> simp [e]
def SV (k : Nat) : List Nat := (List.range 6561).filter (fun x => zer 8 x == k)
def LV (k : Nat) : List Nat := (List.range 729).filter (fun x => zer 6 x == k)
def prd (a : Nat) (A B : List Nat) : List (Nat × Nat × Nat) := A.flatMap (fun x => B.map (fun y => (a, x, y)))
theorem prd_len (a : Nat) (A B : List Nat) : (prd a A B).length = A.length * B.length := by
  unfold prd
  induction A with
  | nil => simp
  | cons x A ih => rw [List.flatMap_cons, List.length_append, ih, List.length_map, List.length_cons, Nat.add_mul, Nat.one_mul, Nat.add_comm]
theorem prd_mem {a x y : Nat} {A B : List Nat} (hx : x ∈ A) (hy : y ∈ B) : (a, x, y) ∈ prd a A B := List.mem_flatMap.mpr ⟨x, hx, List.mem_map.mpr ⟨y, hy, rfl⟩⟩
def codes : List (Nat × Nat × Nat) := prd 0 (SV 0) (LV 6) ++ (prd 0 (SV 1) (LV 5) ++ (prd 0 (SV 2) (LV 4) ++ (prd 0 (SV 3) (LV 3) ++ (prd 1 (SV 1) (LV 6) ++ (prd 1 (SV 2) (LV 5) ++ (prd 1 (SV 3) (LV 4) ++ prd 1 (SV 4) (LV 3)))))))
theorem SV_len : (SV 0).length = 256 ∧ (SV 1).length = 1024 ∧ (SV 2).length = 1792 ∧ (SV 3).length = 1792 ∧ (SV 4).length = 1120 := by decide +kernel
theorem LV_len : (LV 6).length = 1 ∧ (LV 5).length = 12 ∧ (LV 4).length = 60 ∧ (LV 3).length = 160 := by decide +kernel
theorem codes_len : codes.length = 716032 := by
  unfold codes
  simp only [List.length_append, prd_len, SV_len, LV_len]
theorem pigeonL {α : Type} [BEq α] [LawfulBEq α] (L : List α) (f : Nat → α) (N : Nat) (hm : ∀ i, i < N → f i ∈ L) (hd : ∀ i j, i < j → j < N → f i ≠ f j) : N ≤ L.length := by
  refine Classical.byContradiction fun hn => ?_
  refine pigeon L.length (fun i => L.idxOf (f i)) (fun i hi => List.idxOf_lt_length_of_mem (hm i (by omega))) (fun i j hij hj e => ?_)
  have h1 := List.idxOf_lt_length_of_mem (hm i (by omega))
  have h2 := List.idxOf_lt_length_of_mem (hm j (by omega))
  have e : L.idxOf (f i) = L.idxOf (f j) := e
  have e1 : L[L.idxOf (f i)] = f i := List.getElem_idxOf h1
  have e2 : L[L.idxOf (f j)] = f j := List.getElem_idxOf h2
  refine hd i j hij (by omega) ?_
  rw [← e1, ← e2]
  simp only [e]
