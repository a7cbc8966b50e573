/-! reading and writing states; sums; pigeons; lists of numbers in order -/
theorem gs : (∀ (S : z_S) (k j : Nat) (v : Int64), gF (sG S k v) j = gF S j) ∧ (∀ (S : z_S) (k j : Nat) (v : Nat → Int32), gF (sI S k v) j = gF S j) ∧ (∀ (S : z_S) (k j : Nat) (v : Nat → Int64), gF (sJ S k v) j = gF S j) ∧ (∀ (S : z_S) (k j : Nat) (v : Int32), gF (sF S k v) j = if j = k then v else gF S j)
  ∧ (∀ (S : z_S) (k j : Nat) (v : Int32), gG (sF S k v) j = gG S j) ∧ (∀ (S : z_S) (k j : Nat) (v : Nat → Int32), gG (sI S k v) j = gG S j) ∧ (∀ (S : z_S) (k j : Nat) (v : Nat → Int64), gG (sJ S k v) j = gG S j) ∧ (∀ (S : z_S) (k j : Nat) (v : Int64), gG (sG S k v) j = if j = k then v else gG S j)
  ∧ (∀ (S : z_S) (k j : Nat) (v : Int32), gI (sF S k v) j = gI S j) ∧ (∀ (S : z_S) (k j : Nat) (v : Int64), gI (sG S k v) j = gI S j) ∧ (∀ (S : z_S) (k j : Nat) (v : Nat → Int64), gI (sJ S k v) j = gI S j) ∧ (∀ (S : z_S) (k j : Nat) (v : Nat → Int32), gI (sI S k v) j = if j = k then v else gI S j)
  ∧ (∀ (S : z_S) (k j : Nat) (v : Int32), gJ (sF S k v) j = gJ S j) ∧ (∀ (S : z_S) (k j : Nat) (v : Int64), gJ (sG S k v) j = gJ S j) ∧ (∀ (S : z_S) (k j : Nat) (v : Nat → Int32), gJ (sI S k v) j = gJ S j) ∧ (∀ (S : z_S) (k j : Nat) (v : Nat → Int64), gJ (sJ S k v) j = if j = k then v else gJ S j) :=
  ⟨fun _ _ _ _ => rfl, fun _ _ _ _ => rfl, fun _ _ _ _ => rfl, fun _ _ _ _ => rfl, fun _ _ _ _ => rfl, fun _ _ _ _ => rfl, fun _ _ _ _ => rfl, fun _ _ _ _ => rfl, fun _ _ _ _ => rfl, fun _ _ _ _ => rfl, fun _ _ _ _ => rfl, fun _ _ _ _ => rfl, fun _ _ _ _ => rfl, fun _ _ _ _ => rfl, fun _ _ _ _ => rfl, fun _ _ _ _ => rfl⟩
theorem upd_at (f : Nat → Int32) (k j : Nat) (x : Int32) : upd f k x j = if j = k then x else f j := rfl
theorem updL_at (f : Nat → Int64) (k j : Nat) (x : Int64) : vp_updL f k x j = if j = k then x else f j := rfl
theorem ck_t {α : Type} {b : Bool} {x : Option α} (h : b = true) : ck b x = x := if_pos h
theorem bo_s {α β : Type} {x : Option (α × z_S)} {k : α → z_S → Option β} {v : α} {S : z_S} (h : x = some (v, S)) : bo x k = k v S := by rw [h]; rfl
theorem vi_n {k N : Nat} (h : k < N) (hN : N < 2 ^ 31) : vi (nI k) N = true := by
  unfold vi
  rw [decide_eq_true_eq, nI_toInt (by omega)]
  omega
theorem cl_n {k : Nat} (h : k < 2 ^ 31) : (nI k).toNatClampNeg = k := nI_clamp h
theorem vz_0 : vz 0 = true := by decide
theorem vz_1 : vz 1 = true := by decide
/-- pigeons: no N + 1 different numbers below N -/
theorem pigeon : ∀ (N : Nat) (f : Nat → Nat), (∀ i, i ≤ N → f i < N) → (∀ i j, i < j → j ≤ N → f i ≠ f j) → False := by
  intro N
  induction N with
  | zero => intro f h _; exact absurd (h 0 (Nat.le_refl _)) (by omega)
  | succ N ih =>
    intro f h hd
    -- the last value v = f (N+1); swap N and v in the others
    refine ih (fun i => if f i = N then f (N + 1) else f i) (fun i hi => ?_) (fun i j hij hj => ?_)
    · show (if f i = N then f (N + 1) else f i) < N
      by_cases e : f i = N
      · rw [if_pos e]
        have h1 := h (N + 1) (Nat.le_refl _)
        have h2 := hd i (N + 1) (by omega) (Nat.le_refl _)
        omega
      · rw [if_neg e]
        have h1 := h i (by omega)
        omega
    · show (if f i = N then f (N + 1) else f i) ≠ (if f j = N then f (N + 1) else f j)
      have h1 := hd i j hij (by omega)
      have h2 := hd i (N + 1) (by omega) (Nat.le_refl _)
      have h3 := hd j (N + 1) (by omega) (Nat.le_refl _)
      by_cases e1 : f i = N <;> by_cases e2 : f j = N
      · omega
      · rw [if_pos e1, if_neg e2]; omega
      · rw [if_neg e1, if_pos e2]; omega
      · rw [if_neg e1, if_neg e2]; exact h1
