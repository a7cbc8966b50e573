/-! the end of a stage: what is made great is greatest; stages one after another -/
def Feas (R n : Nat) (V : (Nat → Rat) → Prop) (lo hi : Nat → Rat) (s : tab) (y : Nat → Rat) : Prop := V y ∧ ∀ u, u < 15 → live R n s u → lo u ≤ y u ∧ y u ≤ hi u
def agree (n : Nat) (fz : Nat → Bool) (s : tab) (y : Nat → Rat) : Prop := ∀ j, j < n → fz j = true → y (s.2.2.2.1 j) = s.2.2.2.2 (s.2.2.2.1 j)
def Stage (R n : Nat) (V : (Nat → Rat) → Prop) (lo hi : Nat → Rat) (aim : Nat) (fz : Nat → Bool) (s : tab) (fz' : Nat → Bool) (t : tab) : Prop :=
  tGood R n V lo hi t ∧ (∀ u, live R n t u ↔ live R n s u) ∧ (∀ j, j < n → fz j = true → fz' j = true ∧ t.2.2.2.1 j = s.2.2.2.1 j ∧ t.2.2.2.2 (s.2.2.2.1 j) = s.2.2.2.2 (s.2.2.2.1 j)) ∧
  (∀ y, Feas R n V lo hi s y → agree n fz s y → y aim ≤ t.2.2.2.2 aim ∧ (y aim = t.2.2.2.2 aim → agree n fz' t y)) ∧
  (∀ y, V y → agree n fz' t y → y aim = t.2.2.2.2 aim)
theorem run_frozen {R n N : Nat} {lo hi : Nat → Rat} {fz : Nat → Bool} {aim : Nat} {st : Nat → tab} {V : (Nat → Rat) → Prop} (hg : ∀ t, t ≤ N → tGood R n V lo hi (st t)) (hm : ∀ t, t < N → Move R n lo hi fz aim (st t) (st (t + 1))) {j : Nat} (hj : j < n) (hf : fz j = true) : ∀ t, t ≤ N → (st t).2.2.2.1 j = (st 0).2.2.2.1 j ∧ (st t).2.2.2.2 ((st 0).2.2.2.1 j) = (st 0).2.2.2.2 ((st 0).2.2.2.1 j) := by
  intro t
  induction t with
  | zero => intro _; exact ⟨rfl, rfl⟩
  | succ t ih =>
    intro ht
    obtain ⟨e1, e2⟩ := ih (by omega)
    obtain ⟨γ, c, d, -, hc, h⟩ := hm t (by omega)
    have hne : j ≠ c := fun e => by have := hc.2.1; rw [← e, hf] at this; cases this
    have hwf := (hg t (by omega)).2.1
    rw [← e1] at e2 ⊢
    rcases h with ⟨-, e⟩ | ⟨r, hs, e⟩
    · rw [e]
      refine ⟨rfl, ?_⟩
      show moved R (st t).1 (st t).2.1 (st t).2.2.1 (st t).2.2.2.1 (st t).2.2.2.2 c _ ((st t).2.2.2.1 j) = _
      rw [moved_col hwf hc.1 hj, if_neg hne]
      exact e2
    · rw [e]
      refine ⟨?_, ?_⟩
      · show pvK (st t).2.2.1 (st t).2.2.2.1 r c j = _
        unfold pvK; rw [if_neg hne]
      · show moved R (st t).1 (st t).2.1 (st t).2.2.1 (st t).2.2.2.1 (st t).2.2.2.2 c _ ((st t).2.2.2.1 j) = _
        rw [moved_col hwf hc.1 hj, if_neg hne]
        exact e2
theorem stage_of_run {R n N : Nat} {V : (Nat → Rat) → Prop} {lo hi : Nat → Rat} {fz fz' : Nat → Bool} {aim : Nat} {st : Nat → tab} {γ : Nat → Rat} (hlh : ∀ u, u < 15 → live R n (st 0) u → lo u ≤ hi u) (h0 : tGood R n V lo hi (st 0)) (hm : ∀ t, t < N → Move R n lo hi fz aim (st t) (st (t + 1)))
    (hga : Gain R n (st N).1 (st N).2.1 (st N).2.2.1 (st N).2.2.2.1 aim γ) (hend : ∀ j, j < n → fz j = false → ¬ elig lo hi (st N).2.2.2.2 γ (st N).2.2.2.1 j) (hfz : ∀ j, j < n → (fz' j = true ↔ (fz j = true ∨ γ j ≠ 0))) : Stage R n V lo hi aim fz (st 0) fz' (st N) := by
  have hl : ∀ t, t ≤ N → ∀ u, live R n (st t) u ↔ live R n (st 0) u := by
    intro t
    induction t with
    | zero => intro _ u; exact Iff.rfl
    | succ t ih => intro ht u; rw [live_move (hm t (by omega)) u]; exact ih (by omega) u
  have hg : ∀ t, t ≤ N → tGood R n V lo hi (st t) := by
    intro t
    induction t with
    | zero => intro _; exact h0
    | succ t ih => intro ht; exact Move_good (fun u hu hl2 => hlh u hu ((hl t (by omega) u).mp hl2)) (ih (by omega)) (hm t (by omega))
  have gN := hg N (Nat.le_refl _)
  have hfr := fun j (hj : j < n) (hf : fz j = true) => run_frozen hg hm hj hf N (Nat.le_refl _)
  have hb := gN.1
  have hb0 : (st N).1 ≠ 0 := by grind
  refine ⟨gN, hl N (Nat.le_refl _), fun j hj hf => ⟨(hfz j hj).mpr (Or.inl hf), hfr j hj hf⟩, fun y hy hag => ?_, fun y hy hag => ?_⟩
  · have e1 := Gain_eq hga ((gN.2.2.1 y).mpr hy.1)
    have e2 := Gain_eq hga ((gN.2.2.1 _).mpr gN.2.2.2.1)
    have e3 : (st N).1 * (y aim - (st N).2.2.2.2 aim) = sm n (fun j => γ j * (y ((st N).2.2.2.1 j) - (st N).2.2.2.2 ((st N).2.2.2.1 j))) := by
      have : sm n (fun j => γ j * (y ((st N).2.2.2.1 j) - (st N).2.2.2.2 ((st N).2.2.2.1 j))) = sm n (fun j => γ j * y ((st N).2.2.2.1 j)) - sm n (fun j => γ j * (st N).2.2.2.2 ((st N).2.2.2.1 j)) := by
        rw [← sm_sub]; exact sm_congr fun j _ => by grind
      rw [this, ← e1, ← e2]
      grind
    have hterm : ∀ j, j < n → γ j * (y ((st N).2.2.2.1 j) - (st N).2.2.2.2 ((st N).2.2.2.1 j)) ≤ 0 := by
      intro j hj
      cases hf : fz j with
      | true =>
        obtain ⟨a1, a2⟩ := hfr j hj hf
        have a3 := hag j hj hf
        rw [a1, a2, a3]
        grind
      | false =>
        have hne := hend j hj hf
        unfold elig at hne
        obtain ⟨a1, a2, a3⟩ := gN.2.2.2.2.1 j hj
        obtain ⟨b1, b2⟩ := hy.2 _ a1 ((hl N (Nat.le_refl _) _).mp (Or.inr ⟨j, hj, rfl⟩))
        by_cases g1 : 0 < γ j
        · have : ¬ (st N).2.2.2.2 ((st N).2.2.2.1 j) < hi ((st N).2.2.2.1 j) := fun h => hne (Or.inl ⟨g1, h⟩)
          have h5 := Rat.mul_nonneg (by grind : 0 ≤ γ j) (by grind : 0 ≤ (st N).2.2.2.2 ((st N).2.2.2.1 j) - y ((st N).2.2.2.1 j))
          grind
        · by_cases g2 : γ j < 0
          · have : ¬ lo ((st N).2.2.2.1 j) < (st N).2.2.2.2 ((st N).2.2.2.1 j) := fun h => hne (Or.inr ⟨g2, h⟩)
            have h5 := Rat.mul_nonneg (by grind : 0 ≤ - γ j) (by grind : 0 ≤ y ((st N).2.2.2.1 j) - (st N).2.2.2.2 ((st N).2.2.2.1 j))
            grind
          · have : γ j = 0 := by grind
            rw [this]; grind
    have hle := sm_nonpos hterm
    rw [← e3] at hle
    refine ⟨?_, fun heq j hj hf' => ?_⟩
    · by_cases hgt : (st N).2.2.2.2 aim < y aim
      · have := Rat.mul_pos hb (by grind : 0 < y aim - (st N).2.2.2.2 aim)
        exfalso; grind
      · grind
    · have hz : sm n (fun j => γ j * (y ((st N).2.2.2.1 j) - (st N).2.2.2.2 ((st N).2.2.2.1 j))) = 0 := by rw [← e3, heq]; grind
      have h6 := sm_eq0 hterm hz j hj
      rcases (hfz j hj).mp hf' with hf | hne
      · obtain ⟨a1, a2⟩ := hfr j hj hf
        rw [a1, a2]; exact hag j hj hf
      · have h6 : γ j * (y ((st N).2.2.2.1 j) - (st N).2.2.2.2 ((st N).2.2.2.1 j)) = 0 := h6
        grind
  · have e1 := Gain_eq hga ((gN.2.2.1 y).mpr hy)
    have e2 := Gain_eq hga ((gN.2.2.1 _).mpr gN.2.2.2.1)
    have e3 : (st N).1 * y aim = (st N).1 * (st N).2.2.2.2 aim := by
      rw [e1, e2]
      refine sm_congr fun j hj => ?_
      by_cases hne : γ j = 0
      · rw [hne]; grind
      · rw [hag j hj ((hfz j hj).mpr (Or.inr hne))]
    grind
/-- stages one after another: each in turn greatest among what the earlier ones left -/
def Stages (R n : Nat) (V : (Nat → Rat) → Prop) (lo hi : Nat → Rat) : List Nat → (Nat → Bool) → tab → (Nat → Bool) → tab → Prop
  | [], fz, s, fz', t => fz = fz' ∧ s = t
  | a :: as, fz, s, fz', t => ∃ (f1 : Nat → Bool) (s1 : tab), Stage R n V lo hi a fz s f1 s1 ∧ Stages R n V lo hi as f1 s1 fz' t
def lexle : List Nat → (Nat → Rat) → (Nat → Rat) → Prop
  | [], _, _ => True
  | a :: as, y, w => y a < w a ∨ (y a = w a ∧ lexle as y w)
theorem Stages_keep {R n : Nat} {V : (Nat → Rat) → Prop} {lo hi : Nat → Rat} : ∀ {as : List Nat} {fz fz' : Nat → Bool} {s t : tab}, tGood R n V lo hi s → Stages R n V lo hi as fz s fz' t → tGood R n V lo hi t ∧ (∀ u, live R n t u ↔ live R n s u) ∧ (∀ j, j < n → fz j = true → t.2.2.2.2 (s.2.2.2.1 j) = s.2.2.2.2 (s.2.2.2.1 j))
  | [], fz, fz', s, t, hg, h => by obtain ⟨-, rfl⟩ := h; exact ⟨hg, fun _ => Iff.rfl, fun _ _ _ => rfl⟩
  | a :: as, fz, fz', s, t, hg, h => by
    obtain ⟨f1, s1, ⟨h1, h2, h3, -, -⟩, h6⟩ := h
    obtain ⟨k1, k2, k3⟩ := Stages_keep h1 h6
    refine ⟨k1, fun u => (k2 u).trans (h2 u), fun j hj hf => ?_⟩
    obtain ⟨c1, c2, c3⟩ := h3 j hj hf
    have := k3 j hj c1
    rw [c2] at this
    rw [this, c3]
theorem Stages_lex {R n : Nat} {V : (Nat → Rat) → Prop} {lo hi : Nat → Rat} : ∀ {as : List Nat} {fz fz' : Nat → Bool} {s t : tab}, tGood R n V lo hi s → Stages R n V lo hi as fz s fz' t → ∀ y, Feas R n V lo hi s y → agree n fz s y → lexle as y t.2.2.2.2
  | [], _, _, _, _, _, _, _, _, _ => trivial
  | a :: as, fz, fz', s, t, hg, h, y, hy, hag => by
    obtain ⟨f1, s1, ⟨h1, h2, h3, h4, h5⟩, h6⟩ := h
    obtain ⟨k1, k2, k3⟩ := Stages_keep h1 h6
    have e : t.2.2.2.2 a = s1.2.2.2.2 a := h5 _ k1.2.2.2.1 (fun j hj hf => k3 j hj hf)
    obtain ⟨q1, q2⟩ := h4 y hy hag
    by_cases hlt : y a < t.2.2.2.2 a
    · exact Or.inl hlt
    · have heq : y a = s1.2.2.2.2 a := by grind
      exact Or.inr ⟨heq.trans e.symm, Stages_lex h1 h6 y ⟨hy.1, fun u hu hl => hy.2 u hu ((h2 u).mp hl)⟩ (q2 heq)⟩
