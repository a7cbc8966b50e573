theorem mpos {a b : Rat} (h : 0 < a * b) : (0 < a ∧ 0 < b) ∨ (a < 0 ∧ b < 0) := by
  by_cases ha : 0 < a
  · by_cases hb : 0 < b
    · exact Or.inl ⟨ha, hb⟩
    · have h1 : 0 ≤ a * (-b) := Rat.mul_nonneg (by grind) (by grind)
      grind
  · by_cases hb : b < 0
    · by_cases ha0 : a = 0
      · subst ha0; grind
      · exact Or.inr ⟨by grind, hb⟩
    · have h1 : 0 ≤ (-a) * b := Rat.mul_nonneg (by grind) (by grind)
      grind
theorem sq_pos {a : Rat} (h : a ≠ 0) : 0 < a * a := by
  by_cases ha : 0 < a
  · exact Rat.mul_pos ha ha
  · have h1 : 0 < (-a) * (-a) := Rat.mul_pos (by grind) (by grind)
    grind
set_option maxHeartbeats 2000000 in
theorem bland {R n nb : Nat} {b : Nat → Rat} {C : Nat → Nat → Nat → Rat} {rv cv : Nat → Nat → Nat} {γ : Nat → Nat → Rat} {lo hi w : Nat → Rat} {fz : Nat → Bool} {aim : Nat} {c r : Nat → Nat} {p q : Nat} (hpq : p < q)
    (hb : ∀ t, p ≤ t → t ≤ q → 0 < b t) (hwf : ∀ t, p ≤ t → t ≤ q → Wf R n (rv t) (cv t))
    (hV : ∀ t, p ≤ t → t ≤ q → ∀ y, Eqs R n (b t) (C t) (rv t) (cv t) y ↔ Eqs R n (b p) (C p) (rv p) (cv p) y)
    (hg : ∀ t, p ≤ t → t < q → Gain R n (b t) (C t) (rv t) (cv t) aim (γ t))
    (hd : ∀ t, p ≤ t → t < q → Deg R n nb (b t) (C t) (rv t) (cv t) (γ t) lo hi w fz (c t) (r t))
    (hs : ∀ t, p ≤ t → t < q → ∀ j, j < n → cv (t + 1) j = pvK (rv t) (cv t) (r t) (c t) j)
    (hfe : ∀ t, p ≤ t → t < q → ∀ j, j < n → cv t j < nb ∧ lo (cv t j) ≤ w (cv t j) ∧ w (cv t j) ≤ hi (cv t j))
    (hsame : ∀ u, (∃ j, j < n ∧ cv p j = u) ↔ (∃ j, j < n ∧ cv q j = u)) : False := by
  -- which variables stand in columns, from one table to the next
  have L1 : ∀ t, p ≤ t → t < q → ∀ u, (∃ j, j < n ∧ cv (t + 1) j = u) ↔ (((∃ j, j < n ∧ cv t j = u) ∧ u ≠ cv t (c t)) ∨ u = rv t (r t)) := by
    intro t h1 h2 u
    obtain ⟨hc, hr, -⟩ := hd t h1 h2
    have wf := hwf t h1 (by omega)
    constructor
    · rintro ⟨j, hj, e⟩
      rw [hs t h1 h2 j hj] at e
      unfold pvK at e
      by_cases ej : j = c t
      · rw [if_pos ej] at e; exact Or.inr e.symm
      · rw [if_neg ej] at e; exact Or.inl ⟨⟨j, hj, e⟩, fun h => ej (wf.2.1 j (c t) hj hc (e.trans h))⟩
    · rintro (⟨⟨j, hj, e⟩, hne⟩ | e)
      · refine ⟨j, hj, ?_⟩
        rw [hs t h1 h2 j hj]
        unfold pvK
        rw [if_neg (fun h => hne (by rw [← e, h]))]
        exact e
      · refine ⟨c t, hc, ?_⟩
        rw [hs t h1 h2 _ hc]
        unfold pvK
        rw [if_pos rfl]
        exact e.symm
  have Lrow : ∀ t, p ≤ t → t ≤ q → ∀ i, i < R → ¬ ∃ j, j < n ∧ cv t j = rv t i := fun t h1 h2 i hi ⟨j, hj, e⟩ => (hwf t h1 h2).2.2 i j hi hj e.symm
  have L3 : ∀ u b0, p ≤ b0 → b0 < q → rv b0 (r b0) = u → ∃ a, p ≤ a ∧ a < q ∧ cv a (c a) = u := by
    intro u b0 h1 h2 e
    refine Classical.byContradiction fun hn => ?_
    have up : ∀ s t, p ≤ s → s ≤ t → t ≤ q → (∃ j, j < n ∧ cv s j = u) → ∃ j, j < n ∧ cv t j = u := by
      intro s t hs1 hst
      induction t with
      | zero => intro _ h; rwa [show s = 0 by omega] at h
      | succ t ih =>
        intro ht h
        by_cases es : s = t + 1
        · rwa [es] at h
        · have h3 := ih (by omega) (by omega) h
          exact (L1 t (by omega) (by omega) u).mpr (Or.inl ⟨h3, fun e2 => hn ⟨t, by omega, by omega, e2.symm⟩⟩)
    have h3 : ∃ j, j < n ∧ cv (b0 + 1) j = u := (L1 b0 h1 h2 u).mpr (Or.inr e.symm)
    have h4 := (hsame u).mpr (up (b0 + 1) q (by omega) (by omega) (Nat.le_refl _) h3)
    have h5 := up p b0 (Nat.le_refl _) h1 (by omega) h4
    rw [← e] at h5
    exact Lrow b0 h1 (by omega) (r b0) (hd b0 h1 h2).2.1 h5
  have L2 : ∀ u a, p ≤ a → a < q → cv a (c a) = u → ∃ b0, p ≤ b0 ∧ b0 < q ∧ rv b0 (r b0) = u := by
    intro u a h1 h2 e
    refine Classical.byContradiction fun hn => ?_
    have dn : ∀ s t, p ≤ s → s ≤ t → t ≤ q → (∃ j, j < n ∧ cv t j = u) → ∃ j, j < n ∧ cv s j = u := by
      intro s t hs1 hst
      induction t with
      | zero => intro _ h; rwa [show s = 0 by omega]
      | succ t ih =>
        intro ht h
        by_cases es : s = t + 1
        · rwa [es]
        · rcases (L1 t (by omega) (by omega) u).mp h with h3 | h3
          · exact ih (by omega) (by omega) h3.1
          · exact absurd ⟨t, by omega, by omega, h3.symm⟩ hn
    have h3 : ∃ j, j < n ∧ cv a j = u := ⟨c a, (hd a h1 h2).1, e⟩
    have h4 := dn p a (Nat.le_refl _) h1 (by omega) h3
    have h5 := dn (a + 1) q (by omega) (by omega) (Nat.le_refl _) ((hsame u).mp h4)
    rcases (L1 a h1 h2 u).mp h5 with h6 | h6
    · exact h6.2 e.symm
    · exact hn ⟨a, h1, h2, h6.symm⟩
  have L4 : ∀ u s t, p ≤ s → s ≤ q → p ≤ t → t ≤ q → (∃ j, j < n ∧ cv s j = u) → (¬ ∃ j, j < n ∧ cv t j = u) → ∃ a, p ≤ a ∧ a < q ∧ cv a (c a) = u := by
    intro u s t hs1 hs2 ht1 ht2 h1 h2
    refine Classical.byContradiction fun hn => ?_
    have same : ∀ k, p ≤ k → k ≤ q → ((∃ j, j < n ∧ cv k j = u) ↔ ∃ j, j < n ∧ cv p j = u) := by
      intro k
      induction k with
      | zero => intro hk _; rw [show p = 0 by omega]
      | succ k ih =>
        intro hk1 hk2
        by_cases ek : k + 1 = p
        · rw [ek]
        · rw [← ih (by omega) (by omega), L1 k (by omega) (by omega) u]
          constructor
          · rintro (h | h)
            · exact h.1
            · exact absurd (L3 u k (by omega) (by omega) h.symm) hn
          · intro h
            exact Or.inl ⟨h, fun e => hn ⟨k, by omega, by omega, e.symm⟩⟩
    exact h2 ((same t ht1 ht2).mpr ((same s hs1 hs2).mp h1))
  have Lfz : ∀ j, j < n → fz j = true → ∀ t, p ≤ t → t ≤ q → cv t j = cv p j := by
    intro j hj hf t
    induction t with
    | zero => intro h _; rw [show p = 0 by omega]
    | succ t ih =>
      intro h1 h2
      by_cases et : t + 1 = p
      · rw [et]
      · rw [hs t (by omega) (by omega) j hj]
        unfold pvK
        rw [if_neg (fun e => by have := (hd t (by omega) (by omega)).2.2.1; rw [← e, hf] at this; cases this)]
        exact ih (by omega) (by omega)
  -- the greatest variable that enters, and when it leaves
  obtain ⟨a, a1, a2, amax⟩ := has_max (fun t => cv t (c t)) hpq
  obtain ⟨d, d1, d2, ed⟩ := L2 _ a a1 a2 rfl
  obtain ⟨hca, hra, hfa, hnba, hela, hlea, hlva, hlva2⟩ := hd a a1 a2
  obtain ⟨hcd, hrd, hfd, hnbd, held, hled, hlvd, hlvd2⟩ := hd d d1 d2
  have wfa := hwf a a1 (by omega)
  have wfd := hwf d d1 (by omega)
  have hγd : γ d (c d) ≠ 0 := by
    rcases held with h | h
    · have := h.1; grind
    · have := h.1; grind
  -- the direction in which table d moves
  have ev : Eqs R n (b d) (C d) (rv d) (cv d) (Col R (b d) (C d) (rv d) (cv d) (c d)) := Col_eqs wfd hcd
  have ev2 : Eqs R n (b a) (C a) (rv a) (cv a) (Col R (b d) (C d) (rv d) (cv d) (c d)) := (hV a a1 (by omega) _).mpr ((hV d d1 (by omega) _).mp ev)
  have g1 := Gain_eq (hg d d1 d2) ev
  rw [sm_one (c := c d) hcd (fun j hj hne => by rw [Col_col wfd hcd hj, if_neg hne]; grind), Col_col wfd hcd hcd, if_pos rfl] at g1
  have g2 := Gain_eq (hg a a1 a2) ev2
  have hbd := hb d d1 (by omega)
  have hba := hb a a1 (by omega)
  have e3 : Col R (b d) (C d) (rv d) (cv d) (c d) aim = γ d (c d) := by
    have : b d * Col R (b d) (C d) (rv d) (cv d) (c d) aim = b d * γ d (c d) := by rw [g1]; grind
    grind
  have g3 : 0 < sm n (fun j => γ a j * (γ d (c d) * Col R (b d) (C d) (rv d) (cv d) (c d) (cv a j))) := by
    have e4 : sm n (fun j => γ a j * (γ d (c d) * Col R (b d) (C d) (rv d) (cv d) (c d) (cv a j))) = γ d (c d) * sm n (fun j => γ a j * Col R (b d) (C d) (rv d) (cv d) (c d) (cv a j)) := by
      rw [← sm_mul]; exact sm_congr fun j _ => by grind
    rw [e4, ← g2, e3]
    have h5 := Rat.mul_pos hba (sq_pos hγd)
    grind
  obtain ⟨j, hj, hpos⟩ := sm_pos_ex g3
  -- the variable u
  have hnz : Col R (b d) (C d) (rv d) (cv d) (c d) (cv a j) ≠ 0 := fun h => by rw [h] at hpos; grind
  have hcase : (∃ i, i < R ∧ rv d i = cv a j) ∨ cv d (c d) = cv a j := by
    refine Classical.byContradiction fun hn => hnz (Col_none (fun i hi e => hn (Or.inl ⟨i, hi, e⟩)) (fun e => hn (Or.inr e)))
  have hfj : fz j = false := by
    cases hf : fz j with
    | false => rfl
    | true =>
      exfalso
      have e5 : cv a j = cv d j := (Lfz j hj hf a a1 (by omega)).trans (Lfz j hj hf d d1 (by omega)).symm
      rcases hcase with ⟨i, hi, e6⟩ | e6
      · exact wfd.2.2 i j hi hj (e6.trans e5)
      · have := wfd.2.1 (c d) j hcd hj (e6.trans e5)
        rw [this, hf] at hfd
        cases hfd
  have hle : cv a j ≤ cv a (c a) := by
    rcases hcase with ⟨i, hi, e6⟩ | e6
    · obtain ⟨t, t1, t2, e7⟩ := L4 (cv a j) a d a1 (by omega) d1 (by omega) ⟨j, hj, rfl⟩ (by rw [← e6]; exact Lrow d d1 (by omega) i hi)
      rw [← e7]
      exact amax t t1 t2
    · rw [← e6]
      exact amax d d1 d2
  by_cases eT : cv a j = cv a (c a)
  · -- u is the greatest variable itself
    have ej := wfa.2.1 j (c a) hj hca eT
    subst ej
    rw [← ed, Col_row wfd hcd hrd] at hpos
    rcases mpos hpos with ⟨p1, p2⟩ | ⟨p1, p2⟩
    · rcases hela with ⟨q1, q2⟩ | ⟨q1, q2⟩
      · rcases hlvd with ⟨s1, s2⟩ | ⟨s1, s2⟩
        · rw [ed] at s2; grind
        · grind
      · grind
    · rcases hela with ⟨q1, q2⟩ | ⟨q1, q2⟩
      · grind
      · rcases hlvd with ⟨s1, s2⟩ | ⟨s1, s2⟩
        · grind
        · rw [ed] at s2; grind
  · have hlt : cv a j < cv a (c a) := by omega
    obtain ⟨n1, n2⟩ := hlea j hj hfj hlt
    obtain ⟨f0, f1, f2⟩ := hfe a a1 a2 j hj
    have key : ((0 < γ d (c d) * Col R (b d) (C d) (rv d) (cv d) (c d) (cv a j)) ∧ w (cv a j) = hi (cv a j)) ∨ ((γ d (c d) * Col R (b d) (C d) (rv d) (cv d) (c d) (cv a j) < 0) ∧ w (cv a j) = lo (cv a j)) := by
      rcases mpos hpos with ⟨p1, p2⟩ | ⟨p1, p2⟩
      · refine Or.inl ⟨p2, ?_⟩
        have : ¬ w (cv a j) < hi (cv a j) := fun h => n1 ⟨p1, h⟩
        grind
      · refine Or.inr ⟨p2, ?_⟩
        have : ¬ lo (cv a j) < w (cv a j) := fun h => n2 ⟨p1, h⟩
        grind
    rcases hcase with ⟨i, hi, e6⟩ | e6
    · rw [← e6, Col_row wfd hcd hi] at key
      have h9 := hlvd2 i hi (by rw [e6]; exact f0) key
      rw [ed, e6] at h9
      omega
    · rw [← e6, Col_col wfd hcd hcd, if_pos rfl] at key
      rcases key with ⟨k1, k2⟩ | ⟨k1, k2⟩
      · have h9 : 0 < γ d (c d) := by
          rcases mpos k1 with h | h
          · exact h.1
          · grind
        rcases held with h | h
        · have := h.2; grind
        · have := h.1; grind
      · have h9 : γ d (c d) < 0 := by
          have h10 : 0 < (- γ d (c d)) * b d := by grind
          rcases mpos h10 with h | h
          · have := h.1; grind
          · have := h.2; grind
        rcases held with h | h
        · have := h.1; grind
        · have := h.2; grind
