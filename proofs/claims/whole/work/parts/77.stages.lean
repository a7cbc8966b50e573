/-! top; the stages of the class over the start's table -/
section STAGES
variable {S : z_S} {N : Net} {B : Bk} {m r : Nat} {a a0 : Rat} {s : tab} {fz : Nat → Bool}
abbrev Rn (N : Net) : Nat := N.1 + 2
abbrev PIn (N : Net) (B : Bk) (r : Nat) (a : Rat) (s : tab) : Prop := PI (N.1 + 2 + 3) B.1 (isGn N) (pln N) (grn N B r) (sgn' B) (pwn B) (loN N) (hiN N B a) s
def lives (N : Net) (B : Bk) (u : Nat) : Prop := u < B.1 ∨ u = 8 ∨ (9 ≤ u ∧ u < 9 + N.1) ∨ u = 15 ∨ (16 ≤ u ∧ u < 19)
def CS (N : Net) (B : Bk) (r : Nat) (a : Rat) (S : z_S) (s : tab) (fz : Nat → Bool) : Prop := PIn N B r a s ∧ PRep S (N.1 + 2) B.1 s (loN N) (hiN N B a) fz ∧ ∀ u, live (N.1 + 2 + 3) B.1 s u ↔ lives N B u
def H8 (N : Net) (B : Bk) (r : Nat) (a a0 : Rat) (s : tab) (fz : Nat → Bool) : Prop := (a = 0 ∧ a0 = 0) ∨ ∀ y, NV N B r y → agree B.1 fz s y → y 8 = a0
theorem hi8 (hB : bkOk B) : hiN N B a 8 = a := by
  unfold hiN
  rw [if_neg (by have := hB.1; omega), if_pos rfl]
theorem lo8 : loN N 8 = 0 := by
  unfold loN
  rw [if_neg (by omega)]
/-- the value of a variable times bottom -/
theorem cs_top (hN : netOk N) (hB : bkOk B) (ha : a = 0 ∨ a = 1) (h : CS N B r a S s fz) (hm : 8 < m) {u : Nat} (hu : u < 16) (hl : lives N B u) : ∃ v, f_P_top m (nI u) S = some (v, S) ∧ q6 v = s.1 * s.2.2.2.2 u ∧ isZ (q6 v) 16402500000000 := by
  obtain ⟨h1, h2, h3⟩ := h
  have hb := bnds_N hN hB ha
  obtain ⟨k1, k2⟩ := pr_rowOf (m := m) h2 hm hu
  unfold f_P_top f_P_top_30
  by_cases q : ∃ k, k < N.1 + 2 ∧ s.2.2.1 k = u
  · obtain ⟨k, hk, e, e2⟩ := k1 q
    obtain ⟨v, v1, v2, v3⟩ := pr_rowTop (m := m) h1 h2 hb hm hk
    refine ⟨v, ?_, by rw [v2, e], isZ_mono v3 (by omega)⟩
    rw [bo_s e2, if_pos (nI_pos' (by have := h2.1.1; omega)), bo_s v1]
  · have e2 := k2 q
    have hcol : ∃ j, j < B.1 ∧ s.2.2.2.1 j = u := by
      rcases (h3 u).mpr hl with ⟨i, hi, e⟩ | h
      · refine (q ⟨i, ?_, e⟩).elim
        obtain ⟨-, -, e16, e17, e18, -, -⟩ := h1.1
        by_cases q1 : i < N.1 + 2
        · exact q1
        · rcases (show i = N.1 + 2 + 3 - 3 ∨ i = N.1 + 2 + 3 - 2 ∨ i = N.1 + 2 + 3 - 1 by omega) with e' | e' | e' <;> rw [e'] at e <;> omega
      · exact h
    obtain ⟨j, hj, e⟩ := hcol
    have hw := h2.2.2.2.2.2.2.1 j hj
    rw [e] at hw
    have hz := pr_w h1 hb hj
    rw [e] at hz
    have hbz := PI_b h1
    have e3 : q6 ((gI S 17 u).toInt64 * gG S 1) = s.1 * s.2.2.2.2 u := by
      rw [q6_mul (K := 3000 * 20250) (by rw [q6_i, hw, h2.2.1]; exact isZ_mul hz hbz) (by omega), q6_i, hw, h2.2.1]
      grind
    refine ⟨(gI S 17 u).toInt64 * gG S 1, ?_, e3, by rw [e3]; exact isZ_mono (isZ_mul hbz hz) (by omega)⟩
    rw [bo_s e2, if_neg (by decide), ck_t (vi_n hu (by omega)), cl_n (by omega)]
theorem cs_stage (hN : netOk N) (hB : bkOk B) (hr : r < 4) (ha : a = 0 ∨ a = 1) (h : CS N B r a S s fz) (hm : 1000000 < m) {aim : Nat} (hu : aim < 16) (hl : lives N B aim) (h8 : H8 N B r a a0 s fz ∨ aim = 8) : ∃ S' t fz', f_P_maximise m (nI aim) S = some ((), S') ∧ CS N B r a S' t fz' ∧ Stage (N.1 + 2 + 3) B.1 (NV N B r) (loN N) (hiN N B a) aim fz s fz' t ∧ PFrame S S' ∧ (H8 N B r a a0 s fz → H8 N B r a a0 t fz') := by
  obtain ⟨h1, h2, h3⟩ := h
  have hb := bnds_N hN hB ha
  have h6 := hN.1
  have h88 := hB.1
  have hA : ∃ a1 : Rat, ∀ t : tab, PIn N B r a t → (∀ j, j < B.1 → fz j = true → t.2.2.2.1 j = s.2.2.2.1 j ∧ t.2.2.2.2 (s.2.2.2.1 j) = s.2.2.2.2 (s.2.2.2.1 j)) → ¬ noEl (N.1 + 2) B.1 (loN N) (hiN N B a) fz aim t → colb B.1 t.2.2.2.1 8 = true → t.2.2.2.2 8 = a1 := by
    rcases h8 with h8 | h8
    · refine ⟨a0, fun t ht hf hne hc => ?_⟩
      rcases h8 with ⟨e1, e2⟩ | h8
      · obtain ⟨j, hj, e⟩ := List.any_eq_true.mp hc
        have hj := List.mem_range.mp hj
        have e : t.2.2.2.1 j = 8 := by simpa using e
        obtain ⟨-, -, c3⟩ := ht.1.1.2.2.2.2.1 j hj
        rw [e, lo8, hi8 hB, e1] at c3
        rw [e2]
        rcases c3 with c3 | c3 <;> exact c3
      · exact h8 _ ht.1.1.2.2.2.1 (fun j hj hfj => (hf j hj hfj).2)
    · refine ⟨0, fun t ht hf hne hc => ?_⟩
      obtain ⟨j0, hj0, e⟩ := List.any_eq_true.mp hc
      have hj0 := List.mem_range.mp hj0
      have e : t.2.2.2.1 j0 = 8 := by simpa using e
      obtain ⟨-, -, c3⟩ := ht.1.1.2.2.2.2.1 j0 hj0
      rw [e, lo8, hi8 hB] at c3
      rcases c3 with c3 | c3
      · exact c3
      · refine (hne fun j hj hfj he => ?_).elim
        have hwf := ht.1.1.2.1
        have hg := gm_Gain ht (aim := aim) (Or.inr ⟨j0, hj0, by rw [e, h8]⟩)
        have hgj : gm (N.1 + 2) t aim j = if j = j0 then t.1 else 0 := by
          rcases hg with ⟨i, hi, e1, -⟩ | ⟨j1, hj1, e1, e2⟩
          · exact (hwf.2.2 i j0 hi hj0 (by rw [e1, e, h8])).elim
          · have : j1 = j0 := hwf.2.1 j1 j0 hj1 hj0 (by rw [e1, e, h8])
            rw [e2 j hj, this]
        unfold elig at he
        rw [hgj] at he
        have hbp := ht.1.1.1
        by_cases q : j = j0
        · rw [if_pos q, q, e, c3, hi8 hB] at he
          grind
        · rw [if_neg q] at he
          grind
  obtain ⟨a1, hA⟩ := hA
  obtain ⟨S', t, fz', k1, k2, k3, k4, k5⟩ := pr_maximise (m := m) (a0 := a1) h1 h2 hb hm hu ((h3 aim).mpr hl) (fun k hk hg => by
      unfold isGn at hg
      unfold grn at hg ⊢
      rw [if_neg (by omega), if_neg (by omega)] at hg ⊢
      by_cases q : 9 ≤ 9 + k ∧ 9 + k < 9 + N.1
      · rw [if_pos q]
      · rw [if_neg q] at hg; omega) (fun u k hu hk he => by
      unfold grn at he
      by_cases q1 : u < B.1
      · rw [if_pos q1] at he; have := (hB.2 u q1).1; omega
      · rw [if_neg q1] at he
        by_cases q2 : u = 8
        · rw [if_pos q2] at he; omega
        · rw [if_neg q2] at he
          by_cases q3 : 9 ≤ u ∧ u < 9 + N.1
          · rw [if_pos q3] at he; exact he
          · rw [if_neg q3] at he; omega) (fun u hlu => by
      have := (h3 u).mp hlu
      unfold lives at this
      omega) hA
  refine ⟨S', t, fz', k1, ⟨k2, k3, fun u => (k4.2.1 u).trans (h3 u)⟩, k4, k5, fun h8 => ?_⟩
  rcases h8 with h8 | h8
  · exact Or.inl h8
  · refine Or.inr fun y hy hag => h8 y hy fun j hj hf => ?_
    obtain ⟨c1, c2, c3⟩ := k4.2.2.1 j hj hf
    have := hag j hj c1
    rw [c2, c3] at this
    exact this
/-- stages over all the steps from i on -/
theorem cs_rest (hN : netOk N) (hB : bkOk B) (hr : r < 4) (ha : a = 0 ∨ a = 1) (hm : 1000000 < m) : ∀ k i (S : z_S) (s : tab) (fz : Nat → Bool), i + k ≤ B.1 → CS N B r a S s fz → H8 N B r a a0 s fz → ∃ S' t fz', CS N B r a S' t fz' ∧ Stages (N.1 + 2 + 3) B.1 (NV N B r) (loN N) (hiN N B a) (List.range' i k) fz s fz' t ∧ PFrame S S' := by
  intro k
  induction k with
  | zero => intro i S s fz _ h _; exact ⟨S, s, fz, h, ⟨rfl, rfl⟩, PFrame_rf S⟩
  | succ k ih =>
    intro i S s fz hi h h8
    have h88 := hB.1
    obtain ⟨T, t, f, k1, k2, k3, k4, k5⟩ := cs_stage (m := m) hN hB hr ha h hm (aim := i) (by omega) (Or.inl (by omega)) (Or.inl h8)
    obtain ⟨S', u, f', l1, l2, l3⟩ := ih (i + 1) T t f (by omega) k2 (k5 h8)
    exact ⟨S', u, f', l1, ⟨f, t, k3, l2⟩, PFrame_tr k4 l3⟩
theorem cs_clear_loop (hN : netOk N) (hB : bkOk B) (hr : r < 4) (ha : a = 0 ∨ a = 1) (hm : 1000000 < m) : ∀ q i (S : z_S) (s : tab) (fz : Nat → Bool), i ≤ B.1 → B.1 - i < q → gF S 1 = nI B.1 → CS N B r a S s fz → H8 N B r a a0 s fz → ∃ S' t fz', f_N_clear_42 m q (nI i) S = bo (f_O_take m S') (fun _ S83 => bo (f_O_taken m (gF S83 1) S83) (fun v97 S97 => some (v97, S97))) ∧ CS N B r a S' t fz' ∧ Stages (N.1 + 2 + 3) B.1 (NV N B r) (loN N) (hiN N B a) (List.range' i (B.1 - i)) fz s fz' t ∧ PFrame S S' := by
  intro q
  have h88 := hB.1
  induction q with
  | zero => intro i S s fz _ h; omega
  | succ q ih =>
    intro i S s fz hi hq hF h h8
    by_cases e : i = B.1
    · refine ⟨S, s, fz, ?_, h, ?_, PFrame_rf S⟩
      · rw [f_N_clear_42, if_pos (by rw [hF]; exact nI_le (by omega) (by omega))]
      · rw [e, Nat.sub_self]; exact ⟨rfl, rfl⟩
    · obtain ⟨T, t, f, k1, k2, k3, k4, k5⟩ := cs_stage (m := m) hN hB hr ha h hm (aim := i) (by omega) (Or.inl (by omega)) (Or.inl h8)
      obtain ⟨S', u, f', l1, l2, l3, l4⟩ := ih (i + 1) T t f (by omega) (by omega) (by rw [k4.1]; exact hF) k2 (k5 h8)
      refine ⟨S', u, f', ?_, l2, ?_, PFrame_tr k4 l4⟩
      · rw [f_N_clear_42, if_neg (by rw [hF]; exact nI_ge (by omega) (by omega)), bo_s k1, nI_1]
        exact l1
      · rw [show B.1 - i = (B.1 - (i + 1)) + 1 by omega]
        exact ⟨f, t, k3, l3⟩
theorem cs_start (hN : netOk N) (hB : bkOk B) (hr : r < 4) (hT : 0 < Tr (LN N) r) (ha : a = 0 ∨ a = 1) (h : PRep S (N.1 + 2) B.1 (sT N B r) (loN N) (hiN N B a) fz) : CS N B r a S (sT N B r) fz := ⟨start_PI hN hB hr hT ha, h, fun u => start_live hN hB u⟩
end STAGES
