section MX
variable {S : z_S} {R n m : Nat} {isG : Nat → Prop} {pl : Nat → v3} {gr : Nat → Nat} {sg pw : Nat → Rat} {lo hi : Nat → Rat} {s : tab} {fz : Nat → Bool}
theorem pr_arow (hr : PRep S R n s lo hi fz) (hm : 8 < m) {aim : Nat} (ha : aim < 16) : ∃ x, f_P_rowOf m (nI aim) S = some (x, S) ∧ arow R s aim x := by
  obtain ⟨h1, h2⟩ := pr_rowOf (m := m) hr hm ha
  by_cases e : ∃ k, k < R ∧ s.2.2.1 k = aim
  · obtain ⟨k, k1, k2, k3⟩ := h1 e
    exact ⟨nI k, k3, Or.inl ⟨k, k1, k2, rfl⟩⟩
  · exact ⟨-1, h2 e, Or.inr ⟨e, rfl⟩⟩
/-- the columns that gain are frozen at the end -/
theorem pr_freeze (h : PI (R + 3) n isG pl gr sg pw lo hi s) {aim : Nat} {x : Int32} (ha : aim < 16) (hx : arow R s aim x) (hg : ∀ i, R ≤ i → i < R + 3 → s.2.2.1 i ≠ aim) : ∀ q j (S : z_S) (f : Nat → Bool), j ≤ n → n - j < q → PRep S R n s lo hi f → (∀ k, k < n → f k = (fz k || (decide (k < j) && !(gm R s aim k == 0)))) → ∃ S' f', f_P_maximise_68 m q (nI aim) x (nI j) S = some ((), S') ∧ PRep S' R n s lo hi f' ∧ (∀ k, k < n → f' k = (fz k || !(gm R s aim k == 0))) ∧ PFrame S S' := by
  intro q
  induction q with
  | zero => intro j S f _ h; omega
  | succ q ih =>
    intro j S f hj hq hr hf
    have hr0 := hr
    obtain ⟨⟨r1, r2, r3, r4⟩, r5, r6, r7, r8, r9, r10, r11⟩ := hr
    by_cases e : j = n
    · subst e
      refine ⟨S, f, ?_, hr0, fun k hk => ?_, PFrame_rf S⟩
      · rw [f_P_maximise_68, if_pos (by rw [r4]; exact nI_le (Nat.le_refl _) (by omega))]
      · rw [hf k hk, decide_eq_true hk, Bool.true_and]
    · have hjn : j < n := by omega
      obtain ⟨v, v1, v2⟩ := pr_gain (m := m) h hr0 ha hx hg hjn
      have hvj : vi (nI j) 8 = true := vi_n (by omega) (by omega)
      have hcj : (nI j).toNatClampNeg = j := cl_n (by omega)
      by_cases hz : gm R s aim j = 0
      · obtain ⟨S', f', s1, s2, s3, s4⟩ := ih (j + 1) S f (by omega) (by omega) hr0 (fun k hk => by
          rw [hf k hk]
          by_cases ek : k = j
          · subst ek; rw [hz]; simp
          · congr 2
            by_cases hkj : k < j
            · rw [decide_eq_true hkj, decide_eq_true (show k < j + 1 by omega)]
            · rw [decide_eq_false hkj, decide_eq_false (show ¬ k < j + 1 by omega)])
        refine ⟨S', f', ?_, s2, s3, s4⟩
        rw [f_P_maximise_68, if_neg (by rw [r4]; exact nI_ge hjn (by omega)), bo_s v1, if_pos (q6_inj.mp (by rw [v2, hz, q6_0]))]
        unfold f_P_maximise_95
        rw [nI_1]
        exact s1
      · have hT : PRep (sI S 18 (upd (gI S 18) j 1)) R n s lo hi (fun k => if k = j then true else f k) := by
          refine ⟨⟨r1, r2, r3, r4⟩, r5, r6, r7, r8, r9, r10, fun k hk => ?_⟩
          simp only [gs, reduceIte, upd_at]
          by_cases ek : k = j
          · rw [if_pos ek, if_pos ek]; rfl
          · rw [if_neg ek, if_neg ek]; exact r11 k hk
        obtain ⟨S', f', s1, s2, s3, s4⟩ := ih (j + 1) (sI S 18 (upd (gI S 18) j 1)) _ (by omega) (by omega) hT (fun k hk => by
          by_cases ek : k = j
          · subst ek
            rw [if_pos rfl, decide_eq_true (show k < k + 1 by omega)]
            have : (gm R s aim k == 0) = false := by simpa using hz
            rw [this]
            simp
          · simp only [if_neg ek]
            rw [hf k hk]
            congr 2
            by_cases hkj : k < j
            · rw [decide_eq_true hkj, decide_eq_true (show k < j + 1 by omega)]
            · rw [decide_eq_false hkj, decide_eq_false (show ¬ k < j + 1 by omega)])
        have hP0 : PFrame S (sI S 18 (upd (gI S 18) j 1)) := ⟨rfl, fun _ _ => rfl, fun k k1 k2 k3 k4 => by simp only [gs, if_neg k4], fun _ _ => rfl⟩
        refine ⟨S', f', ?_, s2, s3, PFrame_tr hP0 s4⟩
        rw [f_P_maximise_68, if_neg (by rw [r4]; exact nI_ge hjn (by omega)), bo_s v1, if_neg (fun q => hz (by rw [← v2, q]; rfl)), ck_t hvj, hcj]
        unfold f_P_maximise_95
        rw [nI_1]
        exact s1
def noEl (R n : Nat) (lo hi : Nat → Rat) (fz : Nat → Bool) (aim : Nat) (s : tab) : Prop := ∀ j, j < n → fz j = false → ¬ elig lo hi s.2.2.2.2 (gm R s aim) s.2.2.2.1 j
/-- one round of the loop: the end, or a move -/
theorem pr_round (h : PI (R + 3) n isG pl gr sg pw lo hi s) (hr : PRep S R n s lo hi fz) (hb : bnds lo hi) (hm : 8 < m) {aim k : Nat} (ha : aim < 16) (hl : live (R + 3) n s aim) (hg : ∀ i, R ≤ i → i < R + 3 → s.2.2.1 i ≠ aim) (hk : k < 1000000) (q : Nat) : (noEl R n lo hi fz aim s ∧ f_P_maximise_2 m (q + 1) (nI aim) (nI k) S = f_P_maximise_60 m (nI aim) S) ∨ ∃ S' t, f_P_maximise_2 m (q + 1) (nI aim) (nI k) S = f_P_maximise_2 m q (nI aim) (nI (k + 1)) S' ∧ Move (R + 3) n lo hi fz aim s t ∧ PI (R + 3) n isG pl gr sg pw lo hi t ∧ PRep S' R n t lo hi fz ∧ PFrame S S' ∧ ¬ noEl R n lo hi fz aim s := by
  obtain ⟨x, x1, x2⟩ := pr_arow (m := m) hr hm ha
  obtain ⟨f, f1, f2⟩ := pr_firstGain (m := m) h hr hm ha x2 hg
  have hk' : ¬ (1000000 : Int32) ≤ nI k := nI_ge (a := k) (b := 1000000) hk (by omega)
  have hn8 : n ≤ 8 := hr.1.2.1
  rcases f2 with ⟨rfl, hnone⟩ | ⟨c, hcn, rfl, hfc, hec, hmin⟩
  · refine Or.inl ⟨hnone, ?_⟩
    rw [f_P_maximise_2, if_neg hk', bo_s x1, bo_s f1, if_neg (by decide)]
  · obtain ⟨v, v1, v2⟩ := pr_gain (m := m) h hr ha x2 hg hcn
    have hmin2 : ∀ j, j < n → fz j = false → s.2.2.2.1 j < s.2.2.2.1 c → ¬ elig lo hi s.2.2.2.2 (gm R s aim) s.2.2.2.1 j := fun j hj hf hlt he => by have := hmin j hj hf he; omega
    have hne : ¬ noEl R n lo hi fz aim s := fun q => q c hcn hfc hec
    by_cases hp : 0 < gm R s aim c
    · obtain ⟨S', t, a1, a2, a3, a4, a5⟩ := pr_advance (m := m) (up := 1) (d := 1) h hr hb hm hl ⟨hcn, hfc, hec, hmin2, Or.inl ⟨hp, rfl⟩⟩ (Or.inl ⟨rfl, rfl⟩)
      refine Or.inr ⟨S', t, ?_, a2, a3, a4, a5, hne⟩
      rw [f_P_maximise_2, if_neg hk', bo_s x1, bo_s f1, if_pos (nI_pos' (by omega)), bo_s v1, if_neg (fun q => by rw [q6_le, v2, q6_0] at q; grind)]
      unfold f_P_maximise_51
      rw [bo_s a1, nI_1]
    · have hlt : gm R s aim c < 0 := by
        unfold elig at hec
        rcases hec with q | q
        · exact absurd q.1 hp
        · exact q.1
      obtain ⟨S', t, a1, a2, a3, a4, a5⟩ := pr_advance (m := m) (up := 0) (d := -1) h hr hb hm hl ⟨hcn, hfc, hec, hmin2, Or.inr ⟨hlt, rfl⟩⟩ (Or.inr ⟨rfl, rfl⟩)
      refine Or.inr ⟨S', t, ?_, a2, a3, a4, a5, hne⟩
      rw [f_P_maximise_2, if_neg hk', bo_s x1, bo_s f1, if_pos (nI_pos' (by omega)), bo_s v1, if_pos (by rw [q6_le, v2, q6_0]; grind)]
      unfold f_P_maximise_51
      rw [bo_s a1, nI_1]
/-- N rounds: the end among them, or a run of N moves -/
theorem pr_rounds (h : PI (R + 3) n isG pl gr sg pw lo hi s) (hr : PRep S R n s lo hi fz) (hb : bnds lo hi) (hm : 8 < m) {aim : Nat} (ha : aim < 16) (hl : live (R + 3) n s aim) (hg : aim ≠ 16 ∧ aim ≠ 17 ∧ aim ≠ 18) (q : Nat) : ∀ N, N ≤ 1000000 → ∃ (K : Nat) (st : Nat → tab) (S' : z_S), K ≤ N ∧ st 0 = s ∧ (∀ t, t < K → Move (R + 3) n lo hi fz aim (st t) (st (t + 1)) ∧ ¬ noEl R n lo hi fz aim (st t)) ∧ PI (R + 3) n isG pl gr sg pw lo hi (st K) ∧ PRep S' R n (st K) lo hi fz ∧ PFrame S S' ∧ ((noEl R n lo hi fz aim (st K) ∧ f_P_maximise_2 m (q + N) (nI aim) 0 S = f_P_maximise_60 m (nI aim) S') ∨ (K = N ∧ f_P_maximise_2 m (q + N) (nI aim) 0 S = f_P_maximise_2 m q (nI aim) (nI N) S')) := by
  intro N
  induction N generalizing q with
  | zero => intro _; exact ⟨0, fun _ => s, S, Nat.le_refl _, rfl, fun t ht => by omega, h, hr, PFrame_rf S, Or.inr ⟨rfl, rfl⟩⟩
  | succ N ih =>
    intro hN
    obtain ⟨K, st, S', k1, k2, k3, k4, k5, k6, k7⟩ := ih (q + 1) (by omega)
    rw [show q + 1 + N = q + (N + 1) by omega] at k7
    rcases k7 with ⟨k7, k8⟩ | ⟨rfl, k8⟩
    · exact ⟨K, st, S', by omega, k2, k3, k4, k5, k6, Or.inl ⟨k7, k8⟩⟩
    · have hgK : ∀ i, R ≤ i → i < R + 3 → (st K).2.2.1 i ≠ aim := by
        obtain ⟨-, -, e16, e17, e18, -, -⟩ := k4.1
        intro i i1 i2
        rcases (show i = R + 3 - 3 ∨ i = R + 3 - 2 ∨ i = R + 3 - 1 by omega) with e | e | e <;> rw [e] <;> omega
      have hlK : live (R + 3) n (st K) aim := by
        have : ∀ t, t ≤ K → (live (R + 3) n (st t) aim ↔ live (R + 3) n (st 0) aim) := by
          intro t
          induction t with
          | zero => intro _; exact Iff.rfl
          | succ t ih2 => intro ht; rw [live_move (k3 t (by omega)).1]; exact ih2 (by omega)
        rw [this K (Nat.le_refl _), k2]
        exact hl
      rcases pr_round (m := m) k4 k5 hb hm ha hlK hgK (show K < 1000000 by omega) q with ⟨j1, j2⟩ | ⟨S2, t, j1, j2, j3, j4, j5, j6⟩
      · exact ⟨K, st, S', by omega, k2, k3, k4, k5, k6, Or.inl ⟨j1, k8.trans j2⟩⟩
      · refine ⟨K + 1, fun i => if i ≤ K then st i else t, S2, Nat.le_refl _, ?_, fun i hi => ?_, ?_, ?_, PFrame_tr k6 j5, Or.inr ⟨rfl, k8.trans j1⟩⟩
        · simp only [if_pos (Nat.zero_le K)]; exact k2
        · by_cases ei : i < K
          · simp only [if_pos (show i ≤ K by omega), if_pos (show i + 1 ≤ K by omega)]; exact k3 i ei
          · have : i = K := by omega
            subst this
            simp only [if_pos (Nat.le_refl i), if_neg (show ¬ i + 1 ≤ i by omega)]
            exact ⟨j2, j6⟩
        · simp only [if_neg (show ¬ K + 1 ≤ K by omega)]; exact j3
        · simp only [if_neg (show ¬ K + 1 ≤ K by omega)]; exact j4
/-- maximise is a stage -/
theorem pr_maximise (h : PI (R + 3) n isG pl gr sg pw lo hi s) (hr : PRep S R n s lo hi fz) (hb : bnds lo hi) (hm : 1000000 < m) {aim : Nat} (ha : aim < 16) (hl : live (R + 3) n s aim) {a0 : Rat}
    (hgr : ∀ k, k < 6 → isG (gr (9 + k)) → gr (9 + k) = 9 + k) (hgu : ∀ u k, u < 15 → k < 6 → gr u = 9 + k → u = 9 + k) (hst : ∀ u, live (R + 3) n s u → ¬ (n ≤ u ∧ u < 8))
    (hA : ∀ t : tab, PI (R + 3) n isG pl gr sg pw lo hi t → (∀ j, j < n → fz j = true → t.2.2.2.1 j = s.2.2.2.1 j ∧ t.2.2.2.2 (s.2.2.2.1 j) = s.2.2.2.2 (s.2.2.2.1 j)) → ¬ noEl R n lo hi fz aim t → colb n t.2.2.2.1 8 = true → t.2.2.2.2 8 = a0) :
    ∃ S' t fz', f_P_maximise m (nI aim) S = some ((), S') ∧ PI (R + 3) n isG pl gr sg pw lo hi t ∧ PRep S' R n t lo hi fz' ∧ Stage (R + 3) n (NetV isG pl gr sg pw) lo hi aim fz s fz' t ∧ PFrame S S' := by
  have hg18 : aim ≠ 16 ∧ aim ≠ 17 ∧ aim ≠ 18 := ⟨by omega, by omega, by omega⟩
  obtain ⟨K, st, T, k1, k2, k3, k4, k5, k6, k7⟩ := pr_rounds (m := m) h hr hb (by omega) ha hl hg18 (m - 716034) 716034 (by omega)
  rw [show m - 716034 + 716034 = m by omega] at k7
  have hmv : ∀ t, t < K → Move (R + 3) n lo hi fz aim (st t) (st (t + 1)) := fun t ht => (k3 t ht).1
  have hPI : ∀ t, t ≤ K → PI (R + 3) n isG pl gr sg pw lo hi (st t) := by
    intro t
    induction t with
    | zero => intro _; rw [k2]; exact h
    | succ t ih => intro ht; exact PI_move (ih (by omega)) (hmv t (by omega))
  have hfr : ∀ t, t ≤ K → ∀ j, j < n → fz j = true → (st t).2.2.2.1 j = s.2.2.2.1 j ∧ (st t).2.2.2.2 (s.2.2.2.1 j) = s.2.2.2.2 (s.2.2.2.1 j) := by
    intro t ht j hj hf
    have := run_frozen (st := st) (N := K) (fun t ht => (hPI t ht).1.1) hmv hj hf t ht
    rw [k2] at this
    exact this
  -- the loop does not run out
  have hend : noEl R n lo hi fz aim (st K) ∧ f_P_maximise_2 m m (nI aim) 0 S = f_P_maximise_60 m (nI aim) T := by
    rcases k7 with k7 | ⟨rfl, -⟩
    · exact k7
    · exfalso
      have hbd := moves_bound (N := 716033) (st := st) (a0 := a0) hr.1.2.1 (by rw [k2]; exact h.2.2.1) (hPI 0 (by omega)).1.1 (fun t ht => hmv t (by omega)) (by rw [k2]; exact hst) (fun t ht => PI_lines (hPI t (by omega)) hgr hgu) (fun t ht hc8 => hA (st t) (hPI t (by omega)) (hfr t (by omega)) (k3 t (by omega)).2 hc8)
      omega
  obtain ⟨hno, hfin⟩ := hend
  have hlK : live (R + 3) n (st K) aim := by
    have : ∀ t, t ≤ K → (live (R + 3) n (st t) aim ↔ live (R + 3) n (st 0) aim) := by
      intro t
      induction t with
      | zero => intro _; exact Iff.rfl
      | succ t ih2 => intro ht; rw [live_move (hmv t (by omega))]; exact ih2 (by omega)
    rw [this K (Nat.le_refl _), k2]
    exact hl
  have hgK : ∀ i, R ≤ i → i < R + 3 → (st K).2.2.1 i ≠ aim := by
    obtain ⟨-, -, e16, e17, e18, -, -⟩ := k4.1
    intro i i1 i2
    rcases (show i = R + 3 - 3 ∨ i = R + 3 - 2 ∨ i = R + 3 - 1 by omega) with e | e | e <;> rw [e] <;> omega
  obtain ⟨x, x1, x2⟩ := pr_arow (m := m) k5 (by omega) ha
  obtain ⟨S', f', s1, s2, s3, s4⟩ := pr_freeze (m := m) (fz := fz) k4 ha x2 hgK m 0 T fz (by omega) (by have := hr.1.2.1; omega) k5 (fun k hk => by simp)
  refine ⟨S', st K, f', ?_, k4, s2, ?_, PFrame_tr k6 s4⟩
  · show f_P_maximise_2 m m (nI aim) 0 S = _
    rw [hfin]
    unfold f_P_maximise_60
    rw [bo_s x1]
    exact s1
  · have hs := stage_of_run (st := st) (N := K) (fz := fz) (fz' := f') (aim := aim) (γ := gm R (st K) aim) (by rw [k2]; exact h.2.2.1) (hPI 0 (by omega)).1.1 hmv (gm_Gain k4 hlK) hno (fun j hj => by
      rw [s3 j hj]
      simp only [Bool.or_eq_true, Bool.not_eq_true', beq_eq_false_iff_ne])
    rw [k2] at hs
    exact hs
end MX
