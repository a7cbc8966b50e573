/-! the reference's order: arrange -/
def bfb (B : Bk) (p q : Nat) : Bool := decide (B.2.2.2.1 q < B.2.2.2.1 p ∨ (B.2.2.2.1 p = B.2.2.2.1 q ∧ ((B.2.2.1 p = 1 ∧ B.2.2.1 q = -1) ∨ (B.2.2.1 p = 1 ∧ B.2.2.1 q = 1 ∧ p < q) ∨ (B.2.2.1 p = -1 ∧ B.2.2.1 q = -1 ∧ q < p))))
theorem bfb_iff {B : Bk} {p q : Nat} : bfb B p q = true ↔ bef B p q := decide_eq_true_iff
theorem cnt_lt {p p' : Nat → Bool} : ∀ m, (∀ i, i < m → p i = true → p' i = true) → (cnt m p ≤ cnt m p') ∧ ((∃ i, i < m ∧ p i = false ∧ p' i = true) → cnt m p < cnt m p') := by
  intro m
  induction m with
  | zero => intro _; exact ⟨Nat.le_refl _, fun ⟨i, hi, _⟩ => by omega⟩
  | succ m ih =>
    intro h
    obtain ⟨h1, h2⟩ := ih (fun i hi => h i (by omega))
    have hm := h m (by omega)
    unfold cnt
    refine ⟨?_, fun ⟨i, hi, a, b⟩ => ?_⟩
    · cases q : p m
      · cases q' : p' m <;> simp only [Bool.false_eq_true, if_false, if_true] <;> omega
      · rw [hm q]; simp only [if_true]; omega
    · by_cases e : i = m
      · subst e
        rw [a, b]
        simp only [Bool.false_eq_true, if_false, if_true]
        omega
      · have := h2 ⟨i, by omega, a, b⟩
        cases q : p m
        · cases q' : p' m <;> simp only [Bool.false_eq_true, if_false, if_true] <;> omega
        · rw [hm q]; simp only [if_true]; omega
theorem cnt_all : ∀ m, cnt m (fun _ => true) = m := by
  intro m
  induction m with
  | zero => rfl
  | succ m ih => unfold cnt; rw [ih]; simp
def rank (B : Bk) (k : Nat) : Nat := cnt B.1 (fun q => bfb B q k)
theorem inj_surj {n : Nat} {f : Nat → Nat} (h1 : ∀ i, i < n → f i < n) (h2 : ∀ i j, i < n → j < n → f i = f j → i = j) {t : Nat} (ht : t < n) : ∃ i, i < n ∧ f i = t := by
  by_cases q : ∃ i, i < n ∧ f i = t
  · exact q
  · exfalso
    refine pigeon n (fun i => if i = n then t else f i) (fun i hi => ?_) (fun i j hij hj => ?_)
    · show (if i = n then t else f i) < n
      by_cases e : i = n
      · rw [if_pos e]; exact ht
      · rw [if_neg e]; exact h1 i (by omega)
    · show (if i = n then t else f i) ≠ (if j = n then t else f j)
      rw [if_neg (by omega)]
      by_cases e : j = n
      · rw [if_pos e]; exact fun e2 => q ⟨i, by omega, e2⟩
      · rw [if_neg e]; exact fun e2 => by have := h2 i j (by omega) (by omega) e2; omega
section ARR
variable {B : Bk} {m : Nat}
theorem bef_trans {p q s : Nat} (h1 : bef B p q) (h2 : bef B q s) : bef B p s := by
  unfold bef at *
  rcases h1 with h1 | ⟨e1, h1⟩
  · rcases h2 with h2 | ⟨e2, h2⟩
    · exact Or.inl (by grind)
    · exact Or.inl (by grind)
  · rcases h2 with h2 | ⟨e2, h2⟩
    · exact Or.inl (by grind)
    · refine Or.inr ⟨by grind, ?_⟩
      rcases h1 with ⟨a, b⟩ | ⟨a, b, c⟩ | ⟨a, b, c⟩ <;> rcases h2 with ⟨a', b'⟩ | ⟨a', b', c'⟩ | ⟨a', b', c'⟩
      · exact Or.inl ⟨a, b'⟩
      · rw [b] at a'; exact absurd a' (by decide)
      · exact Or.inl ⟨a, b'⟩
      · exact Or.inl ⟨a, b'⟩
      · exact Or.inr (Or.inl ⟨a, b', by omega⟩)
      · rw [b] at a'; exact absurd a' (by decide)
      · rw [b] at a'; exact absurd a' (by decide)
      · rw [b] at a'; exact absurd a' (by decide)
      · exact Or.inr (Or.inr ⟨a, b', by omega⟩)
theorem bef_total (hB : bkOk B) {p q : Nat} (hp : p < B.1) (hq : q < B.1) (h : p ≠ q) : bef B p q ∨ bef B q p := by
  have h1 := (hB.2 p hp).2.1
  have h2 := (hB.2 q hq).2.1
  unfold bef
  by_cases a : B.2.2.2.1 q < B.2.2.2.1 p
  · exact Or.inl (Or.inl a)
  · by_cases b : B.2.2.2.1 p < B.2.2.2.1 q
    · exact Or.inr (Or.inl b)
    · have e : B.2.2.2.1 p = B.2.2.2.1 q := by grind
      rcases h1 with h1 | h1 <;> rcases h2 with h2 | h2
      · rcases Nat.lt_or_gt_of_ne h with c | c
        · exact Or.inl (Or.inr ⟨e, Or.inr (Or.inl ⟨h1, h2, c⟩)⟩)
        · exact Or.inr (Or.inr ⟨e.symm, Or.inr (Or.inl ⟨h2, h1, c⟩)⟩)
      · exact Or.inl (Or.inr ⟨e, Or.inl ⟨h1, h2⟩⟩)
      · exact Or.inr (Or.inr ⟨e.symm, Or.inl ⟨h2, h1⟩⟩)
      · rcases Nat.lt_or_gt_of_ne h with c | c
        · exact Or.inr (Or.inr ⟨e.symm, Or.inr (Or.inr ⟨h2, h1, c⟩)⟩)
        · exact Or.inl (Or.inr ⟨e, Or.inr (Or.inr ⟨h1, h2, c⟩)⟩)
theorem rank_lt {p q : Nat} (hp : p < B.1) (h : bef B p q) : rank B p < rank B q := (cnt_lt B.1 (fun i _ hi => bfb_iff.mpr (bef_trans (bfb_iff.mp hi) h))).2 ⟨p, hp, by cases e : bfb B p p; rfl; exact (bef_irr (bfb_iff.mp e)).elim, bfb_iff.mpr h⟩
theorem rank_s {k : Nat} (hk : k < B.1) : rank B k < B.1 := by
  have := (cnt_lt (p := fun q => bfb B q k) (p' := fun _ => true) B.1 (fun _ _ _ => rfl)).2 ⟨k, hk, by cases e : bfb B k k; rfl; exact (bef_irr (bfb_iff.mp e)).elim, rfl⟩
  rw [cnt_all] at this
  exact this
theorem rank_inj (hB : bkOk B) {p q : Nat} (hp : p < B.1) (hq : q < B.1) (h : rank B p = rank B q) : p = q := by
  by_cases e : p = q
  · exact e
  · rcases bef_total hB hp hq e with a | a
    · have := rank_lt hp a; omega
    · have := rank_lt hq a; omega
def mB (M : z_S) (B : Bk) : Prop := gF M 1 = nI B.1 ∧ ∀ j, j < B.1 → ((gI M 4 j = 1 ∧ B.2.2.1 j = 1) ∨ (gI M 4 j = 0 ∧ B.2.2.1 j = -1)) ∧ gI M 5 j = nI (B.2.1 j) ∧ q3 (gI M 6 j) = B.2.2.2.1 j ∧ q3 (gI M 7 j) = B.2.2.2.2 j
theorem pm_before (hB : bkOk B) {M : z_S} (hM : mB M B) {p q : Nat} (hp : p < B.1) (hq : q < B.1) (hne : p ≠ q) : f_M_before m (nI p) (nI q) M = some ((if bfb B p q = true then 1 else 0), M) := by
  have h88 := hB.1
  obtain ⟨a1, a2, a3, a4⟩ := hM.2 p hp
  obtain ⟨b1, b2, b3, b4⟩ := hM.2 q hq
  have vp : vi (nI p) 8 = true := vi_n (by omega) (by omega)
  have vq : vi (nI q) 8 = true := vi_n (by omega) (by omega)
  have cp : (nI p).toNatClampNeg = p := cl_n (by omega)
  have cq : (nI q).toNatClampNeg = q := cl_n (by omega)
  have hle : nI p ≤ nI q ↔ p ≤ q := nI_leI (by omega) (by omega)
  have hle' : nI q ≤ nI p ↔ q ≤ p := nI_leI (by omega) (by omega)
  have n11 : ¬ ((1 : Rat) = -1) := by decide
  have n12 : ¬ ((-1 : Rat) = 1) := by decide
  unfold f_M_before f_M_before_35 f_M_before_90
  simp only [ck_t vp, ck_t vq, cp, cq, ck_t vz_0, ck_t vz_1]
  have res : ∀ {b : Prop}, (bef B p q ↔ b) → ((b → (if bfb B p q = true then (1 : Int32) else 0) = 1) ∧ (¬ b → (if bfb B p q = true then (1 : Int32) else 0) = 0)) := fun {b} hb => ⟨fun q1 => if_pos (bfb_iff.mpr (hb.mpr q1)), fun q1 => if_neg (fun e => q1 (hb.mp (bfb_iff.mp e)))⟩
  by_cases e : gI M 6 p = gI M 6 q
  · rw [if_pos e]
    have e' : B.2.2.2.1 p = B.2.2.2.1 q := by rw [← a3, ← b3, e]
    have nlt : ¬ B.2.2.2.1 q < B.2.2.2.1 q := by grind
    rcases a1 with ⟨x1, x2⟩ | ⟨x1, x2⟩ <;> rcases b1 with ⟨y1, y2⟩ | ⟨y1, y2⟩
    · rw [x1, y1, if_pos rfl, if_neg (by decide)]
      have hr := res (b := p < q) (by unfold bef; rw [x2, y2]; simp only [e', nlt, n11, n12, false_or, and_self, or_true, true_or, true_and, and_false, false_and, or_false])
      by_cases c : p < q
      · rw [if_neg (by rw [hle']; omega), hr.1 c]
      · rw [if_pos (by rw [hle']; omega), hr.2 c]
    · rw [x1, y1, if_neg (by decide), ck_t vz_1]
      have hr := res (b := True) (by unfold bef; rw [x2, y2]; simp only [e', nlt, n11, n12, false_or, and_self, or_true, true_or, true_and, and_false, false_and, or_false])
      rw [hr.1 trivial]
    · rw [x1, y1, if_neg (by decide), ck_t vz_0]
      have hr := res (b := False) (by unfold bef; rw [x2, y2]; simp only [e', nlt, n11, n12, false_or, and_self, or_true, true_or, true_and, and_false, false_and, or_false])
      rw [hr.2 id]
    · rw [x1, y1, if_pos rfl, if_pos rfl]
      have hr := res (b := q < p) (by unfold bef; rw [x2, y2]; simp only [e', nlt, n11, n12, false_or, and_self, or_true, true_or, true_and, and_false, false_and, or_false])
      by_cases c : q < p
      · rw [if_neg (by rw [hle]; omega), hr.1 c]
      · rw [if_pos (by rw [hle]; omega), hr.2 c]
  · rw [if_neg e]
    have e' : ¬ B.2.2.2.1 p = B.2.2.2.1 q := fun e2 => e (q3_inj.mp (by rw [a3, b3, e2]))
    have hr := res (b := B.2.2.2.1 q < B.2.2.2.1 p) (by unfold bef; simp only [e', false_and, or_false])
    by_cases c : B.2.2.2.1 q < B.2.2.2.1 p
    · rw [if_neg (by rw [q3_le, a3, b3]; grind), hr.1 c]
    · rw [if_pos (by rw [q3_le, a3, b3]; grind), hr.2 c]
theorem pm_rank (hB : bkOk B) {k2 : Int32 → z_S → Option (Unit × z_S)} {M : z_S} (hM : mB M B) {k : Nat} (hk : k < B.1) : ∀ q i, i ≤ B.1 → B.1 - i < q → f_M_arrange_14 m k2 q (nI k) (nI (cnt i (fun q => bfb B q k))) (nI i) M = k2 (nI (k + 1)) (sI M 8 (upd (gI M 8) (rank B k) (nI k))) := by
  have h88 := hB.1
  intro q
  induction q with
  | zero => intro i _ h; omega
  | succ q ih =>
    intro i hi hq
    by_cases e : i = B.1
    · have := rank_s (B := B) hk
      rw [f_M_arrange_14, if_pos (by rw [hM.1]; exact nI_le (by omega) (by omega)), e]
      show ck (vi (nI (rank B k)) 8) (k2 (nI k + 1) (sI M 8 (upd (gI M 8) (nI (rank B k)).toNatClampNeg (nI k)))) = _
      rw [ck_t (vi_n (by omega) (by omega)), cl_n (by omega), nI_1]
    · rw [f_M_arrange_14, if_neg (by rw [hM.1]; exact nI_ge (by omega) (by omega))]
      have h1 := ih (i + 1) (by omega) (by omega)
      unfold f_M_arrange_39
      by_cases e2 : i = k
      · rw [if_pos (by rw [e2]), nI_1, ← h1]
        have : cnt (i + 1) (fun q => bfb B q k) = cnt i (fun q => bfb B q k) := by
          have hf : bfb B i k = false := by rw [e2]; cases c : bfb B k k; rfl; exact (bef_irr (bfb_iff.mp c)).elim
          conv => lhs; unfold cnt
          rw [hf]; simp
        rw [this]
      · have hne : ¬ nI i = nI k := fun e3 => e2 (by
          have := congrArg Int32.toNatClampNeg e3
          rw [cl_n (by omega), cl_n (by omega)] at this
          exact this)
        rw [if_neg hne, bo_s (pm_before hB hM (by omega) hk e2), nI_1, ← h1]
        conv => rhs; unfold cnt
        cases c : bfb B i k
        · simp only [Bool.false_eq_true, if_false, if_true, Nat.add_zero]
        · simp only [if_true, i32_1ne, if_false, nI_1]
def A8 (M M' : z_S) : Prop := gF M' = gF M ∧ gG M' = gG M ∧ gJ M' = gJ M ∧ ∀ t, t ≠ 8 → gI M' t = gI M t
theorem A8_tr {M M' M'' : z_S} (h : A8 M M') (h' : A8 M' M'') : A8 M M'' := ⟨h'.1.trans h.1, h'.2.1.trans h.2.1, h'.2.2.1.trans h.2.2.1, fun t ht => (h'.2.2.2 t ht).trans (h.2.2.2 t ht)⟩
theorem mB_8 {M M' : z_S} (h : A8 M M') (hM : mB M B) : mB M' B := ⟨by rw [h.1]; exact hM.1, by rw [h.2.2.2 4 (by omega), h.2.2.2 5 (by omega), h.2.2.2 6 (by omega), h.2.2.2 7 (by omega)]; exact hM.2⟩
theorem pm_arr_loop (hB : bkOk B) (hm : 9 < m) : ∀ q k (M : z_S), k ≤ B.1 → B.1 - k < q → mB M B → (∀ i, i < k → gI M 8 (rank B i) = nI i) → ∃ M', f_M_arrange_2 m q (nI k) M = some ((), M') ∧ A8 M M' ∧ (∀ i, i < B.1 → gI M' 8 (rank B i) = nI i) := by
  have h88 := hB.1
  intro q
  induction q with
  | zero => intro k M _ h; omega
  | succ q ih =>
    intro k M hk hq hM hT
    by_cases e : k = B.1
    · refine ⟨M, ?_, ⟨rfl, rfl, rfl, fun _ _ => rfl⟩, fun i hi => hT i (by omega)⟩
      rw [f_M_arrange_2, if_pos (by rw [hM.1]; exact nI_le (by omega) (by omega))]
    · have hA : A8 M (sI M 8 (upd (gI M 8) (rank B k) (nI k))) := ⟨rfl, rfl, rfl, fun t ht => by simp only [gs, if_neg ht]⟩
      obtain ⟨M', h1, h2, h3⟩ := ih (k + 1) _ (by omega) (by omega) (mB_8 hA hM) (fun i hi => by
        rw [sI_up]
        by_cases e2 : i = k
        · rw [if_pos ⟨rfl, by rw [e2]⟩, e2]
        · rw [if_neg (fun h => e2 (rank_inj hB (by omega) (by omega) h.2))]
          exact hT i (by omega))
      refine ⟨M', ?_, A8_tr hA h2, h3⟩
      rw [f_M_arrange_2, if_neg (by rw [hM.1]; exact nI_ge (by omega) (by omega)), ← h1]
      exact pm_rank (m := m) hB hM (show k < B.1 by omega) m 0 (by omega) (by omega)
theorem pm_arrange (hB : bkOk B) (hm : 9 < m) {M : z_S} (hM : mB M B) : ∃ M' tu, f_M_arrange m M = some ((), M') ∧ A8 M M' ∧ isTurn B tu ∧ (∀ t, t < B.1 → gI M' 8 t = nI (tu t)) := by
  have h88 := hB.1
  obtain ⟨M', h1, h2, h3⟩ := pm_arr_loop (m := m) hB hm m 0 M (by omega) (by omega) hM (fun i hi => by omega)
  have hs : ∀ t, t < B.1 → ∃ i, i < B.1 ∧ rank B i = t := fun t ht => inj_surj (fun i hi => rank_s hi) (fun i j hi hj e => rank_inj hB hi hj e) ht
  have ht : ∀ i, i < B.1 → (gI M' 8 (rank B i)).toNatClampNeg = i := fun i hi => by rw [h3 i hi, cl_n (by omega)]
  refine ⟨M', fun t => (gI M' 8 t).toNatClampNeg, h1, h2, ⟨fun t h => ?_, fun t t' hlt h => ?_, fun k hk => ⟨rank B k, rank_s hk, ht k hk⟩⟩, fun t h => ?_⟩
  · obtain ⟨i, hi, e⟩ := hs t h
    show (gI M' 8 t).toNatClampNeg < B.1
    rw [← e, ht i hi]; exact hi
  · obtain ⟨i, hi, e⟩ := hs t (by omega)
    obtain ⟨j, hj, e'⟩ := hs t' h
    show bef B (gI M' 8 t).toNatClampNeg (gI M' 8 t').toNatClampNeg
    rw [← e, ← e', ht i hi, ht j hj]
    rcases bef_total hB hi hj (fun e3 => by rw [e3] at e; omega) with a | a
    · exact a
    · have := rank_lt hj a; omega
  · obtain ⟨i, hi, e⟩ := hs t h
    show gI M' 8 t = nI (gI M' 8 t).toNatClampNeg
    rw [← e, ht i hi, h3 i hi]
end ARR
