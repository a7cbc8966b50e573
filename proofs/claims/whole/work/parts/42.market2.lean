/-! taking away: the shifting loops of both systems; limit, cut, bid, offer, cancel, steps, lines -/
theorem nar01 {x : Int32} (h : x = 0 ∨ x = 1) : vp_nar .boolean x = x := by
  rcases h with h | h <;> subst h <;> rfl
theorem shf_step {f : Nat → Int32} {i C j : Nat} (hi : i + 1 < C) : (if i + 1 ≤ j ∧ j + 1 < C then upd f i (f (i + 1)) (j + 1) else upd f i (f (i + 1)) j) = if i ≤ j ∧ j + 1 < C then f (j + 1) else f j := by
  by_cases h3 : j = i
  · subst h3; rw [if_neg (by omega), upd_at, if_pos rfl, if_pos (by omega)]
  · by_cases h1 : i + 1 ≤ j ∧ j + 1 < C
    · rw [if_pos h1, upd_at, if_neg (by omega), if_pos (by omega)]
    · rw [if_neg h1, upd_at, if_neg h3, if_neg (by omega)]
/-- what the shift of four rows leaves -/
def shf (S S' : z_S) (a b c d : Nat) (k lo hi : Nat) : Prop := (∀ r, r = a ∨ r = b ∨ r = c ∨ r = d → ∀ j, gI S' r j = if lo ≤ j ∧ j + 1 < hi then gI S r (j + 1) else gI S r j) ∧ (∀ r, r ≠ a → r ≠ b → r ≠ c → r ≠ d → gI S' r = gI S r) ∧ (∀ r, r ≠ k → gF S' r = gF S r) ∧ gG S' = gG S ∧ gJ S' = gJ S
theorem pG_rem {n C : Nat} (hC : C ≤ 6) : ∀ q i (S : z_S), i < C → C - i < q → gF S 0 = nI C → ∃ S1, f_G_remove_2 n q (nI i) S = some ((), S1) ∧ gF S1 0 = nI (C - 1) ∧ shf S S1 1 2 3 4 0 i C := by
  intro q
  induction q with
  | zero => intro i S _ h; omega
  | succ q ih =>
    intro i S hi hq h0
    by_cases e : i + 1 = C
    · refine ⟨sF S 0 (nI (C - 1)), ?_, by simp only [gs, reduceIte], ⟨fun r hr j => ?_, fun r _ _ _ _ => by simp only [gs], fun r hr => by simp only [gs, if_neg hr], rfl, rfl⟩⟩
      · rw [f_G_remove_2, if_pos (by rw [h0, nI_1]; exact nI_le (by omega) (by omega)), h0]
        obtain ⟨C', rfl⟩ : ∃ C', C = C' + 1 := ⟨C - 1, by omega⟩
        rw [nI_pred]
        rfl
      · simp only [gs]
        rw [if_neg (by omega)]
    · have hv : vi (nI i) 6 = true := vi_n (by omega) (by omega)
      have hv1 : vi (nI (i + 1)) 6 = true := vi_n (by omega) (by omega)
      have hcl : (nI i).toNatClampNeg = i := cl_n (by omega)
      have hcl1 : (nI (i + 1)).toNatClampNeg = i + 1 := cl_n (by omega)
      have est : f_G_remove_2 n (q + 1) (nI i) S = f_G_remove_2 n q (nI (i + 1)) (sI (sI (sI (sI S 1 (upd (gI S 1) i (gI S 1 (i + 1)))) 2 (upd (gI S 2) i (gI S 2 (i + 1)))) 3 (upd (gI S 3) i (gI S 3 (i + 1)))) 4 (upd (gI S 4) i (gI S 4 (i + 1)))) := by
        rw [f_G_remove_2, if_neg (by rw [h0, nI_1]; exact nI_ge (a := i + 1) (b := C) (by omega) (by omega))]
        unfold f_G_remove_40 f_G_remove_68
        simp only [nI_1, hcl, hcl1, ck_t hv, ck_t hv1, gs, Nat.reduceEqDiff, reduceIte]
      obtain ⟨S1, e1, e2, e3, e4, e5, e6, e7⟩ := ih (i + 1) (sI (sI (sI (sI S 1 (upd (gI S 1) i (gI S 1 (i + 1)))) 2 (upd (gI S 2) i (gI S 2 (i + 1)))) 3 (upd (gI S 3) i (gI S 3 (i + 1)))) 4 (upd (gI S 4) i (gI S 4 (i + 1)))) (by omega) (by omega) (by simp only [gs]; exact h0)
      refine ⟨S1, est.trans e1, e2, ⟨fun r hr j => ?_, fun r r1 r2 r3 r4 => ?_, fun r hr => ?_, ?_, ?_⟩⟩
      · rw [e3 r hr j]
        rcases hr with hr | hr | hr | hr <;> subst hr <;> simp only [gs, Nat.reduceEqDiff, reduceIte] <;> exact shf_step (by omega)
      · rw [e4 r r1 r2 r3 r4]
        simp only [gs, if_neg r1, if_neg r2, if_neg r3, if_neg r4]
      · rw [e5 r hr]
        simp only [gs]
      · rw [e6]; rfl
      · rw [e7]
        rfl
theorem pB_rem {n C : Nat} (hC : C ≤ 8) : ∀ q i (S : z_S), i < C → C - i < q → gF S 1 = nI C → ∃ S1, f_B_remove_2 n q (nI i) S = some ((), S1) ∧ gF S1 1 = nI (C - 1) ∧ shf S S1 5 6 7 8 1 i C := by
  intro q
  induction q with
  | zero => intro i S _ h; omega
  | succ q ih =>
    intro i S hi hq h0
    by_cases e : i + 1 = C
    · refine ⟨sF S 1 (nI (C - 1)), ?_, by simp only [gs, reduceIte], ⟨fun r hr j => ?_, fun r _ _ _ _ => by simp only [gs], fun r hr => by simp only [gs, if_neg hr], rfl, rfl⟩⟩
      · rw [f_B_remove_2, if_pos (by rw [h0, nI_1]; exact nI_le (by omega) (by omega)), h0]
        obtain ⟨C', rfl⟩ : ∃ C', C = C' + 1 := ⟨C - 1, by omega⟩
        rw [nI_pred]
        rfl
      · simp only [gs]
        rw [if_neg (by omega)]
    · have hv : vi (nI i) 8 = true := vi_n (by omega) (by omega)
      have hv1 : vi (nI (i + 1)) 8 = true := vi_n (by omega) (by omega)
      have hcl : (nI i).toNatClampNeg = i := cl_n (by omega)
      have hcl1 : (nI (i + 1)).toNatClampNeg = i + 1 := cl_n (by omega)
      have est : f_B_remove_2 n (q + 1) (nI i) S = f_B_remove_2 n q (nI (i + 1)) (sI (sI (sI (sI S 5 (upd (gI S 5) i (gI S 5 (i + 1)))) 6 (upd (gI S 6) i (gI S 6 (i + 1)))) 7 (upd (gI S 7) i (gI S 7 (i + 1)))) 8 (upd (gI S 8) i (gI S 8 (i + 1)))) := by
        rw [f_B_remove_2, if_neg (by rw [h0, nI_1]; exact nI_ge (a := i + 1) (b := C) (by omega) (by omega))]
        unfold f_B_remove_40 f_B_remove_68
        simp only [nI_1, hcl, hcl1, ck_t hv, ck_t hv1, gs, Nat.reduceEqDiff, reduceIte]
      obtain ⟨S1, e1, e2, e3, e4, e5, e6, e7⟩ := ih (i + 1) (sI (sI (sI (sI S 5 (upd (gI S 5) i (gI S 5 (i + 1)))) 6 (upd (gI S 6) i (gI S 6 (i + 1)))) 7 (upd (gI S 7) i (gI S 7 (i + 1)))) 8 (upd (gI S 8) i (gI S 8 (i + 1)))) (by omega) (by omega) (by simp only [gs]; exact h0)
      refine ⟨S1, est.trans e1, e2, ⟨fun r hr j => ?_, fun r r1 r2 r3 r4 => ?_, fun r hr => ?_, ?_, ?_⟩⟩
      · rw [e3 r hr j]
        rcases hr with hr | hr | hr | hr <;> subst hr <;> simp only [gs, Nat.reduceEqDiff, reduceIte] <;> exact shf_step (by omega)
      · rw [e4 r r1 r2 r3 r4]
        simp only [gs, if_neg r1, if_neg r2, if_neg r3, if_neg r4]
      · rw [e5 r hr]
        simp only [gs]
      · rw [e6]; rfl
      · rw [e7]
        rfl
theorem pM_cutl {n C : Nat} (hC : C < 6) : ∀ q i (S : z_S), i ≤ C → C - i < q → gF S 0 = nI C → ∃ S1, f_M_cut_28 n q (nI i) S = some (1, S1) ∧ gF S1 4 = 0 ∧ shf S S1 0 1 2 3 4 i (C + 1) := by
  intro q
  induction q with
  | zero => intro i S _ h; omega
  | succ q ih =>
    intro i S hi hq h0
    by_cases e : i = C
    · refine ⟨sF S 4 0, ?_, by simp only [gs, reduceIte], ⟨fun r hr j => ?_, fun r _ _ _ _ => by simp only [gs], fun r hr => by simp only [gs, if_neg hr], rfl, rfl⟩⟩
      · rw [f_M_cut_28, if_pos (by rw [h0]; exact nI_le (by omega) (by omega))]
      · simp only [gs]
        rw [if_neg (by omega)]
    · have hv : vi (nI i) 6 = true := vi_n (by omega) (by omega)
      have hv1 : vi (nI (i + 1)) 6 = true := vi_n (by omega) (by omega)
      have hcl : (nI i).toNatClampNeg = i := cl_n (by omega)
      have hcl1 : (nI (i + 1)).toNatClampNeg = i + 1 := cl_n (by omega)
      have est : f_M_cut_28 n (q + 1) (nI i) S = f_M_cut_28 n q (nI (i + 1)) (sI (sI (sI (sI S 0 (upd (gI S 0) i (gI S 0 (i + 1)))) 1 (upd (gI S 1) i (gI S 1 (i + 1)))) 2 (upd (gI S 2) i (gI S 2 (i + 1)))) 3 (upd (gI S 3) i (gI S 3 (i + 1)))) := by
        rw [f_M_cut_28, if_neg (by rw [h0]; exact nI_ge (a := i) (b := C) (by omega) (by omega))]
        unfold f_M_cut_64 f_M_cut_92
        simp only [nI_1, hcl, hcl1, ck_t hv, ck_t hv1, gs, Nat.reduceEqDiff, reduceIte]
      obtain ⟨S1, e1, e2, e3, e4, e5, e6, e7⟩ := ih (i + 1) (sI (sI (sI (sI S 0 (upd (gI S 0) i (gI S 0 (i + 1)))) 1 (upd (gI S 1) i (gI S 1 (i + 1)))) 2 (upd (gI S 2) i (gI S 2 (i + 1)))) 3 (upd (gI S 3) i (gI S 3 (i + 1)))) (by omega) (by omega) (by simp only [gs]; exact h0)
      refine ⟨S1, est.trans e1, e2, ⟨fun r hr j => ?_, fun r r1 r2 r3 r4 => ?_, fun r hr => ?_, ?_, ?_⟩⟩
      · rw [e3 r hr j]
        rcases hr with hr | hr | hr | hr <;> subst hr <;> simp only [gs, Nat.reduceEqDiff, reduceIte] <;> exact shf_step (by omega)
      · rw [e4 r r1 r2 r3 r4]
        simp only [gs, if_neg r1, if_neg r2, if_neg r3, if_neg r4]
      · rw [e5 r hr]
        simp only [gs]
      · rw [e6]; rfl
      · rw [e7]
        rfl
theorem pM_canl {n C : Nat} (hC : C < 8) : ∀ q i (S : z_S), i ≤ C → C - i < q → gF S 1 = nI C → (∀ j, j < C + 1 → gI S 4 j = 0 ∨ gI S 4 j = 1) → ∃ S1, f_M_cancel_28 n q (nI i) S = some (1, S1) ∧ gF S1 4 = 0 ∧ shf S S1 4 5 6 7 4 i (C + 1) := by
  intro q
  induction q with
  | zero => intro i S _ h; omega
  | succ q ih =>
    intro i S hi hq h0 hz
    by_cases e : i = C
    · refine ⟨sF S 4 0, ?_, by simp only [gs, reduceIte], ⟨fun r hr j => ?_, fun r _ _ _ _ => by simp only [gs], fun r hr => by simp only [gs, if_neg hr], rfl, rfl⟩⟩
      · rw [f_M_cancel_28, if_pos (by rw [h0]; exact nI_le (by omega) (by omega))]
      · simp only [gs]
        rw [if_neg (by omega)]
    · have hv : vi (nI i) 8 = true := vi_n (by omega) (by omega)
      have hv1 : vi (nI (i + 1)) 8 = true := vi_n (by omega) (by omega)
      have hcl : (nI i).toNatClampNeg = i := cl_n (by omega)
      have hcl1 : (nI (i + 1)).toNatClampNeg = i + 1 := cl_n (by omega)
      have hn : vp_nar .boolean (gI S 4 (i + 1)) = gI S 4 (i + 1) := nar01 (hz (i + 1) (by omega))
      have est : f_M_cancel_28 n (q + 1) (nI i) S = f_M_cancel_28 n q (nI (i + 1)) (sI (sI (sI (sI S 4 (upd (gI S 4) i (gI S 4 (i + 1)))) 5 (upd (gI S 5) i (gI S 5 (i + 1)))) 6 (upd (gI S 6) i (gI S 6 (i + 1)))) 7 (upd (gI S 7) i (gI S 7 (i + 1)))) := by
        rw [f_M_cancel_28, if_neg (by rw [h0]; exact nI_ge (a := i) (b := C) (by omega) (by omega))]
        unfold f_M_cancel_64 f_M_cancel_92
        simp only [nI_1, hcl, hcl1, ck_t hv, ck_t hv1, gs, Nat.reduceEqDiff, reduceIte, hn]
      have hz2 : ∀ j, j < C + 1 → gI (sI (sI (sI (sI S 4 (upd (gI S 4) i (gI S 4 (i + 1)))) 5 (upd (gI S 5) i (gI S 5 (i + 1)))) 6 (upd (gI S 6) i (gI S 6 (i + 1)))) 7 (upd (gI S 7) i (gI S 7 (i + 1)))) 4 j = 0 ∨ gI (sI (sI (sI (sI S 4 (upd (gI S 4) i (gI S 4 (i + 1)))) 5 (upd (gI S 5) i (gI S 5 (i + 1)))) 6 (upd (gI S 6) i (gI S 6 (i + 1)))) 7 (upd (gI S 7) i (gI S 7 (i + 1)))) 4 j = 1 := by
        intro j hj
        simp only [gs, Nat.reduceEqDiff, reduceIte, upd_at]
        by_cases h5 : j = i
        · rw [if_pos h5]; exact hz _ (by omega)
        · rw [if_neg h5]; exact hz j hj
      obtain ⟨S1, e1, e2, e3, e4, e5, e6, e7⟩ := ih (i + 1) (sI (sI (sI (sI S 4 (upd (gI S 4) i (gI S 4 (i + 1)))) 5 (upd (gI S 5) i (gI S 5 (i + 1)))) 6 (upd (gI S 6) i (gI S 6 (i + 1)))) 7 (upd (gI S 7) i (gI S 7 (i + 1)))) (by omega) (by omega) (by simp only [gs]; exact h0) hz2
      refine ⟨S1, est.trans e1, e2, ⟨fun r hr j => ?_, fun r r1 r2 r3 r4 => ?_, fun r hr => ?_, ?_, ?_⟩⟩
      · rw [e3 r hr j]
        rcases hr with hr | hr | hr | hr <;> subst hr <;> simp only [gs, Nat.reduceEqDiff, reduceIte] <;> exact shf_step (by omega)
      · rw [e4 r r1 r2 r3 r4]
        simp only [gs, if_neg r1, if_neg r2, if_neg r3, if_neg r4]
      · rw [e5 r hr]
        simp only [gs]
      · rw [e6]; rfl
      · rw [e7]
        rfl
