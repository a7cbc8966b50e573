/-! pivot: the cells of the next table, with no rest in any division -/
def sameJ (S S' : z_S) : Prop := gF S' = gF S ∧ gG S' = gG S ∧ gI S' = gI S ∧ ∀ t, t < 8 → gJ S' t = gJ S t
theorem sameJ_rf (S : z_S) : sameJ S S := ⟨rfl, rfl, rfl, fun _ _ => rfl⟩
theorem sameJ_tr {S T U : z_S} (h : sameJ S T) (h' : sameJ T U) : sameJ S U := ⟨h'.1.trans h.1, h'.2.1.trans h.2.1, h'.2.2.1.trans h.2.2.1, fun t ht => (h'.2.2.2 t ht).trans (h.2.2.2 t ht)⟩
theorem sameJ_put (S : z_S) (k : Nat) (f : Nat → Int64) (hk : 8 ≤ k) : sameJ S (sJ S k f) := ⟨rfl, rfl, rfl, fun t ht => by simp only [gs, if_neg (show ¬ t = k by omega)]⟩
theorem gFf (S : z_S) (k : Nat) (v : Nat → Int64) : gF (sJ S k v) = gF S ∧ gG (sJ S k v) = gG S ∧ gI (sJ S k v) = gI S := ⟨rfl, rfl, rfl⟩
section PIV
variable {R n m r c : Nat} {b g : Rat} {C : Nat → Nat → Rat}
theorem pv_rep_39 {i : Nat} (hn : n ≤ 8) (hcn : c < n) (hi8 : i < 8) (hr8 : r < 8) (hir : i ≠ r) (hb0 : b ≠ 0) {x4 x6 x8 : Int64} (e4 : q6 x4 = C r c) (e6 : q6 x6 = g) (e8 : q6 x8 = C i c) (hg : g = 1 ∨ g = -1) (hz1 : ∀ k, k < n → isZ (C i k) 607500000) (hz2 : ∀ k, k < n → isZ (C r k) 20250) (hzm : isZ (C r c) 20250) (hzf : isZ (C i c) 607500000) (hzp : ∀ k, k < n → isZ (pvC g b C r c i k) 607500000) : ∀ q j (S : z_S), j ≤ n → n - j < q → gF S 4 = nI n → q6 (gG S 1) = b → (∀ k, k < n → q6 (gJ S (8 + i) k) = if k < j then pvC g b C r c i k else C i k) → (∀ k, k < n → q6 (gJ S (8 + r) k) = C r k) → ∃ S', f_P_replaceRow_39 m q (nI i) (nI r) (nI c) x4 x6 x8 (nI j) S = some ((), S') ∧ (∀ k, k < n → q6 (gJ S' (8 + i) k) = pvC g b C r c i k) ∧ (∀ t, t ≠ 8 + i → gJ S' t = gJ S t) ∧ sameJ S S' := by
  intro q
  induction q with
  | zero => intro j S _ h; omega
  | succ q ih =>
    intro j S hj hq h4 hb1 hrow hpr
    by_cases e : j = n
    · subst e
      refine ⟨S, ?_, fun k hk => by rw [hrow k hk, if_pos hk], fun _ _ => rfl, sameJ_rf S⟩
      rw [f_P_replaceRow_39, if_pos (by rw [h4]; exact nI_le (Nat.le_refl _) (by omega))]
    · have hjn : j < n := by omega
      have hvi : vi (nI i) 8 = true := vi_n (by omega) (by omega)
      have hvj : vi (nI j) 8 = true := vi_n (by omega) (by omega)
      have hvr : vi (nI r) 8 = true := vi_n (by omega) (by omega)
      have hci : (nI i).toNatClampNeg = i := cl_n (by omega)
      have hcj : (nI j).toNatClampNeg = j := cl_n (by omega)
      have hcr : (nI r).toNatClampNeg = r := cl_n (by omega)
      have hnz : ¬ gG S 1 = 0 := fun h => hb0 (by rw [← hb1, h]; rfl)
      -- the new cell
      have st : ∃ x : Int64, q6 x = pvC g b C r c i j ∧ f_P_replaceRow_39 m (q + 1) (nI i) (nI r) (nI c) x4 x6 x8 (nI j) S = f_P_replaceRow_39 m q (nI i) (nI r) (nI c) x4 x6 x8 (nI (j + 1)) (sJ S (8 + i) (vp_updL (gJ S (8 + i)) j x)) := by
        by_cases ec : j = c
        · refine ⟨x6 * x8, ?_, ?_⟩
          · unfold pvC
            rw [if_neg hir, if_pos ec, q6_mul (K := 607500000) (by rw [e6, e8]; exact isZ_pm hg hzf) (by omega), e6, e8]
          · rw [f_P_replaceRow_39, if_neg (by rw [h4]; exact nI_ge hjn (by omega)), if_pos (by rw [ec]), ck_t hvi, ck_t hvj, hci, hcj]
            unfold f_P_replaceRow_122
            rw [nI_1]
        · refine ⟨(x6 * (gJ S (8 + i) j * x4 - x8 * gJ S (8 + r) j)) / gG S 1, ?_, ?_⟩
          · have a1 : q6 (gJ S (8 + i) j) = C i j := by rw [hrow j hjn, if_neg (by omega)]
            have a2 := hpr j hjn
            have z1 : isZ (q6 (gJ S (8 + i) j) * q6 x4) (607500000 * 20250) := by rw [a1, e4]; exact isZ_mul (hz1 j hjn) hzm
            have z2 : isZ (q6 x8 * q6 (gJ S (8 + r) j)) (607500000 * 20250) := by rw [a2, e8]; exact isZ_mul hzf (hz2 j hjn)
            have m1 : q6 (gJ S (8 + i) j * x4) = C i j * C r c := by rw [q6_mul z1 (by omega), a1, e4]
            have m2 : q6 (x8 * gJ S (8 + r) j) = C i c * C r j := by rw [q6_mul z2 (by omega), a2, e8]
            have z3 : isZ (C i j * C r c - C i c * C r j) (607500000 * 20250 + 607500000 * 20250) := isZ_sub (isZ_mul (hz1 j hjn) hzm) (isZ_mul hzf (hz2 j hjn))
            have m3 : q6 (gJ S (8 + i) j * x4 - x8 * gJ S (8 + r) j) = C i j * C r c - C i c * C r j := by rw [q6_sub (by rw [m1, m2]; exact z3) (by omega), m1, m2]
            have m4 : q6 (x6 * (gJ S (8 + i) j * x4 - x8 * gJ S (8 + r) j)) = g * (C i j * C r c - C i c * C r j) := by rw [q6_mul (by rw [m3, e6]; exact isZ_pm hg z3) (by omega), m3, e6]
            refine q6_div (by rw [hb1]; exact hb0) ?_ (hzp j hjn) (by omega)
            rw [m4, hb1]
            unfold pvC
            rw [if_neg hir, if_neg ec]
            grind
          · rw [f_P_replaceRow_39, if_neg (by rw [h4]; exact nI_ge hjn (by omega)), if_neg (fun h => ec ((nI_eq (by omega) (by omega)).mp h)), if_neg hnz, ck_t hvi, ck_t hvi, ck_t hvj, ck_t hvr, ck_t hvj, ck_t (by unfold vn; simp [hnz]), ck_t hvj, hci, hcj, hcr]
            unfold f_P_replaceRow_122
            rw [nI_1]
      obtain ⟨x, ex, est⟩ := st
      obtain ⟨S', s1, s2, s3, s4⟩ := ih (j + 1) (sJ S (8 + i) (vp_updL (gJ S (8 + i)) j x)) (by omega) (by omega) (by simp only [gs]; exact h4) (by simp only [gs]; exact hb1) (fun k hk => by
        simp only [gs, reduceIte, updL_at]
        by_cases ek : k = j
        · subst ek; rw [if_pos rfl, if_pos (by omega)]; exact ex
        · rw [if_neg ek, hrow k hk]
          by_cases hkj : k < j
          · rw [if_pos hkj, if_pos (by omega)]
          · rw [if_neg hkj, if_neg (by omega)]) (fun k hk => by simp only [gs, if_neg (show ¬ 8 + r = 8 + i by omega)]; exact hpr k hk)
      refine ⟨S', est.trans s1, s2, fun t ht => ?_, sameJ_tr (sameJ_put S _ _ (by omega)) s4⟩
      rw [s3 t ht]
      simp only [gs, if_neg ht]
theorem pv_rep {i : Nat} {S : z_S} (hm : 8 < m) (hn : n ≤ 8) (hc : c < n) (hi8 : i < 8) (hr8 : r < 8) (hir : i ≠ r) (hb0 : b ≠ 0) (hz1 : ∀ k, k < n → isZ (C i k) 607500000) (hz2 : ∀ k, k < n → isZ (C r k) 20250) (hzp : ∀ k, k < n → isZ (pvC (sgn (C r c)) b C r c i k) 607500000) (h4 : gF S 4 = nI n) (hb1 : q6 (gG S 1) = b) (hrow : ∀ k, k < n → q6 (gJ S (8 + i) k) = C i k) (hpr : ∀ k, k < n → q6 (gJ S (8 + r) k) = C r k) : ∃ S', f_P_replaceRow m (nI i) (nI r) (nI c) S = some ((), S') ∧ (∀ k, k < n → q6 (gJ S' (8 + i) k) = pvC (sgn (C r c)) b C r c i k) ∧ (∀ t, t ≠ 8 + i → gJ S' t = gJ S t) ∧ sameJ S S' := by
  have hvi : vi (nI i) 8 = true := vi_n (by omega) (by omega)
  have hvc : vi (nI c) 8 = true := vi_n (by omega) (by omega)
  have hvr : vi (nI r) 8 = true := vi_n (by omega) (by omega)
  have hci : (nI i).toNatClampNeg = i := cl_n (by omega)
  have hcc : (nI c).toNatClampNeg = c := cl_n (by omega)
  have hcr : (nI r).toNatClampNeg = r := cl_n (by omega)
  have hsg : sgn (C r c) = 1 ∨ sgn (C r c) = -1 := by unfold sgn; by_cases q : 0 < C r c <;> simp [q]
  have main : ∀ x6 : Int64, q6 x6 = sgn (C r c) → ∃ S', f_P_replaceRow_24 m (nI i) (nI r) (nI c) (gJ S (8 + r) c) x6 S = some ((), S') ∧ (∀ k, k < n → q6 (gJ S' (8 + i) k) = pvC (sgn (C r c)) b C r c i k) ∧ (∀ t, t ≠ 8 + i → gJ S' t = gJ S t) ∧ sameJ S S' := by
    intro x6 e6
    unfold f_P_replaceRow_24 f_P_replaceRow_36
    rw [ck_t hvi, ck_t hvc, hci, hcc]
    exact pv_rep_39 (m := m) hn hc hi8 hr8 hir hb0 (hpr c hc) e6 (hrow c hc) hsg hz1 hz2 (hz2 c hc) (hz1 c hc) hzp m 0 S (by omega) (by omega) h4 hb1 (fun k hk => by rw [if_neg (by omega)]; exact hrow k hk) hpr
  unfold f_P_replaceRow f_P_replaceRow_10
  rw [ck_t hvr, ck_t hvc, hcr, hcc]
  by_cases hp : 0 < C r c
  · rw [if_neg (fun q => by rw [q6_le, hpr c hc, q6_0] at q; grind)]
    exact main 1 (by rw [q6_1]; unfold sgn; rw [if_pos hp])
  · rw [if_pos (by rw [q6_le, hpr c hc, q6_0]; grind)]
    exact main (-1) (by rw [q6_m1]; unfold sgn; rw [if_neg hp])
theorem pv_43 (hm : 8 < m) (hR : R ≤ 8) (hn : n ≤ 8) (hc : c < n) (hr : r < R) (hb0 : b ≠ 0) {x3 x5 : Int64} (hz1 : ∀ i k, i < R → k < n → isZ (C i k) 607500000) (hz2 : ∀ k, k < n → isZ (C r k) 20250) (hzp : ∀ i k, i < R → i ≠ r → k < n → isZ (pvC (sgn (C r c)) b C r c i k) 607500000) : ∀ q i (S : z_S), i ≤ R → R - i < q → gF S 3 = nI R → gF S 4 = nI n → q6 (gG S 1) = b → (∀ t k, t < R → k < n → q6 (gJ S (8 + t) k) = if t < i ∧ t ≠ r then pvC (sgn (C r c)) b C r c t k else C t k) → ∃ S', f_P_pivot_43 m q (nI r) (nI c) x3 x5 (nI i) S = f_P_pivot_75 m m (nI r) (nI c) x3 x5 0 S' ∧ (∀ t k, t < R → k < n → q6 (gJ S' (8 + t) k) = if t ≠ r then pvC (sgn (C r c)) b C r c t k else C t k) ∧ sameJ S S' := by
  intro q
  induction q with
  | zero => intro i S _ h; omega
  | succ q ih =>
    intro i S hi hq h3 h4 hb1 hrow
    by_cases e : i = R
    · subst e
      refine ⟨S, ?_, fun t k ht hk => ?_, sameJ_rf S⟩
      · rw [f_P_pivot_43, if_pos (by rw [h3]; exact nI_le (Nat.le_refl _) (by omega))]
      · rw [hrow t k ht hk]
        by_cases et : t = r
        · rw [if_neg (fun q => q.2 et), if_neg (fun q => q et)]
        · rw [if_pos ⟨ht, et⟩, if_pos et]
    · have hiR : i < R := by omega
      by_cases er : i = r
      · obtain ⟨S', s1, s2, s3⟩ := ih (i + 1) S (by omega) (by omega) h3 h4 hb1 (fun t k ht hk => by
          rw [hrow t k ht hk]
          by_cases et : t < i ∧ t ≠ r
          · rw [if_pos et, if_pos ⟨by omega, et.2⟩]
          · rw [if_neg et, if_neg (fun q => et ⟨by omega, q.2⟩)])
        refine ⟨S', ?_, s2, s3⟩
        rw [f_P_pivot_43, if_neg (by rw [h3]; exact nI_ge hiR (by omega)), if_pos (by rw [er])]
        unfold f_P_pivot_66
        rw [nI_1]
        exact s1
      · obtain ⟨T, t1, t2, t3, t4⟩ := pv_rep (m := m) (S := S) (i := i) hm hn hc (by omega) (by omega) er hb0 (fun k hk => hz1 i k hiR hk) hz2 (fun k hk => hzp i k hiR er hk) h4 hb1 (fun k hk => by rw [hrow i k hiR hk, if_neg (fun q => by omega)]) (fun k hk => by rw [hrow r k hr hk, if_neg (fun q => q.2 rfl)])
        obtain ⟨S', s1, s2, s3⟩ := ih (i + 1) T (by omega) (by omega) (by rw [t4.1]; exact h3) (by rw [t4.1]; exact h4) (by rw [t4.2.1]; exact hb1) (fun t k ht hk => by
          by_cases et : t = i
          · rw [et, t2 k hk, if_pos ⟨by omega, er⟩]
          · rw [t3 (8 + t) (by omega), hrow t k ht hk]
            by_cases e2 : t < i ∧ t ≠ r
            · rw [if_pos e2, if_pos ⟨by omega, e2.2⟩]
            · rw [if_neg e2, if_neg (fun q => e2 ⟨by omega, q.2⟩)])
        refine ⟨S', ?_, s2, sameJ_tr t4 s3⟩
        rw [f_P_pivot_43, if_neg (by rw [h3]; exact nI_ge hiR (by omega)), if_neg (fun h => er ((nI_eq (by omega) (by omega)).mp h)), bo_s t1]
        unfold f_P_pivot_66
        rw [nI_1]
        exact s1
theorem pv_75 (hR : R ≤ 8) (hn : n ≤ 8) (hc : c < n) (hr : r < R) {x3 x5 : Int64} (e5 : q6 x5 = g) (hg : g = 1 ∨ g = -1) (hzb : isZ b 20250) (hz2 : ∀ k, k < n → isZ (C r k) 20250) : ∀ q j (S : z_S), j ≤ n → n - j < q → gF S 4 = nI n → q6 (gG S 1) = b → (∀ k, k < n → q6 (gJ S (8 + r) k) = if k < j then pvC g b C r c r k else C r k) → ∃ S', f_P_pivot_75 m q (nI r) (nI c) x3 x5 (nI j) S = some ((), sI (sI (sG S' 1 (x5 * x3)) 13 (upd (gI S 13) r (gI S 14 c))) 14 (upd (gI S 14) c (gI S 13 r))) ∧ (∀ k, k < n → q6 (gJ S' (8 + r) k) = pvC g b C r c r k) ∧ (∀ t, t ≠ 8 + r → gJ S' t = gJ S t) ∧ sameJ S S' := by
  intro q
  induction q with
  | zero => intro j S _ h; omega
  | succ q ih =>
    intro j S hj hq h4 hb1 hrow
    have hvc : vi (nI c) 8 = true := vi_n (by omega) (by omega)
    have hvr : vi (nI r) 8 = true := vi_n (by omega) (by omega)
    have hcc : (nI c).toNatClampNeg = c := cl_n (by omega)
    have hcr : (nI r).toNatClampNeg = r := cl_n (by omega)
    by_cases e : j = n
    · subst e
      refine ⟨S, ?_, fun k hk => by rw [hrow k hk, if_pos hk], fun _ _ => rfl, sameJ_rf S⟩
      rw [f_P_pivot_75, if_pos (by rw [h4]; exact nI_le (Nat.le_refl _) (by omega)), ck_t hvr, ck_t hvc, ck_t hvr, ck_t hvc, hcc, hcr]
      unfold f_P_pivot_164
      simp only [gs, Nat.reduceEqDiff, reduceIte]
    · have hjn : j < n := by omega
      have hvj : vi (nI j) 8 = true := vi_n (by omega) (by omega)
      have hcj : (nI j).toNatClampNeg = j := cl_n (by omega)
      have st : ∃ x : Int64, q6 x = pvC g b C r c r j ∧ f_P_pivot_75 m (q + 1) (nI r) (nI c) x3 x5 (nI j) S = f_P_pivot_75 m q (nI r) (nI c) x3 x5 (nI (j + 1)) (sJ S (8 + r) (vp_updL (gJ S (8 + r)) j x)) := by
        by_cases ec : j = c
        · refine ⟨x5 * gG S 1, ?_, ?_⟩
          · unfold pvC
            rw [if_pos rfl, if_pos ec, q6_mul (K := 20250) (by rw [e5, hb1]; exact isZ_pm hg hzb) (by omega), e5, hb1]
          · rw [f_P_pivot_75, if_neg (by rw [h4]; exact nI_ge hjn (by omega)), ck_t hvr, if_pos (by rw [ec])]
            unfold f_P_pivot_121
            rw [ck_t hvj, hcj, hcr, nI_1]
        · refine ⟨(-x5) * gJ S (8 + r) j, ?_, ?_⟩
          · have a1 : q6 (gJ S (8 + r) j) = C r j := by rw [hrow j hjn, if_neg (by omega)]
            have z5 : isZ (q6 x5) 1 := by rw [e5]; rcases hg with rfl | rfl; exact ⟨1, rfl, by decide, by decide⟩; exact ⟨-1, rfl, by decide, by decide⟩
            have a2 : q6 (-x5) = -g := by rw [q6_neg z5 (by omega), e5]
            unfold pvC
            rw [if_pos rfl, if_neg ec, q6_mul (K := 20250) (by rw [a2, a1]; exact isZ_pm (by rcases hg with rfl | rfl; right; rfl; left; grind) (hz2 j hjn)) (by omega), a2, a1]
          · rw [f_P_pivot_75, if_neg (by rw [h4]; exact nI_ge hjn (by omega)), ck_t hvr, if_neg (fun h => ec ((nI_eq (by omega) (by omega)).mp h)), ck_t hvr, ck_t hvj, hcj, hcr]
            unfold f_P_pivot_121
            rw [ck_t hvj, hcj, hcr, nI_1]
      obtain ⟨x, ex, est⟩ := st
      obtain ⟨S', s1, s2, s3, s4⟩ := ih (j + 1) (sJ S (8 + r) (vp_updL (gJ S (8 + r)) j x)) (by omega) (by omega) (by simp only [gs]; exact h4) (by simp only [gs]; exact hb1) (fun k hk => by
        simp only [gs, reduceIte, updL_at]
        by_cases ek : k = j
        · subst ek; rw [if_pos rfl, if_pos (by omega)]; exact ex
        · rw [if_neg ek, hrow k hk]
          by_cases hkj : k < j
          · rw [if_pos hkj, if_pos (by omega)]
          · rw [if_neg hkj, if_neg (by omega)])
      refine ⟨S', est.trans ?_, s2, fun t ht => ?_, sameJ_tr (sameJ_put S _ _ (by omega)) s4⟩
      · rw [s1]; simp only [gs]
      · rw [s3 t ht]
        simp only [gs, if_neg ht]
end PIV
