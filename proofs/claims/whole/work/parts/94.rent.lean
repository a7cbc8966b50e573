/-! prices that are asked about; rent answers alike -/
def inP (a : Int32) : Prop := ¬ a < -2000 ∧ ¬ 2000 < a
def pA (a0 a1 a2 a3 : Int32) (v : Nat) : Int32 := if v = 0 then a0 else if v = 1 then a1 else if v = 2 then a2 else a3
theorem inP_Z {a : Int32} (h : inP a) : isZ (q3 a) 2000 := by
  obtain ⟨h1, h2⟩ := h
  rw [Int32.lt_iff_toInt_lt] at h1 h2
  have e1 : (-2000 : Int32).toInt = -2000 := by decide
  have e2 : (2000 : Int32).toInt = 2000 := by decide
  rw [e1] at h1
  rw [e2] at h2
  exact ⟨a.toInt, rfl, by omega, by omega⟩
theorem inP4 {a0 a1 a2 a3 : Int32} (c0 : inP a0) (c1 : inP a1) (c2 : inP a2) (c3 : inP a3) : ∀ v, v < 4 → inP (pA a0 a1 a2 a3 v) := by
  intro v hv
  rcases lt4 hv with e | e | e | e <;> subst e
  · exact c0
  · exact c1
  · exact c2
  · exact c3
def AF (S S' : z_S) : Prop := gF S' = gF S ∧ gG S' = gG S ∧ gJ S' = gJ S ∧ ∀ t, t ≠ 0 → gI S' t = gI S t
theorem tp_loop {m : Nat} {S : z_S} : ∀ q k, k ≤ 4 → 4 - k < q → (∀ v, v < k → inP (gI S 0 v)) → ((∀ v, v < 4 → inP (gI S 0 v)) ∧ f_N_takePrices_32 m q (nI k) S = some (1, S)) ∨ (¬ (∀ v, v < 4 → inP (gI S 0 v)) ∧ f_N_takePrices_32 m q (nI k) S = some (0, S)) := by
  intro q
  induction q with
  | zero => intro k _ h; omega
  | succ q ih =>
    intro k hk hq hp
    by_cases e : k = 4
    · subst e
      exact Or.inl ⟨hp, by rw [f_N_takePrices_32, if_pos (k4le (by omega) (by omega))]⟩
    · rw [f_N_takePrices_32, if_neg (k4ge (show k < 4 by omega)), ck_t (vi_n (by omega) (by omega)), cl_n (by omega)]
      by_cases c : inP (gI S 0 k)
      · rw [bo_s (pN_in c), if_neg (by decide), nI_1]
        exact ih (k + 1) (by omega) (by omega) (fun v hv => by
          rcases Nat.lt_or_ge v k with h | h
          · exact hp v h
          · rw [show v = k by omega]; exact c)
      · refine Or.inr ⟨fun h => c (h k (by omega)), ?_⟩
        rw [bo_s (pN_out c), if_pos rfl]
def pw0 (S : z_S) (k : Nat) (x : Int32) : z_S := sI S 0 (upd (gI S 0) k x)
theorem pw0_at (S : z_S) (k : Nat) (x : Int32) : gI (pw0 S k x) 0 = upd (gI S 0) k x := by unfold pw0; simp only [gs, reduceIte]
theorem pw0_ne (S : z_S) (k : Nat) (x : Int32) {t : Nat} (h : t ≠ 0) : gI (pw0 S k x) t = gI S t := by unfold pw0; simp only [gs, if_neg h]
theorem tp_take {m : Nat} (hm : 4 < m) (a0 a1 a2 a3 : Int32) (S : z_S) : ∃ S', AF S S' ∧ (∀ v, v < 4 → gI S' 0 v = pA a0 a1 a2 a3 v) ∧ (((∀ v, v < 4 → inP (pA a0 a1 a2 a3 v)) ∧ f_N_takePrices m a0 a1 a2 a3 S = some (1, S')) ∨ (¬ (∀ v, v < 4 → inP (pA a0 a1 a2 a3 v)) ∧ f_N_takePrices m a0 a1 a2 a3 S = some (0, S'))) := by
  obtain ⟨S', hS⟩ : ∃ S', S' = pw0 (pw0 (pw0 (pw0 S 0 a0) 1 a1) 2 a2) 3 a3 := ⟨_, rfl⟩
  have hA : AF S S' := by
    rw [hS]
    exact ⟨rfl, rfl, rfl, fun t ht => by rw [pw0_ne _ _ _ ht, pw0_ne _ _ _ ht, pw0_ne _ _ _ ht, pw0_ne _ _ _ ht]⟩
  have hv : ∀ v, v < 4 → gI S' 0 v = pA a0 a1 a2 a3 v := by
    intro v hv
    rw [hS, pw0_at, pw0_at, pw0_at, pw0_at]
    rcases lt4 hv with e | e | e | e <;> subst e <;> rfl
  have hf : f_N_takePrices m a0 a1 a2 a3 S = f_N_takePrices_32 m m (nI 0) S' := by
    have c0 : (0 : Int32).toNatClampNeg = 0 := by decide
    have c1 : (1 : Int32).toNatClampNeg = 1 := by decide
    have c2 : (2 : Int32).toNatClampNeg = 2 := by decide
    have c3 : (3 : Int32).toNatClampNeg = 3 := by decide
    unfold f_N_takePrices f_N_takePrices_14 f_N_takePrices_29
    rw [c0, c1, c2, c3, hS]
    rfl
  have hi : (∀ v, v < 4 → inP (gI S' 0 v)) ↔ (∀ v, v < 4 → inP (pA a0 a1 a2 a3 v)) := ⟨fun h v h4 => by rw [← hv v h4]; exact h v h4, fun h v h4 => by rw [hv v h4]; exact h v h4⟩
  refine ⟨S', hA, hv, ?_⟩
  rw [hf, ← hi]
  exact tp_loop m 0 (by omega) (by omega) (fun v h => by omega)
section RENT
variable {B : Bk} {m : Nat} {S M : z_S} {X p : Nat → Rat} {a0 a1 a2 a3 : Int32}
theorem pm_bad (h4 : gF M 4 = 1) : ((∀ v, v < 4 → inP (pA a0 a1 a2 a3 v)) ∧ f_M_bad m a0 a1 a2 a3 M = some (0, M)) ∨ (¬ (∀ v, v < 4 → inP (pA a0 a1 a2 a3 v)) ∧ f_M_bad m a0 a1 a2 a3 M = some (1, M)) := by
  unfold f_M_bad f_M_bad_60 f_M_bad_65
  rw [if_neg (n01 h4)]
  by_cases c0 : inP a0
  · rw [bo_s (pM_in c0), if_neg (by decide)]
    by_cases c1 : inP a1
    · rw [bo_s (pM_in c1), if_neg (by decide)]
      by_cases c2 : inP a2
      · rw [bo_s (pM_in c2), if_neg (by decide)]
        by_cases c3 : inP a3
        · rw [bo_s (pM_in c3), if_neg (by decide), ck_t vz_0]
          exact Or.inl ⟨inP4 c0 c1 c2 c3, rfl⟩
        · rw [bo_s (pM_out c3), if_pos rfl, ck_t vz_1]
          exact Or.inr ⟨fun h => c3 (h 3 (by omega)), rfl⟩
      · rw [bo_s (pM_out c2), if_pos rfl, ck_t vz_1]
        exact Or.inr ⟨fun h => c2 (h 2 (by omega)), rfl⟩
    · rw [bo_s (pM_out c1), if_pos rfl, ck_t vz_1]
      exact Or.inr ⟨fun h => c1 (h 1 (by omega)), rfl⟩
  · rw [bo_s (pM_out c0), if_pos rfl, ck_t vz_1]
    exact Or.inr ⟨fun h => c0 (h 0 (by omega)), rfl⟩
theorem pm_price {v : Nat} (hv : v < 4) : f_M_priceOf m (nI v) a0 a1 a2 a3 M = some ((pA a0 a1 a2 a3 v).toInt64, M) := by
  unfold f_M_priceOf f_M_priceOf_32
  rcases lt4 hv with e | e | e | e <;> subst e
  · rw [if_pos (by decide)]; rfl
  · rw [if_neg (by decide), if_pos (by decide)]; rfl
  · rw [if_neg (by decide), if_neg (by decide), if_pos (by decide)]; rfl
  · rw [if_neg (by decide), if_neg (by decide), if_neg (by decide)]; rfl
def rt (B : Bk) (X p : Nat → Rat) (j : Nat) : Rat := B.2.2.1 j * X j * p (B.2.1 j)
theorem rt_Z (hB : bkOk B) (hx : ∀ j, j < B.1 → isZ (X j) 60750000) (hp : ∀ v, v < 4 → isZ (p v) 2000) {j : Nat} (hj : j < B.1) : isZ (rt B X p j) (60750000 * 2000) := by
  unfold rt
  rw [show B.2.2.1 j * X j * p (B.2.1 j) = B.2.2.1 j * (X j * p (B.2.1 j)) by grind]
  exact isZ_pm (hB.2 j hj).2.1 (isZ_mul (hx j hj) (hp _ (hB.2 j hj).1))
theorem rts_Z (hB : bkOk B) (hx : ∀ j, j < B.1 → isZ (X j) 60750000) (hp : ∀ v, v < 4 → isZ (p v) 2000) {k : Nat} (hk : k ≤ B.1) : isZ (sm k (rt B X p)) 972000000000 := by
  have := hB.1
  refine isZ_mono (isZ_sm (fun j hj => rt_Z hB hx hp (show j < B.1 by omega))) ?_
  have : k * (60750000 * 2000) ≤ 8 * (60750000 * 2000) := Nat.mul_le_mul_right _ (by omega)
  omega
theorem pi_worth_loop (hB : bkOk B) (hb : cB S 5 1 B) (hx : ∀ j, j < B.1 → q3 (gI S 19 j) = X j) (hxz : ∀ j, j < B.1 → isZ (X j) 60750000) (hp : ∀ v, v < 4 → q3 (gI S 0 v) = p v) (hpz : ∀ v, v < 4 → isZ (p v) 2000) : ∀ q k (acc : Int64), k ≤ B.1 → B.1 - k < q → q6 acc = sm k (rt B X p) → ∃ v, f_N_intakeWorth_4 m q acc (nI k) S = some (v, S) ∧ q6 v = sm B.1 (rt B X p) := by
  have h8 := hB.1
  intro q
  induction q with
  | zero => intro k acc _ h; omega
  | succ q ih =>
    intro k acc hk hq ha
    by_cases e : k = B.1
    · refine ⟨acc, ?_, by rw [ha, e]⟩
      rw [f_N_intakeWorth_4, if_pos (by rw [hb.1]; exact nI_le (by omega) (by omega))]
    · have hkc : k < B.1 := by omega
      obtain ⟨b1, b2, b3, b4⟩ := hb.2 k hkc
      have b2 : gI S 6 k = nI (B.2.1 k) := b2
      have hnd := (hB.2 k hkc).1
      have hsd := (hB.2 k hkc).2.1
      have hv : vi (nI k) 8 = true := vi_n (by omega) (by omega)
      have hck : (nI k).toNatClampNeg = k := cl_n (by omega)
      have z1 : isZ (B.2.2.1 k * X k) 60750000 := isZ_pm hsd (hxz k hkc)
      have e1 : q6 ((gI S 5 k).toInt64 * (gI S 19 k).toInt64) = B.2.2.1 k * X k := by rw [q6_mul (K := 60750000) (by rw [q6_i, q6_i, b1, hx k hkc]; exact z1) (by omega), q6_i, q6_i, b1, hx k hkc]
      have e2 : q6 ((gI S 5 k).toInt64 * (gI S 19 k).toInt64 * (gI S 0 (B.2.1 k)).toInt64) = rt B X p k := by
        rw [q6_mul (K := 60750000 * 2000) (by rw [e1, q6_i, hp _ hnd]; exact rt_Z hB hxz hpz hkc) (by omega), e1, q6_i, hp _ hnd]
        rfl
      have e3 : q6 (acc + (gI S 5 k).toInt64 * (gI S 19 k).toInt64 * (gI S 0 (B.2.1 k)).toInt64) = sm (k + 1) (rt B X p) := by
        rw [q6_add (K := 972000000000) (by rw [ha, e2]; exact rts_Z hB hxz hpz (k := k + 1) (by omega)) (by omega), ha, e2]
        rfl
      obtain ⟨v, v1, v2⟩ := ih (k + 1) _ (by omega) (by omega) e3
      refine ⟨v, ?_, v2⟩
      rw [f_N_intakeWorth_4, if_neg (by rw [hb.1]; exact nI_ge hkc (by omega)), ck_t hv, ck_t hv, ck_t hv, hck, b2, ck_t (vi_n hnd (by omega)), cl_n (by omega)]
      unfold f_N_intakeWorth_55
      rw [nI_1]
      exact v1
theorem pi_worth (hm : 8 < m) (hB : bkOk B) (hb : cB S 5 1 B) (hx : ∀ j, j < B.1 → q3 (gI S 19 j) = X j) (hxz : ∀ j, j < B.1 → isZ (X j) 60750000) (hp : ∀ v, v < 4 → q3 (gI S 0 v) = p v) (hpz : ∀ v, v < 4 → isZ (p v) 2000) : ∃ v, f_N_intakeWorth m S = some (v, S) ∧ q6 v = sm B.1 (rt B X p) := pi_worth_loop (m := m) hB hb hx hxz hp hpz m 0 0 (by omega) (by have := hB.1; omega) rfl
theorem pm_rent_loop (hB : bkOk B) (hb : mB M B) (hx : ∀ j, j < B.1 → q6 (gJ M 8 j) = X j) (hxz : ∀ j, j < B.1 → isZ (X j) 60750000) (hp : ∀ v, v < 4 → q3 (pA a0 a1 a2 a3 v) = p v) (hpz : ∀ v, v < 4 → isZ (p v) 2000) : ∀ q k (acc : Int64), k ≤ B.1 → B.1 - k < q → q6 acc = sm k (rt B X p) → ∃ v, f_M_rent_20 m q a0 a1 a2 a3 acc (nI k) M = some (v, M) ∧ q6 v = sm B.1 (rt B X p) := by
  have h8 := hB.1
  intro q
  induction q with
  | zero => intro k acc _ h; omega
  | succ q ih =>
    intro k acc hk hq ha
    by_cases e : k = B.1
    · refine ⟨acc, ?_, by rw [ha, e]⟩
      rw [f_M_rent_20, if_pos (by rw [hb.1]; exact nI_le (by omega) (by omega))]
    · have hkc : k < B.1 := by omega
      obtain ⟨b1, b2, b3, b4⟩ := hb.2 k hkc
      have hnd := (hB.2 k hkc).1
      have hv : vi (nI k) 8 = true := vi_n (by omega) (by omega)
      have hck : (nI k).toNatClampNeg = k := cl_n (by omega)
      have z1 : isZ (p (B.2.1 k) * X k) (2000 * 60750000) := isZ_mul (hpz _ hnd) (hxz k hkc)
      have e1 : q6 ((pA a0 a1 a2 a3 (B.2.1 k)).toInt64 * gJ M 8 k) = p (B.2.1 k) * X k := by rw [q6_mul (K := 2000 * 60750000) (by rw [q6_i, hp _ hnd, hx k hkc]; exact z1) (by omega), q6_i, hp _ hnd, hx k hkc]
      have zs := rts_Z hB hxz hpz (k := k + 1) (by omega)
      have hs1 : sm (k + 1) (rt B X p) = sm k (rt B X p) + rt B X p k := rfl
      rw [f_M_rent_20, if_neg (by rw [hb.1]; exact nI_ge hkc (by omega)), ck_t hv, hck, b2, bo_s (pm_price hnd), ck_t hv, ck_t hv]
      unfold f_M_rent_77
      rw [nI_1]
      rcases b1 with ⟨s1, s2⟩ | ⟨s1, s2⟩
      · rw [if_neg (n01 s1)]
        have hr : rt B X p k = p (B.2.1 k) * X k := by unfold rt; rw [s2]; grind
        exact ih (k + 1) _ (by omega) (by omega) (by rw [q6_add (K := 972000000000) (by rw [ha, e1, ← hr]; exact zs) (by omega), ha, e1, ← hr]; rfl)
      · rw [if_pos s1]
        have hr : rt B X p k = - (p (B.2.1 k) * X k) := by unfold rt; rw [s2]; grind
        have hq : sm k (rt B X p) - p (B.2.1 k) * X k = sm (k + 1) (rt B X p) := by rw [hs1, hr]; grind
        exact ih (k + 1) _ (by omega) (by omega) (by rw [q6_sub (K := 972000000000) (by rw [ha, e1, hq]; exact zs) (by omega), ha, e1, hq])
theorem pm_rent (hm : 8 < m) (hB : bkOk B) (h4 : gF M 4 = 1) (hb : mB M B) (hx : ∀ j, j < B.1 → q6 (gJ M 8 j) = X j) (hxz : ∀ j, j < B.1 → isZ (X j) 60750000) (hp : ∀ v, v < 4 → q3 (pA a0 a1 a2 a3 v) = p v) (hpi : ∀ v, v < 4 → inP (pA a0 a1 a2 a3 v)) (hpz : ∀ v, v < 4 → isZ (p v) 2000) : ∃ v, f_M_rent m a0 a1 a2 a3 M = some (v, M) ∧ q6 v = sm B.1 (rt B X p) := by
  obtain ⟨v, v1, v2⟩ := pm_rent_loop (m := m) hB hb hx hxz hp hpz m 0 0 (by omega) (by have := hB.1; omega) rfl
  refine ⟨v, ?_, v2⟩
  unfold f_M_rent
  rcases pm_bad (m := m) (M := M) (a0 := a0) (a1 := a1) (a2 := a2) (a3 := a3) h4 with ⟨-, q⟩ | ⟨q, -⟩
  · rw [bo_s q, if_pos rfl]
    exact v1
  · exact (q hpi).elim
end RENT
theorem zI_keep {S M S' M' : z_S} (h : zI Rz S M) (k1 : KS S S') (k5 : gF S' 5 = gF S 5) (k6 : gF S' 6 = gF S 6) (k2 : gG S' 2 = gG S 2) (k19 : gI S' 19 = gI S 19) (k20 : gI S' 20 = gI S 20) (j1 : KM M M') (j4 : gF M' 4 = gF M 4) (jg : ∀ k, 4 ≤ k → gG M' k = gG M k) (jj : ∀ t, 8 ≤ t → gJ M' t = gJ M t) (j10 : gI M' 10 = gI M 10) : zI Rz S' M' := by
  obtain ⟨⟨c, fa, fb, fs, fm, hL⟩, ⟨s, bd, nd, pr, qu, hT⟩, hF, hR⟩ := h
  refine ⟨⟨c, fa, fb, fs, fm, mkL_k k1 j1 hL⟩, ⟨s, bd, nd, pr, qu, mkT_k k1 j1 hT⟩, ⟨by rw [k5, j4]; exact hF.1, by rw [k5]; exact hF.2⟩, fun e => ?_⟩
  obtain ⟨N, B, U, x, h, hMK, hRS, hC⟩ := hR (by rw [← k5]; exact e)
  obtain ⟨r1, r2, r3, r5, r6, r7, r8, r9, r10, r11⟩ := hRS
  exact ⟨N, B, U, x, h, MK_k k1 j1 hMK, ⟨r1, r2, r3, by rw [k6]; exact r5, by rw [jg 4 (by omega)]; exact r6, by rw [k2]; exact r7, by rw [jg 5 (by omega)]; exact r8, r9, by rw [k19, jj 8 (by omega)]; exact r10, by rw [k20, jj 9 (by omega)]; exact r11⟩, by rw [j10, jj 10 (by omega), jj 11 (by omega)]; exact hC⟩
theorem AF_KS {S S' : z_S} (h : AF S S') : KS S S' := ⟨by rw [h.1], by rw [h.1], fun t a _ => h.2.2.2 t (by omega)⟩
theorem KM_rf (M : z_S) : KM M M := ⟨rfl, rfl, fun _ _ => rfl⟩
theorem zI_AF {S S' M : z_S} (h : zI Rz S M) (k : AF S S') : zI Rz S' M := zI_keep h (AF_KS k) (by rw [k.1]) (by rw [k.1]) (by rw [k.2.1]) (k.2.2.2 19 (by omega)) (k.2.2.2 20 (by omega)) (KM_rf M) rfl (fun _ _ => rfl) (fun _ _ => rfl) rfl
theorem cB_AF {S S' : z_S} {B : Bk} (k : AF S S') (h : cB S 5 1 B) : cB S' 5 1 B := ⟨by rw [k.1]; exact h.1, by rw [k.2.2.2 5 (by omega), k.2.2.2 (5 + 1) (by omega), k.2.2.2 (5 + 2) (by omega), k.2.2.2 (5 + 3) (by omega)]; exact h.2⟩
theorem zo_rent : z_op_rent (zI Rz) := by
  intro S M a0 a1 a2 a3 hI
  rcases mkF_01 hI.2.2.1 with ⟨e1, e2⟩ | ⟨e1, e2⟩
  · refine ⟨0, 0, S, M, ?_, ?_, hI⟩
    · unfold f_N_rent f_N_rent_22
      rw [if_pos e1]
    · unfold f_M_rent f_M_bad f_M_bad_60 f_M_bad_65
      rw [if_pos e2, ck_t vz_1, bo_s rfl, if_neg (by decide)]
  · obtain ⟨S', k, hv, ht⟩ := tp_take (m := 10) (by omega) a0 a1 a2 a3 S
    rcases ht with ⟨hp, ht⟩ | ⟨hp, ht⟩
    · obtain ⟨N, B, U, x, h, hMK, hRS, hC⟩ := hI.2.2.2 e1
      have r10 := hRS.2.2.2.2.2.2.2.2.1
      have hpz : ∀ v, v < 4 → isZ (q3 (pA a0 a1 a2 a3 v)) 2000 := fun v h4 => inP_Z (hp v h4)
      obtain ⟨v, v1, v2⟩ := pi_worth (m := 10) (X := fun j => (U : Rat) * x j) (p := fun v => q3 (pA a0 a1 a2 a3 v)) (by omega) hMK.2.1 (cB_AF k hMK.2.2.2.2.1) (fun j hj => by rw [k.2.2.2 19 (by omega)]; exact (r10 j hj).1) (fun j hj => (r10 j hj).2.2) (fun v h4 => by rw [hv v h4]) hpz
      obtain ⟨w, w1, w2⟩ := pm_rent (m := 10) (X := fun j => (U : Rat) * x j) (p := fun v => q3 (pA a0 a1 a2 a3 v)) (by omega) hMK.2.1 e2 hMK.2.2.2.2.2 (fun j hj => (r10 j hj).2.1) (fun j hj => (r10 j hj).2.2) (fun _ _ => rfl) hp hpz
      have hwv : w = v := q6_inj.mp (by rw [w2, v2])
      refine ⟨10, v, S', M, ?_, by rw [w1, hwv], zI_AF hI k⟩
      unfold f_N_rent
      rw [if_neg (n01 e1), bo_s ht, if_neg (by decide), bo_s v1]
    · refine ⟨10, 0, S', M, ?_, ?_, zI_AF hI k⟩
      · unfold f_N_rent f_N_rent_22
        rw [if_neg (n01 e1), bo_s ht, if_pos rfl]
      · rcases pm_bad (m := 10) (M := M) (a0 := a0) (a1 := a1) (a2 := a2) (a3 := a3) e2 with ⟨q, -⟩ | ⟨-, q⟩
        · exact (hp q).elim
        · unfold f_M_rent
          rw [bo_s q, if_neg (by decide)]
