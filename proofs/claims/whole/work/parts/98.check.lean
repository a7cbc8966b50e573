/-! check answers alike -/
def mg (B : Bk) (p : Nat → Rat) (j : Nat) : Rat := B.2.2.1 j * (B.2.2.2.1 j - p (B.2.1 j))
def lo5 (B : Bk) (X p : Nat → Rat) (j : Nat) : Prop := 0 < X j ∧ mg B p j < 0
def ga6 (B : Bk) (X p : Nat → Rat) (U : Nat) (j : Nat) : Prop := X j < B.2.2.2.2 j * (U : Rat) ∧ 0 < mg B p j
section CHECK
variable {B : Bk} {m U : Nat} {S M : z_S} {X p : Nat → Rat} {a0 a1 a2 a3 : Int32}
theorem mg_Z (hB : bkOk B) (hpz : ∀ v, v < 4 → isZ (p v) 2000) {j : Nat} (hj : j < B.1) : isZ (B.2.2.2.1 j - p (B.2.1 j)) 4000 ∧ isZ (mg B p j) 4000 := by
  have h := isZ_sub (hB.2 j hj).2.2.1 (hpz _ (hB.2 j hj).1)
  exact ⟨h, isZ_pm (hB.2 j hj).2.1 h⟩
theorem pn_margin (hB : bkOk B) (hb : cB S 5 1 B) (hp : ∀ v, v < 4 → q3 (gI S 0 v) = p v) (hpz : ∀ v, v < 4 → isZ (p v) 2000) {k : Nat} (hk : k < B.1) : ∃ v, f_N_margin m (nI k) S = some (v, S) ∧ q3 v = mg B p k := by
  have h8 := hB.1
  obtain ⟨b1, b2, b3, b4⟩ := hb.2 k hk
  have b2 : gI S 6 k = nI (B.2.1 k) := b2
  have b3 : q3 (gI S 7 k) = B.2.2.2.1 k := b3
  have hnd := (hB.2 k hk).1
  obtain ⟨z1, z2⟩ := mg_Z hB hpz hk
  have hv : vi (nI k) 8 = true := vi_n (by omega) (by omega)
  have hck : (nI k).toNatClampNeg = k := cl_n (by omega)
  have e1 : q3 (gI S 7 k - gI S 0 (B.2.1 k)) = B.2.2.2.1 k - p (B.2.1 k) := by rw [q3_sub (K := 4000) (by rw [b3, hp _ hnd]; exact z1) (by omega), b3, hp _ hnd]
  refine ⟨gI S 5 k * (gI S 7 k - gI S 0 (B.2.1 k)), ?_, ?_⟩
  · unfold f_N_margin
    rw [ck_t hv, ck_t hv, ck_t hv, hck, b2, ck_t (vi_n hnd (by omega)), cl_n (by omega)]
  · rw [q3_mul (K := 4000) (by rw [b1, e1]; exact z2) (by omega), b1, e1]
    rfl
theorem pn_lose (hB : bkOk B) (hb : cB S 5 1 B) (hx : ∀ j, j < B.1 → q3 (gI S 19 j) = X j) (hp : ∀ v, v < 4 → q3 (gI S 0 v) = p v) (hpz : ∀ v, v < 4 → isZ (p v) 2000) : ∀ q k, k ≤ B.1 → B.1 - k < q → (f_N_someStepLoses_2 m q (nI k) S = some (1, S) ∧ ∃ j, j < B.1 ∧ lo5 B X p j) ∨ (f_N_someStepLoses_2 m q (nI k) S = some (0, S) ∧ ∀ j, k ≤ j → j < B.1 → ¬ lo5 B X p j) := by
  have h8 := hB.1
  intro q
  induction q with
  | zero => intro k _ h; omega
  | succ q ih =>
    intro k hk hq
    by_cases e : k = B.1
    · refine Or.inr ⟨?_, fun j h1 h2 => by omega⟩
      rw [f_N_someStepLoses_2, if_pos (by rw [hb.1]; exact nI_le (by omega) (by omega))]
    · have hkc : k < B.1 := by omega
      have hv : vi (nI k) 8 = true := vi_n (by omega) (by omega)
      have hck : (nI k).toNatClampNeg = k := cl_n (by omega)
      obtain ⟨w, w1, w2⟩ := pn_margin (m := m) hB hb hp hpz hkc
      have go : ¬ lo5 B X p k → f_N_someStepLoses_2 m (q + 1) (nI k) S = f_N_someStepLoses_2 m q (nI (k + 1)) S → (f_N_someStepLoses_2 m (q + 1) (nI k) S = some (1, S) ∧ ∃ j, j < B.1 ∧ lo5 B X p j) ∨ (f_N_someStepLoses_2 m (q + 1) (nI k) S = some (0, S) ∧ ∀ j, k ≤ j → j < B.1 → ¬ lo5 B X p j) := by
        intro hno heq
        rw [heq]
        rcases ih (k + 1) (by omega) (by omega) with h | ⟨h1, h2⟩
        · exact Or.inl h
        · refine Or.inr ⟨h1, fun j g1 g2 => ?_⟩
          by_cases c : j = k
          · subst c; exact hno
          · exact h2 j (by omega) g2
      have hif : ¬ gF S 1 ≤ nI k := by rw [hb.1]; exact nI_ge hkc (by omega)
      by_cases c1 : gI S 19 k ≤ 0
      · refine go (fun hl => ?_) ?_
        · rw [q3_le, hx k hkc, q3_0] at c1
          have := hl.1
          grind
        · rw [f_N_someStepLoses_2, if_neg hif, ck_t hv, hck, if_pos c1]
          unfold f_N_someStepLoses_35
          rw [nI_1]
      · by_cases c2 : 0 ≤ w
        · refine go (fun hl => ?_) ?_
          · rw [q3_le, w2, q3_0] at c2
            have := hl.2
            grind
          · rw [f_N_someStepLoses_2, if_neg hif, ck_t hv, hck, if_neg c1, bo_s w1, if_pos c2]
            unfold f_N_someStepLoses_35
            rw [nI_1]
        · refine Or.inl ⟨?_, k, hkc, ?_, ?_⟩
          · rw [f_N_someStepLoses_2, if_neg hif, ck_t hv, hck, if_neg c1, bo_s w1, if_neg c2]
          · rw [q3_le, hx k hkc, q3_0] at c1
            grind
          · rw [q3_le, w2, q3_0] at c2
            grind
theorem pn_gain (hB : bkOk B) (hb : cB S 5 1 B) (hU : U ≤ 20250) (h6 : gF S 6 = nI U) (hx : ∀ j, j < B.1 → q3 (gI S 19 j) = X j) (hp : ∀ v, v < 4 → q3 (gI S 0 v) = p v) (hpz : ∀ v, v < 4 → isZ (p v) 2000) : ∀ q k, k ≤ B.1 → B.1 - k < q → (f_N_someStepWouldGain_2 m q (nI k) S = some (1, S) ∧ ∃ j, j < B.1 ∧ ga6 B X p U j) ∨ (f_N_someStepWouldGain_2 m q (nI k) S = some (0, S) ∧ ∀ j, k ≤ j → j < B.1 → ¬ ga6 B X p U j) := by
  have h8 := hB.1
  intro q
  induction q with
  | zero => intro k _ h; omega
  | succ q ih =>
    intro k hk hq
    by_cases e : k = B.1
    · refine Or.inr ⟨?_, fun j h1 h2 => by omega⟩
      rw [f_N_someStepWouldGain_2, if_pos (by rw [hb.1]; exact nI_le (by omega) (by omega))]
    · have hkc : k < B.1 := by omega
      have hv : vi (nI k) 8 = true := vi_n (by omega) (by omega)
      have hck : (nI k).toNatClampNeg = k := cl_n (by omega)
      have b4 : q3 (gI S 8 k) = B.2.2.2.2 k := (hb.2 k hkc).2.2.2
      have hqz := (hB.2 k hkc).2.2.2.1
      have e4 : q3 (gI S 8 k * gF S 6) = B.2.2.2.2 k * (U : Rat) := by rw [h6, q3_mul (K := 3000 * 20250) (by rw [b4, q3_nI (by omega)]; exact isZ_mul hqz (isZ_nat hU)) (by omega), b4, q3_nI (by omega)]
      obtain ⟨w, w1, w2⟩ := pn_margin (m := m) hB hb hp hpz hkc
      have go : ¬ ga6 B X p U k → f_N_someStepWouldGain_2 m (q + 1) (nI k) S = f_N_someStepWouldGain_2 m q (nI (k + 1)) S → (f_N_someStepWouldGain_2 m (q + 1) (nI k) S = some (1, S) ∧ ∃ j, j < B.1 ∧ ga6 B X p U j) ∨ (f_N_someStepWouldGain_2 m (q + 1) (nI k) S = some (0, S) ∧ ∀ j, k ≤ j → j < B.1 → ¬ ga6 B X p U j) := by
        intro hno heq
        rw [heq]
        rcases ih (k + 1) (by omega) (by omega) with h | ⟨h1, h2⟩
        · exact Or.inl h
        · refine Or.inr ⟨h1, fun j g1 g2 => ?_⟩
          by_cases c : j = k
          · subst c; exact hno
          · exact h2 j (by omega) g2
      have hif : ¬ gF S 1 ≤ nI k := by rw [hb.1]; exact nI_ge hkc (by omega)
      by_cases c1 : gI S 8 k * gF S 6 ≤ gI S 19 k
      · refine go (fun hl => ?_) ?_
        · rw [q3_le, e4, hx k hkc] at c1
          have := hl.1
          grind
        · rw [f_N_someStepWouldGain_2, if_neg hif, ck_t hv, ck_t hv, hck, if_pos c1]
          unfold f_N_someStepWouldGain_52
          rw [nI_1]
      · by_cases c2 : w ≤ 0
        · refine go (fun hl => ?_) ?_
          · rw [q3_le, w2, q3_0] at c2
            have := hl.2
            grind
          · rw [f_N_someStepWouldGain_2, if_neg hif, ck_t hv, ck_t hv, hck, if_neg c1, bo_s w1, if_pos c2]
            unfold f_N_someStepWouldGain_52
            rw [nI_1]
        · refine Or.inl ⟨?_, k, hkc, ?_, ?_⟩
          · rw [f_N_someStepWouldGain_2, if_neg hif, ck_t hv, ck_t hv, hck, if_neg c1, bo_s w1, if_neg c2]
          · rw [q3_le, e4, hx k hkc] at c1
            grind
          · rw [q3_le, w2, q3_0] at c2
            grind
def fl (Q : Nat → Prop) (n : Int32) (k : Nat) (x : Int32) : Prop := (x = n ∧ ∃ j, j < k ∧ Q j) ∨ (x = 0 ∧ ∀ j, j < k → ¬ Q j)
theorem fl_keep {Q : Nat → Prop} {n x : Int32} {k : Nat} (h : fl Q n k x) (hn : ¬ Q k) : fl Q n (k + 1) x := by
  rcases h with ⟨e, j, hj, hq⟩ | ⟨e, h⟩
  · exact Or.inl ⟨e, j, by omega, hq⟩
  · refine Or.inr ⟨e, fun j hj => ?_⟩
    by_cases c : j = k
    · subst c; exact hn
    · exact h j (by omega)
theorem fl_set {Q : Nat → Prop} {n : Int32} {k : Nat} (hq : Q k) : fl Q n (k + 1) n := Or.inl ⟨rfl, k, by omega, hq⟩
def cTail (m : Nat) (a0 a1 a2 a3 x5 x6 : Int32) (M : z_S) : Option (Int32 × z_S) := bo (f_M_carriesMore m a0 a1 a2 a3 M) (fun v169 S169 => (if v169 = 0 then f_M_check_180 m (x5 + x6) (0 : Int32) S169 else f_M_check_180 m (x5 + x6) (4 : Int32) S169))
theorem pm_check_loop (hB : bkOk B) (hb : mB M B) (hU : U ≤ 20250) (hG : gG M 4 = lN U) (hx : ∀ j, j < B.1 → q6 (gJ M 8 j) = X j) (hp : ∀ v, v < 4 → q3 (pA a0 a1 a2 a3 v) = p v) (hpz : ∀ v, v < 4 → isZ (p v) 2000) : ∀ q k (x5 x6 : Int32), k ≤ B.1 → B.1 - k < q → fl (lo5 B X p) 1 k x5 → fl (ga6 B X p U) 2 k x6 → ∃ y5 y6, f_M_check_23 m q a0 a1 a2 a3 x5 x6 (nI k) M = cTail m a0 a1 a2 a3 y5 y6 M ∧ fl (lo5 B X p) 1 B.1 y5 ∧ fl (ga6 B X p U) 2 B.1 y6 := by
  have h8 := hB.1
  intro q
  induction q with
  | zero => intro k x5 x6 _ h; omega
  | succ q ih =>
    intro k x5 x6 hk hq h5 h6
    by_cases e : k = B.1
    · subst e
      refine ⟨x5, x6, ?_, h5, h6⟩
      rw [f_M_check_23, if_pos (by rw [hb.1]; exact nI_le (by omega) (by omega))]
      rfl
    · have hkc : k < B.1 := by omega
      obtain ⟨b1, b2, b3, b4⟩ := hb.2 k hkc
      have hnd := (hB.2 k hkc).1
      have hqz := (hB.2 k hkc).2.2.2.1
      have hv : vi (nI k) 8 = true := vi_n (by omega) (by omega)
      have hck : (nI k).toNatClampNeg = k := cl_n (by omega)
      obtain ⟨z1, z2⟩ := mg_Z hB hpz hkc
      have e4 : q6 ((gI M 7 k).toInt64 * gG M 4) = B.2.2.2.2 k * (U : Rat) := by rw [hG, q6_mul (K := 3000 * 20250) (by rw [q6_i, b4, q6_lN (by omega)]; exact isZ_mul hqz (isZ_nat hU)) (by omega), q6_i, b4, q6_lN (by omega)]
      -- from the margin on
      have main : ∀ w : Int64, q6 w = mg B p k → ∃ y5 y6, f_M_check_84 m (f_M_check_23 m q) a0 a1 a2 a3 x5 x6 (nI k) w M = cTail m a0 a1 a2 a3 y5 y6 M ∧ fl (lo5 B X p) 1 B.1 y5 ∧ fl (ga6 B X p U) 2 B.1 y6 := by
        intro w hw
        have second : ∀ t0 : Int32, fl (lo5 B X p) 1 (k + 1) t0 → ∃ y5 y6, f_M_check_111 m (f_M_check_23 m q) a0 a1 a2 a3 x6 (nI k) w t0 M = cTail m a0 a1 a2 a3 y5 y6 M ∧ fl (lo5 B X p) 1 B.1 y5 ∧ fl (ga6 B X p U) 2 B.1 y6 := by
          intro t0 ht
          unfold f_M_check_111 f_M_check_148 f_M_check_150
          rw [ck_t hv, ck_t hv, hck, nI_1]
          by_cases c1 : (gI M 7 k).toInt64 * gG M 4 ≤ gJ M 8 k
          · rw [if_pos c1]
            refine ih (k + 1) t0 x6 (by omega) (by omega) ht (fl_keep h6 (fun hl => ?_))
            rw [q6_le, e4, hx k hkc] at c1
            have := hl.1
            grind
          · rw [if_neg c1]
            by_cases c2 : w ≤ 0
            · rw [if_pos c2]
              refine ih (k + 1) t0 x6 (by omega) (by omega) ht (fl_keep h6 (fun hl => ?_))
              rw [q6_le, hw, q6_0] at c2
              have := hl.2
              grind
            · rw [if_neg c2]
              refine ih (k + 1) t0 2 (by omega) (by omega) ht (fl_set ⟨?_, ?_⟩)
              · rw [q6_le, e4, hx k hkc] at c1
                grind
              · rw [q6_le, hw, q6_0] at c2
                grind
        unfold f_M_check_84 f_M_check_109
        rw [ck_t hv, hck]
        by_cases c1 : gJ M 8 k ≤ 0
        · rw [if_pos c1]
          refine second x5 (fl_keep h5 (fun hl => ?_))
          rw [q6_le, hx k hkc, q6_0] at c1
          have := hl.1
          grind
        · rw [if_neg c1]
          by_cases c2 : 0 ≤ w
          · rw [if_pos c2]
            refine second x5 (fl_keep h5 (fun hl => ?_))
            rw [q6_le, hw, q6_0] at c2
            have := hl.2
            grind
          · rw [if_neg c2]
            refine second 1 (fl_set ⟨?_, ?_⟩)
            · rw [q6_le, hx k hkc, q6_0] at c1
              grind
            · rw [q6_le, hw, q6_0] at c2
              grind
      rw [f_M_check_23, if_neg (by rw [hb.1]; exact nI_ge hkc (by omega)), ck_t hv, hck, b2, bo_s (pm_price hnd), ck_t hv]
      have eP : q6 ((pA a0 a1 a2 a3 (B.2.1 k)).toInt64) = p (B.2.1 k) := by rw [q6_i, hp _ hnd]
      have eB : q6 ((gI M 6 k).toInt64) = B.2.2.2.1 k := by rw [q6_i, b3]
      rcases b1 with ⟨s1, s2⟩ | ⟨s1, s2⟩
      · rw [if_neg (n01 s1), ck_t hv]
        refine main _ ?_
        rw [q6_sub (K := 4000) (by rw [eP, eB]; exact z1) (by omega), eP, eB]
        unfold mg
        rw [s2]
        grind
      · rw [if_pos s1, ck_t hv]
        refine main _ ?_
        rw [q6_sub (K := 4000) (by rw [eP, eB, show p (B.2.1 k) - B.2.2.2.1 k = - (B.2.2.2.1 k - p (B.2.1 k)) by grind]; exact isZ_neg z1) (by omega), eP, eB]
        unfold mg
        rw [s2]
        grind
end CHECK
theorem zo_check : z_op_check (zI Rz) := by
  intro S M a0 a1 a2 a3 hI
  rcases mkF_01 hI.2.2.1 with ⟨e1, e2⟩ | ⟨e1, e2⟩
  · refine ⟨0, -1, S, M, ?_, ?_, hI⟩
    · unfold f_N_check f_N_check_22
      rw [if_pos e1]
    · unfold f_M_check f_M_bad f_M_bad_60 f_M_bad_65
      rw [if_pos e2, ck_t vz_1, bo_s rfl, if_neg (by decide)]
  · refine ⟨2000000, ?_⟩
    have hm : 1000000 < 2000000 := by omega
    generalize 2000000 = m at hm ⊢
    obtain ⟨S1, k, hv, ht⟩ := tp_take (m := m) (by omega) a0 a1 a2 a3 S
    rcases ht with ⟨hp, ht⟩ | ⟨hp, ht⟩
    · obtain ⟨N, B, U, x, h, hMK, hRS, hC⟩ := hI.2.2.2 e1
      have r10 := hRS.2.2.2.2.2.2.2.2.1
      obtain ⟨r1, -, ⟨r3, r4⟩, r5, r6, -⟩ := hRS
      obtain ⟨hN, hB, hcN, hmN, hcB, hmB⟩ := hMK
      have h8 := hB.1
      have hpz : ∀ v, v < 4 → isZ (q3 (pA a0 a1 a2 a3 v)) 2000 := fun v h4 => inP_Z (hp v h4)
      obtain ⟨p, hpe⟩ : ∃ p : Nat → Rat, p = fun v => q3 (pA a0 a1 a2 a3 v) := ⟨_, rfl⟩
      obtain ⟨X, hXe⟩ : ∃ X : Nat → Rat, X = fun j => (U : Rat) * x j := ⟨_, rfl⟩
      have hpz : ∀ v, v < 4 → isZ (p v) 2000 := fun v h4 => by rw [hpe]; exact hpz v h4
      have hpa : ∀ v, v < 4 → q3 (pA a0 a1 a2 a3 v) = p v := fun v _ => by rw [hpe]
      have hp1 : ∀ v, v < 4 → q3 (gI S1 0 v) = p v := fun v h4 => by rw [hv v h4]; exact hpa v h4
      have hb1 := cB_AF k hcB
      have hc1 : cN S1 N := ⟨by rw [k.1]; exact hcN.1, by rw [k.2.2.2 1 (by omega), k.2.2.2 2 (by omega), k.2.2.2 3 (by omega), k.2.2.2 4 (by omega)]; exact hcN.2⟩
      have hx1 : ∀ j, j < B.1 → q3 (gI S1 19 j) = X j := fun j hj => by rw [k.2.2.2 19 (by omega), hXe]; exact (r10 j hj).1
      have hxz : ∀ j, j < B.1 → isZ (X j) 60750000 := fun j hj => by rw [hXe]; exact (r10 j hj).2.2
      have hxm : ∀ j, j < B.1 → q6 (gJ M 8 j) = X j := fun j hj => by rw [hXe]; exact (r10 j hj).2.1
      have h6 : gF S1 6 = nI U := by rw [k.1]; exact r5
      obtain ⟨v, S2, g1, g2, g3⟩ := pc_more (m := m) hm hN r1 hB hc1 hb1 r3 r4 h6 hx1 hxz hp1 hpz
      obtain ⟨w, M', i1, i2, i3⟩ := pm_more (m := m) (by omega) hN r1 hB e2 hmN hmB r4 r6 hxm hxz hpa hp hpz
      have hwv : w = v ∧ (v = 0 ∨ v = 1) := by
        rcases g3 with ⟨q1, h1, q2, q3⟩ | ⟨q1, q2⟩ <;> rcases i3 with ⟨t1, h2, t2, t3⟩ | ⟨t1, t2⟩
        · exact ⟨by rw [q1, t1], Or.inr q1⟩
        · have := t2 h1 q2
          exact absurd q3 (by grind)
        · have := q2 h2 t2
          exact absurd t3 (by grind)
        · exact ⟨by rw [q1, t1], Or.inl q1⟩
      obtain ⟨y5, y6, c1, c2, c3⟩ := pm_check_loop (m := m) (a0 := a0) (a1 := a1) (a2 := a2) (a3 := a3) hB hmB r4 r6 hxm hpa hpz m 0 0 0 (by omega) (by omega) (Or.inr ⟨rfl, fun j hj => by omega⟩) (Or.inr ⟨rfl, fun j hj => by omega⟩)
      have hI1 := zI_AF hI k
      have hI2 : zI Rz S2 M' := zI_keep hI1 ⟨g2.1 0 (by omega) (by omega) (by omega), g2.1 1 (by omega) (by omega) (by omega), fun t _ ht => g2.2.2 t (by omega)⟩ (g2.1 5 (by omega) (by omega) (by omega)) (g2.1 6 (by omega) (by omega) (by omega)) (g2.2.1 2 (by omega) (by omega)) (g2.2.2 19 (by omega)) (g2.2.2 20 (by omega)) i2.1 i2.2.1 i2.2.2.1 i2.2.2.2.1 i2.2.2.2.2
      -- the class's two loops
      have f5 : f_N_someStepLoses m S1 = some (y5, S1) := by
        rcases pn_lose (m := m) hB hb1 hx1 hp1 hpz m 0 (by omega) (by omega) with ⟨q1, j, q2, q3⟩ | ⟨q1, q2⟩ <;> rcases c2 with ⟨t1, j', t2, t3⟩ | ⟨t1, t2⟩
        · rw [t1]; exact q1
        · exact (t2 j q2 q3).elim
        · exact (q2 j' (by omega) t2 t3).elim
        · rw [t1]; exact q1
      have f6 : ∃ u6, f_N_someStepWouldGain m S1 = some (u6, S1) ∧ ((u6 = 0 ∧ y6 = 0) ∨ (u6 = 1 ∧ y6 = 2)) := by
        rcases pn_gain (m := m) hB hb1 r4 h6 hx1 hp1 hpz m 0 (by omega) (by omega) with ⟨q1, j, q2, q3⟩ | ⟨q1, q2⟩ <;> rcases c3 with ⟨t1, j', t2, t3⟩ | ⟨t1, t2⟩
        · exact ⟨1, q1, Or.inr ⟨rfl, t1⟩⟩
        · exact (t2 j q2 q3).elim
        · exact (q2 j' (by omega) t2 t3).elim
        · exact ⟨0, q1, Or.inl ⟨rfl, t1⟩⟩
      obtain ⟨u6, f6, f7⟩ := f6
      have y5v : y5 = 0 ∨ y5 = 1 := by
        rcases c2 with ⟨t1, -⟩ | ⟨t1, -⟩
        · exact Or.inr t1
        · exact Or.inl t1
      refine ⟨y5 + y6 + (if v = 0 then 0 else 4), S2, M', ?_, ?_, hI2⟩
      · have e52 : ∀ t0 t1 : Int32, f_N_check_52 m t0 t1 S1 = some (t0 + t1 + (if v = 0 then 0 else 4), S2) := fun t0 t1 => by
          unfold f_N_check_52 f_N_check_69
          rw [bo_s g1]
          by_cases c : v = 0
          · rw [if_pos c, if_pos c]
          · rw [if_neg c, if_neg c]
        have e36 : ∀ t0 : Int32, f_N_check_36 m t0 S1 = some (t0 + y6 + (if v = 0 then 0 else 4), S2) := fun t0 => by
          unfold f_N_check_36
          rw [bo_s f6]
          rcases f7 with ⟨d1, d2⟩ | ⟨d1, d2⟩
          · rw [d1, if_pos rfl, e52, d2]
          · rw [d1, if_neg (by decide), e52, d2]
        unfold f_N_check
        rw [if_neg (n01 e1), bo_s ht, if_neg (by decide), bo_s f5]
        rcases y5v with d | d
        · rw [d, if_pos rfl, e36]
        · rw [d, if_neg (by decide), e36]
      · have hbad : f_M_bad m a0 a1 a2 a3 M = some (0, M) := by
          rcases pm_bad (m := m) (M := M) (a0 := a0) (a1 := a1) (a2 := a2) (a3 := a3) e2 with ⟨-, q⟩ | ⟨q, -⟩
          · exact q
          · exact (q hp).elim
        unfold f_M_check
        rw [bo_s hbad, if_pos rfl]
        refine Eq.trans c1 ?_
        unfold cTail f_M_check_180
        rw [bo_s i1, hwv.1]
        by_cases c : v = 0
        · rw [if_pos c, if_pos c]
        · rw [if_neg c, if_neg c]
    · refine ⟨-1, S1, M, ?_, ?_, zI_AF hI k⟩
      · unfold f_N_check f_N_check_22
        rw [if_neg (n01 e1), bo_s ht, if_pos rfl]
      · rcases pm_bad (m := m) (M := M) (a0 := a0) (a1 := a1) (a2 := a2) (a3 := a3) e2 with ⟨q, -⟩ | ⟨-, q⟩
        · exact (hp q).elim
        · unfold f_M_check
          rw [bo_s q, if_neg (by decide)]
