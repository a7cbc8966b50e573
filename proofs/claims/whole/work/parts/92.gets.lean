/-! scale, accepted, flow, tight, welfare answer alike -/
theorem mkF_01 {S M : z_S} (h : mkF S M) : (gF S 5 = 0 ∧ gF M 4 = 0) ∨ (gF S 5 = 1 ∧ gF M 4 = 1) := by
  rcases h.2 with e | e
  · exact Or.inl ⟨e, by rw [← h.1]; exact e⟩
  · exact Or.inr ⟨e, by rw [← h.1]; exact e⟩
theorem n01 {x : Int32} (h : x = 1) : ¬ x = 0 := by rw [h]; decide
theorem zo_scale : z_op_scale (zI Rz) := by
  intro S M hI
  obtain ⟨hL, hT, hF, hR⟩ := hI
  rcases mkF_01 hF with ⟨e1, e2⟩ | ⟨e1, e2⟩
  · exact ⟨0, 0, S, M, by unfold f_N_scale f_N_scale_21; rw [if_pos e1], by unfold f_M_scale f_M_scale_16; rw [if_pos e2], hL, hT, hF, hR⟩
  · obtain ⟨N, B, U, x, h, hMK, hRS, hC⟩ := hR e1
    refine ⟨0, nI U, S, M, ?_, ?_, hL, hT, hF, hR⟩
    · unfold f_N_scale f_N_scale_21
      rw [if_neg (n01 e1), hRS.2.2.2.1]
    · unfold f_M_scale f_M_scale_16
      rw [if_neg (n01 e2), hRS.2.2.2.2.1, lN_i]
theorem zo_welfare : z_op_welfare (zI Rz) := by
  intro S M hI
  obtain ⟨hL, hT, hF, hR⟩ := hI
  rcases mkF_01 hF with ⟨e1, e2⟩ | ⟨e1, e2⟩
  · exact ⟨0, -1, S, M, by unfold f_N_welfare f_N_welfare_23; rw [if_pos e1], by unfold f_M_welfare f_M_welfare_17; rw [if_pos e2], hL, hT, hF, hR⟩
  · obtain ⟨N, B, U, x, h, hMK, hRS, hC⟩ := hR e1
    refine ⟨0, gG S 2, S, M, ?_, ?_, hL, hT, hF, hR⟩
    · unfold f_N_welfare f_N_welfare_23
      rw [if_neg (n01 e1)]
    · unfold f_M_welfare f_M_welfare_17
      rw [if_neg (n01 e2)]
      congr 2
      exact q6_inj.mp (by rw [hRS.2.2.2.2.2.1, hRS.2.2.2.2.2.2.1])
theorem same_i {u : Int32} {v : Int64} {r : Rat} {K : Nat} (h1 : q3 u = r) (h2 : q6 v = r) (hz : isZ r K) (hK : K < 2 ^ 31) : v.toInt32 = u := q3_inj.mp (by rw [q6_ii (by rw [h2]; exact hz) hK, h1, h2])
theorem zo_accepted : z_op_accepted (zI Rz) := by
  intro S M a0 hI
  obtain ⟨hL, hT, hF, hR⟩ := hI
  rcases mkF_01 hF with ⟨e1, e2⟩ | ⟨e1, e2⟩
  · exact ⟨0, -2147483648, S, M, by unfold f_N_accepted f_N_accepted_33 f_N_accepted_35; rw [if_pos e1], by unfold f_M_accepted f_M_accepted_31 f_M_accepted_33; rw [if_pos e2], hL, hT, hF, hR⟩
  · obtain ⟨N, B, U, x, h, hMK, hRS, hC⟩ := hR e1
    have h8 := hMK.2.1.1
    have hs : gF S 1 = nI B.1 := hMK.2.2.2.2.1.1
    have hm : gF M 1 = nI B.1 := hMK.2.2.2.2.2.1
    by_cases q : ¬ a0 < 0 ∧ ¬ nI B.1 ≤ a0
    · obtain ⟨k, hk, rfl⟩ := ix_nat h8 q
      obtain ⟨r1, r2, r3⟩ := hRS.2.2.2.2.2.2.2.2.1 k hk
      refine ⟨0, gI S 19 k, S, M, ?_, ?_, hL, hT, hF, hR⟩
      · unfold f_N_accepted f_N_accepted_33 f_N_accepted_35
        rw [if_neg (n01 e1), bo_s (pB_has hs), if_pos q, if_neg (by decide), ck_t (vi_n (by omega) (by omega)), cl_n (by omega)]
      · unfold f_M_accepted f_M_accepted_31 f_M_accepted_33
        rw [if_neg (n01 e2), hm, bo_s (pM_in ((ix_same h8).mpr q)), if_neg (by decide), ck_t (vi_n (by omega) (by omega)), cl_n (by omega), same_i r1 r2 r3 (by omega)]
    · refine ⟨0, -2147483648, S, M, ?_, ?_, hL, hT, hF, hR⟩
      · unfold f_N_accepted f_N_accepted_33 f_N_accepted_35
        rw [if_neg (n01 e1), bo_s (pB_has hs), if_neg q, if_pos rfl]
      · unfold f_M_accepted f_M_accepted_31 f_M_accepted_33
        rw [if_neg (n01 e2), hm, bo_s (pM_out (fun c => q ((ix_same h8).mp c))), if_pos rfl]
theorem zo_flow : z_op_flow (zI Rz) := by
  intro S M a0 hI
  obtain ⟨hL, hT, hF, hR⟩ := hI
  rcases mkF_01 hF with ⟨e1, e2⟩ | ⟨e1, e2⟩
  · exact ⟨0, -2147483648, S, M, by unfold f_N_flow f_N_flow_33 f_N_flow_35; rw [if_pos e1], by unfold f_M_flow f_M_flow_31 f_M_flow_33; rw [if_pos e2], hL, hT, hF, hR⟩
  · obtain ⟨N, B, U, x, h, hMK, hRS, hC⟩ := hR e1
    have h8 : N.1 ≤ 8 := by have := hMK.1.1; omega
    have h6 := hMK.1.1
    have hs : gF S 0 = nI N.1 := hMK.2.2.1.1
    have hm : gF M 0 = nI N.1 := hMK.2.2.2.1.1
    by_cases q : ¬ a0 < 0 ∧ ¬ nI N.1 ≤ a0
    · obtain ⟨k, hk, rfl⟩ := ix_nat h8 q
      obtain ⟨r1, r2, r3⟩ := hRS.2.2.2.2.2.2.2.2.2 k hk
      refine ⟨0, gI S 20 k, S, M, ?_, ?_, hL, hT, hF, hR⟩
      · unfold f_N_flow f_N_flow_33 f_N_flow_35
        rw [if_neg (n01 e1), bo_s (pG_has hs), if_pos q, if_neg (by decide), ck_t (vi_n (by omega) (by omega)), cl_n (by omega)]
      · unfold f_M_flow f_M_flow_31 f_M_flow_33
        rw [if_neg (n01 e2), hm, bo_s (pM_in ((ix_same h8).mpr q)), if_neg (by decide), ck_t (vi_n (by omega) (by omega)), cl_n (by omega), same_i r1 r2 r3 (by omega)]
    · refine ⟨0, -2147483648, S, M, ?_, ?_, hL, hT, hF, hR⟩
      · unfold f_N_flow f_N_flow_33 f_N_flow_35
        rw [if_neg (n01 e1), bo_s (pG_has hs), if_neg q, if_pos rfl]
      · unfold f_M_flow f_M_flow_31 f_M_flow_33
        rw [if_neg (n01 e2), hm, bo_s (pM_out (fun c => q ((ix_same h8).mp c))), if_pos rfl]
theorem pm_tight0 {m c : Nat} {M : z_S} (hc : c ≤ 6) (h0 : gF M 0 = nI c) (h4 : gF M 4 = 0) : ∀ q k (acc : Int32), k ≤ c → c - k < q → f_M_tight_4 m q acc (nI k) M = some (-2147483648, M) := by
  intro q
  induction q with
  | zero => intro k acc _ h; omega
  | succ q ih =>
    intro k acc hk hq
    by_cases e : k = c
    · rw [f_M_tight_4, if_pos (by rw [h0]; exact nI_le (by omega) (by omega)), if_pos h4]
      rfl
    · have hv : vi (nI k) 6 = true := vi_n (by omega) (by omega)
      rw [f_M_tight_4, if_neg (by rw [h0]; exact nI_ge (by omega) (by omega)), ck_t hv]
      unfold f_M_tight_25 f_M_tight_48 f_M_tight_57
      rw [ck_t hv, ck_t hv, nI_1]
      have h := fun acc => ih (k + 1) acc (by omega) (by omega)
      split
      · exact h _
      · split
        · exact h _
        · exact h _
theorem abs_3 {f e : Int32} {r s : Rat} (h1 : q3 f = r) (h2 : q3 e = s) (hz : isZ r 60750000) (hs : 0 ≤ s) : ((if 0 ≤ f then f else 0 - f) = e) ↔ (r = s ∨ r = - s) := by
  have hneg : q3 (0 - f) = - r := by
    rw [q3_sub (K := 60750000) (by rw [q3_0, h1, show (0 : Rat) - r = - r by grind]; exact isZ_neg hz) (by omega), q3_0, h1]; grind
  by_cases c : 0 ≤ f
  · rw [if_pos c]
    rw [q3_le, q3_0, h1] at c
    constructor
    · intro e'; exact Or.inl (by rw [← h1, ← h2, e'])
    · intro e'; exact q3_inj.mp (by rw [h1, h2]; grind)
  · rw [if_neg c]
    rw [q3_le, q3_0, h1] at c
    constructor
    · intro e'; exact Or.inr (by rw [← h2, ← e', hneg]; grind)
    · intro e'; exact q3_inj.mp (by rw [hneg, h2]; grind)
theorem zo_tight_loop {m U : Nat} {S M : z_S} {N : Net} {f : Nat → Rat} (hN : netOk N) (hc : cN S N) (hM : mN M N) (h4 : gF M 4 = 1) (hU : U ≤ 20250) (hS6 : gF S 6 = nI U) (hM4 : gG M 4 = lN U) (hf : ∀ k, k < N.1 → q3 (gI S 20 k) = f k ∧ q6 (gJ M 9 k) = f k ∧ isZ (f k) 60750000) : ∀ q k (acc : Int32), k ≤ N.1 → N.1 - k < q → ∃ r, f_N_tight_17 m q acc (nI k) S = some (r, S) ∧ f_M_tight_4 m q acc (nI k) M = some (r, M) := by
  have h6 := hN.1
  intro q
  induction q with
  | zero => intro k acc _ h; omega
  | succ q ih =>
    intro k acc hk hq
    by_cases e : k = N.1
    · refine ⟨acc, ?_, ?_⟩
      · rw [f_N_tight_17, if_pos (by rw [hc.1]; exact nI_le (by omega) (by omega))]
      · rw [f_M_tight_4, if_pos (by rw [hM.1]; exact nI_le (by omega) (by omega)), if_neg (n01 h4)]
        rfl
    · have hkc : k < N.1 := by omega
      obtain ⟨f1, f2, f3⟩ := hf k hkc
      obtain ⟨-, -, -, c4⟩ := hc.2 k hkc
      obtain ⟨-, -, -, m4⟩ := hM.2 k hkc
      have n6 := (hN.2.1 k hkc).2.2.2.2.2
      have hv : vi (nI k) 6 = true := vi_n (by omega) (by omega)
      have hck : (nI k).toNatClampNeg = k := cl_n (by omega)
      have hqm : q3 (nI (N.2.2.2.2 k)) = (N.2.2.2.2 k : Rat) := q3_nI (by omega)
      have hqU : q3 (nI U) = (U : Rat) := q3_nI (by omega)
      have hzp : isZ ((N.2.2.2.2 k : Rat) * (U : Rat)) (1000 * 20250) := isZ_mul (isZ_nat n6) (isZ_nat hU)
      have s1 : q3 (nI (N.2.2.2.2 k) * nI U) = (N.2.2.2.2 k : Rat) * (U : Rat) := by rw [q3_mul (by rw [hqm, hqU]; exact hzp) (by omega), hqm, hqU]
      have s2 : q6 ((nI (N.2.2.2.2 k)).toInt64 * lN U) = (N.2.2.2.2 k : Rat) * (U : Rat) := by rw [q6_mul (by rw [q6_i, hqm, q6_lN (by omega)]; exact hzp) (by omega), q6_i, hqm, q6_lN (by omega)]
      have s3 : q6 (-((nI (N.2.2.2.2 k)).toInt64 * lN U)) = - ((N.2.2.2.2 k : Rat) * (U : Rat)) := by rw [q6_neg (by rw [s2]; exact hzp) (by omega), s2]
      have hab := abs_3 f1 s1 f3 (Rat.mul_nonneg (nat_nn _) (nat_nn _))
      rw [f_N_tight_17, if_neg (by rw [hc.1]; exact nI_ge hkc (by omega)), ck_t hv, ck_t hv, hck, c4, hS6]
      rw [f_M_tight_4, if_neg (show ¬ gF M 0 ≤ nI k by rw [hM.1]; exact nI_ge hkc (by omega)), ck_t hv, hck, m4, hM4]
      unfold f_N_tight_66 f_M_tight_25 f_M_tight_48 f_M_tight_57
      rw [ck_t hv, ck_t hv, hck, nI_1]
      have i1 : gJ M 9 k = (nI (N.2.2.2.2 k)).toInt64 * lN U ↔ f k = (N.2.2.2.2 k : Rat) * (U : Rat) := by rw [← q6_inj, f2, s2]
      have i2 : gJ M 9 k = -((nI (N.2.2.2.2 k)).toInt64 * lN U) ↔ f k = - ((N.2.2.2.2 k : Rat) * (U : Rat)) := by rw [← q6_inj, f2, s3]
      by_cases q1 : f k = (N.2.2.2.2 k : Rat) * (U : Rat)
      · rw [if_pos (hab.mpr (Or.inl q1)), if_pos (i1.mpr q1)]
        exact ih (k + 1) _ (by omega) (by omega)
      · rw [if_neg (fun c => q1 (i1.mp c))]
        by_cases q2 : f k = - ((N.2.2.2.2 k : Rat) * (U : Rat))
        · rw [if_pos (hab.mpr (Or.inr q2)), if_pos (i2.mpr q2)]
          exact ih (k + 1) _ (by omega) (by omega)
        · rw [if_neg (fun c => (hab.mp c).elim q1 q2), if_neg (fun c => q2 (i2.mp c))]
          exact ih (k + 1) _ (by omega) (by omega)
theorem zo_tight : z_op_tight (zI Rz) := by
  intro S M hI
  obtain ⟨hL, hT, hF, hR⟩ := hI
  rcases mkF_01 hF with ⟨e1, e2⟩ | ⟨e1, e2⟩
  · obtain ⟨c, fa, fb, fs, fm, hl⟩ := hL
    refine ⟨10, -2147483648, S, M, by unfold f_N_tight; rw [if_pos e1], ?_, ⟨c, fa, fb, fs, fm, hl⟩, hT, hF, hR⟩
    exact pm_tight0 (m := 10) hl.1 hl.2.2.1 e2 10 0 0 (by omega) (by have := hl.1; omega)
  · obtain ⟨N, B, U, x, h, hMK, hRS, hC⟩ := hR e1
    obtain ⟨r, r1, r2⟩ := zo_tight_loop (m := 10) hMK.1 hMK.2.2.1 hMK.2.2.2.1 e2 hRS.2.2.1.2 hRS.2.2.2.1 hRS.2.2.2.2.1 hRS.2.2.2.2.2.2.2.2.2 10 0 0 (by omega) (by have := hMK.1.1; omega)
    exact ⟨10, r, S, M, by unfold f_N_tight; rw [if_neg (n01 e1)]; exact r1, r2, hL, hT, hF, hR⟩
