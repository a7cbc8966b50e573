theorem nI_m1 {c : Nat} (hc : c ≤ 8) : (nI c - 1).toInt = (c : Int) - 1 := by
  rw [Int32.toInt_sub, nI_toInt (by omega), show (1 : Int32).toInt = 1 from rfl]
  apply Int.bmod_eq_of_le <;> omega
/-- the index checks of the two systems say the same -/
theorem ix_same {x : Int32} {c : Nat} (hc : c ≤ 8) : (¬ x < 0 ∧ ¬ (nI c - 1) < x) ↔ (¬ x < 0 ∧ ¬ nI c ≤ x) := by
  have h1 := nI_m1 hc
  have h2 : (nI c).toInt = c := nI_toInt (by omega)
  rw [Int32.lt_iff_toInt_lt (x := nI c - 1), Int32.le_iff_toInt_le, h1, h2]
  exact ⟨fun h => ⟨h.1, by have := h.2; omega⟩, fun h => ⟨h.1, by have := h.2; omega⟩⟩
theorem ix_nat {x : Int32} {c : Nat} (hc : c ≤ 8) (h : ¬ x < 0 ∧ ¬ nI c ≤ x) : ∃ k : Nat, k < c ∧ x = nI k := by
  rcases pk_ix x (n := c) (by omega) with h1 | h1 | h1
  · exact absurd h1 h.1
  · exact absurd h1 h.2
  · exact h1
theorem pG_has {n c : Nat} {x : Int32} {S : z_S} (h0 : gF S 0 = nI c) : f_G_has n x S = some ((if ¬ x < 0 ∧ ¬ nI c ≤ x then 1 else 0), S) := by
  unfold f_G_has
  rw [h0]
  by_cases h1 : x < 0
  · rw [if_pos h1, if_neg (fun h => h.1 h1)]; exact ck_t vz_0
  · rw [if_neg h1]
    by_cases h2 : nI c ≤ x
    · rw [if_pos h2, if_neg (fun h => h.2 h2)]; exact ck_t vz_0
    · rw [if_neg h2, if_pos ⟨h1, h2⟩]; exact ck_t vz_1
theorem pB_has {n c : Nat} {x : Int32} {S : z_S} (h0 : gF S 1 = nI c) : f_B_has n x S = some ((if ¬ x < 0 ∧ ¬ nI c ≤ x then 1 else 0), S) := by
  unfold f_B_has
  rw [h0]
  by_cases h1 : x < 0
  · rw [if_pos h1, if_neg (fun h => h.1 h1)]; exact ck_t vz_0
  · rw [if_neg h1]
    by_cases h2 : nI c ≤ x
    · rw [if_pos h2, if_neg (fun h => h.2 h2)]; exact ck_t vz_0
    · rw [if_neg h2, if_pos ⟨h1, h2⟩]; exact ck_t vz_1
theorem zo_limit (Rs : z_S → z_S → Prop) : z_op_limit (zI Rs) := by
  intro S M x y hI
  have hI0 := hI
  obtain ⟨⟨c, fa, fb, fs, fm, hc, h0, h0', hl, hd⟩, hT, hF, hR⟩ := hI
  refine ⟨10, ?_⟩
  by_cases hx : ¬ x < 0 ∧ ¬ nI c ≤ x
  case neg =>
    refine ⟨0, S, M, ?_, ?_, hI0⟩
    · unfold f_N_limit; rw [bo_s (pG_has h0), if_neg hx, if_pos rfl]; rfl
    · unfold f_M_limit; rw [h0', bo_s (pM_out (fun h => hx ((ix_same (by omega)).mp h))), if_pos rfl]; rfl
  have hx' := (ix_same (x := x) (c := c) (by omega)).mpr hx
  by_cases hm : ¬ y < 0 ∧ ¬ (1000 : Int32) < y
  case neg =>
    refine ⟨0, S, M, ?_, ?_, hI0⟩
    · unfold f_N_limit; rw [bo_s (pG_has h0), if_pos hx, if_neg i32_1ne, bo_s (pN_out hm), if_pos rfl]; rfl
    · unfold f_M_limit; rw [h0', bo_s (pM_in hx'), if_neg i32_1ne, bo_s (pM_out hm), if_pos rfl]; rfl
  obtain ⟨k, hk, rfl⟩ := ix_nat (by omega) hx
  obtain ⟨mo, hmo, rfl⟩ := nI_rng (N := 1000) rfl hm
  have hv : vi (nI k) 6 = true := vi_n (by omega) (by omega)
  have hcl : (nI k).toNatClampNeg = k := cl_n (by omega)
  refine ⟨1, sI (sF S 5 0) 4 (upd (gI S 4) k (nI mo)), sF (sI M 3 (upd (gI M 3) k (nI mo))) 4 0, ?_, ?_, ?_⟩
  · unfold f_N_limit; rw [bo_s (pG_has h0), if_pos hx, if_neg i32_1ne, bo_s (pN_in hm), if_neg i32_1ne, ck_t hv, hcl]; rfl
  · unfold f_M_limit; rw [h0', bo_s (pM_in hx'), if_neg i32_1ne, bo_s (pM_in hm), if_neg i32_1ne, ck_t hv, hcl]
  · refine ⟨⟨c, fa, fb, fs, fun i => if i = k then mo else fm i, hc, ?_, ?_, ?_, hd⟩, ?_, ?_, ?_⟩
    · simp only [gs, Nat.reduceEqDiff, reduceIte]; exact h0
    · simp only [gs, Nat.reduceEqDiff, reduceIte]; exact h0'
    · intro i hi
      simp only [gs, Nat.reduceEqDiff, reduceIte, upd_at]
      by_cases e : i = k
      · simp only [if_pos e]
        obtain ⟨⟨a1, a2, a3, a4, a5, a6⟩, ⟨b1, b2, b3, b4⟩, d1, d2, d3, d4⟩ := hl i hi
        exact ⟨⟨a1, a2, a3, a4, a5, hmo⟩, ⟨b1, b2, b3, trivial⟩, d1, d2, d3, trivial⟩
      · simp only [if_neg e]
        exact hl i hi
    · obtain ⟨s, bd, nd, pr, qu, t1, t2, t3, t4⟩ := hT
      refine ⟨s, bd, nd, pr, qu, t1, ?_, ?_, ?_⟩
      · simp only [gs, Nat.reduceEqDiff, reduceIte]; exact t2
      · simp only [gs, Nat.reduceEqDiff, reduceIte]; exact t3
      · simp only [gs, Nat.reduceEqDiff, reduceIte]; exact t4
    · unfold mkF; simp only [gs, Nat.reduceEqDiff, reduceIte]; exact ⟨trivial, Or.inl trivial⟩
    · intro h; exfalso; revert h; simp only [gs, Nat.reduceEqDiff, reduceIte]; decide
theorem zo_cut (Rs : z_S → z_S → Prop) : z_op_cut (zI Rs) := by
  intro S M x hI
  have hI0 := hI
  obtain ⟨⟨c, fa, fb, fs, fm, hc, h0, h0', hl, hd⟩, hT, hF, hR⟩ := hI
  refine ⟨10, ?_⟩
  by_cases hx : ¬ x < 0 ∧ ¬ nI c ≤ x
  case neg =>
    refine ⟨0, S, M, ?_, ?_, hI0⟩
    · unfold f_N_cut; rw [bo_s (pG_has h0), if_neg hx, if_pos rfl]
    · unfold f_M_cut; rw [h0', bo_s (pM_out (fun h => hx ((ix_same (by omega)).mp h))), if_pos rfl]
  have hx' := (ix_same (x := x) (c := c) (by omega)).mpr hx
  obtain ⟨k, hk, rfl⟩ := ix_nat (by omega) hx
  obtain ⟨C, rfl⟩ : ∃ C, c = C + 1 := ⟨c - 1, by omega⟩
  obtain ⟨S1, e1, e2, e3, e4, e5, e6, e7⟩ := pG_rem (n := 10) (C := C + 1) (by omega) 10 k (sF S 5 0) hk (by omega) (by simp only [gs, Nat.reduceEqDiff, reduceIte]; exact h0)
  obtain ⟨M1, g1, g2, g3, g4, g5, g6, g7⟩ := pM_cutl (n := 10) (C := C) (by omega) 10 k (sF M 0 (nI C)) (by omega) (by omega) (by simp only [gs, reduceIte])
  refine ⟨1, S1, M1, ?_, ?_, ?_⟩
  · unfold f_N_cut; rw [bo_s (pG_has h0), if_pos hx, if_neg i32_1ne]
    rw [bo_s (x := f_G_remove 10 (nI k) (sF S 5 0)) (S := S1) (v := ()) e1]
  · unfold f_M_cut; rw [h0', bo_s (pM_in hx'), if_neg i32_1ne, h0', nI_pred]; exact g1
  · refine ⟨⟨C, fun i => if k ≤ i then fa (i + 1) else fa i, fun i => if k ≤ i then fb (i + 1) else fb i, fun i => if k ≤ i then fs (i + 1) else fs i, fun i => if k ≤ i then fm (i + 1) else fm i, by omega, ?_, ?_, ?_, ?_⟩, ?_, ?_, ?_⟩
    · rw [e2]; rfl
    · rw [g5 0 (by decide)]; simp only [gs, reduceIte]
    · intro i hi
      rw [e3 1 (by simp), e3 2 (by simp), e3 3 (by simp), e3 4 (by simp), g3 0 (by simp), g3 1 (by simp), g3 2 (by simp), g3 3 (by simp)]
      simp only [gs]
      by_cases hki : k ≤ i
      · simp only [if_pos hki, if_pos (show k ≤ i ∧ i + 1 < C + 1 by omega)]
        exact hl (i + 1) (by omega)
      · simp only [if_neg hki, if_neg (show ¬ (k ≤ i ∧ i + 1 < C + 1) by omega)]
        exact hl i (by omega)
    · intro i j hij hj
      by_cases h1 : k ≤ i <;> by_cases h2 : k ≤ j
      · simp only [if_pos h1, if_pos h2]; exact hd _ _ (by omega) (by omega)
      · omega
      · simp only [if_neg h1, if_pos h2]; exact hd _ _ (by omega) (by omega)
      · simp only [if_neg h1, if_neg h2]; exact hd _ _ (by omega) (by omega)
    · obtain ⟨s, bd, nd, pr, qu, t1, t2, t3, t4⟩ := hT
      refine ⟨s, bd, nd, pr, qu, t1, ?_, ?_, fun j hj => ?_⟩
      · rw [e5 1 (by decide)]; simp only [gs, Nat.reduceEqDiff, reduceIte]; exact t2
      · rw [g5 1 (by decide)]; simp only [gs, Nat.reduceEqDiff, reduceIte]; exact t3
      · rw [e4 5 (by decide) (by decide) (by decide) (by decide), e4 6 (by decide) (by decide) (by decide) (by decide), e4 7 (by decide) (by decide) (by decide) (by decide), e4 8 (by decide) (by decide) (by decide) (by decide), g4 4 (by decide) (by decide) (by decide) (by decide), g4 5 (by decide) (by decide) (by decide) (by decide), g4 6 (by decide) (by decide) (by decide) (by decide), g4 7 (by decide) (by decide) (by decide) (by decide)]
        simp only [gs]; exact t4 j hj
    · refine ⟨?_, Or.inl ?_⟩
      · rw [e5 5 (by decide), g2]; simp only [gs, Nat.reduceEqDiff, reduceIte]
      · rw [e5 5 (by decide)]; simp only [gs, Nat.reduceEqDiff, reduceIte]
    · intro h; exfalso; revert h; rw [e5 5 (by decide)]; simp only [gs, Nat.reduceEqDiff, reduceIte]; decide
theorem zo_cancel (Rs : z_S → z_S → Prop) : z_op_cancel (zI Rs) := by
  intro S M x hI
  have hI0 := hI
  obtain ⟨hL, ⟨s, bd, nd, pr, qu, hs, h0, h0', ht⟩, hF, hR⟩ := hI
  refine ⟨10, ?_⟩
  by_cases hx : ¬ x < 0 ∧ ¬ nI s ≤ x
  case neg =>
    refine ⟨0, S, M, ?_, ?_, hI0⟩
    · unfold f_N_cancel; rw [bo_s (pB_has h0), if_neg hx, if_pos rfl]
    · unfold f_M_cancel; rw [h0', bo_s (pM_out (fun h => hx ((ix_same (by omega)).mp h))), if_pos rfl]
  have hx' := (ix_same (x := x) (c := s) (by omega)).mpr hx
  obtain ⟨k, hk, rfl⟩ := ix_nat (by omega) hx
  obtain ⟨C, rfl⟩ : ∃ C, s = C + 1 := ⟨s - 1, by omega⟩
  obtain ⟨S1, e1, e2, e3, e4, e5, e6, e7⟩ := pB_rem (n := 10) (C := C + 1) (by omega) 10 k (sF S 5 0) hk (by omega) (by simp only [gs, Nat.reduceEqDiff, reduceIte]; exact h0)
  obtain ⟨M1, g1, g2, g3, g4, g5, g6, g7⟩ := pM_canl (n := 10) (C := C) (by omega) 10 k (sF M 1 (nI C)) (by omega) (by omega) (by simp only [gs, reduceIte]) (fun j hj => by
    simp only [gs]
    rw [(ht j hj).2.2.1]
    cases bd j
    · exact Or.inl rfl
    · exact Or.inr rfl)
  refine ⟨1, S1, M1, ?_, ?_, ?_⟩
  · unfold f_N_cancel; rw [bo_s (pB_has h0), if_pos hx, if_neg i32_1ne]
    rw [bo_s (x := f_B_remove 10 (nI k) (sF S 5 0)) (S := S1) (v := ()) e1]
  · unfold f_M_cancel; rw [h0', bo_s (pM_in hx'), if_neg i32_1ne, h0', nI_pred]; exact g1
  · refine ⟨?_, ⟨C, fun i => if k ≤ i then bd (i + 1) else bd i, fun i => if k ≤ i then nd (i + 1) else nd i, fun i => if k ≤ i then pr (i + 1) else pr i, fun i => if k ≤ i then qu (i + 1) else qu i, by omega, ?_, ?_, ?_⟩, ?_, ?_⟩
    · obtain ⟨c, fa, fb, fs, fm, hc, h1, h1', hl, hd⟩ := hL
      refine ⟨c, fa, fb, fs, fm, hc, ?_, ?_, fun j hj => ?_, hd⟩
      · rw [e5 0 (by decide)]; simp only [gs, Nat.reduceEqDiff, reduceIte]; exact h1
      · rw [g5 0 (by decide)]; simp only [gs, Nat.reduceEqDiff, reduceIte]; exact h1'
      · rw [e4 1 (by decide) (by decide) (by decide) (by decide), e4 2 (by decide) (by decide) (by decide) (by decide), e4 3 (by decide) (by decide) (by decide) (by decide), e4 4 (by decide) (by decide) (by decide) (by decide), g4 0 (by decide) (by decide) (by decide) (by decide), g4 1 (by decide) (by decide) (by decide) (by decide), g4 2 (by decide) (by decide) (by decide) (by decide), g4 3 (by decide) (by decide) (by decide) (by decide)]
        simp only [gs]; exact hl j hj
    · rw [e2]; rfl
    · rw [g5 1 (by decide)]; simp only [gs, reduceIte]
    · intro i hi
      rw [e3 5 (by simp), e3 6 (by simp), e3 7 (by simp), e3 8 (by simp), g3 4 (by simp), g3 5 (by simp), g3 6 (by simp), g3 7 (by simp)]
      simp only [gs]
      by_cases hki : k ≤ i
      · simp only [if_pos hki, if_pos (show k ≤ i ∧ i + 1 < C + 1 by omega)]
        exact ht (i + 1) (by omega)
      · simp only [if_neg hki, if_neg (show ¬ (k ≤ i ∧ i + 1 < C + 1) by omega)]
        exact ht i (by omega)
    · refine ⟨?_, Or.inl ?_⟩
      · rw [e5 5 (by decide), g2]; simp only [gs, Nat.reduceEqDiff, reduceIte]
      · rw [e5 5 (by decide)]; simp only [gs, Nat.reduceEqDiff, reduceIte]
    · intro h; exfalso; revert h; rw [e5 5 (by decide)]; simp only [gs, Nat.reduceEqDiff, reduceIte]; decide
def addT (S : z_S) (c : Nat) (x1 x2 x3 x4 : Int32) : z_S := sF (sF (sI (sI (sI (sI S 4 (upd (gI S 4) c x1)) 5 (upd (gI S 5) c x2)) 6 (upd (gI S 6) c x3)) 7 (upd (gI S 7) c x4)) 1 (nI (c + 1))) 4 0
theorem zo_step (Rs : z_S → z_S → Prop) (b : Bool) (S M : z_S) (x y z : Int32) (hI : zI Rs S M) : ∃ (n : Nat) (r : Int32) (S1 M1 : z_S), f_N_addStep n (sgI b) x y z S = some (r, S1) ∧ f_M_step n (bI b) x y z M = some (r, M1) ∧ zI Rs S1 M1 := by
  have hI0 := hI
  obtain ⟨hL, ⟨s, bd, nd, pr, qu, hs, h0, h0', ht⟩, hF, hR⟩ := hI
  refine ⟨10, ?_⟩
  by_cases hx : ¬ x < 0 ∧ ¬ (3 : Int32) < x
  case neg =>
    refine ⟨NONE32, S, M, ?_, ?_, hI0⟩
    · unfold f_N_addStep; rw [bo_s (pN_node0 hx), if_pos rfl]; rfl
    · unfold f_M_step; rw [bo_s (pM_out hx), if_pos rfl]; rfl
  by_cases hy : ¬ y < 0 ∧ ¬ (1000 : Int32) < y
  case neg =>
    refine ⟨NONE32, S, M, ?_, ?_, hI0⟩
    · unfold f_N_addStep; rw [bo_s (pN_node1 hx), if_neg i32_1ne, bo_s (pN_out hy), if_pos rfl]; rfl
    · unfold f_M_step; rw [bo_s (pM_in hx), if_neg i32_1ne, bo_s (pM_out hy), if_pos rfl]; rfl
  by_cases hz : ¬ z < 1 ∧ ¬ (1000 : Int32) < z
  case neg =>
    refine ⟨NONE32, S, M, ?_, ?_, hI0⟩
    · unfold f_N_addStep; rw [bo_s (pN_node1 hx), if_neg i32_1ne, bo_s (pN_in hy), if_neg i32_1ne, bo_s (pN_out hz), if_pos rfl]; rfl
    · unfold f_M_step; rw [bo_s (pM_in hx), if_neg i32_1ne, bo_s (pM_in hy), if_neg i32_1ne, bo_s (pM_out hz), if_pos rfl]; rfl
  by_cases h8 : s = 8
  · refine ⟨NONE32, S, M, ?_, ?_, hI0⟩
    · unfold f_N_addStep; rw [bo_s (pN_node1 hx), if_neg i32_1ne, bo_s (pN_in hy), if_neg i32_1ne, bo_s (pN_in hz), if_neg i32_1ne, if_neg (by rw [h0, h8]; decide)]; rfl
    · unfold f_M_step; rw [bo_s (pM_in hx), if_neg i32_1ne, bo_s (pM_in hy), if_neg i32_1ne, bo_s (pM_in hz), if_neg i32_1ne, if_pos (by rw [h0', h8]; rfl)]; rfl
  have hs8 : s < 8 := by omega
  obtain ⟨nn, hnn, rfl⟩ := nI_rng (N := 3) rfl hx
  obtain ⟨pp, hpp, rfl⟩ := nI_rng (N := 1000) rfl hy
  obtain ⟨qq, hq1, hq2, rfl⟩ := nI_rng1 (N := 1000) rfl hz
  have hv : vi (nI s) 8 = true := vi_n (by omega) (by omega)
  have hcl : (nI s).toNatClampNeg = s := cl_n (by omega)
  have hb : vp_nar .boolean (bI b) = bI b := nar01 (by cases b; exact Or.inl rfl; exact Or.inr rfl)
  refine ⟨nI s, addB (sF S 5 0) s (sgI b) (nI nn) (nI pp) (nI qq), addT M s (bI b) (nI nn) (nI pp) (nI qq), ?_, ?_, ?_⟩
  · unfold f_N_addStep; rw [bo_s (pN_node1 hx), if_neg i32_1ne, bo_s (pN_in hy), if_neg i32_1ne, bo_s (pN_in hz), if_neg i32_1ne, if_pos (by rw [h0]; exact nI_lt (a := s) (b := 8) hs8 (by omega)), bo_s (pB_add hs8 (by simp only [gs, Nat.reduceEqDiff, reduceIte]; exact h0))]
  · unfold f_M_step; rw [bo_s (pM_in hx), if_neg i32_1ne, bo_s (pM_in hy), if_neg i32_1ne, bo_s (pM_in hz), if_neg i32_1ne, if_neg (by rw [h0']; exact fun h => h8 ((nI_eq (a := s) (b := 8) (by omega) (by omega)).mp h))]
    unfold f_M_step_64 f_M_step_85 addT
    simp only [gs, h0', hcl, ck_t hv, hb, Nat.reduceEqDiff, reduceIte, nI_1, nI_pred]
  · refine ⟨?_, ⟨s + 1, fun k => if k = s then b else bd k, fun k => if k = s then nn else nd k, fun k => if k = s then pp else pr k, fun k => if k = s then qq else qu k, by omega, ?_, ?_, ?_⟩, ?_, ?_⟩
    · obtain ⟨c, fa, fb, fs, fm, hc, h1, h1', hl, hd⟩ := hL
      refine ⟨c, fa, fb, fs, fm, hc, ?_, ?_, ?_, hd⟩
      · unfold addB; simp only [gs, Nat.reduceEqDiff, reduceIte]; exact h1
      · unfold addT; simp only [gs, Nat.reduceEqDiff, reduceIte]; exact h1'
      · unfold addB addT; simp only [gs, Nat.reduceEqDiff, reduceIte]; exact hl
    · unfold addB; simp only [gs, Nat.reduceEqDiff, reduceIte]
    · unfold addT; simp only [gs, Nat.reduceEqDiff, reduceIte]
    · intro k hk
      by_cases e : k = s
      · subst e
        unfold addB addT
        simp only [gs, Nat.reduceEqDiff, reduceIte, upd_at]
        exact ⟨⟨by omega, hpp, hq1, hq2⟩, ⟨trivial, trivial, trivial, trivial⟩, trivial, trivial, trivial, trivial⟩
      · unfold addB addT
        simp only [gs, Nat.reduceEqDiff, reduceIte, upd_at, if_neg e]
        exact ht k (by omega)
    · unfold mkF addB addT; simp only [gs, Nat.reduceEqDiff, reduceIte]; exact ⟨trivial, Or.inl trivial⟩
    · intro h; exfalso; revert h; unfold addB; simp only [gs, Nat.reduceEqDiff, reduceIte]; decide
theorem zo_bid (Rs : z_S → z_S → Prop) : z_op_bid (zI Rs) := by
  intro S M x y z hI
  obtain ⟨n, r, S1, M1, h1, h2, h3⟩ := zo_step Rs true S M x y z hI
  exact ⟨n, r, S1, M1, by unfold f_N_bid; exact (bo_s h1), by unfold f_M_bid; exact (bo_s h2), h3⟩
theorem zo_offer (Rs : z_S → z_S → Prop) : z_op_offer (zI Rs) := by
  intro S M x y z hI
  obtain ⟨n, r, S1, M1, h1, h2, h3⟩ := zo_step Rs false S M x y z hI
  exact ⟨n, r, S1, M1, by unfold f_N_offer; exact (bo_s h1), by unfold f_M_offer; exact (bo_s h2), h3⟩
theorem zo_steps (Rs : z_S → z_S → Prop) : z_op_steps (zI Rs) := by
  intro S M hI
  obtain ⟨hL, ⟨s, bd, nd, pr, qu, hs, h0, h0', ht⟩, hF, hR⟩ := hI
  exact ⟨0, nI s, S, M, by unfold f_N_steps; rw [h0], by unfold f_M_steps; rw [h0'], hL, ⟨s, bd, nd, pr, qu, hs, h0, h0', ht⟩, hF, hR⟩
theorem zo_lines (Rs : z_S → z_S → Prop) : z_op_lines (zI Rs) := by
  intro S M hI
  obtain ⟨⟨c, fa, fb, fs, fm, hc, h0, h0', hl, hd⟩, hT, hF, hR⟩ := hI
  exact ⟨0, nI c, S, M, by unfold f_N_lines; rw [h0], by unfold f_M_lines; rw [h0'], ⟨c, fa, fb, fs, fm, hc, h0, h0', hl, hd⟩, hT, hF, hR⟩
