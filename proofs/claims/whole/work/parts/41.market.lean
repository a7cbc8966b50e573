/-! the market that both systems hold, and the calls that only change it -/
def NONE32 : Int32 := (-2147483648 : Int32)
def sgI (b : Bool) : Int32 := if b = true then 1 else -1
def bI (b : Bool) : Int32 := if b = true then 1 else 0
def pid (a b : Nat) : Nat := if a < b then b * (b - 1) / 2 + a else a * (a - 1) / 2 + b
def mkL (S M : z_S) (c : Nat) (fa fb fs fm : Nat → Nat) : Prop := c ≤ 6 ∧ gF S 0 = nI c ∧ gF M 0 = nI c ∧ (∀ k, k < c → (fa k < 4 ∧ fb k < 4 ∧ fa k ≠ fb k ∧ 1 ≤ fs k ∧ fs k ≤ 5 ∧ fm k ≤ 1000) ∧ (gI S 1 k = nI (fa k) ∧ gI S 2 k = nI (fb k) ∧ gI S 3 k = nI (fs k) ∧ gI S 4 k = nI (fm k)) ∧ (gI M 0 k = nI (fa k) ∧ gI M 1 k = nI (fb k) ∧ gI M 2 k = nI (fs k) ∧ gI M 3 k = nI (fm k))) ∧ (∀ i k, i < k → k < c → pid (fa i) (fb i) ≠ pid (fa k) (fb k))
def mkT (S M : z_S) (s : Nat) (bd : Nat → Bool) (nd pr qu : Nat → Nat) : Prop := s ≤ 8 ∧ gF S 1 = nI s ∧ gF M 1 = nI s ∧ ∀ j, j < s → (nd j < 4 ∧ pr j ≤ 1000 ∧ 1 ≤ qu j ∧ qu j ≤ 1000) ∧ (gI S 5 j = sgI (bd j) ∧ gI S 6 j = nI (nd j) ∧ gI S 7 j = nI (pr j) ∧ gI S 8 j = nI (qu j)) ∧ (gI M 4 j = bI (bd j) ∧ gI M 5 j = nI (nd j) ∧ gI M 6 j = nI (pr j) ∧ gI M 7 j = nI (qu j))
def mkF (S M : z_S) : Prop := gF S 5 = gF M 4 ∧ (gF S 5 = 0 ∨ gF S 5 = 1)
def zI (Rs : z_S → z_S → Prop) (S M : z_S) : Prop := (∃ (c : Nat) (fa fb fs fm : Nat → Nat), mkL S M c fa fb fs fm) ∧ (∃ (s : Nat) (bd : Nat → Bool) (nd pr qu : Nat → Nat), mkT S M s bd nd pr qu) ∧ mkF S M ∧ (gF S 5 = 1 → Rs S M)
theorem pid_lt : ∀ a, a < 4 → ∀ b, b < 4 → a ≠ b → pid a b < 6 := by decide
def pid_t (a b x y : Nat) : Bool := (a == b) || (x == y) || ((pid a b == pid x y) == ((x == a && y == b) || (x == b && y == a)))
theorem pid_t1 : ((List.range 256).all fun t => pid_t (t / 64) (t / 16 % 4) (t / 4 % 4) (t % 4)) = true := by decide +kernel
theorem pid_eq {a b x y : Nat} (ha : a < 4) (hb : b < 4) (hx : x < 4) (hy : y < 4) (h1 : a ≠ b) (h2 : x ≠ y) : pid a b = pid x y ↔ ((x = a ∧ y = b) ∨ (x = b ∧ y = a)) := by
  have h := List.all_eq_true.mp pid_t1 (a * 64 + b * 16 + x * 4 + y) (List.mem_range.mpr (by omega))
  rw [show (a * 64 + b * 16 + x * 4 + y) / 64 = a by omega, show (a * 64 + b * 16 + x * 4 + y) / 16 % 4 = b by omega, show (a * 64 + b * 16 + x * 4 + y) / 4 % 4 = x by omega, show (a * 64 + b * 16 + x * 4 + y) % 4 = y by omega] at h
  unfold pid_t at h
  simp only [beq_eq_false_iff_ne.mpr h1, beq_eq_false_iff_ne.mpr h2, Bool.false_or, beq_iff_eq] at h
  constructor
  · intro e
    rw [e, beq_self_eq_true] at h
    have h := h.symm
    simpa only [Bool.or_eq_true, Bool.and_eq_true, beq_iff_eq] using h
  · intro e
    have e2 : (x == a && y == b || x == b && y == a) = true := by simpa only [Bool.or_eq_true, Bool.and_eq_true, beq_iff_eq] using e
    rw [e2] at h
    exact beq_iff_eq.mp h
theorem pN_in {n : Nat} {a b c : Int32} {S : z_S} (h : ¬ a < b ∧ ¬ c < a) : f_N_within n a b c S = some (1, S) := by
  unfold f_N_within
  rw [if_neg h.1, if_neg h.2]
  exact ck_t vz_1
theorem pN_out {n : Nat} {a b c : Int32} {S : z_S} (h : ¬ (¬ a < b ∧ ¬ c < a)) : f_N_within n a b c S = some (0, S) := by
  unfold f_N_within
  by_cases h1 : a < b
  · rw [if_pos h1]; exact ck_t vz_0
  · rw [if_neg h1]
    by_cases h2 : c < a
    · rw [if_pos h2]; exact ck_t vz_0
    · exact absurd ⟨h1, h2⟩ h
theorem pM_in {n : Nat} {a b c : Int32} {S : z_S} (h : ¬ a < b ∧ ¬ c < a) : f_M_within n a b c S = some (1, S) := by
  unfold f_M_within
  rw [if_neg h.1, if_neg h.2]
  exact ck_t vz_1
theorem pM_out {n : Nat} {a b c : Int32} {S : z_S} (h : ¬ (¬ a < b ∧ ¬ c < a)) : f_M_within n a b c S = some (0, S) := by
  unfold f_M_within
  by_cases h1 : a < b
  · rw [if_pos h1]; exact ck_t vz_0
  · rw [if_neg h1]
    by_cases h2 : c < a
    · rw [if_pos h2]; exact ck_t vz_0
    · exact absurd ⟨h1, h2⟩ h
theorem pN_node1 {n : Nat} {a : Int32} {S : z_S} (h : ¬ a < 0 ∧ ¬ 3 < a) : f_N_isNode n a S = some (1, S) := by
  unfold f_N_isNode
  rw [bo_s (pN_in h)]
  exact ck_t vz_1
theorem pN_node0 {n : Nat} {a : Int32} {S : z_S} (h : ¬ (¬ a < 0 ∧ ¬ 3 < a)) : f_N_isNode n a S = some (0, S) := by
  unfold f_N_isNode
  rw [bo_s (pN_out h)]
  exact ck_t vz_0
theorem i32_1ne : ¬ (1 : Int32) = 0 := by decide
/-- a number between 0 and N, as such -/
theorem nI_rng {x M : Int32} {N : Nat} (hM : M.toInt = N) (h : ¬ x < 0 ∧ ¬ M < x) : ∃ k : Nat, k ≤ N ∧ x = nI k := nI_of2 hM h.1 (by rw [Int32.le_iff_toInt_le]; have := h.2; rw [Int32.lt_iff_toInt_lt] at this; omega)
theorem nI_rng1 {x M : Int32} {N : Nat} (hM : M.toInt = N) (h : ¬ x < 1 ∧ ¬ M < x) : ∃ k : Nat, 1 ≤ k ∧ k ≤ N ∧ x = nI k := by
  have h1 : ¬ x.toInt < 1 := fun q => h.1 (by rw [Int32.lt_iff_toInt_lt]; exact q)
  obtain ⟨k, hk, e⟩ := nI_rng hM ⟨fun q => h1 (by rw [Int32.lt_iff_toInt_lt] at q; have : (0 : Int32).toInt = 0 := rfl; omega), h.2⟩
  refine ⟨k, ?_, hk, e⟩
  have h2 : M.toInt < 2 ^ 31 := by have := Int32.toInt_lt M; omega
  rw [e, nI_toInt (by omega)] at h1
  omega
theorem pG_joins_2 {n c a b : Nat} {fa fb : Nat → Nat} {S : z_S} (hc : c ≤ 6) (h0 : gF S 0 = nI c) (ha : a < 4) (hb : b < 4) (hl : ∀ k, k < c → (fa k < 4 ∧ fb k < 4) ∧ gI S 1 k = nI (fa k) ∧ gI S 2 k = nI (fb k)) : ∀ q k, k ≤ c → c - k < q → ((∃ i, k ≤ i ∧ i < c ∧ ((fa i = a ∧ fb i = b) ∨ (fa i = b ∧ fb i = a))) → f_G_joins_2 n q (nI a) (nI b) (nI k) S = some (1, S)) ∧ ((¬ ∃ i, k ≤ i ∧ i < c ∧ ((fa i = a ∧ fb i = b) ∨ (fa i = b ∧ fb i = a))) → f_G_joins_2 n q (nI a) (nI b) (nI k) S = some (0, S)) := by
  intro q
  induction q with
  | zero => intro k _ h; omega
  | succ q ih =>
    intro k hk hq
    by_cases e : k = c
    · subst e
      refine ⟨fun ⟨i, h1, h2, _⟩ => by omega, fun _ => ?_⟩
      rw [f_G_joins_2, if_pos (by rw [h0]; exact nI_le (Nat.le_refl _) (by omega))]
    · have hkc : k < c := by omega
      obtain ⟨⟨g1, g2⟩, g3, g4⟩ := hl k hkc
      obtain ⟨i1, i2⟩ := ih (k + 1) (by omega) (by omega)
      have hv : vi (nI k) 6 = true := vi_n (by omega) (by omega)
      have hcl : (nI k).toNatClampNeg = k := cl_n (by omega)
      have e1 : ∀ x y, x < 4 → y < 4 → ((nI x = nI y) ↔ x = y) := fun x y hx hy => nI_eq (by omega) (by omega)
      have st : f_G_joins_2 n (q + 1) (nI a) (nI b) (nI k) S = (if (fa k = a ∧ fb k = b) ∨ (fa k = b ∧ fb k = a) then some (1, S) else f_G_joins_2 n q (nI a) (nI b) (nI (k + 1)) S) := by
        rw [f_G_joins_2, if_neg (by rw [h0]; exact nI_ge hkc (by omega))]
        unfold f_G_joins_30 f_G_joins_52 f_G_joins_50
        simp only [ck_t hv, hcl, g3, g4, e1 _ _ g1 ha, e1 _ _ g2 hb, e1 _ _ g1 hb, e1 _ _ g2 ha, nI_1]
        by_cases a1 : fa k = a <;> by_cases a2 : fb k = b <;> by_cases a3 : fa k = b <;> by_cases a4 : fb k = a <;> simp [a1, a2, a3, a4] <;> (try omega)
      rw [st]
      by_cases m : (fa k = a ∧ fb k = b) ∨ (fa k = b ∧ fb k = a)
      · rw [if_pos m]
        exact ⟨fun _ => rfl, fun h => absurd ⟨k, Nat.le_refl _, hkc, m⟩ h⟩
      · rw [if_neg m]
        refine ⟨fun ⟨i, h1, h2, h3⟩ => i1 ⟨i, ?_, h2, h3⟩, fun h => i2 fun ⟨i, h1, h2, h3⟩ => h ⟨i, by omega, h2, h3⟩⟩
        by_cases e5 : i = k
        · subst e5; exact absurd h3 m
        · omega

theorem pG_joins {n c a b : Nat} {fa fb : Nat → Nat} {S : z_S} (hc : c ≤ 6) (hn : c < n) (h0 : gF S 0 = nI c) (ha : a < 4) (hb : b < 4) (hl : ∀ k, k < c → (fa k < 4 ∧ fb k < 4) ∧ gI S 1 k = nI (fa k) ∧ gI S 2 k = nI (fb k)) : ((∃ i, i < c ∧ ((fa i = a ∧ fb i = b) ∨ (fa i = b ∧ fb i = a))) → f_G_joins n (nI a) (nI b) S = some (1, S)) ∧ ((¬ ∃ i, i < c ∧ ((fa i = a ∧ fb i = b) ∨ (fa i = b ∧ fb i = a))) → f_G_joins n (nI a) (nI b) S = some (0, S)) := by
  obtain ⟨h1, h2⟩ := pG_joins_2 (n := n) hc h0 ha hb hl n 0 (by omega) (by omega)
  unfold f_G_joins
  exact ⟨fun ⟨i, a1, a2⟩ => h1 ⟨i, by omega, a1, a2⟩, fun h => h2 fun ⟨i, _, a1, a2⟩ => h ⟨i, a1, a2⟩⟩
def addG (S : z_S) (c : Nat) (x1 x2 x3 x4 : Int32) : z_S := sF (sI (sI (sI (sI S 1 (upd (gI S 1) c x1)) 2 (upd (gI S 2) c x2)) 3 (upd (gI S 3) c x3)) 4 (upd (gI S 4) c x4)) 0 (nI (c + 1))
theorem pG_add {n c : Nat} {S : z_S} {x1 x2 x3 x4 : Int32} (hc : c < 6) (h0 : gF S 0 = nI c) : f_G_add n x1 x2 x3 x4 S = some (nI c, addG S c x1 x2 x3 x4) := by
  have hv : vi (nI c) 6 = true := vi_n (by omega) (by omega)
  have hcl : (nI c).toNatClampNeg = c := cl_n (by omega)
  have h6 : nI c < (6 : Int32) := nI_lt (a := c) (b := 6) (by omega) (by omega)
  unfold f_G_add f_G_add_32 f_G_add_53 addG
  simp only [gs, h0, hcl, ck_t hv, if_pos h6, Nat.reduceEqDiff, reduceIte, nI_1, nI_pred]
def addB (S : z_S) (c : Nat) (x1 x2 x3 x4 : Int32) : z_S := sF (sI (sI (sI (sI S 5 (upd (gI S 5) c x1)) 6 (upd (gI S 6) c x2)) 7 (upd (gI S 7) c x3)) 8 (upd (gI S 8) c x4)) 1 (nI (c + 1))
theorem pB_add {n c : Nat} {S : z_S} {x1 x2 x3 x4 : Int32} (hc : c < 8) (h0 : gF S 1 = nI c) : f_B_add n x1 x2 x3 x4 S = some (nI c, addB S c x1 x2 x3 x4) := by
  have hv : vi (nI c) 8 = true := vi_n (by omega) (by omega)
  have hcl : (nI c).toNatClampNeg = c := cl_n (by omega)
  have h6 : nI c < (8 : Int32) := nI_lt (a := c) (b := 8) (by omega) (by omega)
  unfold f_B_add f_B_add_32 f_B_add_53 addB
  simp only [gs, h0, hcl, ck_t hv, if_pos h6, Nat.reduceEqDiff, reduceIte, nI_1, nI_pred]
def addM (S : z_S) (c : Nat) (x1 x2 x3 x4 : Int32) : z_S := sF (sF (sI (sI (sI (sI S 0 (upd (gI S 0) c x1)) 1 (upd (gI S 1) c x2)) 2 (upd (gI S 2) c x3)) 3 (upd (gI S 3) c x4)) 0 (nI (c + 1))) 4 0
theorem pM_line_50 {n c a b : Nat} {fa fb : Nat → Nat} {S : z_S} {x3 x4 : Int32} (hc : c ≤ 6) (h0 : gF S 0 = nI c) (ha : a < 4) (hb : b < 4) (hl : ∀ k, k < c → (fa k < 4 ∧ fb k < 4) ∧ gI S 0 k = nI (fa k) ∧ gI S 1 k = nI (fb k)) : ∀ q k, k ≤ c → c - k < q → ((∃ i, k ≤ i ∧ i < c ∧ ((fa i = a ∧ fb i = b) ∨ (fa i = b ∧ fb i = a))) → f_M_line_50 n q (nI a) (nI b) x3 x4 (nI k) S = some (NONE32, S)) ∧ (c < 6 → (¬ ∃ i, k ≤ i ∧ i < c ∧ ((fa i = a ∧ fb i = b) ∨ (fa i = b ∧ fb i = a))) → f_M_line_50 n q (nI a) (nI b) x3 x4 (nI k) S = some (nI c, addM S c (nI a) (nI b) x3 x4)) := by
  intro q
  induction q with
  | zero => intro k _ h; omega
  | succ q ih =>
    intro k hk hq
    by_cases e : k = c
    · subst e
      refine ⟨fun ⟨i, h1, h2, _⟩ => by omega, fun h6 _ => ?_⟩
      have hv : vi (nI k) 6 = true := vi_n (by omega) (by omega)
      have hcl : (nI k).toNatClampNeg = k := cl_n (by omega)
      rw [f_M_line_50, if_pos (by rw [h0]; exact nI_le (Nat.le_refl _) (by omega))]
      unfold f_M_line_132 f_M_line_153 addM
      simp only [gs, h0, hcl, ck_t hv, Nat.reduceEqDiff, reduceIte, nI_1, nI_pred]
    · have hkc : k < c := by omega
      obtain ⟨⟨g1, g2⟩, g3, g4⟩ := hl k hkc
      obtain ⟨i1, i2⟩ := ih (k + 1) (by omega) (by omega)
      have hv : vi (nI k) 6 = true := vi_n (by omega) (by omega)
      have hcl : (nI k).toNatClampNeg = k := cl_n (by omega)
      have e1 : ∀ x y, x < 4 → y < 4 → ((nI x = nI y) ↔ x = y) := fun x y hx hy => nI_eq (by omega) (by omega)
      have st : f_M_line_50 n (q + 1) (nI a) (nI b) x3 x4 (nI k) S = (if (fa k = a ∧ fb k = b) ∨ (fa k = b ∧ fb k = a) then some (NONE32, S) else f_M_line_50 n q (nI a) (nI b) x3 x4 (nI (k + 1)) S) := by
        rw [f_M_line_50, if_neg (by rw [h0]; exact nI_ge hkc (by omega))]
        unfold f_M_line_81 f_M_line_103 f_M_line_106 NONE32
        simp only [ck_t hv, hcl, g3, g4, e1 _ _ g1 ha, e1 _ _ g2 hb, e1 _ _ g1 hb, e1 _ _ g2 ha, nI_1]
        by_cases a1 : fa k = a <;> by_cases a2 : fb k = b <;> by_cases a3 : fa k = b <;> by_cases a4 : fb k = a <;> simp [a1, a2, a3, a4] <;> (try omega)
      rw [st]
      by_cases m : (fa k = a ∧ fb k = b) ∨ (fa k = b ∧ fb k = a)
      · rw [if_pos m]
        exact ⟨fun _ => rfl, fun _ h => absurd ⟨k, Nat.le_refl _, hkc, m⟩ h⟩
      · rw [if_neg m]
        refine ⟨fun ⟨i, h1, h2, h3⟩ => i1 ⟨i, ?_, h2, h3⟩, fun h6 h => i2 h6 fun ⟨i, h1, h2, h3⟩ => h ⟨i, by omega, h2, h3⟩⟩
        by_cases e5 : i = k
        · subst e5; exact absurd h3 m
        · omega
theorem zo_line (Rs : z_S → z_S → Prop) : z_op_line (zI Rs) := by
  intro S M a0 a1 a2 a3 hI
  have hI0 := hI
  obtain ⟨⟨c, fa, fb, fs, fm, hc, h0, h0', hl, hd⟩, hT, hF, hR⟩ := hI
  refine ⟨10, ?_⟩
  -- the refused calls
  have rN : ∀ r, f_N_line 10 a0 a1 a2 a3 S = some (NONE32, S) → f_M_line 10 a0 a1 a2 a3 M = some (NONE32, M) → r = NONE32 → ∃ (r : Int32) (S1 M1 : z_S), f_N_line 10 a0 a1 a2 a3 S = some (r, S1) ∧ f_M_line 10 a0 a1 a2 a3 M = some (r, M1) ∧ zI Rs S1 M1 := fun r h1 h2 _ => ⟨NONE32, S, M, h1, h2, hI0⟩
  by_cases ha : ¬ a0 < 0 ∧ ¬ (3 : Int32) < a0
  case neg =>
    refine rN NONE32 ?_ ?_ rfl
    · unfold f_N_line; rw [bo_s (pN_node0 ha), if_pos rfl]; rfl
    · unfold f_M_line; rw [bo_s (pM_out ha), if_pos rfl]; rfl
  by_cases hb : ¬ a1 < 0 ∧ ¬ (3 : Int32) < a1
  case neg =>
    refine rN NONE32 ?_ ?_ rfl
    · unfold f_N_line; rw [bo_s (pN_node1 ha), if_neg i32_1ne, bo_s (pN_node0 hb), if_pos rfl]; rfl
    · unfold f_M_line; rw [bo_s (pM_in ha), if_neg i32_1ne, bo_s (pM_out hb), if_pos rfl]; rfl
  by_cases hab : a0 = a1
  · refine rN NONE32 ?_ ?_ rfl
    · unfold f_N_line; rw [bo_s (pN_node1 ha), if_neg i32_1ne, bo_s (pN_node1 hb), if_neg i32_1ne, if_pos hab]; rfl
    · unfold f_M_line; rw [bo_s (pM_in ha), if_neg i32_1ne, bo_s (pM_in hb), if_neg i32_1ne, if_pos hab]; rfl
  obtain ⟨a, ha4, rfl⟩ := nI_rng (N := 3) rfl ha
  obtain ⟨b, hb4, rfl⟩ := nI_rng (N := 3) rfl hb
  have hab' : a ≠ b := fun e => hab (by rw [e])
  have hlN : ∀ k, k < c → (fa k < 4 ∧ fb k < 4) ∧ gI S 1 k = nI (fa k) ∧ gI S 2 k = nI (fb k) := fun k hk => ⟨⟨(hl k hk).1.1, (hl k hk).1.2.1⟩, (hl k hk).2.1.1, (hl k hk).2.1.2.1⟩
  have hlM : ∀ k, k < c → (fa k < 4 ∧ fb k < 4) ∧ gI M 0 k = nI (fa k) ∧ gI M 1 k = nI (fb k) := fun k hk => ⟨⟨(hl k hk).1.1, (hl k hk).1.2.1⟩, (hl k hk).2.2.1, (hl k hk).2.2.2.1⟩
  obtain ⟨j1, j0⟩ := pG_joins (n := 10) hc (by omega) h0 (by omega : a < 4) (by omega : b < 4) hlN
  by_cases hj : ∃ i, i < c ∧ ((fa i = a ∧ fb i = b) ∨ (fa i = b ∧ fb i = a))
  · have eN : f_N_line 10 (nI a) (nI b) a2 a3 S = some (NONE32, S) := by
      unfold f_N_line; rw [bo_s (pN_node1 ha), if_neg i32_1ne, bo_s (pN_node1 hb), if_neg i32_1ne, if_neg hab, bo_s (j1 hj), if_neg i32_1ne]; rfl
    refine rN NONE32 eN ?_ rfl
    by_cases hs : ¬ a2 < 1 ∧ ¬ (5 : Int32) < a2
    · by_cases hm : ¬ a3 < 0 ∧ ¬ (1000 : Int32) < a3
      · unfold f_M_line; rw [bo_s (pM_in ha), if_neg i32_1ne, bo_s (pM_in hb), if_neg i32_1ne, if_neg hab, bo_s (pM_in hs), if_neg i32_1ne, bo_s (pM_in hm), if_neg i32_1ne]
        obtain ⟨i, hi1, hi2⟩ := hj
        exact (pM_line_50 (n := 10) hc h0' (by omega) (by omega) hlM 10 0 (by omega) (by omega)).1 ⟨i, by omega, hi1, hi2⟩
      · unfold f_M_line; rw [bo_s (pM_in ha), if_neg i32_1ne, bo_s (pM_in hb), if_neg i32_1ne, if_neg hab, bo_s (pM_in hs), if_neg i32_1ne, bo_s (pM_out hm), if_pos rfl]; rfl
    · unfold f_M_line; rw [bo_s (pM_in ha), if_neg i32_1ne, bo_s (pM_in hb), if_neg i32_1ne, if_neg hab, bo_s (pM_out hs), if_pos rfl]; rfl
  by_cases hs : ¬ a2 < 1 ∧ ¬ (5 : Int32) < a2
  case neg =>
    refine rN NONE32 ?_ ?_ rfl
    · unfold f_N_line; rw [bo_s (pN_node1 ha), if_neg i32_1ne, bo_s (pN_node1 hb), if_neg i32_1ne, if_neg hab, bo_s (j0 hj), if_pos rfl, bo_s (pN_out hs), if_pos rfl]; rfl
    · unfold f_M_line; rw [bo_s (pM_in ha), if_neg i32_1ne, bo_s (pM_in hb), if_neg i32_1ne, if_neg hab, bo_s (pM_out hs), if_pos rfl]; rfl
  by_cases hm : ¬ a3 < 0 ∧ ¬ (1000 : Int32) < a3
  case neg =>
    refine rN NONE32 ?_ ?_ rfl
    · unfold f_N_line; rw [bo_s (pN_node1 ha), if_neg i32_1ne, bo_s (pN_node1 hb), if_neg i32_1ne, if_neg hab, bo_s (j0 hj), if_pos rfl, bo_s (pN_in hs), if_neg i32_1ne, bo_s (pN_out hm), if_pos rfl]; rfl
    · unfold f_M_line; rw [bo_s (pM_in ha), if_neg i32_1ne, bo_s (pM_in hb), if_neg i32_1ne, if_neg hab, bo_s (pM_in hs), if_neg i32_1ne, bo_s (pM_out hm), if_pos rfl]; rfl
  -- six lines join every two nodes
  have hc6 : c < 6 := by
    refine Classical.byContradiction fun h6 => ?_
    have e6 : c = 6 := by omega
    subst e6
    refine pigeon 6 (fun i => if i < 6 then pid (fa i) (fb i) else pid a b) (fun i hi => ?_) (fun i j hij hj6 => ?_)
    · show (if i < 6 then pid (fa i) (fb i) else pid a b) < 6
      by_cases hi6 : i < 6
      · rw [if_pos hi6]
        exact pid_lt _ (hl i hi6).1.1 _ (hl i hi6).1.2.1 (hl i hi6).1.2.2.1
      · rw [if_neg hi6]
        exact pid_lt _ (by omega) _ (by omega) hab'
    · show (if i < 6 then pid (fa i) (fb i) else pid a b) ≠ (if j < 6 then pid (fa j) (fb j) else pid a b)
      rw [if_pos (by omega : i < 6)]
      by_cases hj6' : j < 6
      · rw [if_pos hj6']
        exact hd i j hij hj6'
      · rw [if_neg hj6']
        intro e
        refine hj ⟨i, by omega, ?_⟩
        have h9 := (pid_eq (by omega : a < 4) (by omega : b < 4) (hl i (by omega)).1.1 (hl i (by omega)).1.2.1 hab' (hl i (by omega)).1.2.2.1).mp e.symm
        omega
  obtain ⟨st, hs1, hs5, rfl⟩ := nI_rng1 (N := 5) rfl hs
  obtain ⟨mo, hmo, rfl⟩ := nI_rng (N := 1000) rfl hm
  have h05 : gF (sF S 5 0) 0 = nI c := by simp only [gs, Nat.reduceEqDiff, reduceIte]; exact h0
  refine ⟨nI c, addG (sF S 5 0) c (nI a) (nI b) (nI st) (nI mo), addM M c (nI a) (nI b) (nI st) (nI mo), ?_, ?_, ?_⟩
  · unfold f_N_line; rw [bo_s (pN_node1 ha), if_neg i32_1ne, bo_s (pN_node1 hb), if_neg i32_1ne, if_neg hab, bo_s (j0 hj), if_pos rfl, bo_s (pN_in hs), if_neg i32_1ne, bo_s (pN_in hm), if_neg i32_1ne, if_pos (by rw [h0]; exact nI_lt (a := c) (b := 6) hc6 (by omega)), bo_s (pG_add hc6 h05)]
  · unfold f_M_line; rw [bo_s (pM_in ha), if_neg i32_1ne, bo_s (pM_in hb), if_neg i32_1ne, if_neg hab, bo_s (pM_in hs), if_neg i32_1ne, bo_s (pM_in hm), if_neg i32_1ne]
    exact (pM_line_50 (n := 10) hc h0' (by omega) (by omega) hlM 10 0 (by omega) (by omega)).2 hc6 fun ⟨i, _, h1, h2⟩ => hj ⟨i, h1, h2⟩
  · refine ⟨⟨c + 1, fun k => if k = c then a else fa k, fun k => if k = c then b else fb k, fun k => if k = c then st else fs k, fun k => if k = c then mo else fm k, by omega, ?_, ?_, ?_, ?_⟩, ?_, ?_, ?_⟩
    · unfold addG; simp only [gs, Nat.reduceEqDiff, reduceIte]
    · unfold addM; simp only [gs, Nat.reduceEqDiff, reduceIte]
    · intro k hk
      by_cases e : k = c
      · subst e
        unfold addG addM
        simp only [gs, Nat.reduceEqDiff, reduceIte, upd_at]
        exact ⟨⟨by omega, by omega, hab', hs1, hs5, hmo⟩, ⟨trivial, trivial, trivial, trivial⟩, trivial, trivial, trivial, trivial⟩
      · unfold addG addM
        simp only [gs, Nat.reduceEqDiff, reduceIte, upd_at, if_neg e]
        exact hl k (by omega)
    · intro i k hik hk
      simp only [if_neg (by omega : ¬ i = c)]
      by_cases e : k = c
      · simp only [if_pos e]
        intro h
        refine hj ⟨i, by omega, ?_⟩
        have h9 := (pid_eq (by omega : a < 4) (by omega : b < 4) (hl i (by omega)).1.1 (hl i (by omega)).1.2.1 hab' (hl i (by omega)).1.2.2.1).mp h.symm
        omega
      · simp only [if_neg e]
        exact hd i k hik (by omega)
    · obtain ⟨s, bd, nd, pr, qu, t1, t2, t3, t4⟩ := hT
      refine ⟨s, bd, nd, pr, qu, t1, ?_, ?_, ?_⟩
      · unfold addG; simp only [gs, Nat.reduceEqDiff, reduceIte]; exact t2
      · unfold addM; simp only [gs, Nat.reduceEqDiff, reduceIte]; exact t3
      · unfold addG addM; simp only [gs, Nat.reduceEqDiff, reduceIte]; exact t4
    · unfold mkF addG addM; simp only [gs, Nat.reduceEqDiff, reduceIte]; exact ⟨trivial, Or.inl trivial⟩
    · intro h; exfalso; revert h; unfold addG; simp only [gs, Nat.reduceEqDiff, reduceIte]; decide
