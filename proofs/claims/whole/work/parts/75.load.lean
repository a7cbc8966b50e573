/-! load makes the table of the start -/
def cB (S : z_S) (x f : Nat) (B : Bk) : Prop := gF S f = nI B.1 ∧ ∀ j, j < B.1 → q3 (gI S x j) = B.2.2.1 j ∧ gI S (x + 1) j = nI (B.2.1 j) ∧ q3 (gI S (x + 2) j) = B.2.2.2.1 j ∧ q3 (gI S (x + 3) j) = B.2.2.2.2 j
def LF (S S' : z_S) : Prop := (∀ t, t ≠ 3 → t ≠ 4 → gF S' t = gF S t) ∧ (∀ k, k ≠ 0 → k ≠ 1 → gG S' k = gG S k) ∧ (∀ t, (t < 13 ∨ 18 < t) → gI S' t = gI S t)
theorem LF_tr {S T U : z_S} (h : LF S T) (h' : LF T U) : LF S U := ⟨fun t a b => (h'.1 t a b).trans (h.1 t a b), fun t a b => (h'.2.1 t a b).trans (h.2.1 t a b), fun t a => (h'.2.2 t a).trans (h.2.2 t a)⟩
theorem nine {k : Nat} (h : k < 6) : (9 : Int32) + nI k = nI (9 + k) := by
  rcases (show k = 0 ∨ k = 1 ∨ k = 2 ∨ k = 3 ∨ k = 4 ∨ k = 5 by omega) with e | e | e | e | e | e <;> subst e <;> decide
theorem sI_up (S : z_S) (a b : Nat) (v : Int32) (x y : Nat) : gI (sI S a (upd (gI S a) b v)) x y = if x = a ∧ y = b then v else gI S x y := by
  rw [show gI (sI S a (upd (gI S a) b v)) x = if x = a then upd (gI S a) b v else gI S x from rfl]
  by_cases q : x = a
  · subst q
    rw [if_pos rfl, upd_at]
    by_cases q2 : y = b
    · rw [if_pos q2, if_pos ⟨rfl, q2⟩]
    · rw [if_neg q2, if_neg (fun h => q2 h.2)]
  · rw [if_neg q, if_neg (fun h => q h.1)]
section LOAD
variable {N : Net} {B : Bk} {m r : Nat} {a : Rat}
theorem pl_share (hN : netOk N) (hr : r < 4) {S : z_S} (hc : cN S N) (hA : AR S N r) {k n : Nat} (hk : k < N.1) (hn : n < 4) : ∃ v, f_G_share m (nI k) (nI n) S = some (v, S) ∧ q6 v = (N.2.2.2.1 k : Rat) * (Adj (LN N) r (N.2.2.1 k) n - Adj (LN N) r (N.2.1 k) n) := by
  have h6 := hN.1
  obtain ⟨c1, c2, c3, c4⟩ := hc.2 k hk
  obtain ⟨n1, n2, n3, n4, n5, n6⟩ := hN.2.1 k hk
  have hv : vi (nI k) 6 = true := vi_n (by omega) (by omega)
  have e1 := hA (N.2.2.1 k) n n2 hn
  have e2 := hA (N.2.1 k) n n1 hn
  have hz := isZ_sub (Adj_Z (r := r) hN (N.2.2.1 k) n) (Adj_Z (r := r) hN (N.2.1 k) n)
  have e3 : q6 (gJ S (4 + N.2.2.1 k) n - gJ S (4 + N.2.1 k) n) = Adj (LN N) r (N.2.2.1 k) n - Adj (LN N) r (N.2.1 k) n := by
    rw [q6_sub (by rw [e1, e2]; exact hz) (by omega), e1, e2]
  have e4 : q6 (nI (N.2.2.2.1 k)).toInt64 = (N.2.2.2.1 k : Rat) := by rw [q6_i, q3_nI (by omega)]
  refine ⟨(nI (N.2.2.2.1 k)).toInt64 * (gJ S (4 + N.2.2.1 k) n - gJ S (4 + N.2.1 k) n), ?_, ?_⟩
  · unfold f_G_share
    have va : vi (nI (N.2.1 k)) 4 = true := vi_n (by omega) (by omega)
    have vb : vi (nI (N.2.2.1 k)) 4 = true := vi_n (by omega) (by omega)
    have vn : vi (nI n) 4 = true := vi_n (by omega) (by omega)
    have ka : (nI (N.2.1 k)).toNatClampNeg = N.2.1 k := cl_n (by omega)
    have kb : (nI (N.2.2.1 k)).toNatClampNeg = N.2.2.1 k := cl_n (by omega)
    have kn : (nI n).toNatClampNeg = n := cl_n (by omega)
    have kk : (nI k).toNatClampNeg = k := cl_n (by omega)
    simp only [ck_t hv, kk, c1, c2, c3, ck_t va, ck_t vb, ck_t vn, ka, kb, kn]
  · rw [q6_mul (K := 5 * (450 + 450)) (by rw [e3, e4]; exact isZ_mul (isZ_nat n5) hz) (by omega), e3, e4]
theorem pl_row {i u : Nat} (hi : i < 8) (hu : u < 16) (x y : Int32) (S : z_S) : ∃ S', f_P_placeRow m (nI i) (nI u) x y S = some ((), S') ∧ gF S' = gF S ∧ gG S' = gG S ∧ gJ S' = gJ S ∧ (∀ t, t ≠ 13 → t ≠ 15 → t ≠ 16 → gI S' t = gI S t) ∧ (∀ j, gI S' 13 j = if j = i then nI u else gI S 13 j) ∧ (∀ j, gI S' 15 j = if j = u then x else gI S 15 j) ∧ (∀ j, gI S' 16 j = if j = u then y else gI S 16 j) := by
  refine ⟨sI (sI (sI S 13 (upd (gI S 13) i (nI u))) 15 (upd (gI (sI S 13 (upd (gI S 13) i (nI u))) 15) u x)) 16 (upd (gI (sI (sI S 13 (upd (gI S 13) i (nI u))) 15 (upd (gI (sI S 13 (upd (gI S 13) i (nI u))) 15) u x)) 16) u y), ?_, rfl, rfl, rfl, fun t h1 h2 h3 => ?_, fun j => ?_, fun j => ?_, fun j => ?_⟩
  · unfold f_P_placeRow f_P_placeRow_14
    rw [ck_t (vi_n hi (by omega)), ck_t (vi_n hu (by omega)), ck_t (vi_n hu (by omega)), cl_n (by omega), cl_n (by omega)]
  · simp only [gs, if_neg h1, if_neg h2, if_neg h3]
  · simp only [sI_up, Nat.reduceEqDiff, false_and, if_false, true_and]
  · simp only [sI_up, Nat.reduceEqDiff, false_and, if_false, true_and]
  · simp only [sI_up, Nat.reduceEqDiff, false_and, if_false, true_and]
theorem pl_col {j : Nat} (hj : j < 8) (x : Int32) (S : z_S) : ∃ S', f_P_placeColumn m (nI j) x S = some ((), S') ∧ gF S' = gF S ∧ gG S' = gG S ∧ gJ S' = gJ S ∧ (∀ t, (t < 14 ∨ 18 < t) → gI S' t = gI S t) ∧ (∀ u, gI S' 14 u = if u = j then nI j else gI S 14 u) ∧ (∀ u, gI S' 15 u = if u = j then 0 else gI S 15 u) ∧ (∀ u, gI S' 16 u = if u = j then x else gI S 16 u) ∧ (∀ u, gI S' 17 u = if u = j then 0 else gI S 17 u) ∧ (∀ u, gI S' 18 u = if u = j then 0 else gI S 18 u) := by
  have hT : ∃ T, T = sI S 14 (upd (gI S 14) j (nI j)) := ⟨_, rfl⟩
  obtain ⟨T, hT⟩ := hT
  have hU : ∃ U, U = sI T 15 (upd (gI T 15) j 0) := ⟨_, rfl⟩
  obtain ⟨U, hU⟩ := hU
  have hV : ∃ V, V = sI U 16 (upd (gI U 16) j x) := ⟨_, rfl⟩
  obtain ⟨V, hV⟩ := hV
  have hW : ∃ W, W = sI V 17 (upd (gI V 17) j 0) := ⟨_, rfl⟩
  obtain ⟨W, hW⟩ := hW
  have hX : ∃ X, X = sI W 18 (upd (gI W 18) j (vp_nar .boolean 0)) := ⟨_, rfl⟩
  obtain ⟨X, hX⟩ := hX
  have at0 : ∀ t u, gI X t u = if t = 18 ∧ u = j then vp_nar .boolean 0 else if t = 17 ∧ u = j then 0 else if t = 16 ∧ u = j then x else if t = 15 ∧ u = j then 0 else if t = 14 ∧ u = j then nI j else gI S t u := fun t u => by
    rw [hX, sI_up, hW, sI_up, hV, sI_up, hU, sI_up, hT, sI_up]
  refine ⟨X, ?_, by rw [hX, hW, hV, hU, hT]; rfl, by rw [hX, hW, hV, hU, hT]; rfl, by rw [hX, hW, hV, hU, hT]; rfl, fun t h => ?_, fun u => ?_, fun u => ?_, fun u => ?_, fun u => ?_, fun u => ?_⟩
  · unfold f_P_placeColumn f_P_placeColumn_14 f_P_placeColumn_28
    rw [ck_t (vi_n hj (by omega)), ck_t (vi_n (by omega) (by omega)), ck_t (vi_n (by omega) (by omega)), ck_t (vi_n (by omega) (by omega)), ck_t (vi_n (by omega) (by omega)), cl_n (by omega), hX, hW, hV, hU, hT]
  · funext u
    rw [at0, if_neg (by omega), if_neg (by omega), if_neg (by omega), if_neg (by omega), if_neg (by omega)]
  · rw [at0]; simp only [Nat.reduceEqDiff, false_and, if_false, true_and]
  · rw [at0]; simp only [Nat.reduceEqDiff, false_and, if_false, true_and]
  · rw [at0]; simp only [Nat.reduceEqDiff, false_and, if_false, true_and]
  · rw [at0]; simp only [Nat.reduceEqDiff, false_and, if_false, true_and]
  · rw [at0, show vp_nar .boolean (0 : Int32) = 0 from rfl]; simp only [Nat.reduceEqDiff, false_and, if_false, true_and]
def LD (S : z_S) (N : Net) (B : Bk) (r x f : Nat) : Prop := cN S N ∧ AR S N r ∧ q6 (gG S 1) = Tr (LN N) r ∧ cB S x f B
theorem LD_tr {S T : z_S} {x f : Nat} (hx : x + 3 < 13) (h : LD S N B r x f) (h1 : gF T = gF S) (h2 : gG T = gG S) (h3 : ∀ t, t < 13 → gI T t = gI S t) (h4 : ∀ t, t < 8 → gJ T t = gJ S t) : LD T N B r x f := by
  obtain ⟨a1, a2, a3, a4⟩ := h
  refine ⟨⟨by rw [h1]; exact a1.1, by rw [h3 1 (by omega), h3 2 (by omega), h3 3 (by omega), h3 4 (by omega)]; exact a1.2⟩, fun x y hx hy => by rw [h4 (4 + x) (by omega)]; exact a2 x y hx hy, by rw [h2]; exact a3, by rw [h1]; exact a4.1, ?_⟩
  rw [h3 x (by omega), h3 (x + 1) (by omega), h3 (x + 2) (by omega), h3 (x + 3) (by omega)]
  exact a4.2
theorem pl_prs (hB : bkOk B) {s p : Int32} {j : Nat} (hj : j < B.1) (h1 : q3 s = B.2.2.1 j) (h2 : q3 p = B.2.2.2.1 j) : q6 (-s).toInt64 = - B.2.2.1 j ∧ q6 (s * p).toInt64 = B.2.2.1 j * B.2.2.2.1 j ∧ isZ (B.2.2.1 j) 1 := by
  obtain ⟨b1, b2, b3, b4, b5⟩ := hB.2 j hj
  have hz : isZ (B.2.2.1 j) 1 := by
    rcases b2 with e | e <;> rw [e]
    · exact ⟨1, rfl, by omega, by omega⟩
    · exact ⟨-1, rfl, by omega, by omega⟩
  refine ⟨?_, ?_, hz⟩
  · rw [q6_i, q3_neg (K := 1) (by rw [h1]; exact hz) (by omega), h1]
  · rw [q6_i, q3_mul (K := 1 * 2000) (by rw [h1, h2]; exact isZ_mul hz b3) (by omega), h1, h2]
theorem pl_cells (hN : netOk N) (hB : bkOk B) (hr : r < 4) {k116 : Int32 → z_S → Option (Int32 × z_S)} {j : Nat} (hj : j < B.1) : ∀ q k (S : z_S), k ≤ N.1 → N.1 - k < q → LD S N B r 5 1 → ∃ S', f_P_load_141 m k116 q (nI j) (nI k) S = k116 (nI (j + 1)) S' ∧ gF S' = gF S ∧ gG S' = gG S ∧ gI S' = gI S ∧ (∀ t y, (t < 8 + k ∨ y ≠ j) → gJ S' t y = gJ S t y) ∧ (∀ i, k ≤ i → i < N.1 + 2 → q6 (gJ S' (8 + i) j) = sC N B r i j) := by
  have h6 := hN.1
  have h8 := hB.1
  obtain ⟨b1, b2, b3, b4, b5⟩ := hB.2 j hj
  have hvj : vi (nI j) 8 = true := vi_n (by omega) (by omega)
  have hcj : (nI j).toNatClampNeg = j := cl_n (by omega)
  intro q
  induction q with
  | zero => intro k S _ h; omega
  | succ q ih =>
    intro k S hk hq hD
    obtain ⟨d1, d2, d3, d4⟩ := hD
    obtain ⟨g1, g2, g3, g4⟩ := d4.2 j hj
    obtain ⟨p1, p2, p3⟩ := pl_prs hB hj g1 g3
    by_cases e : k = N.1
    · have hT : ∃ T, T = sJ S (8 + N.1) (vp_updL (gJ S (8 + N.1)) j ((-(gI S 5 j)).toInt64 * gG S 1)) := ⟨_, rfl⟩
      obtain ⟨T, hT⟩ := hT
      have hU : ∃ U, U = sJ T (8 + (N.1 + 1)) (vp_updL (gJ T (8 + (N.1 + 1))) j ((gI T 5 j * gI T 7 j).toInt64 * gG T 1)) := ⟨_, rfl⟩
      obtain ⟨U, hU⟩ := hU
      have at0 : ∀ x y, gJ U x y = if x = 8 + (N.1 + 1) ∧ y = j then (gI S 5 j * gI S 7 j).toInt64 * gG S 1 else if x = 8 + N.1 ∧ y = j then (-(gI S 5 j)).toInt64 * gG S 1 else gJ S x y := fun x y => by rw [hU, sJ_up, hT, sJ_up]; rfl
      refine ⟨U, ?_, by rw [hU, hT]; rfl, by rw [hU, hT]; rfl, by rw [hU, hT]; rfl, fun t y h => ?_, fun i i1 i2 => ?_⟩
      · rw [f_P_load_141, if_pos (by rw [d1.1]; exact nI_le (by omega) (by omega)), d1.1, ck_t (vi_n (by omega) (by omega)), ck_t hvj, ck_t hvj, hcj, cl_n (by omega), ← hT]
        unfold f_P_load_214 f_P_load_249
        rw [show gF T 0 = nI N.1 by rw [hT]; exact d1.1, nI_1, ck_t (vi_n (by omega) (by omega)), ck_t hvj, ck_t hvj, ck_t hvj, hcj, cl_n (by omega), nI_1, ← hU]
      · rw [at0, if_neg (by omega), if_neg (by omega)]
      · rw [at0]
        by_cases e2 : i = N.1
        · rw [if_neg (by omega), if_pos (by omega)]
          unfold sC
          rw [if_neg (by omega), if_pos e2, q6_mul (K := 1 * 27000) (by rw [p1, d3]; exact isZ_mul (isZ_neg p3) (Tr_Z hN)) (by omega), p1, d3]
        · rw [if_pos (by omega)]
          unfold sC
          rw [if_neg (by omega), if_neg e2, if_pos (by omega), q6_mul (K := 1 * 2000 * 27000) (by rw [p2, d3]; exact isZ_mul (isZ_mul p3 b3) (Tr_Z hN)) (by omega), p2, d3]
    · have hkc : k < N.1 := by omega
      obtain ⟨v, v1, v2⟩ := pl_share (m := m) hN hr d1 d2 hkc b1
      have hT : ∃ T, T = sJ S (8 + k) (vp_updL (gJ S (8 + k)) j ((gI S 5 j).toInt64 * v)) := ⟨_, rfl⟩
      obtain ⟨T, hT⟩ := hT
      have at0 : ∀ x y, gJ T x y = if x = 8 + k ∧ y = j then (gI S 5 j).toInt64 * v else gJ S x y := fun x y => by rw [hT, sJ_up]
      obtain ⟨S', h1, h2, h3, h4, h5, h7⟩ := ih (k + 1) T (by omega) (by omega) (LD_tr (by omega) ⟨d1, d2, d3, d4⟩ (by rw [hT]; rfl) (by rw [hT]; rfl) (fun t _ => by rw [hT]; rfl) (fun t ht => by funext y; rw [at0, if_neg (by omega)]))
      refine ⟨S', ?_, by rw [h2, hT]; rfl, by rw [h3, hT]; rfl, by rw [h4, hT]; rfl, fun t y h => ?_, fun i i1 i2 => ?_⟩
      · rw [f_P_load_141, if_neg (by rw [d1.1]; exact nI_ge hkc (by omega)), ck_t (vi_n (by omega) (by omega)), ck_t hvj, ck_t hvj, hcj, g2, bo_s v1, ck_t hvj, cl_n (by omega)]
        unfold f_P_load_182
        rw [nI_1, ← h1, hT]
      · rw [h5 t y (by omega), at0, if_neg (by omega)]
      · by_cases e2 : i = k
        · rw [e2, h5 (8 + k) j (by omega), at0, if_pos ⟨rfl, rfl⟩]
          unfold sC
          have hs : q6 (gI S 5 j).toInt64 = B.2.2.1 j := by rw [q6_i]; exact g1
          have hz : isZ ((N.2.2.2.1 k : Rat) * (Adj (LN N) r (N.2.2.1 k) (B.2.1 j) - Adj (LN N) r (N.2.1 k) (B.2.1 j))) (5 * (450 + 450)) := isZ_mul (isZ_nat (hN.2.1 k hkc).2.2.2.2.1) (isZ_sub (Adj_Z hN _ _) (Adj_Z hN _ _))
          rw [if_pos hkc, q6_mul (K := 1 * (5 * (450 + 450))) (by rw [hs, v2]; exact isZ_mul p3 hz) (by omega), hs, v2]
        · exact h7 i (by omega) i2
def CI (S : z_S) (N : Net) (B : Bk) (r j : Nat) : Prop := ∀ i, i < j → gI S 14 i = nI i ∧ gI S 15 i = 0 ∧ q3 (gI S 16 i) = B.2.2.2.2 i ∧ gI S 17 i = 0 ∧ gI S 18 i = 0 ∧ ∀ k, k < N.1 + 2 → q6 (gJ S (8 + k) i) = sC N B r k i
theorem pl_cols (hN : netOk N) (hB : bkOk B) (hr : r < 4) (hm : 8 < m) : ∀ q j (S : z_S), j ≤ B.1 → B.1 - j < q → LD S N B r 5 1 → gF S 4 = nI B.1 → CI S N B r j → ∃ S', f_P_load_116 m q (nI j) S = some (1, S') ∧ gF S' = gF S ∧ gG S' = gG S ∧ (∀ t, (t < 14 ∨ 18 < t) → gI S' t = gI S t) ∧ (∀ u, B.1 ≤ u → gI S' 15 u = gI S 15 u ∧ gI S' 16 u = gI S 16 u) ∧ CI S' N B r B.1 := by
  have h6 := hN.1
  have h8 := hB.1
  intro q
  induction q with
  | zero => intro j S _ h; omega
  | succ q ih =>
    intro j S hj hq hD h4 hC
    by_cases e : j = B.1
    · refine ⟨S, ?_, rfl, rfl, fun _ _ => rfl, fun _ _ => ⟨rfl, rfl⟩, by rw [← e]; exact hC⟩
      rw [f_P_load_116, if_pos (by rw [h4]; exact nI_le (by omega) (by omega))]
    · have hjs : j < B.1 := by omega
      have hq0 := (hD.2.2.2.2 j hjs).2.2.2
      obtain ⟨T, t1, t2, t3, t4, t5, t6, t7, t8, t9, t10⟩ := pl_col (m := m) (show j < 8 by omega) (gI S 8 j) S
      have hDT : LD T N B r 5 1 := LD_tr (by omega) hD t2 t3 (fun t ht => t5 t (by omega)) (fun t _ => by rw [t4])
      obtain ⟨U, u1, u2, u3, u4, u5, u6⟩ := pl_cells (m := m) (k116 := f_P_load_116 m q) hN hB hr hjs m 0 T (by omega) (by omega) hDT
      obtain ⟨S', h1, h2, h3, h5, h7, h9⟩ := ih (j + 1) U (by omega) (by omega) (LD_tr (by omega) hDT u2 u3 (fun t _ => by rw [u4]) (fun t ht => by funext y; exact u5 t y (by omega))) (by rw [u2, t2]; exact h4) (fun i hi => by
        rw [u4]
        by_cases e2 : i = j
        · subst e2
          rw [t6, t7, t8, t9, t10, if_pos rfl, if_pos rfl, if_pos rfl, if_pos rfl, if_pos rfl]
          exact ⟨rfl, rfl, hq0, rfl, rfl, fun k hk => u6 k (by omega) hk⟩
        · obtain ⟨c1, c2, c3, c4, c5, c6⟩ := hC i (by omega)
          rw [t6, t7, t8, t9, t10, if_neg e2, if_neg e2, if_neg e2, if_neg e2, if_neg e2]
          exact ⟨c1, c2, c3, c4, c5, fun k hk => by rw [u5 _ _ (Or.inr e2), t4]; exact c6 k hk⟩)
      refine ⟨S', ?_, by rw [h2, u2, t2], by rw [h3, u3, t3], fun t ht => by rw [h5 t ht, u4, t5 t ht], fun u hu => ?_, h9⟩
      · rw [f_P_load_116, if_neg (by rw [h4]; exact nI_ge hjs (by omega)), ck_t (vi_n (by omega) (by omega)), cl_n (by omega), bo_s t1, ← h1]
        exact u1
      · rw [(h7 u hu).1, (h7 u hu).2, u4, t7, t8, if_neg (by omega), if_neg (by omega)]
        exact ⟨rfl, rfl⟩
theorem pl_rows (hN : netOk N) (hB : bkOk B) (hr : r < 4) (hm : 8 < m) {x4 : Int32} : ∀ q k (S : z_S), k ≤ N.1 → N.1 - k < q → LD S N B r 5 1 → gF S 4 = nI B.1 → (∀ i, i < k → gI S 13 i = nI (9 + i) ∧ gI S 15 (9 + i) = -nI (N.2.2.2.2 i) ∧ gI S 16 (9 + i) = nI (N.2.2.2.2 i)) → ∃ S', f_P_load_45 m q x4 (nI k) S = some (1, S') ∧ gF S' = gF S ∧ gG S' = gG S ∧ (∀ t, (t < 13 ∨ 18 < t) → gI S' t = gI S t) ∧ (∀ i, i < N.1 → gI S' 13 i = nI (9 + i) ∧ gI S' 15 (9 + i) = -nI (N.2.2.2.2 i) ∧ gI S' 16 (9 + i) = nI (N.2.2.2.2 i)) ∧ gI S' 13 N.1 = nI 8 ∧ gI S' 15 8 = 0 ∧ gI S' 16 8 = x4 ∧ gI S' 13 (N.1 + 1) = nI 15 ∧ CI S' N B r B.1 := by
  have h6 := hN.1
  have h8 := hB.1
  intro q
  induction q with
  | zero => intro j S _ h; omega
  | succ q ih =>
    intro k S hk hq hD h4 hC
    by_cases e : k = N.1
    · obtain ⟨T, t1, t2, t3, t4, t5, t6, t7, t8⟩ := pl_row (m := m) (i := N.1) (u := 8) (by omega) (by omega) 0 x4 S
      obtain ⟨U, u1, u2, u3, u4, u5, u6, u7, u8⟩ := pl_row (m := m) (i := N.1 + 1) (u := 15) (by omega) (by omega) 0 0 T
      have hDT : LD T N B r 5 1 := LD_tr (by omega) hD t2 t3 (fun t ht => t5 t (by omega) (by omega) (by omega)) (fun t _ => by rw [t4])
      have hDU : LD U N B r 5 1 := LD_tr (by omega) hDT u2 u3 (fun t ht => u5 t (by omega) (by omega) (by omega)) (fun t _ => by rw [u4])
      obtain ⟨S', h1, h2, h3, h5, h7, h9⟩ := pl_cols (m := m) hN hB hr hm m 0 U (by omega) (by omega) hDU (by rw [u2, t2]; exact h4) (fun i hi => by omega)
      have e13 : gI S' 13 = gI U 13 := h5 13 (by omega)
      refine ⟨S', ?_, by rw [h2, u2, t2], by rw [h3, u3, t3], fun t ht => by rw [h5 t (by omega), u5 t (by omega) (by omega) (by omega), t5 t (by omega) (by omega) (by omega)], fun i hi => ?_, ?_, ?_, ?_, ?_, h9⟩
      · rw [f_P_load_45, if_pos (by rw [hD.1.1]; exact nI_le (by omega) (by omega)), hD.1.1]
        rw [bo_s (show f_P_placeRow m (nI N.1) 8 0 x4 S = some ((), T) from t1), show gF T 0 = nI N.1 by rw [t2]; exact hD.1.1, nI_1, bo_s (show f_P_placeRow m (nI (N.1 + 1)) 15 0 0 T = some ((), U) from u1)]
        exact h1
      · obtain ⟨c1, c2, c3⟩ := hC i (by omega)
        rw [e13, (h7 (9 + i) (by omega)).1, (h7 (9 + i) (by omega)).2, u6, u7, u8, t6, t7, t8, if_neg (by omega), if_neg (by omega), if_neg (by omega), if_neg (by omega), if_neg (by omega), if_neg (by omega)]
        exact ⟨c1, c2, c3⟩
      · rw [e13, u6, t6, if_neg (by omega), if_pos rfl]
      · rw [(h7 8 (by omega)).1, u7, t7, if_neg (by omega), if_pos rfl]
      · rw [(h7 8 (by omega)).2, u8, t8, if_neg (by omega), if_pos rfl]
      · rw [e13, u6, if_pos rfl]
    · have hkc : k < N.1 := by omega
      obtain ⟨-, -, -, c4⟩ := hD.1.2 k hkc
      obtain ⟨T, t1, t2, t3, t4, t5, t6, t7, t8⟩ := pl_row (m := m) (i := k) (u := 9 + k) (by omega) (by omega) (-nI (N.2.2.2.2 k)) (nI (N.2.2.2.2 k)) S
      have hDT : LD T N B r 5 1 := LD_tr (by omega) hD t2 t3 (fun t ht => t5 t (by omega) (by omega) (by omega)) (fun t _ => by rw [t4])
      obtain ⟨S', h1, h2, h3, h5, h7⟩ := ih (k + 1) T (by omega) (by omega) hDT (by rw [t2]; exact h4) (fun i hi => by
        rw [t6, t7, t8]
        by_cases e2 : i = k
        · rw [if_pos e2, if_pos (by omega), if_pos (by omega), e2]
          exact ⟨rfl, rfl, rfl⟩
        · rw [if_neg e2, if_neg (by omega), if_neg (by omega)]
          exact hC i (by omega))
      refine ⟨S', ?_, by rw [h2, t2], by rw [h3, t3], fun t ht => by rw [h5 t ht, t5 t (by omega) (by omega) (by omega)], h7⟩
      rw [f_P_load_45, if_neg (by rw [hD.1.1]; exact nI_ge hkc (by omega)), ck_t (vi_n (by omega) (by omega)), ck_t (vi_n (by omega) (by omega)), cl_n (by omega), c4, nine (by omega), bo_s t1, nI_1]
      exact h1
/-- load: the start's table when there are trees, nothing when there are none -/
theorem pl_load (hN : netOk N) (hB : bkOk B) (hr : r < 4) (hm : 8 < m) {x4 : Int32} (hx : q3 x4 = a) {S : z_S} (hc : cN S N) (hb : cB S 5 1 B) : ∃ S', LF S S' ∧ ((0 < Tr (LN N) r ∧ f_P_load m (nI r) x4 S = some (1, S') ∧ PRep S' (N.1 + 2) B.1 (sT N B r) (loN N) (hiN N B a) (fun _ => false)) ∨ (¬ 0 < Tr (LN N) r ∧ f_P_load m (nI r) x4 S = some (0, S'))) := by
  have h6 := hN.1
  have h8 := hB.1
  obtain ⟨T, t1, t2, t3, t4, t5, t6, t7⟩ := pg_ground (m := m) hN hm hr hc
  by_cases hT : 0 < Tr (LN N) r
  · have hU : ∃ U, U = sF (sF (sG T 1 (gG T 0)) 4 (gF (sG T 1 (gG T 0)) 1)) 3 (gF (sF (sG T 1 (gG T 0)) 4 (gF (sG T 1 (gG T 0)) 1)) 0 + 2) := ⟨_, rfl⟩
    obtain ⟨U, hU⟩ := hU
    have uF : ∀ t, t ≠ 3 → t ≠ 4 → gF U t = gF S t := fun t a b => by rw [hU]; simp only [gs, if_neg a, if_neg b, t2]
    have u4 : gF U 4 = nI B.1 := by rw [hU]; simp only [gs, Nat.reduceEqDiff, reduceIte, t2]; exact hb.1
    have u3 : gF U 3 = nI (N.1 + 2) := by rw [hU]; simp only [gs, Nat.reduceEqDiff, reduceIte, t2]; rw [hc.1, nI_2]
    have uG : ∀ k, k ≠ 0 → k ≠ 1 → gG U k = gG S k := fun k a b => by rw [hU]; simp only [gs, if_neg b]; exact t3 k a
    have u1 : q6 (gG U 1) = Tr (LN N) r := by rw [hU]; simp only [gs, reduceIte]; exact t7
    have uI : gI U = gI S := by rw [hU]; exact t4
    have uJ : gJ U = gJ T := by rw [hU]; rfl
    have hD : LD U N B r 5 1 := ⟨⟨by rw [uF 0 (by omega) (by omega)]; exact hc.1, by rw [uI]; exact hc.2⟩, by unfold AR; rw [uJ]; exact t6, u1, by rw [uF 1 (by omega) (by omega)]; exact hb.1, by rw [uI]; exact hb.2⟩
    obtain ⟨S', h1, h2, h3, h5, h7, r1, r2, r3, r4, r5⟩ := pl_rows (m := m) (x4 := x4) hN hB hr hm m 0 U (by omega) (by omega) hD u4 (fun i hi => by omega)
    refine ⟨S', ⟨fun t a b => by rw [h2]; exact uF t a b, fun k a b => by rw [h3]; exact uG k a b, fun t ht => by rw [h5 t ht, uI]⟩, Or.inl ⟨hT, ?_, ?_⟩⟩
    · unfold f_P_load f_P_load_42
      rw [bo_s t1, if_pos (by rw [q6_lt, t7]; exact hT), ← hU]
      exact h1
    · have hfm : ∀ i, i < N.1 → q3 (nI (N.2.2.2.2 i)) = (N.2.2.2.2 i : Rat) := fun i hi => q3_nI (by have := (hN.2.1 i hi).2.2.2.2.2; omega)
      have hfm2 : ∀ i, i < N.1 → q3 (-nI (N.2.2.2.2 i)) = - (N.2.2.2.2 i : Rat) := fun i hi => by
        rw [q3_neg (K := 1000) (by rw [hfm i hi]; exact isZ_nat (hN.2.1 i hi).2.2.2.2.2) (by omega), hfm i hi]
      refine ⟨⟨by omega, h8, by rw [h2]; exact u3, by rw [h2]; exact u4⟩, by rw [h3]; exact u1, fun i j hi hj => (r5 j hj).2.2.2.2.2 i hi, fun i hi => ?_, fun j hj => (r5 j hj).1, fun u hu hl => ?_, fun j hj => ?_, fun j hj => (r5 j hj).2.2.2.2.1⟩
      · show gI S' 13 i = nI (sR N i) ∧ sR N i < 16
        unfold sR
        by_cases q1 : i < N.1
        · rw [if_pos q1]; exact ⟨(h7 i q1).1, by omega⟩
        · rw [if_neg q1]
          by_cases q2 : i = N.1
          · rw [if_pos q2, q2]; exact ⟨r1, by omega⟩
          · rw [if_neg q2, if_pos (by omega), show i = N.1 + 1 by omega]; exact ⟨r4, by omega⟩
      · rw [start_live hN hB] at hl
        unfold loN hiN
        by_cases q1 : u < B.1
        · rw [if_neg (by omega), if_pos q1, (r5 u q1).2.1]; exact ⟨rfl, (r5 u q1).2.2.1⟩
        · rw [if_neg q1]
          by_cases q2 : u = 8
          · rw [if_neg (by omega), if_pos q2, q2, r2, r3]; exact ⟨rfl, hx⟩
          · have q3' : 9 ≤ u ∧ u < 9 + N.1 := by omega
            rw [if_neg q2, if_pos q3', if_pos q3']
            have e : u = 9 + (u - 9) := by omega
            have h9 := h7 (u - 9) (by omega)
            rw [← e] at h9
            rw [h9.2.1, h9.2.2]
            exact ⟨hfm2 _ (by omega), hfm _ (by omega)⟩
      · show q3 (gI S' 17 j) = 0
        rw [(r5 j hj).2.2.2.1]; rfl
  · refine ⟨T, ⟨fun t _ _ => by rw [t2], fun k a _ => t3 k a, fun t _ => by rw [t4]⟩, Or.inr ⟨hT, ?_⟩⟩
    unfold f_P_load
    rw [bo_s t1, if_neg (by rw [q6_lt, t7]; exact hT)]
theorem pl_cells_p (hN : netOk N) (hB : bkOk B) (hr : r < 4) {k116 : Int32 → z_S → Option (Int32 × z_S)} {j : Nat} (hj : j < B.1) : ∀ q k (S : z_S), k ≤ N.1 → N.1 - k < q → LD S N B r 9 2 → ∃ S', f_P_load_p_141 m k116 q (nI j) (nI k) S = k116 (nI (j + 1)) S' ∧ gF S' = gF S ∧ gG S' = gG S ∧ gI S' = gI S ∧ (∀ t y, (t < 8 + k ∨ y ≠ j) → gJ S' t y = gJ S t y) ∧ (∀ i, k ≤ i → i < N.1 + 2 → q6 (gJ S' (8 + i) j) = sC N B r i j) := by
  have h6 := hN.1
  have h8 := hB.1
  obtain ⟨b1, b2, b3, b4, b5⟩ := hB.2 j hj
  have hvj : vi (nI j) 8 = true := vi_n (by omega) (by omega)
  have hcj : (nI j).toNatClampNeg = j := cl_n (by omega)
  intro q
  induction q with
  | zero => intro k S _ h; omega
  | succ q ih =>
    intro k S hk hq hD
    obtain ⟨d1, d2, d3, d4⟩ := hD
    obtain ⟨g1, g2, g3, g4⟩ := d4.2 j hj
    obtain ⟨p1, p2, p3⟩ := pl_prs hB hj g1 g3
    by_cases e : k = N.1
    · have hT : ∃ T, T = sJ S (8 + N.1) (vp_updL (gJ S (8 + N.1)) j ((-(gI S 9 j)).toInt64 * gG S 1)) := ⟨_, rfl⟩
      obtain ⟨T, hT⟩ := hT
      have hU : ∃ U, U = sJ T (8 + (N.1 + 1)) (vp_updL (gJ T (8 + (N.1 + 1))) j ((gI T 9 j * gI T 11 j).toInt64 * gG T 1)) := ⟨_, rfl⟩
      obtain ⟨U, hU⟩ := hU
      have at0 : ∀ x y, gJ U x y = if x = 8 + (N.1 + 1) ∧ y = j then (gI S 9 j * gI S 11 j).toInt64 * gG S 1 else if x = 8 + N.1 ∧ y = j then (-(gI S 9 j)).toInt64 * gG S 1 else gJ S x y := fun x y => by rw [hU, sJ_up, hT, sJ_up]; rfl
      refine ⟨U, ?_, by rw [hU, hT]; rfl, by rw [hU, hT]; rfl, by rw [hU, hT]; rfl, fun t y h => ?_, fun i i1 i2 => ?_⟩
      · rw [f_P_load_p_141, if_pos (by rw [d1.1]; exact nI_le (by omega) (by omega)), d1.1, ck_t (vi_n (by omega) (by omega)), ck_t hvj, ck_t hvj, hcj, cl_n (by omega), ← hT]
        unfold f_P_load_p_214 f_P_load_p_249
        rw [show gF T 0 = nI N.1 by rw [hT]; exact d1.1, nI_1, ck_t (vi_n (by omega) (by omega)), ck_t hvj, ck_t hvj, ck_t hvj, hcj, cl_n (by omega), nI_1, ← hU]
      · rw [at0, if_neg (by omega), if_neg (by omega)]
      · rw [at0]
        by_cases e2 : i = N.1
        · rw [if_neg (by omega), if_pos (by omega)]
          unfold sC
          rw [if_neg (by omega), if_pos e2, q6_mul (K := 1 * 27000) (by rw [p1, d3]; exact isZ_mul (isZ_neg p3) (Tr_Z hN)) (by omega), p1, d3]
        · rw [if_pos (by omega)]
          unfold sC
          rw [if_neg (by omega), if_neg e2, if_pos (by omega), q6_mul (K := 1 * 2000 * 27000) (by rw [p2, d3]; exact isZ_mul (isZ_mul p3 b3) (Tr_Z hN)) (by omega), p2, d3]
    · have hkc : k < N.1 := by omega
      obtain ⟨v, v1, v2⟩ := pl_share (m := m) hN hr d1 d2 hkc b1
      have hT : ∃ T, T = sJ S (8 + k) (vp_updL (gJ S (8 + k)) j ((gI S 9 j).toInt64 * v)) := ⟨_, rfl⟩
      obtain ⟨T, hT⟩ := hT
      have at0 : ∀ x y, gJ T x y = if x = 8 + k ∧ y = j then (gI S 9 j).toInt64 * v else gJ S x y := fun x y => by rw [hT, sJ_up]
      obtain ⟨S', h1, h2, h3, h4, h5, h7⟩ := ih (k + 1) T (by omega) (by omega) (LD_tr (by omega) ⟨d1, d2, d3, d4⟩ (by rw [hT]; rfl) (by rw [hT]; rfl) (fun t _ => by rw [hT]; rfl) (fun t ht => by funext y; rw [at0, if_neg (by omega)]))
      refine ⟨S', ?_, by rw [h2, hT]; rfl, by rw [h3, hT]; rfl, by rw [h4, hT]; rfl, fun t y h => ?_, fun i i1 i2 => ?_⟩
      · rw [f_P_load_p_141, if_neg (by rw [d1.1]; exact nI_ge hkc (by omega)), ck_t (vi_n (by omega) (by omega)), ck_t hvj, ck_t hvj, hcj, g2, bo_s v1, ck_t hvj, cl_n (by omega)]
        unfold f_P_load_p_182
        rw [nI_1, ← h1, hT]
      · rw [h5 t y (by omega), at0, if_neg (by omega)]
      · by_cases e2 : i = k
        · rw [e2, h5 (8 + k) j (by omega), at0, if_pos ⟨rfl, rfl⟩]
          unfold sC
          have hs : q6 (gI S 9 j).toInt64 = B.2.2.1 j := by rw [q6_i]; exact g1
          have hz : isZ ((N.2.2.2.1 k : Rat) * (Adj (LN N) r (N.2.2.1 k) (B.2.1 j) - Adj (LN N) r (N.2.1 k) (B.2.1 j))) (5 * (450 + 450)) := isZ_mul (isZ_nat (hN.2.1 k hkc).2.2.2.2.1) (isZ_sub (Adj_Z hN _ _) (Adj_Z hN _ _))
          rw [if_pos hkc, q6_mul (K := 1 * (5 * (450 + 450))) (by rw [hs, v2]; exact isZ_mul p3 hz) (by omega), hs, v2]
        · exact h7 i (by omega) i2
def CI_p (S : z_S) (N : Net) (B : Bk) (r j : Nat) : Prop := ∀ i, i < j → gI S 14 i = nI i ∧ gI S 15 i = 0 ∧ q3 (gI S 16 i) = B.2.2.2.2 i ∧ gI S 17 i = 0 ∧ gI S 18 i = 0 ∧ ∀ k, k < N.1 + 2 → q6 (gJ S (8 + k) i) = sC N B r k i
theorem pl_cols_p (hN : netOk N) (hB : bkOk B) (hr : r < 4) (hm : 8 < m) : ∀ q j (S : z_S), j ≤ B.1 → B.1 - j < q → LD S N B r 9 2 → gF S 4 = nI B.1 → CI_p S N B r j → ∃ S', f_P_load_p_116 m q (nI j) S = some (1, S') ∧ gF S' = gF S ∧ gG S' = gG S ∧ (∀ t, (t < 14 ∨ 18 < t) → gI S' t = gI S t) ∧ (∀ u, B.1 ≤ u → gI S' 15 u = gI S 15 u ∧ gI S' 16 u = gI S 16 u) ∧ CI_p S' N B r B.1 := by
  have h6 := hN.1
  have h8 := hB.1
  intro q
  induction q with
  | zero => intro j S _ h; omega
  | succ q ih =>
    intro j S hj hq hD h4 hC
    by_cases e : j = B.1
    · refine ⟨S, ?_, rfl, rfl, fun _ _ => rfl, fun _ _ => ⟨rfl, rfl⟩, by rw [← e]; exact hC⟩
      rw [f_P_load_p_116, if_pos (by rw [h4]; exact nI_le (by omega) (by omega))]
    · have hjs : j < B.1 := by omega
      have hq0 := (hD.2.2.2.2 j hjs).2.2.2
      obtain ⟨T, t1, t2, t3, t4, t5, t6, t7, t8, t9, t10⟩ := pl_col (m := m) (show j < 8 by omega) (gI S 12 j) S
      have hDT : LD T N B r 9 2 := LD_tr (by omega) hD t2 t3 (fun t ht => t5 t (by omega)) (fun t _ => by rw [t4])
      obtain ⟨U, u1, u2, u3, u4, u5, u6⟩ := pl_cells_p (m := m) (k116 := f_P_load_p_116 m q) hN hB hr hjs m 0 T (by omega) (by omega) hDT
      obtain ⟨S', h1, h2, h3, h5, h7, h9⟩ := ih (j + 1) U (by omega) (by omega) (LD_tr (by omega) hDT u2 u3 (fun t _ => by rw [u4]) (fun t ht => by funext y; exact u5 t y (by omega))) (by rw [u2, t2]; exact h4) (fun i hi => by
        rw [u4]
        by_cases e2 : i = j
        · subst e2
          rw [t6, t7, t8, t9, t10, if_pos rfl, if_pos rfl, if_pos rfl, if_pos rfl, if_pos rfl]
          exact ⟨rfl, rfl, hq0, rfl, rfl, fun k hk => u6 k (by omega) hk⟩
        · obtain ⟨c1, c2, c3, c4, c5, c6⟩ := hC i (by omega)
          rw [t6, t7, t8, t9, t10, if_neg e2, if_neg e2, if_neg e2, if_neg e2, if_neg e2]
          exact ⟨c1, c2, c3, c4, c5, fun k hk => by rw [u5 _ _ (Or.inr e2), t4]; exact c6 k hk⟩)
      refine ⟨S', ?_, by rw [h2, u2, t2], by rw [h3, u3, t3], fun t ht => by rw [h5 t ht, u4, t5 t ht], fun u hu => ?_, h9⟩
      · rw [f_P_load_p_116, if_neg (by rw [h4]; exact nI_ge hjs (by omega)), ck_t (vi_n (by omega) (by omega)), cl_n (by omega), bo_s t1, ← h1]
        exact u1
      · rw [(h7 u hu).1, (h7 u hu).2, u4, t7, t8, if_neg (by omega), if_neg (by omega)]
        exact ⟨rfl, rfl⟩
theorem pl_rows_p (hN : netOk N) (hB : bkOk B) (hr : r < 4) (hm : 8 < m) {x4 : Int32} : ∀ q k (S : z_S), k ≤ N.1 → N.1 - k < q → LD S N B r 9 2 → gF S 4 = nI B.1 → (∀ i, i < k → gI S 13 i = nI (9 + i) ∧ gI S 15 (9 + i) = -nI (N.2.2.2.2 i) ∧ gI S 16 (9 + i) = nI (N.2.2.2.2 i)) → ∃ S', f_P_load_p_45 m q x4 (nI k) S = some (1, S') ∧ gF S' = gF S ∧ gG S' = gG S ∧ (∀ t, (t < 13 ∨ 18 < t) → gI S' t = gI S t) ∧ (∀ i, i < N.1 → gI S' 13 i = nI (9 + i) ∧ gI S' 15 (9 + i) = -nI (N.2.2.2.2 i) ∧ gI S' 16 (9 + i) = nI (N.2.2.2.2 i)) ∧ gI S' 13 N.1 = nI 8 ∧ gI S' 15 8 = 0 ∧ gI S' 16 8 = x4 ∧ gI S' 13 (N.1 + 1) = nI 15 ∧ CI_p S' N B r B.1 := by
  have h6 := hN.1
  have h8 := hB.1
  intro q
  induction q with
  | zero => intro j S _ h; omega
  | succ q ih =>
    intro k S hk hq hD h4 hC
    by_cases e : k = N.1
    · obtain ⟨T, t1, t2, t3, t4, t5, t6, t7, t8⟩ := pl_row (m := m) (i := N.1) (u := 8) (by omega) (by omega) 0 x4 S
      obtain ⟨U, u1, u2, u3, u4, u5, u6, u7, u8⟩ := pl_row (m := m) (i := N.1 + 1) (u := 15) (by omega) (by omega) 0 0 T
      have hDT : LD T N B r 9 2 := LD_tr (by omega) hD t2 t3 (fun t ht => t5 t (by omega) (by omega) (by omega)) (fun t _ => by rw [t4])
      have hDU : LD U N B r 9 2 := LD_tr (by omega) hDT u2 u3 (fun t ht => u5 t (by omega) (by omega) (by omega)) (fun t _ => by rw [u4])
      obtain ⟨S', h1, h2, h3, h5, h7, h9⟩ := pl_cols_p (m := m) hN hB hr hm m 0 U (by omega) (by omega) hDU (by rw [u2, t2]; exact h4) (fun i hi => by omega)
      have e13 : gI S' 13 = gI U 13 := h5 13 (by omega)
      refine ⟨S', ?_, by rw [h2, u2, t2], by rw [h3, u3, t3], fun t ht => by rw [h5 t (by omega), u5 t (by omega) (by omega) (by omega), t5 t (by omega) (by omega) (by omega)], fun i hi => ?_, ?_, ?_, ?_, ?_, h9⟩
      · rw [f_P_load_p_45, if_pos (by rw [hD.1.1]; exact nI_le (by omega) (by omega)), hD.1.1]
        rw [bo_s (show f_P_placeRow m (nI N.1) 8 0 x4 S = some ((), T) from t1), show gF T 0 = nI N.1 by rw [t2]; exact hD.1.1, nI_1, bo_s (show f_P_placeRow m (nI (N.1 + 1)) 15 0 0 T = some ((), U) from u1)]
        exact h1
      · obtain ⟨c1, c2, c3⟩ := hC i (by omega)
        rw [e13, (h7 (9 + i) (by omega)).1, (h7 (9 + i) (by omega)).2, u6, u7, u8, t6, t7, t8, if_neg (by omega), if_neg (by omega), if_neg (by omega), if_neg (by omega), if_neg (by omega), if_neg (by omega)]
        exact ⟨c1, c2, c3⟩
      · rw [e13, u6, t6, if_neg (by omega), if_pos rfl]
      · rw [(h7 8 (by omega)).1, u7, t7, if_neg (by omega), if_pos rfl]
      · rw [(h7 8 (by omega)).2, u8, t8, if_neg (by omega), if_pos rfl]
      · rw [e13, u6, if_pos rfl]
    · have hkc : k < N.1 := by omega
      obtain ⟨-, -, -, c4⟩ := hD.1.2 k hkc
      obtain ⟨T, t1, t2, t3, t4, t5, t6, t7, t8⟩ := pl_row (m := m) (i := k) (u := 9 + k) (by omega) (by omega) (-nI (N.2.2.2.2 k)) (nI (N.2.2.2.2 k)) S
      have hDT : LD T N B r 9 2 := LD_tr (by omega) hD t2 t3 (fun t ht => t5 t (by omega) (by omega) (by omega)) (fun t _ => by rw [t4])
      obtain ⟨S', h1, h2, h3, h5, h7⟩ := ih (k + 1) T (by omega) (by omega) hDT (by rw [t2]; exact h4) (fun i hi => by
        rw [t6, t7, t8]
        by_cases e2 : i = k
        · rw [if_pos e2, if_pos (by omega), if_pos (by omega), e2]
          exact ⟨rfl, rfl, rfl⟩
        · rw [if_neg e2, if_neg (by omega), if_neg (by omega)]
          exact hC i (by omega))
      refine ⟨S', ?_, by rw [h2, t2], by rw [h3, t3], fun t ht => by rw [h5 t ht, t5 t (by omega) (by omega) (by omega)], h7⟩
      rw [f_P_load_p_45, if_neg (by rw [hD.1.1]; exact nI_ge hkc (by omega)), ck_t (vi_n (by omega) (by omega)), ck_t (vi_n (by omega) (by omega)), cl_n (by omega), c4, nine (by omega), bo_s t1, nI_1]
      exact h1
/-- load: the start's table when there are trees, nothing when there are none -/
theorem pl_load_p (hN : netOk N) (hB : bkOk B) (hr : r < 4) (hm : 8 < m) {x4 : Int32} (hx : q3 x4 = a) {S : z_S} (hc : cN S N) (hb : cB S 9 2 B) : ∃ S', LF S S' ∧ ((0 < Tr (LN N) r ∧ f_P_load_p m (nI r) x4 S = some (1, S') ∧ PRep S' (N.1 + 2) B.1 (sT N B r) (loN N) (hiN N B a) (fun _ => false)) ∨ (¬ 0 < Tr (LN N) r ∧ f_P_load_p m (nI r) x4 S = some (0, S'))) := by
  have h6 := hN.1
  have h8 := hB.1
  obtain ⟨T, t1, t2, t3, t4, t5, t6, t7⟩ := pg_ground (m := m) hN hm hr hc
  by_cases hT : 0 < Tr (LN N) r
  · have hU : ∃ U, U = sF (sF (sG T 1 (gG T 0)) 4 (gF (sG T 1 (gG T 0)) 2)) 3 (gF (sF (sG T 1 (gG T 0)) 4 (gF (sG T 1 (gG T 0)) 2)) 0 + 2) := ⟨_, rfl⟩
    obtain ⟨U, hU⟩ := hU
    have uF : ∀ t, t ≠ 3 → t ≠ 4 → gF U t = gF S t := fun t a b => by rw [hU]; simp only [gs, if_neg a, if_neg b, t2]
    have u4 : gF U 4 = nI B.1 := by rw [hU]; simp only [gs, Nat.reduceEqDiff, reduceIte, t2]; exact hb.1
    have u3 : gF U 3 = nI (N.1 + 2) := by rw [hU]; simp only [gs, Nat.reduceEqDiff, reduceIte, t2]; rw [hc.1, nI_2]
    have uG : ∀ k, k ≠ 0 → k ≠ 1 → gG U k = gG S k := fun k a b => by rw [hU]; simp only [gs, if_neg b]; exact t3 k a
    have u1 : q6 (gG U 1) = Tr (LN N) r := by rw [hU]; simp only [gs, reduceIte]; exact t7
    have uI : gI U = gI S := by rw [hU]; exact t4
    have uJ : gJ U = gJ T := by rw [hU]; rfl
    have hD : LD U N B r 9 2 := ⟨⟨by rw [uF 0 (by omega) (by omega)]; exact hc.1, by rw [uI]; exact hc.2⟩, by unfold AR; rw [uJ]; exact t6, u1, by rw [uF 2 (by omega) (by omega)]; exact hb.1, by rw [uI]; exact hb.2⟩
    obtain ⟨S', h1, h2, h3, h5, h7, r1, r2, r3, r4, r5⟩ := pl_rows_p (m := m) (x4 := x4) hN hB hr hm m 0 U (by omega) (by omega) hD u4 (fun i hi => by omega)
    refine ⟨S', ⟨fun t a b => by rw [h2]; exact uF t a b, fun k a b => by rw [h3]; exact uG k a b, fun t ht => by rw [h5 t ht, uI]⟩, Or.inl ⟨hT, ?_, ?_⟩⟩
    · unfold f_P_load_p f_P_load_p_42
      rw [bo_s t1, if_pos (by rw [q6_lt, t7]; exact hT), ← hU]
      exact h1
    · have hfm : ∀ i, i < N.1 → q3 (nI (N.2.2.2.2 i)) = (N.2.2.2.2 i : Rat) := fun i hi => q3_nI (by have := (hN.2.1 i hi).2.2.2.2.2; omega)
      have hfm2 : ∀ i, i < N.1 → q3 (-nI (N.2.2.2.2 i)) = - (N.2.2.2.2 i : Rat) := fun i hi => by
        rw [q3_neg (K := 1000) (by rw [hfm i hi]; exact isZ_nat (hN.2.1 i hi).2.2.2.2.2) (by omega), hfm i hi]
      refine ⟨⟨by omega, h8, by rw [h2]; exact u3, by rw [h2]; exact u4⟩, by rw [h3]; exact u1, fun i j hi hj => (r5 j hj).2.2.2.2.2 i hi, fun i hi => ?_, fun j hj => (r5 j hj).1, fun u hu hl => ?_, fun j hj => ?_, fun j hj => (r5 j hj).2.2.2.2.1⟩
      · show gI S' 13 i = nI (sR N i) ∧ sR N i < 16
        unfold sR
        by_cases q1 : i < N.1
        · rw [if_pos q1]; exact ⟨(h7 i q1).1, by omega⟩
        · rw [if_neg q1]
          by_cases q2 : i = N.1
          · rw [if_pos q2, q2]; exact ⟨r1, by omega⟩
          · rw [if_neg q2, if_pos (by omega), show i = N.1 + 1 by omega]; exact ⟨r4, by omega⟩
      · rw [start_live hN hB] at hl
        unfold loN hiN
        by_cases q1 : u < B.1
        · rw [if_neg (by omega), if_pos q1, (r5 u q1).2.1]; exact ⟨rfl, (r5 u q1).2.2.1⟩
        · rw [if_neg q1]
          by_cases q2 : u = 8
          · rw [if_neg (by omega), if_pos q2, q2, r2, r3]; exact ⟨rfl, hx⟩
          · have q3' : 9 ≤ u ∧ u < 9 + N.1 := by omega
            rw [if_neg q2, if_pos q3', if_pos q3']
            have e : u = 9 + (u - 9) := by omega
            have h9 := h7 (u - 9) (by omega)
            rw [← e] at h9
            rw [h9.2.1, h9.2.2]
            exact ⟨hfm2 _ (by omega), hfm _ (by omega)⟩
      · show q3 (gI S' 17 j) = 0
        rw [(r5 j hj).2.2.2.1]; rfl
  · refine ⟨T, ⟨fun t _ _ => by rw [t2], fun k a _ => t3 k a, fun t _ => by rw [t4]⟩, Or.inr ⟨hT, ?_⟩⟩
    unfold f_P_load_p
    rw [bo_s t1, if_neg (by rw [q6_lt, t7]; exact hT)]
end LOAD
