/-! ground: the adjugate and the trees -/
theorem bs_pos : ∀ r, r < 4 → ∀ i, i < 3 → (bs r i + 3 - r) % 4 = i ∧ bs r i ≠ r := by decide
theorem bs_inj {r i j : Nat} (hr : r < 4) (hi : i < 3) (hj : j < 3) (h : bs r i = bs r j) : i = j := by
  have h1 := (bs_pos r hr i hi).1
  have h2 := (bs_pos r hr j hj).1
  rw [h] at h1
  omega
theorem pg_beside {m r i : Nat} {S : z_S} (hr : r < 4) (hi : i < 5) : f_G_beside m (nI r) (nI i) S = some (nI (bs r i), S) := by
  unfold f_G_beside
  congr 2
  rcases lt4 hr with e | e | e | e <;> subst e <;> rcases (show i = 0 ∨ i = 1 ∨ i = 2 ∨ i = 3 ∨ i = 4 by omega) with e | e | e | e | e <;> subst e <;> decide
theorem nI_2 (a : Nat) : nI a + 2 = nI (a + 2) := by
  have e : (2 : Int32) = 1 + 1 := by decide
  rw [e, ← Int32.add_assoc, nI_1, nI_1]
section GROUND
variable {N : Net} {m r : Nat}
def LR (S : z_S) (N : Net) : Prop := ∀ x y, x < 4 → y < 4 → q6 (gJ S x y) = LN N x y
theorem pg_cof (hN : netOk N) (hr : r < 4) {S : z_S} (hL : LR S N) {i j : Nat} (hi : i < 3) (hj : j < 3) : ∃ v, f_G_cofactor m (nI r) (nI i) (nI j) S = some (v, S) ∧ q6 v = cof (LN N) r i j := by
  have z : ∀ a b, isZ (LN N (bs r a) (bs r b)) 15 := fun a b => LN_Z hN (bs_lt _ _)
  have e1 : ∀ a b, q6 (gJ S (0 + bs r a) (bs r b)) = LN N (bs r a) (bs r b) := fun a b => by rw [Nat.zero_add]; exact hL _ _ (bs_lt _ _) (bs_lt _ _)
  have e2 : ∀ a b c d, q6 (gJ S (0 + bs r a) (bs r b) * gJ S (0 + bs r c) (bs r d)) = LN N (bs r a) (bs r b) * LN N (bs r c) (bs r d) := fun a b c d => by
    rw [q6_mul (K := 15 * 15) (by rw [e1, e1]; exact isZ_mul (z _ _) (z _ _)) (by omega), e1, e1]
  refine ⟨gJ S (0 + bs r (i + 1)) (bs r (j + 1)) * gJ S (0 + bs r (i + 2)) (bs r (j + 2)) - gJ S (0 + bs r (i + 1)) (bs r (j + 2)) * gJ S (0 + bs r (i + 2)) (bs r (j + 1)), ?_, ?_⟩
  · unfold f_G_cofactor
    rw [nI_1, nI_2, nI_1, nI_2, bo_s (pg_beside hr (by omega)), bo_s (pg_beside hr (by omega)), bo_s (pg_beside hr (by omega)), bo_s (pg_beside hr (by omega))]
    have v : ∀ a, vi (nI (bs r a)) 4 = true := fun a => vi_n (bs_lt _ _) (by omega)
    have c : ∀ a, (nI (bs r a)).toNatClampNeg = bs r a := fun a => cl_n (by have := bs_lt r a; omega)
    simp only [ck_t (v _), c]
  · unfold cof
    rw [q6_sub (K := 15 * 15 + 15 * 15) (by rw [e2, e2]; exact isZ_sub (isZ_mul (z _ _) (z _ _)) (isZ_mul (z _ _) (z _ _))) (by omega), e2, e2]
theorem pg_edge (hr : r < 4) : ∀ q b (S : z_S), b ≤ 4 → 4 - b < q → (∀ n, n < b → gJ S (4 + r) n = 0 ∧ gJ S (4 + n) r = 0) → ∃ S', f_G_ground_11 m q (nI r) (nI b) S = f_G_ground_42 m m (nI r) 0 S' ∧ JF S S' 4 8 ∧ (∀ n, n < 4 → gJ S' (4 + r) n = 0 ∧ gJ S' (4 + n) r = 0) := by
  intro q
  induction q with
  | zero => intro b S _ h; omega
  | succ q ih =>
    intro b S hb hq h0
    by_cases e : b = 4
    · refine ⟨S, ?_, JF_rf _ _ _, fun n hn => h0 n (by omega)⟩
      rw [f_G_ground_11, if_pos (k4le (by omega) (by omega))]
    · have hT : ∃ T, T = sJ (sJ S (4 + r) (vp_updL (gJ S (4 + r)) b 0)) (4 + b) (vp_updL (gJ (sJ S (4 + r) (vp_updL (gJ S (4 + r)) b 0)) (4 + b)) r 0) := ⟨_, rfl⟩
      obtain ⟨T, hT⟩ := hT
      have hJ : JF S T 4 8 := by rw [hT]; exact JF_tr (JF_up S _ (by omega) (by omega)) (JF_up _ _ (by omega) (by omega))
      have hTat : ∀ x y, gJ T x y = if x = 4 + b ∧ y = r then 0 else if x = 4 + r ∧ y = b then 0 else gJ S x y := fun x y => by rw [hT, sJ_up, sJ_up]
      obtain ⟨S', h1, h2, h3⟩ := ih (b + 1) T (by omega) (by omega) (fun n hn => by
        rw [hTat, hTat]
        by_cases e2 : n = b
        · subst e2
          refine ⟨?_, by rw [if_pos ⟨rfl, rfl⟩]⟩
          by_cases q1 : 4 + r = 4 + n ∧ n = r
          · rw [if_pos q1]
          · rw [if_neg q1, if_pos ⟨rfl, rfl⟩]
        · have := h0 n (by omega)
          refine ⟨?_, ?_⟩
          · by_cases q1 : 4 + r = 4 + b ∧ n = r
            · rw [if_pos q1]
            · rw [if_neg q1, if_neg (by omega)]; exact this.1
          · rw [if_neg (by omega)]
            by_cases q1 : 4 + n = 4 + r ∧ r = b
            · rw [if_pos q1]
            · rw [if_neg q1]; exact this.2)
      refine ⟨S', ?_, JF_tr hJ h2, h3⟩
      rw [f_G_ground_11, if_neg (k4ge (by omega)), ck_t (vi_n hr (by omega)), ck_t (vi_n (by omega) (by omega)), ck_t (vi_n (by omega) (by omega)), ck_t (vi_n hr (by omega)), cl_n (by omega), cl_n (by omega)]
      unfold f_G_ground_34
      rw [nI_1, ← h1, hT]
def GQ (N : Net) (r i j : Nat) (S : z_S) : Prop := LR S N ∧ (∀ n, n < 4 → gJ S (4 + r) n = 0 ∧ gJ S (4 + n) r = 0) ∧ ∀ a b, a < 3 → b < 3 → (a < i ∨ (a = i ∧ b < j)) → q6 (gJ S (4 + bs r a) (bs r b)) = cof (LN N) r a b
theorem pg_adj_in (hN : netOk N) (hr : r < 4) {k42 : Int32 → Int32 → z_S → Option (Unit × z_S)} {i : Nat} (hi : i < 3) : ∀ q j (S : z_S), j ≤ 3 → 3 - j < q → GQ N r i j S → ∃ S', f_G_ground_49 m k42 q (nI r) (nI i) (nI j) S = k42 (nI r) (nI (i + 1)) S' ∧ JF S S' 4 8 ∧ GQ N r (i + 1) 0 S' := by
  intro q
  induction q with
  | zero => intro j S _ h; omega
  | succ q ih =>
    intro j S hj hq hG
    by_cases e : j = 3
    · refine ⟨S, ?_, JF_rf _ _ _, hG.1, hG.2.1, fun a b ha hb h => hG.2.2 a b ha hb (by omega)⟩
      rw [f_G_ground_49, if_pos (k3le (by omega) (by omega)), nI_1]
    · obtain ⟨v, v1, v2⟩ := pg_cof (m := m) hN hr hG.1 hi (show j < 3 by omega)
      have bi := (bs_pos r hr i hi).2
      have bj := (bs_pos r hr j (by omega)).2
      have hT : ∃ T, T = sJ S (4 + bs r i) (vp_updL (gJ S (4 + bs r i)) (bs r j) v) := ⟨_, rfl⟩
      obtain ⟨T, hT⟩ := hT
      have hlt := bs_lt r i
      have hJ : JF S T 4 8 := by rw [hT]; exact JF_up S _ (by omega) (by omega)
      have hTat : ∀ x y, gJ T x y = if x = 4 + bs r i ∧ y = bs r j then v else gJ S x y := fun x y => by rw [hT, sJ_up]
      obtain ⟨S', h1, h2, h3⟩ := ih (j + 1) T (by omega) (by omega) ⟨fun x y hx hy => by rw [hTat, if_neg (by omega)]; exact hG.1 x y hx hy, fun n hn => by
        rw [hTat, hTat, if_neg (by omega), if_neg (by omega)]
        exact hG.2.1 n hn, fun a b ha hb h => by
        rw [hTat]
        by_cases q1 : 4 + bs r a = 4 + bs r i ∧ bs r b = bs r j
        · have e1 := bs_inj hr ha hi (by omega)
          have e2 := bs_inj hr hb (by omega) q1.2
          rw [if_pos q1, v2, e1, e2]
        · rw [if_neg q1]
          refine hG.2.2 a b ha hb ?_
          rcases h with h | h
          · exact Or.inl h
          · refine Or.inr ⟨h.1, ?_⟩
            have : b ≠ j := fun e3 => q1 ⟨by rw [h.1], by rw [e3]⟩
            omega⟩
      refine ⟨S', ?_, JF_tr hJ h2, h3⟩
      rw [f_G_ground_49, if_neg (k3ge (by omega)), bo_s (pg_beside hr (by omega)), ck_t (vi_n hlt (by omega)), bo_s (pg_beside hr (by omega)), bo_s v1, ck_t (vi_n (bs_lt _ _) (by omega)), cl_n (by omega), cl_n (by have := bs_lt r j; omega), nI_1, ← h1, hT]
theorem pg_adj (hN : netOk N) (hr : r < 4) (hm : 5 < m) : ∀ q i (S : z_S), i ≤ 3 → 3 - i < q → GQ N r i 0 S → ∃ S', f_G_ground_42 m q (nI r) (nI i) S = f_G_ground_97 m m (nI (bs r 0)) 0 S' ∧ JF S S' 4 8 ∧ GQ N r 3 0 S' := by
  intro q
  induction q with
  | zero => intro j S _ h; omega
  | succ q ih =>
    intro i S hi hq hG
    by_cases e : i = 3
    · refine ⟨S, ?_, JF_rf _ _ _, by rw [← e]; exact hG⟩
      rw [f_G_ground_42, if_pos (k3le (by omega) (by omega))]
      exact bo_s (pg_beside (i := 0) hr (by omega))
    · obtain ⟨T, t1, t2, t3⟩ := pg_adj_in (m := m) (k42 := f_G_ground_42 m q) hN hr (show i < 3 by omega) m 0 S (by omega) (by omega) hG
      obtain ⟨S', h1, h2, h3⟩ := ih (i + 1) T (by omega) (by omega) t3
      refine ⟨S', ?_, JF_tr t2 h2, h3⟩
      rw [f_G_ground_42, if_neg (k3ge (by omega)), ← h1]
      exact t1
def AR (S : z_S) (N : Net) (r : Nat) : Prop := ∀ x y, x < 4 → y < 4 → q6 (gJ S (4 + x) y) = Adj (LN N) r x y
theorem GQ_AR (hr : r < 4) {S : z_S} (h : GQ N r 3 0 S) : AR S N r := by
  intro x y hx hy
  unfold Adj
  by_cases q : x = r ∨ y = r
  · rw [if_pos q]
    rcases q with q | q
    · rw [q, (h.2.1 y hy).1]; rfl
    · rw [q, (h.2.1 x hx).2]; rfl
  · rw [if_neg q]
    have f : ∀ z, z < 4 → z ≠ r → ∃ i, i < 3 ∧ z = bs r i := fun z hz hne => by
      rcases bs_all r hr z hz with e | e | e | e
      · exact absurd e hne
      · exact ⟨0, by omega, e⟩
      · exact ⟨1, by omega, e⟩
      · exact ⟨2, by omega, e⟩
    obtain ⟨i, hi, ei⟩ := f x hx (fun e => q (Or.inl e))
    obtain ⟨j, hj, ej⟩ := f y hy (fun e => q (Or.inr e))
    subst ei ej
    rw [(bs_pos r hr i hi).1, (bs_pos r hr j hj).1]
    exact h.2.2 i j hi hj (Or.inl hi)
theorem Adj_Z (hN : netOk N) (x y : Nat) : isZ (Adj (LN N) r x y) 450 := by
  unfold Adj
  by_cases q : x = r ∨ y = r
  · rw [if_pos q]; exact isZ_0 _
  · rw [if_neg q]
    unfold cof
    exact isZ_sub (K := 225) (L := 225) (isZ_mul (K := 15) (L := 15) (LN_Z hN (bs_lt _ _)) (LN_Z hN (bs_lt _ _))) (isZ_mul (K := 15) (L := 15) (LN_Z hN (bs_lt _ _)) (LN_Z hN (bs_lt _ _)))
theorem pg_trees (hN : netOk N) (hr : r < 4) : ∀ q n (S : z_S), n ≤ 4 → 4 - n < q → LR S N → AR S N r → q6 (gG S 0) = sm n (fun k => LN N (bs r 0) k * Adj (LN N) r (bs r 0) k) → ∃ S', f_G_ground_97 m q (nI (bs r 0)) (nI n) S = some ((), S') ∧ gF S' = gF S ∧ (∀ k, k ≠ 0 → gG S' k = gG S k) ∧ gI S' = gI S ∧ gJ S' = gJ S ∧ q6 (gG S' 0) = Tr (LN N) r := by
  intro q
  induction q with
  | zero => intro j S _ h; omega
  | succ q ih =>
    intro n S hn hq hL hA hG
    have hlt := bs_lt r 0
    by_cases e : n = 4
    · refine ⟨S, ?_, rfl, fun _ _ => rfl, rfl, rfl, by rw [hG, e]; rfl⟩
      rw [f_G_ground_97, if_pos (k4le (by omega) (by omega))]
    · have hz : ∀ k, isZ (LN N (bs r 0) k * Adj (LN N) r (bs r 0) k) (15 * 450) := fun k => isZ_mul (LN_Z hN hlt) (Adj_Z hN _ _)
      have e1 : q6 (gJ S (0 + bs r 0) n * gJ S (4 + bs r 0) n) = LN N (bs r 0) n * Adj (LN N) r (bs r 0) n := by
        rw [Nat.zero_add]
        have a1 := hL (bs r 0) n hlt (by omega)
        have a2 := hA (bs r 0) n hlt (by omega)
        rw [q6_mul (K := 15 * 450) (by rw [a1, a2]; exact hz n) (by omega), a1, a2]
      have e2 : q6 (gG S 0 + gJ S (0 + bs r 0) n * gJ S (4 + bs r 0) n) = sm (n + 1) (fun k => LN N (bs r 0) k * Adj (LN N) r (bs r 0) k) := by
        rw [q6_add (K := 5 * (15 * 450)) (by
          rw [e1, hG]
          exact isZ_mono (isZ_sm (n := n + 1) (fun k _ => hz k)) (Nat.mul_le_mul_right _ (by omega))) (by omega), e1, hG]
        rfl
      obtain ⟨S', h1, h2, h3, h4, h5, h6⟩ := ih (n + 1) (sG S 0 (gG S 0 + gJ S (0 + bs r 0) n * gJ S (4 + bs r 0) n)) (by omega) (by omega) hL hA e2
      refine ⟨S', ?_, h2, fun k hk => ?_, h4, h5, h6⟩
      · rw [f_G_ground_97, if_neg (k4ge (by omega)), ck_t (vi_n hlt (by omega)), ck_t (vi_n (by omega) (by omega)), ck_t (vi_n hlt (by omega)), ck_t (vi_n (by omega) (by omega)), cl_n (by omega), cl_n (by omega), nI_1]
        exact h1
      · rw [h3 k hk]
        simp only [gs, if_neg hk]
theorem pg_ground (hN : netOk N) (hm : 8 < m) (hr : r < 4) {S : z_S} (hc : cN S N) : ∃ S', f_G_ground m (nI r) S = some ((), S') ∧ gF S' = gF S ∧ (∀ k, k ≠ 0 → gG S' k = gG S k) ∧ gI S' = gI S ∧ (∀ t, 8 ≤ t → gJ S' t = gJ S t) ∧ AR S' N r ∧ q6 (gG S' 0) = Tr (LN N) r := by
  obtain ⟨T, t1, t2, t3⟩ := pg_weigh (m := m) hN hm hc
  obtain ⟨U, u1, u2, u3⟩ := pg_edge (m := m) hr m 0 (sG T 0 0) (by omega) (by omega) (fun n hn => by omega)
  obtain ⟨V, v1, v2, v3⟩ := pg_adj (m := m) hN hr (by omega) m 0 U (by omega) (by omega) ⟨fun x y hx hy => by
    rw [u2.2.2.2 x (by omega)]; exact t3 x y hx hy, u3, fun a b _ _ h => by omega⟩
  have hA := GQ_AR hr v3
  obtain ⟨W, w1, w2, w3, w4, w5, w6⟩ := pg_trees (m := m) hN hr m 0 V (by omega) (by omega) v3.1 hA (by
    rw [v2.2.1, u2.2.1]
    rfl)
  refine ⟨W, ?_, ?_, fun k hk => ?_, ?_, fun t ht => ?_, fun x y hx hy => by rw [w5]; exact hA x y hx hy, w6⟩
  · unfold f_G_ground
    rw [bo_s t1]
    exact u1.trans (v1.trans w1)
  · rw [w2, v2.1, u2.1]; exact t2.1
  · rw [w3 k hk, v2.2.1, u2.2.1]
    show (if k = 0 then (0 : Int64) else gG T k) = _
    rw [if_neg hk, t2.2.1]
  · rw [w4, v2.2.2.1, u2.2.2.1]; exact t2.2.2.1
  · rw [w5, v2.2.2.2 t (by omega), u2.2.2.2 t (by omega)]
    exact t2.2.2.2 t (by omega)
theorem Tr_Z (hN : netOk N) : isZ (Tr (LN N) r) 27000 := isZ_sm (n := 4) (K := 6750) (fun k _ => isZ_mul (K := 15) (L := 450) (LN_Z hN (bs_lt _ _)) (Adj_Z hN _ _))
end GROUND
