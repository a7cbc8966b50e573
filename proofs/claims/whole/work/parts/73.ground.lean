/-! weighNodes and ground refine the network's matrix and its adjugate -/
def cN (S : z_S) (N : Net) : Prop := gF S 0 = nI N.1 ∧ ∀ k, k < N.1 → gI S 1 k = nI (N.2.1 k) ∧ gI S 2 k = nI (N.2.2.1 k) ∧ gI S 3 k = nI (N.2.2.2.1 k) ∧ gI S 4 k = nI (N.2.2.2.2 k)
def JF (S S' : z_S) (lo hi : Nat) : Prop := gF S' = gF S ∧ gG S' = gG S ∧ gI S' = gI S ∧ ∀ t, (t < lo ∨ hi ≤ t) → gJ S' t = gJ S t
theorem JF_tr {S T U : z_S} {lo hi : Nat} (h : JF S T lo hi) (h' : JF T U lo hi) : JF S U lo hi := ⟨h'.1.trans h.1, h'.2.1.trans h.2.1, h'.2.2.1.trans h.2.2.1, fun t ht => (h'.2.2.2 t ht).trans (h.2.2.2 t ht)⟩
theorem JF_rf (S : z_S) (lo hi : Nat) : JF S S lo hi := ⟨rfl, rfl, rfl, fun _ _ => rfl⟩
theorem JF_up (S : z_S) {lo hi a : Nat} (f : Nat → Int64) (h1 : lo ≤ a) (h2 : a < hi) : JF S (sJ S a f) lo hi := ⟨rfl, rfl, rfl, fun t ht => by rw [show gJ (sJ S a f) t = if t = a then f else gJ S t from rfl, if_neg (by omega)]⟩
theorem sJ_at (S : z_S) (a : Nat) (f : Nat → Int64) (t : Nat) : gJ (sJ S a f) t = if t = a then f else gJ S t := rfl
theorem sJ_up (S : z_S) (a b : Nat) (v : Int64) (x y : Nat) : gJ (sJ S a (vp_updL (gJ S a) b v)) x y = if x = a ∧ y = b then v else gJ S x y := by
  rw [sJ_at]
  by_cases q : x = a
  · subst q
    rw [if_pos rfl, updL_at]
    by_cases q2 : y = b
    · rw [if_pos q2, if_pos ⟨rfl, q2⟩]
    · rw [if_neg q2, if_neg (fun h => q2 h.2)]
  · rw [if_neg q, if_neg (fun h => q h.1)]
theorem k4le {b : Nat} (h : 4 ≤ b) (hb : b < 2 ^ 31) : (4 : Int32) ≤ nI b := nI_le (a := 4) h hb
theorem k4ge {b : Nat} (h : b < 4) : ¬ (4 : Int32) ≤ nI b := nI_ge (b := 4) h (by omega)
theorem k3le {b : Nat} (h : 3 ≤ b) (hb : b < 2 ^ 31) : (3 : Int32) ≤ nI b := nI_le (a := 3) h hb
theorem k3ge {b : Nat} (h : b < 3) : ¬ (3 : Int32) ≤ nI b := nI_ge (b := 3) h (by omega)
theorem gI_sJ (S : z_S) (k : Nat) (f : Nat → Int64) : gI (sJ S k f) = gI S := rfl
section GROUND
variable {N : Net} {m : Nat}
theorem pg_zero_in {k2 : Int32 → z_S → Option (Unit × z_S)} {a : Nat} (ha : a < 4) : ∀ q b (S : z_S), b ≤ 4 → 4 - b < q → ∃ S', f_G_weighNodes_9 m k2 q (nI a) (nI b) S = k2 (nI (a + 1)) S' ∧ JF S S' 0 4 ∧ (∀ x y, gJ S' x y = if x = a ∧ b ≤ y ∧ y < 4 then 0 else gJ S x y) := by
  intro q
  induction q with
  | zero => intro b S _ h; omega
  | succ q ih =>
    intro b S hb hq
    by_cases e : b = 4
    · refine ⟨S, ?_, JF_rf _ _ _, fun x y => by rw [if_neg (by omega)]⟩
      rw [f_G_weighNodes_9, if_pos (k4le (by omega) (by omega)), nI_1]
    · obtain ⟨S', h1, h2, h3⟩ := ih (b + 1) (sJ S (0 + a) (vp_updL (gJ S (0 + a)) b 0)) (by omega) (by omega)
      refine ⟨S', ?_, JF_tr (JF_up S _ (by omega) (by omega)) h2, fun x y => ?_⟩
      · rw [f_G_weighNodes_9, if_neg (k4ge (by omega)), ck_t (vi_n ha (by omega)), ck_t (vi_n (by omega) (by omega)), cl_n (by omega), cl_n (by omega), nI_1]
        exact h1
      · rw [h3, Nat.zero_add, sJ_up]
        by_cases q1 : x = a ∧ b + 1 ≤ y ∧ y < 4
        · rw [if_pos q1, if_pos (by omega)]
        · rw [if_neg q1]
          by_cases q2 : x = a ∧ y = b
          · rw [if_pos q2, if_pos (by omega)]
          · rw [if_neg q2, if_neg (by omega)]
theorem pg_zero (hm : 5 < m) : ∀ q a (S : z_S), a ≤ 4 → 4 - a < q → ∃ S', f_G_weighNodes_2 m q (nI a) S = f_G_weighNodes_37 m m 0 S' ∧ JF S S' 0 4 ∧ (∀ x y, a ≤ x → x < 4 → y < 4 → gJ S' x y = 0) ∧ (∀ x y, x < a → gJ S' x y = gJ S x y) := by
  intro q
  induction q with
  | zero => intro a S _ h; omega
  | succ q ih =>
    intro a S ha hq
    by_cases e : a = 4
    · refine ⟨S, ?_, JF_rf _ _ _, fun x y h1 h2 _ => by omega, fun _ _ _ => rfl⟩
      rw [f_G_weighNodes_2, if_pos (k4le (by omega) (by omega))]
    · obtain ⟨T, t1, t2, t3⟩ := pg_zero_in (m := m) (k2 := f_G_weighNodes_2 m q) (a := a) (by omega) m 0 S (by omega) (by omega)
      obtain ⟨S', h1, h2, h3, h4⟩ := ih (a + 1) T (by omega) (by omega)
      refine ⟨S', ?_, JF_tr t2 h2, fun x y x1 x2 x3 => ?_, fun x y hx => ?_⟩
      · rw [f_G_weighNodes_2, if_neg (k4ge (by omega)), ← h1]
        exact t1
      · by_cases e2 : x = a
        · rw [h4 x y (by omega), t3, if_pos (by omega)]
        · exact h3 x y (by omega) x2 x3
      · rw [h4 x y (by omega), t3, if_neg (by omega)]
theorem pg_lines (hN : netOk N) : ∀ q k (S : z_S), k ≤ N.1 → N.1 - k < q → cN S N → (∀ x y, x < 4 → y < 4 → q6 (gJ S x y) = Lp k N.2.1 N.2.2.1 N.2.2.2.1 x y) → ∃ S', f_G_weighNodes_37 m q (nI k) S = some ((), S') ∧ JF S S' 0 4 ∧ (∀ x y, x < 4 → y < 4 → q6 (gJ S' x y) = LN N x y) := by
  have h6 := hN.1
  intro q
  induction q with
  | zero => intro k S _ h; omega
  | succ q ih =>
    intro k S hk hq hc hL
    by_cases e : k = N.1
    · refine ⟨S, ?_, JF_rf _ _ _, fun x y hx hy => ?_⟩
      · rw [f_G_weighNodes_37, if_pos (by rw [hc.1]; exact nI_le (by omega) (by omega))]
      · rw [hL x y hx hy, e]; rfl
    · have hkc : k < N.1 := by omega
      obtain ⟨c1, c2, c3, c4⟩ := hc.2 k hkc
      obtain ⟨n1, n2, n3, n4, n5, n6⟩ := hN.2.1 k hkc
      have hv : vi (nI k) 6 = true := vi_n (by omega) (by omega)
      have hkk : (nI k).toNatClampNeg = k := cl_n (by omega)
      have va : vi (nI (N.2.1 k)) 4 = true := vi_n (by omega) (by omega)
      have vb : vi (nI (N.2.2.1 k)) 4 = true := vi_n (by omega) (by omega)
      have ka : (nI (N.2.1 k)).toNatClampNeg = N.2.1 k := cl_n (by omega)
      have kb : (nI (N.2.2.1 k)).toNatClampNeg = N.2.2.1 k := cl_n (by omega)
      have hf : q6 (nI (N.2.2.2.1 k)).toInt64 = (N.2.2.2.1 k : Rat) := by rw [q6_i, q3_nI (by omega)]
      have hfz : isZ (N.2.2.2.1 k : Rat) 5 := isZ_nat n5
      have hz : ∀ x y, x < 4 → y < 4 → isZ (q6 (gJ S x y)) 30 := fun x y hx hy => by
        rw [hL x y hx hy]
        exact isZ_mono (isZ_sm (K := 5) (fun j hj => isZ_mul (K := 5) (L := 1) (isZ_mul (K := 5) (L := 1) (isZ_nat (hN.2.1 j (by omega)).2.2.2.2.1) (dl_Z _ _ _ _ (hN.2.1 j (by omega)).2.2.1)) (dl_Z _ _ _ _ (hN.2.1 j (by omega)).2.2.1))) (by omega)
      generalize hA : N.2.1 k = a at *
      generalize hBb : N.2.2.1 k = b at *
      generalize hFf : (nI (N.2.2.2.1 k)).toInt64 = f at *
      have hT : ∃ T, T = sJ (sJ (sJ (sJ S (0 + a) (vp_updL (gJ S (0 + a)) a (gJ S (0 + a) a + f))) (0 + b) (vp_updL (gJ (sJ S (0 + a) (vp_updL (gJ S (0 + a)) a (gJ S (0 + a) a + f))) (0 + b)) b (gJ (sJ S (0 + a) (vp_updL (gJ S (0 + a)) a (gJ S (0 + a) a + f))) (0 + b) b + f))) (0 + a) (vp_updL (gJ (sJ (sJ S (0 + a) (vp_updL (gJ S (0 + a)) a (gJ S (0 + a) a + f))) (0 + b) (vp_updL (gJ (sJ S (0 + a) (vp_updL (gJ S (0 + a)) a (gJ S (0 + a) a + f))) (0 + b)) b (gJ (sJ S (0 + a) (vp_updL (gJ S (0 + a)) a (gJ S (0 + a) a + f))) (0 + b) b + f))) (0 + a)) b (gJ (sJ (sJ S (0 + a) (vp_updL (gJ S (0 + a)) a (gJ S (0 + a) a + f))) (0 + b) (vp_updL (gJ (sJ S (0 + a) (vp_updL (gJ S (0 + a)) a (gJ S (0 + a) a + f))) (0 + b)) b (gJ (sJ S (0 + a) (vp_updL (gJ S (0 + a)) a (gJ S (0 + a) a + f))) (0 + b) b + f))) (0 + a) b - f))) (0 + b) (vp_updL (gJ (sJ (sJ (sJ S (0 + a) (vp_updL (gJ S (0 + a)) a (gJ S (0 + a) a + f))) (0 + b) (vp_updL (gJ (sJ S (0 + a) (vp_updL (gJ S (0 + a)) a (gJ S (0 + a) a + f))) (0 + b)) b (gJ (sJ S (0 + a) (vp_updL (gJ S (0 + a)) a (gJ S (0 + a) a + f))) (0 + b) b + f))) (0 + a) (vp_updL (gJ (sJ (sJ S (0 + a) (vp_updL (gJ S (0 + a)) a (gJ S (0 + a) a + f))) (0 + b) (vp_updL (gJ (sJ S (0 + a) (vp_updL (gJ S (0 + a)) a (gJ S (0 + a) a + f))) (0 + b)) b (gJ (sJ S (0 + a) (vp_updL (gJ S (0 + a)) a (gJ S (0 + a) a + f))) (0 + b) b + f))) (0 + a)) b (gJ (sJ (sJ S (0 + a) (vp_updL (gJ S (0 + a)) a (gJ S (0 + a) a + f))) (0 + b) (vp_updL (gJ (sJ S (0 + a) (vp_updL (gJ S (0 + a)) a (gJ S (0 + a) a + f))) (0 + b)) b (gJ (sJ S (0 + a) (vp_updL (gJ S (0 + a)) a (gJ S (0 + a) a + f))) (0 + b) b + f))) (0 + a) b - f))) (0 + b)) a (gJ (sJ (sJ (sJ S (0 + a) (vp_updL (gJ S (0 + a)) a (gJ S (0 + a) a + f))) (0 + b) (vp_updL (gJ (sJ S (0 + a) (vp_updL (gJ S (0 + a)) a (gJ S (0 + a) a + f))) (0 + b)) b (gJ (sJ S (0 + a) (vp_updL (gJ S (0 + a)) a (gJ S (0 + a) a + f))) (0 + b) b + f))) (0 + a) (vp_updL (gJ (sJ (sJ S (0 + a) (vp_updL (gJ S (0 + a)) a (gJ S (0 + a) a + f))) (0 + b) (vp_updL (gJ (sJ S (0 + a) (vp_updL (gJ S (0 + a)) a (gJ S (0 + a) a + f))) (0 + b)) b (gJ (sJ S (0 + a) (vp_updL (gJ S (0 + a)) a (gJ S (0 + a) a + f))) (0 + b) b + f))) (0 + a)) b (gJ (sJ (sJ S (0 + a) (vp_updL (gJ S (0 + a)) a (gJ S (0 + a) a + f))) (0 + b) (vp_updL (gJ (sJ S (0 + a) (vp_updL (gJ S (0 + a)) a (gJ S (0 + a) a + f))) (0 + b)) b (gJ (sJ S (0 + a) (vp_updL (gJ S (0 + a)) a (gJ S (0 + a) a + f))) (0 + b) b + f))) (0 + a) b - f))) (0 + b) a - f)) := ⟨_, rfl⟩
      obtain ⟨T, hT⟩ := hT
      have hTat : ∀ x y, gJ T x y = if x = a ∧ y = a then gJ S a a + f else if x = b ∧ y = b then gJ S b b + f else if x = a ∧ y = b then gJ S a b - f else if x = b ∧ y = a then gJ S b a - f else gJ S x y := by
        intro x y
        rw [hT]
        simp only [Nat.zero_add, sJ_up]
        have hba : ¬ b = a := fun h => n3 h.symm
        by_cases q1 : x = a <;> by_cases q2 : x = b <;> by_cases q3 : y = a <;> by_cases q4 : y = b <;> simp only [q1, q2, q3, q4, n3, hba, and_self, and_true, and_false, true_and, false_and, if_true, if_false, reduceIte] <;> first | rfl | omega
      have hJ : JF S T 0 4 := by
        rw [hT]
        exact JF_tr (JF_tr (JF_tr (JF_up S _ (by omega) (by omega)) (JF_up _ _ (by omega) (by omega))) (JF_up _ _ (by omega) (by omega))) (JF_up _ _ (by omega) (by omega))
      obtain ⟨S', h1, h2, h3⟩ := ih (k + 1) T (by omega) (by omega) ⟨by rw [hJ.1]; exact hc.1, by rw [hJ.2.2.1]; exact hc.2⟩ (fun x y hx hy => by
        show _ = Lp k N.2.1 N.2.2.1 N.2.2.2.1 x y + (N.2.2.2.1 k : Rat) * dl N.2.1 N.2.2.1 k x * dl N.2.1 N.2.2.1 k y
        rw [← hL x y hx hy, hTat]
        unfold dl
        rw [hA, hBb]
        have ha : ∀ x y, x < 4 → y < 4 → q6 (gJ S x y + f) = q6 (gJ S x y) + (N.2.2.2.1 k : Rat) := fun x y hx hy => by
          rw [q6_add (K := 35) (by rw [hf]; exact isZ_add (hz x y hx hy) hfz) (by omega), hf]
        have hs : ∀ x y, x < 4 → y < 4 → q6 (gJ S x y - f) = q6 (gJ S x y) - (N.2.2.2.1 k : Rat) := fun x y hx hy => by
          rw [q6_sub (K := 35) (by rw [hf]; exact isZ_sub (hz x y hx hy) hfz) (by omega), hf]
        have hba : ¬ b = a := fun h => n3 h.symm
        by_cases q1 : x = a <;> by_cases q2 : x = b <;> by_cases q3 : y = a <;> by_cases q4 : y = b <;> simp only [q1, q2, q3, q4, n3, hba, and_self, and_true, and_false, true_and, false_and, if_true, if_false, reduceIte, ha a a n1 n1, ha b b n2 n2, hs a b n1 n2, hs b a n2 n1] <;> first | grind | omega)
      refine ⟨S', ?_, JF_tr hJ h2, h3⟩
      rw [f_G_weighNodes_37, if_neg (by rw [hc.1]; exact nI_ge hkc (by omega)), ck_t hv, ck_t hv]
      rw [hkk, c1, c2, c3, hFf, ck_t va, ck_t va, ck_t hv, ck_t va, ka]
      unfold f_G_weighNodes_77 f_G_weighNodes_95 f_G_weighNodes_113 f_G_weighNodes_131
      simp only [ck_t va, ck_t vb, ck_t hv, ka, kb, hkk, gI_sJ, c3, hFf, nI_1]
      rw [← h1, hT]
theorem pg_weigh (hN : netOk N) (hm : 8 < m) {S : z_S} (hc : cN S N) : ∃ S', f_G_weighNodes m S = some ((), S') ∧ JF S S' 0 4 ∧ (∀ x y, x < 4 → y < 4 → q6 (gJ S' x y) = LN N x y) := by
  obtain ⟨T, t1, t2, t3, -⟩ := pg_zero (m := m) (by omega) m 0 S (by omega) (by omega)
  have h6 := hN.1
  obtain ⟨S', h1, h2, h3⟩ := pg_lines (m := m) hN m 0 T (by omega) (by omega) ⟨by rw [t2.1]; exact hc.1, by rw [t2.2.2.1]; exact hc.2⟩ (fun x y hx hy => by rw [t3 x y (by omega) hx hy]; rfl)
  exact ⟨S', t1.trans h1, JF_tr t2 h2, h3⟩
end GROUND
