/-! the start is a good table of the network -/
theorem pid_three : ∀ a, a < 4 → ∀ x, x < 4 → ∀ y, y < 4 → x ≠ y → (a = x ∨ a = y) → ((pid x y = pid a (bs a 0) ∧ ¬ pid x y = pid a (bs a 1) ∧ ¬ pid x y = pid a (bs a 2)) ∨ (¬ pid x y = pid a (bs a 0) ∧ pid x y = pid a (bs a 1) ∧ ¬ pid x y = pid a (bs a 2)) ∨ (¬ pid x y = pid a (bs a 0) ∧ ¬ pid x y = pid a (bs a 1) ∧ pid x y = pid a (bs a 2))) := by
  intro a ha x hx y hy
  rcases lt4 ha with e | e | e | e <;> subst e <;> rcases lt4 hx with e | e | e | e <;> subst e <;> rcases lt4 hy with e | e | e | e <;> subst e <;> decide
theorem dl_Z (fa fb : Nat → Nat) (k v : Nat) (h : fa k ≠ fb k) : isZ (dl fa fb k v) 1 := by
  unfold dl
  by_cases q1 : v = fa k
  · rw [if_pos q1, if_neg (by omega)]; exact ⟨1, by grind, by omega, by omega⟩
  · rw [if_neg q1]
    by_cases q2 : v = fb k
    · rw [if_pos q2]; exact ⟨-1, by grind, by omega, by omega⟩
    · rw [if_neg q2]; exact ⟨0, by grind, by omega, by omega⟩
theorem isZ_nat {n K : Nat} (h : n ≤ K) : isZ (n : Rat) K := ⟨(n : Int), rfl, by omega, by omega⟩
section NET
variable {N : Net} {B : Bk} {r : Nat} {a : Rat}
theorem one_pid (hN : netOk N) {p : Nat} {f : Nat → Rat} (hf : ∀ k, k < N.1 → isZ (f k) 5) : isZ (sm N.1 (fun k => if pid (N.2.1 k) (N.2.2.1 k) = p then f k else 0)) 5 := by
  by_cases q : ∃ k, k < N.1 ∧ pid (N.2.1 k) (N.2.2.1 k) = p
  · obtain ⟨k, hk, e⟩ := q
    rw [sm_one hk (fun j hj hne => by
      have : pid (N.2.1 j) (N.2.2.1 j) ≠ p := by
        intro e'
        rcases Nat.lt_or_gt_of_ne hne with h | h
        · exact hN.2.2 j k h hk (e'.trans e.symm)
        · exact hN.2.2 k j h hj (e.trans e'.symm)
      rw [if_neg this]), if_pos e]
    exact hf k hk
  · rw [sm_zero (fun k hk => by rw [if_neg (fun e => q ⟨k, hk, e⟩)])]
    exact isZ_0 _
theorem LN_Z (hN : netOk N) {x y : Nat} (hx : x < 4) : isZ (LN N x y) 15 := by
  have hf : ∀ k, k < N.1 → isZ ((N.2.2.2.1 k : Rat) * dl N.2.1 N.2.2.1 k x * dl N.2.1 N.2.2.1 k y) 5 := fun k hk => by
    have h := hN.2.1 k hk
    exact isZ_mul (K := 5) (L := 1) (isZ_mul (K := 5) (L := 1) (isZ_nat h.2.2.2.2.1) (dl_Z _ _ _ _ h.2.2.1)) (dl_Z _ _ _ _ h.2.2.1)
  have e : LN N x y = sm N.1 (fun k => if pid (N.2.1 k) (N.2.2.1 k) = pid x (bs x 0) then (N.2.2.2.1 k : Rat) * dl N.2.1 N.2.2.1 k x * dl N.2.1 N.2.2.1 k y else 0) + sm N.1 (fun k => if pid (N.2.1 k) (N.2.2.1 k) = pid x (bs x 1) then (N.2.2.2.1 k : Rat) * dl N.2.1 N.2.2.1 k x * dl N.2.1 N.2.2.1 k y else 0) + sm N.1 (fun k => if pid (N.2.1 k) (N.2.2.1 k) = pid x (bs x 2) then (N.2.2.2.1 k : Rat) * dl N.2.1 N.2.2.1 k x * dl N.2.1 N.2.2.1 k y else 0) := by
    rw [← sm_add, ← sm_add]
    refine sm_congr fun k hk => ?_
    have h := hN.2.1 k hk
    by_cases q : x = N.2.1 k ∨ x = N.2.2.1 k
    · rcases pid_three x hx _ h.1 _ h.2.1 h.2.2.1 q with ⟨p1, p2, p3⟩ | ⟨p1, p2, p3⟩ | ⟨p1, p2, p3⟩
      · rw [if_pos p1, if_neg p2, if_neg p3]; grind
      · rw [if_neg p1, if_pos p2, if_neg p3]; grind
      · rw [if_neg p1, if_neg p2, if_pos p3]; grind
    · have h0 : dl N.2.1 N.2.2.1 k x = 0 := by unfold dl; rw [if_neg (fun e => q (Or.inl e)), if_neg (fun e => q (Or.inr e))]; grind
      rw [h0]
      have : (N.2.2.2.1 k : Rat) * 0 * dl N.2.1 N.2.2.1 k y = 0 := by grind
      rw [this]
      simp only [ite_self]
      grind
  rw [e]
  exact isZ_add (K := 10) (L := 5) (isZ_add (K := 5) (L := 5) (one_pid hN hf) (one_pid hN hf)) (one_pid hN hf)
theorem pln_Z (hN : netOk N) {g : Nat} (hg : isGn N g) : vZ (pln N g) 15 := by
  unfold pln
  by_cases q : g < 4
  · rw [if_pos q]
    exact ⟨isZ_neg (LN_Z hN q), isZ_neg (LN_Z hN q), isZ_neg (LN_Z hN q)⟩
  · rw [if_neg q]
    have hk : g - 9 < N.1 := by unfold isGn at hg; omega
    have h := hN.2.1 _ hk
    have hz : ∀ v, isZ ((N.2.2.2.1 (g - 9) : Rat) * dl N.2.1 N.2.2.1 (g - 9) v) 15 := fun v => isZ_mono (isZ_mul (K := 5) (L := 1) (isZ_nat h.2.2.2.2.1) (dl_Z _ _ _ _ h.2.2.1)) (by omega)
    exact ⟨hz 1, hz 2, hz 3⟩
def loN (N : Net) (u : Nat) : Rat := if 9 ≤ u ∧ u < 9 + N.1 then - (N.2.2.2.2 (u - 9) : Rat) else 0
def hiN (N : Net) (B : Bk) (a : Rat) (u : Nat) : Rat := if u < B.1 then B.2.2.2.2 u else if u = 8 then a else if 9 ≤ u ∧ u < 9 + N.1 then (N.2.2.2.2 (u - 9) : Rat) else 0
theorem nat_nn (n : Nat) : (0 : Rat) ≤ (n : Rat) := by
  have : ((0 : Nat) : Rat) ≤ (n : Rat) := Rat.natCast_le_natCast.mpr (Nat.zero_le n)
  exact this
theorem loN_0 (u : Nat) : loN N u ≤ 0 := by
  unfold loN
  by_cases q : 9 ≤ u ∧ u < 9 + N.1
  · rw [if_pos q]; have := nat_nn (N.2.2.2.2 (u - 9)); grind
  · rw [if_neg q]; grind
theorem hiN_0 (hB : bkOk B) (ha : a = 0 ∨ a = 1) (u : Nat) : 0 ≤ hiN N B a u := by
  unfold hiN
  by_cases q : u < B.1
  · rw [if_pos q]; exact (hB.2 u q).2.2.2.2
  · rw [if_neg q]
    by_cases q : u = 8
    · rw [if_pos q]; rcases ha with e | e <;> rw [e] <;> grind
    · rw [if_neg q]
      by_cases q : 9 ≤ u ∧ u < 9 + N.1
      · rw [if_pos q]; exact nat_nn _
      · rw [if_neg q]; grind
theorem bnds_N (hN : netOk N) (hB : bkOk B) (ha : a = 0 ∨ a = 1) : bnds (loN N) (hiN N B a) := by
  intro u hu
  constructor
  · unfold loN
    by_cases q : 9 ≤ u ∧ u < 9 + N.1
    · rw [if_pos q]; exact isZ_neg (isZ_nat (by have := (hN.2.1 (u - 9) (by omega)).2.2.2.2.2; omega))
    · rw [if_neg q]; exact isZ_0 _
  · unfold hiN
    by_cases q : u < B.1
    · rw [if_pos q]; exact (hB.2 u q).2.2.2.1
    · rw [if_neg q]
      by_cases q : u = 8
      · rw [if_pos q]; rcases ha with e | e <;> rw [e]
        · exact isZ_0 _
        · exact ⟨1, by simp, by omega, by omega⟩
      · rw [if_neg q]
        by_cases q : 9 ≤ u ∧ u < 9 + N.1
        · rw [if_pos q]; exact isZ_nat (by have := (hN.2.1 (u - 9) (by omega)).2.2.2.2.2; omega)
        · rw [if_neg q]; exact isZ_0 _
def ers (r : Nat) : Rat := if r = 0 ∨ r = 2 then -1 else 1
theorem geo_det {L : Nat → Nat → Rat} (hL : symm4 L) (hr : r < 4) : det3 (scl (ers r) (npl L (bs r 0))) (npl L (bs r 1)) (npl L (bs r 2)) = Tr L r := by
  obtain ⟨a1, a2, a3, a4, a5, a6, d0, d1, d2, d3⟩ := symm4_out hL
  unfold Tr Adj cof det3 dot crs scl npl ers
  rw [sm4]
  rcases lt4 hr with e | e | e | e <;> subst e <;> simp only [bs, Nat.reduceAdd, Nat.reduceMod, Nat.reduceSub, Nat.reduceEqDiff, true_or, or_true, or_self, reduceIte, a1, a2, a3, a4, a5, a6, d0, d1, d2, d3] <;> grind
theorem geo_dir {L : Nat → Nat → Rat} (hL : symm4 L) (hr : r < 4) {n : Nat} (hn : n < 4) : (n = r → (Adj L r 0 n - Adj L r 1 n, Adj L r 0 n - Adj L r 2 n, Adj L r 0 n - Adj L r 3 n) = ((0, 0, 0) : v3)) ∧ (n = bs r 0 → (Adj L r 0 n - Adj L r 1 n, Adj L r 0 n - Adj L r 2 n, Adj L r 0 n - Adj L r 3 n) = scl (ers r) (crs (npl L (bs r 1)) (npl L (bs r 2)))) ∧ (n = bs r 1 → (Adj L r 0 n - Adj L r 1 n, Adj L r 0 n - Adj L r 2 n, Adj L r 0 n - Adj L r 3 n) = crs (npl L (bs r 2)) (scl (ers r) (npl L (bs r 0)))) ∧ (n = bs r 2 → (Adj L r 0 n - Adj L r 1 n, Adj L r 0 n - Adj L r 2 n, Adj L r 0 n - Adj L r 3 n) = crs (scl (ers r) (npl L (bs r 0))) (npl L (bs r 1))) := by
  obtain ⟨a1, a2, a3, a4, a5, a6, d0, d1, d2, d3⟩ := symm4_out hL
  unfold Adj cof crs scl npl ers
  refine ⟨fun q => ?_, fun q => ?_, fun q => ?_, fun q => ?_⟩ <;> subst q <;> rcases lt4 hr with e | e | e | e <;> subst e <;> refine v3_ext ?_ ?_ ?_ <;> simp only [bs, Nat.reduceAdd, Nat.reduceMod, Nat.reduceSub, Nat.reduceEqDiff, true_or, or_true, or_self, reduceIte, a1, a2, a3, a4, a5, a6, d0, d1, d2, d3] <;> grind
theorem bs_all : ∀ r, r < 4 → ∀ n, n < 4 → n = r ∨ n = bs r 0 ∨ n = bs r 1 ∨ n = bs r 2 := by decide
theorem bs_lt (r i : Nat) : bs r i < 4 := Nat.mod_lt _ (by omega)
theorem start_geo (hN : netOk N) (hB : bkOk B) (hr : r < 4) : Geo (N.1 + 2 + 3) B.1 (isGn N) (pln N) (sT N B r) := by
  have hL := symm4_N hN
  have hp : ∀ i, pln N (bs r i) = npl (LN N) (bs r i) := fun i => by unfold pln; rw [if_pos (bs_lt r i)]
  have he : ers r = 1 ∨ ers r = -1 := by unfold ers; by_cases q : r = 0 ∨ r = 2; exact Or.inr (if_pos q); exact Or.inl (if_neg q)
  refine ⟨scl (ers r) (npl (LN N) (bs r 0)), npl (LN N) (bs r 1), npl (LN N) (bs r 2), ⟨bs r 0, ers r, Or.inl (bs_lt _ _), he, by rw [hp]⟩, ⟨bs r 1, 1, Or.inl (bs_lt _ _), Or.inl rfl, by rw [hp]; unfold scl; refine v3_ext ?_ ?_ ?_ <;> grind⟩, ⟨bs r 2, 1, Or.inl (bs_lt _ _), Or.inl rfl, by rw [hp]; unfold scl; refine v3_ext ?_ ?_ ?_ <;> grind⟩, geo_det hL hr, fun j hj => ?_⟩
  have hb := hB.2 j hj
  have e0 : hD (N.1 + 2 + 3) (sT N B r) j = scl (B.2.2.1 j) (Adj (LN N) r 0 (B.2.1 j) - Adj (LN N) r 1 (B.2.1 j), Adj (LN N) r 0 (B.2.1 j) - Adj (LN N) r 2 (B.2.1 j), Adj (LN N) r 0 (B.2.1 j) - Adj (LN N) r 3 (B.2.1 j)) := by
    have c4 : ∀ w, 1 ≤ w → sC N B r (N.1 + 1 + w) j = B.2.2.1 j * (Adj (LN N) r 0 (B.2.1 j) - Adj (LN N) r w (B.2.1 j)) := fun w hw => by unfold sC; rw [if_neg (by omega), if_neg (by omega), if_neg (by omega), Nat.add_sub_cancel_left]
    refine v3_ext ?_ ?_ ?_
    · exact c4 1 (by omega)
    · exact c4 2 (by omega)
    · exact c4 3 (by omega)
  rw [e0]
  refine inU_scl hb.2.1 ?_
  obtain ⟨g0, g1, g2, g3⟩ := geo_dir hL hr hb.1
  rcases bs_all r hr _ hb.1 with q | q | q | q
  · rw [g0 q]; exact Or.inl rfl
  · rw [g1 q]; exact Or.inr ⟨ers r, he, Or.inl rfl⟩
  · rw [g2 q]; exact Or.inr ⟨1, Or.inl rfl, Or.inr (Or.inl (by unfold scl; refine v3_ext ?_ ?_ ?_ <;> grind))⟩
  · rw [g3 q]; exact Or.inr ⟨1, Or.inl rfl, Or.inr (Or.inr (by unfold scl; refine v3_ext ?_ ?_ ?_ <;> grind))⟩
theorem start_live (hN : netOk N) (hB : bkOk B) (u : Nat) : live (N.1 + 2 + 3) B.1 (sT N B r) u ↔ (u < B.1 ∨ u = 8 ∨ (9 ≤ u ∧ u < 9 + N.1) ∨ u = 15 ∨ (16 ≤ u ∧ u < 19)) := by
  have h6 := hN.1
  constructor
  · rintro (⟨i, hi, e⟩ | ⟨j, hj, e⟩)
    · have e : sR N i = u := e
      unfold sR at e
      by_cases q1 : i < N.1
      · rw [if_pos q1] at e; omega
      · rw [if_neg q1] at e
        by_cases q2 : i = N.1
        · rw [if_pos q2] at e; omega
        · rw [if_neg q2] at e
          by_cases q3 : i = N.1 + 1
          · rw [if_pos q3] at e; omega
          · rw [if_neg q3] at e; omega
    · have e : j = u := e
      omega
  · rintro (h | h | h | h | h)
    · exact Or.inr ⟨u, h, rfl⟩
    · refine Or.inl ⟨N.1, by omega, ?_⟩
      show sR N N.1 = u
      unfold sR; rw [if_neg (by omega), if_pos rfl]; omega
    · refine Or.inl ⟨u - 9, by omega, ?_⟩
      show sR N (u - 9) = u
      unfold sR; rw [if_pos (by omega)]; omega
    · refine Or.inl ⟨N.1 + 1, by omega, ?_⟩
      show sR N (N.1 + 1) = u
      unfold sR; rw [if_neg (by omega), if_neg (by omega), if_pos rfl]; omega
    · refine Or.inl ⟨N.1 + 2 + (u - 16), by omega, ?_⟩
      show sR N (N.1 + 2 + (u - 16)) = u
      unfold sR; rw [if_neg (by omega), if_neg (by omega), if_neg (by omega)]; omega
theorem start_wf (hN : netOk N) (hB : bkOk B) : Wf (N.1 + 2 + 3) B.1 (sR N) (fun j => j) := by
  have h6 := hN.1
  have h8 := hB.1
  have e : ∀ i, (i < N.1 ∧ sR N i = 9 + i) ∨ (i = N.1 ∧ sR N i = 8) ∨ (i = N.1 + 1 ∧ sR N i = 15) ∨ (N.1 + 2 ≤ i ∧ sR N i = 16 + (i - (N.1 + 2))) := by
    intro i
    unfold sR
    by_cases q1 : i < N.1
    · rw [if_pos q1]; omega
    · rw [if_neg q1]
      by_cases q2 : i = N.1
      · rw [if_pos q2]; omega
      · rw [if_neg q2]
        by_cases q3 : i = N.1 + 1
        · rw [if_pos q3]; omega
        · rw [if_neg q3]; omega
  refine ⟨fun i k hi hk he => ?_, fun i k _ _ he => he, fun i k hi hk he => ?_⟩
  · have := e i
    have := e k
    omega
  · have := e i
    have he : sR N i = k := he
    omega
theorem start_PI (hN : netOk N) (hB : bkOk B) (hr : r < 4) (hT : 0 < Tr (LN N) r) (ha : a = 0 ∨ a = 1) : PI (N.1 + 2 + 3) B.1 (isGn N) (pln N) (grn N B r) (sgn' B) (pwn B) (loN N) (hiN N B a) (sT N B r) := by
  have h6 := hN.1
  have h8 := hB.1
  have hlh : ∀ u, loN N u ≤ hiN N B a u := fun u => by
    have h1 := loN_0 (N := N) u
    have h2 := hiN_0 (N := N) hB ha u
    grind
  refine ⟨⟨⟨hT, start_wf hN hB, fun y => start_V hN hB hr hT y, ?_, fun j hj => ⟨?_, hlh _, Or.inl ?_⟩, fun i hi hu => ⟨loN_0 _, hiN_0 hB ha _⟩⟩, by omega, ?_, ?_, ?_, fun u hu => ?_, fun u hu hg => ?_⟩, start_geo hN hB hr, fun u _ _ => hlh u, fun g hg => pln_Z hN hg, fun u hu => ?_⟩
  · refine (start_V hN hB hr hT _).mp fun i hi => ?_
    show Tr (LN N) r * 0 = sm B.1 (fun j => sC N B r i j * 0)
    rw [sm_zero (fun j _ => by grind)]
    grind
  · show j < 15
    omega
  · show (0 : Rat) = loN N j
    unfold loN
    rw [if_neg (by omega)]
  · show sR N (N.1 + 2) = 16
    unfold sR; rw [if_neg (by omega), if_neg (by omega), if_neg (by omega)]; omega
  · show sR N (N.1 + 3) = 17
    unfold sR; rw [if_neg (by omega), if_neg (by omega), if_neg (by omega)]; omega
  · show sR N (N.1 + 4) = 18
    unfold sR; rw [if_neg (by omega), if_neg (by omega), if_neg (by omega)]; omega
  · rw [start_live hN hB]
    unfold isGn grn
    by_cases q : u < B.1
    · rw [if_pos q]; have := (hB.2 u q).1; omega
    · rw [if_neg q]
      by_cases q : u = 8
      · rw [if_pos q]; omega
      · rw [if_neg q]
        by_cases q : 9 ≤ u ∧ u < 9 + N.1
        · rw [if_pos q]; omega
        · rw [if_neg q]; omega
  · unfold sgn'
    by_cases q : u < B.1
    · rw [if_pos q]; exact (hB.2 u q).2.1
    · rw [if_neg q]; exact Or.inl rfl
  · unfold pwn
    by_cases q : u < B.1
    · rw [if_pos q]; exact isZ_pm (hB.2 u q).2.1 (hB.2 u q).2.2.1
    · rw [if_neg q]; exact isZ_0 _
end NET
