/-! what the reference finds is the best dispatch -/
section FOUND
variable {N : Net} {B : Bk} {m g : Nat} {pa : Nat → v3} {pd : Nat → Rat} {M : z_S} {w : Nat → Rat} {h0 : v3}
def RF (M M' : z_S) : Prop := (∀ t, t ≠ 2 → t ≠ 3 → gF M' t = gF M t) ∧ (∀ k, 4 ≤ k → gG M' k = gG M k) ∧ (∀ t, t ≠ 8 → t ≠ 9 → gI M' t = gI M t) ∧ ∀ t, 8 ≤ t → gJ M' t = gJ M t
theorem on_sw {a b c : Nat} {h : v3} (h1 : onP3 pa pd a b c h) : onP3 pa pd b a c h := by
  obtain ⟨d, e1, e2, e3⟩ := h1
  refine ⟨fun e => d ?_, e2, e1, e3⟩
  have : det3 (pa a) (pa b) (pa c) = - det3 (pa b) (pa a) (pa c) := by unfold det3 dot crs; grind
  rw [this, e]; grind
theorem on_sw2 {a b c : Nat} {h : v3} (h1 : onP3 pa pd a b c h) : onP3 pa pd a c b h := by
  obtain ⟨d, e1, e2, e3⟩ := h1
  refine ⟨fun e => d ?_, e1, e3, e2⟩
  have : det3 (pa a) (pa b) (pa c) = - det3 (pa a) (pa c) (pa b) := by unfold det3 dot crs; grind
  rw [this, e]; grind
theorem on_ne {a b c : Nat} {h : v3} (h1 : onP3 pa pd a b c h) : a ≠ b ∧ b ≠ c ∧ a ≠ c := by
  obtain ⟨d, -⟩ := h1
  refine ⟨fun e => d ?_, fun e => d ?_, fun e => d ?_⟩
  · rw [e]; unfold det3 dot crs; grind
  · rw [e]; unfold det3 dot crs; grind
  · rw [e]; unfold det3 dot crs; grind
theorem on_sort {P a b c : Nat} {h : v3} (h1 : onP3 pa pd a b c h) (ha : a < P) (hb : b < P) (hc : c < P) : ∃ p q s, Done P P P P p q s ∧ onP3 pa pd p q s h := by
  obtain ⟨n1, n2, n3⟩ := on_ne h1
  rcases Nat.lt_or_gt_of_ne n1 with x | x <;> rcases Nat.lt_or_gt_of_ne n2 with y | y <;> rcases Nat.lt_or_gt_of_ne n3 with z | z
  · exact ⟨a, b, c, ⟨by omega, by omega, by omega, by omega⟩, h1⟩
  · omega
  · exact ⟨a, c, b, ⟨by omega, by omega, by omega, by omega⟩, on_sw2 h1⟩
  · exact ⟨c, a, b, ⟨by omega, by omega, by omega, by omega⟩, on_sw (on_sw2 h1)⟩
  · exact ⟨b, a, c, ⟨by omega, by omega, by omega, by omega⟩, on_sw h1⟩
  · exact ⟨b, c, a, ⟨by omega, by omega, by omega, by omega⟩, on_sw2 (on_sw h1)⟩
  · omega
  · exact ⟨c, b, a, ⟨by omega, by omega, by omega, by omega⟩, on_sw (on_sw2 (on_sw h1))⟩
theorem npl_hc (L : Nat → Nat → Rat) (h : v3) (v : Nat) : dot (npl L v) h = - (L v 0 * hc h 0 + L v 1 * hc h 1 + L v 2 * hc h 2 + L v 3 * hc h 3) := by
  unfold dot npl hc
  simp only [Nat.reduceEqDiff, reduceIte]
  grind
/-- where there are trees, the intakes settle the heights -/
theorem npl_uniq (hN : netOk N) (hT : Tr (LN N) 0 ≠ 0) {h h' : v3} (he : ∀ v, v < 4 → dot (npl (LN N) v) h = dot (npl (LN N) v) h') : h = h' := by
  have s : ∀ (h : v3) (w : Nat), w < 4 → Tr (LN N) 0 * (hc h w - hc h 0) = - (Adj (LN N) 0 w 0 * dot (npl (LN N) 0) h + Adj (LN N) 0 w 1 * dot (npl (LN N) 1) h + Adj (LN N) 0 w 2 * dot (npl (LN N) 2) h + Adj (LN N) 0 w 3 * dot (npl (LN N) 3) h) := fun h w hw => solve1 (symm4_N hN) (r := 0) (by omega) (h := hc h) (X := fun v => dot (npl (LN N) v) h) (fun v _ _ => (npl_hc _ h v).symm) hw
  have e : ∀ w, w < 4 → hc h w = hc h' w := fun w hw => by
    have a1 := s h w hw
    have a2 := s h' w hw
    rw [← he 0 (by omega), ← he 1 (by omega), ← he 2 (by omega), ← he 3 (by omega), ← a1] at a2
    have z : hc h 0 = 0 := rfl
    have z' : hc h' 0 = 0 := rfl
    rw [z, z'] at a2
    grind
  exact v3_ext (e 1 (by omega)) (e 2 (by omega)) (e 3 (by omega))
theorem KF_A8 {M M' : z_S} (h : A8 M M') (hM : mN M N) : mN M' N := ⟨by rw [h.1]; exact hM.1, by rw [h.2.2.2 0 (by omega), h.2.2.2 1 (by omega), h.2.2.2 2 (by omega), h.2.2.2 3 (by omega)]; exact hM.2⟩
/-- the search: nothing where there is no dispatch; the best one where its place is known -/
theorem pm_search (hN : netOk N) (hB : bkOk B) (hm : 30 < m) {x1 : Int32} (hx1 : more0 x1 g) (hM : mN M N) (hMB : mB M B) : ∃ M', f_M_search m x1 M = some ((), M') ∧ RF M M' ∧ ((¬ ∃ x h, FS N B g x h) → gF M' 3 = 0) ∧ (opt N B g w h0 → (∀ tu, isTurn B tu → ∃ A1 A2 A3 D1 D2 D3, isPlane N B g tu A1 D1 ∧ isPlane N B g tu A2 D2 ∧ isPlane N B g tu A3 D3 ∧ det3 A1 A2 A3 ≠ 0 ∧ dot A1 h0 = D1 ∧ dot A2 h0 = D2 ∧ dot A3 h0 = D3) → Tr (LN N) 0 ≠ 0 → gF M' 3 = 1 ∧ ∃ b x, BSt M' B b h0 x ∧ ∀ j, j < B.1 → x j = w j) := by
  have hM0 : mN (sF M 3 0) N := hM
  have hMB0 : mB (sF M 3 0) B := hMB
  obtain ⟨X, tu, a1, a2, a3, a4⟩ := pm_arrange (m := m) hB (by omega) hMB0
  obtain ⟨Y, Z, P, pa, pd, b1, b2, b3, b4, b5⟩ := pm_planes (m := m) (g := g) hN hB a3 (by omega) hx1 (KF_A8 a2 hM0) (mB_8 a2 hMB0) a4
  have f3 : gF Z 3 = 0 := by rw [b3.1 3 (by omega), a2.1]; rfl
  obtain ⟨M', c1, c2, c3⟩ := pm_s_out (m := m) (g := g) hN hB a3 hm hx1 m 0 Z (by omega) (by have := b4.1; omega) (mN_K b3 (KF_A8 a2 hM0)) (mB_K b3 (mB_8 a2 hMB0)) (mT_K b3 a4) b4 (Or.inl ⟨f3, fun p q s hd => by obtain ⟨d1, d2, d3, d4⟩ := hd; omega⟩)
  refine ⟨M', ?_, ⟨fun t h2 h3 => ?_, fun k hk => ?_, fun t h8 h9 => ?_, fun t ht => ?_⟩, fun hno => ?_, fun ho hv hT => ?_⟩
  · unfold f_M_search
    rw [bo_s a1, bo_s b1, bo_s b2]
    exact c1
  · rw [c2.1 t h3, b3.1 t h2, a2.1]; simp only [gs, if_neg h3]
  · rw [c2.2.1 k hk, b3.2.1, a2.2.1]; rfl
  · rw [c2.2.2.1, b3.2.2.1 t h9, a2.2.2.2 t h8]; rfl
  · rw [c2.2.2.2 t (by omega), b3.2.2.2 t (by omega), a2.2.2.1]; rfl
  · rcases c3 with ⟨d1, -⟩ | ⟨d1, b, h', x', d2, d3, d4⟩
    · exact d1
    · exact (hno ⟨x', h', cand_FS hB a3 d3⟩).elim
  · obtain ⟨A1, A2, A3, D1, D2, D3, i1, i2, i3, hd, e1, e2, e3⟩ := hv tu a3
    obtain ⟨p1, q1, r1, s1⟩ := b5 A1 D1 i1
    obtain ⟨p2, q2, r2, s2⟩ := b5 A2 D2 i2
    obtain ⟨p3, q3, r3, s3⟩ := b5 A3 D3 i3
    have hon : onP3 pa pd p1 p2 p3 h0 := ⟨by rw [r1, r2, r3]; exact hd, by rw [r1, s1]; exact e1, by rw [r2, s2]; exact e2, by rw [r3, s3]; exact e3⟩
    obtain ⟨p, q, s, hD, hs⟩ := on_sort hon q1 q2 q3
    have hc := opt_cand hB a3 ho
    rcases c3 with ⟨d1, d2⟩ | ⟨d1, b, h', x', d2, d3, d4⟩
    · exact (d2 p q s hD h0 w hs hc).elim
    · have hF := cand_FS hB a3 d3
      have l1 := d4 p q s hD h0 w hs hc
      have l2 := ho.2 x' h' hF
      have heq := lexle_anti l2 l1
      have hj : ∀ j, j < B.1 → x' j = w j := fun j hj => by
        have := heq j (List.mem_cons_of_mem _ (List.mem_range'_1.mpr ⟨by omega, by omega⟩))
        unfold oy at this
        rw [if_neg (by have := hB.1; omega), if_neg (by have := hB.1; omega)] at this
        exact this
      have hh : h' = h0 := npl_uniq hN hT fun v hv => by
        rw [hF.2.2 v hv, ho.1.2.2 v hv]
        congr 1
        exact sm_congr fun j hj' => by rw [hj j hj']
      rw [hh] at d2
      exact ⟨d1, b, x', d2, hj⟩
end FOUND
