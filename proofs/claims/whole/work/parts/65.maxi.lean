/-! pivot, advance and maximise as moves and stages of the table -/
def PFrame (S S' : z_S) : Prop := gF S' = gF S ∧ (∀ k, k ≠ 1 → gG S' k = gG S k) ∧ (∀ k, k ≠ 13 → k ≠ 14 → k ≠ 17 → k ≠ 18 → gI S' k = gI S k) ∧ (∀ t, t < 8 → gJ S' t = gJ S t)
theorem PFrame_rf (S : z_S) : PFrame S S := ⟨rfl, fun _ _ => rfl, fun _ _ _ _ _ => rfl, fun _ _ => rfl⟩
theorem PFrame_tr {S T U : z_S} (h : PFrame S T) (h' : PFrame T U) : PFrame S U := ⟨h'.1.trans h.1, fun k hk => (h'.2.1 k hk).trans (h.2.1 k hk), fun k a b c d => (h'.2.2.1 k a b c d).trans (h.2.2.1 k a b c d), fun t ht => (h'.2.2.2 t ht).trans (h.2.2.2 t ht)⟩
section MAXI
variable {S : z_S} {R n m : Nat} {isG : Nat → Prop} {pl : Nat → v3} {gr : Nat → Nat} {sg pw : Nat → Rat} {lo hi : Nat → Rat} {s : tab} {fz : Nat → Bool}
theorem pr_pivot (h : PI (R + 3) n isG pl gr sg pw lo hi s) (hr : PRep S R n s lo hi fz) (hm : 8 < m) {c r : Nat} {d : Rat} (hc : c < n) (hrR : r < R) (hu : s.2.2.1 r < 15) (hmz : s.2.1 r c ≠ 0) (ht : PI (R + 3) n isG pl gr sg pw lo hi (stopT (R + 3) lo hi s c r d)) (T : z_S) (hT : T = sI S 17 (gI T 17)) : ∃ S', f_P_pivot m (nI r) (nI c) T = some ((), S') ∧ PFrame S S' ∧ gI S' 17 = gI T 17 ∧ gI S' 18 = gI S 18 ∧ q6 (gG S' 1) = sgn (s.2.1 r c) * s.2.1 r c ∧ (∀ i j, i < R → j < n → q6 (gJ S' (8 + i) j) = pvC (sgn (s.2.1 r c)) s.1 s.2.1 r c i j) ∧ gI S' 13 = upd (gI S 13) r (gI S 14 c) ∧ gI S' 14 = upd (gI S 14) c (gI S 13 r) := by
  have hr0 := hr
  obtain ⟨⟨r1, r2, r3, r4⟩, r5, r6, r7, r8, r9, r10, r11⟩ := hr
  have tF : gF T = gF S := by rw [hT]; rfl
  have tG : gG T = gG S := by rw [hT]; rfl
  have tJ : gJ T = gJ S := by rw [hT]; rfl
  have tI : ∀ k, k ≠ 17 → gI T k = gI S k := fun k hk => by rw [hT]; simp only [gs, if_neg hk]
  have hbp := h.1.1.1
  have hb0 : s.1 ≠ 0 := by grind
  have hvc : vi (nI c) 8 = true := vi_n (by omega) (by omega)
  have hvr : vi (nI r) 8 = true := vi_n (by omega) (by omega)
  have hcc : (nI c).toNatClampNeg = c := cl_n (by omega)
  have hcr : (nI r).toNatClampNeg = r := cl_n (by omega)
  have hsg : sgn (s.2.1 r c) = 1 ∨ sgn (s.2.1 r c) = -1 := by unfold sgn; by_cases q : 0 < s.2.1 r c <;> simp [q]
  have hzp : ∀ i k, i < R → i ≠ r → k < n → isZ (pvC (sgn (s.2.1 r c)) s.1 s.2.1 r c i k) 607500000 := by
    intro i k hi0 hir hk
    have e : (stopT (R + 3) lo hi s c r d).2.2.1 i = s.2.2.1 i := by show pvR s.2.2.1 s.2.2.2.1 r c i = _; unfold pvR; rw [if_neg hir]
    by_cases e15 : s.2.2.1 i = 15
    · exact PI_worth ht (by omega) hk (by rw [e]; exact e15)
    · exact isZ_mono (PI_cell ht (i := i) (by omega) hk (by rw [e]; have := (r7 i hi0).2; omega)) (by omega)
  have hz2 : ∀ k, k < n → isZ (s.2.1 r k) 20250 := fun k hk => PI_cell h (by omega) hk hu
  have cell0 : q6 (gJ T (8 + r) c) = s.2.1 r c := by rw [tJ]; exact r6 r c hrR hc
  have main : ∀ x5 : Int64, q6 x5 = sgn (s.2.1 r c) → ∃ S', f_P_pivot_38 m (nI r) (nI c) (gJ T (8 + r) c) x5 T = some ((), S') ∧ PFrame S S' ∧ gI S' 17 = gI T 17 ∧ gI S' 18 = gI S 18 ∧ q6 (gG S' 1) = sgn (s.2.1 r c) * s.2.1 r c ∧ (∀ i j, i < R → j < n → q6 (gJ S' (8 + i) j) = pvC (sgn (s.2.1 r c)) s.1 s.2.1 r c i j) ∧ gI S' 13 = upd (gI S 13) r (gI S 14 c) ∧ gI S' 14 = upd (gI S 14) c (gI S 13 r) := by
    intro x5 e5
    obtain ⟨A, a1, a2, a3⟩ := pv_43 (m := m) (C := s.2.1) (b := s.1) (x3 := gJ T (8 + r) c) (x5 := x5) hm r1 r2 hc hrR hb0 (fun i k hi0 hk => pr_cell h hr0 hi0 hk) hz2 hzp m 0 T (by omega) (by omega) (by rw [tF]; exact r3) (by rw [tF]; exact r4) (by rw [tG]; exact r5) (fun t k ht hk => by rw [if_neg (fun q => by omega), tJ]; exact r6 t k ht hk)
    obtain ⟨B, b1, b2, b3, b4⟩ := pv_75 (m := m) (C := s.2.1) (b := s.1) (g := sgn (s.2.1 r c)) (x3 := gJ T (8 + r) c) (x5 := x5) r1 r2 hc hrR e5 hsg (PI_b h) hz2 m 0 A (by omega) (by omega) (by rw [a3.1, tF]; exact r4) (by rw [a3.2.1, tG]; exact r5) (fun k hk => by rw [if_neg (by omega), a2 r k hrR hk, if_neg (fun q => q rfl)])
    have eI : gI B = gI T := by rw [b4.2.2.1, a3.2.2.1]
    have eA : gI A = gI T := a3.2.2.1
    have eF : gF B = gF T := by rw [b4.1, a3.1]
    have eG : gG B = gG T := by rw [b4.2.1, a3.2.1]
    refine ⟨_, (show f_P_pivot_38 m (nI r) (nI c) (gJ T (8 + r) c) x5 T = _ from a1.trans b1), ⟨?_, fun k hk => ?_, fun k k1 k2 k3 k4 => ?_, fun t ht8 => ?_⟩, ?_, ?_, ?_, fun i j hi0 hj => ?_, ?_, ?_⟩
    · show gF B = gF S; rw [eF, tF]
    · simp only [gs, if_neg hk]; rw [eG, tG]
    · simp only [gs, if_neg k1, if_neg k2]; rw [eI, tI k k3]
    · simp only [gs]; rw [b4.2.2.2 t ht8, a3.2.2.2 t ht8, tJ]
    · simp only [gs, Nat.reduceEqDiff, reduceIte]; rw [eI]
    · simp only [gs, Nat.reduceEqDiff, reduceIte]; rw [eI, tI 18 (by decide)]
    · simp only [gs, reduceIte]
      rw [q6_mul (K := 20250) (by rw [e5, cell0]; exact isZ_pm hsg (hz2 c hc)) (by omega), e5, cell0]
    · simp only [gs]
      by_cases ei : i = r
      · rw [ei]; exact b2 j hj
      · rw [b3 (8 + i) (by omega), a2 i j hi0 hj, if_pos ei]
    · simp only [gs, Nat.reduceEqDiff, reduceIte]; rw [eA, tI 13 (by decide), tI 14 (by decide)]
    · simp only [gs, reduceIte]; rw [eA, tI 13 (by decide), tI 14 (by decide)]
  unfold f_P_pivot f_P_pivot_9
  rw [ck_t hvr, ck_t hvc, hcr, hcc, if_neg (fun q => hmz (by rw [← cell0, q]; rfl)), if_neg (fun q => hb0 (by rw [← r5, ← tG, q]; rfl))]
  by_cases hp : 0 < s.2.1 r c
  · rw [if_neg (fun q => by rw [q6_le, cell0, q6_0] at q; grind)]
    exact main 1 (by rw [q6_1]; unfold sgn; rw [if_pos hp])
  · rw [if_pos (by rw [q6_le, cell0, q6_0]; grind)]
    exact main (-1) (by rw [q6_m1]; unfold sgn; rw [if_neg hp])
/-- where the row that stops the column comes to stand -/
theorem stop_at {d : Rat} {c r : Nat} (hb : 0 < s.1) (hmz : s.2.1 r c ≠ 0) (hd : d = 1 ∨ d = -1) : s.2.2.2.2 (s.2.2.1 r) + d * tOf lo hi s.2.2.2.2 s.1 s.2.1 s.2.2.1 d c r / s.1 * s.2.1 r c = if 0 < d * s.2.1 r c then hi (s.2.2.1 r) else lo (s.2.2.1 r) := by
  have hap := absR_pos hmz
  have h9 : absR (s.2.1 r c) ≠ 0 := by grind
  have hb0 : s.1 ≠ 0 := by grind
  unfold tOf roomR
  by_cases q : 0 < d * s.2.1 r c
  · have ea : absR (s.2.1 r c) = d * s.2.1 r c := by
      unfold absR
      rcases hd with hd | hd <;> subst hd
      · rw [if_pos (by grind)]; grind
      · rw [if_neg (by grind)]; grind
    rw [if_pos q, if_pos q, ea]
    rw [ea] at h9
    grind
  · have ea : absR (s.2.1 r c) = - (d * s.2.1 r c) := by
      unfold absR
      rcases hd with hd | hd <;> subst hd
      · rw [if_neg (by grind)]; grind
      · rw [if_pos (by grind)]; grind
    rw [if_neg q, if_neg q, ea]
    rw [ea] at h9
    grind
theorem pr_advance (h : PI (R + 3) n isG pl gr sg pw lo hi s) (hr : PRep S R n s lo hi fz) (hb : bnds lo hi) (hm : 8 < m) {aim c : Nat} {d : Rat} {up : Int32} (hl : live (R + 3) n s aim) (hcho : Cho n lo hi s.2.2.2.2 (gm R s aim) s.2.2.2.1 fz c d) (hd : (up = 1 ∧ d = 1) ∨ (up = 0 ∧ d = -1)) : ∃ S' t, f_P_advance m (nI c) up S = some ((), S') ∧ Move (R + 3) n lo hi fz aim s t ∧ PI (R + 3) n isG pl gr sg pw lo hi t ∧ PRep S' R n t lo hi fz ∧ PFrame S S' := by
  have hr0 := hr
  have hc := hcho.1
  obtain ⟨hlt, hat⟩ := Cho_at h.1.1 hcho
  obtain ⟨⟨r1, r2, r3, r4⟩, r5, r6, r7, r8, r9, r10, r11⟩ := hr
  have hd' : d = 1 ∨ d = -1 := by rcases hd with hd | hd; exact Or.inl hd.2; exact Or.inr hd.2
  have hwf := h.1.1.2.1
  have hbp := h.1.1.1
  have hb0 : s.1 ≠ 0 := by grind
  have hc15 := pr_col15 h hc
  have hvc : vi (nI c) 8 = true := vi_n (by omega) (by omega)
  have hcc : (nI c).toNatClampNeg = c := cl_n (by omega)
  have hvv : vi (nI (s.2.2.2.1 c)) 16 = true := vi_n (by omega) (by omega)
  have hcv : (nI (s.2.2.2.1 c)).toNatClampNeg = s.2.2.2.1 c := cl_n (by omega)
  obtain ⟨b1, b2⟩ := r9 _ hc15 (Or.inr ⟨c, hc, rfl⟩)
  have hrng : q6 (gI S 16 (s.2.2.2.1 c) - gI S 15 (s.2.2.2.1 c)).toInt64 = hi (s.2.2.2.1 c) - lo (s.2.2.2.1 c) := by
    have hz := isZ_sub (hb _ hc15).2 (hb _ hc15).1
    rw [q6_i, q3_sub (by rw [b1, b2]; exact hz) (by omega), b1, b2]
  obtain ⟨q', y4, y5, y7, e1, e2⟩ := pr_adv_loop (m := m) (x3 := nI (s.2.2.2.1 c)) h hr0 hb hm hc hd m 0 (-1) (gI S 16 (s.2.2.2.1 c) - gI S 15 (s.2.2.2.1 c)).toInt64 1 (by omega) (by omega) (Or.inl ⟨rfl, hrng, rfl, fun k hk => by omega⟩)
  have e0 : f_P_advance m (nI c) up S = f_P_advance_32 m (q' + 1) (nI c) up (nI (s.2.2.2.1 c)) y4 y5 y7 (nI R) S := by
    unfold f_P_advance f_P_advance_26
    rw [ck_t hvc, hcc, r8 c hc, ck_t hvv, ck_t hvv, hcv]
    exact e1
  have hga := gm_Gain h hl
  rcases sel_move h hr0 e2 with ⟨rfl, hflip⟩ | ⟨r, hrR, rfl, hstop⟩
  · -- the column goes to its other bound
    have hmv : Move (R + 3) n lo hi fz aim s (flipT (R + 3) lo hi s c d) := ⟨gm R s aim, c, d, hga, hcho, Or.inl ⟨hflip, rfl⟩⟩
    have st : f_P_advance_32 m (q' + 1) (nI c) up (nI (s.2.2.2.1 c)) (-1) y5 y7 (nI R) S = some ((), sI S 17 (upd (gI S 17) (s.2.2.2.1 c) (if d = 1 then gI S 16 (s.2.2.2.1 c) else gI S 15 (s.2.2.2.1 c)))) := by
      rw [f_P_advance_32, if_pos (by rw [r3]; exact nI_le (Nat.le_refl _) (by omega)), if_neg (by decide)]
      unfold f_P_advance_226
      rcases hd with ⟨rfl, rfl⟩ | ⟨rfl, rfl⟩
      · rw [if_neg (by decide), ck_t hvv, hcv, ck_t hvv, if_pos rfl]
      · rw [if_pos rfl, ck_t hvv, hcv, ck_t hvv, if_neg (by decide)]
    refine ⟨_, flipT (R + 3) lo hi s c d, e0.trans st, hmv, PI_move h hmv, ⟨⟨r1, r2, r3, r4⟩, r5, r6, r7, r8, r9, fun j hj => ?_, r11⟩, ⟨rfl, fun _ _ => rfl, fun k k1 k2 k3 k4 => by simp only [gs, if_neg k3], fun _ _ => rfl⟩⟩
    show q3 (gI (sI S 17 _) 17 (s.2.2.2.1 j)) = moved (R + 3) s.1 s.2.1 s.2.2.1 s.2.2.2.1 s.2.2.2.2 c (d * (hi (s.2.2.2.1 c) - lo (s.2.2.2.1 c)) / s.1) (s.2.2.2.1 j)
    simp only [gs, reduceIte, upd_at]
    rw [moved_col hwf hc hj]
    by_cases ej : j = c
    · subst ej
      rw [if_pos rfl, if_pos rfl]
      rcases hat with ⟨rfl, e3, -⟩ | ⟨rfl, e3, -⟩
      · rw [if_pos rfl, b2, e3]; grind
      · rw [if_neg (by decide), b1, e3]; grind
    · rw [if_neg (fun q => ej (hwf.2.1 j c hj hc q)), if_neg ej]
      exact r10 j hj
  · -- row r leaves
    have hmv : Move (R + 3) n lo hi fz aim s (stopT (R + 3) lo hi s c r d) := ⟨gm R s aim, c, d, hga, hcho, Or.inr ⟨r, hstop, rfl⟩⟩
    have hPt := PI_move h hmv
    have hu := hstop.2.1
    have hmz := hstop.2.2.1
    have hvr : vi (nI r) 8 = true := vi_n (by omega) (by omega)
    have hcr : (nI r).toNatClampNeg = r := cl_n (by omega)
    have hvu : vi (nI (s.2.2.1 r)) 16 = true := vi_n (by omega) (by omega)
    have hcu : (nI (s.2.2.1 r)).toNatClampNeg = s.2.2.1 r := cl_n (by omega)
    obtain ⟨c1, c2⟩ := r9 _ hu (Or.inl ⟨r, by omega, rfl⟩)
    obtain ⟨S', p1, p2, p3, p4, p5, p6, p7, p8⟩ := pr_pivot (m := m) h hr0 hm hc hrR hu hmz hPt (sI S 17 (upd (gI S 17) (s.2.2.1 r) (if 0 < d * s.2.1 r c then gI S 16 (s.2.2.1 r) else gI S 15 (s.2.2.1 r)))) (by simp only [gs, reduceIte])
    have st : f_P_advance_32 m (q' + 1) (nI c) up (nI (s.2.2.2.1 c)) (nI r) y5 y7 (nI R) S = some ((), S') := by
      have fin : ∀ t : Int32, (t = 1 ∧ 0 < d * s.2.1 r c) ∨ (t = 0 ∧ ¬ 0 < d * s.2.1 r c) → f_P_advance_265 m (nI c) (nI r) (nI (s.2.2.1 r)) t S = some ((), S') := by
        intro t ht
        unfold f_P_advance_265 f_P_advance_295
        rcases ht with ⟨rfl, hp⟩ | ⟨rfl, hp⟩
        · rw [if_pos hp] at p1
          rw [if_neg (by decide), ck_t hvu, hcu, ck_t hvu, bo_s p1]
        · rw [if_neg hp] at p1
          rw [if_pos rfl, ck_t hvu, hcu, ck_t hvu, bo_s p1]
      rw [f_P_advance_32, if_pos (by rw [r3]; exact nI_le (Nat.le_refl _) (by omega)), if_pos (nI_pos' (by omega)), ck_t hvr, ck_t hvr, ck_t hvc, hcr, hcc, (r7 r hrR).1]
      have cz := r6 r c hrR hc
      unfold f_P_advance_257
      by_cases hp : 0 < s.2.1 r c
      · rw [if_neg (fun q => by rw [q6_le, cz, q6_0] at q; grind)]
        rcases hd with ⟨rfl, rfl⟩ | ⟨rfl, rfl⟩
        · rw [if_pos rfl]; exact fin 1 (Or.inl ⟨rfl, by grind⟩)
        · rw [if_neg (by decide)]; exact fin 0 (Or.inr ⟨rfl, by grind⟩)
      · rw [if_pos (by rw [q6_le, cz, q6_0]; grind)]
        rcases hd with ⟨rfl, rfl⟩ | ⟨rfl, rfl⟩
        · rw [if_neg (by decide)]; exact fin 0 (Or.inr ⟨rfl, by grind⟩)
        · rw [if_pos rfl]; exact fin 1 (Or.inl ⟨rfl, by grind⟩)
    refine ⟨S', stopT (R + 3) lo hi s c r d, e0.trans st, hmv, hPt, ⟨⟨r1, r2, by rw [p2.1]; exact r3, by rw [p2.1]; exact r4⟩, p5, p6, fun i hi0 => ?_, fun j hj => ?_, fun u hu15 hlu => ?_, fun j hj => ?_, fun j hj => by rw [p4]; exact r11 j hj⟩, p2⟩
    · show gI S' 13 i = nI (pvR s.2.2.1 s.2.2.2.1 r c i) ∧ pvR s.2.2.1 s.2.2.2.1 r c i < 16
      rw [p7, upd_at]
      unfold pvR
      by_cases ei : i = r
      · rw [if_pos ei, if_pos ei]; exact ⟨r8 c hc, by omega⟩
      · rw [if_neg ei, if_neg ei]; exact r7 i hi0
    · show gI S' 14 j = nI (pvK s.2.2.1 s.2.2.2.1 r c j)
      rw [p8, upd_at]
      unfold pvK
      by_cases ej : j = c
      · rw [if_pos ej, if_pos ej]; exact (r7 r hrR).1
      · rw [if_neg ej, if_neg ej]; exact r8 j hj
    · rw [p2.2.2.1 15 (by decide) (by decide) (by decide) (by decide), p2.2.2.1 16 (by decide) (by decide) (by decide) (by decide)]
      exact r9 u hu15 ((live_move hmv u).mp hlu)
    · show q3 (gI S' 17 (pvK s.2.2.1 s.2.2.2.1 r c j)) = moved (R + 3) s.1 s.2.1 s.2.2.1 s.2.2.2.1 s.2.2.2.2 c (d * tOf lo hi s.2.2.2.2 s.1 s.2.1 s.2.2.1 d c r / s.1) (pvK s.2.2.1 s.2.2.2.1 r c j)
      rw [p3]
      simp only [gs, reduceIte, upd_at]
      unfold pvK
      by_cases ej : j = c
      · rw [if_pos ej, if_pos rfl, moved_row hwf hc (by omega), stop_at hbp hmz hd']
        by_cases hp : 0 < d * s.2.1 r c
        · rw [if_pos hp, if_pos hp]; exact c2
        · rw [if_neg hp, if_neg hp]; exact c1
      · rw [if_neg ej, if_neg (fun q => hwf.2.2 r j (by omega) hj q.symm), moved_col hwf hc hj, if_neg ej]
        exact r10 j hj
end MAXI
