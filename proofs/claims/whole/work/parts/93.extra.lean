/-! one more piece at a node: extraTop and extraBottom answer alike -/
theorem low_of {u v : Int64} {p : Rat} {K : Nat} (hu : isZ (q6 u) K) (hv : isZ (q6 v) K) (hK : K < 2 ^ 63) (h0 : 0 < q6 v) (he : q6 u = q6 v * p) : ∃ G, Nat.gcd (nz (q6 u)) (nz (q6 v)) = G ∧ 0 < G ∧ G < 2 ^ 63 ∧ low (u / lN G) (v / lN G) p := by
  refine ⟨_, rfl, ?_⟩
  have hnv := nz_lt hv hK
  have e1 : nz (q6 u) = u.toInt.natAbs := nz_q6 u
  have e2 : nz (q6 v) = v.toInt.natAbs := nz_q6 v
  have hv0 : 0 < v.toInt := by
    have : ((0 : Int) : Rat) < (v.toInt : Rat) := h0
    exact Rat.intCast_lt_intCast.mp this
  obtain ⟨G, hG⟩ : ∃ G, G = Nat.gcd (nz (q6 u)) (nz (q6 v)) := ⟨_, rfl⟩
  rw [← hG]
  have hp : 0 < nz (q6 v) := by rw [e2]; omega
  have hG0 : 0 < G := by rw [hG]; exact Nat.gcd_pos_of_pos_right _ hp
  have d1 : G ∣ nz (q6 u) := by rw [hG]; exact Nat.gcd_dvd_left _ _
  have d2 : G ∣ nz (q6 v) := by rw [hG]; exact Nat.gcd_dvd_right _ _
  have hGl : G < 2 ^ 63 := by have := Nat.le_of_dvd hp d2; omega
  rw [e1] at d1
  rw [e2] at d2
  have d1 : (G : Int) ∣ u.toInt := Int.ofNat_dvd_left.mpr d1
  have d2 : (G : Int) ∣ v.toInt := Int.ofNat_dvd_left.mpr d2
  obtain ⟨a, ha⟩ := d1
  obtain ⟨b, hb⟩ := d2
  have hGq : q6 (lN G) = (G : Rat) := q6_lN hGl
  have hGn : (G : Rat) ≠ 0 := by
    intro h
    have : ((G : Nat) : Rat) = ((0 : Nat) : Rat) := h
    have := Rat.natCast_inj.mp this
    omega
  have qu : q6 u = (G : Rat) * (a : Rat) := by
    show (u.toInt : Rat) = _
    rw [ha, Rat.intCast_mul]; rfl
  have qv : q6 v = (G : Rat) * (b : Rat) := by
    show (v.toInt : Rat) = _
    rw [hb, Rat.intCast_mul]; rfl
  have bda : (a.natAbs) ≤ K := by
    obtain ⟨z, ez, z1, z2⟩ := hu
    have : u.toInt = z := Rat.intCast_inj.mp ez
    have h3 : u.toInt.natAbs = G * a.natAbs := by rw [ha, Int.natAbs_mul]; rfl
    have : 1 * a.natAbs ≤ G * a.natAbs := Nat.mul_le_mul_right _ hG0
    omega
  have bdb : (b.natAbs) ≤ K := by
    obtain ⟨z, ez, z1, z2⟩ := hv
    have : v.toInt = z := Rat.intCast_inj.mp ez
    have h3 : v.toInt.natAbs = G * b.natAbs := by rw [hb, Int.natAbs_mul]; rfl
    have : 1 * b.natAbs ≤ G * b.natAbs := Nat.mul_le_mul_right _ hG0
    omega
  have r1 : q6 (u / lN G) = (a : Rat) := q6_div (by rw [hGq]; exact hGn) (by rw [hGq]; exact qu) ⟨a, rfl, by omega, by omega⟩ hK
  have r2 : q6 (v / lN G) = (b : Rat) := q6_div (by rw [hGq]; exact hGn) (by rw [hGq]; exact qv) ⟨b, rfl, by omega, by omega⟩ hK
  refine ⟨hG0, hGl, ?_, ?_, ?_⟩
  · rw [r2]
    have hb0 : 0 < b := by
      rcases Int.lt_or_le 0 b with q | q
      · exact q
      · have : (G : Int) * b ≤ 0 := Int.mul_nonpos_of_nonneg_of_nonpos (by omega) q
        omega
    have : ((0 : Int) : Rat) < (b : Rat) := Rat.intCast_lt_intCast.mpr hb0
    exact this
  · rw [r1, r2]
    rw [qu, qv] at he
    have : (G : Rat) * ((a : Rat) - (b : Rat) * p) = 0 := by grind
    rcases Rat.mul_eq_zero.mp this with q | q
    · exact (hGn q).elim
    · grind
  · rw [r1, r2, nz_int (z := a) rfl, nz_int (z := b) rfl]
    have k1 : nz (q6 u) = G * a.natAbs := by rw [e1, ha, Int.natAbs_mul]; rfl
    have k2 : nz (q6 v) = G * b.natAbs := by rw [e2, hb, Int.natAbs_mul]; rfl
    have k3 : G * Nat.gcd a.natAbs b.natAbs = G * 1 := by rw [← Nat.gcd_mul_left, ← k1, ← k2, ← hG, Nat.mul_one]
    exact Nat.eq_of_mul_eq_mul_left hG0 k3
theorem low_uniq {t d t' d' : Int64} {p : Rat} (h : low t d p) (h' : low t' d' p) : t = t' ∧ d = d' := by
  obtain ⟨a1, a2, a3⟩ := h
  obtain ⟨b1, b2, b3⟩ := h'
  rw [nz_q6, nz_q6] at a3 b3
  have c1 : 0 < d.toInt := by
    have : ((0 : Int) : Rat) < (d.toInt : Rat) := a1
    exact Rat.intCast_lt_intCast.mp this
  have c2 : 0 < d'.toInt := by
    have : ((0 : Int) : Rat) < (d'.toInt : Rat) := b1
    exact Rat.intCast_lt_intCast.mp this
  have hx : t.toInt * d'.toInt = t'.toInt * d.toInt := by
    have : ((t.toInt * d'.toInt : Int) : Rat) = ((t'.toInt * d.toInt : Int) : Rat) := by
      rw [Rat.intCast_mul, Rat.intCast_mul]
      show q6 t * q6 d' = q6 t' * q6 d
      rw [a2, b2]; grind
    exact Rat.intCast_inj.mp this
  have hn : t.toInt.natAbs * d'.toInt.natAbs = t'.toInt.natAbs * d.toInt.natAbs := by
    have := congrArg Int.natAbs hx
    rw [Int.natAbs_mul, Int.natAbs_mul] at this
    exact this
  have v1 : d.toInt.natAbs ∣ d'.toInt.natAbs := by
    have : d.toInt.natAbs ∣ t.toInt.natAbs * d'.toInt.natAbs := by rw [hn]; exact Nat.dvd_mul_left _ _
    exact Nat.Coprime.dvd_of_dvd_mul_left (Nat.Coprime.symm a3) this
  have v2 : d'.toInt.natAbs ∣ d.toInt.natAbs := by
    have : d'.toInt.natAbs ∣ t'.toInt.natAbs * d.toInt.natAbs := by rw [← hn]; exact Nat.dvd_mul_left _ _
    exact Nat.Coprime.dvd_of_dvd_mul_left (Nat.Coprime.symm b3) this
  have hdd : d = d' := by
    have := Nat.dvd_antisymm v1 v2
    exact Int64.toInt_inj.mp (by omega)
  refine ⟨?_, hdd⟩
  subst hdd
  exact q6_inj.mp (by rw [a2, b2])
theorem opt_wl {N : Net} {B : Bk} {g : Nat} {x y : Nat → Rat} {h k : v3} (h1 : opt N B g x h) (h2 : opt N B g y k) : wl B x = wl B y := by
  have := lexle_anti (h2.2 _ _ h1.1) (h1.2 _ _ h2.1) 15 (List.mem_cons_self)
  exact this
theorem exq_uniq {N : Net} {B : Bk} {x : Nat → Rat} {n : Nat} {t d t' d' : Int64} (h : exq N B x n t d) (h' : exq N B x n t' d') : t = t' ∧ d = d' := by
  rcases h with ⟨a1, a2, a3⟩ | ⟨y, k, a1, a2⟩ <;> rcases h' with ⟨b1, b2, b3⟩ | ⟨y', k', b1, b2⟩
  · exact ⟨by rw [a2, b2], by rw [a3, b3]⟩
  · exact (a1 ⟨y', k', b1.1⟩).elim
  · exact (b1 ⟨y, k, a1.1⟩).elim
  · rw [opt_wl a1 b1] at a2
    exact low_uniq a2 b2
def vtx (N : Net) (B : Bk) (g : Nat) (h0 : v3) : Prop := ∀ tu, isTurn B tu → ∃ A1 A2 A3 D1 D2 D3, isPlane N B g tu A1 D1 ∧ isPlane N B g tu A2 D2 ∧ isPlane N B g tu A3 D3 ∧ det3 A1 A2 A3 ≠ 0 ∧ dot A1 h0 = D1 ∧ dot A2 h0 = D2 ∧ dot A3 h0 = D3
theorem LF_PF {S T : z_S} (h : PFrame S T) : LF S T := ⟨fun t _ _ => by rw [h.1], fun t _ b => h.2.1 t b, fun t a => h.2.2.1 t (by omega) (by omega) (by omega) (by omega)⟩
section EXTRA
variable {N : Net} {B : Bk} {m r U : Nat} {S M : z_S} {x : Nat → Rat}
theorem Tr_any (hN : netOk N) (hr : r < 4) (hT : 0 < Tr (LN N) 0) : 0 < Tr (LN N) r := by
  rcases trees_or hN hr with ⟨a, -⟩ | ⟨-, a⟩
  · exact a
  · rcases trees_or hN (r := 0) (by omega) with ⟨-, b⟩ | ⟨b, -⟩
    · exact (b a).elim
    · exact (b hT).elim
theorem px_add (hN : netOk N) (hB : bkOk B) (hr : r < 4) (hT : 0 < Tr (LN N) 0) (hm : 1000000 < m) (h5 : gF S 5 = 1) (hc : cN S N) (hb : cB S 5 1 B) : ∃ S', LF S S' ∧ (((¬ ∃ x h, FS N B r x h) ∧ f_N_addOneAt m (nI r) S = some (0, S')) ∨ (∃ t fz y h, f_N_addOneAt m (nI r) S = some (1, S') ∧ CS N B r 1 S' t fz ∧ opt N B r y h ∧ wl B y = t.2.2.2.2 15 ∧ vtx N B r h)) := by
  have hTr := Tr_any hN hr hT
  have hnode : f_N_isNode m (nI r) S = some (1, S) := pN_node1 (by rcases lt4 hr with e | e | e | e <;> subst e <;> decide)
  obtain ⟨S1, l1, l2⟩ := pl_load (m := m) (a := 1) (x4 := 1) hN hB hr (by omega) rfl hc hb
  rcases l2 with ⟨-, l2, l3⟩ | ⟨l2, -⟩
  · have hcs := cs_start (a := 1) hN hB hr hTr (Or.inr rfl) l3
    obtain ⟨S2, t1, f1, a1, a2, a3, a4, -⟩ := cs_stage (m := m) (a0 := 1) hN hB hr (Or.inr rfl) hcs hm (aim := 8) (by omega) (Or.inr (Or.inl rfl)) (Or.inr rfl)
    obtain ⟨v, v1, v2, -⟩ := cs_top (m := m) hN hB (Or.inr rfl) a2 (by omega) (u := 8) (by omega) (Or.inr (Or.inl rfl))
    have hg1 : q6 (gG S2 1) = t1.1 := a2.2.1.2.1
    have hpos : 0 < t1.1 := a2.1.1.1.1
    have hF2 := LF_tr l1 (LF_PF a4)
    have base : ∀ X, (if v = gG S2 1 then bo (f_P_maximise m 15 S2) (fun _ S76 => some ((1 : Int32), S76)) else some ((0 : Int32), S2)) = X → f_N_addOneAt m (nI r) S = X := by
      intro X hX
      unfold f_N_addOneAt f_N_addOneAt_37
      rw [if_neg (n01 h5), bo_s hnode, if_neg (by decide), bo_s l2, if_neg (by decide), bo_s (show f_P_maximise m 8 S1 = some ((), S2) from a1), bo_s (show f_P_top m 8 S2 = some (v, S2) from v1)]
      exact hX
    by_cases hw : t1.2.2.2.2 8 = 1
    · have hve : v = gG S2 1 := q6_inj.mp (by rw [v2, hg1, hw]; grind)
      have h8 : H8 N B r 1 1 t1 f1 := Or.inr (fun y hy ag => by rw [a3.2.2.2.2 y hy ag, hw])
      obtain ⟨S3, t2, f2, b1, b2, b3, b4, b5⟩ := cs_stage (m := m) (a0 := 1) hN hB hr (Or.inr rfl) a2 hm (aim := 15) (by omega) (Or.inr (Or.inr (Or.inr (Or.inl rfl)))) (Or.inl h8)
      obtain ⟨S4, t, fz, c1, c2, c3⟩ := cs_rest (m := m) (a0 := 1) hN hB hr (Or.inr rfl) hm B.1 0 S3 t2 f2 (by omega) b2 (b5 h8)
      have hst : Stages (N.1 + 2 + 3) B.1 (NV N B r) (loN N) (hiN N B 1) (aims B) f1 t1 fz t := ⟨f2, t2, b3, c2⟩
      have ho := ex_opt hN hB hr hTr a2.1 a2.2.2 a3 hw c1.1 c1.2.2 hst
      obtain ⟨k1, k2, k3⟩ := Stages_keep b2.1.1.1 c2
      have hV := c1.1.1.1.2.2.2.1
      have h15 : t.2.2.2.2 15 = t2.2.2.2.2 15 := b3.2.2.2.2 _ hV (fun j hj hf => k3 j hj hf)
      refine ⟨S3, LF_tr hF2 (LF_PF b4), Or.inr ⟨t2, f2, t.2.2.2.2, hy t.2.2.2.2, base _ ?_, b2, ho, ?_, fun tu ht => opt_vertex hN hB hr c1.1 c1.2.2 ht ho⟩⟩
      · rw [if_pos hve, bo_s (show f_P_maximise m 15 S2 = some ((), S3) from b1)]
      · rw [← h15, ((NV_iff hN hB hr _).mp hV).2.2]
    · have hve : ¬ v = gG S2 1 := fun e => hw (by
        rw [← q6_inj, v2, hg1] at e
        have : t1.1 * (t1.2.2.2.2 8 - 1) = 0 := by grind
        rcases Rat.mul_eq_zero.mp this with q | q <;> grind)
      exact ⟨S2, hF2, Or.inl ⟨ex_none hN hB hr a2.1 a2.2.2 a3 hw, base _ (if_neg hve)⟩⟩
  · exact (l2 hTr).elim
theorem px_ext (hN : netOk N) (hB : bkOk B) (hr : r < 4) (hT : 0 < Tr (LN N) 0) (hm : 1000000 < m) (h5 : gF S 5 = 1) (hc : cN S N) (hb : cB S 5 1 B) (hU0 : 0 < U) (hU : U ≤ 20250) (h6 : gF S 6 = nI U) (hG2 : q6 (gG S 2) = (U : Rat) * wl B x) (hz : isZ ((U : Rat) * wl B x) 972000000000) : ∃ S' t d, LF S S' ∧ f_N_extraTop m (nI r) S = some (t, S') ∧ f_N_extraBottom m (nI r) S = some (d.toInt32, S') ∧ exq N B x r t d ∧ ((¬ ∃ x h, FS N B r x h) ∨ ∃ y h, opt N B r y h ∧ vtx N B r h) := by
  obtain ⟨S', l, hA⟩ := px_add (m := m) hN hB hr hT hm h5 hc hb
  rcases hA with ⟨n1, n2⟩ | ⟨tb, fz, y, h, e1, e2, e3, e4, e5⟩
  · refine ⟨S', 0, 0, l, ?_, ?_, Or.inl ⟨n1, rfl, rfl⟩, Or.inl n1⟩
    · unfold f_N_extraTop
      rw [bo_s n2, if_pos rfl]
    · unfold f_N_extraBottom
      rw [bo_s n2, if_pos rfl]
      rfl
  · obtain ⟨v, v1, v2, v3⟩ := cs_top (m := m) hN hB (Or.inr rfl) e2 (by omega) (u := 15) (by omega) (Or.inr (Or.inr (Or.inr (Or.inl rfl))))
    have g1 : q6 (gG S' 1) = tb.1 := e2.2.1.2.1
    have hb0 : 0 < tb.1 := e2.1.1.1.1
    have hbz := PI_b e2.1
    have g2 : q6 (gG S' 2) = (U : Rat) * wl B x := by rw [l.2.1 2 (by omega) (by omega)]; exact hG2
    have f6 : gF S' 6 = nI U := by rw [l.1 6 (by omega) (by omega)]; exact h6
    have qU : q6 ((nI U).toInt64) = (U : Rat) := by rw [q6_i, q3_nI (by omega)]
    have hUz : isZ (U : Rat) 20250 := isZ_nat hU
    have hUp : (0 : Rat) < (U : Rat) := Rat.natCast_pos.mpr hU0
    have p1 : q6 (gG S' 2 * gG S' 1) = (U : Rat) * wl B x * tb.1 := by rw [q6_mul (K := 972000000000 * 20250) (by rw [g2, g1]; exact isZ_mul hz hbz) (by omega), g2, g1]
    have p2 : q6 (v * (nI U).toInt64) = tb.1 * tb.2.2.2.2 15 * (U : Rat) := by rw [q6_mul (K := 16402500000000 * 20250) (by rw [qU]; exact isZ_mul v3 hUz) (by omega), v2, qU]
    have z3 : isZ (q6 (gG S' 2 * gG S' 1) - q6 (v * (nI U).toInt64)) (972000000000 * 20250 + 16402500000000 * 20250) := isZ_sub (by rw [p1]; exact isZ_mul hz hbz) (by rw [p2, ← v2]; exact isZ_mul v3 hUz)
    have p3 : q6 (gG S' 2 * gG S' 1 - v * (nI U).toInt64) = (tb.1 * (U : Rat)) * (wl B x - wl B y) := by rw [q6_sub z3 (by omega), p1, p2, e4]; grind
    have p4 : q6 (gG S' 1 * (nI U).toInt64) = tb.1 * (U : Rat) := by rw [q6_mul (K := 20250 * 20250) (by rw [qU, g1]; exact isZ_mul hbz hUz) (by omega), g1, qU]
    have z4 : isZ (q6 (gG S' 2 * gG S' 1 - v * (nI U).toInt64)) (972000000000 * 20250 + 16402500000000 * 20250) := by rw [q6_sub z3 (by omega)]; exact z3
    have z5 : isZ (q6 (gG S' 1 * (nI U).toInt64)) (972000000000 * 20250 + 16402500000000 * 20250) := by rw [p4]; exact isZ_mono (isZ_mul hbz hUz) (by omega)
    obtain ⟨G, c1, c2, c3, c4⟩ := low_of (p := wl B x - wl B y) z4 z5 (by omega) (by rw [p4]; exact Rat.mul_pos hb0 hUp) (by rw [p3, p4])
    have hgcd : f_N_commonDivisor m (gG S' 2 * gG S' 1 - v * (nI U).toInt64) (gG S' 1 * (nI U).toInt64) S' = some (lN G, S') := by rw [pn_gcd (m := m) (by omega) z4 z5 (by omega), c1]
    have hct : f_N_costTop m S' = some (gG S' 2 * gG S' 1 - v * (nI U).toInt64, S') := by
      unfold f_N_costTop
      rw [bo_s (show f_P_top m 15 S' = some (v, S') from v1), f6]
    have hcb : f_N_costBottom m S' = some (gG S' 1 * (nI U).toInt64, S') := by
      unfold f_N_costBottom
      rw [f6]
    have hG0 : ¬ lN G = 0 := by rw [lN_0 c3]; omega
    refine ⟨S', _, _, l, ?_, ?_, Or.inr ⟨y, h, e3, c4⟩, Or.inr ⟨y, h, e3, e5⟩⟩
    · unfold f_N_extraTop f_N_extraTop_38
      rw [bo_s e1, if_neg (by decide), bo_s hct, bo_s hcb, bo_s hgcd, if_neg hG0, bo_s hct, ck_t (vn_lN c2 c3)]
    · unfold f_N_extraBottom f_N_extraBottom_39
      rw [bo_s e1, if_neg (by decide), bo_s hct, bo_s hcb, bo_s hgcd, if_neg hG0, bo_s hcb, ck_t (vn_lN c2 c3)]
/-- what the reference leaves alone when it is asked for an extra piece at r -/
def EF (r : Nat) (M M' : z_S) : Prop := KM M M' ∧ gF M' 4 = gF M 4 ∧ (∀ k, 4 ≤ k → gG M' k = gG M k) ∧ gJ M' 8 = gJ M 8 ∧ gJ M' 9 = gJ M 9 ∧ ∀ n, n ≠ r → gI M' 10 n = gI M 10 n ∧ gJ M' 10 n = gJ M 10 n ∧ gJ M' 11 n = gJ M 11 n
theorem wl_Z (hB : bkOk B) {b : Rat} {y : Nat → Rat} (hb : isZ b 20250) (hb0 : 0 < b) (hy : ∀ j, j < B.1 → 0 ≤ y j ∧ y j ≤ B.2.2.2.2 j) (hz : ∀ j, j < B.1 → ∃ z : Int, (z : Rat) = b * y j) : isZ (b * wl B y) 972000000000 := by
  unfold wl
  rw [← sm_mul]
  refine isZ_mono (isZ_sm (K := 2000 * 60750000) (fun j hj => ?_)) (by have : B.1 * (2000 * 60750000) ≤ 8 * (2000 * 60750000) := Nat.mul_le_mul_right _ hB.1; omega)
  have dj := hB.2 j hj
  rw [show b * (B.2.2.1 j * B.2.2.2.1 j * y j) = B.2.2.1 j * (B.2.2.2.1 j * (b * y j)) by grind]
  refine isZ_pm dj.2.1 (isZ_mul dj.2.2.1 ?_)
  obtain ⟨z, e, e1, e2⟩ := hb
  have hz0 : 0 < z := by
    rw [e] at hb0
    have : ((0 : Int) : Rat) < (z : Rat) := hb0
    exact Rat.intCast_lt_intCast.mp this
  obtain ⟨D, hD⟩ : ∃ D : Nat, (D : Int) = z := ⟨z.toNat, by omega⟩
  have hDb : b = (D : Rat) := by rw [e, ← hD]; rfl
  obtain ⟨zq, f1, f2, f3⟩ := dj.2.2.2.1
  have hq : B.2.2.2.2 j ≤ ((3000 : Nat) : Rat) := by
    rw [f1]
    have : ((zq : Int) : Rat) ≤ (((3000 : Nat) : Int) : Rat) := Rat.intCast_le_intCast.mpr f3
    exact this
  have hn : (0 : Rat) ≤ ((3000 : Nat) : Rat) := nat_nn 3000
  have hyj := hy j hj
  obtain ⟨n1, n2⟩ := natR (U := D) (K := 20250) (Y := 3000) (by omega) (y := y j) (by grind) (by grind)
  rw [← hDb] at n1 n2
  exact isZ_of (hz j hj) n1 n2
theorem pr_ext (hN : netOk N) (hB : bkOk B) (hr : r < 4) (hT : 0 < Tr (LN N) 0) (hm : 200 < m) (h4 : gF M 4 = 1) (hM : mN M N) (hMB : mB M B) (hU0 : 0 < U) (hU : U ≤ 20250) (hG4 : gG M 4 = lN U) (hG5 : q6 (gG M 5) = (U : Rat) * wl B x) (hz : isZ ((U : Rat) * wl B x) 972000000000) (hC : gI M 10 r = 0 ∨ (gI M 10 r = 1 ∧ exq N B x r (gJ M 10 r) (gJ M 11 r))) (hw : (¬ ∃ x h, FS N B r x h) ∨ ∃ y h, opt N B r y h ∧ vtx N B r h) : ∃ M', EF r M M' ∧ f_M_extra m (nI r) M = some (1, M') ∧ gI M' 10 r = 1 ∧ exq N B x r (gJ M' 10 r) (gJ M' 11 r) := by
  have hin : f_M_within m (nI r) 0 3 M = some (1, M) := pM_in (by rcases lt4 hr with e | e | e | e <;> subst e <;> decide)
  have hv : vi (nI r) 4 = true := vi_n hr (by omega)
  have hcr : (nI r).toNatClampNeg = r := cl_n (by omega)
  rcases hC with h0 | ⟨h1, h2⟩
  · obtain ⟨X, hX⟩ : ∃ X, X = sJ (sJ (sI M 10 (upd (gI M 10) r 1)) 10 (vp_updL (gJ M 10) r 0)) 11 (vp_updL (gJ M 11) r 0) := ⟨_, rfl⟩
    have base : ∀ Y, bo (f_M_search m (nI r) X) (fun _ S52 => (if (gF S52 3) = 0 then f_M_extra_122 m S52 else f_M_extra_82 m (nI r) (((gG S52 5) * (gG S52 2)) - ((gG S52 3) * (gG S52 4))) S52)) = Y → f_M_extra m (nI r) M = Y := by
      intro Y hY
      unfold f_M_extra f_M_extra_43
      rw [if_neg (n01 h4), bo_s hin, if_neg (by decide), ck_t hv, hcr, if_pos h0, ck_t hv, ck_t hv, ck_t hv, nar01 (Or.inr rfl)]
      rw [← hY, hX]
      rfl
    have xI : ∀ t, t ≠ 10 → gI X t = gI M t := fun t ht => by rw [hX]; simp only [gs, if_neg ht]
    have xI10 : gI X 10 = upd (gI M 10) r 1 := by rw [hX]; simp only [gs, reduceIte]
    have xF : gF X = gF M := by rw [hX]; rfl
    have xG : gG X = gG M := by rw [hX]; rfl
    have xJ : ∀ t, t ≠ 10 → t ≠ 11 → gJ X t = gJ M t := fun t h1 h2 => by rw [hX]; simp only [gs, if_neg h1, if_neg h2]
    have xJ10 : gJ X 10 = vp_updL (gJ M 10) r 0 := by rw [hX]; simp only [gs, Nat.reduceEqDiff, reduceIte]
    have xJ11 : gJ X 11 = vp_updL (gJ M 11) r 0 := by rw [hX]; simp only [gs, reduceIte]
    have hMX : mN X N := ⟨by rw [xF]; exact hM.1, by rw [xI 0 (by omega), xI 1 (by omega), xI 2 (by omega), xI 3 (by omega)]; exact hM.2⟩
    have hMBX : mB X B := ⟨by rw [xF]; exact hMB.1, by rw [xI 4 (by omega), xI 5 (by omega), xI 6 (by omega), xI 7 (by omega)]; exact hMB.2⟩
    have hmore : more0 (nI r) r := fun v hv => nI_iff (by omega) (by omega)
    obtain ⟨w0, k0, hwk⟩ : ∃ (w0 : Nat → Rat) (k0 : v3), (¬ ∃ x h, FS N B r x h) ∨ (opt N B r w0 k0 ∧ vtx N B r k0) := by
      rcases hw with q | ⟨y, h, q⟩
      · exact ⟨fun _ => 0, (0, 0, 0), Or.inl q⟩
      · exact ⟨y, h, Or.inr q⟩
    obtain ⟨Y, d1, d2, d3, d4⟩ := pm_search (m := m) (w := w0) (h0 := k0) hN hB (by omega) hmore hMX hMBX
    have yI : gI Y 10 = upd (gI M 10) r 1 := by rw [d2.2.2.1 10 (by omega) (by omega), xI10]
    have yJ : gJ Y 10 = vp_updL (gJ M 10) r 0 := by rw [d2.2.2.2 10 (by omega), xJ10]
    have yJ' : gJ Y 11 = vp_updL (gJ M 11) r 0 := by rw [d2.2.2.2 11 (by omega), xJ11]
    have yF4 : gF Y 4 = gF M 4 := by rw [d2.1 4 (by omega) (by omega), xF]
    have yG : ∀ k, 4 ≤ k → gG Y k = gG M k := fun k hk => by rw [d2.2.1 k hk, xG]
    have yK : KM M Y := ⟨by rw [d2.1 0 (by omega) (by omega), xF], by rw [d2.1 1 (by omega) (by omega), xF], fun t ht => by rw [d2.2.2.1 t (by omega) (by omega), xI t (by omega)]⟩
    have yE : EF r M Y := ⟨yK, yF4, yG, by rw [d2.2.2.2 8 (by omega), xJ 8 (by omega) (by omega)], by rw [d2.2.2.2 9 (by omega), xJ 9 (by omega) (by omega)], fun n hn => by
      rw [yI, yJ, yJ', upd_at, updL_at, updL_at, if_neg hn, if_neg hn, if_neg hn]
      exact ⟨rfl, rfl, rfl⟩⟩
    rcases hwk with q | ⟨q1, q2⟩
    · refine ⟨Y, yE, base _ ?_, ?_, Or.inl ⟨q, ?_, ?_⟩⟩
      · rw [bo_s d1, if_pos (d3 q)]; rfl
      · rw [yI, upd_at, if_pos rfl]
      · rw [yJ, updL_at, if_pos rfl]
      · rw [yJ', updL_at, if_pos rfl]
    · obtain ⟨e1, b, y, e2, e3⟩ := d4 q1 q2 (by grind)
      obtain ⟨⟨g2, hb0, hbz⟩, g3, g7, -⟩ := e2
      have hwy : wl B y = wl B w0 := sm_congr fun j hj => by rw [e3 j hj]
      have hwz : isZ (b * wl B y) 972000000000 := wl_Z hB hbz hb0 (fun j hj => by rw [e3 j hj]; exact q1.1.1 j hj) (fun j hj => ⟨(gJ Y 7 j).toInt, g7 j hj⟩)
      have g5 : q6 (gG Y 5) = (U : Rat) * wl B x := by rw [yG 5 (by omega)]; exact hG5
      have g4 : q6 (gG Y 4) = (U : Rat) := by rw [yG 4 (by omega), hG4, q6_lN (by omega)]
      have hUz : isZ (U : Rat) 20250 := isZ_nat hU
      have hUp : (0 : Rat) < (U : Rat) := Rat.natCast_pos.mpr hU0
      have p1 : q6 (gG Y 5 * gG Y 2) = (U : Rat) * wl B x * b := by rw [q6_mul (K := 972000000000 * 20250) (by rw [g5, g2]; exact isZ_mul hz hbz) (by omega), g5, g2]
      have p2 : q6 (gG Y 3 * gG Y 4) = b * wl B y * (U : Rat) := by rw [q6_mul (K := 972000000000 * 20250) (by rw [g3, g4]; exact isZ_mul hwz hUz) (by omega), g3, g4]
      have z3 : isZ (q6 (gG Y 5 * gG Y 2) - q6 (gG Y 3 * gG Y 4)) (972000000000 * 20250 + 972000000000 * 20250) := isZ_sub (by rw [p1]; exact isZ_mul hz hbz) (by rw [p2]; exact isZ_mul hwz hUz)
      have p3 : q6 (gG Y 5 * gG Y 2 - gG Y 3 * gG Y 4) = ((U : Rat) * b) * (wl B x - wl B w0) := by rw [q6_sub z3 (by omega), p1, p2, hwy]; grind
      have p4 : q6 (gG Y 4 * gG Y 2) = (U : Rat) * b := by rw [q6_mul (K := 20250 * 20250) (by rw [g4, g2]; exact isZ_mul hUz hbz) (by omega), g4, g2]
      have z4 : isZ (q6 (gG Y 5 * gG Y 2 - gG Y 3 * gG Y 4)) (972000000000 * 20250 + 972000000000 * 20250) := by rw [q6_sub z3 (by omega)]; exact z3
      have z5 : isZ (q6 (gG Y 4 * gG Y 2)) (972000000000 * 20250 + 972000000000 * 20250) := by rw [p4]; exact isZ_mono (isZ_mul hUz hbz) (by omega)
      obtain ⟨G, c1, c2, c3, c4⟩ := low_of (p := wl B x - wl B w0) z4 z5 (by omega) (by rw [p4]; exact Rat.mul_pos hUp hb0) (by rw [p3, p4])
      have hgcd : f_M_divisor m (gG Y 5 * gG Y 2 - gG Y 3 * gG Y 4) (gG Y 4 * gG Y 2) Y = some (lN G, Y) := by rw [pm_gcd (m := m) hm z4 z5 (by omega), c1]
      obtain ⟨T, hTT⟩ : ∃ T, T = (gG Y 5 * gG Y 2 - gG Y 3 * gG Y 4) / lN G := ⟨_, rfl⟩
      obtain ⟨D, hDD⟩ : ∃ D, D = (gG Y 4 * gG Y 2) / lN G := ⟨_, rfl⟩
      rw [← hTT, ← hDD] at c4
      obtain ⟨Z, hZ⟩ : ∃ Z, Z = sJ (sJ Y 10 (vp_updL (gJ Y 10) r T)) 11 (vp_updL (gJ Y 11) r D) := ⟨_, rfl⟩
      have zJ10 : gJ Z 10 = vp_updL (gJ Y 10) r T := by rw [hZ]; simp only [gs, Nat.reduceEqDiff, reduceIte]
      have zJ11 : gJ Z 11 = vp_updL (gJ Y 11) r D := by rw [hZ]; simp only [gs, reduceIte]
      have zI : gI Z = gI Y := by rw [hZ]; rfl
      have zF : gF Z = gF Y := by rw [hZ]; rfl
      have zG : gG Z = gG Y := by rw [hZ]; rfl
      have zJ : ∀ t, t ≠ 10 → t ≠ 11 → gJ Z t = gJ Y t := fun t h1 h2 => by rw [hZ]; simp only [gs, if_neg h1, if_neg h2]
      obtain ⟨y1, y2, y3, y4, y5, y6⟩ := yE
      refine ⟨Z, ⟨⟨by rw [zF]; exact y1.1, by rw [zF]; exact y1.2.1, fun t ht => by rw [zI]; exact y1.2.2 t ht⟩, by rw [zF]; exact y2, fun k hk => by rw [zG]; exact y3 k hk, by rw [zJ 8 (by omega) (by omega)]; exact y4, by rw [zJ 9 (by omega) (by omega)]; exact y5, fun n hn => ?_⟩, base _ ?_, ?_, Or.inr ⟨w0, k0, q1, ?_⟩⟩
      · rw [zI, zJ10, zJ11, updL_at, updL_at, if_neg hn, if_neg hn]
        exact y6 n hn
      · rw [bo_s d1, if_neg (n01 e1)]
        unfold f_M_extra_82 f_M_extra_122
        rw [bo_s hgcd, ck_t (vn_lN c2 c3), ck_t hv, ck_t (vn_lN c2 c3), ck_t hv, hcr, ← hTT, ← hDD, hZ]
        rfl
      · rw [zI, yI, upd_at, if_pos rfl]
      · rw [zJ10, zJ11, updL_at, updL_at, if_pos rfl, if_pos rfl]
        exact c4
  · refine ⟨M, ⟨⟨rfl, rfl, fun _ _ => rfl⟩, rfl, fun _ _ => rfl, rfl, rfl, fun _ _ => ⟨rfl, rfl, rfl⟩⟩, ?_, h1, h2⟩
    unfold f_M_extra
    rw [if_neg (n01 h4), bo_s hin, if_neg (by decide), ck_t hv, hcr, if_neg (n01 h1)]
end EXTRA
theorem node4 {a : Int32} (h : ¬ a < 0 ∧ ¬ 3 < a) : ∃ k : Nat, k < 4 ∧ a = nI k := ix_nat (c := 4) (by omega) ((ix_same (c := 4) (by omega)).mp h)
/-- both answers, and what stands afterwards -/
theorem zo_ext {S M : z_S} {r : Nat} (hr : r < 4) (hI : zI Rz S M) (e1 : gF S 5 = 1) (e2 : gF M 4 = 1) : ∃ t d S' M', f_N_extraTop 2000000 (nI r) S = some (t, S') ∧ f_N_extraBottom 2000000 (nI r) S = some (d.toInt32, S') ∧ f_M_extra 2000000 (nI r) M = some (1, M') ∧ gJ M' 10 r = t ∧ gJ M' 11 r = d ∧ zI Rz S' M' := by
  obtain ⟨⟨c, fa, fb, fs, fm, hL⟩, ⟨s, bd, nd, pr, qu, hT⟩, hF, hR⟩ := hI
  obtain ⟨N, B, U, x, h, hMK, hRS, hC⟩ := hR e1
  obtain ⟨r1, r2, ⟨r3, r4⟩, r5, r6, r7, r8, r9, r10, r11⟩ := hRS
  obtain ⟨S', t, d, l, a1, a2, a3, a4⟩ := px_ext (m := 2000000) hMK.1 hMK.2.1 hr r1 (by omega) e1 hMK.2.2.1 hMK.2.2.2.2.1 r3 r4 r5 r7 r9
  obtain ⟨M', b1, b2, b3, b4⟩ := pr_ext (m := 2000000) hMK.1 hMK.2.1 hr r1 (by omega) e2 hMK.2.2.2.1 hMK.2.2.2.2.2 r3 r4 r6 r8 r9 (hC r hr) a4
  obtain ⟨u1, u2⟩ := exq_uniq b4 a3
  obtain ⟨bK, bF, bG, bJ8, bJ9, bn⟩ := b1
  have k1 := LF_KS l
  refine ⟨t, d, S', M', a1, a2, b2, u1, u2, ⟨c, fa, fb, fs, fm, mkL_k k1 bK hL⟩, ⟨s, bd, nd, pr, qu, mkT_k k1 bK hT⟩, ⟨?_, Or.inr ?_⟩, fun _ => ⟨N, B, U, x, h, MK_k k1 bK hMK, ⟨r1, r2, ⟨r3, r4⟩, ?_, ?_, ?_, ?_, r9, ?_, ?_⟩, fun n hn => ?_⟩⟩
  · rw [l.1 5 (by omega) (by omega), bF]; exact hF.1
  · rw [l.1 5 (by omega) (by omega)]; exact e1
  · rw [l.1 6 (by omega) (by omega)]; exact r5
  · rw [bG 4 (by omega)]; exact r6
  · rw [l.2.1 2 (by omega) (by omega)]; exact r7
  · rw [bG 5 (by omega)]; exact r8
  · rw [l.2.2 19 (by omega), bJ8]; exact r10
  · rw [l.2.2 20 (by omega), bJ9]; exact r11
  · by_cases q : n = r
    · subst q
      exact Or.inr ⟨b3, b4⟩
    · obtain ⟨n1, n2, n3⟩ := bn n q
      rw [n1, n2, n3]
      exact hC n hn
theorem zo_extraTop : z_op_extraTop (zI Rz) := by
  intro S M a0 hI
  rcases mkF_01 hI.2.2.1 with ⟨e1, e2⟩ | ⟨e1, e2⟩
  · refine ⟨0, 0, S, M, ?_, ?_, hI⟩
    · unfold f_N_extraTop f_N_addOneAt f_N_addOneAt_37
      rw [if_pos e1, bo_s rfl, if_pos rfl]
    · unfold f_M_extraTop f_M_extra f_M_extra_16 f_M_extraTop_18
      rw [if_pos e2, bo_s rfl, if_pos rfl]
  · by_cases q : ¬ a0 < 0 ∧ ¬ 3 < a0
    · obtain ⟨r, hr, rfl⟩ := node4 q
      obtain ⟨t, d, S', M', a1, a2, a3, a4, a5, a6⟩ := zo_ext hr hI e1 e2
      refine ⟨2000000, t, S', M', a1, ?_, a6⟩
      unfold f_M_extraTop f_M_extraTop_18
      rw [bo_s a3, if_neg (by decide), ck_t (vi_n hr (by omega)), cl_n (by omega), a4]
    · refine ⟨0, 0, S, M, ?_, ?_, hI⟩
      · unfold f_N_extraTop f_N_addOneAt f_N_addOneAt_37
        rw [if_neg (n01 e1), bo_s (pN_node0 q), if_pos rfl, bo_s rfl, if_pos rfl]
      · unfold f_M_extraTop f_M_extra f_M_extra_16 f_M_extraTop_18
        rw [if_neg (n01 e2), bo_s (pM_out q), if_pos rfl, bo_s rfl, if_pos rfl]
theorem zo_extraBottom : z_op_extraBottom (zI Rz) := by
  intro S M a0 hI
  rcases mkF_01 hI.2.2.1 with ⟨e1, e2⟩ | ⟨e1, e2⟩
  · refine ⟨0, 0, S, M, ?_, ?_, hI⟩
    · unfold f_N_extraBottom f_N_addOneAt f_N_addOneAt_37
      rw [if_pos e1, bo_s rfl, if_pos rfl]
    · unfold f_M_extraBottom f_M_extra f_M_extra_16 f_M_extraBottom_19
      rw [if_pos e2, bo_s rfl, if_pos rfl]
  · by_cases q : ¬ a0 < 0 ∧ ¬ 3 < a0
    · obtain ⟨r, hr, rfl⟩ := node4 q
      obtain ⟨t, d, S', M', a1, a2, a3, a4, a5, a6⟩ := zo_ext hr hI e1 e2
      refine ⟨2000000, d.toInt32, S', M', a2, ?_, a6⟩
      unfold f_M_extraBottom f_M_extraBottom_19
      rw [bo_s a3, if_neg (by decide), ck_t (vi_n hr (by omega)), cl_n (by omega), a5]
    · refine ⟨0, 0, S, M, ?_, ?_, hI⟩
      · unfold f_N_extraBottom f_N_addOneAt f_N_addOneAt_37
        rw [if_neg (n01 e1), bo_s (pN_node0 q), if_pos rfl, bo_s rfl, if_pos rfl]
      · unfold f_M_extraBottom f_M_extra f_M_extra_16 f_M_extraBottom_19
        rw [if_neg (n01 e2), bo_s (pM_out q), if_pos rfl, bo_s rfl, if_pos rfl]
