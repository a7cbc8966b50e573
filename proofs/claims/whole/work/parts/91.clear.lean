/-! clear answers alike; what the results are -/
def bkOf (s : Nat) (bd : Nat → Bool) (nd pr qu : Nat → Nat) : Bk := (s, nd, fun j => if bd j = true then 1 else -1, fun j => (pr j : Rat), fun j => (qu j : Rat))
def MK (S M : z_S) (N : Net) (B : Bk) : Prop := netOk N ∧ bkOk B ∧ cN S N ∧ mN M N ∧ cB S 5 1 B ∧ mB M B
def low (t d : Int64) (p : Rat) : Prop := 0 < q6 d ∧ q6 t = q6 d * p ∧ Nat.gcd (nz (q6 t)) (nz (q6 d)) = 1
def exq (N : Net) (B : Bk) (x : Nat → Rat) (n : Nat) (t d : Int64) : Prop := ((¬ ∃ y h, FS N B n y h) ∧ t = 0 ∧ d = 0) ∨ ∃ y h, opt N B n y h ∧ low t d (wl B x - wl B y)
def RS (S M : z_S) (N : Net) (B : Bk) (U : Nat) (x : Nat → Rat) (h : v3) : Prop := 0 < Tr (LN N) 0 ∧ opt N B 4 x h ∧ (0 < U ∧ U ≤ 20250) ∧ gF S 6 = nI U ∧ gG M 4 = lN U ∧ q6 (gG S 2) = (U : Rat) * wl B x ∧ q6 (gG M 5) = (U : Rat) * wl B x ∧ isZ ((U : Rat) * wl B x) 972000000000 ∧ (∀ j, j < B.1 → q3 (gI S 19 j) = (U : Rat) * x j ∧ q6 (gJ M 8 j) = (U : Rat) * x j ∧ isZ ((U : Rat) * x j) 60750000) ∧ (∀ k, k < N.1 → q3 (gI S 20 k) = (U : Rat) * dot (lpl N k) h ∧ q6 (gJ M 9 k) = (U : Rat) * dot (lpl N k) h ∧ isZ ((U : Rat) * dot (lpl N k) h) 60750000)
def Rz (S M : z_S) : Prop := ∃ N B U x h, MK S M N B ∧ RS S M N B U x h ∧ ∀ n, n < 4 → gI M 10 n = 0 ∨ (gI M 10 n = 1 ∧ exq N B x n (gJ M 10 n) (gJ M 11 n))
theorem mk_of {S M : z_S} {c s : Nat} {fa fb fs fm nd pr qu : Nat → Nat} {bd : Nat → Bool} (hL : mkL S M c fa fb fs fm) (hT : mkT S M s bd nd pr qu) : MK S M (c, fa, fb, fs, fm) (bkOf s bd nd pr qu) := by
  obtain ⟨l1, l2, l3, l4, l5⟩ := hL
  obtain ⟨t1, t2, t3, t4⟩ := hT
  refine ⟨⟨l1, fun k hk => (l4 k hk).1, l5⟩, ⟨t1, fun j hj => ?_⟩, ⟨l2, fun k hk => (l4 k hk).2.1⟩, ⟨l3, fun k hk => (l4 k hk).2.2⟩, ⟨t2, fun j hj => ?_⟩, ⟨t3, fun j hj => ?_⟩⟩
  · obtain ⟨⟨a1, a2, a3, a4⟩, -, -⟩ := t4 j hj
    refine ⟨a1, ?_, isZ_nat (show pr j ≤ 2000 by omega), isZ_nat (show qu j ≤ 3000 by omega), nat_nn (qu j)⟩
    show (if bd j = true then (1 : Rat) else -1) = 1 ∨ (if bd j = true then (1 : Rat) else -1) = -1
    cases bd j
    · exact Or.inr rfl
    · exact Or.inl rfl
  · obtain ⟨⟨a1, a2, a3, a4⟩, ⟨b1, b2, b3, b4⟩, -⟩ := t4 j hj
    refine ⟨?_, b2, by rw [b3]; exact q3_nI (by omega), by rw [b4]; exact q3_nI (by omega)⟩
    rw [b1]
    show q3 (sgI (bd j)) = if bd j = true then (1 : Rat) else -1
    cases bd j
    · rfl
    · rfl
  · obtain ⟨⟨a1, a2, a3, a4⟩, -, ⟨b1, b2, b3, b4⟩⟩ := t4 j hj
    refine ⟨?_, b2, by rw [b3]; exact q3_nI (by omega), by rw [b4]; exact q3_nI (by omega)⟩
    rw [b1]
    show (bI (bd j) = 1 ∧ (if bd j = true then (1 : Rat) else -1) = 1) ∨ (bI (bd j) = 0 ∧ (if bd j = true then (1 : Rat) else -1) = -1)
    cases bd j
    · exact Or.inr ⟨rfl, rfl⟩
    · exact Or.inl ⟨rfl, rfl⟩
def KS (S S' : z_S) : Prop := gF S' 0 = gF S 0 ∧ gF S' 1 = gF S 1 ∧ ∀ t, 1 ≤ t → t ≤ 8 → gI S' t = gI S t
def KM (M M' : z_S) : Prop := gF M' 0 = gF M 0 ∧ gF M' 1 = gF M 1 ∧ ∀ t, t ≤ 7 → gI M' t = gI M t
theorem KS_tr {S T U : z_S} (h : KS S T) (h' : KS T U) : KS S U := ⟨h'.1.trans h.1, h'.2.1.trans h.2.1, fun t a b => (h'.2.2 t a b).trans (h.2.2 t a b)⟩
theorem KM_tr {S T U : z_S} (h : KM S T) (h' : KM T U) : KM S U := ⟨h'.1.trans h.1, h'.2.1.trans h.2.1, fun t a => (h'.2.2 t a).trans (h.2.2 t a)⟩
theorem mkL_k {S M S' M' : z_S} {c : Nat} {fa fb fs fm : Nat → Nat} (h1 : KS S S') (h2 : KM M M') (hL : mkL S M c fa fb fs fm) : mkL S' M' c fa fb fs fm := by
  obtain ⟨l1, l2, l3, l4, l5⟩ := hL
  refine ⟨l1, by rw [h1.1]; exact l2, by rw [h2.1]; exact l3, ?_, l5⟩
  rw [h1.2.2 1 (by omega) (by omega), h1.2.2 2 (by omega) (by omega), h1.2.2 3 (by omega) (by omega), h1.2.2 4 (by omega) (by omega), h2.2.2 0 (by omega), h2.2.2 1 (by omega), h2.2.2 2 (by omega), h2.2.2 3 (by omega)]
  exact l4
theorem mkT_k {S M S' M' : z_S} {s : Nat} {bd : Nat → Bool} {nd pr qu : Nat → Nat} (h1 : KS S S') (h2 : KM M M') (hT : mkT S M s bd nd pr qu) : mkT S' M' s bd nd pr qu := by
  obtain ⟨l1, l2, l3, l4⟩ := hT
  refine ⟨l1, by rw [h1.2.1]; exact l2, by rw [h2.2.1]; exact l3, ?_⟩
  rw [h1.2.2 5 (by omega) (by omega), h1.2.2 6 (by omega) (by omega), h1.2.2 7 (by omega) (by omega), h1.2.2 8 (by omega) (by omega), h2.2.2 4 (by omega), h2.2.2 5 (by omega), h2.2.2 6 (by omega), h2.2.2 7 (by omega)]
  exact l4
theorem MK_k {S M S' M' : z_S} {N : Net} {B : Bk} (h1 : KS S S') (h2 : KM M M') (h : MK S M N B) : MK S' M' N B := by
  obtain ⟨a1, a2, a3, a4, a5, a6⟩ := h
  refine ⟨a1, a2, ⟨by rw [h1.1]; exact a3.1, ?_⟩, ⟨by rw [h2.1]; exact a4.1, ?_⟩, ⟨by rw [h1.2.1]; exact a5.1, ?_⟩, ⟨by rw [h2.2.1]; exact a6.1, ?_⟩⟩
  · rw [h1.2.2 1 (by omega) (by omega), h1.2.2 2 (by omega) (by omega), h1.2.2 3 (by omega) (by omega), h1.2.2 4 (by omega) (by omega)]; exact a3.2
  · rw [h2.2.2 0 (by omega), h2.2.2 1 (by omega), h2.2.2 2 (by omega), h2.2.2 3 (by omega)]; exact a4.2
  · rw [h1.2.2 5 (by omega) (by omega), h1.2.2 6 (by omega) (by omega), h1.2.2 7 (by omega) (by omega), h1.2.2 8 (by omega) (by omega)]; exact a5.2
  · rw [h2.2.2 4 (by omega), h2.2.2 5 (by omega), h2.2.2 6 (by omega), h2.2.2 7 (by omega)]; exact a6.2
theorem LF_KS {S S' : z_S} (h : LF S S') : KS S S' := ⟨h.1 0 (by omega) (by omega), h.1 1 (by omega) (by omega), fun t _ b => h.2.2 t (by omega)⟩
theorem PF_KS {S S' : z_S} (h : PFrame S S') : KS S S' := ⟨by rw [h.1], by rw [h.1], fun t a b => h.2.2.1 t (by omega) (by omega) (by omega) (by omega)⟩
theorem TF_KS {S S' : z_S} (h : TF S S') : KS S S' := ⟨h.1 0 (by omega) (by omega), h.1 1 (by omega) (by omega), fun t a b => h.2.2.1 t (by omega) (by omega)⟩
theorem RF_KM {M M' : z_S} (h : RF M M') : KM M M' := ⟨h.1 0 (by omega) (by omega), h.1 1 (by omega) (by omega), fun t a => h.2.2.1 t (by omega) (by omega)⟩
theorem CF_KM {M M' : z_S} (h : CFr M M') : KM M M' := ⟨by rw [h.1], by rw [h.1], fun t a => h.2.2.1 t (by omega)⟩
theorem isSc_congr {U s c : Nat} {x x' f f' : Nat → Rat} (hx : ∀ i, i < s → x i = x' i) (hf : ∀ i, i < c → f i = f' i) (h : isSc U s c x f) : isSc U s c x' f' := by
  obtain ⟨D, d0, d1, d2, d3⟩ := h
  refine ⟨D, d0, fun i hi => by rw [← hx i hi]; exact d1 i hi, fun i hi => by rw [← hf i hi]; exact d2 i hi, ?_⟩
  rw [gl_congr (gl_congr (d := D) rfl s (fun i hi => by rw [hx i hi])) c (fun i hi => by rw [hf i hi])] at d3
  exact d3
theorem more_m1 : more0 (-1) 4 := by
  intro v hv
  rcases lt4 hv with e | e | e | e <;> subst e <;> decide
theorem mkF_l {S M : z_S} (h1 : gF S 5 = 0) (h2 : gF M 4 = 0) : mkF S M := ⟨by rw [h1, h2], Or.inl h1⟩
theorem zo_clear : z_op_clear (zI Rz) := by
  intro S M hI
  obtain ⟨⟨c, fa, fb, fs, fm, hL⟩, ⟨s, bd, nd, pr, qu, hT⟩, hF, hR⟩ := hI
  have hMK := mk_of hL hT
  obtain ⟨N, hNe⟩ : ∃ N : Net, N = (c, fa, fb, fs, fm) := ⟨_, rfl⟩
  obtain ⟨B, hBe⟩ : ∃ B : Bk, B = bkOf s bd nd pr qu := ⟨_, rfl⟩
  rw [← hNe, ← hBe] at hMK
  obtain ⟨hN, hB, hcN, hmN, hcB, hmB⟩ := hMK
  have hm : 1000000 < 2000000 := by omega
  refine ⟨2000000, ?_⟩
  generalize 2000000 = m at hm ⊢
  have k0 : KS S (sF S 5 0) := ⟨rfl, rfl, fun _ _ _ => rfl⟩
  have j0 : KM M (sF M 4 0) := ⟨rfl, rfl, fun _ _ => rfl⟩
  obtain ⟨S1, l1, l2⟩ := pl_load (m := m) (r := 0) (a := 0) (x4 := 0) hN hB (by omega) (by omega) rfl (S := sF S 5 0) hcN hcB
  have f5 : gF S1 5 = 0 := by rw [l1.1 5 (by omega) (by omega)]; rfl
  have hconn := pm_conn (m := m) (r := 0) hN (by omega) (M := sF M 4 0) hmN (by omega)
  rcases l2 with ⟨hT0, l2, l3⟩ | ⟨hT0, l2⟩
  · have hc1 := hconn.resolve_right (fun q => q.1 hT0)
    have hcs := cs_start (a := 0) hN hB (by omega) hT0 (Or.inl rfl) l3
    obtain ⟨S2, t1, f1, a1, a2, a3, a4, a5⟩ := cs_stage (m := m) (a0 := 0) hN hB (by omega) (Or.inl rfl) hcs hm (aim := 15) (by omega) (Or.inr (Or.inr (Or.inr (Or.inl rfl)))) (Or.inl (Or.inl ⟨rfl, rfl⟩))
    have k1 := KS_tr k0 (LF_KS l1)
    have k2 := KS_tr k1 (PF_KS a4)
    obtain ⟨S3, t, fz, b1, b2, b3, b4⟩ := cs_clear_loop (m := m) (a0 := 0) hN hB (by omega) (Or.inl rfl) hm m 0 S2 t1 f1 (by omega) (by have := hB.1; omega) (by rw [k2.2.1]; exact hcB.1) a2 (Or.inl ⟨rfl, rfl⟩)
    have k3 := KS_tr k2 (PF_KS b4)
    have hst : Stages (N.1 + 2 + 3) B.1 (NV N B 0) (loN N) (hiN N B 0) (aims B) (fun _ => false) (sT N B 0) fz t := ⟨f1, t1, a3, by rw [Nat.sub_zero] at b3; exact b3⟩
    have ho := cl_opt hN hB (by omega) hT0 b2 hst
    obtain ⟨S4, U, c1, c2, c3, c4, c5, c6, c7, c8, c9, c10, c11⟩ := pt_take (m := m) hN hB (by omega) (Or.inl rfl) (by omega) b2 (by rw [k3.1]; exact hcN.1) (by rw [k3.2.1]; exact hcB.1)
    have k4 := KS_tr k3 (TF_KS c2)
    have htk := pt_taken (m := m) (x := t.2.2.2.2) hB c3 (fun i hi => (c9 i hi).1) m 0 (by omega) (by have := hB.1; omega)
    obtain ⟨M1, d1, d2, d3, d4⟩ := pm_search (m := m) (w := t.2.2.2.2) (h0 := hy t.2.2.2.2) hN hB (by omega) more_m1 (M := sF M 4 0) hmN hmB
    obtain ⟨e1, b, x, e2, e3⟩ := d4 ho (fun tu ht => opt_vertex hN hB (by omega) b2.1 b2.2.2 ht ho) (by grind)
    have jj1 := KM_tr j0 (RF_KM d2)
    have j2 : KM M1 (sF M1 4 1) := ⟨rfl, rfl, fun _ _ => rfl⟩
    have hmk2 := MK_k (k4) (KM_tr jj1 j2) ⟨hN, hB, hcN, hmN, hcB, hmB⟩
    have hxb : ∀ j, j < B.1 → 0 ≤ x j ∧ x j ≤ B.2.2.2.2 j := fun j hj => by rw [e3 j hj]; exact ho.1.1 j hj
    obtain ⟨M2, U', g1, g2, g3, g4, g5, g6, g7, g8, g9, g10⟩ := rc_clear (m := m) hN hB (by omega) hxb ho.1.2.1 (M := sF M1 4 1) hmk2.2.2.2.1 hmk2.2.2.2.2.2 e2
    have j3 := KM_tr (KM_tr jj1 j2) (CF_KM g2)
    have hfl : ∀ k, k < N.1 → t.2.2.2.2 (9 + k) = dot (lpl N k) (hy t.2.2.2.2) := fun k hk => (((NV_iff hN hB (by omega) _).mp b2.1.1.1.2.2.2.1).2.1 k hk).symm
    have hw15 := ((NV_iff hN hB (by omega) _).mp b2.1.1.1.2.2.2.1).2.2
    have hUU : U' = U := isSc_uniq (isSc_congr e3 (fun _ _ => rfl) g5) (isSc_congr (fun _ _ => rfl) hfl c5)
    subst hUU
    have hcp : cpos B.1 x = cpos B.1 t.2.2.2.2 := cnt_congr fun j hj => by rw [e3 j hj]
    have hwx : wl B x = wl B t.2.2.2.2 := sm_congr fun j hj => by rw [e3 j hj]
    refine ⟨nI (cpos B.1 t.2.2.2.2), S4, M2, ?_, ?_, ⟨c, fa, fb, fs, fm, mkL_k k4 j3 hL⟩, ⟨s, bd, nd, pr, qu, mkT_k k4 j3 hT⟩, ⟨?_, Or.inr c6⟩, fun _ => ⟨N, B, U', t.2.2.2.2, hy t.2.2.2.2, MK_k k4 j3 ⟨hN, hB, hcN, hmN, hcB, hmB⟩, ⟨hT0, ho, ⟨c3, c4⟩, c7, g6, by rw [c8, hw15], by rw [g7, hwx], by rw [← hw15]; exact c11, fun j hj => ⟨(c9 j hj).1, by rw [g8 j hj, e3 j hj], (c9 j hj).2⟩, fun k hk => ⟨by rw [(c10 k hk).1, hfl k hk], g9 k hk, by rw [← hfl k hk]; exact (c10 k hk).2⟩⟩, fun n hn => Or.inl (g10 n hn)⟩⟩
    · unfold f_N_clear
      rw [bo_s (show f_P_load m 0 0 (sF S 5 0) = some (1, S1) from l2), if_neg (by decide), bo_s (show f_P_maximise m 15 S1 = some ((), S2) from a1)]
      refine Eq.trans b1 ?_
      rw [bo_s c1, k4.2.1, hcB.1, bo_s (show f_O_taken m (nI B.1) S4 = some (nI (cpos B.1 t.2.2.2.2), S4) from htk)]
    · unfold f_M_clear
      rw [bo_s hc1.2, if_neg (by decide), bo_s d1]
      rw [hcp] at g1
      exact g1
    · rw [c6, g2.1]; rfl
  · have hc1 := hconn.resolve_left (fun q => hT0 q.1)
    have k1 := KS_tr k0 (LF_KS l1)
    refine ⟨-2147483648, S1, sF M 4 0, ?_, ?_, ⟨c, fa, fb, fs, fm, mkL_k k1 j0 hL⟩, ⟨s, bd, nd, pr, qu, mkT_k k1 j0 hT⟩, mkF_l f5 rfl, fun h => by rw [f5] at h; exact absurd h (by decide)⟩
    · unfold f_N_clear
      rw [bo_s (show f_P_load m 0 0 (sF S 5 0) = some (0, S1) from l2), if_pos rfl]
    · unfold f_M_clear
      rw [bo_s hc1.2, if_pos rfl]
