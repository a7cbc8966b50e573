/-! what the grid can carry: the class's probe -/
def PB (p : Nat → Rat) : Bk := (8, fun j => j / 2, fun j => if j % 2 = 0 then 1 else -1, fun j => p (j / 2), fun _ => 3000)
theorem PB_ok {p : Nat → Rat} (hp : ∀ v, v < 4 → isZ (p v) 2000) : bkOk (PB p) := by
  refine ⟨Nat.le_refl _, fun j hj => ?_⟩
  have hj : j < 8 := hj
  refine ⟨show j / 2 < 4 by omega, ?_, hp (j / 2) (by omega), isZ_nat (show 3000 ≤ 3000 by omega), nat_nn 3000⟩
  show (if j % 2 = 0 then (1 : Rat) else -1) = 1 ∨ (if j % 2 = 0 then (1 : Rat) else -1) = -1
  by_cases c : j % 2 = 0
  · rw [if_pos c]; exact Or.inl rfl
  · rw [if_neg c]; exact Or.inr rfl
theorem sm8 (f : Nat → Rat) : sm 8 f = f 0 + f 1 + f 2 + f 3 + f 4 + f 5 + f 6 + f 7 := by
  show 0 + f 0 + f 1 + f 2 + f 3 + f 4 + f 5 + f 6 + f 7 = _
  grind
theorem PB_xs (p y : Nat → Rat) {v : Nat} (hv : v < 4) : xs (PB p) y v = y (2 * v) - y (2 * v + 1) := by
  have e : xs (PB p) y v = sm 8 (fun j => if j / 2 = v then (if j % 2 = 0 then (1 : Rat) else -1) * y j else 0) := rfl
  rw [e, sm8]
  rcases lt4 hv with e | e | e | e <;> subst e <;> simp <;> grind
theorem PB_wl (p y : Nat → Rat) : wl (PB p) y = p 0 * (y 0 - y 1) + p 1 * (y 2 - y 3) + p 2 * (y 4 - y 5) + p 3 * (y 6 - y 7) := by
  have e : wl (PB p) y = sm 8 (fun j => (if j % 2 = 0 then (1 : Rat) else -1) * p (j / 2) * y j) := rfl
  rw [e, sm8]
  simp
  grind
section PROBE
variable {N : Net} {B : Bk} {m U : Nat} {S : z_S} {X p : Nat → Rat} {h : v3}
theorem PB_lv {x : Nat → Rat} (hf : FS N (PB p) 4 x h) : wl (PB p) x = lv p N h := by
  have hk : ∀ v, v < 4 → dot (npl (LN N) v) h = x (2 * v) - x (2 * v + 1) := fun v hv => by
    rw [hf.2.2 v hv, PB_xs p x hv, if_neg (by omega)]
    grind
  rw [PB_wl]
  unfold lv
  rw [hk 0 (by omega), hk 1 (by omega), hk 2 (by omega), hk 3 (by omega)]
theorem PB_FS (hN : netOk N) (hl : linesOk N h) : ∃ x, FS N (PB p) 4 x h := by
  obtain ⟨x, hx⟩ : ∃ x : Nat → Rat, x = fun j => if j % 2 = 0 then (if 0 ≤ dot (npl (LN N) (j / 2)) h then dot (npl (LN N) (j / 2)) h else 0) else (if 0 ≤ dot (npl (LN N) (j / 2)) h then 0 else - dot (npl (LN N) (j / 2)) h) := ⟨_, rfl⟩
  have he : ∀ j, x j = if j % 2 = 0 then (if 0 ≤ dot (npl (LN N) (j / 2)) h then dot (npl (LN N) (j / 2)) h else 0) else (if 0 ≤ dot (npl (LN N) (j / 2)) h then 0 else - dot (npl (LN N) (j / 2)) h) := fun j => by rw [hx]
  refine ⟨x, fun j hj => ?_, hl, fun v hv => ?_⟩
  · have hj : j < 8 := hj
    have hb := npl_bd hN hl (v := j / 2) (by omega)
    show 0 ≤ x j ∧ x j ≤ 3000
    rw [he]
    by_cases c : j % 2 = 0
    · rw [if_pos c]
      by_cases c2 : 0 ≤ dot (npl (LN N) (j / 2)) h
      · rw [if_pos c2]; exact ⟨c2, hb.2⟩
      · rw [if_neg c2]; constructor <;> grind
    · rw [if_neg c]
      by_cases c2 : 0 ≤ dot (npl (LN N) (j / 2)) h
      · rw [if_pos c2]; constructor <;> grind
      · rw [if_neg c2]; constructor <;> grind
  · rw [PB_xs p x hv, if_neg (by omega), he, he, if_pos (show 2 * v % 2 = 0 by omega), if_neg (show ¬ (2 * v + 1) % 2 = 0 by omega), show 2 * v / 2 = v by omega, show (2 * v + 1) / 2 = v by omega]
    by_cases c2 : 0 ≤ dot (npl (LN N) v) h
    · rw [if_pos c2, if_pos c2]; grind
    · rw [if_neg c2, if_neg c2]; grind
def pbP (p : Nat → Rat) (k : Nat) (S : z_S) : Prop := gF S 2 = nI k ∧ ∀ j, j < k → q3 (gI S 9 j) = (if j % 2 = 0 then (1 : Rat) else -1) ∧ gI S 10 j = nI (j / 2) ∧ q3 (gI S 11 j) = p (j / 2) ∧ q3 (gI S 12 j) = 3000
def PBF (S S' : z_S) : Prop := (∀ t, t ≠ 2 → gF S' t = gF S t) ∧ gG S' = gG S ∧ ∀ t, (t < 9 ∨ 12 < t) → gI S' t = gI S t
theorem PBF_tr {S T V : z_S} (h : PBF S T) (h' : PBF T V) : PBF S V := ⟨fun t a => (h'.1 t a).trans (h.1 t a), h'.2.1.trans h.2.1, fun t a => (h'.2.2 t a).trans (h.2.2 t a)⟩
def addP (S : z_S) (c : Nat) (x1 x2 x3 x4 : Int32) : z_S := sF (sI (sI (sI (sI S 9 (upd (gI S 9) c x1)) 10 (upd (gI S 10) c x2)) 11 (upd (gI S 11) c x3)) 12 (upd (gI S 12) c x4)) 2 (nI (c + 1))
theorem pP_add {n c : Nat} {S : z_S} {x1 x2 x3 x4 : Int32} (hc : c < 8) (h0 : gF S 2 = nI c) : f_B_add_p n x1 x2 x3 x4 S = some (nI c, addP S c x1 x2 x3 x4) := by
  have hv : vi (nI c) 8 = true := vi_n (by omega) (by omega)
  have hcl : (nI c).toNatClampNeg = c := cl_n (by omega)
  have h6 : nI c < (8 : Int32) := nI_lt (a := c) (b := 8) (by omega) (by omega)
  unfold f_B_add_p f_B_add_p_32 f_B_add_p_53 addP
  simp only [gs, h0, hcl, ck_t hv, if_pos h6, Nat.reduceEqDiff, reduceIte, nI_1, nI_pred]
theorem pb_add {c : Nat} {S : z_S} {x1 x2 x3 x4 : Int32} (hc : c < 8) (h : pbP p c S) (e1 : q3 x1 = (if c % 2 = 0 then (1 : Rat) else -1)) (e2 : x2 = nI (c / 2)) (e3 : q3 x3 = p (c / 2)) (e4 : q3 x4 = 3000) : ∃ v S', f_B_add_p m x1 x2 x3 x4 S = some (v, S') ∧ PBF S S' ∧ pbP p (c + 1) S' := by
  refine ⟨_, _, pP_add hc h.1, ⟨fun t ht => ?_, rfl, fun t ht => ?_⟩, ?_, fun j hj => ?_⟩
  · unfold addP; simp only [gs, if_neg ht]
  · unfold addP; simp only [gs, if_neg (show t ≠ 9 by omega), if_neg (show t ≠ 10 by omega), if_neg (show t ≠ 11 by omega), if_neg (show t ≠ 12 by omega)]
  · unfold addP; simp only [gs, reduceIte]
  · have i9 : gI (addP S c x1 x2 x3 x4) 9 = upd (gI S 9) c x1 := by unfold addP; simp only [gs, Nat.reduceEqDiff, reduceIte]
    have i10 : gI (addP S c x1 x2 x3 x4) 10 = upd (gI S 10) c x2 := by unfold addP; simp only [gs, Nat.reduceEqDiff, reduceIte]
    have i11 : gI (addP S c x1 x2 x3 x4) 11 = upd (gI S 11) c x3 := by unfold addP; simp only [gs, Nat.reduceEqDiff, reduceIte]
    have i12 : gI (addP S c x1 x2 x3 x4) 12 = upd (gI S 12) c x4 := by unfold addP; simp only [gs, Nat.reduceEqDiff, reduceIte]
    rw [i9, i10, i11, i12, upd_at, upd_at, upd_at, upd_at]
    by_cases e : j = c
    · subst e
      rw [if_pos rfl, if_pos rfl, if_pos rfl, if_pos rfl]
      exact ⟨e1, e2, e3, e4⟩
    · rw [if_neg e, if_neg e, if_neg e, if_neg e]
      exact h.2 j (by omega)
def pTail (m : Nat) (S : z_S) : Option (Int32 × z_S) := bo (f_P_load_p m (0 : Int32) (0 : Int32) S) (fun v73 S73 => (if v73 = 0 then some ((0 : Int32), S73) else bo (f_P_maximise m (15 : Int32) S73) (fun _ S87 => bo (f_P_top m (15 : Int32) S87) (fun v96 S96 => bo (f_N_intakeWorth m S96) (fun v109 S109 => (if (v96 * ((gF S96 6).toInt64)) ≤ (v109 * (gG S109 1)) then f_N_gridCarriesMore_129 m (0 : Int32) S109 else f_N_gridCarriesMore_129 m (1 : Int32) S109))))))
theorem q3_3000 : q3 3000 = 3000 := by
  show (((3000 : Int32).toInt : Int) : Rat) = 3000
  rw [show (3000 : Int32).toInt = 3000 by decide]
  rfl
theorem pb_loop : ∀ q v (S : z_S), v ≤ 4 → 4 - v < q → pbP p (2 * v) S → (∀ v, v < 4 → q3 (gI S 0 v) = p v) → ∃ S', f_N_gridCarriesMore_10 m q (nI v) S = pTail m S' ∧ PBF S S' ∧ pbP p 8 S' := by
  intro q
  induction q with
  | zero => intro v S _ h; omega
  | succ q ih =>
    intro v S hv hq hP hp
    by_cases e : v = 4
    · subst e
      refine ⟨S, ?_, ⟨fun _ _ => rfl, rfl, fun _ _ => rfl⟩, hP⟩
      rw [f_N_gridCarriesMore_10, if_pos (k4le (by omega) (by omega))]
      rfl
    · have hvi : vi (nI v) 4 = true := vi_n (by omega) (by omega)
      have hcl : (nI v).toNatClampNeg = v := cl_n (by omega)
      obtain ⟨w1, S1, a1, a2, a3⟩ := pb_add (m := m) (x1 := 1) (x2 := nI v) (x3 := gI S 0 v) (x4 := 3000) (show 2 * v < 8 by omega) hP (by rw [if_pos (by omega)]; rfl) (by rw [show 2 * v / 2 = v by omega]) (by rw [show 2 * v / 2 = v by omega]; exact hp v (by omega)) q3_3000
      have g0 : gI S1 0 = gI S 0 := a2.2.2 0 (by omega)
      obtain ⟨w2, S2, b1, b2, b3⟩ := pb_add (m := m) (x1 := -1) (x2 := nI v) (x3 := gI S1 0 v) (x4 := 3000) (show 2 * v + 1 < 8 by omega) a3 (by rw [if_neg (by omega)]; rfl) (by rw [show (2 * v + 1) / 2 = v by omega]) (by rw [show (2 * v + 1) / 2 = v by omega, g0]; exact hp v (by omega)) q3_3000
      have g0' : gI S2 0 = gI S1 0 := b2.2.2 0 (by omega)
      obtain ⟨S', c1, c2, c3⟩ := ih (v + 1) S2 (by omega) (by omega) (by rw [show 2 * (v + 1) = 2 * v + 1 + 1 by omega]; exact b3) (fun u hu => by rw [g0', g0]; exact hp u hu)
      refine ⟨S', ?_, PBF_tr a2 (PBF_tr b2 c2), c3⟩
      rw [f_N_gridCarriesMore_10, if_neg (k4ge (show v < 4 by omega)), ck_t hvi, hcl, bo_s a1, ck_t hvi, bo_s b1, nI_1]
      exact c1
def GMF (S S' : z_S) : Prop := (∀ t, t ≠ 2 → t ≠ 3 → t ≠ 4 → gF S' t = gF S t) ∧ (∀ k, k ≠ 0 → k ≠ 1 → gG S' k = gG S k) ∧ (∀ t, (t < 9 ∨ 18 < t) → gI S' t = gI S t)
theorem pc_more (hm : 1000000 < m) (hN : netOk N) (hT : 0 < Tr (LN N) 0) (hB : bkOk B) (hc : cN S N) (hb : cB S 5 1 B) (hU0 : 0 < U) (hU : U ≤ 20250) (h6 : gF S 6 = nI U) (hx : ∀ j, j < B.1 → q3 (gI S 19 j) = X j) (hxz : ∀ j, j < B.1 → isZ (X j) 60750000) (hp : ∀ v, v < 4 → q3 (gI S 0 v) = p v) (hpz : ∀ v, v < 4 → isZ (p v) 2000) : ∃ v S', f_N_gridCarriesMore m S = some (v, S') ∧ GMF S S' ∧ ((v = 1 ∧ ∃ h, linesOk N h ∧ sm B.1 (rt B X p) < (U : Rat) * lv p N h) ∨ (v = 0 ∧ ∀ h, linesOk N h → (U : Rat) * lv p N h ≤ sm B.1 (rt B X p))) := by
  have hP := PB_ok hpz
  obtain ⟨S1, a1, a2, a3⟩ := pb_loop (m := m) (p := p) m 0 (sF S 2 0) (by omega) (by omega) ⟨rfl, fun j hj => by omega⟩ hp
  have hF1 : GMF S S1 := ⟨fun t h2 _ _ => by rw [a2.1 t h2]; simp only [gs, if_neg h2], fun k _ _ => by rw [a2.2.1]; rfl, fun t ht => by rw [a2.2.2 t (by omega)]; rfl⟩
  have hc1 : cN S1 N := ⟨by rw [hF1.1 0 (by omega) (by omega) (by omega)]; exact hc.1, by rw [hF1.2.2 1 (by omega), hF1.2.2 2 (by omega), hF1.2.2 3 (by omega), hF1.2.2 4 (by omega)]; exact hc.2⟩
  obtain ⟨S2, l1, l2⟩ := pl_load_p (m := m) (r := 0) (a := 0) (x4 := 0) hN hP (by omega) (by omega) rfl hc1 (show cB S1 9 2 (PB p) from a3)
  rcases l2 with ⟨-, l2, l3⟩ | ⟨l2, -⟩
  · have hcs := cs_start (a := 0) hN hP (by omega) hT (Or.inl rfl) l3
    obtain ⟨S3, t, fz, b1, b2, b3, b4, -⟩ := cs_stage (m := m) (a0 := 0) hN hP (by omega) (Or.inl rfl) hcs hm (aim := 15) (by omega) (Or.inr (Or.inr (Or.inr (Or.inl rfl)))) (Or.inl (Or.inl ⟨rfl, rfl⟩))
    obtain ⟨v, v1, v2, v3⟩ := cs_top (m := m) hN hP (Or.inl rfl) b2 (by omega) (u := 15) (by omega) (Or.inr (Or.inr (Or.inr (Or.inl rfl))))
    have hL3 := LF_tr l1 (LF_PF b4)
    have hF3 : GMF S S3 := ⟨fun t h2 h3 h4 => by rw [hL3.1 t h3 h4]; exact hF1.1 t h2 h3 h4, fun k h0 h1 => by rw [hL3.2.1 k h0 h1]; exact hF1.2.1 k h0 h1, fun t ht => by rw [hL3.2.2 t (by omega)]; exact hF1.2.2 t ht⟩
    have hb3 : cB S3 5 1 B := ⟨by rw [hF3.1 1 (by omega) (by omega) (by omega)]; exact hb.1, by rw [hF3.2.2 5 (by omega), hF3.2.2 (5 + 1) (by omega), hF3.2.2 (5 + 2) (by omega), hF3.2.2 (5 + 3) (by omega)]; exact hb.2⟩
    obtain ⟨w, w1, w2⟩ := pi_worth (m := m) (X := X) (p := p) (by omega) hB hb3 (fun j hj => by rw [hF3.2.2 19 (by omega)]; exact hx j hj) hxz (fun u hu => by rw [hF3.2.2 0 (by omega)]; exact hp u hu) hpz
    have g1 : q6 (gG S3 1) = t.1 := b2.2.1.2.1
    have hb0 : 0 < t.1 := b2.1.1.1.1
    have hbz := PI_b b2.1
    have f6 : gF S3 6 = nI U := by rw [hF3.1 6 (by omega) (by omega) (by omega)]; exact h6
    have qU : q6 ((nI U).toInt64) = (U : Rat) := by rw [q6_i, q3_nI (by omega)]
    have hUz : isZ (U : Rat) 20250 := isZ_nat hU
    have hUp : (0 : Rat) < (U : Rat) := Rat.natCast_pos.mpr hU0
    have hwz : isZ (sm B.1 (rt B X p)) 972000000000 := rts_Z hB hxz hpz (Nat.le_refl _)
    have p1 : q6 (v * (nI U).toInt64) = t.1 * t.2.2.2.2 15 * (U : Rat) := by rw [q6_mul (K := 16402500000000 * 20250) (by rw [qU]; exact isZ_mul v3 hUz) (by omega), v2, qU]
    have p2 : q6 (w * gG S3 1) = sm B.1 (rt B X p) * t.1 := by rw [q6_mul (K := 972000000000 * 20250) (by rw [w2, g1]; exact isZ_mul hwz hbz) (by omega), w2, g1]
    have base : ∀ Y, (if v * (nI U).toInt64 ≤ w * gG S3 1 then f_N_gridCarriesMore_129 m (0 : Int32) S3 else f_N_gridCarriesMore_129 m (1 : Int32) S3) = Y → f_N_gridCarriesMore m S = Y := by
      intro Y hY
      unfold f_N_gridCarriesMore
      refine Eq.trans a1 ?_
      unfold pTail
      rw [bo_s (show f_P_load_p m 0 0 S1 = some (1, S2) from l2), if_neg (by decide), bo_s (show f_P_maximise m 15 S2 = some ((), S3) from b1), bo_s (show f_P_top m 15 S3 = some (v, S3) from v1), bo_s w1, f6]
      exact hY
    have hl0 : ∀ u, live (N.1 + 2 + 3) (PB p).1 (sT N (PB p) 0) u ↔ lives N (PB p) u := fun u => start_live hN hP u
    have hfs := good_FS hN hP (r := 0) (g := 4) (by omega) b2.1 b2.2.2 (Or.inr ⟨by omega, w8_0 hN hP b2.1 b2.2.2⟩)
    have hwv : t.2.2.2.2 15 = lv p N (hy t.2.2.2.2) := by rw [((NV_iff hN hP (by omega) _).mp b2.1.1.1.2.2.2.1).2.2, PB_lv hfs]
    by_cases q : v * (nI U).toInt64 ≤ w * gG S3 1
    · refine ⟨0, S3, base _ (by rw [if_pos q]; exact ck_t vz_0), hF3, Or.inr ⟨rfl, fun h hl => ?_⟩⟩
      obtain ⟨x, hf⟩ := PB_FS (p := p) hN hl
      have hF := FS_Feas (a := 0) (e := 0) (r := 0) hN hP (by omega) hl0 hf (Or.inr ⟨by omega, rfl, by grind⟩)
      have h2 := (b3.2.2.2.1 _ hF (fun j _ hj => by cases hj)).1
      have h2 : wl (PB p) x ≤ t.2.2.2.2 15 := h2
      rw [PB_lv hf] at h2
      rw [q6_le, p1, p2] at q
      have h3 : 0 ≤ (U : Rat) * (t.2.2.2.2 15 - lv p N h) := Rat.mul_nonneg (by grind) (by grind)
      rcases Rat.le_total (a := (U : Rat) * t.2.2.2.2 15) (b := sm B.1 (rt B X p)) with c | c
      · grind
      · by_cases c2 : (U : Rat) * t.2.2.2.2 15 = sm B.1 (rt B X p)
        · grind
        · have : 0 < t.1 * ((U : Rat) * t.2.2.2.2 15 - sm B.1 (rt B X p)) := Rat.mul_pos hb0 (by grind)
          grind
    · refine ⟨1, S3, base _ (by rw [if_neg q]; exact ck_t vz_1), hF3, Or.inl ⟨rfl, hy t.2.2.2.2, hfs.2.1, ?_⟩⟩
      rw [← hwv]
      rw [q6_le, p1, p2] at q
      rcases Rat.le_total (a := (U : Rat) * t.2.2.2.2 15) (b := sm B.1 (rt B X p)) with c | c
      · have : 0 ≤ t.1 * (sm B.1 (rt B X p) - (U : Rat) * t.2.2.2.2 15) := Rat.mul_nonneg (by grind) (by grind)
        grind
      · by_cases c2 : (U : Rat) * t.2.2.2.2 15 = sm B.1 (rt B X p)
        · have : t.1 * ((U : Rat) * t.2.2.2.2 15 - sm B.1 (rt B X p)) = 0 := by grind
          grind
        · grind
  · exact (l2 hT).elim
end PROBE
