/-! the reference's node planes -/
def nb (B : Bk) (tu : Nat → Nat) (v i : Nat) : Bool := B.2.1 (tu i) == v
def nl (B : Bk) (tu : Nat → Nat) (v i : Nat) : Bool := decide (B.2.1 (tu i) < v)
def mT (M : z_S) (B : Bk) (tu : Nat → Nat) : Prop := ∀ t, t < B.1 → gI M 8 t = nI (tu t)
def covN (N : Net) (B : Bk) (g : Nat) (tu : Nat → Nat) (P : Nat) (pa : Nat → v3) (pd : Nat → Rat) (v t : Nat) : Prop := ∃ p, p < P ∧ pa p = npl (LN N) v ∧ pd p = edge B g tu v t
theorem cnt_mono (p : Nat → Bool) : ∀ m n, n ≤ m → cnt n p ≤ cnt m p := by
  intro m
  induction m with
  | zero => intro n h; have : n = 0 := by omega
            rw [this]; exact Nat.le_refl _
  | succ m ih =>
    intro n h
    by_cases e : n = m + 1
    · rw [e]; exact Nat.le_refl _
    · have := ih n (by omega)
      show cnt n p ≤ cnt m p + _
      omega
theorem nl_succ (B : Bk) (tu : Nat → Nat) (v : Nat) : ∀ m, cnt m (nl B tu (v + 1)) = cnt m (nl B tu v) + cnt m (nb B tu v) := by
  intro m
  induction m with
  | zero => rfl
  | succ m ih =>
    show cnt m _ + _ = cnt m _ + _ + (cnt m _ + _)
    rw [ih]
    unfold nl nb
    by_cases q1 : B.2.1 (tu m) < v
    · have q2 : B.2.1 (tu m) < v + 1 := by omega
      have q3 : (B.2.1 (tu m) == v) = false := by simp; omega
      rw [decide_eq_true q1, decide_eq_true q2, q3]; simp; omega
    · by_cases q2 : B.2.1 (tu m) = v
      · have q3 : (B.2.1 (tu m) == v) = true := by simp; omega
        rw [decide_eq_false q1, decide_eq_true (show B.2.1 (tu m) < v + 1 by omega), q3]; simp; omega
      · have q3 : (B.2.1 (tu m) == v) = false := by simp; omega
        rw [decide_eq_false q1, decide_eq_false (show ¬ B.2.1 (tu m) < v + 1 by omega), q3]; simp
section NODES
variable {N : Net} {B : Bk} {m g : Nat} {tu : Nat → Nat}
theorem nI_iff {a b : Nat} (ha : a < 16) (hb : b < 16) : nI a = nI b ↔ a = b := ⟨fun e3 => by
  have := congrArg Int32.toNatClampNeg e3
  rw [cl_n (by omega), cl_n (by omega)] at this
  exact this, fun e3 => by rw [e3]⟩
theorem npl_Z (hN : netOk N) {v : Nat} (hv : v < 4) : vZ (npl (LN N) v) 15 := ⟨isZ_neg (LN_Z hN hv), isZ_neg (LN_Z hN hv), isZ_neg (LN_Z hN hv)⟩
theorem mT_K {M M' : z_S} (h : KF M M') (hM : mT M B tu) : mT M' B tu := by unfold mT; rw [h.2.2.1 8 (by omega)]; exact hM
theorem pm_np_edge (hN : netOk N) (hB : bkOk B) (ht : isTurn B tu) {k2 : Int32 → Int32 → z_S → Option (Unit × z_S)} {x1 : Int32} {v : Nat} (hv : v < 4) : ∀ q t (M : z_S) (P : Nat) (pa : Nat → v3) (pd : Nat → Rat) (x3 : Int64), t ≤ B.1 → B.1 - t < q → mB M B → mT M B tu → PLs M P pa pd → P + cnt B.1 (nb B tu v) ≤ 24 + cnt t (nb B tu v) → (q3 (gI M 9 1) = (npl (LN N) v).1 ∧ q3 (gI M 9 2) = (npl (LN N) v).2.1 ∧ q3 (gI M 9 3) = (npl (LN N) v).2.2) → q6 x3 = edge B g tu v t → (∀ i, i ≤ t → covN N B g tu P pa pd v i) → ∃ M' P' pa' pd', f_M_nodePlanes_145 m k2 q x1 (nI v) x3 (nI t) M = k2 x1 (nI (v + 1)) M' ∧ KF M M' ∧ PLs M' P' pa' pd' ∧ P' + cnt t (nb B tu v) = P + cnt B.1 (nb B tu v) ∧ (∀ p, p < P → pa' p = pa p ∧ pd' p = pd p) ∧ (∀ i, i ≤ B.1 → covN N B g tu P' pa' pd' v i) := by
  have h88 := hB.1
  intro q
  induction q with
  | zero => intro t M P pa pd x3 _ h; omega
  | succ q ih =>
    intro t M P pa pd x3 hts hq hM hT hPL hP hpart hx hcov
    by_cases e : t = B.1
    · subst e
      refine ⟨M, P, pa, pd, ?_, KF_rf M, hPL, rfl, fun _ _ => ⟨rfl, rfl⟩, hcov⟩
      rw [f_M_nodePlanes_145, if_pos (by rw [hM.1]; exact nI_le (by omega) (by omega)), nI_1]
    · have hlt : t < B.1 := by omega
      have htu := ht.1 t hlt
      obtain ⟨b1, b2, b3, b4⟩ := hM.2 _ htu
      obtain ⟨d1, d2, d3, d4, d5⟩ := hB.2 _ htu
      have hvt : vi (nI t) 8 = true := vi_n (by omega) (by omega)
      have hct : (nI t).toNatClampNeg = t := cl_n (by omega)
      have hvu : vi (nI (tu t)) 8 = true := vi_n (by omega) (by omega)
      have hcu : (nI (tu t)).toNatClampNeg = tu t := cl_n (by omega)
      have hc1 : cnt (t + 1) (nb B tu v) = cnt t (nb B tu v) + (if nb B tu v t = true then 1 else 0) := rfl
      have he1 : edge B g tu v (t + 1) = edge B g tu v t + (if B.2.1 (tu t) = v then B.2.2.2.2 (tu t) else 0) := by
        unfold edge
        show _ - _ + (sm t _ + (if B.2.1 (tu t) = v then B.2.2.2.2 (tu t) else 0)) = _
        grind
      rw [f_M_nodePlanes_145, if_neg (by rw [hM.1]; exact nI_ge hlt (by omega)), ck_t hvt, hct, hT t hlt, ck_t hvu, hcu, b2]
      unfold f_M_nodePlanes_186 f_M_nodePlanes_191
      by_cases q1 : B.2.1 (tu t) = v
      · have hn : nb B tu v t = true := by unfold nb; simp [q1]
        rw [hn, if_pos rfl] at hc1
        rw [if_pos q1] at he1
        have hq6 : q6 (x3 + (gI M 7 (tu t)).toInt64) = edge B g tu v (t + 1) := by
          rw [q6_add (K := 50000) (by rw [hx, q6_i, b4, ← he1]; exact edge_Z hB ht v (by omega)) (by omega), hx, q6_i, b4, he1]
        have hmono := cnt_mono (nb B tu v) B.1 (t + 1) (by omega)
        obtain ⟨X, pa1, pd1, y1, y2, y3, y4, y5, y6, y7⟩ := pm_plane (m := m) (A := npl (LN N) v) (d := x3 + (gI M 7 (tu t)).toInt64) (show P < 24 by omega) hPL hpart.1 hpart.2.1 hpart.2.2 hq6 (npl_Z hN hv) (edge_Z hB ht v (by omega))
        obtain ⟨M', P', pa', pd', z1, z2, z3, z4, z5, z6⟩ := ih (t + 1) X (P + 1) pa1 pd1 _ (by omega) (by omega) (mB_K y6 hM) (mT_K y6 hT) y2 (by omega) (by rw [y7]; exact hpart) hq6 (fun i hi => by
          by_cases e2 : i = t + 1
          · exact ⟨P, by omega, y4, by rw [e2]; exact y5⟩
          · obtain ⟨p, p1, p2, p3⟩ := hcov i (by omega)
            exact ⟨p, by omega, by rw [(y3 p p1).1]; exact p2, by rw [(y3 p p1).2]; exact p3⟩)
        refine ⟨M', P', pa', pd', ?_, KF_tr y6 z2, z3, by omega, fun p hp => ?_, z6⟩
        · rw [if_pos (by rw [q1]), ck_t hvt, ck_t hvu, bo_s y1, nI_1]
          exact z1
        · have a1 := z5 p (by omega)
          have a2 := y3 p hp
          exact ⟨a1.1.trans a2.1, a1.2.trans a2.2⟩
      · have hn : nb B tu v t = false := by unfold nb; simp [q1]
        rw [hn] at hc1
        simp only [Bool.false_eq_true, if_false] at hc1
        rw [if_neg q1] at he1
        have he2 : edge B g tu v (t + 1) = edge B g tu v t := by rw [he1]; grind
        obtain ⟨M', P', pa', pd', z1, z2, z3, z4, z5, z6⟩ := ih (t + 1) M P pa pd x3 (by omega) (by omega) hM hT hPL (by omega) hpart (by rw [he2]; exact hx) (fun i hi => by
          by_cases e2 : i = t + 1
          · rw [e2]; unfold covN; rw [he2]; exact hcov t (Nat.le_refl _)
          · exact hcov i (by omega))
        refine ⟨M', P', pa', pd', ?_, z2, z3, by omega, z5, z6⟩
        rw [if_neg (fun q => q1 ((nI_iff (by omega) (by omega)).mp q)), nI_1]
        exact z1
theorem oth {a b : Nat} (ha : a < 4) (hb : b < 4) : nI a + nI b - nI a = nI b ∧ nI a + nI b - nI b = nI a := by
  rcases lt4 ha with e | e | e | e <;> subst e <;> rcases lt4 hb with e | e | e | e <;> subst e <;> decide
def more0 (x1 : Int32) (g : Nat) : Prop := ∀ v, v < 4 → (nI v = x1 ↔ v = g)
theorem pm_np_lines (hN : netOk N) (hB : bkOk B) (ht : isTurn B tu) (hm : 9 < m) {k2 : Int32 → Int32 → z_S → Option (Unit × z_S)} {x1 : Int32} (hx1 : more0 x1 g) {v : Nat} (hv : v < 4) {P : Nat} {pa : Nat → v3} {pd : Nat → Rat} (hP : P + 1 + cnt B.1 (nb B tu v) ≤ 24) : ∀ q k (M : z_S), k ≤ N.1 → N.1 - k < q → mN M N → mB M B → mT M B tu → PLs M P pa pd → (∀ w, w < 4 → q3 (gI M 9 w) = - Lp k N.2.1 N.2.2.1 N.2.2.2.1 v w) → ∃ M' P' pa' pd', f_M_nodePlanes_29 m k2 q x1 (nI v) (nI k) M = k2 x1 (nI (v + 1)) M' ∧ KF M M' ∧ PLs M' P' pa' pd' ∧ P' = P + 1 + cnt B.1 (nb B tu v) ∧ (∀ p, p < P → pa' p = pa p ∧ pd' p = pd p) ∧ (∀ i, i ≤ B.1 → covN N B g tu P' pa' pd' v i) := by
  have h88 := hB.1
  have h6 := hN.1
  intro q
  induction q with
  | zero => intro k M _ h; omega
  | succ q ih =>
    intro k M hk hq hM hMB hT hPL hpart
    by_cases e : k = N.1
    · have hp1 := hpart 1 (by omega)
      have hp2 := hpart 2 (by omega)
      have hp3 := hpart 3 (by omega)
      rw [e] at hp1 hp2 hp3
      obtain ⟨o, o1, o2⟩ := pm_offered (m := m) hB hm hMB hv
      have fin : ∀ t0 : Int64, q6 t0 = (if v = g then 1 else 0) → ∃ M' P' pa' pd', f_M_nodePlanes_130 m k2 x1 (nI v) t0 M = k2 x1 (nI (v + 1)) M' ∧ KF M M' ∧ PLs M' P' pa' pd' ∧ P' = P + 1 + cnt B.1 (nb B tu v) ∧ (∀ p, p < P → pa' p = pa p ∧ pd' p = pd p) ∧ (∀ i, i ≤ B.1 → covN N B g tu P' pa' pd' v i) := by
        intro t0 h0
        have hd : edge B g tu v 0 = (if v = g then 1 else 0) - offd B v := by unfold edge; show _ + (0 : Rat) = _; grind
        have hq6 : q6 (t0 - o) = edge B g tu v 0 := by
          rw [q6_sub (K := 50000) (by rw [h0, o2, ← hd]; exact edge_Z hB ht v (by omega)) (by omega), h0, o2, hd]
        obtain ⟨X, pa1, pd1, y1, y2, y3, y4, y5, y6, y7⟩ := pm_plane (m := m) (A := npl (LN N) v) (d := t0 - o) (show P < 24 by omega) hPL hp1 hp2 hp3 hq6 (npl_Z hN hv) (edge_Z hB ht v (by omega))
        obtain ⟨M', P', pa', pd', z1, z2, z3, z4, z5, z6⟩ := pm_np_edge (m := m) (g := g) (k2 := k2) (x1 := x1) hN hB ht hv m 0 X (P + 1) pa1 pd1 (t0 - o) (by omega) (by omega) (mB_K y6 hMB) (mT_K y6 hT) y2 (by show _ ≤ 24 + 0; omega) (by rw [y7]; exact ⟨hp1, hp2, hp3⟩) hq6 (fun i hi => ⟨P, by omega, y4, by rw [show i = 0 by omega]; exact y5⟩)
        refine ⟨M', P', pa', pd', ?_, KF_tr y6 z2, z3, ?_, fun p hp => ?_, z6⟩
        · unfold f_M_nodePlanes_130
          rw [bo_s o1, bo_s y1]
          exact z1
        · have z4 : P' + 0 = P + 1 + cnt B.1 (nb B tu v) := z4
          omega
        · have a1 := z5 p (by omega)
          have a2 := y3 p hp
          exact ⟨a1.1.trans a2.1, a1.2.trans a2.2⟩
      rw [f_M_nodePlanes_29, if_pos (by rw [hM.1]; exact nI_le (by omega) (by omega))]
      by_cases q1 : v = g
      · rw [if_pos ((hx1 v hv).mpr q1)]
        exact fin 1 (by rw [if_pos q1]; rfl)
      · rw [if_neg (fun q => q1 ((hx1 v hv).mp q))]
        exact fin 0 (by rw [if_neg q1]; rfl)
    · have hkc : k < N.1 := by omega
      obtain ⟨c1, c2, c3, c4⟩ := hM.2 k hkc
      obtain ⟨n1, n2, n3, n4, n5, n6⟩ := hN.2.1 k hkc
      have hvk : vi (nI k) 6 = true := vi_n (by omega) (by omega)
      have hck : (nI k).toNatClampNeg = k := cl_n (by omega)
      have hfs : q3 (nI (N.2.2.2.1 k)) = (N.2.2.2.1 k : Rat) := q3_nI (by omega)
      have hz : ∀ w, w < 4 → isZ (q3 (gI M 9 w)) 30 := fun w hw => by
        rw [hpart w hw]
        exact isZ_neg (isZ_mono (isZ_sm (K := 5) (fun j hj => isZ_mul (K := 5) (L := 1) (isZ_mul (K := 5) (L := 1) (isZ_nat (hN.2.1 j (by omega)).2.2.2.2.1) (dl_Z _ _ _ _ (hN.2.1 j (by omega)).2.2.1)) (dl_Z _ _ _ _ (hN.2.1 j (by omega)).2.2.1))) (by omega))
      have step : ∀ b, b < 4 → b ≠ v → (∀ w, w < 4 → (N.2.2.2.1 k : Rat) * dl N.2.1 N.2.2.1 k v * dl N.2.1 N.2.2.1 k w = if w = v then (N.2.2.2.1 k : Rat) else if w = b then - (N.2.2.2.1 k : Rat) else 0) → ∃ M' P' pa' pd', f_M_nodePlanes_74 m k2 (f_M_nodePlanes_29 m k2 q) x1 (nI v) (nI k) (nI b) M = k2 x1 (nI (v + 1)) M' ∧ KF M M' ∧ PLs M' P' pa' pd' ∧ P' = P + 1 + cnt B.1 (nb B tu v) ∧ (∀ p, p < P → pa' p = pa p ∧ pd' p = pd p) ∧ (∀ i, i ≤ B.1 → covN N B g tu P' pa' pd' v i) := by
        intro b hb hbv hdl
        have hX : ∃ X, X = sI M 9 (upd (gI M 9) b (gI M 9 b + gI M 2 k)) := ⟨_, rfl⟩
        obtain ⟨X, hX⟩ := hX
        have hY : ∃ Y, Y = sI X 9 (upd (gI X 9) v (gI X 9 v - gI X 2 k)) := ⟨_, rfl⟩
        obtain ⟨Y, hY⟩ := hY
        have x9v : gI X 9 v = gI M 9 v := by rw [hX, sI_up, if_neg (by omega)]
        have x2k : gI X 2 k = gI M 2 k := by rw [hX]; rfl
        have at0 : ∀ w, gI Y 9 w = if w = v then gI M 9 v - gI M 2 k else if w = b then gI M 9 b + gI M 2 k else gI M 9 w := fun w => by
          rw [hY, sI_up, x9v, x2k]
          by_cases a : w = v
          · rw [if_pos ⟨rfl, a⟩, if_pos a]
          · rw [if_neg (fun q => a q.2), if_neg a, hX, sI_up]
            by_cases b' : w = b
            · rw [if_pos ⟨rfl, b'⟩, if_pos b']
            · rw [if_neg (fun q => b' q.2), if_neg b']
        have hK : KF M Y := by rw [hY, hX]; exact KF_tr (KF_9 M _) (KF_9 _ _)
        obtain ⟨M', P', pa', pd', z1, z2, z3, z4, z5, z6⟩ := ih (k + 1) Y (by omega) (by omega) (mN_K hK hM) (mB_K hK hMB) (mT_K hK hT) (by rw [hY, hX]; exact hPL) (fun w hw => by
          have hs : Lp (k + 1) N.2.1 N.2.2.1 N.2.2.2.1 v w = Lp k N.2.1 N.2.2.1 N.2.2.2.1 v w + (N.2.2.2.1 k : Rat) * dl N.2.1 N.2.2.1 k v * dl N.2.1 N.2.2.1 k w := rfl
          rw [hs, hdl w hw, at0]
          by_cases a : w = v
          · rw [if_pos a, if_pos a, q3_sub (K := 35) (by rw [c3, hfs]; exact isZ_sub (hz v hv) (isZ_nat n5)) (by omega), c3, hfs, hpart v hv, a]
            grind
          · rw [if_neg a, if_neg a]
            by_cases b' : w = b
            · rw [if_pos b', if_pos b', q3_add (K := 35) (by rw [c3, hfs]; exact isZ_add (hz b hb) (isZ_nat n5)) (by omega), c3, hfs, hpart b hb, b']
              grind
            · rw [if_neg b', if_neg b', hpart w hw]
              grind)
        refine ⟨M', P', pa', pd', ?_, KF_tr hK z2, z3, z4, z5, z6⟩
        unfold f_M_nodePlanes_74 f_M_nodePlanes_114
        rw [ck_t (vi_n hb (by omega)), ck_t hvk, ck_t (vi_n hb (by omega)), ck_t (vi_n hv (by omega)), ck_t hvk, ck_t (vi_n hv (by omega)), cl_n (show b < 2 ^ 31 by omega), hck, cl_n (show v < 2 ^ 31 by omega), ← hX, ← hY, nI_1]
        exact z1
      rw [f_M_nodePlanes_29, if_neg (by rw [hM.1]; exact nI_ge hkc (by omega)), ck_t hvk, hck, c1, c2]
      unfold f_M_nodePlanes_57
      rw [ck_t hvk, ck_t hvk, hck, c1, c2]
      by_cases q1 : N.2.1 k = v
      · rw [if_pos (by rw [q1]), q1, (oth hv n2).1]
        refine step _ n2 (by omega) (fun w hw => ?_)
        unfold dl
        rw [if_pos q1.symm, if_neg (show ¬ v = N.2.2.1 k by omega), q1]
        by_cases a : w = v
        · rw [if_pos a, if_pos a, if_neg (by omega)]; grind
        · rw [if_neg a, if_neg a]
          by_cases b : w = N.2.2.1 k
          · rw [if_pos b, if_pos b]; grind
          · rw [if_neg b, if_neg b]; grind
      · rw [if_neg (fun q => q1 ((nI_iff (by omega) (by omega)).mp q)), ck_t hvk]
        by_cases q2 : N.2.2.1 k = v
        · rw [if_pos (by rw [q2]), q2, (oth n1 hv).2]
          refine step _ n1 q1 (fun w hw => ?_)
          unfold dl
          rw [if_neg (show ¬ v = N.2.1 k by omega), if_pos q2.symm, q2]
          by_cases a : w = v
          · rw [if_pos a, if_pos a, if_neg (by omega)]; grind
          · rw [if_neg a, if_neg a]
            by_cases b : w = N.2.1 k
            · rw [if_pos b, if_pos b]; grind
            · rw [if_neg b, if_neg b]; grind
        · rw [if_neg (fun q => q2 ((nI_iff (by omega) (by omega)).mp q))]
          unfold f_M_nodePlanes_114
          rw [nI_1]
          refine ih (k + 1) M (by omega) (by omega) hM hMB hT hPL (fun w hw => ?_)
          have hs : Lp (k + 1) N.2.1 N.2.2.1 N.2.2.2.1 v w = Lp k N.2.1 N.2.2.1 N.2.2.2.1 v w + (N.2.2.2.1 k : Rat) * dl N.2.1 N.2.2.1 k v * dl N.2.1 N.2.2.1 k w := rfl
          have h0 : dl N.2.1 N.2.2.1 k v = 0 := by unfold dl; rw [if_neg (fun e => q1 e.symm), if_neg (fun e => q2 e.symm)]; grind
          rw [hs, h0, hpart w hw]
          grind
theorem pm_np_zero (hN : netOk N) (hB : bkOk B) (ht : isTurn B tu) (hm : 9 < m) {k2 : Int32 → Int32 → z_S → Option (Unit × z_S)} {x1 : Int32} (hx1 : more0 x1 g) {v : Nat} (hv : v < 4) {P : Nat} {pa : Nat → v3} {pd : Nat → Rat} (hP : P + 1 + cnt B.1 (nb B tu v) ≤ 24) : ∀ q w (M : z_S), w ≤ 4 → 4 - w < q → mN M N → mB M B → mT M B tu → PLs M P pa pd → (∀ i, i < w → gI M 9 i = 0) → ∃ M' P' pa' pd', f_M_nodePlanes_9 m k2 q x1 (nI v) (nI w) M = k2 x1 (nI (v + 1)) M' ∧ KF M M' ∧ PLs M' P' pa' pd' ∧ P' = P + 1 + cnt B.1 (nb B tu v) ∧ (∀ p, p < P → pa' p = pa p ∧ pd' p = pd p) ∧ (∀ i, i ≤ B.1 → covN N B g tu P' pa' pd' v i) := by
  intro q
  induction q with
  | zero => intro w M _ h; omega
  | succ q ih =>
    intro w M hw hq hM hMB hT hPL h0
    by_cases e : w = 4
    · rw [f_M_nodePlanes_9, if_pos (k4le (by omega) (by omega))]
      exact pm_np_lines (m := m) hN hB ht hm hx1 hv hP m 0 M (by omega) (by have := hN.1; omega) hM hMB hT hPL (fun i hi => by rw [h0 i (by omega)]; show (0 : Rat) = - 0; grind)
    · obtain ⟨M', P', pa', pd', z1, z2, z3, z4, z5, z6⟩ := ih (w + 1) (sI M 9 (upd (gI M 9) w 0)) (by omega) (by omega) (mN_K (KF_9 M _) hM) (mB_K (KF_9 M _) hMB) (mT_K (KF_9 M _) hT) hPL (fun i hi => by
        rw [sI_up]
        by_cases e2 : i = w
        · rw [if_pos ⟨rfl, e2⟩]
        · rw [if_neg (fun q => e2 q.2)]; exact h0 i (by omega))
      refine ⟨M', P', pa', pd', ?_, KF_tr (KF_9 M _) z2, z3, z4, z5, z6⟩
      rw [f_M_nodePlanes_9, if_neg (k4ge (by omega)), ck_t (vi_n (by omega) (by omega)), cl_n (by omega), nI_1]
      exact z1
theorem pm_np_loop (hN : netOk N) (hB : bkOk B) (ht : isTurn B tu) (hm : 9 < m) {x1 : Int32} (hx1 : more0 x1 g) : ∀ q v (M : z_S) (P : Nat) (pa : Nat → v3) (pd : Nat → Rat), v ≤ 4 → 4 - v < q → mN M N → mB M B → mT M B tu → PLs M P pa pd → P = 2 * N.1 + v + cnt B.1 (nl B tu v) → (∀ i, i < N.1 → covL N P pa pd i) → (∀ u i, u < v → i ≤ B.1 → covN N B g tu P pa pd u i) → ∃ M' P' pa' pd', f_M_nodePlanes_2 m q x1 (nI v) M = some ((), M') ∧ KF M M' ∧ PLs M' P' pa' pd' ∧ (∀ i, i < N.1 → covL N P' pa' pd' i) ∧ (∀ u i, u < 4 → i ≤ B.1 → covN N B g tu P' pa' pd' u i) := by
  have h88 := hB.1
  have h6 := hN.1
  intro q
  induction q with
  | zero => intro v M P pa pd _ h; omega
  | succ q ih =>
    intro v M P pa pd hv hq hM hMB hT hPL hP hcL hcN
    by_cases e : v = 4
    · refine ⟨M, P, pa, pd, ?_, KF_rf M, hPL, hcL, fun u i hu hi => hcN u i (by omega) hi⟩
      rw [f_M_nodePlanes_2, if_pos (k4le (by omega) (by omega))]
    · have hs := nl_succ B tu v B.1
      have hle := cnt_le B.1 (nl B tu (v + 1))
      obtain ⟨X, P1, pa1, pd1, z1, z2, z3, z4, z5, z6⟩ := pm_np_zero (m := m) (k2 := f_M_nodePlanes_2 m q) (x1 := x1) hN hB ht hm hx1 (show v < 4 by omega) (show P + 1 + cnt B.1 (nb B tu v) ≤ 24 by omega) m 0 M (by omega) (by omega) hM hMB hT hPL (fun i hi => by omega)
      obtain ⟨M', P', pa', pd', h1, h2, h3, h4, h5⟩ := ih (v + 1) X P1 pa1 pd1 (by omega) (by omega) (mN_K z2 hM) (mB_K z2 hMB) (mT_K z2 hT) z3 (by omega) (fun i hi => by
        obtain ⟨p, q, p1, q1, a1, a2, a3, a4⟩ := hcL i hi
        exact ⟨p, q, by omega, by omega, by rw [(z5 p p1).1]; exact a1, by rw [(z5 p p1).2]; exact a2, by rw [(z5 q q1).1]; exact a3, by rw [(z5 q q1).2]; exact a4⟩) (fun u i hu hi => by
        by_cases e2 : u = v
        · rw [e2]; exact z6 i hi
        · obtain ⟨p, p1, p2, p3⟩ := hcN u i (by omega) hi
          exact ⟨p, by omega, by rw [(z5 p p1).1]; exact p2, by rw [(z5 p p1).2]; exact p3⟩)
      refine ⟨M', P', pa', pd', ?_, KF_tr z2 h2, h3, h4, h5⟩
      rw [f_M_nodePlanes_2, if_neg (k4ge (by omega)), ← h1]
      exact z1
/-- all planes of the market are among the reference's -/
theorem pm_planes (hN : netOk N) (hB : bkOk B) (ht : isTurn B tu) (hm : 9 < m) {x1 : Int32} (hx1 : more0 x1 g) {M : z_S} (hM : mN M N) (hMB : mB M B) (hT : mT M B tu) : ∃ X M' P pa pd, f_M_linePlanes m M = some ((), X) ∧ f_M_nodePlanes m x1 X = some ((), M') ∧ KF M M' ∧ PLs M' P pa pd ∧ ∀ A D, isPlane N B g tu A D → ∃ p, p < P ∧ pa p = A ∧ pd p = D := by
  obtain ⟨X, pa1, pd1, x1', x2, x3, x4⟩ := pm_linePlanes (m := m) hN hm hM
  obtain ⟨M', P', pa', pd', h1, h2, h3, h4, h5⟩ := pm_np_loop (m := m) (g := g) hN hB ht hm hx1 m 0 X (2 * N.1) pa1 pd1 (by omega) (by omega) (mN_K x2 hM) (mB_K x2 hMB) (mT_K x2 hT) x3 (by
    have : ∀ n, cnt n (nl B tu 0) = 0 := fun n => by
      induction n with
      | zero => rfl
      | succ n ih =>
        show cnt n _ + _ = 0
        rw [ih]; unfold nl; simp
    rw [this]
    rfl) x4 (fun u i hu => by omega)
  refine ⟨X, M', P', pa', pd', x1', h1, KF_tr x2 h2, h3, fun A D hAD => ?_⟩
  rcases hAD with ⟨k, hk, e1, e2⟩ | ⟨v, t, hv, htt, e1, e2⟩
  · obtain ⟨p, q, p1, q1, a1, a2, a3, a4⟩ := h4 k hk
    rcases e2 with e2 | e2
    · exact ⟨p, p1, a1.trans e1.symm, a2.trans e2.symm⟩
    · exact ⟨q, q1, a3.trans e1.symm, a4.trans e2.symm⟩
  · obtain ⟨p, p1, p2, p3⟩ := h5 v t hv htt
    exact ⟨p, p1, p2.trans e1.symm, p3.trans e2.symm⟩
end NODES
