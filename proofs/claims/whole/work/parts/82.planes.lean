/-! the reference's planes -/
def PLs (M : z_S) (P : Nat) (pa : Nat → v3) (pd : Nat → Rat) : Prop := P ≤ 24 ∧ gF M 2 = nI P ∧ ∀ p, p < P → (q6 (gJ M 0 p) = (pa p).1 ∧ q6 (gJ M 1 p) = (pa p).2.1 ∧ q6 (gJ M 2 p) = (pa p).2.2 ∧ q6 (gJ M 3 p) = pd p) ∧ vZ (pa p) 15 ∧ isZ (pd p) 50000
def KF (M M' : z_S) : Prop := (∀ t, t ≠ 2 → gF M' t = gF M t) ∧ gG M' = gG M ∧ (∀ t, t ≠ 9 → gI M' t = gI M t) ∧ ∀ t, 4 ≤ t → gJ M' t = gJ M t
theorem KF_tr {M M' M'' : z_S} (h : KF M M') (h' : KF M' M'') : KF M M'' := ⟨fun t ht => (h'.1 t ht).trans (h.1 t ht), h'.2.1.trans h.2.1, fun t ht => (h'.2.2.1 t ht).trans (h.2.2.1 t ht), fun t ht => (h'.2.2.2 t ht).trans (h.2.2.2 t ht)⟩
theorem KF_rf (M : z_S) : KF M M := ⟨fun _ _ => rfl, rfl, fun _ _ => rfl, fun _ _ => rfl⟩
theorem KF_9 (M : z_S) (f : Nat → Int32) : KF M (sI M 9 f) := ⟨fun _ _ => rfl, rfl, fun t ht => by simp only [gs, if_neg ht], fun _ _ => rfl⟩
section PLANES
variable {N : Net} {B : Bk} {m : Nat}
theorem mN_K {M M' : z_S} (h : KF M M') (hM : mN M N) : mN M' N := ⟨by rw [h.1 0 (by omega)]; exact hM.1, by rw [h.2.2.1 0 (by omega), h.2.2.1 1 (by omega), h.2.2.1 2 (by omega), h.2.2.1 3 (by omega)]; exact hM.2⟩
theorem mB_K {M M' : z_S} (h : KF M M') (hM : mB M B) : mB M' B := ⟨by rw [h.1 1 (by omega)]; exact hM.1, by rw [h.2.2.1 4 (by omega), h.2.2.1 5 (by omega), h.2.2.1 6 (by omega), h.2.2.1 7 (by omega)]; exact hM.2⟩
theorem PLs_9 {M : z_S} {P : Nat} {pa : Nat → v3} {pd : Nat → Rat} (f : Nat → Int32) (h : PLs M P pa pd) : PLs (sI M 9 f) P pa pd := h
theorem pm_plane {M : z_S} {P : Nat} {pa : Nat → v3} {pd : Nat → Rat} {A : v3} {D : Rat} {d : Int64} (hP : P < 24) (h : PLs M P pa pd) (h1 : q3 (gI M 9 1) = A.1) (h2 : q3 (gI M 9 2) = A.2.1) (h3 : q3 (gI M 9 3) = A.2.2) (h4 : q6 d = D) (hA : vZ A 15) (hD : isZ D 50000) : ∃ M' pa' pd', f_M_plane m d M = some ((), M') ∧ PLs M' (P + 1) pa' pd' ∧ (∀ p, p < P → pa' p = pa p ∧ pd' p = pd p) ∧ pa' P = A ∧ pd' P = D ∧ KF M M' ∧ gI M' = gI M := by
  have hv : vi (nI P) 24 = true := vi_n hP (by omega)
  have hc : (nI P).toNatClampNeg = P := cl_n (by omega)
  have hX : ∃ X, X = sJ M 0 (vp_updL (gJ M 0) P (gI M 9 1).toInt64) := ⟨_, rfl⟩
  obtain ⟨X, hX⟩ := hX
  have hY : ∃ Y, Y = sJ X 1 (vp_updL (gJ X 1) P (gI X 9 2).toInt64) := ⟨_, rfl⟩
  obtain ⟨Y, hY⟩ := hY
  have hZ : ∃ Z, Z = sJ Y 2 (vp_updL (gJ Y 2) P (gI Y 9 3).toInt64) := ⟨_, rfl⟩
  obtain ⟨Z, hZ⟩ := hZ
  have hU : ∃ U, U = sJ Z 3 (vp_updL (gJ Z 3) P d) := ⟨_, rfl⟩
  obtain ⟨U, hU⟩ := hU
  have fX : gF X = gF M := by rw [hX]; rfl
  have fY : gF Y = gF M := by rw [hY, hX]; rfl
  have fZ : gF Z = gF M := by rw [hZ, hY, hX]; rfl
  have fU : gF U = gF M := by rw [hU, hZ, hY, hX]; rfl
  have iU : gI U = gI M := by rw [hU, hZ, hY, hX]; rfl
  have at0 : ∀ t p, gJ U t p = if t = 3 ∧ p = P then d else if t = 2 ∧ p = P then (gI M 9 3).toInt64 else if t = 1 ∧ p = P then (gI M 9 2).toInt64 else if t = 0 ∧ p = P then (gI M 9 1).toInt64 else gJ M t p := fun t p => by
    rw [hU, sJ_up, hZ, sJ_up, hY, sJ_up, hX, sJ_up]; rfl
  have at1 : ∀ t p, p ≠ P → gJ U t p = gJ M t p := fun t p hp => by rw [at0, if_neg (fun q => hp q.2), if_neg (fun q => hp q.2), if_neg (fun q => hp q.2), if_neg (fun q => hp q.2)]
  refine ⟨sF U 2 (gF U 2 + 1), fun p => if p = P then A else pa p, fun p => if p = P then D else pd p, ?_, ⟨by omega, ?_, fun p hp => ?_⟩, fun p hp => ⟨if_neg (by omega), if_neg (by omega)⟩, if_pos rfl, if_pos rfl, ⟨fun t ht => ?_, ?_, fun t _ => ?_, fun t ht => ?_⟩, ?_⟩
  · unfold f_M_plane f_M_plane_32 f_M_plane_58
    rw [h.2.1, ck_t hv, hc]
    rw [show ((1 : Int32).toNatClampNeg) = 1 from rfl, show ((2 : Int32).toNatClampNeg) = 2 from rfl, show ((3 : Int32).toNatClampNeg) = 3 from rfl, ← hX]
    simp only [fX, h.2.1, ck_t hv, hc, ← hY, fY, ← hZ, fZ, ← hU]
  · simp only [gs, reduceIte]
    rw [fU, h.2.1, nI_1]
  · show (q6 (gJ U 0 p) = _ ∧ q6 (gJ U 1 p) = _ ∧ q6 (gJ U 2 p) = _ ∧ q6 (gJ U 3 p) = _) ∧ _
    by_cases e : p = P
    · simp only [if_pos e]
      rw [at0, at0, at0, at0]
      simp only [e, and_self, and_true, Nat.reduceEqDiff, reduceIte]
      rw [q6_i, q6_i, q6_i]
      exact ⟨⟨h1, h2, h3, h4⟩, hA, hD⟩
    · simp only [if_neg e]
      rw [at1 _ _ e, at1 _ _ e, at1 _ _ e, at1 _ _ e]
      exact h.2.2 p (by omega)
  · simp only [gs, if_neg ht]; rw [fU]
  · show gG U = gG M
    rw [hU, hZ, hY, hX]; rfl
  · show gI U t = gI M t
    rw [iU]
  · show gJ U t = gJ M t
    funext p
    rw [at0, if_neg (by omega), if_neg (by omega), if_neg (by omega), if_neg (by omega)]
  · exact iU
def covL (N : Net) (P : Nat) (pa : Nat → v3) (pd : Nat → Rat) (k : Nat) : Prop := ∃ p q, p < P ∧ q < P ∧ pa p = lpl N k ∧ pd p = (N.2.2.2.2 k : Rat) ∧ pa q = lpl N k ∧ pd q = - (N.2.2.2.2 k : Rat)
theorem lpl_Z (hN : netOk N) {k : Nat} (hk : k < N.1) : vZ (lpl N k) 15 := by
  have := pln_Z hN (g := 9 + k) (Or.inr ⟨by omega, by omega⟩)
  unfold pln at this
  rw [if_neg (by omega), Nat.add_sub_cancel_left] at this
  exact this
theorem pm_lp_in (hN : netOk N) {k7 : Int32 → z_S → Option (Unit × z_S)} {k P : Nat} (hk : k < N.1) (hP : P + 2 ≤ 24) {pa : Nat → v3} {pd : Nat → Rat} : ∀ q n (M : z_S), n ≤ 4 → 4 - n < q → mN M N → PLs M P pa pd → (∀ w, w < n → q3 (gI M 9 w) = (N.2.2.2.1 k : Rat) * dl N.2.1 N.2.2.1 k w) → ∃ M' pa' pd', f_M_linePlanes_17 m k7 q (nI k) (nI n) M = k7 (nI (k + 1)) M' ∧ KF M M' ∧ PLs M' (P + 2) pa' pd' ∧ (∀ p, p < P → pa' p = pa p ∧ pd' p = pd p) ∧ covL N (P + 2) pa' pd' k := by
  have h6 := hN.1
  obtain ⟨n1, n2, n3, n4, n5, n6⟩ := hN.2.1 k hk
  have hv : vi (nI k) 6 = true := vi_n (by omega) (by omega)
  have hc : (nI k).toNatClampNeg = k := cl_n (by omega)
  intro q
  induction q with
  | zero => intro n M _ h; omega
  | succ q ih =>
    intro n M hn hq hM hPL hpart
    obtain ⟨c1, c2, c3, c4⟩ := hM.2 k hk
    by_cases e : n = 4
    · have hfm : q3 (nI (N.2.2.2.2 k)) = (N.2.2.2.2 k : Rat) := q3_nI (by omega)
      obtain ⟨X, pa1, pd1, x1, x2, x3, x4, x5, x6, x7⟩ := pm_plane (m := m) (A := lpl N k) (d := (gI M 3 k).toInt64) (D := (N.2.2.2.2 k : Rat)) (by omega) hPL (hpart 1 (by omega)) (hpart 2 (by omega)) (hpart 3 (by omega)) (by rw [q6_i, c4, hfm]) (lpl_Z hN hk) (isZ_nat (by omega))
      obtain ⟨Y, pa2, pd2, y1, y2, y3, y4, y5, y6, y7⟩ := pm_plane (m := m) (A := lpl N k) (d := (-(gI X 3 k)).toInt64) (D := - (N.2.2.2.2 k : Rat)) (by omega) x2 (by rw [x7]; exact hpart 1 (by omega)) (by rw [x7]; exact hpart 2 (by omega)) (by rw [x7]; exact hpart 3 (by omega)) (by rw [q6_i, x7, c4, q3_neg (K := 1000) (by rw [hfm]; exact isZ_nat n6) (by omega), hfm]) (lpl_Z hN hk) (isZ_neg (isZ_nat (by omega)))
      refine ⟨Y, pa2, pd2, ?_, KF_tr x6 y6, y2, fun p hp => ?_, ⟨P, P + 1, by omega, by omega, ?_, ?_, y4, y5⟩⟩
      · rw [f_M_linePlanes_17, if_pos (k4le (by omega) (by omega)), ck_t hv, hc, bo_s x1, ck_t hv, bo_s y1, nI_1]
      · have a1 := y3 p (by omega)
        have a2 := x3 p hp
        exact ⟨a1.1.trans a2.1, a1.2.trans a2.2⟩
      · rw [(y3 P (by omega)).1, x4]
      · rw [(y3 P (by omega)).2, x5]
    · have hval : ∀ v : Int32, q3 v = (N.2.2.2.1 k : Rat) * dl N.2.1 N.2.2.1 k n → ∃ M' pa' pd', ck (vi (nI n) 4) (f_M_linePlanes_17 m k7 q (nI k) (nI n + 1) (sI M 9 (upd (gI M 9) (nI n).toNatClampNeg v))) = k7 (nI (k + 1)) M' ∧ KF M M' ∧ PLs M' (P + 2) pa' pd' ∧ (∀ p, p < P → pa' p = pa p ∧ pd' p = pd p) ∧ covL N (P + 2) pa' pd' k := by
        intro v hv2
        obtain ⟨M', pa', pd', h1, h2, h3, h4, h5⟩ := ih (n + 1) (sI M 9 (upd (gI M 9) n v)) (by omega) (by omega) (mN_K (KF_9 M _) hM) (PLs_9 _ hPL) (fun w hw => by
          rw [sI_up]
          by_cases e2 : w = n
          · rw [if_pos ⟨rfl, e2⟩, e2]; exact hv2
          · rw [if_neg (fun q => e2 q.2)]; exact hpart w (by omega))
        refine ⟨M', pa', pd', ?_, KF_tr (KF_9 M _) h2, h3, h4, h5⟩
        rw [ck_t (vi_n (by omega) (by omega)), cl_n (by omega), nI_1]
        exact h1
      have hfs : q3 (nI (N.2.2.2.1 k)) = (N.2.2.2.1 k : Rat) := q3_nI (by omega)
      have nn : ∀ a, a < 4 → (nI n = nI a ↔ n = a) := fun a ha => ⟨fun e3 => by
        have := congrArg Int32.toNatClampNeg e3
        rw [cl_n (by omega), cl_n (by omega)] at this
        exact this, fun e3 => by rw [e3]⟩
      rw [f_M_linePlanes_17, if_neg (k4ge (by omega)), ck_t hv, hc, c1, c2, c3]
      unfold f_M_linePlanes_67
      by_cases q1 : n = N.2.1 k
      · rw [if_pos ((nn _ n1).mpr q1), ck_t hv]
        exact hval _ (by rw [hfs]; unfold dl; rw [if_pos q1, if_neg (by omega)]; grind)
      · rw [if_neg (fun q => q1 ((nn _ n1).mp q)), ck_t hv]
        by_cases q2 : n = N.2.2.1 k
        · rw [if_pos ((nn _ n2).mpr q2), ck_t hv]
          exact hval _ (by rw [q3_neg (K := 5) (by rw [hfs]; exact isZ_nat n5) (by omega), hfs]; unfold dl; rw [if_neg q1, if_pos q2]; grind)
        · rw [if_neg (fun q => q2 ((nn _ n2).mp q))]
          exact hval _ (by rw [q3_0]; unfold dl; rw [if_neg q1, if_neg q2]; grind)
theorem pm_lp_loop (hN : netOk N) (hm : 9 < m) : ∀ q k (M : z_S) (pa : Nat → v3) (pd : Nat → Rat), k ≤ N.1 → N.1 - k < q → mN M N → PLs M (2 * k) pa pd → (∀ i, i < k → covL N (2 * k) pa pd i) → ∃ M' pa' pd', f_M_linePlanes_7 m q (nI k) M = some ((), M') ∧ KF M M' ∧ PLs M' (2 * N.1) pa' pd' ∧ (∀ i, i < N.1 → covL N (2 * N.1) pa' pd' i) := by
  have h6 := hN.1
  intro q
  induction q with
  | zero => intro k M pa pd _ h; omega
  | succ q ih =>
    intro k M pa pd hk hq hM hPL hcov
    by_cases e : k = N.1
    · subst e
      refine ⟨M, pa, pd, ?_, KF_rf M, hPL, hcov⟩
      rw [f_M_linePlanes_7, if_pos (by rw [hM.1]; exact nI_le (by omega) (by omega))]
    · obtain ⟨X, pa1, pd1, x1, x2, x3, x4, x5⟩ := pm_lp_in (m := m) (k7 := f_M_linePlanes_7 m q) hN (show k < N.1 by omega) (show 2 * k + 2 ≤ 24 by omega) m 0 M (by omega) (by omega) hM hPL (fun w hw => by omega)
      obtain ⟨M', pa', pd', h1, h2, h3, h4⟩ := ih (k + 1) X pa1 pd1 (by omega) (by omega) (mN_K x2 hM) x3 (fun i hi => by
        by_cases e2 : i = k
        · rw [e2]; exact x5
        · obtain ⟨p, q, p1, q1, a1, a2, a3, a4⟩ := hcov i (by omega)
          exact ⟨p, q, by omega, by omega, by rw [(x4 p p1).1]; exact a1, by rw [(x4 p p1).2]; exact a2, by rw [(x4 q q1).1]; exact a3, by rw [(x4 q q1).2]; exact a4⟩)
      refine ⟨M', pa', pd', ?_, KF_tr x2 h2, h3, h4⟩
      rw [f_M_linePlanes_7, if_neg (by rw [hM.1]; exact nI_ge (by omega) (by omega)), ← h1]
      exact x1
theorem pm_linePlanes (hN : netOk N) (hm : 9 < m) {M : z_S} (hM : mN M N) : ∃ M' pa' pd', f_M_linePlanes m M = some ((), M') ∧ KF M M' ∧ PLs M' (2 * N.1) pa' pd' ∧ (∀ i, i < N.1 → covL N (2 * N.1) pa' pd' i) := by
  have hK : KF M (sF M 2 0) := ⟨fun t ht => by simp only [gs, if_neg ht], rfl, fun _ _ => rfl, fun _ _ => rfl⟩
  obtain ⟨M', pa', pd', h1, h2, h3, h4⟩ := pm_lp_loop (m := m) hN hm m 0 (sF M 2 0) (fun _ => (0, 0, 0)) (fun _ => 0) (by omega) (by have := hN.1; omega) (mN_K hK hM) ⟨by omega, rfl, fun p hp => by omega⟩ (fun i hi => by omega)
  exact ⟨M', pa', pd', h1, KF_tr hK h2, h3, h4⟩
theorem pm_offered_loop (hB : bkOk B) {M : z_S} (hM : mB M B) {v : Nat} (hv : v < 4) : ∀ q k (acc : Int64), k ≤ B.1 → B.1 - k < q → q6 acc = sm k (fun k => if B.2.1 k = v then (if B.2.2.1 k = 1 then 0 else B.2.2.2.2 k) else 0) → ∃ r, f_M_offered_5 m q (nI v) acc (nI k) M = some (r, M) ∧ q6 r = offd B v := by
  have h88 := hB.1
  intro q
  induction q with
  | zero => intro k acc _ h; omega
  | succ q ih =>
    intro k acc hk hq hacc
    by_cases e : k = B.1
    · refine ⟨acc, ?_, by rw [hacc, e]; rfl⟩
      rw [f_M_offered_5, if_pos (by rw [hM.1]; exact nI_le (by omega) (by omega))]
    · have hks : k < B.1 := by omega
      obtain ⟨b1, b2, b3, b4⟩ := hM.2 k hks
      obtain ⟨d1, d2, d3, d4, d5⟩ := hB.2 k hks
      have hvk : vi (nI k) 8 = true := vi_n (by omega) (by omega)
      have hck : (nI k).toNatClampNeg = k := cl_n (by omega)
      have nn : nI (B.2.1 k) = nI v ↔ B.2.1 k = v := ⟨fun e3 => by
        have := congrArg Int32.toNatClampNeg e3
        rw [cl_n (by omega), cl_n (by omega)] at this
        exact this, fun e3 => by rw [e3]⟩
      have hs : ∀ f : Nat → Rat, sm (k + 1) f = sm k f + f k := fun _ => rfl
      have fin : ∀ acc' : Int64, q6 acc' = sm k (fun k => if B.2.1 k = v then (if B.2.2.1 k = 1 then 0 else B.2.2.2.2 k) else 0) + (if B.2.1 k = v then (if B.2.2.1 k = 1 then 0 else B.2.2.2.2 k) else 0) → ∃ r, f_M_offered_5 m q (nI v) acc' (nI k + 1) M = some (r, M) ∧ q6 r = offd B v := fun acc' ha => by
        obtain ⟨r, r1, r2⟩ := ih (k + 1) acc' (by omega) (by omega) (by rw [hs]; exact ha)
        exact ⟨r, by rw [nI_1]; exact r1, r2⟩
      rw [f_M_offered_5, if_neg (by rw [hM.1]; exact nI_ge hks (by omega)), ck_t hvk, hck, b2]
      unfold f_M_offered_48 f_M_offered_49
      by_cases q1 : B.2.1 k = v
      · rw [if_pos (nn.mpr q1), ck_t hvk]
        rcases b1 with ⟨x1, x2⟩ | ⟨x1, x2⟩
        · rw [x1, if_neg (by decide)]
          exact fin _ (by rw [if_pos q1, if_pos x2, hacc]; grind)
        · rw [x1, if_pos rfl, ck_t hvk]
          refine fin _ ?_
          have hz : isZ (sm k (fun k => if B.2.1 k = v then (if B.2.2.1 k = 1 then 0 else B.2.2.2.2 k) else 0)) 24000 := isZ_mono (isZ_sm (K := 3000) (fun j hj => by
            by_cases a : B.2.1 j = v
            · rw [if_pos a]
              by_cases b : B.2.2.1 j = 1
              · rw [if_pos b]; exact isZ_0 _
              · rw [if_neg b]; exact (hB.2 j (by omega)).2.2.2.1
            · rw [if_neg a]; exact isZ_0 _)) (by omega)
          rw [if_pos q1, if_neg (by rw [x2]; decide), q6_add (K := 24000 + 3000) (by rw [hacc, q6_i, b4]; exact isZ_add hz d4) (by omega), hacc, q6_i, b4]
      · rw [if_neg (fun q => q1 (nn.mp q))]
        exact fin _ (by rw [if_neg q1, hacc]; grind)
theorem pm_offered (hB : bkOk B) (hm : 9 < m) {M : z_S} (hM : mB M B) {v : Nat} (hv : v < 4) : ∃ r, f_M_offered m (nI v) M = some (r, M) ∧ q6 r = offd B v := pm_offered_loop (m := m) hB hM hv m 0 0 (by omega) (by have := hB.1; omega) rfl
theorem offd_Z (hB : bkOk B) (v : Nat) : isZ (offd B v) 24000 := isZ_mono (isZ_sm (K := 3000) (fun j hj => by
  by_cases a : B.2.1 j = v
  · rw [if_pos a]
    by_cases b : B.2.2.1 j = 1
    · rw [if_pos b]; exact isZ_0 _
    · rw [if_neg b]; exact (hB.2 j hj).2.2.2.1
  · rw [if_neg a]; exact isZ_0 _)) (by have := hB.1; omega)
theorem edge_Z (hB : bkOk B) {g : Nat} {tu : Nat → Nat} (ht : isTurn B tu) (v : Nat) {t : Nat} (h : t ≤ B.1) : isZ (edge B g tu v t) 50000 := by
  have h1 : isZ (if v = g then (1 : Rat) else 0) 1 := by
    by_cases q : v = g
    · rw [if_pos q]; exact ⟨1, rfl, by omega, by omega⟩
    · rw [if_neg q]; exact isZ_0 _
  have h2 : isZ (sm t (fun i => if B.2.1 (tu i) = v then B.2.2.2.2 (tu i) else 0)) 24000 := isZ_mono (isZ_sm (K := 3000) (fun j hj => by
    by_cases a : B.2.1 (tu j) = v
    · rw [if_pos a]; exact (hB.2 _ (ht.1 j (by omega))).2.2.2.1
    · rw [if_neg a]; exact isZ_0 _)) (by have := hB.1; omega)
  exact isZ_mono (isZ_add (isZ_sub h1 (offd_Z hB v)) h2) (by omega)
end PLANES
