/-! the reference's greedy use of a node, of all nodes -/
def F5 (M M' : z_S) : Prop := gF M' = gF M ∧ gG M' = gG M ∧ gI M' = gI M ∧ ∀ t, t ≠ 5 → gJ M' t = gJ M t
theorem F5_tr {M M' M'' : z_S} (h : F5 M M') (h' : F5 M' M'') : F5 M M'' := ⟨h'.1.trans h.1, h'.2.1.trans h.2.1, h'.2.2.1.trans h.2.2.1, fun t a => (h'.2.2.2 t a).trans (h.2.2.2 t a)⟩
theorem F5_rf (M : z_S) : F5 M M := ⟨rfl, rfl, rfl, fun _ _ => rfl⟩
theorem F5_SF {M M' : z_S} (h : F5 M M') : SF M M' := ⟨h.1, fun k _ _ => by rw [h.2.1], h.2.2.1, fun t _ b => h.2.2.2 t b⟩
def xv (B : Bk) (k : Nat) (z : Rat) : Rat := if B.2.2.1 k = 1 then z else B.2.2.2.2 k - z
theorem q6_sub_nn {x y : Int64} (h1 : 0 ≤ q6 y) (h2 : q6 y ≤ q6 x) : q6 (x - y) = q6 x - q6 y := by
  have a1 : 0 ≤ y.toInt := by have : ((0 : Int) : Rat) ≤ (y.toInt : Rat) := h1; exact Rat.intCast_le_intCast.mp this
  have a2 : y.toInt ≤ x.toInt := Rat.intCast_le_intCast.mp h2
  have a3 := x.toInt_lt
  refine q6_sub (K := 2 ^ 63 - 1) ⟨x.toInt - y.toInt, by unfold q6; rw [Rat.intCast_sub], by omega, by omega⟩ (by omega)
theorem isZ_q6_bd {x : Int64} {K : Nat} (h1 : 0 ≤ q6 x) (h2 : q6 x ≤ (K : Rat)) : isZ (q6 x) K := by
  have a1 : 0 ≤ x.toInt := by have : ((0 : Int) : Rat) ≤ (x.toInt : Rat) := h1; exact Rat.intCast_le_intCast.mp this
  have a2 : x.toInt ≤ (K : Int) := Rat.intCast_le_intCast.mp h2
  exact ⟨x.toInt, rfl, by omega, a2⟩
section USE
variable {N : Net} {B : Bk} {m g : Nat} {tu : Nat → Nat} {M : z_S} {b : Rat} {h : v3}
theorem HT_S5 {M' : z_S} (hf : F5 M M') (hH : HT M b h) : HT M' b h := ⟨by rw [hf.2.1]; exact hH.1, by rw [hf.2.2.2 4 (by omega)]; exact hH.2⟩
theorem pm_use_loop (hB : bkOk B) (ht : isTurn B tu) {v : Nat} (hv : v < 4) {p : Rat} (hp : 0 ≤ p) (hb : 0 < b) (hbz : isZ b 20250) : ∀ q t (M : z_S) (x : Int64), t ≤ B.1 → B.1 - t < q → mB M B → mT M B tu → q6 (gG M 0) = b → q6 x = b * rsq B tu v p t → ∃ M' r, f_M_use_32 m q (nI v) x (nI t) M = some (r, M') ∧ F5 M M' ∧ ((r = 1 ∧ rsq B tu v p B.1 = 0) ∨ (r = 0 ∧ rsq B tu v p B.1 ≠ 0)) ∧ (∀ i, t ≤ i → i < B.1 → B.2.1 (tu i) = v → q6 (gJ M' 5 (tu i)) = b * xv B (tu i) (mn (rsq B tu v p i) (B.2.2.2.2 (tu i)))) ∧ (∀ k, (B.2.1 k ≠ v ∨ ∃ i, i < t ∧ tu i = k) → gJ M' 5 k = gJ M 5 k) := by
  have h88 := hB.1
  intro q
  induction q with
  | zero => intro t M x _ h; omega
  | succ q ih =>
    intro t M x hts hq hM hT hG hx
    by_cases e : t = B.1
    · subst e
      rw [f_M_use_32, if_pos (by rw [hM.1]; exact nI_le (by omega) (by omega))]
      unfold f_M_use_145
      by_cases q1 : rsq B tu v p B.1 = 0
      · rw [if_pos (q6_inj.mp (by rw [hx, q1, q6_0]; grind)), ck_t vz_1]
        exact ⟨M, 1, rfl, F5_rf M, Or.inl ⟨rfl, q1⟩, fun i a c => by omega, fun _ _ => rfl⟩
      · rw [if_neg (fun e => q1 (by
          have : b * rsq B tu v p B.1 = 0 := by rw [← hx, e]; rfl
          exact (Rat.mul_eq_zero.mp this).resolve_left (by grind))), ck_t vz_0]
        exact ⟨M, 0, rfl, F5_rf M, Or.inr ⟨rfl, q1⟩, fun i a c => by omega, fun _ _ => rfl⟩
    · have hlt : t < B.1 := by omega
      have htu := ht.1 t hlt
      obtain ⟨b1, b2, b3, b4⟩ := hM.2 _ htu
      obtain ⟨d1, d2, d3, d4, d5⟩ := hB.2 _ htu
      have hvt : vi (nI t) 8 = true := vi_n (by omega) (by omega)
      have hct : (nI t).toNatClampNeg = t := cl_n (by omega)
      have hvu : vi (nI (tu t)) 8 = true := vi_n (by omega) (by omega)
      have hcu : (nI (tu t)).toNatClampNeg = tu t := cl_n (by omega)
      have hrn := rsq_nn (v := v) hB ht hp t (by omega)
      rw [f_M_use_32, if_neg (by rw [hM.1]; exact nI_ge hlt (by omega)), ck_t hvt, hct, hT t hlt, ck_t hvu, hcu, b2]
      by_cases q1 : B.2.1 (tu t) = v
      · have hw : q6 ((gI M 7 (tu t)).toInt64 * gG M 0) = b * B.2.2.2.2 (tu t) := by
          rw [q6_mul (K := 3000 * 20250) (by rw [q6_i, b4, hG]; exact isZ_mul d4 hbz) (by omega), q6_i, b4, hG]; grind
        have hle : ((gI M 7 (tu t)).toInt64 * gG M 0) ≤ x ↔ ¬ rsq B tu v p t < B.2.2.2.2 (tu t) := by
          rw [q6_le, hw, hx]
          constructor
          · intro hl hlt'
            have := Rat.mul_pos hb (by grind : 0 < B.2.2.2.2 (tu t) - rsq B tu v p t); grind
          · intro hl
            have := Rat.mul_nonneg (by grind : 0 ≤ b) (by grind : 0 ≤ rsq B tu v p t - B.2.2.2.2 (tu t)); grind
        have hnext : rsq B tu v p (t + 1) = rsq B tu v p t - mn (rsq B tu v p t) (B.2.2.2.2 (tu t)) := by rw [rsq, if_pos q1]
        have go : ∀ s : Int64, q6 s = b * mn (rsq B tu v p t) (B.2.2.2.2 (tu t)) → ∃ M' r, f_M_use_91 m (f_M_use_32 m q) (nI v) x (nI t) (nI (tu t)) ((gI M 7 (tu t)).toInt64 * gG M 0) s M = some (r, M') ∧ F5 M M' ∧ ((r = 1 ∧ rsq B tu v p B.1 = 0) ∨ (r = 0 ∧ rsq B tu v p B.1 ≠ 0)) ∧ (∀ i, t ≤ i → i < B.1 → B.2.1 (tu i) = v → q6 (gJ M' 5 (tu i)) = b * xv B (tu i) (mn (rsq B tu v p i) (B.2.2.2.2 (tu i)))) ∧ (∀ k, (B.2.1 k ≠ v ∨ ∃ i, i < t ∧ tu i = k) → gJ M' 5 k = gJ M 5 k) := by
          intro s hs
          have hmn := mn_nn hrn d5
          have hm1 := mn_le1 (rsq B tu v p t) (B.2.2.2.2 (tu t))
          have hm2 := mn_le2 (rsq B tu v p t) (B.2.2.2.2 (tu t))
          have s0 : 0 ≤ q6 s := by rw [hs]; exact Rat.mul_nonneg (by grind) hmn
          have s1 : q6 s ≤ q6 x := by
            rw [hs, hx]; have := Rat.mul_nonneg (by grind : 0 ≤ b) (by grind : 0 ≤ rsq B tu v p t - mn (rsq B tu v p t) (B.2.2.2.2 (tu t))); grind
          have s2 : q6 s ≤ q6 ((gI M 7 (tu t)).toInt64 * gG M 0) := by
            rw [hs, hw]; have := Rat.mul_nonneg (by grind : 0 ≤ b) (by grind : 0 ≤ B.2.2.2.2 (tu t) - mn (rsq B tu v p t) (B.2.2.2.2 (tu t))); grind
          have hxs : q6 (x - s) = b * rsq B tu v p (t + 1) := by rw [q6_sub_nn s0 s1, hx, hs, hnext]; grind
          have fin : ∀ a : Int64, q6 a = b * xv B (tu t) (mn (rsq B tu v p t) (B.2.2.2.2 (tu t))) → ∃ M' r, f_M_use_126 m (f_M_use_32 m q) (nI v) (x - s) (nI t) (nI (tu t)) a M = some (r, M') ∧ F5 M M' ∧ ((r = 1 ∧ rsq B tu v p B.1 = 0) ∨ (r = 0 ∧ rsq B tu v p B.1 ≠ 0)) ∧ (∀ i, t ≤ i → i < B.1 → B.2.1 (tu i) = v → q6 (gJ M' 5 (tu i)) = b * xv B (tu i) (mn (rsq B tu v p i) (B.2.2.2.2 (tu i)))) ∧ (∀ k, (B.2.1 k ≠ v ∨ ∃ i, i < t ∧ tu i = k) → gJ M' 5 k = gJ M 5 k) := by
            intro a ha
            have hX : ∃ X, X = sJ M 5 (vp_updL (gJ M 5) (tu t) a) := ⟨_, rfl⟩
            obtain ⟨X, hX⟩ := hX
            have hF : F5 M X := by rw [hX]; exact ⟨rfl, rfl, rfl, fun t a => by rw [sJ_at, if_neg a]⟩
            have hat : ∀ k, gJ X 5 k = if k = tu t then a else gJ M 5 k := fun k => by
              rw [hX, sJ_up]
              by_cases c : k = tu t
              · rw [if_pos ⟨rfl, c⟩, if_pos c]
              · rw [if_neg (fun q => c q.2), if_neg c]
            obtain ⟨M', r, z1, z2, z3, z4, z5⟩ := ih (t + 1) X (x - s) (by omega) (by omega) (mB_S (F5_SF hF) hM) (mT_S (F5_SF hF) hT) (by rw [hF.2.1]; exact hG) hxs
            refine ⟨M', r, ?_, F5_tr hF z2, z3, fun i i1 i2 i3 => ?_, fun k hk => ?_⟩
            · unfold f_M_use_126 f_M_use_127
              rw [ck_t hvu, hcu, ← hX, nI_1]
              exact z1
            · by_cases e2 : i = t
              · rw [e2, z5 (tu t) (Or.inr ⟨t, by omega, rfl⟩), hat, if_pos rfl]; exact ha
              · exact z4 i (by omega) i2 i3
            · have hne : k ≠ tu t := by
                rcases hk with hk | ⟨i, i1, i2⟩
                · intro c; rw [c] at hk; exact hk q1
                · intro c; have := turn_inj ht (by omega) hlt (i2.trans c); omega
              rw [z5 k (by rcases hk with hk | ⟨i, i1, i2⟩; exact Or.inl hk; exact Or.inr ⟨i, by omega, i2⟩), hat, if_neg hne]
          unfold f_M_use_91
          rw [ck_t hvu, hcu]
          rcases b1 with ⟨x1, x2⟩ | ⟨x1, x2⟩
          · rw [x1, if_neg (by decide)]
            exact fin s (by unfold xv; rw [if_pos x2]; exact hs)
          · rw [x1, if_pos rfl]
            exact fin _ (by unfold xv; rw [if_neg (by rw [x2]; decide), q6_sub_nn s0 s2, hw, hs]; grind)
        rw [if_pos (by rw [q1]), ck_t hvu]
        unfold f_M_use_76
        by_cases q2 : rsq B tu v p t < B.2.2.2.2 (tu t)
        · rw [if_neg (fun c => hle.mp c q2)]
          exact go x (by unfold mn; rw [if_pos q2]; exact hx)
        · rw [if_pos (hle.mpr q2)]
          exact go _ (by unfold mn; rw [if_neg q2]; exact hw)
      · rw [if_neg (fun q => q1 ((nI_iff (by omega) (by omega)).mp q))]
        unfold f_M_use_127
        rw [nI_1]
        have hnext : rsq B tu v p (t + 1) = rsq B tu v p t := by rw [rsq, if_neg q1]
        obtain ⟨M', r, z1, z2, z3, z4, z5⟩ := ih (t + 1) M x (by omega) (by omega) hM hT hG (by rw [hnext]; exact hx)
        refine ⟨M', r, z1, z2, z3, fun i i1 i2 i3 => ?_, fun k hk => z5 k (by rcases hk with hk | ⟨i, i1, i2⟩; exact Or.inl hk; exact Or.inr ⟨i, by omega, i2⟩)⟩
        by_cases e2 : i = t
        · rw [e2] at i3; exact (q1 i3).elim
        · exact z4 i (by omega) i2 i3
/-- the numbers of node v are used up -/
def usedV (N : Net) (B : Bk) (g : Nat) (tu : Nat → Nat) (h : v3) (b : Rat) (M : z_S) (v : Nat) : Prop := 0 ≤ rst0 N B g h v ∧ rsq B tu v (rst0 N B g h v) B.1 = 0 ∧ ∀ t, t < B.1 → B.2.1 (tu t) = v → q6 (gJ M 5 (tu t)) = b * xv B (tu t) (mn (rsq B tu v (rst0 N B g h v) t) (B.2.2.2.2 (tu t)))
theorem pm_use (hN : netOk N) (hB : bkOk B) (ht : isTurn B tu) (hm : 9 < m) (hM : mN M N) (hMB : mB M B) (hT : mT M B tu) (hH : HT M b h) {v : Nat} (hv : v < 4) {x2 : Int64} (hx2 : q6 x2 = b * (if v = g then 1 else 0)) : ∃ M' r, f_M_use m (nI v) x2 M = some (r, M') ∧ F5 M M' ∧ ((r = 1 ∧ usedV N B g tu h b M' v) ∨ (r = 0 ∧ ¬ (0 ≤ rst0 N B g h v ∧ rsq B tu v (rst0 N B g h v) B.1 = 0))) ∧ (∀ k, B.2.1 k ≠ v → gJ M' 5 k = gJ M 5 k) := by
  obtain ⟨y, y1, y2⟩ := pm_brought (m := m) hN hm hM hH hv
  obtain ⟨o, o1, o2⟩ := pm_offered (m := m) hB hm hMB hv
  have hyz : isZ (b * dot (npl (LN N) v) h) (6 * 675000000) := by
    rw [npl_sum hN, ← sm_mul]
    refine isZ_mono (isZ_sm (K := 675000000) (fun j hj => ?_)) (by have := hN.1; omega)
    have hj := flow_Z hN hH hj
    by_cases a : N.2.2.1 j = v
    · rw [if_pos a]; exact hj
    · rw [if_neg a]
      by_cases a' : N.2.1 j = v
      · rw [if_pos a', show b * - dot (lpl N j) h = - (b * dot (lpl N j) h) by grind]; exact isZ_neg hj
      · rw [if_neg a', show b * 0 = 0 by grind]; exact isZ_0 _
  have h' := hH
  obtain ⟨⟨b1, b2, b3⟩, -⟩ := h'
  have hmz : isZ (b * (if v = g then 1 else 0)) 20250 := by
    by_cases c : v = g
    · rw [if_pos c, show b * 1 = b by grind]; exact b3
    · rw [if_neg c, show b * 0 = 0 by grind]; exact isZ_0 _
  have e1 : q6 (y - x2) = b * dot (npl (LN N) v) h - b * (if v = g then 1 else 0) := by
    rw [q6_sub (by rw [y2, hx2]; exact isZ_sub hyz hmz) (by omega), y2, hx2]
  have e2 : q6 (o * gG M 0) = offd B v * b := by
    rw [q6_mul (by rw [o2, b1]; exact isZ_mul (offd_Z hB v) b3) (by omega), o2, b1]
  have e3 : q6 (y - x2 + o * gG M 0) = b * rst0 N B g h v := by
    rw [q6_add (by rw [e1, e2]; exact isZ_add (isZ_sub hyz hmz) (isZ_mul (offd_Z hB v) b3)) (by omega), e1, e2]
    unfold rst0; grind
  unfold f_M_use
  rw [bo_s y1, bo_s o1]
  by_cases q1 : 0 ≤ rst0 N B g h v
  · rw [if_pos (by rw [q6_le, e3, q6_0]; exact Rat.mul_nonneg (by grind) q1)]
    obtain ⟨M', r, z1, z2, z3, z4, z5⟩ := pm_use_loop (m := m) hB ht hv q1 b2 b3 m 0 M _ (by omega) (by have := hB.1; omega) hMB hT b1 e3
    refine ⟨M', r, z1, z2, ?_, fun k hk => z5 k (Or.inl hk)⟩
    rcases z3 with ⟨r1, r2⟩ | ⟨r1, r2⟩
    · exact Or.inl ⟨r1, q1, r2, fun t a c => z4 t (by omega) a c⟩
    · exact Or.inr ⟨r1, fun c => r2 c.2⟩
  · rw [if_neg (by rw [q6_le, e3, q6_0]; intro c; have := Rat.mul_pos b2 (by grind : 0 < - rst0 N B g h v); grind)]
    exact ⟨M, 0, rfl, F5_rf M, Or.inr ⟨rfl, fun c => q1 c.1⟩, fun _ _ => rfl⟩
theorem pm_gain_loop (hB : bkOk B) {x : Nat → Rat} (hb : 0 < b) (hbz : isZ b 20250) (hx : ∀ j, j < B.1 → 0 ≤ x j ∧ x j ≤ B.2.2.2.2 j) : ∀ q k (M : z_S), k ≤ B.1 → B.1 - k < q → mB M B → (∀ j, j < B.1 → q6 (gJ M 5 j) = b * x j) → q6 (gG M 1) = b * sm k (fun j => B.2.2.1 j * B.2.2.2.1 j * x j) → ∃ v, f_M_useAll_43 m q (nI k) M = some (1, sG M 1 v) ∧ q6 v = b * wl B x := by
  have h88 := hB.1
  intro q
  induction q with
  | zero => intro k M _ h; omega
  | succ q ih =>
    intro k M hk hq hM hA hG
    by_cases e : k = B.1
    · refine ⟨gG M 1, ?_, by rw [hG, e]; rfl⟩
      rw [f_M_useAll_43, if_pos (by rw [hM.1]; exact nI_le (by omega) (by omega))]
      congr 2
      have : sG M 1 (gG M 1) = M := by
        show (M.1, zu M.2.1 1 (M.2.1 1), M.2.2.1, M.2.2.2) = M
        have : zu M.2.1 1 (M.2.1 1) = M.2.1 := by funext j; unfold zu; by_cases c : j = 1; rw [if_pos c, c]; rw [if_neg c]
        rw [this]
      exact this.symm
    · have hks : k < B.1 := by omega
      obtain ⟨b1, b2, b3, b4⟩ := hM.2 k hks
      obtain ⟨d1, d2, d3, d4, d5⟩ := hB.2 k hks
      have hvk : vi (nI k) 8 = true := vi_n (by omega) (by omega)
      have hck : (nI k).toNatClampNeg = k := cl_n (by omega)
      have hbx : ∀ j, j < B.1 → isZ (b * x j) 60750000 := fun j hj => by
        rw [← hA j hj]
        refine isZ_q6_bd (by rw [hA j hj]; exact Rat.mul_nonneg (by grind) (hx j hj).1) ?_
        rw [hA j hj]
        obtain ⟨zq, e1, e2, e3⟩ := isZ_mul hbz (hB.2 j hj).2.2.2.1
        have h1 := Rat.mul_nonneg (by grind : 0 ≤ b) (by have := (hx j hj).2; grind : 0 ≤ B.2.2.2.2 j - x j)
        have h2 : ((zq : Int) : Rat) ≤ ((60750000 : Nat) : Rat) := by
          have : ((zq : Int) : Rat) ≤ (((60750000 : Nat) : Int) : Rat) := Rat.intCast_le_intCast.mpr (by omega)
          exact this
        rw [← e1] at h2
        grind
      have hpz := isZ_mul d3 (hbx k hks)
      have e1 : q6 ((gI M 6 k).toInt64 * gJ M 5 k) = B.2.2.2.1 k * (b * x k) := by
        rw [q6_mul (by rw [q6_i, b3, hA k hks]; exact hpz) (by omega), q6_i, b3, hA k hks]
      have hgz : isZ (q6 (gG M 1)) (8 * (2000 * 60750000)) := by
        rw [hG, ← sm_mul]
        refine isZ_mono (isZ_sm (K := 2000 * 60750000) (fun j hj => ?_)) (by have : k * (2000 * 60750000) ≤ 8 * (2000 * 60750000) := Nat.mul_le_mul_right _ (by omega); exact this)
        have dj := hB.2 j (by omega)
        rw [show b * (B.2.2.1 j * B.2.2.2.1 j * x j) = B.2.2.1 j * (B.2.2.2.1 j * (b * x j)) by grind]
        exact isZ_pm dj.2.1 (isZ_mul dj.2.2.1 (hbx j (by omega)))
      have hs : b * sm (k + 1) (fun j => B.2.2.1 j * B.2.2.2.1 j * x j) = b * sm k (fun j => B.2.2.1 j * B.2.2.2.1 j * x j) + b * (B.2.2.1 k * B.2.2.2.1 k * x k) := by show b * (sm k _ + _) = _; grind
      have go : ∀ v : Int64, q6 v = b * sm (k + 1) (fun j => B.2.2.1 j * B.2.2.2.1 j * x j) → ∃ w, f_M_useAll_102 m (f_M_useAll_43 m q) (nI k) v M = some (1, sG M 1 w) ∧ q6 w = b * wl B x := by
        intro v hv
        obtain ⟨w, w1, w2⟩ := ih (k + 1) (sG M 1 v) (by omega) (by omega) hM hA (by simp only [gs, reduceIte]; exact hv)
        refine ⟨w, ?_, w2⟩
        unfold f_M_useAll_102
        rw [nI_1, w1]
        congr 2
        show (M.1, zu (zu M.2.1 1 v) 1 w, M.2.2.1, M.2.2.2) = (M.1, zu M.2.1 1 w, M.2.2.1, M.2.2.2)
        have : zu (zu M.2.1 1 v) 1 w = zu M.2.1 1 w := by funext j; unfold zu; by_cases c : j = 1; rw [if_pos c, if_pos c]; rw [if_neg c, if_neg c, if_neg c]
        rw [this]
      rw [f_M_useAll_43, if_neg (by rw [hM.1]; exact nI_ge hks (by omega)), ck_t hvk, hck]
      rcases b1 with ⟨x1, x2⟩ | ⟨x1, x2⟩
      · rw [x1, if_neg (by decide), ck_t hvk, ck_t hvk]
        exact go _ (by rw [hs, q6_add (by rw [e1]; exact isZ_add hgz hpz) (by omega), e1, hG, x2]; grind)
      · rw [x1, if_pos rfl, ck_t hvk, ck_t hvk]
        exact go _ (by rw [hs, q6_sub (by rw [e1]; exact isZ_sub hgz hpz) (by omega), e1, hG, x2]; grind)
/-- all nodes: the greedy dispatch at these heights, or none -/
theorem pm_useAll_loop (hN : netOk N) (hB : bkOk B) (ht : isTurn B tu) (hm : 9 < m) {x1 : Int32} (hx1 : more0 x1 g) (hl : linesOk N h) : ∀ q v (M : z_S), v ≤ 4 → 4 - v < q → mN M N → mB M B → mT M B tu → HT M b h → (∀ u, u < v → usedV N B g tu h b M u) → ∃ M' r, f_M_useAll_2 m q x1 (nI v) M = some (r, M') ∧ SF M M' ∧ HT M' b h ∧ ((r = 1 ∧ ∃ x, cand N B g tu h x ∧ (∀ j, j < B.1 → q6 (gJ M' 5 j) = b * x j) ∧ q6 (gG M' 1) = b * wl B x) ∨ (r = 0 ∧ ¬ ∃ x, cand N B g tu h x)) := by
  intro q
  induction q with
  | zero => intro v M _ h; omega
  | succ q ih =>
    intro v M hv hq hM hMB hT hH hU
    by_cases e : v = 4
    · subst e
      rw [f_M_useAll_2, if_pos (by decide)]
      have h' := hH
      obtain ⟨⟨b1, b2, b3⟩, -⟩ := h'
      have hX : ∃ x : Nat → Rat, ∀ j, x j = q6 (gJ M 5 j) / b := ⟨fun j => q6 (gJ M 5 j) / b, fun _ => rfl⟩
      obtain ⟨x, hX⟩ := hX
      have hbx : ∀ j, q6 (gJ M 5 j) = b * x j := fun j => by rw [hX]; grind
      have hc : cand N B g tu h x := ⟨hl, fun v hv => by
        obtain ⟨u1, u2, u3⟩ := hU v hv
        refine ⟨u1, u2, fun t h1 h2 => ?_⟩
        have e1 := u3 t h1 h2
        rw [hbx] at e1
        have e2 : x (tu t) = xv B (tu t) (mn (rsq B tu v (rst0 N B g h v) t) (B.2.2.2.2 (tu t))) := by grind
        unfold zz
        unfold xv at e2
        by_cases c : B.2.2.1 (tu t) = 1
        · rw [if_pos c] at e2 ⊢; exact e2
        · rw [if_neg c] at e2 ⊢; rw [e2]; grind⟩
      have hF := cand_FS hB ht hc
      obtain ⟨w, w1, w2⟩ := pm_gain_loop (m := m) hB b2 b3 hF.1 m 0 (sG M 1 0) (by omega) (by have := hB.1; omega) hMB (fun j _ => hbx j) (by show (0 : Rat) = b * 0; grind)
      refine ⟨_, 1, w1, ⟨rfl, fun k a c => by simp only [gs, if_neg c], rfl, fun _ _ _ => rfl⟩, ⟨by simp only [gs, Nat.reduceEqDiff, reduceIte]; exact ⟨b1, b2, b3⟩, hH.2⟩, Or.inl ⟨rfl, x, hc, fun j _ => hbx j, by simp only [gs, reduceIte]; exact w2⟩⟩
    · have go : ∀ x2 : Int64, q6 x2 = b * (if v = g then 1 else 0) → ∃ M' r, f_M_useAll_22 m (f_M_useAll_2 m q) x1 (nI v) (nI v) x2 M = some (r, M') ∧ SF M M' ∧ HT M' b h ∧ ((r = 1 ∧ ∃ x, cand N B g tu h x ∧ (∀ j, j < B.1 → q6 (gJ M' 5 j) = b * x j) ∧ q6 (gG M' 1) = b * wl B x) ∨ (r = 0 ∧ ¬ ∃ x, cand N B g tu h x)) := by
        intro x2 hx2
        obtain ⟨X, r, y1, y2, y3, y4⟩ := pm_use (m := m) (g := g) hN hB ht hm hM hMB hT hH (show v < 4 by omega) hx2
        unfold f_M_useAll_22
        rw [bo_s y1]
        rcases y3 with ⟨r1, y3⟩ | ⟨r1, y3⟩
        · rw [r1, if_neg (by decide), nI_1]
          obtain ⟨M', r', z1, z2, z3, z4⟩ := ih (v + 1) X (by omega) (by omega) (mN_S (F5_SF y2) hM) (mB_S (F5_SF y2) hMB) (mT_S (F5_SF y2) hT) (HT_S5 y2 hH) (fun u hu => by
            by_cases e2 : u = v
            · rw [e2]; exact y3
            · obtain ⟨u1, u2, u3⟩ := hU u (by omega)
              exact ⟨u1, u2, fun t a c => by rw [y4 _ (by omega)]; exact u3 t a c⟩)
          exact ⟨M', r', z1, SF_tr (F5_SF y2) z2, z3, z4⟩
        · rw [r1, if_pos rfl]
          refine ⟨X, 0, rfl, F5_SF y2, HT_S5 y2 hH, Or.inr ⟨rfl, fun ⟨x, hx⟩ => ?_⟩⟩
          obtain ⟨c1, c2, -⟩ := hx.2 v (by omega)
          exact y3 ⟨c1, c2⟩
      rw [f_M_useAll_2, if_neg (k4ge (by omega))]
      by_cases q1 : v = g
      · rw [if_pos ((hx1 v (by omega)).mpr q1)]
        exact go _ (by rw [if_pos q1, hH.1.1]; grind)
      · rw [if_neg (fun c => q1 ((hx1 v (by omega)).mp c))]
        exact go 0 (by rw [if_neg q1, q6_0]; grind)
end USE
