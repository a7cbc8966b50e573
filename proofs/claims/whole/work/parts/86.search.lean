/-! the reference's search: the best of all meeting points -/
def BSt (M : z_S) (B : Bk) (b : Rat) (h : v3) (x : Nat → Rat) : Prop := (q6 (gG M 2) = b ∧ 0 < b ∧ isZ b 20250) ∧ q6 (gG M 3) = b * wl B x ∧ (∀ k, k < B.1 → q6 (gJ M 7 k) = b * x k) ∧ ∀ w, w < 4 → q6 (gJ M 6 w) = b * hc h w ∧ isZ (b * hc h w) 67500000
def onP3 (pa : Nat → v3) (pd : Nat → Rat) (p q s : Nat) (h : v3) : Prop := det3 (pa p) (pa q) (pa s) ≠ 0 ∧ dot (pa p) h = pd p ∧ dot (pa q) h = pd q ∧ dot (pa s) h = pd s
def BI (N : Net) (B : Bk) (g : Nat) (tu : Nat → Nat) (pa : Nat → v3) (pd : Nat → Rat) (Q : Nat → Nat → Nat → Prop) (M : z_S) : Prop := (gF M 3 = 0 ∧ ∀ p q s, Q p q s → ∀ h x, onP3 pa pd p q s h → ¬ cand N B g tu h x) ∨ (gF M 3 = 1 ∧ ∃ b h' x', BSt M B b h' x' ∧ cand N B g tu h' x' ∧ ∀ p q s, Q p q s → ∀ h x, onP3 pa pd p q s h → cand N B g tu h x → lexle (aims B) (oy B x) (oy B x'))
def GF (M M' : z_S) : Prop := (∀ t, t ≠ 3 → gF M' t = gF M t) ∧ (∀ k, 4 ≤ k → gG M' k = gG M k) ∧ gI M' = gI M ∧ ∀ t, (t < 4 ∨ 8 ≤ t) → gJ M' t = gJ M t
theorem GF_tr {M M' M'' : z_S} (h : GF M M') (h' : GF M' M'') : GF M M'' := ⟨fun t a => (h'.1 t a).trans (h.1 t a), fun k a => (h'.2.1 k a).trans (h.2.1 k a), h'.2.2.1.trans h.2.2.1, fun t a => (h'.2.2.2 t a).trans (h.2.2.2 t a)⟩
theorem GF_rf (M : z_S) : GF M M := ⟨fun _ _ => rfl, fun _ _ => rfl, rfl, fun _ _ => rfl⟩
theorem SF_GF {M M' : z_S} (h : SF M M') : GF M M' := ⟨fun t _ => by rw [h.1], fun k a => h.2.1 k (by omega) (by omega), h.2.2.1, fun t a => h.2.2.2 t (by omega) (by omega)⟩
section SEARCH
variable {N : Net} {B : Bk} {m g P : Nat} {tu : Nat → Nat} {pa : Nat → v3} {pd : Nat → Rat} {M : z_S} {b b' : Rat} {h h' : v3} {x x' : Nat → Rat}
theorem PLs_G {M' : z_S} (h : GF M M') (hP : PLs M P pa pd) : PLs M' P pa pd := ⟨hP.1, by rw [h.1 2 (by omega)]; exact hP.2.1, by rw [h.2.2.2 0 (by omega), h.2.2.2 1 (by omega), h.2.2.2 2 (by omega), h.2.2.2 3 (by omega)]; exact hP.2.2⟩
theorem mN_G {M' : z_S} (h : GF M M') (hM : mN M N) : mN M' N := ⟨by rw [h.1 0 (by omega)]; exact hM.1, by rw [h.2.2.1]; exact hM.2⟩
theorem mB_G {M' : z_S} (h : GF M M') (hM : mB M B) : mB M' B := ⟨by rw [h.1 1 (by omega)]; exact hM.1, by rw [h.2.2.1]; exact hM.2⟩
theorem mT_G {M' : z_S} (h : GF M M') (hM : mT M B tu) : mT M' B tu := by unfold mT; rw [h.2.2.1]; exact hM
theorem BSt_S {M' : z_S} (h1 : SF M M') (hB : BSt M B b h x) : BSt M' B b h x := by
  obtain ⟨a1, a2, a3, a4⟩ := hB
  exact ⟨by rw [h1.2.1 2 (by omega) (by omega)]; exact a1, by rw [h1.2.1 3 (by omega) (by omega)]; exact a2, by rw [h1.2.2.2 7 (by omega) (by omega)]; exact a3, by rw [h1.2.2.2 6 (by omega) (by omega)]; exact a4⟩
theorem BI_S {M' : z_S} {Q : Nat → Nat → Nat → Prop} (h1 : SF M M') (hB : BI N B g tu pa pd Q M) : BI N B g tu pa pd Q M' := by
  rcases hB with ⟨a1, a2⟩ | ⟨a1, b, h', x', a2, a3⟩
  · exact Or.inl ⟨by rw [h1.1]; exact a1, a2⟩
  · exact Or.inr ⟨by rw [h1.1]; exact a1, b, h', x', BSt_S h1 a2, a3⟩
theorem BI_mono {Q Q' : Nat → Nat → Nat → Prop} (hq : ∀ p q s, Q' p q s → Q p q s) (hB : BI N B g tu pa pd Q M) : BI N B g tu pa pd Q' M := by
  rcases hB with ⟨a1, a2⟩ | ⟨a1, b, h', x', a2, a3, a4⟩
  · exact Or.inl ⟨a1, fun p q s hQ => a2 p q s (hq p q s hQ)⟩
  · exact Or.inr ⟨a1, b, h', x', a2, a3, fun p q s hQ => a4 p q s (hq p q s hQ)⟩
theorem cand_uniq (hB : bkOk B) (ht : isTurn B tu) (h1 : cand N B g tu h x) (h2 : cand N B g tu h x') {j : Nat} (hj : j < B.1) : x j = x' j := by
  obtain ⟨t, t1, t2⟩ := ht.2.2 j hj
  have b1 := (hB.2 j hj).1
  have e1 := (h1.2 _ b1).2.2 t t1 (by rw [t2])
  have e2 := (h2.2 _ b1).2.2 t t1 (by rw [t2])
  rw [t2] at e1 e2
  have e3 := e1.trans e2.symm
  unfold zz at e3
  by_cases c : B.2.2.1 j = 1
  · rw [if_pos c, if_pos c] at e3; exact e3
  · rw [if_neg c, if_neg c] at e3; grind
theorem oy_congr (hB : bkOk B) (hx : ∀ j, j < B.1 → x j = x' j) : ∀ u, u ∈ aims B → oy B x u = oy B x' u := by
  intro u hu
  unfold oy
  by_cases q : u = 15
  · rw [if_pos q, if_pos q]
    exact sm_congr fun j hj => by rw [hx j hj]
  · rw [if_neg q, if_neg q]
    rcases List.mem_cons.mp hu with q2 | q2
    · exact (q q2).elim
    · have := List.mem_range'_1.mp q2
      exact hx u (by omega)
theorem bx_Z (hB : bkOk B) (hb : 0 < b) (hbz : isZ b 20250) (hx : ∀ j, j < B.1 → 0 ≤ x j ∧ x j ≤ B.2.2.2.2 j) {j : Nat} (hj : j < B.1) {v : Int64} (hv : q6 v = b * x j) : isZ (b * x j) 60750000 := by
  rw [← hv]
  refine isZ_q6_bd (by rw [hv]; exact Rat.mul_nonneg (by grind) (hx j hj).1) ?_
  rw [hv]
  obtain ⟨zq, e1, e2, e3⟩ := isZ_mul hbz (hB.2 j hj).2.2.2.1
  have h1 := Rat.mul_nonneg (by grind : 0 ≤ b) (by have := (hx j hj).2; grind : 0 ≤ B.2.2.2.2 j - x j)
  have h2 : ((zq : Int) : Rat) ≤ ((60750000 : Nat) : Rat) := by
    have : ((zq : Int) : Rat) ≤ (((60750000 : Nat) : Int) : Rat) := Rat.intCast_le_intCast.mpr (by omega)
    exact this
  rw [← e1] at h2
  grind
theorem bw_Z (hB : bkOk B) (hb : 0 < b) (hbz : isZ b 20250) (hx : ∀ j, j < B.1 → 0 ≤ x j ∧ x j ≤ B.2.2.2.2 j) (hv : ∀ j, j < B.1 → ∃ v : Int64, q6 v = b * x j) : isZ (b * wl B x) 972000000000 := by
  unfold wl
  rw [← sm_mul]
  refine isZ_mono (isZ_sm (K := 2000 * 60750000) (fun j hj => ?_)) (by have : B.1 * (2000 * 60750000) ≤ 8 * (2000 * 60750000) := Nat.mul_le_mul_right _ hB.1; omega)
  have dj := hB.2 j hj
  obtain ⟨v, hv⟩ := hv j hj
  rw [show b * (B.2.2.1 j * B.2.2.2.1 j * x j) = B.2.2.1 j * (B.2.2.2.1 j * (b * x j)) by grind]
  exact isZ_pm dj.2.1 (isZ_mul dj.2.2.1 (bx_Z hB hb hbz hx hj hv))
theorem mul_lt_iff {c u w : Rat} (hc : 0 < c) : c * u ≤ c * w ↔ u ≤ w := by
  constructor
  · intro hl
    by_cases q : u ≤ w
    · exact q
    · have := Rat.mul_pos hc (by grind : 0 < u - w); grind
  · intro hl
    have := Rat.mul_nonneg (by grind : 0 ≤ c) (by grind : 0 ≤ w - u); grind
theorem pm_better_loop (hB : bkOk B) (hM : mB M B) (hb : 0 < b) (hbz : isZ b 20250) (hb' : 0 < b') (hbz' : isZ b' 20250) (hG0 : q6 (gG M 0) = b) (hG2 : q6 (gG M 2) = b') (hx : ∀ j, j < B.1 → 0 ≤ x j ∧ x j ≤ B.2.2.2.2 j) (hx' : ∀ j, j < B.1 → 0 ≤ x' j ∧ x' j ≤ B.2.2.2.2 j) (h5 : ∀ j, j < B.1 → q6 (gJ M 5 j) = b * x j) (h7 : ∀ j, j < B.1 → q6 (gJ M 7 j) = b' * x' j) : ∀ q k (y z : Int64) (u w : Rat), k ≤ B.1 → B.1 - k < q → q6 y = b * b' * u → q6 z = b * b' * w → ((u < w ∨ (u = w ∧ lexle (List.range' k (B.1 - k)) x x')) → f_M_better_32 m q y z (nI k) M = some (0, M)) ∧ (¬ (u < w ∨ (u = w ∧ lexle (List.range' k (B.1 - k)) x x')) → f_M_better_32 m q y z (nI k) M = some (1, M)) := by
  have h88 := hB.1
  have hbb := Rat.mul_pos hb hb'
  have fin : ∀ (y z : Int64) (u w : Rat), q6 y = b * b' * u → q6 z = b * b' * w → f_M_better_79 m y z M = if u ≤ w then some (0, M) else some (1, M) := by
    intro y z u w hy hz
    unfold f_M_better_79 f_M_better_90
    rw [ck_t vz_0, ck_t vz_1]
    by_cases c : u ≤ w
    · rw [if_pos c, if_pos (by rw [q6_le, hy, hz]; exact (mul_lt_iff hbb).mpr c)]
    · rw [if_neg c, if_neg (by rw [q6_le, hy, hz]; exact fun e => c ((mul_lt_iff hbb).mp e))]
  intro q
  induction q with
  | zero => intro k y z u w _ h; omega
  | succ q ih =>
    intro k y z u w hk hq hy hz
    by_cases e : k = B.1
    · rw [f_M_better_32, if_pos (by rw [hM.1]; exact nI_le (by omega) (by omega)), fin y z u w hy hz, e, Nat.sub_self]
      constructor
      · rintro (c | ⟨c, -⟩)
        · exact if_pos (by grind)
        · exact if_pos (by grind)
      · intro c
        refine if_neg fun c2 => c ?_
        by_cases c3 : u < w
        · exact Or.inl c3
        · exact Or.inr ⟨by grind, trivial⟩
    · have hks : k < B.1 := by omega
      rw [f_M_better_32, if_neg (by rw [hM.1]; exact nI_ge hks (by omega))]
      by_cases c : u = w
      · have hyz : y = z := q6_inj.mp (by rw [hy, hz, c])
        have hvk : vi (nI k) 8 = true := vi_n (by omega) (by omega)
        rw [if_pos hyz, ck_t hvk, ck_t hvk, cl_n (by omega), nI_1]
        have z1 := bx_Z hB hb hbz hx hks (h5 k hks)
        have z2 := bx_Z hB hb' hbz' hx' hks (h7 k hks)
        have e1 : q6 (gJ M 5 k * gG M 2) = b * b' * x k := by rw [q6_mul (by rw [h5 k hks, hG2]; exact isZ_mul z1 hbz') (by omega), h5 k hks, hG2]; grind
        have e2 : q6 (gJ M 7 k * gG M 0) = b * b' * x' k := by rw [q6_mul (by rw [h7 k hks, hG0]; exact isZ_mul z2 hbz) (by omega), h7 k hks, hG0]; grind
        obtain ⟨i1, i2⟩ := ih (k + 1) _ _ (x k) (x' k) (by omega) (by omega) e1 e2
        have er : List.range' k (B.1 - k) = k :: List.range' (k + 1) (B.1 - (k + 1)) := by rw [show B.1 - k = (B.1 - (k + 1)) + 1 by omega]; rfl
        rw [er]
        constructor
        · rintro (d | ⟨-, d⟩)
          · grind
          · exact i1 d
        · intro d
          exact i2 fun d2 => d (Or.inr ⟨c, d2⟩)
      · rw [if_neg (fun e2 => c (by
          have : b * b' * u = b * b' * w := by rw [← hy, ← hz, e2]
          grind)), fin y z u w hy hz]
        constructor
        · rintro (d | ⟨d, -⟩)
          · exact if_pos (by grind)
          · exact (c d).elim
        · intro d
          refine if_neg fun d2 => d (Or.inl (by grind))
theorem oy_r (hB : bkOk B) : lexle (List.range' 0 (B.1 - 0)) x x' ↔ lexle (List.range' 0 B.1) (oy B x) (oy B x') := by
  rw [Nat.sub_zero]
  have h : ∀ y : Nat → Rat, ∀ u, u ∈ List.range' 0 B.1 → y u = oy B y u := fun y u hu => by
    have := List.mem_range'_1.mp hu
    unfold oy
    rw [if_neg (by have := hB.1; omega)]
  exact lexle_congr (h x) (h x')
theorem pm_better (hB : bkOk B) (hm : 9 < m) (hM : mB M B) (hH : q6 (gG M 0) = b ∧ 0 < b ∧ isZ b 20250) (hS : BSt M B b' h' x') (h3 : gF M 3 = 1) (hx : ∀ j, j < B.1 → 0 ≤ x j ∧ x j ≤ B.2.2.2.2 j) (hx' : ∀ j, j < B.1 → 0 ≤ x' j ∧ x' j ≤ B.2.2.2.2 j) (h5 : ∀ j, j < B.1 → q6 (gJ M 5 j) = b * x j) (h1 : q6 (gG M 1) = b * wl B x) : (lexle (aims B) (oy B x) (oy B x') → f_M_better m M = some (0, M)) ∧ (¬ lexle (aims B) (oy B x) (oy B x') → f_M_better m M = some (1, M)) := by
  obtain ⟨⟨s1, s2, s3⟩, s4, s5, -⟩ := hS
  obtain ⟨g1, g2, g3⟩ := hH
  have w1 := bw_Z hB g2 g3 hx (fun j hj => ⟨_, h5 j hj⟩)
  have w2 := bw_Z hB s2 s3 hx' (fun j hj => ⟨_, s5 j hj⟩)
  have e1 : q6 (gG M 1 * gG M 2) = b * b' * wl B x := by rw [q6_mul (by rw [h1, s1]; exact isZ_mul w1 s3) (by omega), h1, s1]; grind
  have e2 : q6 (gG M 3 * gG M 0) = b * b' * wl B x' := by rw [q6_mul (by rw [s4, g1]; exact isZ_mul w2 g3) (by omega), s4, g1]; grind
  obtain ⟨i1, i2⟩ := pm_better_loop (m := m) hB hM g2 g3 s2 s3 g1 s1 hx hx' h5 s5 m 0 _ _ _ _ (by omega) (by have := hB.1; omega) e1 e2
  have ea : lexle (aims B) (oy B x) (oy B x') ↔ (wl B x < wl B x' ∨ (wl B x = wl B x' ∧ lexle (List.range' 0 (B.1 - 0)) x x')) := by
    rw [oy_r hB]
    show (oy B x 15 < oy B x' 15 ∨ (oy B x 15 = oy B x' 15 ∧ _)) ↔ _
    rw [show oy B x 15 = wl B x from rfl, show oy B x' 15 = wl B x' from rfl]
  unfold f_M_better
  rw [if_neg (by rw [h3]; decide)]
  exact ⟨fun c => i1 (ea.mp c), fun c => i2 fun d => c (ea.mpr d)⟩
theorem pm_keep_h : ∀ q w (M : z_S), w ≤ 4 → 4 - w < q → ∃ M', f_M_keep_51 m q (nI w) M = some ((), M') ∧ gF M' = gF M ∧ gG M' = gG M ∧ gI M' = gI M ∧ (∀ t, t ≠ 6 → gJ M' t = gJ M t) ∧ (∀ i, w ≤ i → i < 4 → gJ M' 6 i = gJ M 4 i) ∧ (∀ i, i < w → gJ M' 6 i = gJ M 6 i) := by
  intro q
  induction q with
  | zero => intro w M _ h; omega
  | succ q ih =>
    intro w M hw hq
    by_cases e : w = 4
    · refine ⟨M, ?_, rfl, rfl, rfl, fun _ _ => rfl, fun i a c => by omega, fun _ _ => rfl⟩
      rw [f_M_keep_51, if_pos (k4le (by omega) (by omega))]
    · obtain ⟨M', z1, z2, z3, z4, z5, z6, z7⟩ := ih (w + 1) (sJ M 6 (vp_updL (gJ M 6) w (gJ M 4 w))) (by omega) (by omega)
      refine ⟨M', ?_, z2, z3, z4, fun t ht => by rw [z5 t ht, sJ_at, if_neg ht], fun i a c => ?_, fun i a => ?_⟩
      · rw [f_M_keep_51, if_neg (k4ge (by omega)), ck_t (vi_n (by omega) (by omega)), ck_t (vi_n (by omega) (by omega)), cl_n (by omega), nI_1]
        exact z1
      · by_cases e2 : i = w
        · rw [z7 i (by omega), sJ_up, if_pos ⟨rfl, e2⟩, e2]
        · rw [z6 i (by omega) c, sJ_up, if_neg (by omega)]
      · rw [z7 i (by omega), sJ_up, if_neg (by omega)]
theorem pm_keep_a (hB : bkOk B) (hm : 9 < m) : ∀ q k (M : z_S), k ≤ B.1 → B.1 - k < q → mB M B → ∃ M', f_M_keep_23 m q (nI k) M = some ((), M') ∧ gF M' = gF M ∧ gG M' = gG M ∧ gI M' = gI M ∧ (∀ t, t ≠ 6 → t ≠ 7 → gJ M' t = gJ M t) ∧ (∀ i, i < 4 → gJ M' 6 i = gJ M 4 i) ∧ (∀ i, k ≤ i → i < B.1 → gJ M' 7 i = gJ M 5 i) ∧ (∀ i, i < k → gJ M' 7 i = gJ M 7 i) := by
  have h88 := hB.1
  intro q
  induction q with
  | zero => intro k M _ h; omega
  | succ q ih =>
    intro k M hk hq hM
    by_cases e : k = B.1
    · obtain ⟨M', z1, z2, z3, z4, z5, z6, z7⟩ := pm_keep_h (m := m) m 0 M (by omega) (by omega)
      refine ⟨M', ?_, z2, z3, z4, fun t a _ => z5 t a, fun i hi => z6 i (by omega) hi, fun i a c => by omega, fun i a => by rw [z5 7 (by omega)]⟩
      rw [f_M_keep_23, if_pos (by rw [hM.1]; exact nI_le (by omega) (by omega))]
      exact z1
    · obtain ⟨M', z1, z2, z3, z4, z5, z6, z7, z8⟩ := ih (k + 1) (sJ M 7 (vp_updL (gJ M 7) k (gJ M 5 k))) (by omega) (by omega) hM
      refine ⟨M', ?_, z2, z3, z4, fun t a c => by rw [z5 t a c, sJ_at, if_neg c], fun i hi => by rw [z6 i hi, sJ_at, if_neg (by omega)], fun i a c => ?_, fun i a => ?_⟩
      · rw [f_M_keep_23, if_neg (by rw [hM.1]; exact nI_ge (by omega) (by omega)), ck_t (vi_n (by omega) (by omega)), ck_t (vi_n (by omega) (by omega)), cl_n (by omega), nI_1]
        exact z1
      · by_cases e2 : i = k
        · rw [z8 i (by omega), sJ_up, if_pos ⟨rfl, e2⟩, e2]
        · rw [z7 i (by omega) c, sJ_up, if_neg (by omega)]
      · rw [z8 i (by omega), sJ_up, if_neg (by omega)]
theorem pm_keep (hB : bkOk B) (hm : 9 < m) (hM : mB M B) (hH : HT M b h) (h5 : ∀ j, j < B.1 → q6 (gJ M 5 j) = b * x j) (h1 : q6 (gG M 1) = b * wl B x) : ∃ M', f_M_keep m M = some ((), M') ∧ GF M M' ∧ gF M' 3 = 1 ∧ BSt M' B b h x := by
  have hX : ∃ X, X = sG (sG (sF M 3 (1 : Int32)) 2 (gG (sF M 3 (1 : Int32)) 0)) 3 (gG (sG (sF M 3 (1 : Int32)) 2 (gG (sF M 3 (1 : Int32)) 0)) 1) := ⟨_, rfl⟩
  obtain ⟨X, hX⟩ := hX
  have hMX : mB X B := by rw [hX]; exact ⟨hM.1, hM.2⟩
  obtain ⟨M', z1, z2, z3, z4, z5, z6, z7, -⟩ := pm_keep_a (m := m) hB hm m 0 X (by omega) (by have := hB.1; omega) hMX
  have jX : gJ X = gJ M := by rw [hX]; rfl
  refine ⟨M', ?_, ⟨fun t ht => ?_, fun k hk => ?_, ?_, fun t ht => ?_⟩, ?_, ⟨?_, ?_, fun k hk => ?_, fun w hw => ?_⟩⟩
  · unfold f_M_keep
    rw [← hX]
    exact z1
  · rw [z2, hX]; simp only [gs, if_neg ht]
  · rw [z3, hX]; simp only [gs]; rw [if_neg (by omega), if_neg (by omega)]
  · rw [z4, hX]; rfl
  · rw [z5 t (by omega) (by omega), jX]
  · rw [z2, hX]; rfl
  · rw [z3, hX]; exact hH.1
  · rw [z3, hX]; exact h1
  · rw [z7 k (by omega) hk, jX]; exact h5 k hk
  · rw [z6 w hw, jX]; exact hH.2 w hw
/-- one triple of planes -/
theorem pm_triple (hN : netOk N) (hB : bkOk B) (ht : isTurn B tu) (hm : 9 < m) {x1 : Int32} (hx1 : more0 x1 g) {k20 : Int32 → Int32 → z_S → Option (Unit × z_S)} {k32 : Int32 → Int32 → Int32 → z_S → Option (Unit × z_S)} {k45 : Int32 → Int32 → Int32 → Int32 → z_S → Option (Unit × z_S)} (hM : mN M N) (hMB : mB M B) (hT : mT M B tu) (hP : PLs M P pa pd) {p q s : Nat} (hp : p < P) (hq : q < P) (hs : s < P) {Q : Nat → Nat → Nat → Prop} (hI : BI N B g tu pa pd Q M) : ∃ M', (bo (f_M_meet m (nI p) (nI q) (nI s) M) (fun v59 S59 => (if v59 = 0 then f_M_search_91 m k20 k32 k45 x1 (nI p) (nI q) (nI s) S59 else bo (f_M_linesHold m S59) (fun v66 S66 => (if v66 = 0 then f_M_search_91 m k20 k32 k45 x1 (nI p) (nI q) (nI s) S66 else bo (f_M_useAll m x1 S66) (fun v74 S74 => (if v74 = 0 then f_M_search_91 m k20 k32 k45 x1 (nI p) (nI q) (nI s) S74 else bo (f_M_better m S74) (fun v81 S81 => (if v81 = 0 then f_M_search_91 m k20 k32 k45 x1 (nI p) (nI q) (nI s) S81 else bo (f_M_keep m S81) (fun _ S88 => f_M_search_91 m k20 k32 k45 x1 (nI p) (nI q) (nI s) S88)))))))))) = k45 x1 (nI p) (nI q) (nI (s + 1)) M' ∧ GF M M' ∧ BI N B g tu pa pd (fun a b c => Q a b c ∨ (a = p ∧ b = q ∧ c = s)) M' := by
  have add0 : ∀ M', BI N B g tu pa pd Q M' → (∀ h x, onP3 pa pd p q s h → ¬ cand N B g tu h x) → BI N B g tu pa pd (fun a b c => Q a b c ∨ (a = p ∧ b = q ∧ c = s)) M' := by
    intro M' hI' hno
    rcases hI' with ⟨a1, a2⟩ | ⟨a1, b, h', x', a2, a3, a4⟩
    · refine Or.inl ⟨a1, ?_⟩
      rintro p' q' s' (hQ | ⟨rfl, rfl, rfl⟩)
      · exact a2 p' q' s' hQ
      · exact hno
    · refine Or.inr ⟨a1, b, h', x', a2, a3, ?_⟩
      rintro p' q' s' (hQ | ⟨rfl, rfl, rfl⟩)
      · exact a4 p' q' s' hQ
      · exact fun h x hh hc => (hno h x hh hc).elim
  unfold f_M_search_91
  rw [nI_1]
  rcases pm_meet (m := m) hm hP hp hq hs with ⟨d0, m1⟩ | ⟨d0, X, b, h, m1, m2, m3, m4, m5, m6⟩
  · refine ⟨M, ?_, GF_rf M, add0 M hI fun h x hh => (hh.1 d0).elim⟩
    rw [bo_s m1, if_pos rfl]
  · have uq : ∀ h', onP3 pa pd p q s h' → h' = h := fun h' hh => meet_uniq hh.1 (hh.2.1.trans m4.symm) (hh.2.2.1.trans m5.symm) (hh.2.2.2.trans m6.symm)
    obtain ⟨l1, l2⟩ := pm_linesHold (m := m) hN hm (mN_S m2 hM) m3
    rw [bo_s m1, if_neg (by decide)]
    by_cases hl : linesOk N h
    · rw [bo_s (l1 hl), if_neg (by decide)]
      obtain ⟨Y, r, u1, u2, u3, u4⟩ := pm_useAll_loop (m := m) (g := g) hN hB ht hm hx1 hl m 0 X (by omega) (by omega) (mN_S m2 hM) (mB_S m2 hMB) (mT_S m2 hT) m3 (fun u hu => by omega)
      rw [bo_s (show f_M_useAll m x1 X = some (r, Y) from u1)]
      have hSY := SF_tr m2 u2
      have hIY := BI_S hSY hI
      rcases u4 with ⟨r1, x, c1, c2, c3⟩ | ⟨r1, c1⟩
      · rw [r1, if_neg (by decide)]
        have hF := cand_FS hB ht c1
        rcases hIY with ⟨a1, a2⟩ | ⟨a1, b', h', x', a2, a3, a4⟩
        · obtain ⟨Z, k1, k2, k3, k4⟩ := pm_keep (m := m) hB hm (mB_S hSY hMB) u3 c2 c3
          refine ⟨Z, ?_, GF_tr (SF_GF hSY) k2, Or.inr ⟨k3, b, h, x, k4, c1, ?_⟩⟩
          · rw [bo_s (show f_M_better m Y = some (1, Y) by unfold f_M_better; rw [if_pos a1]), if_neg (by decide), bo_s k1]
          · rintro p' q' s' (hQ | ⟨rfl, rfl, rfl⟩)
            · exact fun h x hh hc => (a2 p' q' s' hQ h x hh hc).elim
            · intro h2 x2 hh hc
              rw [uq h2 hh] at hc
              exact (lexle_congr (oy_congr hB (fun j hj => cand_uniq hB ht c1 hc hj)) (fun _ _ => rfl)).mp lexle_refl
        · obtain ⟨t1, t2⟩ := pm_better (m := m) (x := x) hB hm (mB_S hSY hMB) u3.1 a2 a1 hF.1 (cand_FS hB ht a3).1 c2 c3
          by_cases hlx : lexle (aims B) (oy B x) (oy B x')
          · refine ⟨Y, ?_, SF_GF hSY, Or.inr ⟨a1, b', h', x', a2, a3, ?_⟩⟩
            · rw [bo_s (t1 hlx), if_pos rfl]
            · rintro p' q' s' (hQ | ⟨rfl, rfl, rfl⟩)
              · exact a4 p' q' s' hQ
              · intro h2 x2 hh hc
                rw [uq h2 hh] at hc
                exact (lexle_congr (oy_congr hB (fun j hj => cand_uniq hB ht c1 hc hj)) (fun _ _ => rfl)).mp hlx
          · obtain ⟨Z, k1, k2, k3, k4⟩ := pm_keep (m := m) hB hm (mB_S hSY hMB) u3 c2 c3
            have tot : lexle (aims B) (oy B x') (oy B x) := by
              have : ∀ (as : List Nat) (y w : Nat → Rat), ¬ lexle as y w → lexle as w y := by
                intro as
                induction as with
                | nil => intro y w hn; exact (hn trivial).elim
                | cons a as ih =>
                  intro y w hn
                  by_cases c : w a < y a
                  · exact Or.inl c
                  · by_cases c2 : y a < w a
                    · exact (hn (Or.inl c2)).elim
                    · exact Or.inr ⟨by grind, ih y w fun c3 => hn (Or.inr ⟨by grind, c3⟩)⟩
              exact this _ _ _ hlx
            refine ⟨Z, ?_, GF_tr (SF_GF hSY) k2, Or.inr ⟨k3, b, h, x, k4, c1, ?_⟩⟩
            · rw [bo_s (t2 hlx), if_neg (by decide), bo_s k1]
            · rintro p' q' s' (hQ | ⟨rfl, rfl, rfl⟩)
              · exact fun h2 x2 hh hc => lexle_trans (a4 p' q' s' hQ h2 x2 hh hc) tot
              · intro h2 x2 hh hc
                rw [uq h2 hh] at hc
                exact (lexle_congr (oy_congr hB (fun j hj => cand_uniq hB ht c1 hc hj)) (fun _ _ => rfl)).mp lexle_refl
      · rw [r1, if_pos rfl]
        exact ⟨Y, rfl, SF_GF hSY, add0 Y hIY fun h2 x2 hh hc => c1 ⟨x2, by rw [uq h2 hh] at hc; exact hc⟩⟩
    · rw [bo_s (l2 hl), if_pos rfl]
      exact ⟨X, rfl, SF_GF m2, add0 X (BI_S m2 hI) fun h2 x2 hh hc => hl (by rw [uq h2 hh] at hc; exact hc.1)⟩
def Done (P p q s p' q' s' : Nat) : Prop := p' < q' ∧ q' < s' ∧ s' < P ∧ (p' < p ∨ (p' = p ∧ (q' < q ∨ (q' = q ∧ s' < s))))
theorem pm_s_in (hN : netOk N) (hB : bkOk B) (ht : isTurn B tu) (hm : 9 < m) {x1 : Int32} (hx1 : more0 x1 g) {k20 : Int32 → Int32 → z_S → Option (Unit × z_S)} {k32 : Int32 → Int32 → Int32 → z_S → Option (Unit × z_S)} {p q : Nat} (hp : p < q) (hq : q < P) : ∀ f s (M : z_S), q < s → s ≤ P → P - s < f → mN M N → mB M B → mT M B tu → PLs M P pa pd → BI N B g tu pa pd (Done P p q s) M → ∃ M', f_M_search_45 m k20 k32 f x1 (nI p) (nI q) (nI s) M = k32 x1 (nI p) (nI (q + 1)) M' ∧ GF M M' ∧ BI N B g tu pa pd (Done P p q P) M' := by
  intro f
  induction f with
  | zero => intro s M _ _ h; omega
  | succ f ih =>
    intro s M hqs hs hf hM hMB hT hP hI
    have h24 := hP.1
    by_cases e : s = P
    · subst e
      refine ⟨M, ?_, GF_rf M, hI⟩
      rw [f_M_search_45, if_pos (by rw [hP.2.1]; exact nI_le (by omega) (by omega)), nI_1]
    · obtain ⟨X, y1, y2, y3⟩ := pm_triple (m := m) (k20 := k20) (k32 := k32) (k45 := f_M_search_45 m k20 k32 f) hN hB ht hm hx1 hM hMB hT hP (show p < P by omega) hq (show s < P by omega) hI
      obtain ⟨M', z1, z2, z3⟩ := ih (s + 1) X (by omega) (by omega) (by omega) (mN_G y2 hM) (mB_G y2 hMB) (mT_G y2 hT) (PLs_G y2 hP) (BI_mono (fun a b c hd => by
        obtain ⟨d1, d2, d3, d4⟩ := hd
        by_cases c2 : a = p ∧ b = q ∧ c = s
        · exact Or.inr c2
        · exact Or.inl ⟨d1, d2, d3, by omega⟩) y3)
      refine ⟨M', ?_, GF_tr y2 z2, z3⟩
      rw [f_M_search_45, if_neg (by rw [hP.2.1]; exact nI_ge (by omega) (by omega)), ← z1]
      exact y1
theorem pm_s_mid (hN : netOk N) (hB : bkOk B) (ht : isTurn B tu) (hm : 30 < m) {x1 : Int32} (hx1 : more0 x1 g) {k20 : Int32 → Int32 → z_S → Option (Unit × z_S)} {p : Nat} (hp : p < P) : ∀ f q (M : z_S), p < q → q ≤ P → P - q < f → mN M N → mB M B → mT M B tu → PLs M P pa pd → BI N B g tu pa pd (Done P p q (q + 1)) M → ∃ M', f_M_search_32 m k20 f x1 (nI p) (nI q) M = k20 x1 (nI (p + 1)) M' ∧ GF M M' ∧ BI N B g tu pa pd (Done P p P P) M' := by
  intro f
  induction f with
  | zero => intro q M _ _ h; omega
  | succ f ih =>
    intro q M hpq hq hf hM hMB hT hP hI
    have h24 := hP.1
    by_cases e : q = P
    · subst e
      refine ⟨M, ?_, GF_rf M, BI_mono (fun a b c hd => by obtain ⟨d1, d2, d3, d4⟩ := hd; exact ⟨d1, d2, d3, by omega⟩) hI⟩
      rw [f_M_search_32, if_pos (by rw [hP.2.1]; exact nI_le (by omega) (by omega)), nI_1]
    · obtain ⟨X, y1, y2, y3⟩ := pm_s_in (m := m) (k20 := k20) (k32 := f_M_search_32 m k20 f) hN hB ht (by omega) hx1 hpq (show q < P by omega) m (q + 1) M (by omega) (by omega) (by omega) hM hMB hT hP hI
      obtain ⟨M', z1, z2, z3⟩ := ih (q + 1) X (by omega) (by omega) (by omega) (mN_G y2 hM) (mB_G y2 hMB) (mT_G y2 hT) (PLs_G y2 hP) (BI_mono (fun a b c hd => by obtain ⟨d1, d2, d3, d4⟩ := hd; exact ⟨d1, d2, d3, by omega⟩) y3)
      refine ⟨M', ?_, GF_tr y2 z2, z3⟩
      rw [f_M_search_32, if_neg (by rw [hP.2.1]; exact nI_ge (by omega) (by omega)), ← z1, nI_1]
      exact y1
theorem pm_s_out (hN : netOk N) (hB : bkOk B) (ht : isTurn B tu) (hm : 30 < m) {x1 : Int32} (hx1 : more0 x1 g) : ∀ f p (M : z_S), p ≤ P → P - p < f → mN M N → mB M B → mT M B tu → PLs M P pa pd → BI N B g tu pa pd (Done P p (p + 1) (p + 2)) M → ∃ M', f_M_search_20 m f x1 (nI p) M = some ((), M') ∧ GF M M' ∧ BI N B g tu pa pd (Done P P P P) M' := by
  intro f
  induction f with
  | zero => intro p M _ h; omega
  | succ f ih =>
    intro p M hp hf hM hMB hT hP hI
    have h24 := hP.1
    by_cases e : p = P
    · subst e
      refine ⟨M, ?_, GF_rf M, BI_mono (fun a b c hd => by obtain ⟨d1, d2, d3, d4⟩ := hd; exact ⟨d1, d2, d3, by omega⟩) hI⟩
      rw [f_M_search_20, if_pos (by rw [hP.2.1]; exact nI_le (by omega) (by omega))]
    · obtain ⟨X, y1, y2, y3⟩ := pm_s_mid (m := m) (k20 := f_M_search_20 m f) hN hB ht hm hx1 (show p < P by omega) m (p + 1) M (by omega) (by omega) (by omega) hM hMB hT hP hI
      obtain ⟨M', z1, z2, z3⟩ := ih (p + 1) X (by omega) (by omega) (mN_G y2 hM) (mB_G y2 hMB) (mT_G y2 hT) (PLs_G y2 hP) (BI_mono (fun a b c hd => by obtain ⟨d1, d2, d3, d4⟩ := hd; exact ⟨d1, d2, d3, by omega⟩) y3)
      refine ⟨M', ?_, GF_tr y2 z2, z3⟩
      rw [f_M_search_20, if_neg (by rw [hP.2.1]; exact nI_ge (by omega) (by omega)), ← z1, nI_1]
      exact y1
end SEARCH
