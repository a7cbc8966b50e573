/-! what the grid can carry: the reference's corners -/
def gd (N : Net) (p : Nat → Rat) (U : Nat) (r0 : Rat) (h : v3) : Prop := linesOk N h ∧ r0 < (U : Rat) * lv p N h
theorem scl_Z {b y : Rat} (hb : isZ b 20250) (hb0 : 0 < b) (h1 : -3000 ≤ y) (h2 : y ≤ 3000) (hz : ∃ z : Int, (z : Rat) = b * y) : isZ (b * y) 60750000 := by
  obtain ⟨z, e, e1, e2⟩ := hb
  have hz0 : 0 < z := by
    rw [e] at hb0
    have : ((0 : Int) : Rat) < (z : Rat) := hb0
    exact Rat.intCast_lt_intCast.mp this
  obtain ⟨D, hD⟩ : ∃ D : Nat, (D : Int) = z := ⟨z.toNat, by omega⟩
  have hDb : b = (D : Rat) := by rw [e, ← hD]; rfl
  have h3 : ((3000 : Nat) : Rat) = 3000 := rfl
  obtain ⟨n1, n2⟩ := natR (U := D) (K := 20250) (Y := 3000) (by omega) (y := y) (by rw [h3]; exact h1) (by rw [h3]; exact h2)
  rw [← hDb] at n1 n2
  exact isZ_of hz n1 n2
section MORE
variable {N : Net} {B : Bk} {m U P : Nat} {M : z_S} {X p : Nat → Rat} {a0 a1 a2 a3 : Int32} {pa : Nat → v3} {pd : Nat → Rat} {R : Int64} {r0 b : Rat} {h : v3}
theorem br_Z (hm : 9 < m) (hN : netOk N) (hM : mN M N) (hH : HT M b h) (hl : linesOk N h) {v : Nat} (hv : v < 4) : ∃ x, f_M_brought m (nI v) M = some (x, M) ∧ q6 x = b * dot (npl (LN N) v) h ∧ isZ (b * dot (npl (LN N) v) h) 60750000 := by
  obtain ⟨x, x1, x2⟩ := pm_brought (m := m) hN hm hM hH hv
  have hb := npl_bd hN hl hv
  exact ⟨x, x1, x2, scl_Z hH.1.2.2 hH.1.2.1 hb.1 hb.2 ⟨x.toInt, x2⟩⟩
theorem cm_sum (hm : 9 < m) (hN : netOk N) (hM : mN M N) (hH : HT M b h) (hl : linesOk N h) (hpz : ∀ v, v < 4 → isZ (p v) 2000) {v : Nat} (hv : v ≤ 4) : isZ (b * sm v (fun i => p i * dot (npl (LN N) i) h)) 486000000000 := by
  rw [← sm_mul]
  refine isZ_mono (isZ_sm (K := 2000 * 60750000) (fun i hi => ?_)) (by have : v * (2000 * 60750000) ≤ 4 * (2000 * 60750000) := Nat.mul_le_mul_right _ hv; omega)
  obtain ⟨x, -, -, x3⟩ := br_Z (m := m) hm hN hM hH hl (show i < 4 by omega)
  rw [show b * (p i * dot (npl (LN N) i) h) = p i * (b * dot (npl (LN N) i) h) by grind]
  exact isZ_mul (hpz i (by omega)) x3
theorem cm_83 (hm : 9 < m) (hN : netOk N) (hM : mN M N) (hH : HT M b h) (hl : linesOk N h) (hp : ∀ v, v < 4 → q3 (pA a0 a1 a2 a3 v) = p v) (hpz : ∀ v, v < 4 → isZ (p v) 2000) (hG4 : gG M 4 = lN U) (hU : U ≤ 20250) (hR : q6 R = r0) (hRz : isZ r0 972000000000) {k18 : Int32 → Int32 → Int32 → Int32 → Int64 → Int32 → z_S → Option (Int32 × z_S)} {k33 : Int32 → Int32 → Int32 → Int32 → Int64 → Int32 → Int32 → z_S → Option (Int32 × z_S)} {k48 : Int32 → Int32 → Int32 → Int32 → Int64 → Int32 → Int32 → Int32 → z_S → Option (Int32 × z_S)} {x7 x8 x9 : Int32} : ∀ q v (acc : Int64), v ≤ 4 → 4 - v < q → q6 acc = b * sm v (fun i => p i * dot (npl (LN N) i) h) → (r0 < (U : Rat) * lv p N h ∧ f_M_carriesMore_83 m k18 k33 k48 q a0 a1 a2 a3 R x7 x8 x9 acc (nI v) M = some (1, M)) ∨ (¬ r0 < (U : Rat) * lv p N h ∧ f_M_carriesMore_83 m k18 k33 k48 q a0 a1 a2 a3 R x7 x8 x9 acc (nI v) M = k48 a0 a1 a2 a3 R x7 x8 (x9 + 1) M) := by
  intro q
  induction q with
  | zero => intro v acc _ h; omega
  | succ q ih =>
    intro v acc hv hq ha
    by_cases e : v = 4
    · subst e
      have hb0 := hH.1.2.1
      have zs := cm_sum (m := m) hm hN hM hH hl hpz (Nat.le_refl 4)
      have hlv : sm 4 (fun i => p i * dot (npl (LN N) i) h) = lv p N h := by rw [sm4]; rfl
      rw [hlv] at ha zs
      have hUz : isZ (U : Rat) 20250 := isZ_nat hU
      have e1 : q6 (acc * gG M 4) = b * lv p N h * (U : Rat) := by
        rw [hG4, q6_mul (K := 486000000000 * 20250) (by rw [ha, q6_lN (by omega)]; exact isZ_mul zs hUz) (by omega), ha, q6_lN (by omega)]
      have e2 : q6 (R * gG M 0) = r0 * b := by
        rw [q6_mul (K := 972000000000 * 20250) (by rw [hR, hH.1.1]; exact isZ_mul hRz hH.1.2.2) (by omega), hR, hH.1.1]
      rw [f_M_carriesMore_83, if_pos (show (4 : Int32) ≤ nI 4 from k4le (by omega) (by omega))]
      by_cases c : acc * gG M 4 ≤ R * gG M 0
      · rw [if_pos c]
        refine Or.inr ⟨fun c2 => ?_, rfl⟩
        rw [q6_le, e1, e2] at c
        have : 0 < b * ((U : Rat) * lv p N h - r0) := Rat.mul_pos hb0 (by grind)
        grind
      · rw [if_neg c]
        refine Or.inl ⟨?_, rfl⟩
        rw [q6_le, e1, e2] at c
        rcases Rat.le_total (a := (U : Rat) * lv p N h) (b := r0) with c2 | c2
        · have : 0 ≤ b * (r0 - (U : Rat) * lv p N h) := Rat.mul_nonneg (by grind) (by grind)
          grind
        · by_cases c3 : (U : Rat) * lv p N h = r0
          · have : b * (r0 - (U : Rat) * lv p N h) = 0 := by rw [c3]; grind
            grind
          · grind
    · have hv4 : v < 4 := by omega
      obtain ⟨x, x1, x2, x3⟩ := br_Z (m := m) hm hN hM hH hl hv4
      have zs := cm_sum (m := m) hm hN hM hH hl hpz (v := v + 1) (by omega)
      have e1 : q6 ((pA a0 a1 a2 a3 v).toInt64 * x) = p v * (b * dot (npl (LN N) v) h) := by
        rw [q6_mul (K := 2000 * 60750000) (by rw [q6_i, hp v hv4, x2]; exact isZ_mul (hpz v hv4) x3) (by omega), q6_i, hp v hv4, x2]
      have hs : b * sm v (fun i => p i * dot (npl (LN N) i) h) + p v * (b * dot (npl (LN N) v) h) = b * sm (v + 1) (fun i => p i * dot (npl (LN N) i) h) := by
        show _ = b * (sm v (fun i => p i * dot (npl (LN N) i) h) + p v * dot (npl (LN N) v) h)
        grind
      have e2 : q6 (acc + (pA a0 a1 a2 a3 v).toInt64 * x) = b * sm (v + 1) (fun i => p i * dot (npl (LN N) i) h) := by
        rw [q6_add (K := 486000000000) (by rw [ha, e1, hs]; exact zs) (by omega), ha, e1, hs]
      rw [f_M_carriesMore_83, if_neg (k4ge hv4), bo_s (pm_price hv4), bo_s x1, nI_1]
      exact ih (v + 1) _ (by omega) (by omega) e2
theorem cm_48 (hm : 9 < m) (hN : netOk N) (hp : ∀ v, v < 4 → q3 (pA a0 a1 a2 a3 v) = p v) (hpz : ∀ v, v < 4 → isZ (p v) 2000) (hU : U ≤ 20250) (hR : q6 R = r0) (hRz : isZ r0 972000000000) {k18 : Int32 → Int32 → Int32 → Int32 → Int64 → Int32 → z_S → Option (Int32 × z_S)} {k33 : Int32 → Int32 → Int32 → Int32 → Int64 → Int32 → Int32 → z_S → Option (Int32 × z_S)} {i j : Nat} (hi : i < j) (hj : j < P) : ∀ f s (M : z_S), j < s → s ≤ P → P - s < f → mN M N → PLs M P pa pd → gG M 4 = lN U → ∃ M', SF M M' ∧ ((f_M_carriesMore_48 m k18 k33 f a0 a1 a2 a3 R (nI i) (nI j) (nI s) M = some (1, M') ∧ ∃ h, gd N p U r0 h) ∨ (f_M_carriesMore_48 m k18 k33 f a0 a1 a2 a3 R (nI i) (nI j) (nI s) M = k33 a0 a1 a2 a3 R (nI i) (nI (j + 1)) M' ∧ ∀ s', s ≤ s' → s' < P → ∀ h, onP3 pa pd i j s' h → ¬ gd N p U r0 h)) := by
  intro f
  induction f with
  | zero => intro s M _ _ h; omega
  | succ f ih =>
    intro s M hjs hs hf hM hP hG
    have h24 := hP.1
    by_cases e : s = P
    · subst e
      refine ⟨M, SF_rf M, Or.inr ⟨?_, fun s' h1 h2 => by omega⟩⟩
      rw [f_M_carriesMore_48, if_pos (by rw [hP.2.1]; exact nI_le (by omega) (by omega)), nI_1]
    · have hsP : s < P := by omega
      have go : ∀ (Y : z_S), SF M Y → (∀ h, onP3 pa pd i j s h → ¬ gd N p U r0 h) → f_M_carriesMore_48 m k18 k33 (f + 1) a0 a1 a2 a3 R (nI i) (nI j) (nI s) M = f_M_carriesMore_48 m k18 k33 f a0 a1 a2 a3 R (nI i) (nI j) (nI (s + 1)) Y → ∃ M', SF M M' ∧ ((f_M_carriesMore_48 m k18 k33 (f + 1) a0 a1 a2 a3 R (nI i) (nI j) (nI s) M = some (1, M') ∧ ∃ h, gd N p U r0 h) ∨ (f_M_carriesMore_48 m k18 k33 (f + 1) a0 a1 a2 a3 R (nI i) (nI j) (nI s) M = k33 a0 a1 a2 a3 R (nI i) (nI (j + 1)) M' ∧ ∀ s', s ≤ s' → s' < P → ∀ h, onP3 pa pd i j s' h → ¬ gd N p U r0 h)) := by
        intro Y hY hno heq
        obtain ⟨M', z1, z2⟩ := ih (s + 1) Y (by omega) (by omega) (by omega) (mN_S hY hM) (PLs_S hY hP) (by rw [hY.2.1 4 (by omega) (by omega)]; exact hG)
        refine ⟨M', SF_tr hY z1, ?_⟩
        rw [heq]
        rcases z2 with z2 | ⟨z2, z3⟩
        · exact Or.inl z2
        · refine Or.inr ⟨z2, fun s' h1 h2 h hon => ?_⟩
          by_cases c : s' = s
          · subst c; exact hno h hon
          · exact z3 s' (by omega) h2 h hon
      have hif : ¬ gF M 2 ≤ nI s := by rw [hP.2.1]; exact nI_ge hsP (by omega)
      rcases pm_meet (m := m) hm hP (show i < P by omega) hj hsP with ⟨d1, d2⟩ | ⟨d1, Y, b, h, d2, d3, d4, d5, d6, d7⟩
      · refine go M (SF_rf M) (fun h hon => (hon.1 d1).elim) ?_
        rw [f_M_carriesMore_48, if_neg hif, bo_s d2, if_pos rfl]
        unfold f_M_carriesMore_137
        rw [nI_1]
      · have huni : ∀ h', onP3 pa pd i j s h' → h' = h := fun h' hon => meet_uniq d1 (by rw [hon.2.1, d5]) (by rw [hon.2.2.1, d6]) (by rw [hon.2.2.2, d7])
        have hMY := mN_S d3 hM
        have hGY : gG Y 4 = lN U := by rw [d3.2.1 4 (by omega) (by omega)]; exact hG
        obtain ⟨l1, l2⟩ := pm_linesHold (m := m) hN hm hMY d4
        by_cases hl : linesOk N h
        · have h83 := cm_83 (m := m) (k18 := k18) (k33 := k33) (k48 := f_M_carriesMore_48 m k18 k33 f) (x7 := nI i) (x8 := nI j) (x9 := nI s) hm hN hMY d4 hl hp hpz hGY hU hR hRz m 0 0 (by omega) (by omega) (by show (0 : Rat) = b * 0; grind)
          have heq : f_M_carriesMore_48 m k18 k33 (f + 1) a0 a1 a2 a3 R (nI i) (nI j) (nI s) M = f_M_carriesMore_83 m k18 k33 (f_M_carriesMore_48 m k18 k33 f) m a0 a1 a2 a3 R (nI i) (nI j) (nI s) 0 (nI 0) Y := by
            rw [f_M_carriesMore_48, if_neg hif, bo_s d2, if_neg (by decide), bo_s (l1 hl), if_neg (by decide)]
            rfl
          rcases h83 with ⟨c1, c2⟩ | ⟨c1, c2⟩
          · exact ⟨Y, d3, Or.inl ⟨by rw [heq, c2], h, hl, c1⟩⟩
          · exact go Y d3 (fun h' hon hg => c1 (by rw [← huni h' hon]; exact hg.2)) (by rw [heq, c2, nI_1])
        · refine go Y d3 (fun h' hon hg => hl (by rw [← huni h' hon]; exact hg.1)) ?_
          rw [f_M_carriesMore_48, if_neg hif, bo_s d2, if_neg (by decide), bo_s (l2 hl), if_pos rfl]
          unfold f_M_carriesMore_137
          rw [nI_1]
theorem cm_33 (hm : 30 < m) (hN : netOk N) (hp : ∀ v, v < 4 → q3 (pA a0 a1 a2 a3 v) = p v) (hpz : ∀ v, v < 4 → isZ (p v) 2000) (hU : U ≤ 20250) (hR : q6 R = r0) (hRz : isZ r0 972000000000) {k18 : Int32 → Int32 → Int32 → Int32 → Int64 → Int32 → z_S → Option (Int32 × z_S)} {i : Nat} (hi : i < P) : ∀ f j (M : z_S), i < j → j ≤ P → P - j < f → mN M N → PLs M P pa pd → gG M 4 = lN U → ∃ M', SF M M' ∧ ((f_M_carriesMore_33 m k18 f a0 a1 a2 a3 R (nI i) (nI j) M = some (1, M') ∧ ∃ h, gd N p U r0 h) ∨ (f_M_carriesMore_33 m k18 f a0 a1 a2 a3 R (nI i) (nI j) M = k18 a0 a1 a2 a3 R (nI (i + 1)) M' ∧ ∀ j' s', j ≤ j' → j' < s' → s' < P → ∀ h, onP3 pa pd i j' s' h → ¬ gd N p U r0 h)) := by
  intro f
  induction f with
  | zero => intro j M _ _ h; omega
  | succ f ih =>
    intro j M hij hj hf hM hP hG
    have h24 := hP.1
    by_cases e : j = P
    · subst e
      refine ⟨M, SF_rf M, Or.inr ⟨?_, fun j' s' h1 h2 h3 => by omega⟩⟩
      rw [f_M_carriesMore_33, if_pos (by rw [hP.2.1]; exact nI_le (by omega) (by omega)), nI_1]
    · have hjP : j < P := by omega
      have heq : f_M_carriesMore_33 m k18 (f + 1) a0 a1 a2 a3 R (nI i) (nI j) M = f_M_carriesMore_48 m k18 (f_M_carriesMore_33 m k18 f) m a0 a1 a2 a3 R (nI i) (nI j) (nI (j + 1)) M := by
        rw [f_M_carriesMore_33, if_neg (by rw [hP.2.1]; exact nI_ge hjP (by omega)), nI_1]
      obtain ⟨Y, y1, y2⟩ := cm_48 (m := m) (k18 := k18) (k33 := f_M_carriesMore_33 m k18 f) (by omega) hN hp hpz hU hR hRz hij hjP m (j + 1) M (by omega) (by omega) (by omega) hM hP hG
      rcases y2 with ⟨y2, y3⟩ | ⟨y2, y3⟩
      · exact ⟨Y, y1, Or.inl ⟨by rw [heq, y2], y3⟩⟩
      · obtain ⟨M', z1, z2⟩ := ih (j + 1) Y (by omega) (by omega) (by omega) (mN_S y1 hM) (PLs_S y1 hP) (by rw [y1.2.1 4 (by omega) (by omega)]; exact hG)
        refine ⟨M', SF_tr y1 z1, ?_⟩
        rw [heq, y2]
        rcases z2 with z2 | ⟨z2, z3⟩
        · exact Or.inl z2
        · refine Or.inr ⟨z2, fun j' s' h1 h2 h3 h hon => ?_⟩
          by_cases c : j' = j
          · subst c; exact y3 s' (by omega) h3 h hon
          · exact z3 j' s' (by omega) h2 h3 h hon
theorem cm_18 (hm : 30 < m) (hN : netOk N) (hp : ∀ v, v < 4 → q3 (pA a0 a1 a2 a3 v) = p v) (hpz : ∀ v, v < 4 → isZ (p v) 2000) (hU : U ≤ 20250) (hR : q6 R = r0) (hRz : isZ r0 972000000000) : ∀ f i (M : z_S), i ≤ P → P - i < f → mN M N → PLs M P pa pd → gG M 4 = lN U → ∃ v M', SF M M' ∧ f_M_carriesMore_18 m f a0 a1 a2 a3 R (nI i) M = some (v, M') ∧ ((v = 1 ∧ ∃ h, gd N p U r0 h) ∨ (v = 0 ∧ ∀ i' j' s', i ≤ i' → i' < j' → j' < s' → s' < P → ∀ h, onP3 pa pd i' j' s' h → ¬ gd N p U r0 h)) := by
  intro f
  induction f with
  | zero => intro i M _ h; omega
  | succ f ih =>
    intro i M hi hf hM hP hG
    have h24 := hP.1
    by_cases e : i = P
    · subst e
      refine ⟨0, M, SF_rf M, ?_, Or.inr ⟨rfl, fun i' j' s' h0 h1 h2 h3 => by omega⟩⟩
      rw [f_M_carriesMore_18, if_pos (by rw [hP.2.1]; exact nI_le (by omega) (by omega))]
    · have hiP : i < P := by omega
      have heq : f_M_carriesMore_18 m (f + 1) a0 a1 a2 a3 R (nI i) M = f_M_carriesMore_33 m (f_M_carriesMore_18 m f) m a0 a1 a2 a3 R (nI i) (nI (i + 1)) M := by
        rw [f_M_carriesMore_18, if_neg (by rw [hP.2.1]; exact nI_ge hiP (by omega)), nI_1]
      obtain ⟨Y, y1, y2⟩ := cm_33 (m := m) (k18 := f_M_carriesMore_18 m f) hm hN hp hpz hU hR hRz hiP m (i + 1) M (by omega) (by omega) (by omega) hM hP hG
      rcases y2 with ⟨y2, y3⟩ | ⟨y2, y3⟩
      · exact ⟨1, Y, y1, by rw [heq, y2], Or.inl ⟨rfl, y3⟩⟩
      · obtain ⟨v, M', z1, z2, z3⟩ := ih (i + 1) Y (by omega) (by omega) (mN_S y1 hM) (PLs_S y1 hP) (by rw [y1.2.1 4 (by omega) (by omega)]; exact hG)
        refine ⟨v, M', SF_tr y1 z1, by rw [heq, y2, z2], ?_⟩
        rcases z3 with z3 | ⟨z3, z4⟩
        · exact Or.inl z3
        · refine Or.inr ⟨z3, fun i' j' s' h0 h1 h2 h3 h hon => ?_⟩
          by_cases c : i' = i
          · subst c; exact y3 j' s' (by omega) h2 h3 h hon
          · exact z4 i' j' s' (by omega) h1 h2 h3 h hon
/-- what the reference leaves alone when it asks whether the grid carries more -/
def MF (M M' : z_S) : Prop := KM M M' ∧ gF M' 4 = gF M 4 ∧ (∀ k, 4 ≤ k → gG M' k = gG M k) ∧ (∀ t, 8 ≤ t → gJ M' t = gJ M t) ∧ gI M' 10 = gI M 10
theorem pm_more (hm : 30 < m) (hN : netOk N) (hT : 0 < Tr (LN N) 0) (hB : bkOk B) (h4 : gF M 4 = 1) (hM : mN M N) (hb : mB M B) (hU : U ≤ 20250) (hG : gG M 4 = lN U) (hx : ∀ j, j < B.1 → q6 (gJ M 8 j) = X j) (hxz : ∀ j, j < B.1 → isZ (X j) 60750000) (hp : ∀ v, v < 4 → q3 (pA a0 a1 a2 a3 v) = p v) (hpi : ∀ v, v < 4 → inP (pA a0 a1 a2 a3 v)) (hpz : ∀ v, v < 4 → isZ (p v) 2000) : ∃ v M', f_M_carriesMore m a0 a1 a2 a3 M = some (v, M') ∧ MF M M' ∧ ((v = 1 ∧ ∃ h, linesOk N h ∧ sm B.1 (rt B X p) < (U : Rat) * lv p N h) ∨ (v = 0 ∧ ∀ h, linesOk N h → (U : Rat) * lv p N h ≤ sm B.1 (rt B X p))) := by
  obtain ⟨w, w1, w2⟩ := pm_rent (m := m) (by omega) hB h4 hb hx hxz hp hpi hpz
  obtain ⟨Y, pa, pd, l1, l2, l3, l4⟩ := pm_linePlanes (m := m) hN (by omega) hM
  have hwz : isZ (sm B.1 (rt B X p)) 972000000000 := rts_Z hB hxz hpz (Nat.le_refl _)
  have h12 := l3.1
  obtain ⟨v, M', z1, z2, z3⟩ := cm_18 (m := m) hm hN hp hpz hU w2 hwz m 0 Y (by omega) (by omega) (mN_K l2 hM) l3 (by rw [l2.2.1]; exact hG)
  refine ⟨v, M', ?_, ⟨⟨?_, ?_, fun t ht => ?_⟩, ?_, fun k hk => ?_, fun t ht => ?_, ?_⟩, ?_⟩
  · unfold f_M_carriesMore
    rw [bo_s w1, bo_s l1]
    exact z2
  · rw [z1.1, l2.1 0 (by omega)]
  · rw [z1.1, l2.1 1 (by omega)]
  · rw [z1.2.2.1, l2.2.2.1 t (by omega)]
  · rw [z1.1, l2.1 4 (by omega)]
  · rw [z1.2.1 k (by omega) (by omega), l2.2.1]
  · rw [z1.2.2.2 t (by omega) (by omega), l2.2.2.2 t (by omega)]
  · rw [z1.2.2.1, l2.2.2.1 10 (by omega)]
  · rcases z3 with z3 | ⟨z3, z4⟩
    · exact Or.inl z3
    · refine Or.inr ⟨z3, fun h hl => ?_⟩
      by_cases c : (U : Rat) * lv p N h ≤ sm B.1 (rt B X p)
      · exact c
      · obtain ⟨h', k1, k2, k3, e1, e2, e3, e4, e5, e6, e7, e8, e9⟩ := corner p hN (show Tr (LN N) 0 ≠ 0 by grind) hl
        have pl : ∀ k, k < N.1 → act N k h' → ∃ q, q < 2 * N.1 ∧ pa q = lpl N k ∧ dot (lpl N k) h' = pd q := fun k hk ha => by
          obtain ⟨q1, q2, f1, f2, f3, f4, f5, f6⟩ := l4 k hk
          rcases ha with ha | ha
          · exact ⟨q1, f1, f3, by rw [f4]; exact ha⟩
          · exact ⟨q2, f2, f5, by rw [f6]; exact ha⟩
        obtain ⟨q1, g1, g2, g3⟩ := pl k1 e1 e5
        obtain ⟨q2, i1, i2, i3⟩ := pl k2 e2 e6
        obtain ⟨q3, j1, j2, j3⟩ := pl k3 e3 e7
        have hon : onP3 pa pd q3 q1 q2 h' := ⟨by rw [g2, i2, j2]; exact e4, by rw [j2]; exact j3, by rw [g2]; exact g3, by rw [i2]; exact i3⟩
        obtain ⟨a, b, s, hD, hs⟩ := on_sort hon j1 g1 i1
        have hU0 : (0 : Rat) ≤ (U : Rat) := nat_nn U
        have := Rat.mul_nonneg hU0 (show 0 ≤ lv p N h' - lv p N h by grind)
        exact (z4 a b s (by omega) hD.1 hD.2.1 hD.2.2.1 h' hs ⟨e8, by grind⟩).elim
end MORE
