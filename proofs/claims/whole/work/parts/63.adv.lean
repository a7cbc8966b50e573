/-! advance: which row stops the column -/
theorem cr_lt {a s x sp k sk : Rat} (hs : 0 < s) (hsp : 0 < sp) (hsk : 0 < sk) (h1 : a * sp < x * s) (h2 : x * sk ≤ k * sp) : a * sk < k * s := by
  have e : sp * (k * s - a * sk) = s * (k * sp - x * sk) + sk * (x * s - a * sp) := by grind
  have p1 := Rat.mul_nonneg (by grind : 0 ≤ s) (by grind : 0 ≤ k * sp - x * sk)
  have p2 := Rat.mul_pos hsk (by grind : 0 < x * s - a * sp)
  have p3 : 0 < sp * (k * s - a * sk) := by rw [e]; grind
  rcases mpos p3 with h | h
  · have := h.2; grind
  · have := h.1; grind
theorem cr_eq {a s x sp k sk : Rat} (hsp : 0 < sp) (h1 : a * sp = x * s) (h2 : x * sk = k * sp) : a * sk = k * s := by
  have e : sp * (a * sk) = sp * (k * s) := by
    have e1 : sp * (a * sk) = sk * (a * sp) := by grind
    have e2 : sp * (k * s) = s * (k * sp) := by grind
    rw [e1, e2, h1, ← h2]; grind
  have hne : sp ≠ 0 := by grind
  grind
theorem cr_lt2 {a s x sp k sk : Rat} (hs : 0 < s) (hsp : 0 < sp) (h1 : a * sp = x * s) (h2 : x * sk < k * sp) : a * sk < k * s := by
  have e : sp * (k * s - a * sk) = s * (k * sp - x * sk) + sk * (x * s - a * sp) := by grind
  have p1 := Rat.mul_pos hs (by grind : 0 < k * sp - x * sk)
  have p3 : 0 < sp * (k * s - a * sk) := by rw [e, h1]; grind
  rcases mpos p3 with h | h
  · have := h.2; grind
  · have := h.1; grind
section ADV
variable {S : z_S} {R n m : Nat} {isG : Nat → Prop} {pl : Nat → v3} {gr : Nat → Nat} {sg pw : Nat → Rat} {lo hi : Nat → Rat} {s : tab} {fz : Nat → Bool}
theorem pr_room (h : PI (R + 3) n isG pl gr sg pw lo hi s) (hr : PRep S R n s lo hi fz) (hb : bnds lo hi) (hm : 8 < m) {i : Nat} (hi0 : i < R) (hu : s.2.2.1 i < 15) : (∃ v, f_P_roomOf m (nI i) 0 S = some (v, S) ∧ q6 v = s.1 * (s.2.2.2.2 (s.2.2.1 i) - lo (s.2.2.1 i)) ∧ isZ (q6 v) 20000000000000) ∧ (∃ v, f_P_roomOf m (nI i) 1 S = some (v, S) ∧ q6 v = s.1 * (hi (s.2.2.1 i) - s.2.2.2.2 (s.2.2.1 i)) ∧ isZ (q6 v) 20000000000000) := by
  obtain ⟨v, h1, h2, h3⟩ := pr_rowTop (m := m) h hr hb hm hi0
  have hbz := PI_b h
  obtain ⟨⟨r1, r2, r3, r4⟩, r5, r6, r7, r8, r9, r10, r11⟩ := hr
  obtain ⟨b1, b2⟩ := r9 _ hu (Or.inl ⟨i, by omega, rfl⟩)
  obtain ⟨z1, z2⟩ := hb _ hu
  have el : q6 ((gI S 15 (s.2.2.1 i)).toInt64 * gG S 1) = lo (s.2.2.1 i) * s.1 := by
    have e : q6 (gI S 15 (s.2.2.1 i)).toInt64 * q6 (gG S 1) = lo (s.2.2.1 i) * s.1 := by rw [q6_i, b1, r5]
    rw [q6_mul (K := 3000 * 20250) (by rw [e]; exact isZ_mul z1 hbz) (by omega), e]
  have eh : q6 ((gI S 16 (s.2.2.1 i)).toInt64 * gG S 1) = hi (s.2.2.1 i) * s.1 := by
    have e : q6 (gI S 16 (s.2.2.1 i)).toInt64 * q6 (gG S 1) = hi (s.2.2.1 i) * s.1 := by rw [q6_i, b2, r5]
    rw [q6_mul (K := 3000 * 20250) (by rw [e]; exact isZ_mul z2 hbz) (by omega), e]
  constructor
  · refine ⟨v - (gI S 15 (s.2.2.1 i)).toInt64 * gG S 1, ?_, ?_, ?_⟩
    · unfold f_P_roomOf f_P_roomOf_51
      rw [ck_t (vi_n (by omega) (by omega)), bo_s h1, if_pos rfl, cl_n (by omega), (r7 i hi0).1, ck_t (vi_n (by omega) (by omega)), cl_n (by omega)]
    · have e : q6 v - q6 ((gI S 15 (s.2.2.1 i)).toInt64 * gG S 1) = s.1 * (s.2.2.2.2 (s.2.2.1 i) - lo (s.2.2.1 i)) := by rw [h2, el]; grind
      rw [q6_sub (isZ_sub h3 (by rw [el]; exact isZ_mul z1 hbz)) (by omega), e]
    · rw [q6_sub (isZ_sub h3 (by rw [el]; exact isZ_mul z1 hbz)) (by omega)]
      exact isZ_mono (isZ_sub h3 (by rw [el]; exact isZ_mul z1 hbz)) (by omega)
  · refine ⟨(gI S 16 (s.2.2.1 i)).toInt64 * gG S 1 - v, ?_, ?_, ?_⟩
    · unfold f_P_roomOf f_P_roomOf_51
      rw [ck_t (vi_n (by omega) (by omega)), bo_s h1, if_neg (by decide), cl_n (by omega), (r7 i hi0).1, ck_t (vi_n (by omega) (by omega)), cl_n (by omega)]
    · have e : q6 ((gI S 16 (s.2.2.1 i)).toInt64 * gG S 1) - q6 v = s.1 * (hi (s.2.2.1 i) - s.2.2.2.2 (s.2.2.1 i)) := by rw [h2, eh]; grind
      rw [q6_sub (isZ_sub (by rw [eh]; exact isZ_mul z2 hbz) h3) (by omega), e]
    · rw [q6_sub (isZ_sub (by rw [eh]; exact isZ_mul z2 hbz) h3) (by omega)]
      exact isZ_mono (isZ_sub (by rw [eh]; exact isZ_mul z2 hbz) h3) (by omega)
/-- what advance has chosen among the first i rows -/
def sel (lo hi : Nat → Rat) (s : tab) (c : Nat) (d : Rat) (i : Nat) (x4 : Int32) (x5 x7 : Int64) : Prop :=
  (x4 = -1 ∧ q6 x5 = hi (s.2.2.2.1 c) - lo (s.2.2.2.1 c) ∧ x7 = 1 ∧ ∀ k, k < i → s.2.2.1 k < 15 → s.2.1 k c ≠ 0 → (hi (s.2.2.2.1 c) - lo (s.2.2.2.1 c)) * absR (s.2.1 k c) ≤ s.1 * roomR lo hi s.2.2.2.2 s.2.1 s.2.2.1 d c k) ∨
  ∃ r, r < i ∧ x4 = nI r ∧ s.2.2.1 r < 15 ∧ s.2.1 r c ≠ 0 ∧ q6 x5 = s.1 * roomR lo hi s.2.2.2.2 s.2.1 s.2.2.1 d c r ∧ isZ (q6 x5) 20000000000000 ∧ q6 x7 = absR (s.2.1 r c) ∧ s.1 * roomR lo hi s.2.2.2.2 s.2.1 s.2.2.1 d c r < (hi (s.2.2.2.1 c) - lo (s.2.2.2.1 c)) * absR (s.2.1 r c) ∧
    ∀ k, k < i → s.2.2.1 k < 15 → s.2.1 k c ≠ 0 → (s.1 * roomR lo hi s.2.2.2.2 s.2.1 s.2.2.1 d c r) * absR (s.2.1 k c) < (s.1 * roomR lo hi s.2.2.2.2 s.2.1 s.2.2.1 d c k) * absR (s.2.1 r c) ∨ ((s.1 * roomR lo hi s.2.2.2.2 s.2.1 s.2.2.1 d c r) * absR (s.2.1 k c) = (s.1 * roomR lo hi s.2.2.2.2 s.2.1 s.2.2.1 d c k) * absR (s.2.1 r c) ∧ s.2.2.1 r ≤ s.2.2.1 k)
theorem absR_d {d x : Rat} (hd : d = 1 ∨ d = -1) : absR (d * x) = absR x := by
  unfold absR
  rcases hd with rfl | rfl
  · rw [show (1 : Rat) * x = x by grind]
  · by_cases h1 : 0 < -1 * x <;> by_cases h2 : 0 < x
    · exfalso; grind
    · rw [if_pos h1, if_neg h2]; grind
    · rw [if_neg h1, if_pos h2]; grind
    · rw [if_neg h1, if_neg h2]; grind
theorem isZ_absR {x : Rat} {K : Nat} (h : isZ x K) : isZ (absR x) K := by
  unfold absR
  by_cases h1 : 0 < x
  · rw [if_pos h1]; exact h
  · rw [if_neg h1]; exact isZ_neg h
theorem pr_adv_step (h : PI (R + 3) n isG pl gr sg pw lo hi s) (hr : PRep S R n s lo hi fz) (hb : bnds lo hi) (hm : 8 < m) {c : Nat} {d : Rat} {up : Int32} (hc : c < n) (hd : (up = 1 ∧ d = 1) ∨ (up = 0 ∧ d = -1)) {x3 : Int32} {q i : Nat} {x4 : Int32} {x5 x7 : Int64} (hi0 : i < R) (hsel : sel lo hi s c d i x4 x5 x7) : ∃ y4 y5 y7, f_P_advance_32 m (q + 1) (nI c) up x3 x4 x5 x7 (nI i) S = f_P_advance_32 m q (nI c) up x3 y4 y5 y7 (nI (i + 1)) S ∧ sel lo hi s c d (i + 1) y4 y5 y7 := by
  have hr0 := hr
  obtain ⟨⟨r1, r2, r3, r4⟩, r5, r6, r7, r8, r9, r10, r11⟩ := hr
  have hd' : d = 1 ∨ d = -1 := by rcases hd with hd | hd; exact Or.inl hd.2; exact Or.inr hd.2
  have hbp := h.1.1.1
  have hvi : vi (nI i) 8 = true := vi_n (by omega) (by omega)
  have hvc : vi (nI c) 8 = true := vi_n (by omega) (by omega)
  have hcli : (nI i).toNatClampNeg = i := cl_n (by omega)
  have hclc : (nI c).toNatClampNeg = c := cl_n (by omega)
  have hcz := pr_cell h hr0 hi0 hc
  -- the rise of the row
  have st1 : ∃ t0 : Int64, q6 t0 = d * s.2.1 i c ∧ f_P_advance_32 m (q + 1) (nI c) up x3 x4 x5 x7 (nI i) S = f_P_advance_67 m (f_P_advance_32 m q) (nI c) up x3 x4 x5 x7 (nI i) t0 S := by
    rcases hd with ⟨rfl, rfl⟩ | ⟨rfl, rfl⟩
    · refine ⟨gJ S (8 + i) c, by rw [r6 i c hi0 hc]; grind, ?_⟩
      rw [f_P_advance_32, if_neg (by rw [r3]; exact nI_ge hi0 (by omega)), if_neg (by decide), ck_t hvi, ck_t hvc, hcli, hclc]
    · refine ⟨-(gJ S (8 + i) c), by rw [q6_neg (by rw [r6 i c hi0 hc]; exact hcz) (by omega), r6 i c hi0 hc]; grind, ?_⟩
      rw [f_P_advance_32, if_neg (by rw [r3]; exact nI_ge hi0 (by omega)), if_pos rfl, ck_t hvi, ck_t hvc, hcli, hclc]
  obtain ⟨t0, et0, est1⟩ := st1
  rw [est1]
  -- a row that does not count
  have skip : (s.2.2.1 i < 15 → s.2.1 i c ≠ 0 → False) → sel lo hi s c d (i + 1) x4 x5 x7 := by
    intro hno
    rcases hsel with ⟨a1, a2, a3, a4⟩ | ⟨r, b1, b2, b3, b4, b5, b6, b7, b8, b9⟩
    · refine Or.inl ⟨a1, a2, a3, fun k hk k15 kc => ?_⟩
      by_cases e : k = i
      · subst e; exact absurd kc (fun q => hno k15 q)
      · exact a4 k (by omega) k15 kc
    · refine Or.inr ⟨r, by omega, b2, b3, b4, b5, b6, b7, b8, fun k hk k15 kc => ?_⟩
      by_cases e : k = i
      · subst e; exact absurd kc (fun q => hno k15 q)
      · exact b9 k (by omega) k15 kc
  by_cases hz : s.2.1 i c = 0
  · refine ⟨x4, x5, x7, ?_, skip (fun _ q => q hz)⟩
    unfold f_P_advance_67 f_P_advance_191
    rw [if_pos (q6_inj.mp (by rw [et0, hz, q6_0]; grind)), nI_1]
  have ht0 : ¬ t0 = 0 := fun e => by
    rw [e, q6_0] at et0
    rcases hd' with h1 | h1 <;> rw [h1] at et0 <;> grind
  by_cases h15 : s.2.2.1 i = 15
  · refine ⟨x4, x5, x7, ?_, skip (fun q _ => by omega)⟩
    unfold f_P_advance_67 f_P_advance_191
    rw [if_neg ht0, ck_t hvi, hcli, (r7 i hi0).1, h15, if_pos (by decide), nI_1]
  have hu15 : s.2.2.1 i < 15 := by have := (r7 i hi0).2; omega
  have hcz2 : isZ (s.2.1 i c) 20250 := PI_cell h (by omega) hc hu15
  have hne15 : ¬ nI (s.2.2.1 i) = 15 := fun e => h15 ((nI_eq (a := s.2.2.1 i) (b := 15) (by omega) (by omega)).mp e)
  -- its room and its speed
  have hap : 0 < absR (s.2.1 i c) := absR_pos hz
  obtain ⟨⟨v0, v1, v2, v3⟩, ⟨w0, w1, w2, w3⟩⟩ := pr_room (m := m) h hr0 hb hm hi0 hu15
  have hsp : q6 (if 0 < t0 then t0 else -t0) = absR (s.2.1 i c) := by
    rw [← absR_d hd', ← et0]
    unfold absR
    by_cases q1 : (0 : Int64) < t0
    · rw [if_pos q1, if_pos (by rw [q6_lt, q6_0] at q1; exact q1)]
    · rw [if_neg q1, if_neg (fun q2 => q1 (by rw [q6_lt, q6_0]; exact q2))]
      exact q6_neg (K := 20250) (by rw [et0]; exact isZ_pm hd' hcz2) (by omega)
  have st2 : ∃ rm : Int64, q6 rm = s.1 * roomR lo hi s.2.2.2.2 s.2.1 s.2.2.1 d c i ∧ isZ (q6 rm) 20000000000000 ∧ f_P_advance_67 m (f_P_advance_32 m q) (nI c) up x3 x4 x5 x7 (nI i) t0 S = f_P_advance_131 m (f_P_advance_32 m q) (nI c) up x3 x4 x5 x7 (nI i) rm (if 0 < t0 then t0 else -t0) (rm * x7 - x5 * (if 0 < t0 then t0 else -t0)) S := by
    unfold f_P_advance_67
    rw [if_neg ht0, ck_t hvi, hcli, (r7 i hi0).1, if_neg hne15]
    unfold roomR
    by_cases hpos : 0 < d * s.2.1 i c
    · refine ⟨w0, by rw [if_pos hpos]; exact w2, w3, ?_⟩
      rw [if_neg (fun q2 => by rw [q6_le, et0, q6_0] at q2; grind)]
      unfold f_P_advance_106
      rw [bo_s w1]
    · refine ⟨v0, by rw [if_neg hpos]; exact v2, v3, ?_⟩
      rw [if_pos (by rw [q6_le, et0, q6_0]; grind)]
      unfold f_P_advance_106
      rw [bo_s v1]
  obtain ⟨rm, erm, zrm, est2⟩ := st2
  rw [est2]
  generalize hspd : (if 0 < t0 then t0 else -t0) = sp at hsp ⊢
  have zsp : isZ (q6 sp) 20250 := by rw [hsp]; exact isZ_absR hcz2
  -- taking the row, keeping what was
  have take : ∀ f : Int32, ∀ od : Int64, (q6 od < 0 ∨ (q6 od = 0 ∧ f = 1)) → f_P_advance_158 m (f_P_advance_32 m q) (nI c) up x3 x4 x5 x7 (nI i) rm sp od f S = f_P_advance_32 m q (nI c) up x3 (nI i) rm sp (nI (i + 1)) S := by
    intro f od ho
    unfold f_P_advance_158 f_P_advance_179 f_P_advance_191
    rcases ho with ho | ⟨ho, rfl⟩
    · rw [if_pos (by rw [q6_lt, q6_0]; exact ho), nI_1]
    · rw [if_neg (by rw [q6_lt, q6_0, ho]; grind), if_pos (q6_inj.mp (by rw [ho, q6_0])), if_neg (by decide), nI_1]
  have keep : ∀ f : Int32, ∀ od : Int64, (0 < q6 od ∨ (q6 od = 0 ∧ f = 0)) → f_P_advance_158 m (f_P_advance_32 m q) (nI c) up x3 x4 x5 x7 (nI i) rm sp od f S = f_P_advance_32 m q (nI c) up x3 x4 x5 x7 (nI (i + 1)) S := by
    intro f od ho
    unfold f_P_advance_158 f_P_advance_179 f_P_advance_191
    rcases ho with ho | ⟨ho, rfl⟩
    · rw [if_neg (by rw [q6_lt, q6_0]; grind), if_neg (fun e => by rw [← q6_inj, q6_0] at e; grind), nI_1]
    · rw [if_neg (by rw [q6_lt, q6_0, ho]; grind), if_pos (q6_inj.mp (by rw [ho, q6_0])), if_pos rfl, nI_1]
  have hself : ∀ k, k = i → (s.1 * roomR lo hi s.2.2.2.2 s.2.1 s.2.2.1 d c i) * absR (s.2.1 k c) = (s.1 * roomR lo hi s.2.2.2.2 s.2.1 s.2.2.1 d c k) * absR (s.2.1 i c) ∧ s.2.2.1 i ≤ s.2.2.1 k := fun k e => by subst e; exact ⟨rfl, Nat.le_refl _⟩
  rcases hsel with ⟨a1, a2, a3, a4⟩ | ⟨r, b1, b2, b3, b4, b5, b6, b7, b8, b9⟩
  · -- nothing stopped it so far
    subst a1
    subst a3
    have zx5 : isZ (q6 x5) 6000 := by rw [a2]; exact isZ_sub (hb _ (pr_col15 h hc)).2 (hb _ (pr_col15 h hc)).1
    have eo : q6 (rm * 1 - x5 * sp) = s.1 * roomR lo hi s.2.2.2.2 s.2.1 s.2.2.1 d c i - (hi (s.2.2.2.1 c) - lo (s.2.2.2.1 c)) * absR (s.2.1 i c) := by
      have e1 : rm * 1 = rm := Int64.mul_one rm
      have e2 : q6 (x5 * sp) = q6 x5 * q6 sp := q6_mul (isZ_mul zx5 zsp) (by omega)
      rw [e1, q6_sub (isZ_sub zrm (by rw [e2]; exact isZ_mul zx5 zsp)) (by omega), e2, erm, a2, hsp]
    have e131 : f_P_advance_131 m (f_P_advance_32 m q) (nI c) up x3 (-1) x5 1 (nI i) rm sp (rm * 1 - x5 * sp) S = f_P_advance_158 m (f_P_advance_32 m q) (nI c) up x3 (-1) x5 1 (nI i) rm sp (rm * 1 - x5 * sp) 0 S := by
      unfold f_P_advance_131 f_P_advance_157
      rw [if_pos (by decide)]
    rw [e131]
    by_cases hlt : q6 (rm * 1 - x5 * sp) < 0
    · refine ⟨nI i, rm, sp, take _ _ (Or.inl hlt), Or.inr ⟨i, by omega, rfl, hu15, hz, erm, zrm, hsp, by rw [eo] at hlt; grind, fun k hk k15 kc => ?_⟩⟩
      by_cases e : k = i
      · exact Or.inr (hself k e)
      · left
        have h9 := a4 k (by omega) k15 kc
        refine cr_lt (sp := 1) (x := hi (s.2.2.2.1 c) - lo (s.2.2.2.1 c)) hap (by grind) (absR_pos kc) (by rw [eo] at hlt; grind) (by grind)
    · refine ⟨-1, x5, 1, keep _ _ ?_, Or.inl ⟨rfl, a2, rfl, fun k hk k15 kc => ?_⟩⟩
      · by_cases h0 : q6 (rm * 1 - x5 * sp) = 0
        · exact Or.inr ⟨h0, rfl⟩
        · left; grind
      · by_cases e : k = i
        · subst e; rw [eo] at hlt; grind
        · exact a4 k (by omega) k15 kc
  · -- row r stopped it so far
    subst b2
    have hapr : 0 < absR (s.2.1 r c) := absR_pos b4
    have zx7 : isZ (q6 x7) 20250 := by rw [b7]; exact isZ_absR (PI_cell h (by omega) hc b3)
    have eo : q6 (rm * x7 - x5 * sp) = (s.1 * roomR lo hi s.2.2.2.2 s.2.1 s.2.2.1 d c i) * absR (s.2.1 r c) - (s.1 * roomR lo hi s.2.2.2.2 s.2.1 s.2.2.1 d c r) * absR (s.2.1 i c) := by
      have e1 : q6 (rm * x7) = q6 rm * q6 x7 := q6_mul (isZ_mul zrm zx7) (by omega)
      have e2 : q6 (x5 * sp) = q6 x5 * q6 sp := q6_mul (isZ_mul b6 zsp) (by omega)
      rw [q6_sub (isZ_sub (by rw [e1]; exact isZ_mul zrm zx7) (by rw [e2]; exact isZ_mul b6 zsp)) (by omega), e1, e2, erm, b5, b7, hsp]
    have e131 : f_P_advance_131 m (f_P_advance_32 m q) (nI c) up x3 (nI r) x5 x7 (nI i) rm sp (rm * x7 - x5 * sp) S = f_P_advance_158 m (f_P_advance_32 m q) (nI c) up x3 (nI r) x5 x7 (nI i) rm sp (rm * x7 - x5 * sp) (if s.2.2.1 r ≤ s.2.2.1 i then 0 else 1) S := by
      unfold f_P_advance_131 f_P_advance_157
      rw [if_neg (nI_pos (by omega)), ck_t hvi, ck_t (vi_n (by omega) (by omega)), hcli, cl_n (by omega), (r7 r (by omega)).1, (r7 i hi0).1]
      by_cases e : s.2.2.1 r ≤ s.2.2.1 i
      · rw [if_pos e, if_pos (nI_le e (by omega))]
      · rw [if_neg e, if_neg (nI_ge (by omega) (by omega))]
    rw [e131]
    by_cases hlt : q6 (rm * x7 - x5 * sp) < 0
    · have hlt' := hlt
      rw [eo] at hlt'
      have hown : s.1 * roomR lo hi s.2.2.2.2 s.2.1 s.2.2.1 d c i < (hi (s.2.2.2.1 c) - lo (s.2.2.2.1 c)) * absR (s.2.1 i c) := by
        have := cr_lt (a := s.1 * roomR lo hi s.2.2.2.2 s.2.1 s.2.2.1 d c i) (s := absR (s.2.1 i c)) (x := s.1 * roomR lo hi s.2.2.2.2 s.2.1 s.2.2.1 d c r) (sp := absR (s.2.1 r c)) (sk := 1) (k := hi (s.2.2.2.1 c) - lo (s.2.2.2.1 c)) hap hapr (by decide) (by grind) (by grind)
        grind
      refine ⟨nI i, rm, sp, take _ _ (Or.inl hlt), Or.inr ⟨i, by omega, rfl, hu15, hz, erm, zrm, hsp, hown, fun k hk k15 kc => ?_⟩⟩
      by_cases e : k = i
      · exact Or.inr (hself k e)
      · left
        rcases b9 k (by omega) k15 kc with h9 | h9
        · exact cr_lt hap hapr (absR_pos kc) (by grind) (by grind : (s.1 * roomR lo hi s.2.2.2.2 s.2.1 s.2.2.1 d c r) * absR (s.2.1 k c) ≤ (s.1 * roomR lo hi s.2.2.2.2 s.2.1 s.2.2.1 d c k) * absR (s.2.1 r c))
        · exact cr_lt hap hapr (absR_pos kc) (by grind) (by have := h9.1; grind : (s.1 * roomR lo hi s.2.2.2.2 s.2.1 s.2.2.1 d c r) * absR (s.2.1 k c) ≤ (s.1 * roomR lo hi s.2.2.2.2 s.2.1 s.2.2.1 d c k) * absR (s.2.1 r c))
    · by_cases h0 : q6 (rm * x7 - x5 * sp) = 0
      · have h0' := h0
        rw [eo] at h0'
        have heq : (s.1 * roomR lo hi s.2.2.2.2 s.2.1 s.2.2.1 d c i) * absR (s.2.1 r c) = (s.1 * roomR lo hi s.2.2.2.2 s.2.1 s.2.2.1 d c r) * absR (s.2.1 i c) := by grind
        by_cases hle : s.2.2.1 r ≤ s.2.2.1 i
        · rw [if_pos hle]
          refine ⟨nI r, x5, x7, keep _ _ (Or.inr ⟨h0, rfl⟩), Or.inr ⟨r, by omega, rfl, b3, b4, b5, b6, b7, b8, fun k hk k15 kc => ?_⟩⟩
          by_cases e : k = i
          · subst e; exact Or.inr ⟨heq.symm, hle⟩
          · exact b9 k (by omega) k15 kc
        · rw [if_neg hle]
          have hown : s.1 * roomR lo hi s.2.2.2.2 s.2.1 s.2.2.1 d c i < (hi (s.2.2.2.1 c) - lo (s.2.2.2.1 c)) * absR (s.2.1 i c) := by
            have := cr_lt2 (a := s.1 * roomR lo hi s.2.2.2.2 s.2.1 s.2.2.1 d c i) (s := absR (s.2.1 i c)) (sk := 1) (k := hi (s.2.2.2.1 c) - lo (s.2.2.2.1 c)) hap hapr heq (by grind)
            grind
          refine ⟨nI i, rm, sp, take _ _ (Or.inr ⟨h0, rfl⟩), Or.inr ⟨i, by omega, rfl, hu15, hz, erm, zrm, hsp, hown, fun k hk k15 kc => ?_⟩⟩
          by_cases e : k = i
          · exact Or.inr (hself k e)
          · rcases b9 k (by omega) k15 kc with h9 | h9
            · exact Or.inl (cr_lt2 hap hapr heq h9)
            · exact Or.inr ⟨cr_eq hapr heq h9.1, by omega⟩
      · refine ⟨nI r, x5, x7, keep _ _ (Or.inl (by grind)), Or.inr ⟨r, by omega, rfl, b3, b4, b5, b6, b7, b8, fun k hk k15 kc => ?_⟩⟩
        by_cases e : k = i
        · subst e; left; rw [eo] at hlt h0; grind
        · exact b9 k (by omega) k15 kc
theorem pr_adv_loop (h : PI (R + 3) n isG pl gr sg pw lo hi s) (hr : PRep S R n s lo hi fz) (hb : bnds lo hi) (hm : 8 < m) {c : Nat} {d : Rat} {up : Int32} (hc : c < n) (hd : (up = 1 ∧ d = 1) ∨ (up = 0 ∧ d = -1)) {x3 : Int32} : ∀ q i x4 x5 x7, i ≤ R → R - i < q → sel lo hi s c d i x4 x5 x7 → ∃ q' y4 y5 y7, f_P_advance_32 m q (nI c) up x3 x4 x5 x7 (nI i) S = f_P_advance_32 m (q' + 1) (nI c) up x3 y4 y5 y7 (nI R) S ∧ sel lo hi s c d R y4 y5 y7 := by
  intro q
  induction q with
  | zero => intro i x4 x5 x7 _ h; omega
  | succ q ih =>
    intro i x4 x5 x7 hi hq hs
    by_cases e : i = R
    · subst e; exact ⟨q, x4, x5, x7, rfl, hs⟩
    · obtain ⟨y4, y5, y7, e1, e2⟩ := pr_adv_step (m := m) (q := q) (x3 := x3) h hr hb hm hc hd (show i < R by omega) hs
      obtain ⟨q', z4, z5, z7, e3, e4⟩ := ih (i + 1) y4 y5 y7 (by omega) (by omega) e2
      exact ⟨q', z4, z5, z7, e1.trans e3, e4⟩
/-- what was chosen is what the table's move asks for -/
theorem sel_move (h : PI (R + 3) n isG pl gr sg pw lo hi s) (hr : PRep S R n s lo hi fz) {c : Nat} {d : Rat} {x4 : Int32} {x5 x7 : Int64} (hs : sel lo hi s c d R x4 x5 x7) : (x4 = -1 ∧ Flip (R + 3) lo hi s.2.2.2.2 s.1 s.2.1 s.2.2.1 s.2.2.2.1 c d) ∨ ∃ r, r < R ∧ x4 = nI r ∧ Stop (R + 3) lo hi s.2.2.2.2 s.1 s.2.1 s.2.2.1 s.2.2.2.1 c d r := by
  have hbp := h.1.1.1
  have hgh : ∀ k, k < R + 3 → s.2.2.1 k < 15 → k < R := fun k hk k15 => by
    obtain ⟨-, -, e16, e17, e18, -, -⟩ := h.1
    refine Classical.byContradiction fun hn => ?_
    rcases (show k = R + 3 - 3 ∨ k = R + 3 - 2 ∨ k = R + 3 - 1 by omega) with e | e | e <;> rw [e] at k15 <;> omega
  rcases hs with ⟨a1, a2, a3, a4⟩ | ⟨r, b1, b2, b3, b4, b5, b6, b7, b8, b9⟩
  · exact Or.inl ⟨a1, fun k hk k15 kc => a4 k (hgh k hk k15) k15 kc⟩
  · refine Or.inr ⟨r, b1, b2, by omega, b3, b4, b8, fun k hk k15 kc => ?_⟩
    rcases b9 k (hgh k hk k15) k15 kc with h9 | ⟨h9, h10⟩
    · left
      have e : 0 < s.1 * (roomR lo hi s.2.2.2.2 s.2.1 s.2.2.1 d c k * absR (s.2.1 r c) - roomR lo hi s.2.2.2.2 s.2.1 s.2.2.1 d c r * absR (s.2.1 k c)) := by grind
      rcases mpos e with q | q
      · have := q.2; grind
      · have := q.1; grind
    · right
      refine ⟨?_, h10⟩
      have hb0 : s.1 ≠ 0 := by grind
      have e : s.1 * (roomR lo hi s.2.2.2.2 s.2.1 s.2.2.1 d c r * absR (s.2.1 k c)) = s.1 * (roomR lo hi s.2.2.2.2 s.2.1 s.2.2.1 d c k * absR (s.2.1 r c)) := by grind
      grind
end ADV
