/-! the cells are whole numbers, and small -/
def isZ (x : Rat) (K : Nat) : Prop := ∃ z : Int, x = (z : Rat) ∧ -(K : Int) ≤ z ∧ z ≤ K
theorem isZ_0 (K : Nat) : isZ 0 K := ⟨0, rfl, by omega, by omega⟩
theorem isZ_mono {x : Rat} {K L : Nat} (h : isZ x K) (hl : K ≤ L) : isZ x L := by obtain ⟨z, e, h1, h2⟩ := h; exact ⟨z, e, by omega, by omega⟩
theorem isZ_neg {x : Rat} {K : Nat} (h : isZ x K) : isZ (-x) K := by obtain ⟨z, e, h1, h2⟩ := h; exact ⟨-z, by rw [e, Rat.intCast_neg], by omega, by omega⟩
theorem isZ_add {x y : Rat} {K L : Nat} (h : isZ x K) (h' : isZ y L) : isZ (x + y) (K + L) := by
  obtain ⟨z, e, h1, h2⟩ := h
  obtain ⟨z', e', h1', h2'⟩ := h'
  exact ⟨z + z', by rw [e, e', Rat.intCast_add], by omega, by omega⟩
theorem isZ_sub {x y : Rat} {K L : Nat} (h : isZ x K) (h' : isZ y L) : isZ (x - y) (K + L) := by
  have := isZ_add h (isZ_neg h')
  rwa [show x + -y = x - y by grind] at this
theorem int_mul_bd {a b : Int} {K L : Nat} (h1 : -(K : Int) ≤ a) (h2 : a ≤ K) (h3 : -(L : Int) ≤ b) (h4 : b ≤ L) : -((K * L : Nat) : Int) ≤ a * b ∧ a * b ≤ ((K * L : Nat) : Int) := by
  have e : ((K * L : Nat) : Int) = (K : Int) * L := by simp
  have ha : a.natAbs ≤ K := by omega
  have hb : b.natAbs ≤ L := by omega
  have hm : (a * b).natAbs ≤ K * L := by rw [Int.natAbs_mul]; exact Nat.mul_le_mul ha hb
  omega
theorem isZ_mul {x y : Rat} {K L : Nat} (h : isZ x K) (h' : isZ y L) : isZ (x * y) (K * L) := by
  obtain ⟨z, e, h1, h2⟩ := h
  obtain ⟨z', e', h1', h2'⟩ := h'
  have := int_mul_bd h1 h2 h1' h2'
  exact ⟨z * z', by rw [e, e', Rat.intCast_mul], this.1, this.2⟩
theorem isZ_sm {n K : Nat} {f : Nat → Rat} (h : ∀ j, j < n → isZ (f j) K) : isZ (sm n f) (n * K) := by
  induction n with
  | zero => exact isZ_0 _
  | succ n ih =>
    have := isZ_add (ih (fun j hj => h j (by omega))) (h n (by omega))
    rw [Nat.succ_mul]
    exact this
theorem isZ_pm {x e : Rat} {K : Nat} (he : e = 1 ∨ e = -1) (h : isZ x K) : isZ (e * x) K := by
  rcases he with rfl | rfl
  · rwa [show (1 : Rat) * x = x by grind]
  · rw [show (-1 : Rat) * x = -x by grind]; exact isZ_neg h
def vZ (a : v3) (K : Nat) : Prop := isZ a.1 K ∧ isZ a.2.1 K ∧ isZ a.2.2 K
theorem vZ_scl {a : v3} {e : Rat} {K : Nat} (he : e = 1 ∨ e = -1) (h : vZ a K) : vZ (scl e a) K := ⟨isZ_pm he h.1, isZ_pm he h.2.1, isZ_pm he h.2.2⟩
theorem vZ_crs {a b : v3} {K L : Nat} (h : vZ a K) (h' : vZ b L) : vZ (crs a b) (K * L + K * L) := ⟨isZ_sub (isZ_mul h.2.1 h'.2.2) (isZ_mul h.2.2 h'.2.1), isZ_sub (isZ_mul h.2.2 h'.1) (isZ_mul h.1 h'.2.2), isZ_sub (isZ_mul h.1 h'.2.1) (isZ_mul h.2.1 h'.1)⟩
theorem isZ_dot {a b : v3} {K L : Nat} (h : vZ a K) (h' : vZ b L) : isZ (dot a b) (K * L + K * L + K * L) := isZ_add (isZ_add (isZ_mul h.1 h'.1) (isZ_mul h.2.1 h'.2.1)) (isZ_mul h.2.2 h'.2.2)
theorem vZ_inU {p q r d : v3} (hp : vZ p 15) (hq : vZ q 15) (hr : vZ r 15) (h : inU p q r d) : vZ d 450 := by
  rcases h with h | ⟨e, he, h | h | h⟩
  · rw [h]; exact ⟨isZ_0 _, isZ_0 _, isZ_0 _⟩
  · rw [h]; exact vZ_scl he (vZ_crs hq hr)
  · rw [h]; exact vZ_scl he (vZ_crs hr hp)
  · rw [h]; exact vZ_scl he (vZ_crs hp hq)
/-- a table of a network with small planes, and what it needs to stay one -/
def PI (R n : Nat) (isG : Nat → Prop) (pl : Nat → v3) (gr : Nat → Nat) (sg pw : Nat → Rat) (lo hi : Nat → Rat) (s : tab) : Prop := NetT R n isG pl gr sg pw lo hi s ∧ Geo R n isG pl s ∧ (∀ u, u < 15 → live R n s u → lo u ≤ hi u) ∧ (∀ g, isG g → vZ (pl g) 15) ∧ (∀ u, u < 15 → isZ (pw u) 2000)
theorem PI_move {R n : Nat} {isG : Nat → Prop} {pl : Nat → v3} {gr : Nat → Nat} {sg pw : Nat → Rat} {lo hi : Nat → Rat} {fz : Nat → Bool} {aim : Nat} {s t : tab} (h : PI R n isG pl gr sg pw lo hi s) (hm : Move R n lo hi fz aim s t) : PI R n isG pl gr sg pw lo hi t := by
  obtain ⟨hN, hG, hlh, hpl, hpw⟩ := h
  have hN0 := hN
  obtain ⟨hg, h3, e16, e17, e18, hlv, hsg⟩ := hN
  have hg' := Move_good hlh hg hm
  have hlm := live_move hm
  obtain ⟨γ, c, d, hga, hc, ⟨hf, rfl⟩ | ⟨r, hs, rfl⟩⟩ := hm
  · exact ⟨⟨hg', h3, e16, e17, e18, hlv, hsg⟩, hG, hlh, hpl, hpw⟩
  · have hu := hs.2.1
    have n1 : R - 3 ≠ r := fun e => by rw [← e, e16] at hu; omega
    have n2 : R - 2 ≠ r := fun e => by rw [← e, e17] at hu; omega
    have n3 : R - 1 ≠ r := fun e => by rw [← e, e18] at hu; omega
    refine ⟨⟨hg', h3, ?_, ?_, ?_, fun u hu => (hlv u hu).trans (hlm u).symm, hsg⟩, Geo_stop hN0 hG d hc.1 hs.1 hu hs.2.2.1, fun u hu hl => hlh u hu ((hlm u).mp hl), hpl, hpw⟩
    · show pvR s.2.2.1 s.2.2.2.1 r c (R - 3) = 16; unfold pvR; rw [if_neg n1]; exact e16
    · show pvR s.2.2.1 s.2.2.2.1 r c (R - 2) = 17; unfold pvR; rw [if_neg n2]; exact e17
    · show pvR s.2.2.1 s.2.2.2.1 r c (R - 1) = 18; unfold pvR; rw [if_neg n3]; exact e18
section PIZ
variable {R n : Nat} {isG : Nat → Prop} {pl : Nat → v3} {gr : Nat → Nat} {sg pw : Nat → Rat} {lo hi : Nat → Rat} {s : tab}
theorem PI_b (h : PI R n isG pl gr sg pw lo hi s) : isZ s.1 20250 := by
  obtain ⟨hN, ⟨p, q, r, ⟨g1, e1, i1, f1, rfl⟩, ⟨g2, e2, i2, f2, rfl⟩, ⟨g3, e3, i3, f3, rfl⟩, hdet, hin⟩, hlh, hpl, hpw⟩ := h
  rw [← hdet]
  exact isZ_dot (vZ_scl f1 (hpl g1 i1)) (vZ_crs (vZ_scl f2 (hpl g2 i2)) (vZ_scl f3 (hpl g3 i3)))
theorem PI_h (h : PI R n isG pl gr sg pw lo hi s) {j : Nat} (hj : j < n) : vZ (hD R s j) 450 := by
  obtain ⟨hN, ⟨p, q, r, ⟨g1, e1, i1, f1, rfl⟩, ⟨g2, e2, i2, f2, rfl⟩, ⟨g3, e3, i3, f3, rfl⟩, hdet, hin⟩, hlh, hpl, hpw⟩ := h
  exact vZ_inU (vZ_scl f1 (hpl g1 i1)) (vZ_scl f2 (hpl g2 i2)) (vZ_scl f3 (hpl g3 i3)) (hin j hj)
theorem PI_cell (h : PI R n isG pl gr sg pw lo hi s) {i j : Nat} (hi0 : i < R) (hj : j < n) (hu : s.2.2.1 i < 15) : isZ (s.2.1 i j) 20250 := by
  have hh := h
  have hb := PI_b h
  have hd := PI_h h hj
  obtain ⟨hN, -, hlh, hpl, hpw⟩ := h
  have hN0 := hN
  obtain ⟨hg, h3, e16, e17, e18, hlv, hsg⟩ := hN
  have hG : isG (gr (s.2.2.1 i)) := (hlv _ hu).mpr (Or.inl ⟨i, hi0, rfl⟩)
  have hub := hsg _ hu hG
  by_cases e : gr (s.2.2.1 i) = gr (s.2.2.2.1 j)
  · rw [(net_same hN0 hi0 hj hu e).2]
    have hvb := hsg (s.2.2.2.1 j) (hg.2.2.2.2.1 j hj).1 (by rw [← e]; exact hG)
    rw [show - (sg (s.2.2.1 i) * sg (s.2.2.2.1 j) * s.1) = sg (s.2.2.1 i) * (sg (s.2.2.2.1 j) * (- s.1)) by grind]
    exact isZ_pm hub (isZ_pm hvb (isZ_neg hb))
  · have e1 := net_cell hN0 hi0 hj hu e
    have e2 : s.2.1 i j = sg (s.2.2.1 i) * dot (pl (gr (s.2.2.1 i))) (hD R s j) := by rw [e1]; rcases hub with h1 | h1 <;> rw [h1] <;> grind
    rw [e2]
    exact isZ_pm hub (isZ_dot (hpl _ hG) hd)
theorem PI_Col (h : PI R n isG pl gr sg pw lo hi s) {j u : Nat} (hj : j < n) (hu : u < 15) : isZ (Col R s.1 s.2.1 s.2.2.1 s.2.2.2.1 j u) 20250 := by
  have hwf := h.1.1.2.1
  by_cases h1 : ∃ i, i < R ∧ s.2.2.1 i = u
  · obtain ⟨i, hi0, e⟩ := h1
    subst e
    rw [Col_row hwf hj hi0]
    exact PI_cell h hi0 hj hu
  · by_cases h2 : s.2.2.2.1 j = u
    · subst h2
      rw [Col_col hwf hj hj, if_pos rfl]
      exact PI_b h
    · rw [Col_none (fun i hi0 e => h1 ⟨i, hi0, e⟩) h2]
      exact isZ_0 _
theorem PI_worth (h : PI R n isG pl gr sg pw lo hi s) {i j : Nat} (hi0 : i < R) (hj : j < n) (hu : s.2.2.1 i = 15) : isZ (s.2.1 i j) 607500000 := by
  have e := (net_col h.1 hj).2
  have e2 : s.2.1 i j = Col R s.1 s.2.1 s.2.2.1 s.2.2.2.1 j 15 := by rw [← Col_row (b := s.1) (C := s.2.1) h.1.1.2.1 hj hi0, hu]
  rw [e2, e]
  exact isZ_sm (K := 40500000) (fun u hu => isZ_mul (h.2.2.2.2 u hu) (PI_Col h hj hu))
/-- four lines cannot stand in columns at once -/
theorem cnt_ex : ∀ (m : Nat) (p : Nat → Bool) (k : Nat), k ≤ cnt m p → ∃ f : Nat → Nat, (∀ i, i < k → f i < m ∧ p (f i) = true) ∧ ∀ i j, i < j → j < k → f i < f j
  | 0, p, k, h => ⟨fun _ => 0, fun i hi => absurd h (by show ¬ k ≤ 0; omega), fun i j hij hj => absurd h (by show ¬ k ≤ 0; omega)⟩
  | m + 1, p, k, h => by
    have h : k ≤ cnt m p + (if p m = true then 1 else 0) := h
    by_cases hp : p m = true
    · rw [if_pos hp] at h
      cases k with
      | zero => exact ⟨fun _ => 0, fun i hi => absurd hi (by omega), fun i j _ hj => absurd hj (by omega)⟩
      | succ k =>
        obtain ⟨f, f1, f2⟩ := cnt_ex m p k (by omega)
        refine ⟨fun i => if i < k then f i else m, fun i hi => ?_, fun i j hij hj => ?_⟩
        · by_cases e : i < k
          · simp only [if_pos e]; exact ⟨by have := (f1 i e).1; omega, (f1 i e).2⟩
          · simp only [if_neg e]; exact ⟨by omega, hp⟩
        · simp only [if_pos (show i < k by omega)]
          by_cases e : j < k
          · simp only [if_pos e]; exact f2 i j hij e
          · simp only [if_neg e]; exact (f1 i (by omega)).1
    · rw [if_neg hp] at h
      obtain ⟨f, f1, f2⟩ := cnt_ex m p k (by omega)
      exact ⟨f, fun i hi => ⟨by have := (f1 i hi).1; omega, (f1 i hi).2⟩, f2⟩
theorem PI_lines (h : PI R n isG pl gr sg pw lo hi s) (hgr : ∀ k, k < 6 → isG (gr (9 + k)) → gr (9 + k) = 9 + k) (hgu : ∀ u k, u < 15 → k < 6 → gr u = 9 + k → u = 9 + k) : cnt 6 (fun k => colb n s.2.2.2.1 (9 + k)) ≤ 3 := by
  refine Classical.byContradiction fun hn => ?_
  have hN0 := h.1
  obtain ⟨hg, h3, e16, e17, e18, hlv, hsg⟩ := h.1
  obtain ⟨p, q, r, -, -, -, hdet, hin⟩ := h.2.1
  obtain ⟨f, f1, f2⟩ := cnt_ex 6 _ 4 (show 4 ≤ cnt 6 (fun k => colb n s.2.2.2.1 (9 + k)) by omega)
  -- the column of each of the four
  have hcol : ∀ i, ∃ j, i < 4 → j < n ∧ s.2.2.2.1 j = 9 + f i := fun i => by
    by_cases hi4 : i < 4
    · obtain ⟨j, hj, e⟩ := colb_iff.mp (f1 i hi4).2
      exact ⟨j, fun _ => ⟨hj, e⟩⟩
    · exact ⟨0, fun q => absurd q hi4⟩
  have hb := hg.1
  have hfl : ∀ i k, i < 4 → k < 4 → ∀ ji jk, ji < n → jk < n → s.2.2.2.1 ji = 9 + f i → s.2.2.2.1 jk = 9 + f k → dot (pl (9 + f i)) (hD R s jk) = if i = k then sg (9 + f i) * s.1 else 0 := by
    intro i k hi4 hk4 ji jk hji hjk ei ek
    have h15 : 9 + f i < 15 := by have := (f1 i hi4).1; omega
    have hl : live R n s (9 + f i) := Or.inr ⟨ji, hji, ei⟩
    have hG0 : isG (gr (9 + f i)) := (hlv _ h15).mpr hl
    have hge := hgr (f i) (f1 i hi4).1 hG0
    have hG : isG (9 + f i) := by rw [hge] at hG0; exact hG0
    rw [net_free hN0 hG hjk (fun x hx hx15 e => hg.2.1.2.2 x ji hx hji (by rw [ei]; exact hgu _ _ hx15 (f1 i hi4).1 e)), ek]
    by_cases e : i = k
    · subst e; rw [if_pos hge, if_pos rfl]
    · rw [if_neg e, if_neg]
      intro e2
      have h9 := hgu (9 + f k) (f i) (by have := (f1 k hk4).1; omega) (f1 i hi4).1 e2
      rcases Nat.lt_or_ge i k with h1 | h1
      · have := f2 i k h1 hk4; omega
      · have := f2 k i (by omega) hi4; omega
  have hsl : ∀ i, i < 4 → ∃ (z : Nat) (e : Rat), z < 3 ∧ (e = 1 ∨ e = -1) ∧ ∀ j, j < n → s.2.2.2.1 j = 9 + f i → hD R s j = scl e (if z = 0 then crs q r else if z = 1 then crs r p else crs p q) := by
    intro i hi4
    obtain ⟨j0, hj0⟩ := hcol i
    obtain ⟨hj0n, ej0⟩ := hj0 hi4
    have hu : ∀ j, j < n → s.2.2.2.1 j = 9 + f i → j = j0 := fun j hj e => hg.2.1.2.1 j j0 hj hj0n (e.trans ej0.symm)
    rcases hin j0 hj0n with h0 | ⟨e, he, h1 | h1 | h1⟩
    · exfalso
      have h9 := hfl i i hi4 hi4 j0 j0 hj0n hj0n ej0 ej0
      rw [if_pos rfl, h0] at h9
      have e0 : dot (pl (9 + f i)) ((0, 0, 0) : v3) = 0 := by show (pl (9 + f i)).1 * 0 + (pl (9 + f i)).2.1 * 0 + (pl (9 + f i)).2.2 * 0 = 0; grind
      rw [e0] at h9
      have h15 : 9 + f i < 15 := by have := (f1 i hi4).1; omega
      have hsb := hsg _ h15 ((hlv _ h15).mpr (Or.inr ⟨j0, hj0n, ej0⟩))
      rcases hsb with h2 | h2 <;> rw [h2] at h9 <;> grind
    · exact ⟨0, e, by omega, he, fun j hj ej => by rw [hu j hj ej]; exact h1⟩
    · exact ⟨1, e, by omega, he, fun j hj ej => by rw [hu j hj ej]; exact h1⟩
    · exact ⟨2, e, by omega, he, fun j hj ej => by rw [hu j hj ej]; exact h1⟩
  have hz : ∀ i, ∃ z, i < 4 → z < 3 ∧ ∃ e : Rat, (e = 1 ∨ e = -1) ∧ ∀ j, j < n → s.2.2.2.1 j = 9 + f i → hD R s j = scl e (if z = 0 then crs q r else if z = 1 then crs r p else crs p q) := fun i => by
    by_cases hi4 : i < 4
    · obtain ⟨z, e, a1, a2, a3⟩ := hsl i hi4; exact ⟨z, fun _ => ⟨a1, e, a2, a3⟩⟩
    · exact ⟨0, fun q => absurd q hi4⟩
  have hzs := fun i => Classical.choose_spec (hz i)
  refine pigeon 3 (fun i => Classical.choose (hz i)) (fun i hi3 => (hzs i (by omega)).1) (fun i k hik hk3 ez => ?_)
  have ez : Classical.choose (hz i) = Classical.choose (hz k) := ez
  obtain ⟨-, ei, hei, hdi⟩ := hzs i (by omega)
  obtain ⟨-, ek, hek, hdk⟩ := hzs k (by omega)
  obtain ⟨ji, hji⟩ := hcol i
  obtain ⟨jk, hjk⟩ := hcol k
  obtain ⟨hjin, eji⟩ := hji (by omega)
  obtain ⟨hjkn, ejk⟩ := hjk (by omega)
  have d1 := hdi ji hjin eji
  have d2 := hdk jk hjkn ejk
  rw [← ez] at d2
  have x1 := hfl i i (by omega) (by omega) ji ji hjin hjin eji eji
  have x2 := hfl i k (by omega) (by omega) ji jk hjin hjkn eji ejk
  rw [if_pos rfl, d1, dot_scl] at x1
  rw [if_neg (by omega), d2, dot_scl] at x2
  have h15 : 9 + f i < 15 := by have := (f1 i (by omega)).1; omega
  have hsb := hsg _ h15 ((hlv _ h15).mpr (Or.inr ⟨ji, hjin, eji⟩))
  generalize dot (pl (9 + f i)) (if Classical.choose (hz i) = 0 then crs q r else if Classical.choose (hz i) = 1 then crs r p else crs p q) = X at x1 x2
  have hX : X = 0 := by rcases hek with h2 | h2 <;> rw [h2] at x2 <;> grind
  rw [hX] at x1
  rcases hsb with h2 | h2 <;> rw [h2] at x1 <;> grind
end PIZ
