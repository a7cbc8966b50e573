/-! from any flow within the lines to a corner that is worth no less; what a node takes in is at most 3000 -/
def lv (p : Nat → Rat) (N : Net) (h : v3) : Rat := p 0 * dot (npl (LN N) 0) h + p 1 * dot (npl (LN N) 1) h + p 2 * dot (npl (LN N) 2) h + p 3 * dot (npl (LN N) 3) h
def mov (h d : v3) (s : Rat) : v3 := (h.1 + s * d.1, h.2.1 + s * d.2.1, h.2.2 + s * d.2.2)
theorem dot_mov (a h d : v3) (s : Rat) : dot a (mov h d s) = dot a h + s * dot a d := by unfold dot mov; grind
theorem dot_neg (a d : v3) : dot a (scl (-1) d) = - dot a d := by unfold dot scl; grind
theorem lv_mov (p : Nat → Rat) (N : Net) (h d : v3) (s : Rat) : lv p N (mov h d s) = lv p N h + s * lv p N d := by
  unfold lv
  rw [dot_mov, dot_mov, dot_mov, dot_mov]
  grind
theorem lv_neg (p : Nat → Rat) (N : Net) (d : v3) : lv p N (scl (-1) d) = - lv p N d := by
  unfold lv
  rw [dot_neg, dot_neg, dot_neg, dot_neg]
  grind
def act (N : Net) (k : Nat) (h : v3) : Prop := dot (lpl N k) h = (N.2.2.2.2 k : Rat) ∨ dot (lpl N k) h = - (N.2.2.2.2 k : Rat)
theorem one_up {f a F : Rat} (h1 : - F ≤ f) (h2 : f ≤ F) (ha : 0 < a) : ∃ s, 0 ≤ s ∧ f + s * a = F ∧ ∀ u, 0 ≤ u → u ≤ s → - F ≤ f + u * a ∧ f + u * a ≤ F := by
  have hi : 0 < a⁻¹ := Rat.inv_pos.mpr ha
  have e : (F - f) * a⁻¹ * a = F - f := by grind
  refine ⟨(F - f) * a⁻¹, Rat.mul_nonneg (by grind) (by grind), by grind, fun u hu hs => ?_⟩
  have k1 : 0 ≤ u * a := Rat.mul_nonneg hu (by grind)
  have k2 : 0 ≤ ((F - f) * a⁻¹ - u) * a := Rat.mul_nonneg (by grind) (by grind)
  constructor
  · grind
  · grind
theorem one_way {f a F : Rat} (h1 : - F ≤ f) (h2 : f ≤ F) (ha : a ≠ 0) : ∃ s, 0 ≤ s ∧ (f + s * a = F ∨ f + s * a = - F) ∧ ∀ u, 0 ≤ u → u ≤ s → - F ≤ f + u * a ∧ f + u * a ≤ F := by
  rcases Rat.le_total (a := 0) (b := a) with q | q
  · obtain ⟨s, s0, s1, s2⟩ := one_up h1 h2 (show 0 < a by grind)
    exact ⟨s, s0, Or.inl s1, s2⟩
  · obtain ⟨s, s0, s1, s2⟩ := one_up (f := -f) (a := -a) (F := F) (by grind) (by grind) (show 0 < -a by grind)
    refine ⟨s, s0, Or.inr (by grind), fun u hu hs => ?_⟩
    have := s2 u hu hs
    constructor <;> grind
theorem betw {f a L F s u : Rat} (h1 : L ≤ f ∧ f ≤ F) (h2 : L ≤ f + s * a ∧ f + s * a ≤ F) (hu : 0 ≤ u) (hs : u ≤ s) : L ≤ f + u * a ∧ f + u * a ≤ F := by
  rcases Rat.le_total (a := 0) (b := a) with q | q
  · have k1 : 0 ≤ u * a := Rat.mul_nonneg hu q
    have k2 : 0 ≤ (s - u) * a := Rat.mul_nonneg (by grind) q
    constructor <;> grind
  · have k1 : 0 ≤ u * (-a) := Rat.mul_nonneg hu (by grind)
    have k2 : 0 ≤ (s - u) * (-a) := Rat.mul_nonneg (by grind) (by grind)
    constructor <;> grind
section CORNER
variable {N : Net} {h d : v3} {p : Nat → Rat}
theorem step_n (hl : linesOk N h) : ∀ n, n ≤ N.1 → (∃ s k0, 0 ≤ s ∧ k0 < n ∧ dot (lpl N k0) d ≠ 0 ∧ act N k0 (mov h d s) ∧ ∀ k, k < n → - (N.2.2.2.2 k : Rat) ≤ dot (lpl N k) (mov h d s) ∧ dot (lpl N k) (mov h d s) ≤ (N.2.2.2.2 k : Rat)) ∨ (∀ k, k < n → dot (lpl N k) d = 0) := by
  intro n
  induction n with
  | zero => intro _; exact Or.inr (fun k hk => by omega)
  | succ n ih =>
    intro hn
    obtain ⟨l1, l2⟩ := hl n (by omega)
    by_cases a0 : dot (lpl N n) d = 0
    · rcases ih (by omega) with ⟨s, k0, h1, h2, h3, h4, h5⟩ | h1
      · refine Or.inl ⟨s, k0, h1, by omega, h3, h4, fun k hk => ?_⟩
        by_cases e : k = n
        · subst e
          rw [dot_mov, a0]
          constructor <;> grind
        · exact h5 k (by omega)
      · refine Or.inr (fun k hk => ?_)
        by_cases e : k = n
        · subst e; exact a0
        · exact h1 k (by omega)
    · obtain ⟨sn, s0, s1, s2⟩ := one_way l1 l2 a0
      have hact : act N n (mov h d sn) := by unfold act; rw [dot_mov]; exact s1
      have hn2 : ∀ u, 0 ≤ u → u ≤ sn → - (N.2.2.2.2 n : Rat) ≤ dot (lpl N n) (mov h d u) ∧ dot (lpl N n) (mov h d u) ≤ (N.2.2.2.2 n : Rat) := fun u h1 h2 => by rw [dot_mov]; exact s2 u h1 h2
      rcases ih (by omega) with ⟨s, k0, h1, h2, h3, h4, h5⟩ | h1
      · by_cases c : s ≤ sn
        · refine Or.inl ⟨s, k0, h1, by omega, h3, h4, fun k hk => ?_⟩
          by_cases e : k = n
          · subst e; exact hn2 s h1 c
          · exact h5 k (by omega)
        · refine Or.inl ⟨sn, n, s0, by omega, a0, hact, fun k hk => ?_⟩
          by_cases e : k = n
          · subst e; exact hn2 sn s0 (by grind)
          · have h6 := h5 k (by omega)
            rw [dot_mov] at h6 ⊢
            exact betw (hl k (by omega)) h6 s0 (by grind)
      · refine Or.inl ⟨sn, n, s0, by omega, a0, hact, fun k hk => ?_⟩
        by_cases e : k = n
        · subst e; exact hn2 sn s0 (by grind)
        · have h6 := hl k (by omega)
          rw [dot_mov, h1 k (by omega)]
          constructor <;> grind
theorem dot_0 (a : v3) : dot a (0, 0, 0) = 0 := by unfold dot; grind
theorem lines_span (hN : netOk N) (hT : Tr (LN N) 0 ≠ 0) (hd : ∀ k, k < N.1 → dot (lpl N k) d = 0) : d = (0, 0, 0) := by
  refine npl_uniq hN hT (fun v hv => ?_)
  rw [npl_sum hN, dot_0]
  exact sm_zero (fun k hk => by rw [hd k hk]; grind)
theorem mv_up (hN : netOk N) (hT : Tr (LN N) 0 ≠ 0) (hl : linesOk N h) (hd : d ≠ (0, 0, 0)) (hv : 0 ≤ lv p N d) : ∃ h' k0, k0 < N.1 ∧ dot (lpl N k0) d ≠ 0 ∧ act N k0 h' ∧ linesOk N h' ∧ lv p N h ≤ lv p N h' ∧ ∀ k, dot (lpl N k) d = 0 → dot (lpl N k) h' = dot (lpl N k) h := by
  rcases step_n (d := d) hl N.1 (Nat.le_refl _) with ⟨s, k0, h1, h2, h3, h4, h5⟩ | h1
  · refine ⟨mov h d s, k0, h2, h3, h4, h5, ?_, fun k hk => by rw [dot_mov, hk]; grind⟩
    rw [lv_mov]
    have := Rat.mul_nonneg h1 hv
    grind
  · exact (hd (lines_span hN hT h1)).elim
theorem mv_one (p : Nat → Rat) (hN : netOk N) (hT : Tr (LN N) 0 ≠ 0) (hl : linesOk N h) (hd : d ≠ (0, 0, 0)) : ∃ h' k0, k0 < N.1 ∧ dot (lpl N k0) d ≠ 0 ∧ act N k0 h' ∧ linesOk N h' ∧ lv p N h ≤ lv p N h' ∧ ∀ k, dot (lpl N k) d = 0 → dot (lpl N k) h' = dot (lpl N k) h := by
  by_cases hv : 0 ≤ lv p N d
  · exact mv_up hN hT hl hd hv
  · obtain ⟨h', k0, a1, a2, a3, a4, a5, a6⟩ := mv_up (p := p) (d := scl (-1) d) hN hT hl (fun e => hd (by
      have e1 : -1 * d.1 = 0 := congrArg Prod.fst e
      have e2 : -1 * d.2.1 = 0 := congrArg (fun x : v3 => x.2.1) e
      have e3 : -1 * d.2.2 = 0 := congrArg (fun x : v3 => x.2.2) e
      refine Prod.ext ?_ (Prod.ext ?_ ?_)
      · show d.1 = 0; grind
      · show d.2.1 = 0; grind
      · show d.2.2 = 0; grind)) (by rw [lv_neg]; grind)
    rw [dot_neg] at a2
    refine ⟨h', k0, a1, by grind, a3, a4, a5, fun k hk => a6 k (by rw [dot_neg, hk]; grind)⟩
theorem perp (a : v3) : ∃ e : v3, e ≠ (0, 0, 0) ∧ dot a e = 0 := by
  by_cases c : a.1 = 0 ∧ a.2.1 = 0
  · refine ⟨(1, 0, 0), fun e => ?_, ?_⟩
    · have : (1 : Rat) = 0 := congrArg Prod.fst e
      exact absurd this (by decide)
    · unfold dot
      rw [c.1, c.2]
      grind
  · refine ⟨(a.2.1, - a.1, 0), fun e => c ?_, ?_⟩
    · have e1 : a.2.1 = 0 := congrArg Prod.fst e
      have e2 : - a.1 = 0 := congrArg (fun x : v3 => x.2.1) e
      exact ⟨by grind, e1⟩
    · unfold dot
      grind
theorem binet (a b c d : v3) : dot (crs a b) (crs c d) = dot a c * dot b d - dot b c * dot a d := by unfold dot crs; grind
/-- a corner of the lines' bounds that is worth no less -/
theorem corner (p : Nat → Rat) (hN : netOk N) (hT : Tr (LN N) 0 ≠ 0) (hl : linesOk N h) : ∃ h' k1 k2 k3, k1 < N.1 ∧ k2 < N.1 ∧ k3 < N.1 ∧ det3 (lpl N k3) (lpl N k1) (lpl N k2) ≠ 0 ∧ act N k1 h' ∧ act N k2 h' ∧ act N k3 h' ∧ linesOk N h' ∧ lv p N h ≤ lv p N h' := by
  have hd1 : ((1, 0, 0) : v3) ≠ (0, 0, 0) := fun e => by
    have : (1 : Rat) = 0 := congrArg Prod.fst e
    exact absurd this (by decide)
  obtain ⟨h1, k1, a1, a2, a3, a4, a5, -⟩ := mv_one p hN hT hl hd1
  obtain ⟨d2, hd2, hp2⟩ := perp (lpl N k1)
  obtain ⟨h2, k2, b1, b2, b3, b4, b5, b6⟩ := mv_one p hN hT a4 hd2
  have hd3 : crs (lpl N k1) (lpl N k2) ≠ (0, 0, 0) := fun e => by
    have hb := binet (lpl N k1) (lpl N k2) (1, 0, 0) d2
    rw [e, hp2] at hb
    have h0 : dot ((0, 0, 0) : v3) (crs (1, 0, 0) d2) = 0 := by unfold dot; grind
    rw [h0] at hb
    have hb : dot (lpl N k1) (1, 0, 0) * dot (lpl N k2) d2 = 0 := by grind
    rcases Rat.mul_eq_zero.mp hb with q | q
    · exact a2 q
    · exact b2 q
  obtain ⟨h3, k3, c1, c2, c3, c4, c5, c6⟩ := mv_one p hN hT b4 hd3
  have e1 : dot (lpl N k1) (crs (lpl N k1) (lpl N k2)) = 0 := by unfold dot crs; grind
  have e2 : dot (lpl N k2) (crs (lpl N k1) (lpl N k2)) = 0 := by unfold dot crs; grind
  refine ⟨h3, k1, k2, k3, a1, b1, c1, c2, ?_, ?_, c3, c4, by grind⟩
  · unfold act
    rw [c6 k1 e1, b6 k1 hp2]
    exact a3
  · unfold act
    rw [c6 k2 e2]
    exact b3
theorem one_pid' (hN : netOk N) {q : Nat} {f : Nat → Rat} (hf : ∀ k, k < N.1 → -1000 ≤ f k ∧ f k ≤ 1000) : -1000 ≤ sm N.1 (fun k => if pid (N.2.1 k) (N.2.2.1 k) = q then f k else 0) ∧ sm N.1 (fun k => if pid (N.2.1 k) (N.2.2.1 k) = q then f k else 0) ≤ 1000 := by
  by_cases c : ∃ k, k < N.1 ∧ pid (N.2.1 k) (N.2.2.1 k) = q
  · obtain ⟨k, hk, e⟩ := c
    rw [sm_one hk (fun j hj hne => by
      have : pid (N.2.1 j) (N.2.2.1 j) ≠ q := by
        intro e'
        rcases Nat.lt_or_gt_of_ne hne with h | h
        · exact hN.2.2 j k h hk (e'.trans e.symm)
        · exact hN.2.2 k j h hj (e.trans e'.symm)
      rw [if_neg this]), if_pos e]
    exact hf k hk
  · rw [sm_zero (fun k hk => by rw [if_neg (fun e => c ⟨k, hk, e⟩)])]
    constructor <;> grind
theorem npl_bd (hN : netOk N) (hl : linesOk N h) {v : Nat} (hv : v < 4) : -3000 ≤ dot (npl (LN N) v) h ∧ dot (npl (LN N) v) h ≤ 3000 := by
  obtain ⟨g, hg⟩ : ∃ g : Nat → Rat, g = fun k => if N.2.2.1 k = v then dot (lpl N k) h else if N.2.1 k = v then - dot (lpl N k) h else 0 := ⟨_, rfl⟩
  have hf : ∀ k, k < N.1 → -1000 ≤ g k ∧ g k ≤ 1000 := fun k hk => by
    have h1 := hl k hk
    have h2 : (N.2.2.2.2 k : Rat) ≤ ((1000 : Nat) : Rat) := Rat.natCast_le_natCast.mpr (hN.2.1 k hk).2.2.2.2.2
    have h3 : ((1000 : Nat) : Rat) = 1000 := rfl
    rw [h3] at h2
    rw [hg]
    show -1000 ≤ (if N.2.2.1 k = v then dot (lpl N k) h else if N.2.1 k = v then - dot (lpl N k) h else 0) ∧ (if N.2.2.1 k = v then dot (lpl N k) h else if N.2.1 k = v then - dot (lpl N k) h else 0) ≤ 1000
    by_cases c1 : N.2.2.1 k = v
    · rw [if_pos c1]; constructor <;> grind
    · rw [if_neg c1]
      by_cases c2 : N.2.1 k = v
      · rw [if_pos c2]; constructor <;> grind
      · rw [if_neg c2]; constructor <;> grind
  have e : sm N.1 g = sm N.1 (fun k => if pid (N.2.1 k) (N.2.2.1 k) = pid v (bs v 0) then g k else 0) + sm N.1 (fun k => if pid (N.2.1 k) (N.2.2.1 k) = pid v (bs v 1) then g k else 0) + sm N.1 (fun k => if pid (N.2.1 k) (N.2.2.1 k) = pid v (bs v 2) then g k else 0) := by
    rw [← sm_add, ← sm_add]
    refine sm_congr fun k hk => ?_
    have h := hN.2.1 k hk
    by_cases q : v = N.2.1 k ∨ v = N.2.2.1 k
    · rcases pid_three v hv _ h.1 _ h.2.1 h.2.2.1 q with ⟨p1, p2, p3⟩ | ⟨p1, p2, p3⟩ | ⟨p1, p2, p3⟩
      · rw [if_pos p1, if_neg p2, if_neg p3]; grind
      · rw [if_neg p1, if_pos p2, if_neg p3]; grind
      · rw [if_neg p1, if_neg p2, if_pos p3]; grind
    · have h0 : g k = 0 := by
        rw [hg]
        show (if N.2.2.1 k = v then dot (lpl N k) _ else if N.2.1 k = v then - dot (lpl N k) _ else 0) = 0
        rw [if_neg (fun e => q (Or.inr e.symm)), if_neg (fun e => q (Or.inl e.symm))]
      rw [h0]
      simp only [ite_self]
      grind
  have k0 := one_pid' hN (q := pid v (bs v 0)) hf
  have k1 := one_pid' hN (q := pid v (bs v 1)) hf
  have k2 := one_pid' hN (q := pid v (bs v 2)) hf
  rw [npl_sum hN, ← hg, e]
  constructor <;> grind
end CORNER
