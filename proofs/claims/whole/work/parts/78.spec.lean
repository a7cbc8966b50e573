/-! what clearing asks; the best dispatch stands where three planes meet -/
def FS (N : Net) (B : Bk) (g : Nat) (x : Nat → Rat) (h : v3) : Prop := (∀ j, j < B.1 → 0 ≤ x j ∧ x j ≤ B.2.2.2.2 j) ∧ (∀ k, k < N.1 → - (N.2.2.2.2 k : Rat) ≤ dot (lpl N k) h ∧ dot (lpl N k) h ≤ (N.2.2.2.2 k : Rat)) ∧ (∀ v, v < 4 → dot (npl (LN N) v) h = xs B x v + if v = g then 1 else 0)
def oy (B : Bk) (x : Nat → Rat) (u : Nat) : Rat := if u = 15 then wl B x else x u
def aims (B : Bk) : List Nat := 15 :: List.range' 0 B.1
def opt (N : Net) (B : Bk) (g : Nat) (x : Nat → Rat) (h : v3) : Prop := FS N B g x h ∧ ∀ x' h', FS N B g x' h' → lexle (aims B) (oy B x') (oy B x)
theorem lexle_congr : ∀ {as : List Nat} {y w y' w' : Nat → Rat}, (∀ u, u ∈ as → y u = y' u) → (∀ u, u ∈ as → w u = w' u) → (lexle as y w ↔ lexle as y' w')
  | [], _, _, _, _, _, _ => Iff.rfl
  | a :: as, y, w, y', w', h1, h2 => by
    have e1 := h1 a (List.mem_cons_self ..)
    have e2 := h2 a (List.mem_cons_self ..)
    have ih := lexle_congr (as := as) (fun u hu => h1 u (List.mem_cons_of_mem _ hu)) (fun u hu => h2 u (List.mem_cons_of_mem _ hu))
    unfold lexle
    rw [e1, e2, ih]
theorem lexle_anti : ∀ {as : List Nat} {y w : Nat → Rat}, lexle as y w → lexle as w y → ∀ u, u ∈ as → y u = w u
  | [], _, _, _, _, u, hu => by cases hu
  | a :: as, y, w, h1, h2, u, hu => by
    have e : y a = w a ∧ lexle as y w ∧ lexle as w y := by
      rcases h1 with h1 | ⟨e1, h1⟩
      · rcases h2 with h2 | ⟨e2, h2⟩ <;> (exfalso; grind)
      · rcases h2 with h2 | ⟨e2, h2⟩
        · exfalso; grind
        · exact ⟨e1, h1, h2⟩
    rcases List.mem_cons.mp hu with q | q
    · rw [q]; exact e.1
    · exact lexle_anti e.2.1 e.2.2 u q
theorem lexle_trans : ∀ {as : List Nat} {x y w : Nat → Rat}, lexle as x y → lexle as y w → lexle as x w
  | [], _, _, _, _, _ => trivial
  | a :: as, x, y, w, h1, h2 => by
    rcases h1 with h1 | ⟨e1, h1⟩
    · rcases h2 with h2 | ⟨e2, h2⟩
      · exact Or.inl (by grind)
      · exact Or.inl (by grind)
    · rcases h2 with h2 | ⟨e2, h2⟩
      · exact Or.inl (by grind)
      · exact Or.inr ⟨by grind, lexle_trans h1 h2⟩
theorem lexle_refl : ∀ {as : List Nat} {x : Nat → Rat}, lexle as x x
  | [], _ => trivial
  | _ :: _, _ => Or.inr ⟨rfl, lexle_refl⟩
theorem lexle_first {y w : Nat → Rat} {p : Nat} (hp : w p < y p) : ∀ n i, i ≤ p → p < i + n → (∀ u, i ≤ u → u < p → y u = w u) → ¬ lexle (List.range' i n) y w := by
  intro n
  induction n with
  | zero => intro i _ h; omega
  | succ n ih =>
    intro i h1 h2 h3 h
    have h : lexle (i :: List.range' (i + 1) n) y w := h
    rcases h with h | ⟨e, h⟩
    · by_cases q : i = p
      · subst q; grind
      · have := h3 i (by omega) (by omega); grind
    · by_cases q : i = p
      · subst q; grind
      · exact ih (i + 1) (by omega) (by omega) (fun u a b => h3 u (by omega) b) h
/-- who goes first at a node -/
def bef (B : Bk) (p q : Nat) : Prop := B.2.2.2.1 q < B.2.2.2.1 p ∨ (B.2.2.2.1 p = B.2.2.2.1 q ∧ ((B.2.2.1 p = 1 ∧ B.2.2.1 q = -1) ∨ (B.2.2.1 p = 1 ∧ B.2.2.1 q = 1 ∧ p < q) ∨ (B.2.2.1 p = -1 ∧ B.2.2.1 q = -1 ∧ q < p)))
def zz (B : Bk) (x : Nat → Rat) (k : Nat) : Rat := if B.2.2.1 k = 1 then x k else B.2.2.2.2 k - x k
section SPEC
variable {N : Net} {B : Bk} {g r : Nat} {a : Rat} {x : Nat → Rat} {h : v3}
theorem bef_irr {k : Nat} : ¬ bef B k k := by
  unfold bef
  rintro (q | ⟨-, ⟨q1, q2⟩ | ⟨-, -, q⟩ | ⟨-, -, q⟩⟩)
  · grind
  · rw [q1] at q2; exact absurd q2 (by decide)
  · omega
  · omega
/-- nothing is gained by changing two steps of a node -/
theorem opt_swap (hB : bkOk B) (ho : opt N B g x h) {k k' : Nat} (hk : k < B.1) (hk' : k' < B.1) (hn : B.2.1 k = B.2.1 k') (hb : bef B k k') : zz B x k = B.2.2.2.2 k ∨ zz B x k' = 0 := by
  by_cases q1 : zz B x k = B.2.2.2.2 k
  · exact Or.inl q1
  by_cases q2 : zz B x k' = 0
  · exact Or.inr q2
  exfalso
  have hne : k ≠ k' := fun e => bef_irr (by rw [← e] at hb; exact hb)
  obtain ⟨f1, f2, f3⟩ := ho.1
  obtain ⟨b1, b2, b3, b4, b5⟩ := hB.2 k hk
  obtain ⟨c1, c2, c3, c4, c5⟩ := hB.2 k' hk'
  have x1 := f1 k hk
  have x2 := f1 k' hk'
  have hz : 0 ≤ zz B x k ∧ zz B x k < B.2.2.2.2 k := by
    unfold zz at q1 ⊢
    rcases b2 with e | e
    · rw [if_pos e] at q1 ⊢; grind
    · rw [if_neg (by rw [e]; decide)] at q1 ⊢; grind
  have hz' : 0 < zz B x k' ∧ zz B x k' ≤ B.2.2.2.2 k' := by
    unfold zz at q2 ⊢
    rcases c2 with e | e
    · rw [if_pos e] at q2 ⊢; grind
    · rw [if_neg (by rw [e]; decide)] at q2 ⊢; grind
  have hE : ∃ E : Rat, 0 < E ∧ E ≤ B.2.2.2.2 k - zz B x k ∧ E ≤ zz B x k' := by
    by_cases q : B.2.2.2.2 k - zz B x k ≤ zz B x k'
    · exact ⟨B.2.2.2.2 k - zz B x k, by grind, by grind, q⟩
    · exact ⟨zz B x k', by grind, by grind, by grind⟩
  obtain ⟨E, e0, e1, e2⟩ := hE
  have hX : ∃ x' : Nat → Rat, x' = fun j => if j = k then x k + B.2.2.1 k * E else if j = k' then x k' - B.2.2.1 k' * E else x j := ⟨_, rfl⟩
  obtain ⟨x', hX⟩ := hX
  have xk : x' k = x k + B.2.2.1 k * E := by rw [hX]; exact if_pos rfl
  have xk' : x' k' = x k' - B.2.2.1 k' * E := by rw [hX]; show (if k' = k then _ else if k' = k' then _ else _) = _; rw [if_neg (Ne.symm hne), if_pos rfl]
  have xo : ∀ j, j ≠ k → j ≠ k' → x' j = x j := fun j p q => by rw [hX]; show (if j = k then _ else if j = k' then _ else _) = _; rw [if_neg p, if_neg q]
  have two : ∀ F : Nat → Rat, sm B.1 (fun j => F j * x' j) = sm B.1 (fun j => F j * x j) + F k * (B.2.2.1 k * E) - F k' * (B.2.2.1 k' * E) := by
    intro F
    have : sm B.1 (fun j => F j * x' j) - sm B.1 (fun j => F j * x j) = F k * (B.2.2.1 k * E) - F k' * (B.2.2.1 k' * E) := by
      rw [← sm_sub, sm_two hk hk' hne (fun j _ p q => by rw [xo j p q]; grind), xk, xk']
      grind
    grind
  have sq : ∀ s : Rat, (s = 1 ∨ s = -1) → s * (s * E) = E := by rintro s (e | e) <;> rw [e] <;> grind
  have hFS : FS N B g x' h := by
    refine ⟨fun j hj => ?_, f2, fun v hv => ?_⟩
    · by_cases p : j = k
      · rw [p, xk]
        unfold zz at e1 hz
        rcases b2 with e | e
        · rw [if_pos e] at e1; rw [e]; grind
        · rw [if_neg (by rw [e]; decide)] at e1; rw [e]; grind
      · by_cases p' : j = k'
        · rw [p', xk']
          unfold zz at e2
          rcases c2 with e | e
          · rw [if_pos e] at e2; rw [e]; grind
          · rw [if_neg (by rw [e]; decide)] at e2; rw [e]; grind
        · rw [xo j p p']; exact f1 j hj
    · rw [f3 v hv]
      congr 1
      have t := two (fun j => if B.2.1 j = v then B.2.2.1 j else 0)
      have e3 : ∀ y : Nat → Rat, sm B.1 (fun j => (if B.2.1 j = v then B.2.2.1 j else 0) * y j) = xs B y v := fun y => sm_congr fun j _ => by
        by_cases p : B.2.1 j = v
        · rw [if_pos p, if_pos p]
        · rw [if_neg p, if_neg p]; grind
      rw [e3, e3] at t
      by_cases p : B.2.1 k = v
      · simp only [if_pos p, if_pos (hn ▸ p)] at t
        rw [sq _ b2, sq _ c2] at t
        grind
      · have p' : ¬ B.2.1 k' = v := fun e => p (hn.trans e)
        simp only [if_neg p, if_neg p'] at t
        grind
  have hlx := ho.2 x' h hFS
  have hW : wl B x' = wl B x + B.2.2.2.1 k * E - B.2.2.2.1 k' * E := by
    have t := two (fun j => B.2.2.1 j * B.2.2.2.1 j)
    show sm B.1 _ = sm B.1 _ + _ - _
    rw [t]
    have p1 := sq _ b2
    have p2 := sq _ c2
    have p3 : B.2.2.1 k * B.2.2.2.1 k * (B.2.2.1 k * E) = B.2.2.2.1 k * (B.2.2.1 k * (B.2.2.1 k * E)) := by grind
    have p4 : B.2.2.1 k' * B.2.2.2.1 k' * (B.2.2.1 k' * E) = B.2.2.2.1 k' * (B.2.2.1 k' * (B.2.2.1 k' * E)) := by grind
    rw [p3, p4, p1, p2]
  have o15 : ∀ y, oy B y 15 = wl B y := fun y => if_pos rfl
  have oj : ∀ y j, j < B.1 → oy B y j = y j := fun y j hj => by unfold oy; rw [if_neg (by have := hB.1; omega)]
  rcases hlx with hlx | ⟨hlx, hl2⟩
  · rw [o15, o15, hW] at hlx
    rcases hb with hb | ⟨hb, -⟩
    · have := Rat.mul_pos e0 (by grind : 0 < B.2.2.2.1 k - B.2.2.2.1 k')
      grind
    · rw [hb] at hlx; grind
  · rw [o15, o15, hW] at hlx
    rcases hb with hb | ⟨hb, hc⟩
    · have := Rat.mul_pos e0 (by grind : 0 < B.2.2.2.1 k - B.2.2.2.1 k')
      grind
    · have fin : ∀ p, p < B.1 → x p < x' p → (∀ u, u < p → x' u = x u) → False := fun p hp hlt hu => lexle_first (y := oy B x') (w := oy B x) (p := p) (by rw [oj _ _ hp, oj _ _ hp]; exact hlt) B.1 0 (by omega) (by omega) (fun u _ hup => by rw [oj _ _ (by omega), oj _ _ (by omega)]; exact hu u hup) hl2
      rcases hc with ⟨s1, s2⟩ | ⟨s1, s2, hlt⟩ | ⟨s1, s2, hlt⟩
      · by_cases q : k < k'
        · exact fin k hk (by rw [xk, s1]; grind) (fun u hu => xo u (by omega) (by omega))
        · exact fin k' hk' (by rw [xk', s2]; grind) (fun u hu => xo u (by omega) (by omega))
      · exact fin k hk (by rw [xk, s1]; grind) (fun u hu => xo u (by omega) (by omega))
      · exact fin k' hk' (by rw [xk', s2]; grind) (fun u hu => xo u (by omega) (by omega))
/-- vectors that hold every direction: three of them meet in a point -/
theorem span3 {P : Nat → Prop} {f : Nat → v3} (hs : ∀ d : v3, (∀ g, P g → dot (f g) d = 0) → d = (0, 0, 0)) : ∃ g1 g2 g3, P g1 ∧ P g2 ∧ P g3 ∧ det3 (f g1) (f g2) (f g3) ≠ 0 := by
  have h1 : ∃ g1, P g1 ∧ f g1 ≠ (0, 0, 0) := by
    by_cases q : ∃ g1, P g1 ∧ f g1 ≠ (0, 0, 0)
    · exact q
    · have := hs (1, 0, 0) (fun g hg => by
        by_cases e : f g = (0, 0, 0)
        · rw [e]; unfold dot; grind
        · exact (q ⟨g, hg, e⟩).elim)
      have e : (1 : Rat) = 0 := congrArg (fun d : v3 => d.1) this
      exact absurd e (by decide)
  obtain ⟨g1, p1, n1⟩ := h1
  have sqp : ∀ p : v3, p ≠ (0, 0, 0) → dot p p ≠ 0 := by
    intro p hp e
    have e : p.1 * p.1 + p.2.1 * p.2.1 + p.2.2 * p.2.2 = 0 := e
    have s : ∀ y : Rat, 0 ≤ y * y := fun y => by
      rcases (by grind : 0 ≤ y ∨ 0 ≤ - y) with q | q
      · exact Rat.mul_nonneg q q
      · have := Rat.mul_nonneg q q; grind
    have s1 := s p.1
    have s2 := s p.2.1
    have s3 := s p.2.2
    have z1 : p.1 * p.1 = 0 := by grind
    have z2 : p.2.1 * p.2.1 = 0 := by grind
    have z3 : p.2.2 * p.2.2 = 0 := by grind
    refine hp (v3_ext ?_ ?_ ?_)
    · exact (Rat.mul_eq_zero.mp z1).elim id id
    · exact (Rat.mul_eq_zero.mp z2).elim id id
    · exact (Rat.mul_eq_zero.mp z3).elim id id
  have h2 : ∃ g2, P g2 ∧ crs (f g1) (f g2) ≠ (0, 0, 0) := by
    by_cases q : ∃ g2, P g2 ∧ crs (f g1) (f g2) ≠ (0, 0, 0)
    · exact q
    · have key : ∀ d : v3, dot (f g1) d = 0 → d = (0, 0, 0) := fun d hd => hs d (fun g hg => by
        by_cases e : crs (f g1) (f g) = (0, 0, 0)
        · have c1 : (f g1).2.1 * (f g).2.2 - (f g1).2.2 * (f g).2.1 = 0 := congrArg (fun d : v3 => d.1) e
          have c2 : (f g1).2.2 * (f g).1 - (f g1).1 * (f g).2.2 = 0 := congrArg (fun d : v3 => d.2.1) e
          have c3 : (f g1).1 * (f g).2.1 - (f g1).2.1 * (f g).1 = 0 := congrArg (fun d : v3 => d.2.2) e
          have k : dot (f g1) (f g1) * dot (f g) d = dot (f g1) (f g) * dot (f g1) d := by unfold dot; grind
          rw [hd] at k
          have k : dot (f g1) (f g1) * dot (f g) d = 0 := by grind
          exact (Rat.mul_eq_zero.mp k).elim (fun z => (sqp _ n1 z).elim) id
        · exact (q ⟨g, hg, e⟩).elim)
      have d1 := key ((f g1).2.1, - (f g1).1, 0) (by unfold dot; grind)
      have z1 : (f g1).2.1 = 0 := congrArg (fun d : v3 => d.1) d1
      have z2 : - (f g1).1 = 0 := congrArg (fun d : v3 => d.2.1) d1
      have d2 := key (1, 0, 0) (by unfold dot; grind)
      have e : (1 : Rat) = 0 := congrArg (fun d : v3 => d.1) d2
      exact absurd e (by decide)
  obtain ⟨g2, p2, n2⟩ := h2
  have h3 : ∃ g3, P g3 ∧ dot (f g3) (crs (f g1) (f g2)) ≠ 0 := by
    by_cases q : ∃ g3, P g3 ∧ dot (f g3) (crs (f g1) (f g2)) ≠ 0
    · exact q
    · exact (n2 (hs _ (fun g hg => by
        by_cases e : dot (f g) (crs (f g1) (f g2)) = 0
        · exact e
        · exact (q ⟨g, hg, e⟩).elim))).elim
  obtain ⟨g3, p3, n3⟩ := h3
  refine ⟨g3, g1, g2, p3, p1, p2, n3⟩
end SPEC
