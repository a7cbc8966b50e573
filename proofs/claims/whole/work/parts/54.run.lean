/-! runs of moves: the aim never falls, no table comes twice -/
abbrev tab : Type := Rat × (Nat → Nat → Rat) × (Nat → Nat) × (Nat → Nat) × (Nat → Rat)
def tGood (R n : Nat) (V : (Nat → Rat) → Prop) (lo hi : Nat → Rat) (s : tab) : Prop := Good R n V lo hi s.1 s.2.1 s.2.2.1 s.2.2.2.1 s.2.2.2.2
def flipT (R : Nat) (lo hi : Nat → Rat) (s : tab) (c : Nat) (d : Rat) : tab := (s.1, s.2.1, s.2.2.1, s.2.2.2.1, moved R s.1 s.2.1 s.2.2.1 s.2.2.2.1 s.2.2.2.2 c (d * (hi (s.2.2.2.1 c) - lo (s.2.2.2.1 c)) / s.1))
def stopT (R : Nat) (lo hi : Nat → Rat) (s : tab) (c r : Nat) (d : Rat) : tab := (sgn (s.2.1 r c) * s.2.1 r c, pvC (sgn (s.2.1 r c)) s.1 s.2.1 r c, pvR s.2.2.1 s.2.2.2.1 r c, pvK s.2.2.1 s.2.2.2.1 r c, moved R s.1 s.2.1 s.2.2.1 s.2.2.2.1 s.2.2.2.2 c (d * tOf lo hi s.2.2.2.2 s.1 s.2.1 s.2.2.1 d c r / s.1))
def Move (R n : Nat) (lo hi : Nat → Rat) (fz : Nat → Bool) (aim : Nat) (s t : tab) : Prop := ∃ (γ : Nat → Rat) (c : Nat) (d : Rat), Gain R n s.1 s.2.1 s.2.2.1 s.2.2.2.1 aim γ ∧ Cho n lo hi s.2.2.2.2 γ s.2.2.2.1 fz c d ∧
  ((Flip R lo hi s.2.2.2.2 s.1 s.2.1 s.2.2.1 s.2.2.2.1 c d ∧ t = flipT R lo hi s c d) ∨ ∃ r, Stop R lo hi s.2.2.2.2 s.1 s.2.1 s.2.2.1 s.2.2.2.1 c d r ∧ t = stopT R lo hi s c r d)
/-- the variables of a table -/
def live (R n : Nat) (s : tab) (u : Nat) : Prop := (∃ i, i < R ∧ s.2.2.1 i = u) ∨ ∃ j, j < n ∧ s.2.2.2.1 j = u
theorem live_move {R n : Nat} {lo hi : Nat → Rat} {fz : Nat → Bool} {aim : Nat} {s t : tab} (h : Move R n lo hi fz aim s t) (u : Nat) : live R n t u ↔ live R n s u := by
  obtain ⟨γ, c, d, hg, hc, h | ⟨r, hs, h⟩⟩ := h
  · obtain ⟨-, rfl⟩ := h; exact Iff.rfl
  · subst h
    have hcn := hc.1
    have hr := hs.1
    constructor
    · rintro (⟨i, hi, e⟩ | ⟨j, hj, e⟩)
      · have e : pvR s.2.2.1 s.2.2.2.1 r c i = u := e
        unfold pvR at e
        by_cases ei : i = r
        · rw [if_pos ei] at e; exact Or.inr ⟨c, hcn, e⟩
        · rw [if_neg ei] at e; exact Or.inl ⟨i, hi, e⟩
      · have e : pvK s.2.2.1 s.2.2.2.1 r c j = u := e
        unfold pvK at e
        by_cases ej : j = c
        · rw [if_pos ej] at e; exact Or.inl ⟨r, hr, e⟩
        · rw [if_neg ej] at e; exact Or.inr ⟨j, hj, e⟩
    · rintro (⟨i, hi, e⟩ | ⟨j, hj, e⟩)
      · by_cases ei : i = r
        · exact Or.inr ⟨c, hcn, by show pvK s.2.2.1 s.2.2.2.1 r c c = u; unfold pvK; rw [if_pos rfl, ← ei]; exact e⟩
        · exact Or.inl ⟨i, hi, by show pvR s.2.2.1 s.2.2.2.1 r c i = u; unfold pvR; rw [if_neg ei]; exact e⟩
      · by_cases ej : j = c
        · exact Or.inl ⟨r, hr, by show pvR s.2.2.1 s.2.2.2.1 r c r = u; unfold pvR; rw [if_pos rfl, ← ej]; exact e⟩
        · exact Or.inr ⟨j, hj, by show pvK s.2.2.1 s.2.2.2.1 r c j = u; unfold pvK; rw [if_neg ej]; exact e⟩
theorem Move_good {R n : Nat} {V : (Nat → Rat) → Prop} {lo hi : Nat → Rat} {fz : Nat → Bool} {aim : Nat} {s t : tab} (hlh : ∀ u, u < 15 → live R n s u → lo u ≤ hi u) (hg : tGood R n V lo hi s) (h : Move R n lo hi fz aim s t) : tGood R n V lo hi t := by
  obtain ⟨γ, c, d, -, hc, ⟨hf, rfl⟩ | ⟨r, hs, rfl⟩⟩ := h
  · exact Flip_good hg hc hf
  · exact Stop_good hg (fun i hi h15 => hlh _ h15 (Or.inl ⟨i, hi, rfl⟩)) hc hs
/-- what the aim wins by a move; a move that wins nothing moves nothing, and a row at its bound leaves -/
theorem Col_aim {R n : Nat} {b : Rat} {C : Nat → Nat → Rat} {rv cv : Nat → Nat} {aim : Nat} {γ : Nat → Rat} (hb : 0 < b) (hw : Wf R n rv cv) (hg : Gain R n b C rv cv aim γ) {c : Nat} (hc : c < n) : Col R b C rv cv c aim = γ c := by
  have g1 := Gain_eq hg (Col_eqs (b := b) (C := C) hw hc)
  rw [sm_one (c := c) hc (fun j hj hne => by rw [Col_col hw hc hj, if_neg hne]; grind), Col_col hw hc hc, if_pos rfl] at g1
  have hb0 : b ≠ 0 := by grind
  have : b * Col R b C rv cv c aim = b * γ c := by rw [g1]; grind
  grind
theorem Move_obj {R n : Nat} {V : (Nat → Rat) → Prop} {lo hi : Nat → Rat} {fz : Nat → Bool} {aim : Nat} {s t : tab} (hg : tGood R n V lo hi s) (h : Move R n lo hi fz aim s t) : s.2.2.2.2 aim < t.2.2.2.2 aim ∨ (t.2.2.2.2 = s.2.2.2.2 ∧ ∃ (γ : Nat → Rat) (c r : Nat), Gain R n s.1 s.2.1 s.2.2.1 s.2.2.2.1 aim γ ∧ Deg R n 15 s.1 s.2.1 s.2.2.1 s.2.2.2.1 γ lo hi s.2.2.2.2 fz c r ∧ t.2.2.2.1 = pvK s.2.2.1 s.2.2.2.1 r c) := by
  obtain ⟨b, C, rv, cv, w⟩ := s
  obtain ⟨γ, c, d, hga, hc, h⟩ := h
  have hga : Gain R n b C rv cv aim γ := hga
  have hc : Cho n lo hi w γ cv fz c d := hc
  have hg : Good R n V lo hi b C rv cv w := hg
  obtain ⟨hlt, hat⟩ := Cho_at hg hc
  have hcn := hc.1
  have hb := hg.1
  have hb0 : b ≠ 0 := by grind
  have hwf := hg.2.1
  have hca := Col_aim hb hwf hga hcn
  have hdg : 0 < d * γ c := by
    rcases hat with ⟨rfl, -, h1⟩ | ⟨rfl, -, h1⟩
    · grind
    · grind
  have win : ∀ x : Rat, 0 < x → w aim < moved R b C rv cv w c (d * x / b) aim := by
    intro x hx
    unfold moved
    rw [hca]
    have h1 : 0 < (x * (d * γ c)) / b := by
      have h2 := Rat.mul_pos (Rat.mul_pos hx hdg) (Rat.inv_pos.mpr hb)
      rw [Rat.div_def]
      exact h2
    have h3 : d * x / b * γ c = (x * (d * γ c)) / b := by grind
    rw [h3]
    grind
  rcases h with ⟨hf, rfl⟩ | ⟨r, hs, rfl⟩
  · left
    exact win _ (by grind)
  · have hs : Stop R lo hi w b C rv cv c d r := hs
    obtain ⟨s1, s2, s3, s4, s5⟩ := hs
    have hrm := room_nonneg hg s1 s2 d c
    have hap := absR_pos s3
    by_cases h0 : roomR lo hi w C rv d c r = 0
    · right
      have ht : tOf lo hi w b C rv d c r = 0 := by unfold tOf; rw [h0]; grind
      refine ⟨?_, γ, c, r, hga, ?_, rfl⟩
      · show moved R b C rv cv w c (d * tOf lo hi w b C rv d c r / b) = w
        funext u
        unfold moved
        rw [ht]
        grind
      · have sg : ∀ i, (0 < d * C i c ↔ 0 < γ c * C i c) ∧ (C i c ≠ 0 → (¬ 0 < d * C i c ↔ γ c * C i c < 0)) := by
          intro i
          rcases hat with ⟨rfl, -, h1⟩ | ⟨rfl, -, h1⟩
          · have e1 : 0 < C i c ↔ 0 < γ c * C i c := ⟨fun h => Rat.mul_pos h1 h, fun h => by rcases mpos h with h | h; exact h.2; grind⟩
            refine ⟨by rw [← e1]; grind, fun hne => ?_⟩
            constructor
            · intro h
              have h2 : 0 < γ c * (- C i c) := Rat.mul_pos h1 (by grind)
              grind
            · intro h h2
              have := Rat.mul_pos h1 (by grind : 0 < C i c)
              grind
          · have e1 : 0 < -1 * C i c ↔ 0 < γ c * C i c := ⟨fun h => by have := Rat.mul_pos (by grind : 0 < - γ c) (by grind : 0 < - C i c); grind, fun h => by rcases mpos h with h | h; grind; grind⟩
            refine ⟨e1, fun hne => ?_⟩
            constructor
            · intro h
              have h2 : 0 < (- γ c) * (C i c) := Rat.mul_pos (by grind) (by grind)
              grind
            · intro h h2
              have := e1.mp h2
              grind
        refine ⟨hcn, s1, hc.2.1, s2, hc.2.2.1, fun j hj hf hl => ?_, ?_, fun i hi0 h15 hbd => ?_⟩
        · have := hc.2.2.2.1 j hj hf hl
          unfold elig at this
          exact ⟨fun q => this (Or.inl q), fun q => this (Or.inr q)⟩
        · unfold roomR at h0
          by_cases q : 0 < d * C r c
          · rw [if_pos q] at h0
            exact Or.inl ⟨(sg r).1.mp q, by grind⟩
          · rw [if_neg q] at h0
            exact Or.inr ⟨((sg r).2 s3).mp q, by grind⟩
        · have hbd : (0 < γ c * C i c ∧ w (rv i) = hi (rv i)) ∨ (γ c * C i c < 0 ∧ w (rv i) = lo (rv i)) := hbd
          have hne : C i c ≠ 0 := by
            intro e
            rw [e] at hbd
            rcases hbd with q | q
            · have := q.1; grind
            · have := q.1; grind
          have hri : roomR lo hi w C rv d c i = 0 := by
            unfold roomR
            rcases hbd with ⟨q1, q2⟩ | ⟨q1, q2⟩
            · rw [if_pos ((sg i).1.mpr q1), q2]; grind
            · rw [if_neg (((sg i).2 hne).mpr q1), q2]; grind
          rcases s5 i hi0 h15 hne with q | q
          · rw [h0, hri] at q; exfalso; grind
          · exact q.2
    · left
      refine win _ ?_
      unfold tOf
      have h2 := Rat.mul_pos (Rat.mul_pos hb (by grind : 0 < roomR lo hi w C rv d c r)) (Rat.inv_pos.mpr hap)
      rw [Rat.div_def]
      exact h2
/-- in a run of moves no two tables have the same columns and the same point over them -/
theorem no_return {R n N : Nat} {V : (Nat → Rat) → Prop} {lo hi : Nat → Rat} {fz : Nat → Bool} {aim : Nat} {st : Nat → tab} (hlh : ∀ u, u < 15 → live R n (st 0) u → lo u ≤ hi u) (h0 : tGood R n V lo hi (st 0)) (hm : ∀ t, t < N → Move R n lo hi fz aim (st t) (st (t + 1))) {p q : Nat} (hpq : p < q) (hq : q ≤ N)
    (hsame : ∀ u, (∃ j, j < n ∧ (st p).2.2.2.1 j = u) ↔ (∃ j, j < n ∧ (st q).2.2.2.1 j = u)) (hpt : ∀ j, j < n → (st q).2.2.2.2 ((st p).2.2.2.1 j) = (st p).2.2.2.2 ((st p).2.2.2.1 j)) : False := by
  have hl : ∀ t, t ≤ N → ∀ u, live R n (st t) u ↔ live R n (st 0) u := by
    intro t
    induction t with
    | zero => intro _ u; exact Iff.rfl
    | succ t ih => intro ht u; rw [live_move (hm t (by omega)) u]; exact ih (by omega) u
  have hg : ∀ t, t ≤ N → tGood R n V lo hi (st t) := by
    intro t
    induction t with
    | zero => intro _; exact h0
    | succ t ih => intro ht; exact Move_good (fun u hu hl2 => hlh u hu ((hl t (by omega) u).mp hl2)) (ih (by omega)) (hm t (by omega))
  have hmono : ∀ s t, s ≤ t → t ≤ N → (st s).2.2.2.2 aim ≤ (st t).2.2.2.2 aim := by
    intro s t hst
    induction t with
    | zero => intro _; rw [show s = 0 by omega]; exact Rat.le_refl
    | succ t ih =>
      intro ht
      by_cases es : s = t + 1
      · rw [es]; exact Rat.le_refl
      · have h1 := ih (by omega) (by omega)
        rcases Move_obj (hg t (by omega)) (hm t (by omega)) with h2 | h2
        · grind
        · rw [h2.1]; exact h1
  -- the aim stands where it stood
  have haim : (st q).2.2.2.2 aim = (st p).2.2.2.2 aim := by
    have gp := hg p (by omega)
    have gq := hg q hq
    have e1 : Eqs R n (st p).1 (st p).2.1 (st p).2.2.1 (st p).2.2.2.1 (st q).2.2.2.2 := (gp.2.2.1 _).mpr gq.2.2.2.1
    have e2 : Eqs R n (st p).1 (st p).2.1 (st p).2.2.1 (st p).2.2.2.1 (st p).2.2.2.2 := (gp.2.2.1 _).mpr gp.2.2.2.1
    obtain ⟨γ, c, d, hga, -⟩ := hm p (by omega)
    have hb := gp.1
    have hb0 : (st p).1 ≠ 0 := by grind
    have e3 : (st p).1 * (st q).2.2.2.2 aim = (st p).1 * (st p).2.2.2.2 aim := by
      rw [Gain_eq hga e1, Gain_eq hga e2]
      exact sm_congr fun j hj => by rw [hpt j hj]
    grind
  have hcon : ∀ t, p ≤ t → t ≤ q → (st t).2.2.2.2 = (st p).2.2.2.2 := by
    intro t
    induction t with
    | zero => intro hp _; rw [show p = 0 by omega]
    | succ t ih =>
      intro h1 h2
      by_cases e : t + 1 = p
      · rw [e]
      · rcases Move_obj (hg t (by omega)) (hm t (by omega)) with h3 | h3
        · exfalso
          have a1 := hmono p t (by omega) (by omega)
          have a2 := hmono (t + 1) q (by omega) hq
          grind
        · rw [h3.1]; exact ih (by omega) (by omega)
  have hdeg : ∀ t, ∃ γ c r, p ≤ t → t < q → Gain R n (st t).1 (st t).2.1 (st t).2.2.1 (st t).2.2.2.1 aim γ ∧ Deg R n 15 (st t).1 (st t).2.1 (st t).2.2.1 (st t).2.2.2.1 γ lo hi (st p).2.2.2.2 fz c r ∧ (st (t + 1)).2.2.2.1 = pvK (st t).2.2.1 (st t).2.2.2.1 r c := by
    intro t
    by_cases h1 : p ≤ t ∧ t < q
    · rcases Move_obj (hg t (by omega)) (hm t (by omega)) with h3 | ⟨-, γ, c, r, h4, h5, h6⟩
      · exfalso
        have a1 := hmono p t (by omega) (by omega)
        have a2 := hmono (t + 1) q (by omega) hq
        grind
      · refine ⟨γ, c, r, fun _ _ => ⟨h4, ?_, h6⟩⟩
        rw [← hcon t h1.1 (by omega)]
        exact h5
    · exact ⟨fun _ => 0, 0, 0, fun a b => absurd ⟨a, b⟩ h1⟩
  have hdc := fun t => Classical.choose_spec (hdeg t)
  have hdr := fun t => Classical.choose_spec (hdc t)
  have hdx := fun t => Classical.choose_spec (hdr t)
  refine bland (R := R) (n := n) (nb := 15) (b := fun t => (st t).1) (C := fun t => (st t).2.1) (rv := fun t => (st t).2.2.1) (cv := fun t => (st t).2.2.2.1) (γ := fun t => Classical.choose (hdeg t)) (lo := lo) (hi := hi) (w := (st p).2.2.2.2) (fz := fz) (aim := aim) (c := fun t => Classical.choose (hdc t)) (r := fun t => Classical.choose (hdr t)) hpq (fun t h1 h2 => (hg t (by omega)).1) (fun t h1 h2 => (hg t (by omega)).2.1) (fun t h1 h2 y => ((hg t (by omega)).2.2.1 y).trans ((hg p (by omega)).2.2.1 y).symm) (fun t h1 h2 => (hdx t h1 h2).1) (fun t h1 h2 => (hdx t h1 h2).2.1) (fun t h1 h2 j hj => congrFun (hdx t h1 h2).2.2 j) (fun t h1 h2 j hj => ?_) hsame
  obtain ⟨a1, a2, a3⟩ := (hg t (by omega)).2.2.2.2.1 j hj
  rw [hcon t h1 (by omega)] at a3
  refine ⟨a1, ?_, ?_⟩
  · rcases a3 with a3 | a3
    · show lo _ ≤ (st p).2.2.2.2 _; rw [a3]; exact Rat.le_refl
    · show lo _ ≤ (st p).2.2.2.2 _; rw [a3]; exact a2
  · rcases a3 with a3 | a3
    · show (st p).2.2.2.2 _ ≤ hi _; rw [a3]; exact a2
    · show (st p).2.2.2.2 _ ≤ hi _; rw [a3]; exact Rat.le_refl
