/-! from the last table to a place where three planes of the market meet -/
theorem colb_ex {n : Nat} {f : Nat → Nat} {u : Nat} : colb n f u = true ↔ ∃ j, j < n ∧ f j = u := by
  unfold colb
  rw [List.any_eq_true]
  constructor
  · rintro ⟨j, hj, e⟩; exact ⟨j, List.mem_range.mp hj, by simpa using e⟩
  · rintro ⟨j, hj, e⟩; exact ⟨j, List.mem_range.mpr hj, by simpa using e⟩
/-- a group that stands in no row -/
def freeG (R : Nat) (isG : Nat → Prop) (gr : Nat → Nat) (s : tab) (g : Nat) : Prop := isG g ∧ ∀ i, i < R → s.2.2.1 i < 15 → gr (s.2.2.1 i) ≠ g
theorem free_span {R n : Nat} {isG : Nat → Prop} {pl : Nat → v3} {gr : Nat → Nat} {sg pw : Nat → Rat} {lo hi : Nat → Rat} {s : tab} (h : NetT R n isG pl gr sg pw lo hi s) {d : v3} (hd : ∀ g, freeG R isG gr s g → dot (pl g) d = 0) : d = (0, 0, 0) := by
  have h' := h
  obtain ⟨hg, h3, e16, e17, e18, hlv, hsg⟩ := h
  obtain ⟨hb, hwf, hV, hVw, hcol, hrow⟩ := hg
  have hX : ∃ x : Nat → Rat, x = fun u => if colb R s.2.2.1 u = true then sg u * dot (pl (gr u)) d else 0 := ⟨_, rfl⟩
  obtain ⟨x, hX⟩ := hX
  have hY : ∃ y : Nat → Rat, y = fun u => if u < 15 then x u else if u = 15 then sm 15 (fun u => pw u * x u) else if u = 16 then d.1 else if u = 17 then d.2.1 else d.2.2 := ⟨_, rfl⟩
  obtain ⟨y, hY⟩ := hY
  have y1 : ∀ u, u < 15 → y u = x u := fun u hu => by rw [hY]; exact if_pos hu
  have y15 : y 15 = sm 15 (fun u => pw u * x u) := by rw [hY]; rfl
  have y16 : y 16 = d.1 := by rw [hY]; rfl
  have y17 : y 17 = d.2.1 := by rw [hY]; rfl
  have y18 : y 18 = d.2.2 := by rw [hY]; rfl
  have hNV : NetV isG pl gr sg pw y := by
    refine ⟨fun g hgG => ?_, ?_⟩
    · have ed : dot (pl g) (y 16, y 17, y 18) = dot (pl g) d := by rw [y16, y17, y18]
      rw [ed]
      by_cases q : ∃ i, i < R ∧ s.2.2.1 i < 15 ∧ gr (s.2.2.1 i) = g
      · obtain ⟨i, hi, hu, hgi⟩ := q
        rw [sm_one hu (fun u hu' hne => by
          by_cases p : gr u = g
          · rw [if_pos p, y1 u hu', hX]
            have : ¬ colb R s.2.2.1 u = true := fun hc => by
              obtain ⟨k, hk, ek⟩ := colb_ex.mp hc
              exact net_rows h' hi hk (fun e => hne (by rw [← ek, e])) hu (by rw [ek]; exact hu') (by rw [hgi, ek, p])
            show sg u * (if colb R s.2.2.1 u = true then _ else 0) = 0
            rw [if_neg this]
            grind
          · rw [if_neg p])]
        rw [if_pos hgi, y1 _ hu, hX]
        show _ = sg _ * (if colb R s.2.2.1 (s.2.2.1 i) = true then _ else 0)
        rw [if_pos (colb_ex.mpr ⟨i, hi, rfl⟩), hgi]
        rcases hsg _ hu (by rw [hgi]; exact hgG) with e | e <;> rw [e] <;> grind
      · rw [hd g ⟨hgG, fun i hi hu e => q ⟨i, hi, hu, e⟩⟩]
        symm
        refine sm_zero fun u hu => ?_
        by_cases p : gr u = g
        · rw [if_pos p, y1 u hu, hX]
          have : ¬ colb R s.2.2.1 u = true := fun hc => by
            obtain ⟨k, hk, ek⟩ := colb_ex.mp hc
            exact q ⟨k, hk, by rw [ek]; exact hu, by rw [ek]; exact p⟩
          show sg u * (if colb R s.2.2.1 u = true then _ else 0) = 0
          rw [if_neg this]
          grind
        · rw [if_neg p]
    · rw [y15]
      exact sm_congr fun u hu => by rw [y1 u hu]
  have hE := (hV y).mpr hNV
  have hE0 : Eqs R n s.1 s.2.1 s.2.2.1 s.2.2.2.1 (fun _ => 0) := fun i hi => by
    rw [sm_zero (fun j _ => by grind)]; grind
  have hz := Eqs_uniq (by grind : s.1 ≠ 0) hE hE0 (fun j hj => by
    have hc := (hcol j hj).1
    rw [y1 _ hc, hX]
    show (if colb R s.2.2.1 (s.2.2.2.1 j) = true then _ else 0) = 0
    rw [if_neg (fun hc => by
      obtain ⟨k, hk, ek⟩ := colb_ex.mp hc
      exact hwf.2.2 k j hk hj ek)])
  have z16 := hz (R - 3) (by omega)
  have z17 := hz (R - 2) (by omega)
  have z18 := hz (R - 1) (by omega)
  rw [e16, y16] at z16
  rw [e17, y17] at z17
  rw [e18, y18] at z18
  exact v3_ext z16 z17 z18
theorem free_col {R n : Nat} {isG : Nat → Prop} {pl : Nat → v3} {gr : Nat → Nat} {sg pw : Nat → Rat} {lo hi : Nat → Rat} {s : tab} (h : NetT R n isG pl gr sg pw lo hi s) {g u : Nat} (hf : freeG R isG gr s g) (hu : u < 15) (he : gr u = g) : s.2.2.2.2 u = lo u ∨ s.2.2.2.2 u = hi u := by
  obtain ⟨hg, h3, e16, e17, e18, hlv, hsg⟩ := h
  rcases (hlv u hu).mp (by rw [he]; exact hf.1) with ⟨i, hi, e⟩ | ⟨j, hj, e⟩
  · exact (hf.2 i hi (by rw [e]; exact hu) (by rw [e]; exact he)).elim
  · have := (hg.2.2.2.2.1 j hj).2.2
    rw [e] at this
    exact this
/-! the order at a node, and its greedy use -/
def isTurn (B : Bk) (tu : Nat → Nat) : Prop := (∀ t, t < B.1 → tu t < B.1) ∧ (∀ t t', t < t' → t' < B.1 → bef B (tu t) (tu t')) ∧ ∀ k, k < B.1 → ∃ t, t < B.1 ∧ tu t = k
def offd (B : Bk) (v : Nat) : Rat := sm B.1 (fun k => if B.2.1 k = v then (if B.2.2.1 k = 1 then 0 else B.2.2.2.2 k) else 0)
def mn (a b : Rat) : Rat := if a < b then a else b
def rsq (B : Bk) (tu : Nat → Nat) (v : Nat) (p : Rat) : Nat → Rat
  | 0 => p
  | t + 1 => if B.2.1 (tu t) = v then rsq B tu v p t - mn (rsq B tu v p t) (B.2.2.2.2 (tu t)) else rsq B tu v p t
def rst0 (N : Net) (B : Bk) (g : Nat) (h : v3) (v : Nat) : Rat := dot (npl (LN N) v) h - (if v = g then 1 else 0) + offd B v
def linesOk (N : Net) (h : v3) : Prop := ∀ k, k < N.1 → - (N.2.2.2.2 k : Rat) ≤ dot (lpl N k) h ∧ dot (lpl N k) h ≤ (N.2.2.2.2 k : Rat)
def candV (N : Net) (B : Bk) (g : Nat) (tu : Nat → Nat) (h : v3) (x : Nat → Rat) (v : Nat) : Prop := 0 ≤ rst0 N B g h v ∧ rsq B tu v (rst0 N B g h v) B.1 = 0 ∧ ∀ t, t < B.1 → B.2.1 (tu t) = v → zz B x (tu t) = mn (rsq B tu v (rst0 N B g h v) t) (B.2.2.2.2 (tu t))
def cand (N : Net) (B : Bk) (g : Nat) (tu : Nat → Nat) (h : v3) (x : Nat → Rat) : Prop := linesOk N h ∧ ∀ v, v < 4 → candV N B g tu h x v
def edge (B : Bk) (g : Nat) (tu : Nat → Nat) (v t : Nat) : Rat := (if v = g then 1 else 0) - offd B v + sm t (fun i => if B.2.1 (tu i) = v then B.2.2.2.2 (tu i) else 0)
def isPlane (N : Net) (B : Bk) (g : Nat) (tu : Nat → Nat) (A : v3) (D : Rat) : Prop := (∃ k, k < N.1 ∧ A = lpl N k ∧ (D = (N.2.2.2.2 k : Rat) ∨ D = - (N.2.2.2.2 k : Rat))) ∨ ∃ v t, v < 4 ∧ t ≤ B.1 ∧ A = npl (LN N) v ∧ D = edge B g tu v t
section VERTEX
variable {N : Net} {B : Bk} {g r : Nat} {a : Rat} {x : Nat → Rat} {h : v3} {tu : Nat → Nat}
theorem turn_inj (ht : isTurn B tu) {t t' : Nat} (h1 : t < B.1) (h2 : t' < B.1) (e : tu t = tu t') : t = t' := by
  rcases Nat.lt_trichotomy t t' with q | q | q
  · have := ht.2.1 t t' q h2; rw [e] at this; exact (bef_irr this).elim
  · exact q
  · have := ht.2.1 t' t q h1; rw [e] at this; exact (bef_irr this).elim
theorem sm_turn (ht : isTurn B tu) (F : Nat → Rat) : sm B.1 (fun t => F (tu t)) = sm B.1 F := by
  have e1 : sm B.1 F = sm B.1 (fun k => sm B.1 (fun t => if tu t = k then F k else 0)) := sm_congr fun k hk => by
    obtain ⟨t, h1, h2⟩ := ht.2.2 k hk
    rw [sm_one h1 (fun j hj hne => by rw [if_neg (fun e => hne (turn_inj ht hj h1 (e.trans h2.symm)))]), if_pos h2]
  rw [e1, sm_comm]
  exact sm_congr fun t h1 => by
    rw [sm_one (ht.1 t h1) (fun k _ hne => by rw [if_neg (fun e => hne e.symm)]), if_pos rfl]
theorem xs_zz (hB : bkOk B) (x : Nat → Rat) (v : Nat) : xs B x v = sm B.1 (fun k => if B.2.1 k = v then zz B x k else 0) - offd B v := by
  unfold xs offd
  rw [← sm_sub]
  refine sm_congr fun k hk => ?_
  by_cases p : B.2.1 k = v
  · rw [if_pos p, if_pos p, if_pos p]
    unfold zz
    rcases (hB.2 k hk).2.1 with e | e
    · rw [if_pos e, if_pos e, e]; grind
    · rw [if_neg (by rw [e]; decide), if_neg (by rw [e]; decide), e]; grind
  · rw [if_neg p, if_neg p, if_neg p]; grind
theorem mn_le1 (a b : Rat) : mn a b ≤ a := by unfold mn; by_cases q : a < b; rw [if_pos q]; grind; rw [if_neg q]; grind
theorem mn_le2 (a b : Rat) : mn a b ≤ b := by unfold mn; by_cases q : a < b; rw [if_pos q]; grind; rw [if_neg q]; grind
theorem mn_nn {a b : Rat} (ha : 0 ≤ a) (hb : 0 ≤ b) : 0 ≤ mn a b := by unfold mn; by_cases q : a < b; rw [if_pos q]; exact ha; rw [if_neg q]; exact hb
theorem rsq_nn (hB : bkOk B) (ht : isTurn B tu) {v : Nat} {p : Rat} (hp : 0 ≤ p) : ∀ t, t ≤ B.1 → 0 ≤ rsq B tu v p t := by
  intro t
  induction t with
  | zero => intro _; exact hp
  | succ t ih =>
    intro h
    have h1 := ih (by omega)
    unfold rsq
    by_cases q : B.2.1 (tu t) = v
    · rw [if_pos q]; have := mn_le1 (rsq B tu v p t) (B.2.2.2.2 (tu t)); grind
    · rw [if_neg q]; exact h1
/-- what the greedy use gives is a dispatch -/
theorem cand_FS (hB : bkOk B) (ht : isTurn B tu) (hc : cand N B g tu h x) : FS N B g x h := by
  have hz : ∀ j, j < B.1 → 0 ≤ zz B x j ∧ zz B x j ≤ B.2.2.2.2 j := fun j hj => by
    obtain ⟨t, h1, h2⟩ := ht.2.2 j hj
    obtain ⟨b1, b2, b3, b4, b5⟩ := hB.2 j hj
    obtain ⟨c1, c2, c3⟩ := hc.2 (B.2.1 j) b1
    have := c3 t h1 (by rw [h2])
    rw [h2] at this
    rw [this]
    exact ⟨mn_nn (rsq_nn hB ht c1 t (by omega)) b5, mn_le2 _ _⟩
  refine ⟨fun j hj => ?_, hc.1, fun v hv => ?_⟩
  · have h1 := hz j hj
    unfold zz at h1
    rcases (hB.2 j hj).2.1 with e | e
    · rw [if_pos e] at h1; exact h1
    · rw [if_neg (by rw [e]; decide)] at h1; grind
  · obtain ⟨c1, c2, c3⟩ := hc.2 v hv
    have hs : ∀ t, t ≤ B.1 → sm t (fun t => if B.2.1 (tu t) = v then zz B x (tu t) else 0) = rst0 N B g h v - rsq B tu v (rst0 N B g h v) t := by
      intro t
      induction t with
      | zero => intro _; show (0 : Rat) = _; unfold rsq; grind
      | succ t ih =>
        intro h
        show sm t _ + (if B.2.1 (tu t) = v then zz B x (tu t) else 0) = _
        rw [ih (by omega), rsq]
        by_cases q : B.2.1 (tu t) = v
        · rw [if_pos q, if_pos q, c3 t (by omega) q]; grind
        · rw [if_neg q, if_neg q]; grind
    have h1 := hs B.1 (Nat.le_refl _)
    rw [sm_turn ht (fun k => if B.2.1 k = v then zz B x k else 0), c2] at h1
    rw [xs_zz hB x v, h1]
    unfold rst0
    grind
theorem opt_zz (hB : bkOk B) (hf : FS N B g x h) {j : Nat} (hj : j < B.1) : 0 ≤ zz B x j ∧ zz B x j ≤ B.2.2.2.2 j := by
  have h1 := hf.1 j hj
  unfold zz
  rcases (hB.2 j hj).2.1 with e | e
  · rw [if_pos e]; exact h1
  · rw [if_neg (by rw [e]; decide)]; grind
/-- the best dispatch is what the greedy use gives -/
theorem opt_cand (hB : bkOk B) (ht : isTurn B tu) (ho : opt N B g x h) : cand N B g tu h x := by
  refine ⟨ho.1.2.1, fun v hv => ?_⟩
  have hF : ∀ t, t < B.1 → 0 ≤ (fun t => if B.2.1 (tu t) = v then zz B x (tu t) else 0) t := fun t h1 => by
    show 0 ≤ if B.2.1 (tu t) = v then zz B x (tu t) else 0
    by_cases q : B.2.1 (tu t) = v
    · rw [if_pos q]; exact (opt_zz hB ho.1 (ht.1 t h1)).1
    · rw [if_neg q]; grind
  have hd := ho.1.2.2 v hv
  have htot : rst0 N B g h v = sm B.1 (fun t => if B.2.1 (tu t) = v then zz B x (tu t) else 0) := by
    rw [sm_turn ht (fun k => if B.2.1 k = v then zz B x k else 0)]
    have := xs_zz hB x v
    unfold rst0
    rw [hd, this]
    grind
  have htail : ∀ t, t ≤ B.1 → ∃ T : Rat, sm B.1 (fun t => if B.2.1 (tu t) = v then zz B x (tu t) else 0) = sm t (fun t => if B.2.1 (tu t) = v then zz B x (tu t) else 0) + T ∧ 0 ≤ T ∧ ((∀ t', t ≤ t' → t' < B.1 → B.2.1 (tu t') = v → zz B x (tu t') = 0) → T = 0) := by
    intro t h1
    refine ⟨sm B.1 (fun t' => if t ≤ t' then (if B.2.1 (tu t') = v then zz B x (tu t') else 0) else 0), ?_, ?_, ?_⟩
    · have e : sm t (fun t => if B.2.1 (tu t) = v then zz B x (tu t) else 0) = sm B.1 (fun t' => if t ≤ t' then 0 else (if B.2.1 (tu t') = v then zz B x (tu t') else 0)) := by
        rw [sm_ext (n := t) B.1 h1 (fun j a b => by rw [if_pos a])]
        exact sm_congr fun j hj => (if_neg (show ¬ t ≤ j by omega)).symm
      rw [e, ← sm_add]
      refine sm_congr fun j _ => ?_
      by_cases q : t ≤ j
      · rw [if_pos q, if_pos q]; grind
      · rw [if_neg q, if_neg q]; grind
    · have := sm_le (n := B.1) (f := fun _ => 0) (g := fun t' => if t ≤ t' then (if B.2.1 (tu t') = v then zz B x (tu t') else 0) else 0) (fun j hj => by
        show (0 : Rat) ≤ if t ≤ j then _ else 0
        by_cases q : t ≤ j
        · rw [if_pos q]; exact hF j hj
        · rw [if_neg q]; grind)
      rw [sm_zero (fun _ _ => rfl)] at this
      exact this
    · intro h2
      refine sm_zero fun j hj => ?_
      by_cases q : t ≤ j
      · rw [if_pos q]
        by_cases q2 : B.2.1 (tu j) = v
        · rw [if_pos q2]; exact h2 j q hj q2
        · rw [if_neg q2]
      · rw [if_neg q]
  have hstep : ∀ t, t < B.1 → B.2.1 (tu t) = v → rst0 N B g h v - sm t (fun t => if B.2.1 (tu t) = v then zz B x (tu t) else 0) = rsq B tu v (rst0 N B g h v) t → zz B x (tu t) = mn (rsq B tu v (rst0 N B g h v) t) (B.2.2.2.2 (tu t)) := by
    intro t h1 hv1 hr
    obtain ⟨T, t1, t2, t3⟩ := htail (t + 1) (by omega)
    have e1 : sm (t + 1) (fun t => if B.2.1 (tu t) = v then zz B x (tu t) else 0) = sm t (fun t => if B.2.1 (tu t) = v then zz B x (tu t) else 0) + zz B x (tu t) := by
      show sm t _ + (if B.2.1 (tu t) = v then zz B x (tu t) else 0) = _
      rw [if_pos hv1]
    have e2 : rsq B tu v (rst0 N B g h v) t = zz B x (tu t) + T := by rw [← hr, htot, t1, e1]; grind
    have hz := opt_zz hB ho.1 (ht.1 t h1)
    rw [e2]
    unfold mn
    by_cases q : zz B x (tu t) = B.2.2.2.2 (tu t)
    · rw [if_neg (by grind)]; exact q
    · have hT : T = 0 := t3 fun t' a1 a2 a3 => by
        rcases opt_swap hB ho (ht.1 t h1) (ht.1 t' a2) (hv1.trans a3.symm) (ht.2.1 t t' (by omega) a2) with p | p
        · exact (q p).elim
        · exact p
      rw [hT, if_pos (by grind)]
      grind
  have hr : ∀ t, t ≤ B.1 → rst0 N B g h v - sm t (fun t => if B.2.1 (tu t) = v then zz B x (tu t) else 0) = rsq B tu v (rst0 N B g h v) t := by
    intro t
    induction t with
    | zero => intro _; show _ - (0 : Rat) = rst0 N B g h v; grind
    | succ t ih =>
      intro h1
      have i1 := ih (by omega)
      rw [rsq, ← i1]
      show _ - (sm t _ + (if B.2.1 (tu t) = v then zz B x (tu t) else 0)) = _
      by_cases q : B.2.1 (tu t) = v
      · rw [if_pos q, if_pos q]
        have := hstep t (by omega) q i1
        rw [i1, ← this]
        grind
      · rw [if_neg q, if_neg q]; grind
  refine ⟨?_, ?_, fun t h1 hv1 => hstep t h1 hv1 (hr t (by omega))⟩
  · rw [htot]
    have := sm_le (n := B.1) (f := fun _ => 0) hF
    rw [sm_zero (fun _ _ => rfl)] at this
    exact this
  · rw [← hr B.1 (Nat.le_refl _), htot]; grind
/-- a node all of whose steps stand at a bound lies on a plane -/
theorem opt_plane (hB : bkOk B) (ht : isTurn B tu) (ho : opt N B g x h) {v : Nat} (hv : v < 4) (hb : ∀ j, j < B.1 → B.2.1 j = v → x j = 0 ∨ x j = B.2.2.2.2 j) : ∃ t, t ≤ B.1 ∧ dot (npl (LN N) v) h = edge B g tu v t := by
  have hz : ∀ j, j < B.1 → B.2.1 j = v → zz B x j = 0 ∨ zz B x j = B.2.2.2.2 j := fun j hj hn => by
    unfold zz
    rcases (hB.2 j hj).2.1 with e | e
    · rw [if_pos e]; exact hb j hj hn
    · rw [if_neg (by rw [e]; decide)]; rcases hb j hj hn with p | p <;> rw [p] <;> grind
  have hmin : ∀ n, n ≤ B.1 → (∀ t, t < n → B.2.1 (tu t) = v → zz B x (tu t) = B.2.2.2.2 (tu t)) ∨ ∃ t, t < n ∧ B.2.1 (tu t) = v ∧ zz B x (tu t) ≠ B.2.2.2.2 (tu t) ∧ ∀ t', t' < t → B.2.1 (tu t') = v → zz B x (tu t') = B.2.2.2.2 (tu t') := by
    intro n
    induction n with
    | zero => intro _; exact Or.inl fun t ht => by omega
    | succ n ih =>
      intro hn
      rcases ih (by omega) with p | ⟨t, p1, p2⟩
      · by_cases q : B.2.1 (tu n) = v ∧ zz B x (tu n) ≠ B.2.2.2.2 (tu n)
        · exact Or.inr ⟨n, by omega, q.1, q.2, p⟩
        · refine Or.inl fun t h1 h2 => ?_
          by_cases e : t = n
          · subst e
            by_cases q2 : zz B x (tu t) = B.2.2.2.2 (tu t)
            · exact q2
            · exact (q ⟨h2, q2⟩).elim
          · exact p t (by omega) h2
      · exact Or.inr ⟨t, by omega, p2⟩
  have key : ∃ t, t ≤ B.1 ∧ (∀ i, i < t → B.2.1 (tu i) = v → zz B x (tu i) = B.2.2.2.2 (tu i)) ∧ ∀ i, t ≤ i → i < B.1 → B.2.1 (tu i) = v → zz B x (tu i) = 0 := by
    rcases hmin B.1 (Nat.le_refl _) with p | ⟨t, p1, p2, p3, p4⟩
    · exact ⟨B.1, Nat.le_refl _, p, fun i a b => by omega⟩
    · refine ⟨t, by omega, p4, fun i a b c => ?_⟩
      by_cases e : i = t
      · rw [e]; rcases hz (tu t) (ht.1 t p1) p2 with q | q
        · exact q
        · exact (p3 q).elim
      · rcases opt_swap hB ho (ht.1 t p1) (ht.1 i b) (p2.trans c.symm) (ht.2.1 t i (by omega) b) with q | q
        · exact (p3 q).elim
        · exact q
  obtain ⟨t, h1, h2, h3⟩ := key
  refine ⟨t, h1, ?_⟩
  rw [ho.1.2.2 v hv, xs_zz hB x v, ← sm_turn ht (fun k => if B.2.1 k = v then zz B x k else 0)]
  rw [sm_ext (n := t) B.1 h1 (fun i a b => by
    by_cases q : B.2.1 (tu i) = v
    · rw [if_pos q]; exact h3 i a b q
    · rw [if_neg q])]
  rw [sm_congr (n := t) (f := fun t => if B.2.1 (tu t) = v then zz B x (tu t) else 0) (g := fun i => if B.2.1 (tu i) = v then B.2.2.2.2 (tu i) else 0) (fun i hi => by
    by_cases q : B.2.1 (tu i) = v
    · rw [if_pos q, if_pos q]; exact h2 i hi q
    · rw [if_neg q, if_neg q])]
  unfold edge
  grind
end VERTEX
