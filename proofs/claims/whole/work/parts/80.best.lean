/-! the stages' last table holds the best dispatch, at a vertex -/
def mkY (N : Net) (B : Bk) (x : Nat → Rat) (h : v3) (e : Rat) (u : Nat) : Rat := if u < 8 then x u else if u = 8 then e else if u < 15 then dot (lpl N (u - 9)) h else if u = 15 then wl B x else if u = 16 then h.1 else if u = 17 then h.2.1 else h.2.2
theorem good_bnd {R n : Nat} {V : (Nat → Rat) → Prop} {lo hi : Nat → Rat} {s : tab} (hg : tGood R n V lo hi s) {u : Nat} (hu : u < 15) (hl : live R n s u) : lo u ≤ s.2.2.2.2 u ∧ s.2.2.2.2 u ≤ hi u := by
  rcases hl with ⟨i, hi, e⟩ | ⟨j, hj, e⟩
  · have := hg.2.2.2.2.2 i hi (by rw [e]; exact hu)
    rw [e] at this
    exact this
  · obtain ⟨c1, c2, c3⟩ := hg.2.2.2.2.1 j hj
    rw [e] at c2 c3
    rcases c3 with c3 | c3 <;> rw [c3] <;> grind
section BEST
variable {S : z_S} {N : Net} {B : Bk} {g r : Nat} {a : Rat} {x : Nat → Rat} {h : v3} {tu : Nat → Nat} {s t : tab} {fz fz' : Nat → Bool}
theorem hiN_j {j : Nat} (hj : j < B.1) : hiN N B a j = B.2.2.2.2 j := by unfold hiN; rw [if_pos hj]
theorem loN_j (hB : bkOk B) {j : Nat} (hj : j < B.1) : loN N j = 0 := by unfold loN; rw [if_neg (by have := hB.1; omega)]
theorem hiN_k (hB : bkOk B) {k : Nat} (hk : k < N.1) : hiN N B a (9 + k) = (N.2.2.2.2 k : Rat) := by
  unfold hiN
  rw [if_neg (by have := hB.1; omega), if_neg (by omega), if_pos (by omega), Nat.add_sub_cancel_left]
theorem loN_k {k : Nat} (hk : k < N.1) : loN N (9 + k) = - (N.2.2.2.2 k : Rat) := by
  unfold loN
  rw [if_pos (by omega), Nat.add_sub_cancel_left]
theorem FS_Feas (hN : netOk N) (hB : bkOk B) (hr : r < 4) (hl : ∀ u, live (N.1 + 2 + 3) B.1 s u ↔ lives N B u) (hf : FS N B g x h) {e : Rat} (he : (g = r ∧ e = 1 ∧ a = 1) ∨ (4 ≤ g ∧ e = 0 ∧ 0 ≤ a)) : Feas (N.1 + 2 + 3) B.1 (NV N B r) (loN N) (hiN N B a) s (mkY N B x h e) := by
  have h88 := hB.1
  have h6 := hN.1
  have yj : ∀ j, j < B.1 → mkY N B x h e j = x j := fun j hj => by unfold mkY; rw [if_pos (by omega)]
  have y8 : mkY N B x h e 8 = e := rfl
  have yk : ∀ k, k < N.1 → mkY N B x h e (9 + k) = dot (lpl N k) h := fun k hk => by unfold mkY; rw [if_neg (by omega), if_neg (by omega), if_pos (by omega), Nat.add_sub_cancel_left]
  have yh : hy (mkY N B x h e) = h := rfl
  have xe : ∀ v, xs B (mkY N B x h e) v = xs B x v := fun v => sm_congr fun j hj => by rw [yj j hj]
  have we : wl B (mkY N B x h e) = wl B x := sm_congr fun j hj => by rw [yj j hj]
  refine ⟨(NV_iff hN hB hr _).mpr ⟨fun v hv => ?_, fun k hk => ?_, ?_⟩, fun u hu hlu => ?_⟩
  · rw [yh, xe, y8, hf.2.2 v hv]
    congr 1
    rcases he with ⟨e1, e2, -⟩ | ⟨e1, e2, -⟩
    · by_cases q : v = g
      · rw [if_pos q, if_pos (by omega), e2]
      · rw [if_neg q, if_neg (by omega)]
    · rw [if_neg (by omega), e2]
      by_cases q : r = v
      · rw [if_pos q]
      · rw [if_neg q]
  · rw [yh, yk k hk]
  · rw [we]; rfl
  · have hlu := (hl u).mp hlu
    unfold lives at hlu
    rcases hlu with q | q | q | q | q
    · rw [yj u q, loN_j hB q, hiN_j q]; exact hf.1 u q
    · rw [q, y8, lo8, hi8 hB]
      rcases he with ⟨-, e2, e3⟩ | ⟨-, e2, e3⟩
      · rw [e2, e3]; grind
      · rw [e2]; grind
    · have e1 : u = 9 + (u - 9) := by omega
      rw [e1, yk _ (by omega), loN_k (by omega), hiN_k hB (by omega)]
      exact hf.2.1 _ (by omega)
    · omega
    · omega
theorem good_FS (hN : netOk N) (hB : bkOk B) (hr : r < 4) (hp : PIn N B r a s) (hl : ∀ u, live (N.1 + 2 + 3) B.1 s u ↔ lives N B u) (he : (g = r ∧ s.2.2.2.2 8 = 1) ∨ (4 ≤ g ∧ s.2.2.2.2 8 = 0)) : FS N B g s.2.2.2.2 (hy s.2.2.2.2) := by
  have hb := fun u (hu : u < 15) (hlu : lives N B u) => good_bnd hp.1.1 hu ((hl u).mpr hlu)
  have hv := (NV_iff hN hB hr _).mp hp.1.1.2.2.2.1
  have h88 := hB.1
  have h6 := hN.1
  refine ⟨fun j hj => ?_, fun k hk => ?_, fun v hv4 => ?_⟩
  · have := hb j (by omega) (Or.inl hj)
    rw [loN_j hB hj, hiN_j hj] at this
    exact this
  · have := hb (9 + k) (by omega) (Or.inr (Or.inr (Or.inl ⟨by omega, by omega⟩)))
    rw [loN_k hk, hiN_k hB hk] at this
    rw [hv.2.1 k hk]
    exact this
  · rw [hv.1 v hv4]
    congr 1
    rcases he with ⟨e1, e2⟩ | ⟨e1, e2⟩
    · rw [e2]
      by_cases q : v = g
      · rw [if_pos q, if_pos (by omega)]
      · rw [if_neg q, if_neg (by omega)]
    · rw [e2, if_neg (show ¬ v = g by omega), ite_self]
theorem oy_y (hN : netOk N) (hB : bkOk B) (hr : r < 4) {y : Nat → Rat} (hv : NV N B r y) : ∀ u, u ∈ aims B → y u = oy B y u := by
  intro u hu
  unfold oy
  by_cases q : u = 15
  · rw [if_pos q, q]; exact ((NV_iff hN hB hr y).mp hv).2.2
  · rw [if_neg q]
theorem oy_mkY (hN : netOk N) (hB : bkOk B) {e : Rat} : ∀ u, u ∈ aims B → mkY N B x h e u = oy B x u := by
  intro u hu
  have h88 := hB.1
  unfold oy
  by_cases q : u = 15
  · rw [if_pos q, q]; rfl
  · rw [if_neg q]
    rcases List.mem_cons.mp hu with q2 | q2
    · exact (q q2).elim
    · have := (List.mem_range'_1.mp q2)
      unfold mkY
      rw [if_pos (by omega)]
theorem w8_0 (hN : netOk N) (hB : bkOk B) (hp : PIn N B r 0 s) (hl : ∀ u, live (N.1 + 2 + 3) B.1 s u ↔ lives N B u) : s.2.2.2.2 8 = 0 := by
  have := good_bnd hp.1.1 (u := 8) (by omega) ((hl 8).mpr (Or.inr (Or.inl rfl)))
  rw [lo8, hi8 hB] at this
  grind
theorem cl_opt (hN : netOk N) (hB : bkOk B) (hr : r < 4) (hT : 0 < Tr (LN N) r) (hc : CS N B r 0 S t fz') (hs : Stages (N.1 + 2 + 3) B.1 (NV N B r) (loN N) (hiN N B 0) (aims B) (fun _ => false) (sT N B r) fz' t) : opt N B 4 t.2.2.2.2 (hy t.2.2.2.2) := by
  obtain ⟨hp, -, hl⟩ := hc
  have hp0 := start_PI (a := 0) hN hB hr hT (Or.inl rfl)
  have hl0 : ∀ u, live (N.1 + 2 + 3) B.1 (sT N B r) u ↔ lives N B u := fun u => start_live hN hB u
  refine ⟨good_FS hN hB hr hp hl (Or.inr ⟨by omega, w8_0 hN hB hp hl⟩), fun x' h' hf => ?_⟩
  have hF := FS_Feas (a := 0) (e := 0) hN hB hr hl0 hf (Or.inr ⟨by omega, rfl, by grind⟩)
  have := Stages_lex hp0.1.1 hs _ hF (fun j _ hj => by cases hj)
  exact (lexle_congr (oy_mkY hN hB) (oy_y hN hB hr hp.1.1.2.2.2.1)).mp this
theorem ex_opt (hN : netOk N) (hB : bkOk B) (hr : r < 4) (hT : 0 < Tr (LN N) r) {f1 : Nat → Bool} {t1 : tab} (hc1 : PIn N B r 1 t1) (hl1 : ∀ u, live (N.1 + 2 + 3) B.1 t1 u ↔ lives N B u) (h1 : Stage (N.1 + 2 + 3) B.1 (NV N B r) (loN N) (hiN N B 1) 8 (fun _ => false) (sT N B r) f1 t1) (hw : t1.2.2.2.2 8 = 1) (hp : PIn N B r 1 t) (hl : ∀ u, live (N.1 + 2 + 3) B.1 t u ↔ lives N B u) (hs : Stages (N.1 + 2 + 3) B.1 (NV N B r) (loN N) (hiN N B 1) (aims B) f1 t1 fz' t) : opt N B r t.2.2.2.2 (hy t.2.2.2.2) := by
  have hl0 : ∀ u, live (N.1 + 2 + 3) B.1 (sT N B r) u ↔ lives N B u := fun u => start_live hN hB u
  obtain ⟨k1, k2, k3⟩ := Stages_keep hc1.1.1 hs
  have w8 : t.2.2.2.2 8 = 1 := by rw [h1.2.2.2.2 _ hp.1.1.2.2.2.1 (fun j hj hf => k3 j hj hf), hw]
  refine ⟨good_FS hN hB hr hp hl (Or.inl ⟨rfl, w8⟩), fun x' h' hf => ?_⟩
  have hF := FS_Feas (a := 1) (e := 1) hN hB hr hl0 hf (Or.inl ⟨rfl, rfl, rfl⟩)
  have hF1 := FS_Feas (a := 1) (e := 1) hN hB hr hl1 hf (Or.inl ⟨rfl, rfl, rfl⟩)
  have hag := (h1.2.2.2.1 _ hF (fun j _ hj => by cases hj)).2 (by rw [hw]; rfl)
  have := Stages_lex hc1.1.1 hs _ hF1 hag
  exact (lexle_congr (oy_mkY hN hB) (oy_y hN hB hr hp.1.1.2.2.2.1)).mp this
theorem ex_none (hN : netOk N) (hB : bkOk B) (hr : r < 4) {f1 : Nat → Bool} {t1 : tab} (hc1 : PIn N B r 1 t1) (hl1 : ∀ u, live (N.1 + 2 + 3) B.1 t1 u ↔ lives N B u) (h1 : Stage (N.1 + 2 + 3) B.1 (NV N B r) (loN N) (hiN N B 1) 8 (fun _ => false) (sT N B r) f1 t1) (hw : t1.2.2.2.2 8 ≠ 1) : ¬ ∃ x h, FS N B r x h := by
  rintro ⟨x', h', hf⟩
  have hl0 : ∀ u, live (N.1 + 2 + 3) B.1 (sT N B r) u ↔ lives N B u := fun u => start_live hN hB u
  have hF := FS_Feas (a := 1) (e := 1) hN hB hr hl0 hf (Or.inl ⟨rfl, rfl, rfl⟩)
  have h2 := (h1.2.2.2.1 _ hF (fun j _ hj => by cases hj)).1
  have h2 : (1 : Rat) ≤ t1.2.2.2.2 8 := h2
  have := (good_bnd hc1.1.1 (u := 8) (by omega) ((hl1 8).mpr (Or.inr (Or.inl rfl)))).2
  rw [hi8 hB] at this
  grind
/-- the last table's point lies on three planes of the market that meet in it alone -/
theorem opt_vertex (hN : netOk N) (hB : bkOk B) (hr : r < 4) (hp : PIn N B r a t) (hl : ∀ u, live (N.1 + 2 + 3) B.1 t u ↔ lives N B u) (ht : isTurn B tu) (ho : opt N B g t.2.2.2.2 (hy t.2.2.2.2)) : ∃ A1 A2 A3 D1 D2 D3, isPlane N B g tu A1 D1 ∧ isPlane N B g tu A2 D2 ∧ isPlane N B g tu A3 D3 ∧ det3 A1 A2 A3 ≠ 0 ∧ dot A1 (hy t.2.2.2.2) = D1 ∧ dot A2 (hy t.2.2.2.2) = D2 ∧ dot A3 (hy t.2.2.2.2) = D3 := by
  have h88 := hB.1
  have h6 := hN.1
  obtain ⟨g1, g2, g3, p1, p2, p3, hd⟩ := span3 (P := freeG (N.1 + 2 + 3) (isGn N) (grn N B r) t) (f := pln N) (fun d hd => free_span hp.1 hd)
  have hv := (NV_iff hN hB hr _).mp hp.1.1.2.2.2.1
  have key : ∀ g0, freeG (N.1 + 2 + 3) (isGn N) (grn N B r) t g0 → isPlane N B g tu (pln N g0) (dot (pln N g0) (hy t.2.2.2.2)) := by
    intro g0 hf
    unfold pln
    by_cases q : g0 < 4
    · rw [if_pos q]
      obtain ⟨i, i1, i2⟩ := opt_plane hB ht ho q (fun j hj hn => by
        have := free_col hp.1 hf (u := j) (by omega) (by unfold grn; rw [if_pos hj]; exact hn)
        rw [loN_j hB hj, hiN_j hj] at this
        exact this)
      exact Or.inr ⟨g0, i, q, i1, rfl, i2⟩
    · rw [if_neg q]
      have hk : 9 ≤ g0 ∧ g0 < 9 + N.1 := by
        rcases hf.1 with h1 | h1
        · exact (q h1).elim
        · exact h1
      have := free_col hp.1 hf (u := g0) (by omega) (by unfold grn; rw [if_neg (by omega), if_neg (by omega), if_pos hk])
      refine Or.inl ⟨g0 - 9, by omega, rfl, ?_⟩
      rw [hv.2.1 (g0 - 9) (by omega)]
      have e : g0 = 9 + (g0 - 9) := by omega
      rw [e, loN_k (by omega), hiN_k hB (by omega)] at this
      exact this.symm
  exact ⟨_, _, _, _, _, _, key g1 p1, key g2 p2, key g3 p3, hd, rfl, rfl, rfl⟩
end BEST
