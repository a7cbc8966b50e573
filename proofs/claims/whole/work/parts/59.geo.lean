/-! tables of a network: groups of variables, each with a plane; the heights are the last three rows -/
theorem sm_two {n u v : Nat} {f : Nat → Rat} (hu : u < n) (hv : v < n) (huv : u ≠ v) (h : ∀ x, x < n → x ≠ u → x ≠ v → f x = 0) : sm n f = f u + f v := by
  rw [sm_upd (c := u) (g := fun x => if x = u then 0 else f x) hu (fun j _ hj => by rw [if_neg hj]), if_pos rfl]
  rw [sm_one (c := v) hv (fun x hx hxv => by
    by_cases e : x = u
    · rw [if_pos e]
    · rw [if_neg e]; exact h x hx e hxv), if_neg (fun e => huv e.symm)]
  grind
def NetV (isG : Nat → Prop) (pl : Nat → v3) (gr : Nat → Nat) (sg pw : Nat → Rat) (y : Nat → Rat) : Prop := (∀ g, isG g → dot (pl g) (y 16, y 17, y 18) = sm 15 (fun u => if gr u = g then sg u * y u else 0)) ∧ y 15 = sm 15 (fun u => pw u * y u)
def hD (R : Nat) (s : tab) (j : Nat) : v3 := (s.2.1 (R - 3) j, s.2.1 (R - 2) j, s.2.1 (R - 1) j)
/-- the table is of this network: its variables below 15 are those that belong to a group -/
def NetT (R n : Nat) (isG : Nat → Prop) (pl : Nat → v3) (gr : Nat → Nat) (sg pw : Nat → Rat) (lo hi : Nat → Rat) (s : tab) : Prop :=
  tGood R n (NetV isG pl gr sg pw) lo hi s ∧ 3 ≤ R ∧ s.2.2.1 (R - 3) = 16 ∧ s.2.2.1 (R - 2) = 17 ∧ s.2.2.1 (R - 1) = 18 ∧ (∀ u, u < 15 → (isG (gr u) ↔ live R n s u)) ∧ (∀ u, u < 15 → isG (gr u) → sg u = 1 ∨ sg u = -1)
theorem net_col {R n : Nat} {isG : Nat → Prop} {pl : Nat → v3} {gr : Nat → Nat} {sg pw : Nat → Rat} {lo hi : Nat → Rat} {s : tab} (h : NetT R n isG pl gr sg pw lo hi s) {j : Nat} (hj : j < n) : (∀ g, isG g → dot (pl g) (hD R s j) = sm 15 (fun u => if gr u = g then sg u * Col R s.1 s.2.1 s.2.2.1 s.2.2.2.1 j u else 0)) ∧ Col R s.1 s.2.1 s.2.2.1 s.2.2.2.1 j 15 = sm 15 (fun u => pw u * Col R s.1 s.2.1 s.2.2.1 s.2.2.2.1 j u) := by
  obtain ⟨hg, h3, e16, e17, e18, -, -⟩ := h
  have hv := (hg.2.2.1 _).mp (Col_eqs (b := s.1) (C := s.2.1) hg.2.1 hj)
  refine ⟨fun g hgi => ?_, hv.2⟩
  have := hv.1 g hgi
  rw [← e16, ← e17, ← e18, Col_row hg.2.1 hj (by omega), Col_row hg.2.1 hj (by omega), Col_row hg.2.1 hj (by omega)] at this
  exact this
theorem net_same {R n : Nat} {isG : Nat → Prop} {pl : Nat → v3} {gr : Nat → Nat} {sg pw : Nat → Rat} {lo hi : Nat → Rat} {s : tab} (h : NetT R n isG pl gr sg pw lo hi s) {i j : Nat} (hi0 : i < R) (hj : j < n) (hu : s.2.2.1 i < 15) (he : gr (s.2.2.1 i) = gr (s.2.2.2.1 j)) : hD R s j = (0, 0, 0) ∧ s.2.1 i j = - (sg (s.2.2.1 i) * sg (s.2.2.2.1 j) * s.1) := by
  obtain ⟨b, C, rv, cv, w⟩ := s
  obtain ⟨hg, h3, e16, e17, e18, hlv, hsg⟩ := h
  have hg : Good R n (NetV isG pl gr sg pw) lo hi b C rv cv w := hg
  have e16 : rv (R - 3) = 16 := e16
  have e17 : rv (R - 2) = 17 := e17
  have e18 : rv (R - 1) = 18 := e18
  have hwf := hg.2.1
  have hv15 : cv j < 15 := (hg.2.2.2.2.1 j hj).1
  have hu : rv i < 15 := hu
  have he : gr (rv i) = gr (cv j) := he
  have huv : rv i ≠ cv j := hwf.2.2 i j hi0 hj
  have hub := hsg (rv i) hu ((hlv _ hu).mpr (Or.inl ⟨i, hi0, rfl⟩))
  have huu : sg (rv i) * sg (rv i) = 1 := by rcases hub with h | h <;> rw [h] <;> grind
  -- a solution that moves these two alone
  let ys : Nat → Rat := fun x => if x = cv j then b else if x = rv i then - (sg (rv i) * sg (cv j) * b) else if x = 15 then pw (cv j) * b - pw (rv i) * (sg (rv i) * sg (cv j) * b) else 0
  have y1 : ys (cv j) = b := if_pos rfl
  have y2 : ys (rv i) = - (sg (rv i) * sg (cv j) * b) := by show (if rv i = cv j then _ else _) = _; rw [if_neg huv, if_pos rfl]
  have y3 : ∀ x, x ≠ cv j → x ≠ rv i → x ≠ 15 → ys x = 0 := fun x a1 a2 a3 => by show (if x = cv j then _ else _) = _; rw [if_neg a1, if_neg a2, if_neg a3]
  have y15 : ys 15 = pw (cv j) * b - pw (rv i) * (sg (rv i) * sg (cv j) * b) := by show (if 15 = cv j then _ else _) = _; rw [if_neg (by omega), if_neg (by omega), if_pos rfl]
  have hV : NetV isG pl gr sg pw ys := by
    refine ⟨fun g hgi => ?_, ?_⟩
    · rw [y3 16 (by omega) (by omega) (by omega), y3 17 (by omega) (by omega) (by omega), y3 18 (by omega) (by omega) (by omega)]
      rw [sm_two hu hv15 huv (fun x hx a1 a2 => by
        by_cases e : gr x = g
        · rw [if_pos e, y3 x a2 a1 (by omega)]; grind
        · rw [if_neg e])]
      have e0 : dot (pl g) ((0, 0, 0) : v3) = 0 := by show (pl g).1 * 0 + (pl g).2.1 * 0 + (pl g).2.2 * 0 = 0; grind
      rw [e0, he, y1, y2]
      by_cases e : gr (cv j) = g
      · rw [if_pos e, if_pos e]; grind
      · rw [if_neg e, if_neg e]; grind
    · rw [sm_two hu hv15 huv (fun x hx a1 a2 => by rw [y3 x a2 a1 (by omega)]; grind), y1, y2, y15]; grind
  have hE := (hg.2.2.1 ys).mpr hV
  have hC := Col_eqs (b := b) (C := C) hwf hj
  have hb0 : b ≠ 0 := by have := hg.1; grind
  have hr := Eqs_uniq hb0 hE hC (fun k hk => by
    rw [Col_col hwf hj hk]
    by_cases e : k = j
    · rw [if_pos e, e, y1]
    · rw [if_neg e]
      exact y3 _ (fun q => e (hwf.2.1 k j hk hj q)) (fun q => hwf.2.2 i k hi0 hk q.symm) (by have := (hg.2.2.2.2.1 k hk).1; omega))
  have r1 := hr (R - 3) (by omega)
  have r2 := hr (R - 2) (by omega)
  have r3 := hr (R - 1) (by omega)
  have r0 := hr i hi0
  rw [Col_row hwf hj (by omega)] at r1 r2 r3 r0
  rw [e16, y3 16 (by omega) (by omega) (by omega)] at r1
  rw [e17, y3 17 (by omega) (by omega) (by omega)] at r2
  rw [e18, y3 18 (by omega) (by omega) (by omega)] at r3
  rw [y2] at r0
  exact ⟨v3_ext r1.symm r2.symm r3.symm, r0.symm⟩
theorem net_rows {R n : Nat} {isG : Nat → Prop} {pl : Nat → v3} {gr : Nat → Nat} {sg pw : Nat → Rat} {lo hi : Nat → Rat} {s : tab} (h : NetT R n isG pl gr sg pw lo hi s) {i k : Nat} (hi0 : i < R) (hk : k < R) (hik : i ≠ k) (hu : s.2.2.1 i < 15) (hv : s.2.2.1 k < 15) (he : gr (s.2.2.1 i) = gr (s.2.2.1 k)) : False := by
  obtain ⟨b, C, rv, cv, w⟩ := s
  obtain ⟨hg, h3, e16, e17, e18, hlv, hsg⟩ := h
  have hg : Good R n (NetV isG pl gr sg pw) lo hi b C rv cv w := hg
  have hwf := hg.2.1
  have hu : rv i < 15 := hu
  have hv : rv k < 15 := hv
  have he : gr (rv i) = gr (rv k) := he
  have huv : rv i ≠ rv k := fun e => hik (hwf.1 i k hi0 hk e)
  have hub := hsg (rv i) hu ((hlv _ hu).mpr (Or.inl ⟨i, hi0, rfl⟩))
  have hvb := hsg (rv k) hv ((hlv _ hv).mpr (Or.inl ⟨k, hk, rfl⟩))
  have huu : sg (rv i) * sg (rv i) = 1 := by rcases hub with h | h <;> rw [h] <;> grind
  have hvv : sg (rv k) * sg (rv k) = 1 := by rcases hvb with h | h <;> rw [h] <;> grind
  let ys : Nat → Rat := fun x => if x = rv i then sg (rv i) else if x = rv k then - sg (rv k) else if x = 15 then pw (rv i) * sg (rv i) - pw (rv k) * sg (rv k) else 0
  have y1 : ys (rv i) = sg (rv i) := if_pos rfl
  have y2 : ys (rv k) = - sg (rv k) := by show (if rv k = rv i then _ else _) = _; rw [if_neg (fun e => huv e.symm), if_pos rfl]
  have y3 : ∀ x, x ≠ rv i → x ≠ rv k → x ≠ 15 → ys x = 0 := fun x a1 a2 a3 => by show (if x = rv i then _ else _) = _; rw [if_neg a1, if_neg a2, if_neg a3]
  have y15 : ys 15 = pw (rv i) * sg (rv i) - pw (rv k) * sg (rv k) := by show (if 15 = rv i then _ else _) = _; rw [if_neg (by omega), if_neg (by omega), if_pos rfl]
  have hV : NetV isG pl gr sg pw ys := by
    refine ⟨fun g hgi => ?_, ?_⟩
    · rw [y3 16 (by omega) (by omega) (by omega), y3 17 (by omega) (by omega) (by omega), y3 18 (by omega) (by omega) (by omega)]
      rw [sm_two hu hv huv (fun x hx a1 a2 => by
        by_cases e : gr x = g
        · rw [if_pos e, y3 x a1 a2 (by omega)]; grind
        · rw [if_neg e])]
      have e0 : dot (pl g) ((0, 0, 0) : v3) = 0 := by show (pl g).1 * 0 + (pl g).2.1 * 0 + (pl g).2.2 * 0 = 0; grind
      rw [e0, he, y1, y2]
      by_cases e : gr (rv k) = g
      · rw [if_pos e, if_pos e]; grind
      · rw [if_neg e, if_neg e]; grind
    · rw [sm_two hu hv huv (fun x hx a1 a2 => by rw [y3 x a1 a2 (by omega)]; grind), y1, y2, y15]; grind
  have hE := (hg.2.2.1 ys).mpr hV
  have hb0 : b ≠ 0 := by have := hg.1; grind
  have hZ : Eqs R n b C rv cv (fun _ => 0) := fun x _ => by rw [sm_zero (fun j _ => by grind)]; grind
  have hr := Eqs_uniq hb0 hE hZ (fun q hq => y3 _ (fun e => hwf.2.2 i q hi0 hq e.symm) (fun e => hwf.2.2 k q hk hq e.symm) (by have := (hg.2.2.2.2.1 q hq).1; omega)) i hi0
  rw [y1] at hr
  grind
/-- the plane of a row's group reads its cells off the heights -/
theorem net_cell {R n : Nat} {isG : Nat → Prop} {pl : Nat → v3} {gr : Nat → Nat} {sg pw : Nat → Rat} {lo hi : Nat → Rat} {s : tab} (h : NetT R n isG pl gr sg pw lo hi s) {i j : Nat} (hi0 : i < R) (hj : j < n) (hu : s.2.2.1 i < 15) (hne : gr (s.2.2.1 i) ≠ gr (s.2.2.2.1 j)) : dot (pl (gr (s.2.2.1 i))) (hD R s j) = sg (s.2.2.1 i) * s.2.1 i j := by
  have hh := h
  obtain ⟨hg, h3, e16, e17, e18, hlv, hsg⟩ := h
  have hwf := hg.2.1
  have hG : isG (gr (s.2.2.1 i)) := (hlv _ hu).mpr (Or.inl ⟨i, hi0, rfl⟩)
  rw [(net_col hh hj).1 _ hG, sm_one (c := s.2.2.1 i) hu (fun x hx hxi => ?_), if_pos rfl, Col_row hwf hj hi0]
  by_cases e : gr x = gr (s.2.2.1 i)
  · rw [if_pos e]
    have hx2 : isG (gr x) := by rw [e]; exact hG
    rcases (hlv x hx).mp hx2 with ⟨k, hk, ek⟩ | ⟨k, hk, ek⟩
    · exfalso
      subst ek
      exact net_rows hh hk hi0 (fun q => hxi (by rw [q])) hx hu e
    · subst ek
      rw [Col_col hwf hj hk, if_neg (fun q => hne (by rw [← q]; exact e.symm))]
      grind
  · rw [if_neg e]
/-- a column of a group that stands in no row -/
theorem net_free {R n : Nat} {isG : Nat → Prop} {pl : Nat → v3} {gr : Nat → Nat} {sg pw : Nat → Rat} {lo hi : Nat → Rat} {s : tab} (h : NetT R n isG pl gr sg pw lo hi s) {g j : Nat} (hG : isG g) (hj : j < n) (hno : ∀ i, i < R → s.2.2.1 i < 15 → gr (s.2.2.1 i) ≠ g) : dot (pl g) (hD R s j) = if gr (s.2.2.2.1 j) = g then sg (s.2.2.2.1 j) * s.1 else 0 := by
  have hh := h
  obtain ⟨hg, h3, e16, e17, e18, hlv, hsg⟩ := h
  have hwf := hg.2.1
  have h15 := (hg.2.2.2.2.1 j hj).1
  rw [(net_col hh hj).1 _ hG, sm_one (c := s.2.2.2.1 j) h15 (fun x hx hxj => ?_), Col_col hwf hj hj, if_pos rfl]
  by_cases e : gr x = g
  · rw [if_pos e]
    have hx2 : isG (gr x) := by rw [e]; exact hG
    rcases (hlv x hx).mp hx2 with ⟨k, hk, ek⟩ | ⟨k, hk, ek⟩
    · subst ek; exact absurd e (hno k hk hx)
    · subst ek
      rw [Col_col hwf hj hk, if_neg (fun q => hxj (by rw [q]))]
      grind
  · rw [if_neg e]
def isPl (isG : Nat → Prop) (pl : Nat → v3) (p : v3) : Prop := ∃ (g : Nat) (e : Rat), isG g ∧ (e = 1 ∨ e = -1) ∧ p = scl e (pl g)
def Geo (R n : Nat) (isG : Nat → Prop) (pl : Nat → v3) (s : tab) : Prop := ∃ p q r : v3, isPl isG pl p ∧ isPl isG pl q ∧ isPl isG pl r ∧ det3 p q r = s.1 ∧ ∀ j, j < n → inU p q r (hD R s j)
theorem Geo_stop {R n : Nat} {isG : Nat → Prop} {pl : Nat → v3} {gr : Nat → Nat} {sg pw : Nat → Rat} {lo hi : Nat → Rat} {s : tab} (h : NetT R n isG pl gr sg pw lo hi s) (hgeo : Geo R n isG pl s) {c r : Nat} (d : Rat) (hc : c < n) (hr : r < R) (hu : s.2.2.1 r < 15) (hm : s.2.1 r c ≠ 0) : Geo R n isG pl (stopT R lo hi s c r d) := by
  have hh := h
  obtain ⟨hg, h3, e16, e17, e18, hlv, hsg⟩ := h
  have hb := hg.1
  have hb0 : s.1 ≠ 0 := by grind
  have n1 : R - 3 ≠ r := fun e => by rw [← e, e16] at hu; omega
  have n2 : R - 2 ≠ r := fun e => by rw [← e, e17] at hu; omega
  have n3 : R - 1 ≠ r := fun e => by rw [← e, e18] at hu; omega
  have hG : isG (gr (s.2.2.1 r)) := (hlv _ hu).mpr (Or.inl ⟨r, hr, rfl⟩)
  have hub := hsg _ hu hG
  have huu : sg (s.2.2.1 r) * sg (s.2.2.1 r) = 1 := by rcases hub with h | h <;> rw [h] <;> grind
  have hsn : sgn (s.2.1 r c) = 1 ∨ sgn (s.2.1 r c) = -1 := by unfold sgn; by_cases q : 0 < s.2.1 r c <;> simp [q]
  -- the heights of the new table
  have dc' : hD R (stopT R lo hi s c r d) c = scl (sgn (s.2.1 r c)) (hD R s c) := by
    refine v3_ext ?_ ?_ ?_
    · show pvC (sgn (s.2.1 r c)) s.1 s.2.1 r c (R - 3) c = _; unfold pvC; rw [if_neg n1, if_pos rfl]; rfl
    · show pvC (sgn (s.2.1 r c)) s.1 s.2.1 r c (R - 2) c = _; unfold pvC; rw [if_neg n2, if_pos rfl]; rfl
    · show pvC (sgn (s.2.1 r c)) s.1 s.2.1 r c (R - 1) c = _; unfold pvC; rw [if_neg n3, if_pos rfl]; rfl
  have dj' : ∀ j, j ≠ c → hD R (stopT R lo hi s c r d) j = scl (sgn (s.2.1 r c)) (scl (1 / s.1) (subv (scl (s.2.1 r c) (hD R s j)) (scl (s.2.1 r j) (hD R s c)))) := by
    intro j hj
    refine v3_ext ?_ ?_ ?_
    · show pvC (sgn (s.2.1 r c)) s.1 s.2.1 r c (R - 3) j = _; unfold pvC; rw [if_neg n1, if_neg hj]; simp only [scl, subv, hD]; grind
    · show pvC (sgn (s.2.1 r c)) s.1 s.2.1 r c (R - 2) j = _; unfold pvC; rw [if_neg n2, if_neg hj]; simp only [scl, subv, hD]; grind
    · show pvC (sgn (s.2.1 r c)) s.1 s.2.1 r c (R - 1) j = _; unfold pvC; rw [if_neg n3, if_neg hj]; simp only [scl, subv, hD]; grind
  obtain ⟨p, q, t, hp, hq, ht, hdet, hin⟩ := hgeo
  by_cases hgrp : gr (s.2.2.1 r) = gr (s.2.2.2.1 c)
  · -- the row and the column stand at one node: only their names change
    obtain ⟨d0, m0⟩ := net_same hh hr hc hu hgrp
    have hvb := hsg (s.2.2.2.1 c) (hg.2.2.2.2.1 c hc).1 (by rw [← hgrp]; exact hG)
    have hmb : sgn (s.2.1 r c) * s.2.1 r c = s.1 := by
      have hpos : 0 < sgn (s.2.1 r c) * s.2.1 r c := by unfold sgn; by_cases q : 0 < s.2.1 r c <;> simp only [q, if_true, if_false] <;> grind
      rcases hub with h1 | h1 <;> rcases hvb with h2 | h2 <;> rw [h1, h2] at m0 <;> rcases hsn with h4 | h4 <;> rw [h4] at hpos ⊢ <;> grind
    refine ⟨p, q, t, hp, hq, ht, ?_, fun j hj => ?_⟩
    · show det3 p q t = sgn (s.2.1 r c) * s.2.1 r c
      rw [hmb]; exact hdet
    · by_cases e : j = c
      · rw [e, dc']; exact inU_scl hsn (hin c hc)
      · rw [dj' j e, d0]
        have : scl (sgn (s.2.1 r c)) (scl (1 / s.1) (subv (scl (s.2.1 r c) (hD R s j)) (scl (s.2.1 r j) ((0, 0, 0) : v3)))) = hD R s j := by
          obtain ⟨x, y, z⟩ := hD R s j
          refine v3_ext ?_ ?_ ?_ <;> simp only [scl, subv] <;> grind
        rw [this]
        exact hin j hj
  · have hdc := net_cell hh hr hc hu hgrp
    have hmz : dot (pl (gr (s.2.2.1 r))) (hD R s c) ≠ 0 := by rw [hdc]; rcases hub with h1 | h1 <;> rw [h1] <;> grind
    have habs : (if 0 < dot (pl (gr (s.2.2.1 r))) (hD R s c) then dot (pl (gr (s.2.2.1 r))) (hD R s c) else - dot (pl (gr (s.2.2.1 r))) (hD R s c)) = sgn (s.2.1 r c) * s.2.1 r c := by
      rw [hdc]
      unfold sgn
      rcases hub with h1 | h1 <;> rw [h1] <;> by_cases q1 : 0 < s.2.1 r c
      · rw [if_pos (by grind), if_pos q1]
      · rw [if_neg (by grind), if_neg q1]; grind
      · rw [if_neg (by grind), if_pos q1]; grind
      · rw [if_pos (by grind), if_neg q1]
    have hrot : ∃ p q t : v3, isPl isG pl p ∧ isPl isG pl q ∧ isPl isG pl t ∧ det3 p q t = s.1 ∧ (∀ j, j < n → inU p q t (hD R s j)) ∧ ∃ e : Rat, (e = 1 ∨ e = -1) ∧ hD R s c = scl e (crs q t) := by
      rcases hin c hc with h0 | ⟨e, he, h1 | h1 | h1⟩
      · exfalso
        rw [h0] at hmz
        exact hmz (by show (pl (gr (s.2.2.1 r))).1 * 0 + (pl (gr (s.2.2.1 r))).2.1 * 0 + (pl (gr (s.2.2.1 r))).2.2 * 0 = 0; grind)
      · exact ⟨p, q, t, hp, hq, ht, hdet, hin, e, he, h1⟩
      · exact ⟨q, t, p, hq, ht, hp, by rw [det3_rot]; exact hdet, fun j hj => inU_rot (hin j hj), e, he, h1⟩
      · exact ⟨t, p, q, ht, hp, hq, by rw [det3_rot, det3_rot]; exact hdet, fun j hj => inU_rot (inU_rot (hin j hj)), e, he, h1⟩
    obtain ⟨p, q, t, hp, hq, ht, hdet, hin, e, he, hce⟩ := hrot
    have cr := fun j (hj : j < n) => core hdet.symm hb he hce hmz (hin j hj)
    obtain ⟨th, hth, d1, -, -⟩ := cr c hc
    -- the sign does not depend on the column
    have cr2 : ∀ j, j < n → inU (scl th (pl (gr (s.2.2.1 r)))) q t (scl (1 / s.1) (subv (scl (dot (pl (gr (s.2.2.1 r))) (hD R s c)) (hD R s j)) (scl (dot (pl (gr (s.2.2.1 r))) (hD R s j)) (hD R s c)))) ∧ inU (scl th (pl (gr (s.2.2.1 r)))) q t (hD R s c) := by
      intro j hj
      obtain ⟨th2, hth2, d2, d3, d4⟩ := cr j hj
      have : th2 = th := by
        rw [← d2] at d1
        have hdt : ∀ x : Rat, det3 (scl x (pl (gr (s.2.2.1 r)))) q t = x * dot (pl (gr (s.2.2.1 r))) (crs q t) := by
          intro x
          obtain ⟨q1, q2, q3⟩ := q; obtain ⟨r1, r2, r3⟩ := t; obtain ⟨t1, t2, t3⟩ := pl (gr (s.2.2.1 r))
          show x * t1 * (q2 * r3 - q3 * r2) + x * t2 * (q3 * r1 - q1 * r3) + x * t3 * (q1 * r2 - q2 * r1) = x * (t1 * (q2 * r3 - q3 * r2) + t2 * (q3 * r1 - q1 * r3) + t3 * (q1 * r2 - q2 * r1))
          grind
        rw [hdt, hdt] at d1
        have hnz : dot (pl (gr (s.2.2.1 r))) (crs q t) ≠ 0 := by
          intro hz
          rw [hce, dot_scl, hz] at hmz
          exact hmz (by grind)
        grind
      rw [this] at d3 d4
      exact ⟨d3, d4⟩
    refine ⟨scl th (pl (gr (s.2.2.1 r))), q, t, ⟨_, th, hG, hth, rfl⟩, hq, ht, ?_, fun j hj => ?_⟩
    · show det3 (scl th (pl (gr (s.2.2.1 r)))) q t = sgn (s.2.1 r c) * s.2.1 r c
      rw [d1, habs]
    · by_cases ej : j = c
      · rw [ej, dc']; exact inU_scl hsn (cr2 c hc).2
      · rw [dj' j ej]
        by_cases hgj : gr (s.2.2.1 r) = gr (s.2.2.2.1 j)
        · obtain ⟨d0, m0⟩ := net_same hh hr hj hu hgj
          have hvb := hsg (s.2.2.2.1 j) (hg.2.2.2.2.1 j hj).1 (by rw [← hgj]; exact hG)
          have : scl (sgn (s.2.1 r c)) (scl (1 / s.1) (subv (scl (s.2.1 r c) (hD R s j)) (scl (s.2.1 r j) (hD R s c)))) = scl (sgn (s.2.1 r c) * (sg (s.2.2.1 r) * sg (s.2.2.2.1 j))) (hD R s c) := by
            rw [d0, m0]
            obtain ⟨x, y, z⟩ := hD R s c
            refine v3_ext ?_ ?_ ?_ <;> simp only [scl, subv] <;> grind
          rw [this]
          refine inU_scl ?_ (cr2 c hc).2
          rcases hsn with h4 | h4 <;> rcases hub with h1 | h1 <;> rcases hvb with h2 | h2 <;> rw [h4, h1, h2] <;> grind
        · have hdj := net_cell hh hr hj hu hgj
          have e1 : s.2.1 r c = sg (s.2.2.1 r) * dot (pl (gr (s.2.2.1 r))) (hD R s c) := by rw [hdc]; grind
          have e2 : s.2.1 r j = sg (s.2.2.1 r) * dot (pl (gr (s.2.2.1 r))) (hD R s j) := by rw [hdj]; grind
          have : scl (sgn (s.2.1 r c)) (scl (1 / s.1) (subv (scl (s.2.1 r c) (hD R s j)) (scl (s.2.1 r j) (hD R s c)))) = scl (sgn (s.2.1 r c) * sg (s.2.2.1 r)) (scl (1 / s.1) (subv (scl (dot (pl (gr (s.2.2.1 r))) (hD R s c)) (hD R s j)) (scl (dot (pl (gr (s.2.2.1 r))) (hD R s j)) (hD R s c)))) := by
            have e3 : subv (scl (s.2.1 r c) (hD R s j)) (scl (s.2.1 r j) (hD R s c)) = scl (sg (s.2.2.1 r)) (subv (scl (dot (pl (gr (s.2.2.1 r))) (hD R s c)) (hD R s j)) (scl (dot (pl (gr (s.2.2.1 r))) (hD R s j)) (hD R s c))) := by
              rw [← subv_scl, ← e1, ← e2]
            rw [e3, scl_scl, scl_scl, scl_scl]
            congr 1
            grind
          rw [this]
          refine inU_scl ?_ (cr2 j hj).1
          rcases hsn with h4 | h4 <;> rcases hub with h1 | h1 <;> rw [h4, h1] <;> grind
