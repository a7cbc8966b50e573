def sta (n : Nat) (lo : Nat → Rat) (s : tab) (u : Nat) : Nat := if colb n s.2.2.2.1 u = true then (if s.2.2.2.2 u = lo u then 1 else 2) else 0
theorem sta_lt (n : Nat) (lo : Nat → Rat) (s : tab) (u : Nat) : sta n lo s u < 3 := by
  unfold sta
  by_cases h : colb n s.2.2.2.1 u = true
  · rw [if_pos h]; by_cases h2 : s.2.2.2.2 u = lo u
    · rw [if_pos h2]; omega
    · rw [if_neg h2]; omega
  · rw [if_neg h]; omega
theorem sta_0 {n : Nat} {lo : Nat → Rat} {s : tab} {u : Nat} : (sta n lo s u == 0) = !colb n s.2.2.2.1 u := by
  unfold sta
  cases h : colb n s.2.2.2.1 u with
  | false => rfl
  | true =>
    rw [if_pos rfl]
    by_cases h2 : s.2.2.2.2 u = lo u
    · rw [if_pos h2]; rfl
    · rw [if_neg h2]; rfl
def dgS (n : Nat) (lo : Nat → Rat) (s : tab) (u : Nat) : Nat := if u < n then sta n lo s u else 1
theorem dgS_lt (n : Nat) (lo : Nat → Rat) (s : tab) (u : Nat) : dgS n lo s u < 3 := by
  unfold dgS
  by_cases h : u < n
  · rw [if_pos h]; exact sta_lt n lo s u
  · rw [if_neg h]; omega
def codeT (n : Nat) (lo : Nat → Rat) (s : tab) : Nat × Nat × Nat := ((if colb n s.2.2.2.1 8 = true then 1 else 0), enc 8 (dgS n lo s), enc 6 (fun k => sta n lo s (9 + k)))
theorem mem_SV {k x : Nat} (h : x < 6561) (hz : zer 8 x = k) : x ∈ SV k := List.mem_filter.mpr ⟨List.mem_range.mpr h, beq_iff_eq.mpr hz⟩
theorem mem_LV {k x : Nat} (h : x < 729) (hz : zer 6 x = k) : x ∈ LV k := List.mem_filter.mpr ⟨List.mem_range.mpr h, beq_iff_eq.mpr hz⟩
theorem code_mem {n l : Nat} {lo : Nat → Rat} {s : tab} (hn : n ≤ 8) (hi : ∀ i k, i < n → k < n → s.2.2.2.1 i = s.2.2.2.1 k → i = k) (h15 : ∀ j, j < n → s.2.2.2.1 j < 15) (hst : ∀ j, j < n → ¬ (n ≤ s.2.2.2.1 j ∧ s.2.2.2.1 j < 8)) (hl : cnt 6 (fun k => colb n s.2.2.2.1 (9 + k)) = l) (h3 : l ≤ 3) : codeT n lo s ∈ codes := by
  have e1 := cnt_cols (m := 15) hi h15
  have e2 : cnt 15 (colb n s.2.2.2.1) = cnt 8 (colb n s.2.2.2.1) + cnt 7 (fun u => colb n s.2.2.2.1 (8 + u)) := cnt_split 8 7 _
  have e3 : cnt 7 (fun u => colb n s.2.2.2.1 (8 + u)) = (if colb n s.2.2.2.1 8 = true then 1 else 0) + cnt 6 (fun k => colb n s.2.2.2.1 (9 + k)) := by
    rw [cnt_front]
    rw [cnt_congr (m := 6) (p := fun u => colb n s.2.2.2.1 (8 + (u + 1))) (q := fun k => colb n s.2.2.2.1 (9 + k)) (fun u _ => by rw [show 8 + (u + 1) = 9 + u by omega])]
  have e4 : cnt 8 (colb n s.2.2.2.1) = cnt n (colb n s.2.2.2.1) := by
    have h := cnt_split n (8 - n) (colb n s.2.2.2.1)
    rw [show n + (8 - n) = 8 by omega] at h
    rw [h, cnt_zero (m := 8 - n) (p := fun u => colb n s.2.2.2.1 (n + u)) (fun u hu => colb_false fun ⟨j, hj, e⟩ => hst j hj (by rw [e]; omega))]
    rfl
  have z1 : zer 8 (enc 8 (dgS n lo s)) = n - cnt n (colb n s.2.2.2.1) := by
    rw [zer_enc 8 _ (fun i _ => dgS_lt n lo s i)]
    have h := cnt_split n (8 - n) (fun i => dgS n lo s i == 0)
    rw [show n + (8 - n) = 8 by omega] at h
    rw [h, cnt_zero (m := 8 - n) (fun u hu => by show (dgS n lo s (n + u) == 0) = false; unfold dgS; rw [if_neg (by omega)]; rfl)]
    have h2 := cnt_not n (colb n s.2.2.2.1)
    rw [cnt_congr (p := fun i => dgS n lo s i == 0) (q := fun u => !colb n s.2.2.2.1 u) (fun u hu => by show (dgS n lo s u == 0) = _; unfold dgS; rw [if_pos hu]; exact sta_0)]
    omega
  have z2 : zer 6 (enc 6 (fun k => sta n lo s (9 + k))) = 6 - l := by
    rw [zer_enc 6 _ (fun i _ => sta_lt n lo s _)]
    rw [cnt_congr (p := fun i => sta n lo s (9 + i) == 0) (q := fun u => !(colb n s.2.2.2.1 (9 + u))) (fun u _ => sta_0)]
    have h2 := cnt_not 6 (fun k => colb n s.2.2.2.1 (9 + k))
    omega
  have m1 : enc 8 (dgS n lo s) < 6561 := enc_lt 8 _ (fun i _ => dgS_lt n lo s i)
  have m2 : enc 6 (fun k => sta n lo s (9 + k)) < 729 := enc_lt 6 _ (fun i _ => sta_lt n lo s _)
  unfold codeT codes
  by_cases ha : colb n s.2.2.2.1 8 = true
  · rw [if_pos ha]
    rw [if_pos ha] at e3
    have z3 : zer 8 (enc 8 (dgS n lo s)) = l + 1 := by omega
    rcases (show l = 0 ∨ l = 1 ∨ l = 2 ∨ l = 3 by omega) with h | h | h | h <;> subst h
    · exact List.mem_append_right _ (List.mem_append_right _ (List.mem_append_right _ (List.mem_append_right _ (List.mem_append_left _ (prd_mem (mem_SV m1 z3) (mem_LV m2 z2))))))
    · exact List.mem_append_right _ (List.mem_append_right _ (List.mem_append_right _ (List.mem_append_right _ (List.mem_append_right _ (List.mem_append_left _ (prd_mem (mem_SV m1 z3) (mem_LV m2 z2)))))))
    · exact List.mem_append_right _ (List.mem_append_right _ (List.mem_append_right _ (List.mem_append_right _ (List.mem_append_right _ (List.mem_append_right _ (List.mem_append_left _ (prd_mem (mem_SV m1 z3) (mem_LV m2 z2))))))))
    · exact List.mem_append_right _ (List.mem_append_right _ (List.mem_append_right _ (List.mem_append_right _ (List.mem_append_right _ (List.mem_append_right _ (List.mem_append_right _ (prd_mem (mem_SV m1 z3) (mem_LV m2 z2))))))))
  · rw [if_neg ha]
    rw [if_neg ha] at e3
    have z3 : zer 8 (enc 8 (dgS n lo s)) = l := by omega
    rcases (show l = 0 ∨ l = 1 ∨ l = 2 ∨ l = 3 by omega) with h | h | h | h <;> subst h
    · exact List.mem_append_left _ (prd_mem (mem_SV m1 z3) (mem_LV m2 z2))
    · exact List.mem_append_right _ (List.mem_append_left _ (prd_mem (mem_SV m1 z3) (mem_LV m2 z2)))
    · exact List.mem_append_right _ (List.mem_append_right _ (List.mem_append_left _ (prd_mem (mem_SV m1 z3) (mem_LV m2 z2))))
    · exact List.mem_append_right _ (List.mem_append_right _ (List.mem_append_right _ (List.mem_append_left _ (prd_mem (mem_SV m1 z3) (mem_LV m2 z2)))))
/-- a run of moves is short -/
theorem moves_bound {R n N : Nat} {V : (Nat → Rat) → Prop} {lo hi : Nat → Rat} {fz : Nat → Bool} {aim : Nat} {st : Nat → tab} {a0 : Rat} (hn : n ≤ 8) (hlh : ∀ u, u < 15 → live R n (st 0) u → lo u ≤ hi u) (h0 : tGood R n V lo hi (st 0)) (hm : ∀ t, t < N → Move R n lo hi fz aim (st t) (st (t + 1)))
    (hst : ∀ u, live R n (st 0) u → ¬ (n ≤ u ∧ u < 8)) (hl3 : ∀ t, t ≤ N → cnt 6 (fun k => colb n (st t).2.2.2.1 (9 + k)) ≤ 3) (ha : ∀ t, t ≤ N → colb n (st t).2.2.2.1 8 = true → (st t).2.2.2.2 8 = a0) : N < 716032 := by
  have hl : ∀ t, t ≤ N → ∀ u, live R n (st t) u ↔ live R n (st 0) u := by
    intro t
    induction t with
    | zero => intro _ u; exact Iff.rfl
    | succ t ih => intro ht u; rw [live_move (hm t (by omega)) u]; exact ih (by omega) u
  have hg : ∀ t, t ≤ N → tGood R n V lo hi (st t) := by
    intro t
    induction t with
    | zero => intro _; exact h0
    | succ t ih => intro ht; exact Move_good (fun u hu hl2 => hlh u hu ((hl t (by omega) u).mp hl2)) (ih (by omega)) (hm t (by omega))
  have hstc : ∀ t, t ≤ N → ∀ j, j < n → ¬ (n ≤ (st t).2.2.2.1 j ∧ (st t).2.2.2.1 j < 8) := fun t ht j hj => hst _ ((hl t ht _).mp (Or.inr ⟨j, hj, rfl⟩))
  have h := pigeonL codes (fun t => codeT n lo (st t)) (N + 1) (fun t ht => code_mem hn (hg t (by omega)).2.1.2.1 (fun j hj => ((hg t (by omega)).2.2.2.2.1 j hj).1) (hstc t (by omega)) rfl (hl3 t (by omega))) (fun p q hpq hq e => ?_)
  · rw [codes_len] at h; omega
  · have e : codeT n lo (st p) = codeT n lo (st q) := e
    unfold codeT at e
    obtain ⟨e1, e2⟩ := Prod.mk.inj e
    obtain ⟨e2, e3⟩ := Prod.mk.inj e2
    have d1 := enc_inj 8 _ _ (fun i _ => dgS_lt n lo (st p) i) (fun i _ => dgS_lt n lo (st q) i) e2
    have d2 := enc_inj 6 _ _ (fun i _ => sta_lt n lo (st p) _) (fun i _ => sta_lt n lo (st q) _) e3
    have c8 : colb n (st p).2.2.2.1 8 = colb n (st q).2.2.2.1 8 := by
      cases h1 : colb n (st p).2.2.2.1 8 <;> cases h2 : colb n (st q).2.2.2.1 8 <;> rw [h1, h2] at e1 <;> simp at e1 <;> rfl
    -- the status of every variable but 8 is the same
    have hs : ∀ u, u < 15 → u ≠ 8 → ¬ (n ≤ u ∧ u < 8) → sta n lo (st p) u = sta n lo (st q) u := by
      intro u hu h8 hnl
      by_cases hu8 : u < 8
      · have h9 := d1 u hu8
        unfold dgS at h9
        rw [if_pos (by omega), if_pos (by omega)] at h9
        exact h9
      · have h9 := d2 (u - 9) (by omega)
        have h9 : sta n lo (st p) (9 + (u - 9)) = sta n lo (st q) (9 + (u - 9)) := h9
        rw [show 9 + (u - 9) = u by omega] at h9
        exact h9
    have hcol : ∀ u, u < 15 → ¬ (n ≤ u ∧ u < 8) → (colb n (st p).2.2.2.1 u = true ↔ colb n (st q).2.2.2.1 u = true) := by
      intro u hu hnl
      by_cases h8 : u = 8
      · rw [h8, c8]
      · have h9 := hs u hu h8 hnl
        have a1 := sta_0 (n := n) (lo := lo) (s := st p) (u := u)
        have a2 := sta_0 (n := n) (lo := lo) (s := st q) (u := u)
        rw [h9, a2] at a1
        cases h3 : colb n (st p).2.2.2.1 u <;> cases h4 : colb n (st q).2.2.2.1 u <;> rw [h3, h4] at a1 <;> simp at a1 <;> simp
    refine no_return hlh h0 hm hpq (by omega) (fun u => ?_) (fun j hj => ?_)
    · constructor
      · rintro ⟨j, hj, rfl⟩
        exact colb_iff.mp ((hcol _ ((hg p (by omega)).2.2.2.2.1 j hj).1 (hstc p (by omega) j hj)).mp (colb_iff.mpr ⟨j, hj, rfl⟩))
      · rintro ⟨j, hj, rfl⟩
        exact colb_iff.mp ((hcol _ ((hg q (by omega)).2.2.2.2.1 j hj).1 (hstc q (by omega) j hj)).mpr (colb_iff.mpr ⟨j, hj, rfl⟩))
    · have hu15 := ((hg p (by omega)).2.2.2.2.1 j hj).1
      have hnl := hstc p (by omega) j hj
      have cp : colb n (st p).2.2.2.1 ((st p).2.2.2.1 j) = true := colb_iff.mpr ⟨j, hj, rfl⟩
      have cq := (hcol _ hu15 hnl).mp cp
      by_cases h8 : (st p).2.2.2.1 j = 8
      · rw [h8] at cp cq ⊢
        rw [ha p (by omega) cp, ha q (by omega) cq]
      · have h9 := hs _ hu15 h8 hnl
        obtain ⟨jq, hjq, ejq⟩ := colb_iff.mp cq
        obtain ⟨-, -, bp⟩ := (hg p (by omega)).2.2.2.2.1 j hj
        obtain ⟨-, -, bq⟩ := (hg q (by omega)).2.2.2.2.1 jq hjq
        rw [ejq] at bq
        unfold sta at h9
        rw [if_pos cp, if_pos cq] at h9
        by_cases l1 : (st p).2.2.2.2 ((st p).2.2.2.1 j) = lo ((st p).2.2.2.1 j)
        · rw [if_pos l1] at h9
          by_cases l2 : (st q).2.2.2.2 ((st p).2.2.2.1 j) = lo ((st p).2.2.2.1 j)
          · rw [l1, l2]
          · rw [if_neg l2] at h9; cases h9
        · rw [if_neg l1] at h9
          by_cases l2 : (st q).2.2.2.2 ((st p).2.2.2.1 j) = lo ((st p).2.2.2.1 j)
          · rw [if_pos l2] at h9; cases h9
          · rcases bp with bp | bp
            · exact absurd bp l1
            · rcases bq with bq | bq
              · exact absurd bq l2
              · rw [bp, bq]
