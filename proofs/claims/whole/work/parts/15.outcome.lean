def f_N_commonDivisor_51 (n : Nat) (x4 : Int64) (S : z_S) : Option (Int64 × z_S) := some (x4, S)
def f_N_commonDivisor_15 (n : Nat) : Nat → Int64 → Int64 → Int32 → z_S → Option (Int64 × z_S)
  | 0, _, _, _, _ => none
  | q + 1, x4, x6, x8, S => (if (1000 : Int32) ≤ x8 then f_N_commonDivisor_51 n x4 S else (if x6 = (0 : Int64) then f_N_commonDivisor_51 n x4 S else ck (vn x6) (f_N_commonDivisor_15 n q x6 (x4 - x4 / x6 * x6) (x8 + (1 : Int32)) S)))
def f_N_commonDivisor (n : Nat) (x0 : Int64) (x2 : Int64) (S : z_S) : Option (Int64 × z_S) := f_N_commonDivisor_15 n n (if 0 < x0 then x0 else -x0) (if 0 < x2 then x2 else -x2) (0 : Int32) S
set_option maxRecDepth 20000 in
theorem w_N_commonDivisor_51 {X : z_X} {A : Nat → Prop} {Ω : z_O} (hC : z_C X b_N_commonDivisor 11 "NodalAuction" Ω) (hA : z_hA X A) (hR : z_R X (some .long)) (hM : z_rmOf X = z_rm 1 13) (n : Nat) (r : Int64 × z_S) (x4 : Int64) (S : z_S) (h : f_N_commonDivisor_51 n x4 S = some r) : z_At X A (z_QL X Ω A r.1 (wN Ω r.2)) Ω 0 0 11 51 [(4, .long x4)] [] (wN Ω S) := by
  refine z_lload 0 rfl hC d_N_commonDivisor_51 (q := 53) rfl ?_
  cases h
  exact z_lret hC hR rfl rfl d_N_commonDivisor_53
set_option maxRecDepth 20000 in
theorem w_N_commonDivisor_15 {X : z_X} {A : Nat → Prop} {Ω : z_O} (hC : z_C X b_N_commonDivisor 11 "NodalAuction" Ω) (hA : z_hA X A) (hR : z_R X (some .long)) (hM : z_rmOf X = z_rm 1 13) (n : Nat) (r : Int64 × z_S) : ∀ (q : Nat) (x4 : Int64) (x6 : Int64) (x8 : Int32) (S : z_S), f_N_commonDivisor_15 n q x4 x6 x8 S = some r → z_At X A (z_QL X Ω A r.1 (wN Ω r.2)) Ω 0 0 11 15 [(4, .long x4), (6, .long x6), (8, .int x8)] [] (wN Ω S) := by
  intro q
  induction q with
  | zero => intro x4 x6 x8 S h; cases h
  | succ q ih =>
    intro x4 x6 x8 S h
    refine z_iload 2 rfl hC d_N_commonDivisor_15 (q := 17) rfl ?_
    refine z_sipush (v := (1000 : Int32)) (by decide) hC d_N_commonDivisor_17 (q := 20) rfl ?_
    refine z_icmp_ge (tgt := 51) (q := 23) hC d_N_commonDivisor_20 rfl rfl (fun hb => ?_) (fun hb => ?_)
    · have h := (if_pos hb).symm.trans h
      refine z_sub [0] rfl ?_
      exact w_N_commonDivisor_51 hC hA hR hM n r x4 S h
    · have h := (if_neg hb).symm.trans h
      refine z_lload 1 rfl hC d_N_commonDivisor_23 (q := 25) rfl ?_
      refine z_lconst (v := (0 : Int64)) (by decide) hC d_N_commonDivisor_25 (q := 26) rfl ?_
      refine z_lcmp_eq (pc1 := 27) (tgt := 51) (q := 30) hC d_N_commonDivisor_26 rfl d_N_commonDivisor_27 rfl rfl (fun hb => ?_) (fun hb => ?_)
      · have h := (if_pos hb).symm.trans h
        refine z_sub [0] rfl ?_
        exact w_N_commonDivisor_51 hC hA hR hM n r x4 S h
      · have h := (if_neg hb).symm.trans h
        refine z_lload 0 rfl hC d_N_commonDivisor_30 (q := 32) rfl ?_
        refine z_lload 1 rfl hC d_N_commonDivisor_32 (q := 34) rfl ?_
        obtain ⟨hv1, h⟩ := ck_some h
        refine z_lrem hv1 hC d_N_commonDivisor_34 (q := 35) rfl ?_
        refine z_lstore (lv' := [(9, .long (x4 - x4 / x6 * x6)), (4, .long x4), (6, .long x6), (8, .int x8)]) (by decide) rfl hC d_N_commonDivisor_35 (q := 37) rfl ?_
        refine z_lload 2 rfl hC d_N_commonDivisor_37 (q := 39) rfl ?_
        refine z_lstore (lv' := [(4, .long x6), (9, .long (x4 - x4 / x6 * x6)), (6, .long x6), (8, .int x8)]) (by decide) rfl hC d_N_commonDivisor_39 (q := 41) rfl ?_
        refine z_lload 1 rfl hC d_N_commonDivisor_41 (q := 43) rfl ?_
        refine z_lstore (lv' := [(6, .long (x4 - x4 / x6 * x6)), (4, .long x6), (9, .long (x4 - x4 / x6 * x6)), (8, .int x8)]) (by decide) rfl hC d_N_commonDivisor_43 (q := 45) rfl ?_
        refine z_iinc (lv' := [(8, .int (x8 + (1 : Int32))), (6, .long (x4 - x4 / x6 * x6)), (4, .long x6), (9, .long (x4 - x4 / x6 * x6))]) 3 rfl rfl (by decide) rfl hC d_N_commonDivisor_45 (q := 48) rfl ?_
        refine z_goto (tgt := 15) hC d_N_commonDivisor_48 rfl ?_
        refine z_sub [2, 1, 0] rfl ?_
        exact ih x6 (x4 - x4 / x6 * x6) (x8 + (1 : Int32)) S h
set_option maxRecDepth 20000 in
theorem w_N_commonDivisor {X : z_X} {A : Nat → Prop} {Ω : z_O} (hC : z_C X b_N_commonDivisor 11 "NodalAuction" Ω) (hA : z_hA X A) (hR : z_R X (some .long)) (hM : z_rmOf X = z_rm 1 13) (n : Nat) (r : Int64 × z_S) (x0 : Int64) (x2 : Int64) (S : z_S) (h : f_N_commonDivisor n x0 x2 S = some r) : z_At X A (z_QL X Ω A r.1 (wN Ω r.2)) Ω 0 0 11 0 [(0, .long x0), (2, .long x2)] [] (wN Ω S) := by
  refine z_lload_n rfl 0 rfl hC d_N_commonDivisor_0 (q := 1) rfl ?_
  refine z_labs hC k_333 k_311 k_7 k_312 (by rw [hM]; decide) (by rw [hM]; exact Nat.le_of_ble_eq_true rfl) ⟨Nat.zero_le _, Nat.zero_le _⟩ d_N_commonDivisor_1 (q := 4) rfl ?_
  refine z_lstore (lv' := [(4, .long (if 0 < x0 then x0 else -x0)), (0, .long x0), (2, .long x2)]) (by decide) rfl hC d_N_commonDivisor_4 (q := 6) rfl ?_
  refine z_lload_n rfl 2 rfl hC d_N_commonDivisor_6 (q := 7) rfl ?_
  refine z_labs hC k_333 k_311 k_7 k_312 (by rw [hM]; decide) (by rw [hM]; exact Nat.le_of_ble_eq_true rfl) ⟨Nat.zero_le _, Nat.zero_le _⟩ d_N_commonDivisor_7 (q := 10) rfl ?_
  refine z_lstore (lv' := [(6, .long (if 0 < x2 then x2 else -x2)), (4, .long (if 0 < x0 then x0 else -x0)), (0, .long x0), (2, .long x2)]) (by decide) rfl hC d_N_commonDivisor_10 (q := 12) rfl ?_
  refine z_iconst (v := (0 : Int32)) (by decide) hC d_N_commonDivisor_12 (q := 13) rfl ?_
  refine z_istore (lv' := [(8, .int (0 : Int32)), (6, .long (if 0 < x2 then x2 else -x2)), (4, .long (if 0 < x0 then x0 else -x0)), (0, .long x0), (2, .long x2)]) (by decide) rfl hC d_N_commonDivisor_13 (q := 15) rfl ?_
  refine z_sub [2, 1, 0] rfl ?_
  exact w_N_commonDivisor_15 hC hA hR hM n r n (if 0 < x0 then x0 else -x0) (if 0 < x2 then x2 else -x2) (0 : Int32) S h
theorem c_N_commonDivisor (l : Launch) (Ω : z_O) (n : Nat) (x0 : Int64) (x2 : Int64) (S : z_S) (r : Int64 × z_S) (h : f_N_commonDivisor n x0 x2 S = some r) : z_ML l Ω y_N_commonDivisor b_N_commonDivisor 11 .long 1 13 [.long x0, .long x2] (wN Ω S) r.1 (wN Ω r.2) := z_introL (by decide +kernel) (Nat.le_of_ble_eq_true rfl) rfl (fun X A hC hA hR _ hM => w_N_commonDivisor hC hA hR hM n r x0 x2 S h)
def f_O_take_142 (n : Nat) : Nat → Int64 → Int32 → z_S → Option (Unit × z_S)
  | 0, _, _, _ => none
  | q + 1, x4, x6, S => (if (gF S 0) ≤ x6 then some ((), sF S 5 (1 : Int32)) else bo (f_P_top n ((9 : Int32) + x6) S) (fun v163 S163 => ck (vn x4) (ck (vi x6 6) (f_O_take_142 n q x4 (x6 + (1 : Int32)) (sI S163 20 (upd (gI S163 20) x6.toNatClampNeg ((v163 / x4).toInt32)))))))
def f_O_take_107 (n : Nat) : Nat → Int64 → Int32 → z_S → Option (Unit × z_S)
  | 0, _, _, _ => none
  | q + 1, x4, x6, S => (if (gF S 1) ≤ x6 then f_O_take_142 n n x4 (0 : Int32) S else bo (f_P_top n x6 S) (fun v125 S125 => ck (vn x4) (ck (vi x6 8) (f_O_take_107 n q x4 (x6 + (1 : Int32)) (sI S125 19 (upd (gI S125 19) x6.toNatClampNeg ((v125 / x4).toInt32)))))))
def f_O_take_40 (n : Nat) : Nat → Int64 → Int32 → z_S → Option (Unit × z_S)
  | 0, _, _, _ => none
  | q + 1, x4, x6, S => (if (gF S 0) ≤ x6 then (if x4 = (0 : Int64) then some ((), S) else ck (vn x4) (bo (f_P_top n (15 : Int32) (sF S 6 (((gG S 1) / x4).toInt32))) (fun v95 S95 => ck (vn x4) (f_O_take_107 n n x4 (0 : Int32) (sG S95 2 (v95 / x4)))))) else bo (f_P_top n ((9 : Int32) + x6) S) (fun v57 S57 => bo (f_N_commonDivisor n x4 v57 S57) (fun v60 S60 => f_O_take_40 n q v60 (x6 + (1 : Int32)) S60)))
def f_O_take_9 (n : Nat) : Nat → Int64 → Int32 → z_S → Option (Unit × z_S)
  | 0, _, _, _ => none
  | q + 1, x4, x6, S => (if (gF S 1) ≤ x6 then f_O_take_40 n n x4 (0 : Int32) S else bo (f_P_top n x6 S) (fun v23 S23 => bo (f_N_commonDivisor n x4 v23 S23) (fun v26 S26 => f_O_take_9 n q v26 (x6 + (1 : Int32)) S26)))
def f_O_take (n : Nat) (S : z_S) : Option (Unit × z_S) := f_O_take_9 n n (gG S 1) (0 : Int32) S
set_option maxRecDepth 20000 in
theorem w_O_take_142 {X : z_X} {A : Nat → Prop} {Ω : z_O} (hC : z_C X b_O_take 7 "NodalAuction$Outcome" Ω) (hA : z_hA X A) (hR : z_R X none) (hM : z_rmOf X = z_rm 2 46) (n : Nat) (r : Unit × z_S) : ∀ (q : Nat) (x4 : Int64) (x6 : Int32) (S : z_S), f_O_take_142 n q x4 x6 S = some r → z_At X A (z_QV X Ω A (wN Ω r.2)) Ω 0 0 7 142 [(0, .ref (Ω.2.2 5)), (1, .ref (Ω.2.2 4)), (2, .ref (Ω.2.2 1)), (3, .ref (Ω.2.2 2)), (4, .long x4), (6, .int x6)] [] (wN Ω S) := by
  intro q
  induction q with
  | zero => intro x4 x6 S h; cases h
  | succ q ih =>
    intro x4 x6 S h
    refine z_iload 5 rfl hC d_O_take_142 (q := 144) rfl ?_
    refine z_aload_n rfl 2 rfl hC d_O_take_144 (q := 145) rfl ?_
    refine gf_O_48_1 hC d_O_take_145 (q := 148) rfl ?_
    refine z_icmp_ge (tgt := 177) (q := 151) hC d_O_take_148 rfl rfl (fun hb => ?_) (fun hb => ?_)
    · have h := (if_pos hb).symm.trans h
      refine z_aload_n rfl 0 rfl hC d_O_take_177 (q := 178) rfl ?_
      refine z_iconst (v := (1 : Int32)) (by decide) hC d_O_take_178 (q := 179) rfl ?_
      refine pf_O_18_5 (by decide) hC d_O_take_179 (q := 182) rfl ?_
      cases h
      exact z_vret hC hR rfl d_O_take_182
    · have h := (if_neg hb).symm.trans h
      refine z_aload_n rfl 0 rfl hC d_O_take_151 (q := 152) rfl ?_
      refine gf_O_15_5 hC d_O_take_152 (q := 155) rfl ?_
      refine z_iload 5 rfl hC d_O_take_155 (q := 157) rfl ?_
      refine z_aload_n rfl 1 rfl hC d_O_take_157 (q := 158) rfl ?_
      refine z_bipush (v := (9 : Int32)) (by decide) hC d_O_take_158 (q := 160) rfl ?_
      refine z_iload 5 rfl hC d_O_take_160 (q := 162) rfl ?_
      refine z_iadd hC d_O_take_162 (q := 163) rfl ?_
      obtain ⟨v163, S163, hc163, h⟩ := bo_some h
      refine z_callVNl (q0 := 4) (As := [.int ((9 : Int32) + x6)]) hC hA (c_P_top (z_lOf X) Ω n ((9 : Int32) + x6) S (v163, S163) hc163) k_329 k_326 k_328 ks_26 k_4 h_P_top (by rw [hM]; exact ⟨Nat.le_of_ble_eq_true rfl, Nat.le_of_ble_eq_true rfl⟩) ⟨Nat.zero_le _, Nat.zero_le _⟩ rfl rfl rfl (Nat.le_of_ble_eq_true rfl) rfl d_O_take_163 (q := 166) rfl ?_
      refine z_lload 4 rfl hC d_O_take_166 (q := 168) rfl ?_
      obtain ⟨hv1, h⟩ := ck_some h
      refine z_ldiv hv1 hC d_O_take_168 (q := 169) rfl ?_
      refine z_l2i hC d_O_take_169 (q := 170) rfl ?_
      obtain ⟨hv2, h⟩ := ck_some h
      refine as_wN_29 hC hv2 d_O_take_170 (q := 171) rfl ?_
      refine z_iinc (lv' := [(6, .int (x6 + (1 : Int32))), (0, .ref (Ω.2.2 5)), (1, .ref (Ω.2.2 4)), (2, .ref (Ω.2.2 1)), (3, .ref (Ω.2.2 2)), (4, .long x4)]) 5 rfl rfl (by decide) rfl hC d_O_take_171 (q := 174) rfl ?_
      refine z_goto (tgt := 142) hC d_O_take_174 rfl ?_
      refine z_sub [1, 2, 3, 4, 5, 0] rfl ?_
      exact ih x4 (x6 + (1 : Int32)) (sI S163 20 (upd (gI S163 20) x6.toNatClampNeg ((v163 / x4).toInt32))) h
set_option maxRecDepth 20000 in
theorem w_O_take_107 {X : z_X} {A : Nat → Prop} {Ω : z_O} (hC : z_C X b_O_take 7 "NodalAuction$Outcome" Ω) (hA : z_hA X A) (hR : z_R X none) (hM : z_rmOf X = z_rm 2 46) (n : Nat) (r : Unit × z_S) : ∀ (q : Nat) (x4 : Int64) (x6 : Int32) (S : z_S), f_O_take_107 n q x4 x6 S = some r → z_At X A (z_QV X Ω A (wN Ω r.2)) Ω 0 0 7 107 [(0, .ref (Ω.2.2 5)), (1, .ref (Ω.2.2 4)), (2, .ref (Ω.2.2 1)), (3, .ref (Ω.2.2 2)), (4, .long x4), (6, .int x6)] [] (wN Ω S) := by
  intro q
  induction q with
  | zero => intro x4 x6 S h; cases h
  | succ q ih =>
    intro x4 x6 S h
    refine z_iload 5 rfl hC d_O_take_107 (q := 109) rfl ?_
    refine z_aload_n rfl 3 rfl hC d_O_take_109 (q := 110) rfl ?_
    refine gf_O_35_2 hC d_O_take_110 (q := 113) rfl ?_
    refine z_icmp_ge (tgt := 139) (q := 116) hC d_O_take_113 rfl rfl (fun hb => ?_) (fun hb => ?_)
    · have h := (if_pos hb).symm.trans h
      refine z_iconst (v := (0 : Int32)) (by decide) hC d_O_take_139 (q := 140) rfl ?_
      refine z_istore (lv' := [(6, .int (0 : Int32)), (0, .ref (Ω.2.2 5)), (1, .ref (Ω.2.2 4)), (2, .ref (Ω.2.2 1)), (3, .ref (Ω.2.2 2)), (4, .long x4)]) (by decide) rfl hC d_O_take_140 (q := 142) rfl ?_
      refine z_sub [1, 2, 3, 4, 5, 0] rfl ?_
      exact w_O_take_142 hC hA hR hM n r n x4 (0 : Int32) S h
    · have h := (if_neg hb).symm.trans h
      refine z_aload_n rfl 0 rfl hC d_O_take_116 (q := 117) rfl ?_
      refine gf_O_9_5 hC d_O_take_117 (q := 120) rfl ?_
      refine z_iload 5 rfl hC d_O_take_120 (q := 122) rfl ?_
      refine z_aload_n rfl 1 rfl hC d_O_take_122 (q := 123) rfl ?_
      refine z_iload 5 rfl hC d_O_take_123 (q := 125) rfl ?_
      obtain ⟨v125, S125, hc125, h⟩ := bo_some h
      refine z_callVNl (q0 := 4) (As := [.int x6]) hC hA (c_P_top (z_lOf X) Ω n x6 S (v125, S125) hc125) k_329 k_326 k_328 ks_26 k_4 h_P_top (by rw [hM]; exact ⟨Nat.le_of_ble_eq_true rfl, Nat.le_of_ble_eq_true rfl⟩) ⟨Nat.zero_le _, Nat.zero_le _⟩ rfl rfl rfl (Nat.le_of_ble_eq_true rfl) rfl d_O_take_125 (q := 128) rfl ?_
      refine z_lload 4 rfl hC d_O_take_128 (q := 130) rfl ?_
      obtain ⟨hv1, h⟩ := ck_some h
      refine z_ldiv hv1 hC d_O_take_130 (q := 131) rfl ?_
      refine z_l2i hC d_O_take_131 (q := 132) rfl ?_
      obtain ⟨hv2, h⟩ := ck_some h
      refine as_wN_28 hC hv2 d_O_take_132 (q := 133) rfl ?_
      refine z_iinc (lv' := [(6, .int (x6 + (1 : Int32))), (0, .ref (Ω.2.2 5)), (1, .ref (Ω.2.2 4)), (2, .ref (Ω.2.2 1)), (3, .ref (Ω.2.2 2)), (4, .long x4)]) 5 rfl rfl (by decide) rfl hC d_O_take_133 (q := 136) rfl ?_
      refine z_goto (tgt := 107) hC d_O_take_136 rfl ?_
      refine z_sub [1, 2, 3, 4, 5, 0] rfl ?_
      exact ih x4 (x6 + (1 : Int32)) (sI S125 19 (upd (gI S125 19) x6.toNatClampNeg ((v125 / x4).toInt32))) h
set_option maxRecDepth 20000 in
theorem w_O_take_40 {X : z_X} {A : Nat → Prop} {Ω : z_O} (hC : z_C X b_O_take 7 "NodalAuction$Outcome" Ω) (hA : z_hA X A) (hR : z_R X none) (hM : z_rmOf X = z_rm 2 46) (n : Nat) (r : Unit × z_S) : ∀ (q : Nat) (x4 : Int64) (x6 : Int32) (S : z_S), f_O_take_40 n q x4 x6 S = some r → z_At X A (z_QV X Ω A (wN Ω r.2)) Ω 0 0 7 40 [(0, .ref (Ω.2.2 5)), (1, .ref (Ω.2.2 4)), (2, .ref (Ω.2.2 1)), (3, .ref (Ω.2.2 2)), (4, .long x4), (6, .int x6)] [] (wN Ω S) := by
  intro q
  induction q with
  | zero => intro x4 x6 S h; cases h
  | succ q ih =>
    intro x4 x6 S h
    refine z_iload 5 rfl hC d_O_take_40 (q := 42) rfl ?_
    refine z_aload_n rfl 2 rfl hC d_O_take_42 (q := 43) rfl ?_
    refine gf_O_48_1 hC d_O_take_43 (q := 46) rfl ?_
    refine z_icmp_ge (tgt := 71) (q := 49) hC d_O_take_46 rfl rfl (fun hb => ?_) (fun hb => ?_)
    · have h := (if_pos hb).symm.trans h
      refine z_lload 4 rfl hC d_O_take_71 (q := 73) rfl ?_
      refine z_lconst (v := (0 : Int64)) (by decide) hC d_O_take_73 (q := 74) rfl ?_
      refine z_lcmp_ne (pc1 := 75) (tgt := 79) (q := 78) hC d_O_take_74 rfl d_O_take_75 rfl rfl (fun hb => ?_) (fun hb => ?_)
      · have h := (if_neg hb).symm.trans h
        refine z_aload_n rfl 0 rfl hC d_O_take_79 (q := 80) rfl ?_
        refine z_aload_n rfl 1 rfl hC d_O_take_80 (q := 81) rfl ?_
        refine gf_O_30_4 hC d_O_take_81 (q := 84) rfl ?_
        refine z_lload 4 rfl hC d_O_take_84 (q := 86) rfl ?_
        obtain ⟨hv1, h⟩ := ck_some h
        refine z_ldiv hv1 hC d_O_take_86 (q := 87) rfl ?_
        refine z_l2i hC d_O_take_87 (q := 88) rfl ?_
        refine pf_O_22_5 hC d_O_take_88 (q := 91) rfl ?_
        refine z_aload_n rfl 0 rfl hC d_O_take_91 (q := 92) rfl ?_
        refine z_aload_n rfl 1 rfl hC d_O_take_92 (q := 93) rfl ?_
        refine z_bipush (v := (15 : Int32)) (by decide) hC d_O_take_93 (q := 95) rfl ?_
        obtain ⟨v95, S95, hc95, h⟩ := bo_some h
        refine z_callVNl (q0 := 4) (As := [.int (15 : Int32)]) hC hA (c_P_top (z_lOf X) Ω n (15 : Int32) (sF S 6 (((gG S 1) / x4).toInt32)) (v95, S95) hc95) k_329 k_326 k_328 ks_26 k_4 h_P_top (by rw [hM]; exact ⟨Nat.le_of_ble_eq_true rfl, Nat.le_of_ble_eq_true rfl⟩) ⟨Nat.zero_le _, Nat.zero_le _⟩ rfl rfl rfl (Nat.le_of_ble_eq_true rfl) rfl d_O_take_95 (q := 98) rfl ?_
        refine z_lload 4 rfl hC d_O_take_98 (q := 100) rfl ?_
        obtain ⟨hv2, h⟩ := ck_some h
        refine z_ldiv hv2 hC d_O_take_100 (q := 101) rfl ?_
        refine pf_O_26_5 hC d_O_take_101 (q := 104) rfl ?_
        refine z_iconst (v := (0 : Int32)) (by decide) hC d_O_take_104 (q := 105) rfl ?_
        refine z_istore (lv' := [(6, .int (0 : Int32)), (0, .ref (Ω.2.2 5)), (1, .ref (Ω.2.2 4)), (2, .ref (Ω.2.2 1)), (3, .ref (Ω.2.2 2)), (4, .long x4)]) (by decide) rfl hC d_O_take_105 (q := 107) rfl ?_
        refine z_sub [1, 2, 3, 4, 5, 0] rfl ?_
        exact w_O_take_107 hC hA hR hM n r n x4 (0 : Int32) (sG S95 2 (v95 / x4)) h
      · have h := (if_pos hb).symm.trans h
        cases h
        exact z_vret hC hR rfl d_O_take_78
    · have h := (if_neg hb).symm.trans h
      refine z_lload 4 rfl hC d_O_take_49 (q := 51) rfl ?_
      refine z_aload_n rfl 1 rfl hC d_O_take_51 (q := 52) rfl ?_
      refine z_bipush (v := (9 : Int32)) (by decide) hC d_O_take_52 (q := 54) rfl ?_
      refine z_iload 5 rfl hC d_O_take_54 (q := 56) rfl ?_
      refine z_iadd hC d_O_take_56 (q := 57) rfl ?_
      obtain ⟨v57, S57, hc57, h⟩ := bo_some h
      refine z_callVNl (q0 := 4) (As := [.int ((9 : Int32) + x6)]) hC hA (c_P_top (z_lOf X) Ω n ((9 : Int32) + x6) S (v57, S57) hc57) k_329 k_326 k_328 ks_26 k_4 h_P_top (by rw [hM]; exact ⟨Nat.le_of_ble_eq_true rfl, Nat.le_of_ble_eq_true rfl⟩) ⟨Nat.zero_le _, Nat.zero_le _⟩ rfl rfl rfl (Nat.le_of_ble_eq_true rfl) rfl d_O_take_57 (q := 60) rfl ?_
      obtain ⟨v60, S60, hc60, h⟩ := bo_some h
      refine z_callSNl (As := [.long x4, .long v57]) hC hA (c_N_commonDivisor (z_lOf X) Ω n x4 v57 S57 (v60, S60) hc60) k_332 k_330 k_331 k_1 h_N_commonDivisor (by rw [hM]; exact ⟨Nat.le_of_ble_eq_true rfl, Nat.le_of_ble_eq_true rfl⟩) ⟨Nat.zero_le _, Nat.zero_le _⟩ rfl (Nat.le_of_ble_eq_true rfl) rfl d_O_take_60 (q := 63) rfl ?_
      refine z_lstore (lv' := [(4, .long v60), (0, .ref (Ω.2.2 5)), (1, .ref (Ω.2.2 4)), (2, .ref (Ω.2.2 1)), (3, .ref (Ω.2.2 2)), (6, .int x6)]) (by decide) rfl hC d_O_take_63 (q := 65) rfl ?_
      refine z_iinc (lv' := [(6, .int (x6 + (1 : Int32))), (4, .long v60), (0, .ref (Ω.2.2 5)), (1, .ref (Ω.2.2 4)), (2, .ref (Ω.2.2 1)), (3, .ref (Ω.2.2 2))]) 5 rfl rfl (by decide) rfl hC d_O_take_65 (q := 68) rfl ?_
      refine z_goto (tgt := 40) hC d_O_take_68 rfl ?_
      refine z_sub [2, 3, 4, 5, 1, 0] rfl ?_
      exact ih v60 (x6 + (1 : Int32)) S60 h
set_option maxRecDepth 20000 in
theorem w_O_take_9 {X : z_X} {A : Nat → Prop} {Ω : z_O} (hC : z_C X b_O_take 7 "NodalAuction$Outcome" Ω) (hA : z_hA X A) (hR : z_R X none) (hM : z_rmOf X = z_rm 2 46) (n : Nat) (r : Unit × z_S) : ∀ (q : Nat) (x4 : Int64) (x6 : Int32) (S : z_S), f_O_take_9 n q x4 x6 S = some r → z_At X A (z_QV X Ω A (wN Ω r.2)) Ω 0 0 7 9 [(0, .ref (Ω.2.2 5)), (1, .ref (Ω.2.2 4)), (2, .ref (Ω.2.2 1)), (3, .ref (Ω.2.2 2)), (4, .long x4), (6, .int x6)] [] (wN Ω S) := by
  intro q
  induction q with
  | zero => intro x4 x6 S h; cases h
  | succ q ih =>
    intro x4 x6 S h
    refine z_iload 5 rfl hC d_O_take_9 (q := 11) rfl ?_
    refine z_aload_n rfl 3 rfl hC d_O_take_11 (q := 12) rfl ?_
    refine gf_O_35_2 hC d_O_take_12 (q := 15) rfl ?_
    refine z_icmp_ge (tgt := 37) (q := 18) hC d_O_take_15 rfl rfl (fun hb => ?_) (fun hb => ?_)
    · have h := (if_pos hb).symm.trans h
      refine z_iconst (v := (0 : Int32)) (by decide) hC d_O_take_37 (q := 38) rfl ?_
      refine z_istore (lv' := [(6, .int (0 : Int32)), (0, .ref (Ω.2.2 5)), (1, .ref (Ω.2.2 4)), (2, .ref (Ω.2.2 1)), (3, .ref (Ω.2.2 2)), (4, .long x4)]) (by decide) rfl hC d_O_take_38 (q := 40) rfl ?_
      refine z_sub [1, 2, 3, 4, 5, 0] rfl ?_
      exact w_O_take_40 hC hA hR hM n r n x4 (0 : Int32) S h
    · have h := (if_neg hb).symm.trans h
      refine z_lload 4 rfl hC d_O_take_18 (q := 20) rfl ?_
      refine z_aload_n rfl 1 rfl hC d_O_take_20 (q := 21) rfl ?_
      refine z_iload 5 rfl hC d_O_take_21 (q := 23) rfl ?_
      obtain ⟨v23, S23, hc23, h⟩ := bo_some h
      refine z_callVNl (q0 := 4) (As := [.int x6]) hC hA (c_P_top (z_lOf X) Ω n x6 S (v23, S23) hc23) k_329 k_326 k_328 ks_26 k_4 h_P_top (by rw [hM]; exact ⟨Nat.le_of_ble_eq_true rfl, Nat.le_of_ble_eq_true rfl⟩) ⟨Nat.zero_le _, Nat.zero_le _⟩ rfl rfl rfl (Nat.le_of_ble_eq_true rfl) rfl d_O_take_23 (q := 26) rfl ?_
      obtain ⟨v26, S26, hc26, h⟩ := bo_some h
      refine z_callSNl (As := [.long x4, .long v23]) hC hA (c_N_commonDivisor (z_lOf X) Ω n x4 v23 S23 (v26, S26) hc26) k_332 k_330 k_331 k_1 h_N_commonDivisor (by rw [hM]; exact ⟨Nat.le_of_ble_eq_true rfl, Nat.le_of_ble_eq_true rfl⟩) ⟨Nat.zero_le _, Nat.zero_le _⟩ rfl (Nat.le_of_ble_eq_true rfl) rfl d_O_take_26 (q := 29) rfl ?_
      refine z_lstore (lv' := [(4, .long v26), (0, .ref (Ω.2.2 5)), (1, .ref (Ω.2.2 4)), (2, .ref (Ω.2.2 1)), (3, .ref (Ω.2.2 2)), (6, .int x6)]) (by decide) rfl hC d_O_take_29 (q := 31) rfl ?_
      refine z_iinc (lv' := [(6, .int (x6 + (1 : Int32))), (4, .long v26), (0, .ref (Ω.2.2 5)), (1, .ref (Ω.2.2 4)), (2, .ref (Ω.2.2 1)), (3, .ref (Ω.2.2 2))]) 5 rfl rfl (by decide) rfl hC d_O_take_31 (q := 34) rfl ?_
      refine z_goto (tgt := 9) hC d_O_take_34 rfl ?_
      refine z_sub [2, 3, 4, 5, 1, 0] rfl ?_
      exact ih v26 (x6 + (1 : Int32)) S26 h
set_option maxRecDepth 20000 in
theorem w_O_take {X : z_X} {A : Nat → Prop} {Ω : z_O} (hC : z_C X b_O_take 7 "NodalAuction$Outcome" Ω) (hA : z_hA X A) (hR : z_R X none) (hM : z_rmOf X = z_rm 2 46) (n : Nat) (r : Unit × z_S) (S : z_S) (h : f_O_take n S = some r) : z_At X A (z_QV X Ω A (wN Ω r.2)) Ω 0 0 7 0 [(0, .ref (Ω.2.2 5)), (1, .ref (Ω.2.2 4)), (2, .ref (Ω.2.2 1)), (3, .ref (Ω.2.2 2))] [] (wN Ω S) := by
  refine z_aload_n rfl 1 rfl hC d_O_take_0 (q := 1) rfl ?_
  refine gf_O_30_4 hC d_O_take_1 (q := 4) rfl ?_
  refine z_lstore (lv' := [(4, .long (gG S 1)), (0, .ref (Ω.2.2 5)), (1, .ref (Ω.2.2 4)), (2, .ref (Ω.2.2 1)), (3, .ref (Ω.2.2 2))]) (by decide) rfl hC d_O_take_4 (q := 6) rfl ?_
  refine z_iconst (v := (0 : Int32)) (by decide) hC d_O_take_6 (q := 7) rfl ?_
  refine z_istore (lv' := [(6, .int (0 : Int32)), (4, .long (gG S 1)), (0, .ref (Ω.2.2 5)), (1, .ref (Ω.2.2 4)), (2, .ref (Ω.2.2 1)), (3, .ref (Ω.2.2 2))]) (by decide) rfl hC d_O_take_7 (q := 9) rfl ?_
  refine z_sub [2, 3, 4, 5, 1, 0] rfl ?_
  exact w_O_take_9 hC hA hR hM n r n (gG S 1) (0 : Int32) S h
theorem c_O_take (l : Launch) (Ω : z_O) (n : Nat) (S : z_S) (r : Unit × z_S) (h : f_O_take n S = some r) : z_MV l Ω y_O_take b_O_take 7 2 46 [.ref (Ω.2.2 5), .ref (Ω.2.2 4), .ref (Ω.2.2 1), .ref (Ω.2.2 2)] (wN Ω S) (wN Ω r.2) := z_introV (by decide +kernel) (Nat.le_of_ble_eq_true rfl) rfl (fun X A hC hA hR _ hM => w_O_take hC hA hR hM n r S h)
def f_O_taken_21 (n : Nat) (k4 : Int32 → Int32 → Int32 → z_S → Option (Int32 × z_S)) (x1 : Int32) (x2 : Int32) (x3 : Int32) (S : z_S) : Option (Int32 × z_S) := k4 x1 x2 (x3 + (1 : Int32)) S
def f_O_taken_4 (n : Nat) : Nat → Int32 → Int32 → Int32 → z_S → Option (Int32 × z_S)
  | 0, _, _, _, _ => none
  | q + 1, x1, x2, x3, S => (if x1 ≤ x3 then some (x2, S) else ck (vi x3 8) ((if (gI S 19 x3.toNatClampNeg) ≤ 0 then f_O_taken_21 n (f_O_taken_4 n q) x1 x2 x3 S else f_O_taken_21 n (f_O_taken_4 n q) x1 (x2 + (1 : Int32)) x3 S)))
def f_O_taken (n : Nat) (x1 : Int32) (S : z_S) : Option (Int32 × z_S) := f_O_taken_4 n n x1 (0 : Int32) (0 : Int32) S
set_option maxRecDepth 20000 in
theorem w_O_taken_21 {X : z_X} {A : Nat → Prop} {Ω : z_O} (hC : z_C X b_O_taken 4 "NodalAuction$Outcome" Ω) (hA : z_hA X A) (hR : z_R X (some .int)) (hM : z_rmOf X = z_rm 0 0) (n : Nat) (r : Int32 × z_S) (k4 : Int32 → Int32 → Int32 → z_S → Option (Int32 × z_S)) (hk4 : ∀ (x1 : Int32) (x2 : Int32) (x3 : Int32) (S : z_S), k4 x1 x2 x3 S = some r → z_At X A (z_QI X Ω A r.1 (wN Ω r.2)) Ω 0 0 4 4 [(0, .ref (Ω.2.2 5)), (1, .int x1), (2, .int x2), (3, .int x3)] [] (wN Ω S)) (x1 : Int32) (x2 : Int32) (x3 : Int32) (S : z_S) (h : f_O_taken_21 n k4 x1 x2 x3 S = some r) : z_At X A (z_QI X Ω A r.1 (wN Ω r.2)) Ω 0 0 4 21 [(0, .ref (Ω.2.2 5)), (1, .int x1), (2, .int x2), (3, .int x3)] [] (wN Ω S) := by
  refine z_iinc (lv' := [(3, .int (x3 + (1 : Int32))), (0, .ref (Ω.2.2 5)), (1, .int x1), (2, .int x2)]) 3 rfl rfl (by decide) rfl hC d_O_taken_21 (q := 24) rfl ?_
  refine z_goto (tgt := 4) hC d_O_taken_24 rfl ?_
  refine z_sub [1, 2, 3, 0] rfl ?_
  exact hk4 x1 x2 (x3 + (1 : Int32)) S h
set_option maxRecDepth 20000 in
theorem w_O_taken_4 {X : z_X} {A : Nat → Prop} {Ω : z_O} (hC : z_C X b_O_taken 4 "NodalAuction$Outcome" Ω) (hA : z_hA X A) (hR : z_R X (some .int)) (hM : z_rmOf X = z_rm 0 0) (n : Nat) (r : Int32 × z_S) : ∀ (q : Nat) (x1 : Int32) (x2 : Int32) (x3 : Int32) (S : z_S), f_O_taken_4 n q x1 x2 x3 S = some r → z_At X A (z_QI X Ω A r.1 (wN Ω r.2)) Ω 0 0 4 4 [(0, .ref (Ω.2.2 5)), (1, .int x1), (2, .int x2), (3, .int x3)] [] (wN Ω S) := by
  intro q
  induction q with
  | zero => intro x1 x2 x3 S h; cases h
  | succ q ih =>
    intro x1 x2 x3 S h
    refine z_iload_n rfl 3 rfl hC d_O_taken_4 (q := 5) rfl ?_
    refine z_iload_n rfl 1 rfl hC d_O_taken_5 (q := 6) rfl ?_
    refine z_icmp_ge (tgt := 27) (q := 9) hC d_O_taken_6 rfl rfl (fun hb => ?_) (fun hb => ?_)
    · have h := (if_pos hb).symm.trans h
      refine z_iload_n rfl 2 rfl hC d_O_taken_27 (q := 28) rfl ?_
      cases h
      exact z_iret hC hR rfl rfl d_O_taken_28
    · have h := (if_neg hb).symm.trans h
      refine z_aload_n rfl 0 rfl hC d_O_taken_9 (q := 10) rfl ?_
      refine gf_O_9_5 hC d_O_taken_10 (q := 13) rfl ?_
      refine z_iload_n rfl 3 rfl hC d_O_taken_13 (q := 14) rfl ?_
      obtain ⟨hv1, h⟩ := ck_some h
      refine al_wN_28 hC hv1 d_O_taken_14 (q := 15) rfl ?_
      refine z_if_le (tgt := 21) (q := 18) hC d_O_taken_15 rfl rfl (fun hb => ?_) (fun hb => ?_)
      · have h := (if_pos hb).symm.trans h
        exact w_O_taken_21 hC hA hR hM n r (f_O_taken_4 n q) ih x1 x2 x3 S h
      · have h := (if_neg hb).symm.trans h
        refine z_iinc (lv' := [(2, .int (x2 + (1 : Int32))), (0, .ref (Ω.2.2 5)), (1, .int x1), (3, .int x3)]) 2 rfl rfl (by decide) rfl hC d_O_taken_18 (q := 21) rfl ?_
        refine z_sub [1, 2, 0, 3] rfl ?_
        exact w_O_taken_21 hC hA hR hM n r (f_O_taken_4 n q) ih x1 (x2 + (1 : Int32)) x3 S h
set_option maxRecDepth 20000 in
theorem w_O_taken {X : z_X} {A : Nat → Prop} {Ω : z_O} (hC : z_C X b_O_taken 4 "NodalAuction$Outcome" Ω) (hA : z_hA X A) (hR : z_R X (some .int)) (hM : z_rmOf X = z_rm 0 0) (n : Nat) (r : Int32 × z_S) (x1 : Int32) (S : z_S) (h : f_O_taken n x1 S = some r) : z_At X A (z_QI X Ω A r.1 (wN Ω r.2)) Ω 0 0 4 0 [(0, .ref (Ω.2.2 5)), (1, .int x1)] [] (wN Ω S) := by
  refine z_iconst (v := (0 : Int32)) (by decide) hC d_O_taken_0 (q := 1) rfl ?_
  refine z_istore_n (lv' := [(2, .int (0 : Int32)), (0, .ref (Ω.2.2 5)), (1, .int x1)]) rfl (by decide) rfl hC d_O_taken_1 (q := 2) rfl ?_
  refine z_iconst (v := (0 : Int32)) (by decide) hC d_O_taken_2 (q := 3) rfl ?_
  refine z_istore_n (lv' := [(3, .int (0 : Int32)), (2, .int (0 : Int32)), (0, .ref (Ω.2.2 5)), (1, .int x1)]) rfl (by decide) rfl hC d_O_taken_3 (q := 4) rfl ?_
  refine z_sub [2, 3, 1, 0] rfl ?_
  exact w_O_taken_4 hC hA hR hM n r n x1 (0 : Int32) (0 : Int32) S h
theorem c_O_taken (l : Launch) (Ω : z_O) (n : Nat) (x1 : Int32) (S : z_S) (r : Int32 × z_S) (h : f_O_taken n x1 S = some r) : z_MI l Ω y_O_taken b_O_taken 4 .int 0 0 [.ref (Ω.2.2 5), .int x1] (wN Ω S) r.1 (wN Ω r.2) := z_introI (by decide +kernel) (Nat.le_of_ble_eq_true rfl) rfl (fun X A hC hA hR _ hM => w_O_taken hC hA hR hM n r x1 S h)
