def f_B_has_17 (n : Nat) (t0 : Int32) (S : z_S) : Option (Int32 × z_S) := ck (vz t0) (some (t0, S))
def f_B_has_16 (n : Nat) (S : z_S) : Option (Int32 × z_S) := f_B_has_17 n (0 : Int32) S
def f_B_has (n : Nat) (x1 : Int32) (S : z_S) : Option (Int32 × z_S) := (if x1 < 0 then f_B_has_16 n S else (if (gF S 1) ≤ x1 then f_B_has_16 n S else f_B_has_17 n (1 : Int32) S))
set_option maxRecDepth 20000 in
theorem w_B_has_17 {X : z_X} {A : Nat → Prop} {Ω : z_O} (hC : z_C X b_B_has 2 "NodalAuction$Book" Ω) (hA : z_hA X A) (hR : z_R X (some .boolean)) (hM : z_rmOf X = z_rm 0 0) (n : Nat) (r : Int32 × z_S) (t0 : Int32) (S : z_S) (h : f_B_has_17 n t0 S = some r) : z_At X A (z_QI X Ω A r.1 (wN Ω r.2)) Ω 0 0 2 17 [(0, .ref (Ω.2.2 2))] [.int t0] (wN Ω S) := by
  obtain ⟨hv1, h⟩ := ck_some h
  cases h
  exact z_zret hC hR hv1 rfl rfl d_B_has_17
set_option maxRecDepth 20000 in
theorem w_B_has_16 {X : z_X} {A : Nat → Prop} {Ω : z_O} (hC : z_C X b_B_has 2 "NodalAuction$Book" Ω) (hA : z_hA X A) (hR : z_R X (some .boolean)) (hM : z_rmOf X = z_rm 0 0) (n : Nat) (r : Int32 × z_S) (S : z_S) (h : f_B_has_16 n S = some r) : z_At X A (z_QI X Ω A r.1 (wN Ω r.2)) Ω 0 0 2 16 [(0, .ref (Ω.2.2 2))] [] (wN Ω S) := by
  refine z_iconst (v := (0 : Int32)) (by decide) hC d_B_has_16 (q := 17) rfl ?_
  exact w_B_has_17 hC hA hR hM n r (0 : Int32) S h
set_option maxRecDepth 20000 in
theorem w_B_has {X : z_X} {A : Nat → Prop} {Ω : z_O} (hC : z_C X b_B_has 2 "NodalAuction$Book" Ω) (hA : z_hA X A) (hR : z_R X (some .boolean)) (hM : z_rmOf X = z_rm 0 0) (n : Nat) (r : Int32 × z_S) (x1 : Int32) (S : z_S) (h : f_B_has n x1 S = some r) : z_At X A (z_QI X Ω A r.1 (wN Ω r.2)) Ω 0 0 2 0 [(0, .ref (Ω.2.2 2)), (1, .int x1)] [] (wN Ω S) := by
  refine z_iload_n rfl 1 rfl hC d_B_has_0 (q := 1) rfl ?_
  refine z_if_lt (tgt := 16) (q := 4) hC d_B_has_1 rfl rfl (fun hb => ?_) (fun hb => ?_)
  · have h := (if_pos hb).symm.trans h
    refine z_sub [0] rfl ?_
    exact w_B_has_16 hC hA hR hM n r S h
  · have h := (if_neg hb).symm.trans h
    refine z_iload_n rfl 1 rfl hC d_B_has_4 (q := 5) rfl ?_
    refine z_aload_n rfl 0 rfl hC d_B_has_5 (q := 6) rfl ?_
    refine gf_B_24_2 hC d_B_has_6 (q := 9) rfl ?_
    refine z_icmp_ge (tgt := 16) (q := 12) hC d_B_has_9 rfl rfl (fun hb => ?_) (fun hb => ?_)
    · have h := (if_pos hb).symm.trans h
      refine z_sub [0] rfl ?_
      exact w_B_has_16 hC hA hR hM n r S h
    · have h := (if_neg hb).symm.trans h
      refine z_iconst (v := (1 : Int32)) (by decide) hC d_B_has_12 (q := 13) rfl ?_
      refine z_goto (tgt := 17) hC d_B_has_13 rfl ?_
      refine z_sub [0] rfl ?_
      exact w_B_has_17 hC hA hR hM n r (1 : Int32) S h
theorem c_B_has (l : Launch) (Ω : z_O) (n : Nat) (x1 : Int32) (S : z_S) (r : Int32 × z_S) (h : f_B_has n x1 S = some r) : z_MI l Ω y_B_has b_B_has 2 .boolean 0 0 [.ref (Ω.2.2 2), .int x1] (wN Ω S) r.1 (wN Ω r.2) := z_introI (by decide +kernel) (Nat.le_of_ble_eq_true rfl) rfl (fun X A hC hA hR _ hM => w_B_has hC hA hR hM n r x1 S h)
def f_B_has_p_17 (n : Nat) (t0 : Int32) (S : z_S) : Option (Int32 × z_S) := ck (vz t0) (some (t0, S))
def f_B_has_p_16 (n : Nat) (S : z_S) : Option (Int32 × z_S) := f_B_has_p_17 n (0 : Int32) S
def f_B_has_p (n : Nat) (x1 : Int32) (S : z_S) : Option (Int32 × z_S) := (if x1 < 0 then f_B_has_p_16 n S else (if (gF S 2) ≤ x1 then f_B_has_p_16 n S else f_B_has_p_17 n (1 : Int32) S))
set_option maxRecDepth 20000 in
theorem w_B_has_p_17 {X : z_X} {A : Nat → Prop} {Ω : z_O} (hC : z_C X b_B_has 2 "NodalAuction$Book" Ω) (hA : z_hA X A) (hR : z_R X (some .boolean)) (hM : z_rmOf X = z_rm 0 0) (n : Nat) (r : Int32 × z_S) (t0 : Int32) (S : z_S) (h : f_B_has_p_17 n t0 S = some r) : z_At X A (z_QI X Ω A r.1 (wN Ω r.2)) Ω 0 0 2 17 [(0, .ref (Ω.2.2 3))] [.int t0] (wN Ω S) := by
  obtain ⟨hv1, h⟩ := ck_some h
  cases h
  exact z_zret hC hR hv1 rfl rfl d_B_has_17
set_option maxRecDepth 20000 in
theorem w_B_has_p_16 {X : z_X} {A : Nat → Prop} {Ω : z_O} (hC : z_C X b_B_has 2 "NodalAuction$Book" Ω) (hA : z_hA X A) (hR : z_R X (some .boolean)) (hM : z_rmOf X = z_rm 0 0) (n : Nat) (r : Int32 × z_S) (S : z_S) (h : f_B_has_p_16 n S = some r) : z_At X A (z_QI X Ω A r.1 (wN Ω r.2)) Ω 0 0 2 16 [(0, .ref (Ω.2.2 3))] [] (wN Ω S) := by
  refine z_iconst (v := (0 : Int32)) (by decide) hC d_B_has_16 (q := 17) rfl ?_
  exact w_B_has_p_17 hC hA hR hM n r (0 : Int32) S h
set_option maxRecDepth 20000 in
theorem w_B_has_p {X : z_X} {A : Nat → Prop} {Ω : z_O} (hC : z_C X b_B_has 2 "NodalAuction$Book" Ω) (hA : z_hA X A) (hR : z_R X (some .boolean)) (hM : z_rmOf X = z_rm 0 0) (n : Nat) (r : Int32 × z_S) (x1 : Int32) (S : z_S) (h : f_B_has_p n x1 S = some r) : z_At X A (z_QI X Ω A r.1 (wN Ω r.2)) Ω 0 0 2 0 [(0, .ref (Ω.2.2 3)), (1, .int x1)] [] (wN Ω S) := by
  refine z_iload_n rfl 1 rfl hC d_B_has_0 (q := 1) rfl ?_
  refine z_if_lt (tgt := 16) (q := 4) hC d_B_has_1 rfl rfl (fun hb => ?_) (fun hb => ?_)
  · have h := (if_pos hb).symm.trans h
    refine z_sub [0] rfl ?_
    exact w_B_has_p_16 hC hA hR hM n r S h
  · have h := (if_neg hb).symm.trans h
    refine z_iload_n rfl 1 rfl hC d_B_has_4 (q := 5) rfl ?_
    refine z_aload_n rfl 0 rfl hC d_B_has_5 (q := 6) rfl ?_
    refine gf_B_24_3 hC d_B_has_6 (q := 9) rfl ?_
    refine z_icmp_ge (tgt := 16) (q := 12) hC d_B_has_9 rfl rfl (fun hb => ?_) (fun hb => ?_)
    · have h := (if_pos hb).symm.trans h
      refine z_sub [0] rfl ?_
      exact w_B_has_p_16 hC hA hR hM n r S h
    · have h := (if_neg hb).symm.trans h
      refine z_iconst (v := (1 : Int32)) (by decide) hC d_B_has_12 (q := 13) rfl ?_
      refine z_goto (tgt := 17) hC d_B_has_13 rfl ?_
      refine z_sub [0] rfl ?_
      exact w_B_has_p_17 hC hA hR hM n r (1 : Int32) S h
theorem c_B_has_p (l : Launch) (Ω : z_O) (n : Nat) (x1 : Int32) (S : z_S) (r : Int32 × z_S) (h : f_B_has_p n x1 S = some r) : z_MI l Ω y_B_has b_B_has 2 .boolean 0 0 [.ref (Ω.2.2 3), .int x1] (wN Ω S) r.1 (wN Ω r.2) := z_introI (by decide +kernel) (Nat.le_of_ble_eq_true rfl) rfl (fun X A hC hA hR _ hM => w_B_has_p hC hA hR hM n r x1 S h)
def f_B_add_53 (n : Nat) (S : z_S) : Option (Int32 × z_S) := some ((gF (sF S 1 ((gF S 1) + (1 : Int32))) 1) - (1 : Int32), sF S 1 ((gF S 1) + (1 : Int32)))
def f_B_add_32 (n : Nat) (x3 : Int32) (x4 : Int32) (S : z_S) : Option (Int32 × z_S) := ck (vi (gF S 1) 8) (ck (vi (gF (sI S 7 (upd (gI S 7) ((gF S 1).toNatClampNeg) x3)) 1) 8) (f_B_add_53 n (sI (sI S 7 (upd (gI S 7) ((gF S 1).toNatClampNeg) x3)) 8 (upd (gI (sI S 7 (upd (gI S 7) ((gF S 1).toNatClampNeg) x3)) 8) ((gF (sI S 7 (upd (gI S 7) ((gF S 1).toNatClampNeg) x3)) 1).toNatClampNeg) x4))))
def f_B_add (n : Nat) (x1 : Int32) (x2 : Int32) (x3 : Int32) (x4 : Int32) (S : z_S) : Option (Int32 × z_S) := (if (gF S 1) < (8 : Int32) then ck (vi (gF S 1) 8) (ck (vi (gF (sI S 5 (upd (gI S 5) ((gF S 1).toNatClampNeg) x1)) 1) 8) (f_B_add_32 n x3 x4 (sI (sI S 5 (upd (gI S 5) ((gF S 1).toNatClampNeg) x1)) 6 (upd (gI (sI S 5 (upd (gI S 5) ((gF S 1).toNatClampNeg) x1)) 6) ((gF (sI S 5 (upd (gI S 5) ((gF S 1).toNatClampNeg) x1)) 1).toNatClampNeg) x2)))) else some ((-2147483648 : Int32), S))
set_option maxRecDepth 20000 in
theorem w_B_add_53 {X : z_X} {A : Nat → Prop} {Ω : z_O} (hC : z_C X b_B_add 5 "NodalAuction$Book" Ω) (hA : z_hA X A) (hR : z_R X (some .int)) (hM : z_rmOf X = z_rm 0 0) (n : Nat) (r : Int32 × z_S) (S : z_S) (h : f_B_add_53 n S = some r) : z_At X A (z_QI X Ω A r.1 (wN Ω r.2)) Ω 0 0 5 53 [(0, .ref (Ω.2.2 2))] [] (wN Ω S) := by
  refine z_aload_n rfl 0 rfl hC d_B_add_53 (q := 54) rfl ?_
  refine z_dup rfl hC d_B_add_54 (q := 55) rfl ?_
  refine gf_B_24_2 hC d_B_add_55 (q := 58) rfl ?_
  refine z_iconst (v := (1 : Int32)) (by decide) hC d_B_add_58 (q := 59) rfl ?_
  refine z_iadd hC d_B_add_59 (q := 60) rfl ?_
  refine pf_B_24_2 hC d_B_add_60 (q := 63) rfl ?_
  refine z_aload_n rfl 0 rfl hC d_B_add_63 (q := 64) rfl ?_
  refine gf_B_24_2 hC d_B_add_64 (q := 67) rfl ?_
  refine z_iconst (v := (1 : Int32)) (by decide) hC d_B_add_67 (q := 68) rfl ?_
  refine z_isub hC d_B_add_68 (q := 69) rfl ?_
  cases h
  exact z_iret hC hR rfl rfl d_B_add_69
set_option maxRecDepth 20000 in
theorem w_B_add_32 {X : z_X} {A : Nat → Prop} {Ω : z_O} (hC : z_C X b_B_add 5 "NodalAuction$Book" Ω) (hA : z_hA X A) (hR : z_R X (some .int)) (hM : z_rmOf X = z_rm 0 0) (n : Nat) (r : Int32 × z_S) (x3 : Int32) (x4 : Int32) (S : z_S) (h : f_B_add_32 n x3 x4 S = some r) : z_At X A (z_QI X Ω A r.1 (wN Ω r.2)) Ω 0 0 5 32 [(0, .ref (Ω.2.2 2)), (3, .int x3), (4, .int x4)] [] (wN Ω S) := by
  refine z_aload_n rfl 0 rfl hC d_B_add_32 (q := 33) rfl ?_
  refine gf_B_18_2 hC d_B_add_33 (q := 36) rfl ?_
  refine z_aload_n rfl 0 rfl hC d_B_add_36 (q := 37) rfl ?_
  refine gf_B_24_2 hC d_B_add_37 (q := 40) rfl ?_
  refine z_iload_n rfl 1 rfl hC d_B_add_40 (q := 41) rfl ?_
  obtain ⟨hv1, h⟩ := ck_some h
  refine as_wN_15 hC hv1 d_B_add_41 (q := 42) rfl ?_
  refine z_aload_n rfl 0 rfl hC d_B_add_42 (q := 43) rfl ?_
  refine gf_B_21_2 hC d_B_add_43 (q := 46) rfl ?_
  refine z_aload_n rfl 0 rfl hC d_B_add_46 (q := 47) rfl ?_
  refine gf_B_24_2 hC d_B_add_47 (q := 50) rfl ?_
  refine z_iload 2 rfl hC d_B_add_50 (q := 52) rfl ?_
  obtain ⟨hv2, h⟩ := ck_some h
  refine as_wN_16 hC hv2 d_B_add_52 (q := 53) rfl ?_
  refine z_sub [0] rfl ?_
  exact w_B_add_53 hC hA hR hM n r (sI (sI S 7 (upd (gI S 7) ((gF S 1).toNatClampNeg) x3)) 8 (upd (gI (sI S 7 (upd (gI S 7) ((gF S 1).toNatClampNeg) x3)) 8) ((gF (sI S 7 (upd (gI S 7) ((gF S 1).toNatClampNeg) x3)) 1).toNatClampNeg) x4)) h
set_option maxRecDepth 20000 in
theorem w_B_add {X : z_X} {A : Nat → Prop} {Ω : z_O} (hC : z_C X b_B_add 5 "NodalAuction$Book" Ω) (hA : z_hA X A) (hR : z_R X (some .int)) (hM : z_rmOf X = z_rm 0 0) (n : Nat) (r : Int32 × z_S) (x1 : Int32) (x2 : Int32) (x3 : Int32) (x4 : Int32) (S : z_S) (h : f_B_add n x1 x2 x3 x4 S = some r) : z_At X A (z_QI X Ω A r.1 (wN Ω r.2)) Ω 0 0 5 0 [(0, .ref (Ω.2.2 2)), (1, .int x1), (2, .int x2), (3, .int x3), (4, .int x4)] [] (wN Ω S) := by
  refine z_aload_n rfl 0 rfl hC d_B_add_0 (q := 1) rfl ?_
  refine gf_B_24_2 hC d_B_add_1 (q := 4) rfl ?_
  refine z_bipush (v := (8 : Int32)) (by decide) hC d_B_add_4 (q := 6) rfl ?_
  refine z_icmp_lt (tgt := 12) (q := 9) hC d_B_add_6 rfl rfl (fun hb => ?_) (fun hb => ?_)
  · have h := (if_pos hb).symm.trans h
    refine z_aload_n rfl 0 rfl hC d_B_add_12 (q := 13) rfl ?_
    refine gf_B_9_2 hC d_B_add_13 (q := 16) rfl ?_
    refine z_aload_n rfl 0 rfl hC d_B_add_16 (q := 17) rfl ?_
    refine gf_B_24_2 hC d_B_add_17 (q := 20) rfl ?_
    refine z_iload_n rfl 1 rfl hC d_B_add_20 (q := 21) rfl ?_
    obtain ⟨hv1, h⟩ := ck_some h
    refine as_wN_13 hC hv1 d_B_add_21 (q := 22) rfl ?_
    refine z_aload_n rfl 0 rfl hC d_B_add_22 (q := 23) rfl ?_
    refine gf_B_15_2 hC d_B_add_23 (q := 26) rfl ?_
    refine z_aload_n rfl 0 rfl hC d_B_add_26 (q := 27) rfl ?_
    refine gf_B_24_2 hC d_B_add_27 (q := 30) rfl ?_
    refine z_iload_n rfl 2 rfl hC d_B_add_30 (q := 31) rfl ?_
    obtain ⟨hv2, h⟩ := ck_some h
    refine as_wN_14 hC hv2 d_B_add_31 (q := 32) rfl ?_
    refine z_sub [0, 3, 4] rfl ?_
    exact w_B_add_32 hC hA hR hM n r x3 x4 (sI (sI S 5 (upd (gI S 5) ((gF S 1).toNatClampNeg) x1)) 6 (upd (gI (sI S 5 (upd (gI S 5) ((gF S 1).toNatClampNeg) x1)) 6) ((gF (sI S 5 (upd (gI S 5) ((gF S 1).toNatClampNeg) x1)) 1).toNatClampNeg) x2)) h
  · have h := (if_neg hb).symm.trans h
    refine z_ldc (v := (-2147483648 : Int32)) k_225 hC d_B_add_9 (q := 11) rfl ?_
    cases h
    exact z_iret hC hR rfl rfl d_B_add_11
theorem c_B_add (l : Launch) (Ω : z_O) (n : Nat) (x1 : Int32) (x2 : Int32) (x3 : Int32) (x4 : Int32) (S : z_S) (r : Int32 × z_S) (h : f_B_add n x1 x2 x3 x4 S = some r) : z_MI l Ω y_B_add b_B_add 5 .int 0 0 [.ref (Ω.2.2 2), .int x1, .int x2, .int x3, .int x4] (wN Ω S) r.1 (wN Ω r.2) := z_introI (by decide +kernel) (Nat.le_of_ble_eq_true rfl) rfl (fun X A hC hA hR _ hM => w_B_add hC hA hR hM n r x1 x2 x3 x4 S h)
def f_B_add_p_53 (n : Nat) (S : z_S) : Option (Int32 × z_S) := some ((gF (sF S 2 ((gF S 2) + (1 : Int32))) 2) - (1 : Int32), sF S 2 ((gF S 2) + (1 : Int32)))
def f_B_add_p_32 (n : Nat) (x3 : Int32) (x4 : Int32) (S : z_S) : Option (Int32 × z_S) := ck (vi (gF S 2) 8) (ck (vi (gF (sI S 11 (upd (gI S 11) ((gF S 2).toNatClampNeg) x3)) 2) 8) (f_B_add_p_53 n (sI (sI S 11 (upd (gI S 11) ((gF S 2).toNatClampNeg) x3)) 12 (upd (gI (sI S 11 (upd (gI S 11) ((gF S 2).toNatClampNeg) x3)) 12) ((gF (sI S 11 (upd (gI S 11) ((gF S 2).toNatClampNeg) x3)) 2).toNatClampNeg) x4))))
def f_B_add_p (n : Nat) (x1 : Int32) (x2 : Int32) (x3 : Int32) (x4 : Int32) (S : z_S) : Option (Int32 × z_S) := (if (gF S 2) < (8 : Int32) then ck (vi (gF S 2) 8) (ck (vi (gF (sI S 9 (upd (gI S 9) ((gF S 2).toNatClampNeg) x1)) 2) 8) (f_B_add_p_32 n x3 x4 (sI (sI S 9 (upd (gI S 9) ((gF S 2).toNatClampNeg) x1)) 10 (upd (gI (sI S 9 (upd (gI S 9) ((gF S 2).toNatClampNeg) x1)) 10) ((gF (sI S 9 (upd (gI S 9) ((gF S 2).toNatClampNeg) x1)) 2).toNatClampNeg) x2)))) else some ((-2147483648 : Int32), S))
set_option maxRecDepth 20000 in
theorem w_B_add_p_53 {X : z_X} {A : Nat → Prop} {Ω : z_O} (hC : z_C X b_B_add 5 "NodalAuction$Book" Ω) (hA : z_hA X A) (hR : z_R X (some .int)) (hM : z_rmOf X = z_rm 0 0) (n : Nat) (r : Int32 × z_S) (S : z_S) (h : f_B_add_p_53 n S = some r) : z_At X A (z_QI X Ω A r.1 (wN Ω r.2)) Ω 0 0 5 53 [(0, .ref (Ω.2.2 3))] [] (wN Ω S) := by
  refine z_aload_n rfl 0 rfl hC d_B_add_53 (q := 54) rfl ?_
  refine z_dup rfl hC d_B_add_54 (q := 55) rfl ?_
  refine gf_B_24_3 hC d_B_add_55 (q := 58) rfl ?_
  refine z_iconst (v := (1 : Int32)) (by decide) hC d_B_add_58 (q := 59) rfl ?_
  refine z_iadd hC d_B_add_59 (q := 60) rfl ?_
  refine pf_B_24_3 hC d_B_add_60 (q := 63) rfl ?_
  refine z_aload_n rfl 0 rfl hC d_B_add_63 (q := 64) rfl ?_
  refine gf_B_24_3 hC d_B_add_64 (q := 67) rfl ?_
  refine z_iconst (v := (1 : Int32)) (by decide) hC d_B_add_67 (q := 68) rfl ?_
  refine z_isub hC d_B_add_68 (q := 69) rfl ?_
  cases h
  exact z_iret hC hR rfl rfl d_B_add_69
set_option maxRecDepth 20000 in
theorem w_B_add_p_32 {X : z_X} {A : Nat → Prop} {Ω : z_O} (hC : z_C X b_B_add 5 "NodalAuction$Book" Ω) (hA : z_hA X A) (hR : z_R X (some .int)) (hM : z_rmOf X = z_rm 0 0) (n : Nat) (r : Int32 × z_S) (x3 : Int32) (x4 : Int32) (S : z_S) (h : f_B_add_p_32 n x3 x4 S = some r) : z_At X A (z_QI X Ω A r.1 (wN Ω r.2)) Ω 0 0 5 32 [(0, .ref (Ω.2.2 3)), (3, .int x3), (4, .int x4)] [] (wN Ω S) := by
  refine z_aload_n rfl 0 rfl hC d_B_add_32 (q := 33) rfl ?_
  refine gf_B_18_3 hC d_B_add_33 (q := 36) rfl ?_
  refine z_aload_n rfl 0 rfl hC d_B_add_36 (q := 37) rfl ?_
  refine gf_B_24_3 hC d_B_add_37 (q := 40) rfl ?_
  refine z_iload_n rfl 1 rfl hC d_B_add_40 (q := 41) rfl ?_
  obtain ⟨hv1, h⟩ := ck_some h
  refine as_wN_19 hC hv1 d_B_add_41 (q := 42) rfl ?_
  refine z_aload_n rfl 0 rfl hC d_B_add_42 (q := 43) rfl ?_
  refine gf_B_21_3 hC d_B_add_43 (q := 46) rfl ?_
  refine z_aload_n rfl 0 rfl hC d_B_add_46 (q := 47) rfl ?_
  refine gf_B_24_3 hC d_B_add_47 (q := 50) rfl ?_
  refine z_iload 2 rfl hC d_B_add_50 (q := 52) rfl ?_
  obtain ⟨hv2, h⟩ := ck_some h
  refine as_wN_20 hC hv2 d_B_add_52 (q := 53) rfl ?_
  refine z_sub [0] rfl ?_
  exact w_B_add_p_53 hC hA hR hM n r (sI (sI S 11 (upd (gI S 11) ((gF S 2).toNatClampNeg) x3)) 12 (upd (gI (sI S 11 (upd (gI S 11) ((gF S 2).toNatClampNeg) x3)) 12) ((gF (sI S 11 (upd (gI S 11) ((gF S 2).toNatClampNeg) x3)) 2).toNatClampNeg) x4)) h
set_option maxRecDepth 20000 in
theorem w_B_add_p {X : z_X} {A : Nat → Prop} {Ω : z_O} (hC : z_C X b_B_add 5 "NodalAuction$Book" Ω) (hA : z_hA X A) (hR : z_R X (some .int)) (hM : z_rmOf X = z_rm 0 0) (n : Nat) (r : Int32 × z_S) (x1 : Int32) (x2 : Int32) (x3 : Int32) (x4 : Int32) (S : z_S) (h : f_B_add_p n x1 x2 x3 x4 S = some r) : z_At X A (z_QI X Ω A r.1 (wN Ω r.2)) Ω 0 0 5 0 [(0, .ref (Ω.2.2 3)), (1, .int x1), (2, .int x2), (3, .int x3), (4, .int x4)] [] (wN Ω S) := by
  refine z_aload_n rfl 0 rfl hC d_B_add_0 (q := 1) rfl ?_
  refine gf_B_24_3 hC d_B_add_1 (q := 4) rfl ?_
  refine z_bipush (v := (8 : Int32)) (by decide) hC d_B_add_4 (q := 6) rfl ?_
  refine z_icmp_lt (tgt := 12) (q := 9) hC d_B_add_6 rfl rfl (fun hb => ?_) (fun hb => ?_)
  · have h := (if_pos hb).symm.trans h
    refine z_aload_n rfl 0 rfl hC d_B_add_12 (q := 13) rfl ?_
    refine gf_B_9_3 hC d_B_add_13 (q := 16) rfl ?_
    refine z_aload_n rfl 0 rfl hC d_B_add_16 (q := 17) rfl ?_
    refine gf_B_24_3 hC d_B_add_17 (q := 20) rfl ?_
    refine z_iload_n rfl 1 rfl hC d_B_add_20 (q := 21) rfl ?_
    obtain ⟨hv1, h⟩ := ck_some h
    refine as_wN_17 hC hv1 d_B_add_21 (q := 22) rfl ?_
    refine z_aload_n rfl 0 rfl hC d_B_add_22 (q := 23) rfl ?_
    refine gf_B_15_3 hC d_B_add_23 (q := 26) rfl ?_
    refine z_aload_n rfl 0 rfl hC d_B_add_26 (q := 27) rfl ?_
    refine gf_B_24_3 hC d_B_add_27 (q := 30) rfl ?_
    refine z_iload_n rfl 2 rfl hC d_B_add_30 (q := 31) rfl ?_
    obtain ⟨hv2, h⟩ := ck_some h
    refine as_wN_18 hC hv2 d_B_add_31 (q := 32) rfl ?_
    refine z_sub [0, 3, 4] rfl ?_
    exact w_B_add_p_32 hC hA hR hM n r x3 x4 (sI (sI S 9 (upd (gI S 9) ((gF S 2).toNatClampNeg) x1)) 10 (upd (gI (sI S 9 (upd (gI S 9) ((gF S 2).toNatClampNeg) x1)) 10) ((gF (sI S 9 (upd (gI S 9) ((gF S 2).toNatClampNeg) x1)) 2).toNatClampNeg) x2)) h
  · have h := (if_neg hb).symm.trans h
    refine z_ldc (v := (-2147483648 : Int32)) k_225 hC d_B_add_9 (q := 11) rfl ?_
    cases h
    exact z_iret hC hR rfl rfl d_B_add_11
theorem c_B_add_p (l : Launch) (Ω : z_O) (n : Nat) (x1 : Int32) (x2 : Int32) (x3 : Int32) (x4 : Int32) (S : z_S) (r : Int32 × z_S) (h : f_B_add_p n x1 x2 x3 x4 S = some r) : z_MI l Ω y_B_add b_B_add 5 .int 0 0 [.ref (Ω.2.2 3), .int x1, .int x2, .int x3, .int x4] (wN Ω S) r.1 (wN Ω r.2) := z_introI (by decide +kernel) (Nat.le_of_ble_eq_true rfl) rfl (fun X A hC hA hR _ hM => w_B_add_p hC hA hR hM n r x1 x2 x3 x4 S h)
def f_B_remove_68 (n : Nat) (k2 : Int32 → z_S → Option (Unit × z_S)) (x2 : Int32) (S : z_S) : Option (Unit × z_S) := k2 (x2 + (1 : Int32)) S
def f_B_remove_40 (n : Nat) (k2 : Int32 → z_S → Option (Unit × z_S)) (x2 : Int32) (S : z_S) : Option (Unit × z_S) := ck (vi (x2 + (1 : Int32)) 8) (ck (vi x2 8) (ck (vi (x2 + (1 : Int32)) 8) (ck (vi x2 8) (f_B_remove_68 n k2 x2 (sI (sI S 7 (upd (gI S 7) x2.toNatClampNeg (gI S 7 ((x2 + (1 : Int32)).toNatClampNeg)))) 8 (upd (gI (sI S 7 (upd (gI S 7) x2.toNatClampNeg (gI S 7 ((x2 + (1 : Int32)).toNatClampNeg)))) 8) x2.toNatClampNeg (gI (sI S 7 (upd (gI S 7) x2.toNatClampNeg (gI S 7 ((x2 + (1 : Int32)).toNatClampNeg)))) 8 ((x2 + (1 : Int32)).toNatClampNeg))))))))
def f_B_remove_2 (n : Nat) : Nat → Int32 → z_S → Option (Unit × z_S)
  | 0, _, _ => none
  | q + 1, x2, S => (if (gF S 1) ≤ (x2 + (1 : Int32)) then some ((), sF S 1 ((gF S 1) - (1 : Int32))) else ck (vi (x2 + (1 : Int32)) 8) (ck (vi x2 8) (ck (vi (x2 + (1 : Int32)) 8) (ck (vi x2 8) (f_B_remove_40 n (f_B_remove_2 n q) x2 (sI (sI S 5 (upd (gI S 5) x2.toNatClampNeg (gI S 5 ((x2 + (1 : Int32)).toNatClampNeg)))) 6 (upd (gI (sI S 5 (upd (gI S 5) x2.toNatClampNeg (gI S 5 ((x2 + (1 : Int32)).toNatClampNeg)))) 6) x2.toNatClampNeg (gI (sI S 5 (upd (gI S 5) x2.toNatClampNeg (gI S 5 ((x2 + (1 : Int32)).toNatClampNeg)))) 6 ((x2 + (1 : Int32)).toNatClampNeg)))))))))
def f_B_remove (n : Nat) (x1 : Int32) (S : z_S) : Option (Unit × z_S) := f_B_remove_2 n n x1 S
set_option maxRecDepth 20000 in
theorem w_B_remove_68 {X : z_X} {A : Nat → Prop} {Ω : z_O} (hC : z_C X b_B_remove 3 "NodalAuction$Book" Ω) (hA : z_hA X A) (hR : z_R X none) (hM : z_rmOf X = z_rm 0 0) (n : Nat) (r : Unit × z_S) (k2 : Int32 → z_S → Option (Unit × z_S)) (hk2 : ∀ (x2 : Int32) (S : z_S), k2 x2 S = some r → z_At X A (z_QV X Ω A (wN Ω r.2)) Ω 0 0 3 2 [(0, .ref (Ω.2.2 2)), (2, .int x2)] [] (wN Ω S)) (x2 : Int32) (S : z_S) (h : f_B_remove_68 n k2 x2 S = some r) : z_At X A (z_QV X Ω A (wN Ω r.2)) Ω 0 0 3 68 [(0, .ref (Ω.2.2 2)), (2, .int x2)] [] (wN Ω S) := by
  refine z_iinc (lv' := [(2, .int (x2 + (1 : Int32))), (0, .ref (Ω.2.2 2))]) 1 rfl rfl (by decide) rfl hC d_B_remove_68 (q := 71) rfl ?_
  refine z_goto (tgt := 2) hC d_B_remove_71 rfl ?_
  refine z_sub [1, 0] rfl ?_
  exact hk2 (x2 + (1 : Int32)) S h
set_option maxRecDepth 20000 in
theorem w_B_remove_40 {X : z_X} {A : Nat → Prop} {Ω : z_O} (hC : z_C X b_B_remove 3 "NodalAuction$Book" Ω) (hA : z_hA X A) (hR : z_R X none) (hM : z_rmOf X = z_rm 0 0) (n : Nat) (r : Unit × z_S) (k2 : Int32 → z_S → Option (Unit × z_S)) (hk2 : ∀ (x2 : Int32) (S : z_S), k2 x2 S = some r → z_At X A (z_QV X Ω A (wN Ω r.2)) Ω 0 0 3 2 [(0, .ref (Ω.2.2 2)), (2, .int x2)] [] (wN Ω S)) (x2 : Int32) (S : z_S) (h : f_B_remove_40 n k2 x2 S = some r) : z_At X A (z_QV X Ω A (wN Ω r.2)) Ω 0 0 3 40 [(0, .ref (Ω.2.2 2)), (2, .int x2)] [] (wN Ω S) := by
  refine z_aload_n rfl 0 rfl hC d_B_remove_40 (q := 41) rfl ?_
  refine gf_B_18_2 hC d_B_remove_41 (q := 44) rfl ?_
  refine z_iload_n rfl 1 rfl hC d_B_remove_44 (q := 45) rfl ?_
  refine z_aload_n rfl 0 rfl hC d_B_remove_45 (q := 46) rfl ?_
  refine gf_B_18_2 hC d_B_remove_46 (q := 49) rfl ?_
  refine z_iload_n rfl 1 rfl hC d_B_remove_49 (q := 50) rfl ?_
  refine z_iconst (v := (1 : Int32)) (by decide) hC d_B_remove_50 (q := 51) rfl ?_
  refine z_iadd hC d_B_remove_51 (q := 52) rfl ?_
  obtain ⟨hv1, h⟩ := ck_some h
  refine al_wN_15 hC hv1 d_B_remove_52 (q := 53) rfl ?_
  obtain ⟨hv2, h⟩ := ck_some h
  refine as_wN_15 hC hv2 d_B_remove_53 (q := 54) rfl ?_
  refine z_aload_n rfl 0 rfl hC d_B_remove_54 (q := 55) rfl ?_
  refine gf_B_21_2 hC d_B_remove_55 (q := 58) rfl ?_
  refine z_iload_n rfl 1 rfl hC d_B_remove_58 (q := 59) rfl ?_
  refine z_aload_n rfl 0 rfl hC d_B_remove_59 (q := 60) rfl ?_
  refine gf_B_21_2 hC d_B_remove_60 (q := 63) rfl ?_
  refine z_iload_n rfl 1 rfl hC d_B_remove_63 (q := 64) rfl ?_
  refine z_iconst (v := (1 : Int32)) (by decide) hC d_B_remove_64 (q := 65) rfl ?_
  refine z_iadd hC d_B_remove_65 (q := 66) rfl ?_
  obtain ⟨hv3, h⟩ := ck_some h
  refine al_wN_16 hC hv3 d_B_remove_66 (q := 67) rfl ?_
  obtain ⟨hv4, h⟩ := ck_some h
  refine as_wN_16 hC hv4 d_B_remove_67 (q := 68) rfl ?_
  exact w_B_remove_68 hC hA hR hM n r k2 hk2 x2 (sI (sI S 7 (upd (gI S 7) x2.toNatClampNeg (gI S 7 ((x2 + (1 : Int32)).toNatClampNeg)))) 8 (upd (gI (sI S 7 (upd (gI S 7) x2.toNatClampNeg (gI S 7 ((x2 + (1 : Int32)).toNatClampNeg)))) 8) x2.toNatClampNeg (gI (sI S 7 (upd (gI S 7) x2.toNatClampNeg (gI S 7 ((x2 + (1 : Int32)).toNatClampNeg)))) 8 ((x2 + (1 : Int32)).toNatClampNeg)))) h
set_option maxRecDepth 20000 in
theorem w_B_remove_2 {X : z_X} {A : Nat → Prop} {Ω : z_O} (hC : z_C X b_B_remove 3 "NodalAuction$Book" Ω) (hA : z_hA X A) (hR : z_R X none) (hM : z_rmOf X = z_rm 0 0) (n : Nat) (r : Unit × z_S) : ∀ (q : Nat) (x2 : Int32) (S : z_S), f_B_remove_2 n q x2 S = some r → z_At X A (z_QV X Ω A (wN Ω r.2)) Ω 0 0 3 2 [(0, .ref (Ω.2.2 2)), (2, .int x2)] [] (wN Ω S) := by
  intro q
  induction q with
  | zero => intro x2 S h; cases h
  | succ q ih =>
    intro x2 S h
    refine z_iload_n rfl 1 rfl hC d_B_remove_2 (q := 3) rfl ?_
    refine z_iconst (v := (1 : Int32)) (by decide) hC d_B_remove_3 (q := 4) rfl ?_
    refine z_iadd hC d_B_remove_4 (q := 5) rfl ?_
    refine z_aload_n rfl 0 rfl hC d_B_remove_5 (q := 6) rfl ?_
    refine gf_B_24_2 hC d_B_remove_6 (q := 9) rfl ?_
    refine z_icmp_ge (tgt := 74) (q := 12) hC d_B_remove_9 rfl rfl (fun hb => ?_) (fun hb => ?_)
    · have h := (if_pos hb).symm.trans h
      refine z_aload_n rfl 0 rfl hC d_B_remove_74 (q := 75) rfl ?_
      refine z_dup rfl hC d_B_remove_75 (q := 76) rfl ?_
      refine gf_B_24_2 hC d_B_remove_76 (q := 79) rfl ?_
      refine z_iconst (v := (1 : Int32)) (by decide) hC d_B_remove_79 (q := 80) rfl ?_
      refine z_isub hC d_B_remove_80 (q := 81) rfl ?_
      refine pf_B_24_2 hC d_B_remove_81 (q := 84) rfl ?_
      cases h
      exact z_vret hC hR rfl d_B_remove_84
    · have h := (if_neg hb).symm.trans h
      refine z_aload_n rfl 0 rfl hC d_B_remove_12 (q := 13) rfl ?_
      refine gf_B_9_2 hC d_B_remove_13 (q := 16) rfl ?_
      refine z_iload_n rfl 1 rfl hC d_B_remove_16 (q := 17) rfl ?_
      refine z_aload_n rfl 0 rfl hC d_B_remove_17 (q := 18) rfl ?_
      refine gf_B_9_2 hC d_B_remove_18 (q := 21) rfl ?_
      refine z_iload_n rfl 1 rfl hC d_B_remove_21 (q := 22) rfl ?_
      refine z_iconst (v := (1 : Int32)) (by decide) hC d_B_remove_22 (q := 23) rfl ?_
      refine z_iadd hC d_B_remove_23 (q := 24) rfl ?_
      obtain ⟨hv1, h⟩ := ck_some h
      refine al_wN_13 hC hv1 d_B_remove_24 (q := 25) rfl ?_
      obtain ⟨hv2, h⟩ := ck_some h
      refine as_wN_13 hC hv2 d_B_remove_25 (q := 26) rfl ?_
      refine z_aload_n rfl 0 rfl hC d_B_remove_26 (q := 27) rfl ?_
      refine gf_B_15_2 hC d_B_remove_27 (q := 30) rfl ?_
      refine z_iload_n rfl 1 rfl hC d_B_remove_30 (q := 31) rfl ?_
      refine z_aload_n rfl 0 rfl hC d_B_remove_31 (q := 32) rfl ?_
      refine gf_B_15_2 hC d_B_remove_32 (q := 35) rfl ?_
      refine z_iload_n rfl 1 rfl hC d_B_remove_35 (q := 36) rfl ?_
      refine z_iconst (v := (1 : Int32)) (by decide) hC d_B_remove_36 (q := 37) rfl ?_
      refine z_iadd hC d_B_remove_37 (q := 38) rfl ?_
      obtain ⟨hv3, h⟩ := ck_some h
      refine al_wN_14 hC hv3 d_B_remove_38 (q := 39) rfl ?_
      obtain ⟨hv4, h⟩ := ck_some h
      refine as_wN_14 hC hv4 d_B_remove_39 (q := 40) rfl ?_
      exact w_B_remove_40 hC hA hR hM n r (f_B_remove_2 n q) ih x2 (sI (sI S 5 (upd (gI S 5) x2.toNatClampNeg (gI S 5 ((x2 + (1 : Int32)).toNatClampNeg)))) 6 (upd (gI (sI S 5 (upd (gI S 5) x2.toNatClampNeg (gI S 5 ((x2 + (1 : Int32)).toNatClampNeg)))) 6) x2.toNatClampNeg (gI (sI S 5 (upd (gI S 5) x2.toNatClampNeg (gI S 5 ((x2 + (1 : Int32)).toNatClampNeg)))) 6 ((x2 + (1 : Int32)).toNatClampNeg)))) h
set_option maxRecDepth 20000 in
theorem w_B_remove {X : z_X} {A : Nat → Prop} {Ω : z_O} (hC : z_C X b_B_remove 3 "NodalAuction$Book" Ω) (hA : z_hA X A) (hR : z_R X none) (hM : z_rmOf X = z_rm 0 0) (n : Nat) (r : Unit × z_S) (x1 : Int32) (S : z_S) (h : f_B_remove n x1 S = some r) : z_At X A (z_QV X Ω A (wN Ω r.2)) Ω 0 0 3 0 [(0, .ref (Ω.2.2 2)), (1, .int x1)] [] (wN Ω S) := by
  refine z_iload_n rfl 1 rfl hC d_B_remove_0 (q := 1) rfl ?_
  refine z_istore_n (lv' := [(2, .int x1), (0, .ref (Ω.2.2 2)), (1, .int x1)]) rfl (by decide) rfl hC d_B_remove_1 (q := 2) rfl ?_
  refine z_sub [1, 0] rfl ?_
  exact w_B_remove_2 hC hA hR hM n r n x1 S h
theorem c_B_remove (l : Launch) (Ω : z_O) (n : Nat) (x1 : Int32) (S : z_S) (r : Unit × z_S) (h : f_B_remove n x1 S = some r) : z_MV l Ω y_B_remove b_B_remove 3 0 0 [.ref (Ω.2.2 2), .int x1] (wN Ω S) (wN Ω r.2) := z_introV (by decide +kernel) (Nat.le_of_ble_eq_true rfl) rfl (fun X A hC hA hR _ hM => w_B_remove hC hA hR hM n r x1 S h)
def f_B_remove_p_68 (n : Nat) (k2 : Int32 → z_S → Option (Unit × z_S)) (x2 : Int32) (S : z_S) : Option (Unit × z_S) := k2 (x2 + (1 : Int32)) S
def f_B_remove_p_40 (n : Nat) (k2 : Int32 → z_S → Option (Unit × z_S)) (x2 : Int32) (S : z_S) : Option (Unit × z_S) := ck (vi (x2 + (1 : Int32)) 8) (ck (vi x2 8) (ck (vi (x2 + (1 : Int32)) 8) (ck (vi x2 8) (f_B_remove_p_68 n k2 x2 (sI (sI S 11 (upd (gI S 11) x2.toNatClampNeg (gI S 11 ((x2 + (1 : Int32)).toNatClampNeg)))) 12 (upd (gI (sI S 11 (upd (gI S 11) x2.toNatClampNeg (gI S 11 ((x2 + (1 : Int32)).toNatClampNeg)))) 12) x2.toNatClampNeg (gI (sI S 11 (upd (gI S 11) x2.toNatClampNeg (gI S 11 ((x2 + (1 : Int32)).toNatClampNeg)))) 12 ((x2 + (1 : Int32)).toNatClampNeg))))))))
def f_B_remove_p_2 (n : Nat) : Nat → Int32 → z_S → Option (Unit × z_S)
  | 0, _, _ => none
  | q + 1, x2, S => (if (gF S 2) ≤ (x2 + (1 : Int32)) then some ((), sF S 2 ((gF S 2) - (1 : Int32))) else ck (vi (x2 + (1 : Int32)) 8) (ck (vi x2 8) (ck (vi (x2 + (1 : Int32)) 8) (ck (vi x2 8) (f_B_remove_p_40 n (f_B_remove_p_2 n q) x2 (sI (sI S 9 (upd (gI S 9) x2.toNatClampNeg (gI S 9 ((x2 + (1 : Int32)).toNatClampNeg)))) 10 (upd (gI (sI S 9 (upd (gI S 9) x2.toNatClampNeg (gI S 9 ((x2 + (1 : Int32)).toNatClampNeg)))) 10) x2.toNatClampNeg (gI (sI S 9 (upd (gI S 9) x2.toNatClampNeg (gI S 9 ((x2 + (1 : Int32)).toNatClampNeg)))) 10 ((x2 + (1 : Int32)).toNatClampNeg)))))))))
def f_B_remove_p (n : Nat) (x1 : Int32) (S : z_S) : Option (Unit × z_S) := f_B_remove_p_2 n n x1 S
set_option maxRecDepth 20000 in
theorem w_B_remove_p_68 {X : z_X} {A : Nat → Prop} {Ω : z_O} (hC : z_C X b_B_remove 3 "NodalAuction$Book" Ω) (hA : z_hA X A) (hR : z_R X none) (hM : z_rmOf X = z_rm 0 0) (n : Nat) (r : Unit × z_S) (k2 : Int32 → z_S → Option (Unit × z_S)) (hk2 : ∀ (x2 : Int32) (S : z_S), k2 x2 S = some r → z_At X A (z_QV X Ω A (wN Ω r.2)) Ω 0 0 3 2 [(0, .ref (Ω.2.2 3)), (2, .int x2)] [] (wN Ω S)) (x2 : Int32) (S : z_S) (h : f_B_remove_p_68 n k2 x2 S = some r) : z_At X A (z_QV X Ω A (wN Ω r.2)) Ω 0 0 3 68 [(0, .ref (Ω.2.2 3)), (2, .int x2)] [] (wN Ω S) := by
  refine z_iinc (lv' := [(2, .int (x2 + (1 : Int32))), (0, .ref (Ω.2.2 3))]) 1 rfl rfl (by decide) rfl hC d_B_remove_68 (q := 71) rfl ?_
  refine z_goto (tgt := 2) hC d_B_remove_71 rfl ?_
  refine z_sub [1, 0] rfl ?_
  exact hk2 (x2 + (1 : Int32)) S h
set_option maxRecDepth 20000 in
theorem w_B_remove_p_40 {X : z_X} {A : Nat → Prop} {Ω : z_O} (hC : z_C X b_B_remove 3 "NodalAuction$Book" Ω) (hA : z_hA X A) (hR : z_R X none) (hM : z_rmOf X = z_rm 0 0) (n : Nat) (r : Unit × z_S) (k2 : Int32 → z_S → Option (Unit × z_S)) (hk2 : ∀ (x2 : Int32) (S : z_S), k2 x2 S = some r → z_At X A (z_QV X Ω A (wN Ω r.2)) Ω 0 0 3 2 [(0, .ref (Ω.2.2 3)), (2, .int x2)] [] (wN Ω S)) (x2 : Int32) (S : z_S) (h : f_B_remove_p_40 n k2 x2 S = some r) : z_At X A (z_QV X Ω A (wN Ω r.2)) Ω 0 0 3 40 [(0, .ref (Ω.2.2 3)), (2, .int x2)] [] (wN Ω S) := by
  refine z_aload_n rfl 0 rfl hC d_B_remove_40 (q := 41) rfl ?_
  refine gf_B_18_3 hC d_B_remove_41 (q := 44) rfl ?_
  refine z_iload_n rfl 1 rfl hC d_B_remove_44 (q := 45) rfl ?_
  refine z_aload_n rfl 0 rfl hC d_B_remove_45 (q := 46) rfl ?_
  refine gf_B_18_3 hC d_B_remove_46 (q := 49) rfl ?_
  refine z_iload_n rfl 1 rfl hC d_B_remove_49 (q := 50) rfl ?_
  refine z_iconst (v := (1 : Int32)) (by decide) hC d_B_remove_50 (q := 51) rfl ?_
  refine z_iadd hC d_B_remove_51 (q := 52) rfl ?_
  obtain ⟨hv1, h⟩ := ck_some h
  refine al_wN_19 hC hv1 d_B_remove_52 (q := 53) rfl ?_
  obtain ⟨hv2, h⟩ := ck_some h
  refine as_wN_19 hC hv2 d_B_remove_53 (q := 54) rfl ?_
  refine z_aload_n rfl 0 rfl hC d_B_remove_54 (q := 55) rfl ?_
  refine gf_B_21_3 hC d_B_remove_55 (q := 58) rfl ?_
  refine z_iload_n rfl 1 rfl hC d_B_remove_58 (q := 59) rfl ?_
  refine z_aload_n rfl 0 rfl hC d_B_remove_59 (q := 60) rfl ?_
  refine gf_B_21_3 hC d_B_remove_60 (q := 63) rfl ?_
  refine z_iload_n rfl 1 rfl hC d_B_remove_63 (q := 64) rfl ?_
  refine z_iconst (v := (1 : Int32)) (by decide) hC d_B_remove_64 (q := 65) rfl ?_
  refine z_iadd hC d_B_remove_65 (q := 66) rfl ?_
  obtain ⟨hv3, h⟩ := ck_some h
  refine al_wN_20 hC hv3 d_B_remove_66 (q := 67) rfl ?_
  obtain ⟨hv4, h⟩ := ck_some h
  refine as_wN_20 hC hv4 d_B_remove_67 (q := 68) rfl ?_
  exact w_B_remove_p_68 hC hA hR hM n r k2 hk2 x2 (sI (sI S 11 (upd (gI S 11) x2.toNatClampNeg (gI S 11 ((x2 + (1 : Int32)).toNatClampNeg)))) 12 (upd (gI (sI S 11 (upd (gI S 11) x2.toNatClampNeg (gI S 11 ((x2 + (1 : Int32)).toNatClampNeg)))) 12) x2.toNatClampNeg (gI (sI S 11 (upd (gI S 11) x2.toNatClampNeg (gI S 11 ((x2 + (1 : Int32)).toNatClampNeg)))) 12 ((x2 + (1 : Int32)).toNatClampNeg)))) h
set_option maxRecDepth 20000 in
theorem w_B_remove_p_2 {X : z_X} {A : Nat → Prop} {Ω : z_O} (hC : z_C X b_B_remove 3 "NodalAuction$Book" Ω) (hA : z_hA X A) (hR : z_R X none) (hM : z_rmOf X = z_rm 0 0) (n : Nat) (r : Unit × z_S) : ∀ (q : Nat) (x2 : Int32) (S : z_S), f_B_remove_p_2 n q x2 S = some r → z_At X A (z_QV X Ω A (wN Ω r.2)) Ω 0 0 3 2 [(0, .ref (Ω.2.2 3)), (2, .int x2)] [] (wN Ω S) := by
  intro q
  induction q with
  | zero => intro x2 S h; cases h
  | succ q ih =>
    intro x2 S h
    refine z_iload_n rfl 1 rfl hC d_B_remove_2 (q := 3) rfl ?_
    refine z_iconst (v := (1 : Int32)) (by decide) hC d_B_remove_3 (q := 4) rfl ?_
    refine z_iadd hC d_B_remove_4 (q := 5) rfl ?_
    refine z_aload_n rfl 0 rfl hC d_B_remove_5 (q := 6) rfl ?_
    refine gf_B_24_3 hC d_B_remove_6 (q := 9) rfl ?_
    refine z_icmp_ge (tgt := 74) (q := 12) hC d_B_remove_9 rfl rfl (fun hb => ?_) (fun hb => ?_)
    · have h := (if_pos hb).symm.trans h
      refine z_aload_n rfl 0 rfl hC d_B_remove_74 (q := 75) rfl ?_
      refine z_dup rfl hC d_B_remove_75 (q := 76) rfl ?_
      refine gf_B_24_3 hC d_B_remove_76 (q := 79) rfl ?_
      refine z_iconst (v := (1 : Int32)) (by decide) hC d_B_remove_79 (q := 80) rfl ?_
      refine z_isub hC d_B_remove_80 (q := 81) rfl ?_
      refine pf_B_24_3 hC d_B_remove_81 (q := 84) rfl ?_
      cases h
      exact z_vret hC hR rfl d_B_remove_84
    · have h := (if_neg hb).symm.trans h
      refine z_aload_n rfl 0 rfl hC d_B_remove_12 (q := 13) rfl ?_
      refine gf_B_9_3 hC d_B_remove_13 (q := 16) rfl ?_
      refine z_iload_n rfl 1 rfl hC d_B_remove_16 (q := 17) rfl ?_
      refine z_aload_n rfl 0 rfl hC d_B_remove_17 (q := 18) rfl ?_
      refine gf_B_9_3 hC d_B_remove_18 (q := 21) rfl ?_
      refine z_iload_n rfl 1 rfl hC d_B_remove_21 (q := 22) rfl ?_
      refine z_iconst (v := (1 : Int32)) (by decide) hC d_B_remove_22 (q := 23) rfl ?_
      refine z_iadd hC d_B_remove_23 (q := 24) rfl ?_
      obtain ⟨hv1, h⟩ := ck_some h
      refine al_wN_17 hC hv1 d_B_remove_24 (q := 25) rfl ?_
      obtain ⟨hv2, h⟩ := ck_some h
      refine as_wN_17 hC hv2 d_B_remove_25 (q := 26) rfl ?_
      refine z_aload_n rfl 0 rfl hC d_B_remove_26 (q := 27) rfl ?_
      refine gf_B_15_3 hC d_B_remove_27 (q := 30) rfl ?_
      refine z_iload_n rfl 1 rfl hC d_B_remove_30 (q := 31) rfl ?_
      refine z_aload_n rfl 0 rfl hC d_B_remove_31 (q := 32) rfl ?_
      refine gf_B_15_3 hC d_B_remove_32 (q := 35) rfl ?_
      refine z_iload_n rfl 1 rfl hC d_B_remove_35 (q := 36) rfl ?_
      refine z_iconst (v := (1 : Int32)) (by decide) hC d_B_remove_36 (q := 37) rfl ?_
      refine z_iadd hC d_B_remove_37 (q := 38) rfl ?_
      obtain ⟨hv3, h⟩ := ck_some h
      refine al_wN_18 hC hv3 d_B_remove_38 (q := 39) rfl ?_
      obtain ⟨hv4, h⟩ := ck_some h
      refine as_wN_18 hC hv4 d_B_remove_39 (q := 40) rfl ?_
      exact w_B_remove_p_40 hC hA hR hM n r (f_B_remove_p_2 n q) ih x2 (sI (sI S 9 (upd (gI S 9) x2.toNatClampNeg (gI S 9 ((x2 + (1 : Int32)).toNatClampNeg)))) 10 (upd (gI (sI S 9 (upd (gI S 9) x2.toNatClampNeg (gI S 9 ((x2 + (1 : Int32)).toNatClampNeg)))) 10) x2.toNatClampNeg (gI (sI S 9 (upd (gI S 9) x2.toNatClampNeg (gI S 9 ((x2 + (1 : Int32)).toNatClampNeg)))) 10 ((x2 + (1 : Int32)).toNatClampNeg)))) h
set_option maxRecDepth 20000 in
theorem w_B_remove_p {X : z_X} {A : Nat → Prop} {Ω : z_O} (hC : z_C X b_B_remove 3 "NodalAuction$Book" Ω) (hA : z_hA X A) (hR : z_R X none) (hM : z_rmOf X = z_rm 0 0) (n : Nat) (r : Unit × z_S) (x1 : Int32) (S : z_S) (h : f_B_remove_p n x1 S = some r) : z_At X A (z_QV X Ω A (wN Ω r.2)) Ω 0 0 3 0 [(0, .ref (Ω.2.2 3)), (1, .int x1)] [] (wN Ω S) := by
  refine z_iload_n rfl 1 rfl hC d_B_remove_0 (q := 1) rfl ?_
  refine z_istore_n (lv' := [(2, .int x1), (0, .ref (Ω.2.2 3)), (1, .int x1)]) rfl (by decide) rfl hC d_B_remove_1 (q := 2) rfl ?_
  refine z_sub [1, 0] rfl ?_
  exact w_B_remove_p_2 hC hA hR hM n r n x1 S h
theorem c_B_remove_p (l : Launch) (Ω : z_O) (n : Nat) (x1 : Int32) (S : z_S) (r : Unit × z_S) (h : f_B_remove_p n x1 S = some r) : z_MV l Ω y_B_remove b_B_remove 3 0 0 [.ref (Ω.2.2 3), .int x1] (wN Ω S) (wN Ω r.2) := z_introV (by decide +kernel) (Nat.le_of_ble_eq_true rfl) rfl (fun X A hC hA hR _ hM => w_B_remove_p hC hA hR hM n r x1 S h)
