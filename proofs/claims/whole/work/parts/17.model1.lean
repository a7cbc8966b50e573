def f_M_within_15 (n : Nat) (t0 : Int32) (S : z_S) : Option (Int32 × z_S) := ck (vz t0) (some (t0, S))
def f_M_within_14 (n : Nat) (S : z_S) : Option (Int32 × z_S) := f_M_within_15 n (0 : Int32) S
def f_M_within (n : Nat) (x0 : Int32) (x1 : Int32) (x2 : Int32) (S : z_S) : Option (Int32 × z_S) := (if x0 < x1 then f_M_within_14 n S else (if x2 < x0 then f_M_within_14 n S else f_M_within_15 n (1 : Int32) S))
set_option maxRecDepth 20000 in
theorem w_M_within_15 {X : z_X} {A : Nat → Prop} {Ω : z_O} (hC : z_C X b_M_within 3 "NodalAuctionModel" Ω) (hA : z_hA X A) (hR : z_R X (some .boolean)) (hM : z_rmOf X = z_rm 0 0) (n : Nat) (r : Int32 × z_S) (t0 : Int32) (S : z_S) (h : f_M_within_15 n t0 S = some r) : z_At X A (z_QI X Ω A r.1 (wM Ω r.2)) Ω 0 0 3 15 [] [.int t0] (wM Ω S) := by
  obtain ⟨hv1, h⟩ := ck_some h
  cases h
  exact z_zret hC hR hv1 rfl rfl d_M_within_15
set_option maxRecDepth 20000 in
theorem w_M_within_14 {X : z_X} {A : Nat → Prop} {Ω : z_O} (hC : z_C X b_M_within 3 "NodalAuctionModel" Ω) (hA : z_hA X A) (hR : z_R X (some .boolean)) (hM : z_rmOf X = z_rm 0 0) (n : Nat) (r : Int32 × z_S) (S : z_S) (h : f_M_within_14 n S = some r) : z_At X A (z_QI X Ω A r.1 (wM Ω r.2)) Ω 0 0 3 14 [] [] (wM Ω S) := by
  refine z_iconst (v := (0 : Int32)) (by decide) hC d_M_within_14 (q := 15) rfl ?_
  exact w_M_within_15 hC hA hR hM n r (0 : Int32) S h
set_option maxRecDepth 20000 in
theorem w_M_within {X : z_X} {A : Nat → Prop} {Ω : z_O} (hC : z_C X b_M_within 3 "NodalAuctionModel" Ω) (hA : z_hA X A) (hR : z_R X (some .boolean)) (hM : z_rmOf X = z_rm 0 0) (n : Nat) (r : Int32 × z_S) (x0 : Int32) (x1 : Int32) (x2 : Int32) (S : z_S) (h : f_M_within n x0 x1 x2 S = some r) : z_At X A (z_QI X Ω A r.1 (wM Ω r.2)) Ω 0 0 3 0 [(0, .int x0), (1, .int x1), (2, .int x2)] [] (wM Ω S) := by
  refine z_iload_n rfl 0 rfl hC d_M_within_0 (q := 1) rfl ?_
  refine z_iload_n rfl 1 rfl hC d_M_within_1 (q := 2) rfl ?_
  refine z_icmp_lt (tgt := 14) (q := 5) hC d_M_within_2 rfl rfl (fun hb => ?_) (fun hb => ?_)
  · have h := (if_pos hb).symm.trans h
    refine z_sub [] rfl ?_
    exact w_M_within_14 hC hA hR hM n r S h
  · have h := (if_neg hb).symm.trans h
    refine z_iload_n rfl 0 rfl hC d_M_within_5 (q := 6) rfl ?_
    refine z_iload_n rfl 2 rfl hC d_M_within_6 (q := 7) rfl ?_
    refine z_icmp_gt (tgt := 14) (q := 10) hC d_M_within_7 rfl rfl (fun hb => ?_) (fun hb => ?_)
    · have h := (if_pos hb).symm.trans h
      refine z_sub [] rfl ?_
      exact w_M_within_14 hC hA hR hM n r S h
    · have h := (if_neg hb).symm.trans h
      refine z_iconst (v := (1 : Int32)) (by decide) hC d_M_within_10 (q := 11) rfl ?_
      refine z_goto (tgt := 15) hC d_M_within_11 rfl ?_
      refine z_sub [] rfl ?_
      exact w_M_within_15 hC hA hR hM n r (1 : Int32) S h
theorem c_M_within (l : Launch) (Ω : z_O) (n : Nat) (x0 : Int32) (x1 : Int32) (x2 : Int32) (S : z_S) (r : Int32 × z_S) (h : f_M_within n x0 x1 x2 S = some r) : z_MI l Ω y_M_within b_M_within 3 .boolean 0 0 [.int x0, .int x1, .int x2] (wM Ω S) r.1 (wM Ω r.2) := z_introI (by decide +kernel) (Nat.le_of_ble_eq_true rfl) rfl (fun X A hC hA hR _ hM => w_M_within hC hA hR hM n r x0 x1 x2 S h)
def f_M_divisor_66 (n : Nat) (x4 : Int64) (S : z_S) : Option (Int64 × z_S) := some (x4, S)
def f_M_divisor_31 (n : Nat) : Nat → Int64 → Int64 → Int32 → z_S → Option (Int64 × z_S)
  | 0, _, _, _, _ => none
  | q + 1, x4, x6, x8, S => (if (1000000 : Int32) ≤ x8 then f_M_divisor_66 n x4 S else (if x6 = (0 : Int64) then f_M_divisor_66 n x4 S else ck (vn x6) (f_M_divisor_31 n q x6 (x4 - x4 / x6 * x6) (x8 + (1 : Int32)) S)))
def f_M_divisor_26 (n : Nat) (x4 : Int64) (t0 : Int64) (S : z_S) : Option (Int64 × z_S) := f_M_divisor_31 n n x4 t0 (0 : Int32) S
def f_M_divisor_12 (n : Nat) (x2 : Int64) (t0 : Int64) (S : z_S) : Option (Int64 × z_S) := (if (0 : Int64) ≤ x2 then f_M_divisor_26 n t0 x2 S else f_M_divisor_26 n t0 (-x2) S)
def f_M_divisor (n : Nat) (x0 : Int64) (x2 : Int64) (S : z_S) : Option (Int64 × z_S) := (if (0 : Int64) ≤ x0 then f_M_divisor_12 n x2 x0 S else f_M_divisor_12 n x2 (-x0) S)
set_option maxRecDepth 20000 in
theorem w_M_divisor_66 {X : z_X} {A : Nat → Prop} {Ω : z_O} (hC : z_C X b_M_divisor 11 "NodalAuctionModel" Ω) (hA : z_hA X A) (hR : z_R X (some .long)) (hM : z_rmOf X = z_rm 0 0) (n : Nat) (r : Int64 × z_S) (x4 : Int64) (S : z_S) (h : f_M_divisor_66 n x4 S = some r) : z_At X A (z_QL X Ω A r.1 (wM Ω r.2)) Ω 0 0 11 66 [(4, .long x4)] [] (wM Ω S) := by
  refine z_lload 0 rfl hC d_M_divisor_66 (q := 68) rfl ?_
  cases h
  exact z_lret hC hR rfl rfl d_M_divisor_68
set_option maxRecDepth 20000 in
theorem w_M_divisor_31 {X : z_X} {A : Nat → Prop} {Ω : z_O} (hC : z_C X b_M_divisor 11 "NodalAuctionModel" Ω) (hA : z_hA X A) (hR : z_R X (some .long)) (hM : z_rmOf X = z_rm 0 0) (n : Nat) (r : Int64 × z_S) : ∀ (q : Nat) (x4 : Int64) (x6 : Int64) (x8 : Int32) (S : z_S), f_M_divisor_31 n q x4 x6 x8 S = some r → z_At X A (z_QL X Ω A r.1 (wM Ω r.2)) Ω 0 0 11 31 [(4, .long x4), (6, .long x6), (8, .int x8)] [] (wM Ω S) := by
  intro q
  induction q with
  | zero => intro x4 x6 x8 S h; cases h
  | succ q ih =>
    intro x4 x6 x8 S h
    refine z_iload 2 rfl hC d_M_divisor_31 (q := 33) rfl ?_
    refine z_ldc (v := (1000000 : Int32)) k_649 hC d_M_divisor_33 (q := 35) rfl ?_
    refine z_icmp_ge (tgt := 66) (q := 38) hC d_M_divisor_35 rfl rfl (fun hb => ?_) (fun hb => ?_)
    · have h := (if_pos hb).symm.trans h
      refine z_sub [0] rfl ?_
      exact w_M_divisor_66 hC hA hR hM n r x4 S h
    · have h := (if_neg hb).symm.trans h
      refine z_lload 1 rfl hC d_M_divisor_38 (q := 40) rfl ?_
      refine z_lconst (v := (0 : Int64)) (by decide) hC d_M_divisor_40 (q := 41) rfl ?_
      refine z_lcmp_eq (pc1 := 42) (tgt := 66) (q := 45) hC d_M_divisor_41 rfl d_M_divisor_42 rfl rfl (fun hb => ?_) (fun hb => ?_)
      · have h := (if_pos hb).symm.trans h
        refine z_sub [0] rfl ?_
        exact w_M_divisor_66 hC hA hR hM n r x4 S h
      · have h := (if_neg hb).symm.trans h
        refine z_lload 0 rfl hC d_M_divisor_45 (q := 47) rfl ?_
        refine z_lload 1 rfl hC d_M_divisor_47 (q := 49) rfl ?_
        obtain ⟨hv1, h⟩ := ck_some h
        refine z_lrem hv1 hC d_M_divisor_49 (q := 50) rfl ?_
        refine z_lstore (lv' := [(9, .long (x4 - x4 / x6 * x6)), (4, .long x4), (6, .long x6), (8, .int x8)]) (by decide) rfl hC d_M_divisor_50 (q := 52) rfl ?_
        refine z_lload 2 rfl hC d_M_divisor_52 (q := 54) rfl ?_
        refine z_lstore (lv' := [(4, .long x6), (9, .long (x4 - x4 / x6 * x6)), (6, .long x6), (8, .int x8)]) (by decide) rfl hC d_M_divisor_54 (q := 56) rfl ?_
        refine z_lload 1 rfl hC d_M_divisor_56 (q := 58) rfl ?_
        refine z_lstore (lv' := [(6, .long (x4 - x4 / x6 * x6)), (4, .long x6), (9, .long (x4 - x4 / x6 * x6)), (8, .int x8)]) (by decide) rfl hC d_M_divisor_58 (q := 60) rfl ?_
        refine z_iinc (lv' := [(8, .int (x8 + (1 : Int32))), (6, .long (x4 - x4 / x6 * x6)), (4, .long x6), (9, .long (x4 - x4 / x6 * x6))]) 3 rfl rfl (by decide) rfl hC d_M_divisor_60 (q := 63) rfl ?_
        refine z_goto (tgt := 31) hC d_M_divisor_63 rfl ?_
        refine z_sub [2, 1, 0] rfl ?_
        exact ih x6 (x4 - x4 / x6 * x6) (x8 + (1 : Int32)) S h
set_option maxRecDepth 20000 in
theorem w_M_divisor_26 {X : z_X} {A : Nat → Prop} {Ω : z_O} (hC : z_C X b_M_divisor 11 "NodalAuctionModel" Ω) (hA : z_hA X A) (hR : z_R X (some .long)) (hM : z_rmOf X = z_rm 0 0) (n : Nat) (r : Int64 × z_S) (x4 : Int64) (t0 : Int64) (S : z_S) (h : f_M_divisor_26 n x4 t0 S = some r) : z_At X A (z_QL X Ω A r.1 (wM Ω r.2)) Ω 0 0 11 26 [(4, .long x4)] [.long t0] (wM Ω S) := by
  refine z_lstore (lv' := [(6, .long t0), (4, .long x4)]) (by decide) rfl hC d_M_divisor_26 (q := 28) rfl ?_
  refine z_iconst (v := (0 : Int32)) (by decide) hC d_M_divisor_28 (q := 29) rfl ?_
  refine z_istore (lv' := [(8, .int (0 : Int32)), (6, .long t0), (4, .long x4)]) (by decide) rfl hC d_M_divisor_29 (q := 31) rfl ?_
  refine z_sub [2, 1, 0] rfl ?_
  exact w_M_divisor_31 hC hA hR hM n r n x4 t0 (0 : Int32) S h
set_option maxRecDepth 20000 in
theorem w_M_divisor_12 {X : z_X} {A : Nat → Prop} {Ω : z_O} (hC : z_C X b_M_divisor 11 "NodalAuctionModel" Ω) (hA : z_hA X A) (hR : z_R X (some .long)) (hM : z_rmOf X = z_rm 0 0) (n : Nat) (r : Int64 × z_S) (x2 : Int64) (t0 : Int64) (S : z_S) (h : f_M_divisor_12 n x2 t0 S = some r) : z_At X A (z_QL X Ω A r.1 (wM Ω r.2)) Ω 0 0 11 12 [(2, .long x2)] [.long t0] (wM Ω S) := by
  refine z_lstore (lv' := [(4, .long t0), (2, .long x2)]) (by decide) rfl hC d_M_divisor_12 (q := 14) rfl ?_
  refine z_lload_n rfl 1 rfl hC d_M_divisor_14 (q := 15) rfl ?_
  refine z_lconst (v := (0 : Int64)) (by decide) hC d_M_divisor_15 (q := 16) rfl ?_
  refine z_lcmp_ge (pc1 := 17) (tgt := 25) (q := 20) hC d_M_divisor_16 rfl d_M_divisor_17 rfl rfl (fun hb => ?_) (fun hb => ?_)
  · have h := (if_pos hb).symm.trans h
    refine z_lload_n rfl 1 rfl hC d_M_divisor_25 (q := 26) rfl ?_
    refine z_sub [0] rfl ?_
    exact w_M_divisor_26 hC hA hR hM n r t0 x2 S h
  · have h := (if_neg hb).symm.trans h
    refine z_lload_n rfl 1 rfl hC d_M_divisor_20 (q := 21) rfl ?_
    refine z_lneg hC d_M_divisor_21 (q := 22) rfl ?_
    refine z_goto (tgt := 26) hC d_M_divisor_22 rfl ?_
    refine z_sub [0] rfl ?_
    exact w_M_divisor_26 hC hA hR hM n r t0 (-x2) S h
set_option maxRecDepth 20000 in
theorem w_M_divisor {X : z_X} {A : Nat → Prop} {Ω : z_O} (hC : z_C X b_M_divisor 11 "NodalAuctionModel" Ω) (hA : z_hA X A) (hR : z_R X (some .long)) (hM : z_rmOf X = z_rm 0 0) (n : Nat) (r : Int64 × z_S) (x0 : Int64) (x2 : Int64) (S : z_S) (h : f_M_divisor n x0 x2 S = some r) : z_At X A (z_QL X Ω A r.1 (wM Ω r.2)) Ω 0 0 11 0 [(0, .long x0), (2, .long x2)] [] (wM Ω S) := by
  refine z_lload_n rfl 0 rfl hC d_M_divisor_0 (q := 1) rfl ?_
  refine z_lconst (v := (0 : Int64)) (by decide) hC d_M_divisor_1 (q := 2) rfl ?_
  refine z_lcmp_ge (pc1 := 3) (tgt := 11) (q := 6) hC d_M_divisor_2 rfl d_M_divisor_3 rfl rfl (fun hb => ?_) (fun hb => ?_)
  · have h := (if_pos hb).symm.trans h
    refine z_lload_n rfl 0 rfl hC d_M_divisor_11 (q := 12) rfl ?_
    refine z_sub [1] rfl ?_
    exact w_M_divisor_12 hC hA hR hM n r x2 x0 S h
  · have h := (if_neg hb).symm.trans h
    refine z_lload_n rfl 0 rfl hC d_M_divisor_6 (q := 7) rfl ?_
    refine z_lneg hC d_M_divisor_7 (q := 8) rfl ?_
    refine z_goto (tgt := 12) hC d_M_divisor_8 rfl ?_
    refine z_sub [1] rfl ?_
    exact w_M_divisor_12 hC hA hR hM n r x2 (-x0) S h
theorem c_M_divisor (l : Launch) (Ω : z_O) (n : Nat) (x0 : Int64) (x2 : Int64) (S : z_S) (r : Int64 × z_S) (h : f_M_divisor n x0 x2 S = some r) : z_ML l Ω y_M_divisor b_M_divisor 11 .long 0 0 [.long x0, .long x2] (wM Ω S) r.1 (wM Ω r.2) := z_introL (by decide +kernel) (Nat.le_of_ble_eq_true rfl) rfl (fun X A hC hA hR _ hM => w_M_divisor hC hA hR hM n r x0 x2 S h)
def f_M_priceOf_32 (n : Nat) (t0 : Int64) (S : z_S) : Option (Int64 × z_S) := some (t0, S)
def f_M_priceOf (n : Nat) (x0 : Int32) (x1 : Int32) (x2 : Int32) (x3 : Int32) (x4 : Int32) (S : z_S) : Option (Int64 × z_S) := (if x0 = 0 then f_M_priceOf_32 n x1.toInt64 S else (if x0 = (1 : Int32) then f_M_priceOf_32 n x2.toInt64 S else (if x0 = (2 : Int32) then f_M_priceOf_32 n x3.toInt64 S else f_M_priceOf_32 n x4.toInt64 S)))
set_option maxRecDepth 20000 in
theorem w_M_priceOf_32 {X : z_X} {A : Nat → Prop} {Ω : z_O} (hC : z_C X b_M_priceOf 5 "NodalAuctionModel" Ω) (hA : z_hA X A) (hR : z_R X (some .long)) (hM : z_rmOf X = z_rm 0 0) (n : Nat) (r : Int64 × z_S) (t0 : Int64) (S : z_S) (h : f_M_priceOf_32 n t0 S = some r) : z_At X A (z_QL X Ω A r.1 (wM Ω r.2)) Ω 0 0 5 32 [] [.long t0] (wM Ω S) := by
  cases h
  exact z_lret hC hR rfl rfl d_M_priceOf_32
set_option maxRecDepth 20000 in
theorem w_M_priceOf {X : z_X} {A : Nat → Prop} {Ω : z_O} (hC : z_C X b_M_priceOf 5 "NodalAuctionModel" Ω) (hA : z_hA X A) (hR : z_R X (some .long)) (hM : z_rmOf X = z_rm 0 0) (n : Nat) (r : Int64 × z_S) (x0 : Int32) (x1 : Int32) (x2 : Int32) (x3 : Int32) (x4 : Int32) (S : z_S) (h : f_M_priceOf n x0 x1 x2 x3 x4 S = some r) : z_At X A (z_QL X Ω A r.1 (wM Ω r.2)) Ω 0 0 5 0 [(0, .int x0), (1, .int x1), (2, .int x2), (3, .int x3), (4, .int x4)] [] (wM Ω S) := by
  refine z_iload_n rfl 0 rfl hC d_M_priceOf_0 (q := 1) rfl ?_
  refine z_if_ne (tgt := 9) (q := 4) hC d_M_priceOf_1 rfl rfl (fun hb => ?_) (fun hb => ?_)
  · have h := (if_neg hb).symm.trans h
    refine z_iload_n rfl 0 rfl hC d_M_priceOf_9 (q := 10) rfl ?_
    refine z_iconst (v := (1 : Int32)) (by decide) hC d_M_priceOf_10 (q := 11) rfl ?_
    refine z_icmp_ne (tgt := 19) (q := 14) hC d_M_priceOf_11 rfl rfl (fun hb => ?_) (fun hb => ?_)
    · have h := (if_neg hb).symm.trans h
      refine z_iload_n rfl 0 rfl hC d_M_priceOf_19 (q := 20) rfl ?_
      refine z_iconst (v := (2 : Int32)) (by decide) hC d_M_priceOf_20 (q := 21) rfl ?_
      refine z_icmp_ne (tgt := 29) (q := 24) hC d_M_priceOf_21 rfl rfl (fun hb => ?_) (fun hb => ?_)
      · have h := (if_neg hb).symm.trans h
        refine z_iload 4 rfl hC d_M_priceOf_29 (q := 31) rfl ?_
        refine z_i2l hC d_M_priceOf_31 (q := 32) rfl ?_
        refine z_sub [] rfl ?_
        exact w_M_priceOf_32 hC hA hR hM n r x4.toInt64 S h
      · have h := (if_pos hb).symm.trans h
        refine z_iload_n rfl 3 rfl hC d_M_priceOf_24 (q := 25) rfl ?_
        refine z_i2l hC d_M_priceOf_25 (q := 26) rfl ?_
        refine z_goto (tgt := 32) hC d_M_priceOf_26 rfl ?_
        refine z_sub [] rfl ?_
        exact w_M_priceOf_32 hC hA hR hM n r x3.toInt64 S h
    · have h := (if_pos hb).symm.trans h
      refine z_iload_n rfl 2 rfl hC d_M_priceOf_14 (q := 15) rfl ?_
      refine z_i2l hC d_M_priceOf_15 (q := 16) rfl ?_
      refine z_goto (tgt := 32) hC d_M_priceOf_16 rfl ?_
      refine z_sub [] rfl ?_
      exact w_M_priceOf_32 hC hA hR hM n r x2.toInt64 S h
  · have h := (if_pos hb).symm.trans h
    refine z_iload_n rfl 1 rfl hC d_M_priceOf_4 (q := 5) rfl ?_
    refine z_i2l hC d_M_priceOf_5 (q := 6) rfl ?_
    refine z_goto (tgt := 32) hC d_M_priceOf_6 rfl ?_
    refine z_sub [] rfl ?_
    exact w_M_priceOf_32 hC hA hR hM n r x1.toInt64 S h
theorem c_M_priceOf (l : Launch) (Ω : z_O) (n : Nat) (x0 : Int32) (x1 : Int32) (x2 : Int32) (x3 : Int32) (x4 : Int32) (S : z_S) (r : Int64 × z_S) (h : f_M_priceOf n x0 x1 x2 x3 x4 S = some r) : z_ML l Ω y_M_priceOf b_M_priceOf 5 .long 0 0 [.int x0, .int x1, .int x2, .int x3, .int x4] (wM Ω S) r.1 (wM Ω r.2) := z_introL (by decide +kernel) (Nat.le_of_ble_eq_true rfl) rfl (fun X A hC hA hR _ hM => w_M_priceOf hC hA hR hM n r x0 x1 x2 x3 x4 S h)
def f_M_line_44 (n : Nat) (S : z_S) : Option (Int32 × z_S) := some ((-2147483648 : Int32), S)
def f_M_line_103 (n : Nat) (S : z_S) : Option (Int32 × z_S) := some ((-2147483648 : Int32), S)
def f_M_line_106 (n : Nat) (k50 : Int32 → Int32 → Int32 → Int32 → Int32 → z_S → Option (Int32 × z_S)) (x1 : Int32) (x2 : Int32) (x3 : Int32) (x4 : Int32) (x5 : Int32) (S : z_S) : Option (Int32 × z_S) := k50 x1 x2 x3 x4 (x5 + (1 : Int32)) S
def f_M_line_81 (n : Nat) (k50 : Int32 → Int32 → Int32 → Int32 → Int32 → z_S → Option (Int32 × z_S)) (x1 : Int32) (x2 : Int32) (x3 : Int32) (x4 : Int32) (x5 : Int32) (S : z_S) : Option (Int32 × z_S) := ck (vi x5 6) ((if (gI S 0 x5.toNatClampNeg) = x2 then ck (vi x5 6) ((if (gI S 1 x5.toNatClampNeg) = x1 then f_M_line_103 n S else f_M_line_106 n k50 x1 x2 x3 x4 x5 S)) else f_M_line_106 n k50 x1 x2 x3 x4 x5 S))
def f_M_line_153 (n : Nat) (S : z_S) : Option (Int32 × z_S) := some ((gF (sF (sF S 0 ((gF S 0) + (1 : Int32))) 4 (0 : Int32)) 0) - (1 : Int32), sF (sF S 0 ((gF S 0) + (1 : Int32))) 4 (0 : Int32))
def f_M_line_132 (n : Nat) (x3 : Int32) (x4 : Int32) (S : z_S) : Option (Int32 × z_S) := ck (vi (gF S 0) 6) (ck (vi (gF (sI S 2 (upd (gI S 2) ((gF S 0).toNatClampNeg) x3)) 0) 6) (f_M_line_153 n (sI (sI S 2 (upd (gI S 2) ((gF S 0).toNatClampNeg) x3)) 3 (upd (gI (sI S 2 (upd (gI S 2) ((gF S 0).toNatClampNeg) x3)) 3) ((gF (sI S 2 (upd (gI S 2) ((gF S 0).toNatClampNeg) x3)) 0).toNatClampNeg) x4))))
def f_M_line_50 (n : Nat) : Nat → Int32 → Int32 → Int32 → Int32 → Int32 → z_S → Option (Int32 × z_S)
  | 0, _, _, _, _, _, _ => none
  | q + 1, x1, x2, x3, x4, x5, S => (if (gF S 0) ≤ x5 then ck (vi (gF S 0) 6) (ck (vi (gF (sI S 0 (upd (gI S 0) ((gF S 0).toNatClampNeg) x1)) 0) 6) (f_M_line_132 n x3 x4 (sI (sI S 0 (upd (gI S 0) ((gF S 0).toNatClampNeg) x1)) 1 (upd (gI (sI S 0 (upd (gI S 0) ((gF S 0).toNatClampNeg) x1)) 1) ((gF (sI S 0 (upd (gI S 0) ((gF S 0).toNatClampNeg) x1)) 0).toNatClampNeg) x2)))) else ck (vi x5 6) ((if (gI S 0 x5.toNatClampNeg) = x1 then ck (vi x5 6) ((if (gI S 1 x5.toNatClampNeg) = x2 then f_M_line_103 n S else f_M_line_81 n (f_M_line_50 n q) x1 x2 x3 x4 x5 S)) else f_M_line_81 n (f_M_line_50 n q) x1 x2 x3 x4 x5 S)))
def f_M_line (n : Nat) (x1 : Int32) (x2 : Int32) (x3 : Int32) (x4 : Int32) (S : z_S) : Option (Int32 × z_S) := bo (f_M_within n x1 (0 : Int32) (3 : Int32) S) (fun v3 S3 => (if v3 = 0 then f_M_line_44 n S3 else bo (f_M_within n x2 (0 : Int32) (3 : Int32) S3) (fun v12 S12 => (if v12 = 0 then f_M_line_44 n S12 else (if x1 = x2 then f_M_line_44 n S12 else bo (f_M_within n x3 (1 : Int32) (5 : Int32) S12) (fun v26 S26 => (if v26 = 0 then f_M_line_44 n S26 else bo (f_M_within n x4 (0 : Int32) (1000 : Int32) S26) (fun v38 S38 => (if v38 = 0 then f_M_line_44 n S38 else f_M_line_50 n n x1 x2 x3 x4 (0 : Int32) S38)))))))))
set_option maxRecDepth 20000 in
theorem w_M_line_44 {X : z_X} {A : Nat → Prop} {Ω : z_O} (hC : z_C X b_M_line 6 "NodalAuctionModel" Ω) (hA : z_hA X A) (hR : z_R X (some .int)) (hM : z_rmOf X = z_rm 1 22) (n : Nat) (r : Int32 × z_S) (S : z_S) (h : f_M_line_44 n S = some r) : z_At X A (z_QI X Ω A r.1 (wM Ω r.2)) Ω 0 0 6 44 [(0, .ref (Ω.2.2 100))] [] (wM Ω S) := by
  refine z_ldc (v := (-2147483648 : Int32)) k_540 hC d_M_line_44 (q := 46) rfl ?_
  cases h
  exact z_iret hC hR rfl rfl d_M_line_46
set_option maxRecDepth 20000 in
theorem w_M_line_103 {X : z_X} {A : Nat → Prop} {Ω : z_O} (hC : z_C X b_M_line 6 "NodalAuctionModel" Ω) (hA : z_hA X A) (hR : z_R X (some .int)) (hM : z_rmOf X = z_rm 1 22) (n : Nat) (r : Int32 × z_S) (S : z_S) (h : f_M_line_103 n S = some r) : z_At X A (z_QI X Ω A r.1 (wM Ω r.2)) Ω 0 0 6 103 [(0, .ref (Ω.2.2 100))] [] (wM Ω S) := by
  refine z_ldc (v := (-2147483648 : Int32)) k_540 hC d_M_line_103 (q := 105) rfl ?_
  cases h
  exact z_iret hC hR rfl rfl d_M_line_105
set_option maxRecDepth 20000 in
theorem w_M_line_106 {X : z_X} {A : Nat → Prop} {Ω : z_O} (hC : z_C X b_M_line 6 "NodalAuctionModel" Ω) (hA : z_hA X A) (hR : z_R X (some .int)) (hM : z_rmOf X = z_rm 1 22) (n : Nat) (r : Int32 × z_S) (k50 : Int32 → Int32 → Int32 → Int32 → Int32 → z_S → Option (Int32 × z_S)) (hk50 : ∀ (x1 : Int32) (x2 : Int32) (x3 : Int32) (x4 : Int32) (x5 : Int32) (S : z_S), k50 x1 x2 x3 x4 x5 S = some r → z_At X A (z_QI X Ω A r.1 (wM Ω r.2)) Ω 0 0 6 50 [(0, .ref (Ω.2.2 100)), (1, .int x1), (2, .int x2), (3, .int x3), (4, .int x4), (5, .int x5)] [] (wM Ω S)) (x1 : Int32) (x2 : Int32) (x3 : Int32) (x4 : Int32) (x5 : Int32) (S : z_S) (h : f_M_line_106 n k50 x1 x2 x3 x4 x5 S = some r) : z_At X A (z_QI X Ω A r.1 (wM Ω r.2)) Ω 0 0 6 106 [(0, .ref (Ω.2.2 100)), (1, .int x1), (2, .int x2), (3, .int x3), (4, .int x4), (5, .int x5)] [] (wM Ω S) := by
  refine z_iinc (lv' := [(5, .int (x5 + (1 : Int32))), (0, .ref (Ω.2.2 100)), (1, .int x1), (2, .int x2), (3, .int x3), (4, .int x4)]) 5 rfl rfl (by decide) rfl hC d_M_line_106 (q := 109) rfl ?_
  refine z_goto (tgt := 50) hC d_M_line_109 rfl ?_
  refine z_sub [1, 2, 3, 4, 5, 0] rfl ?_
  exact hk50 x1 x2 x3 x4 (x5 + (1 : Int32)) S h
set_option maxRecDepth 20000 in
theorem w_M_line_81 {X : z_X} {A : Nat → Prop} {Ω : z_O} (hC : z_C X b_M_line 6 "NodalAuctionModel" Ω) (hA : z_hA X A) (hR : z_R X (some .int)) (hM : z_rmOf X = z_rm 1 22) (n : Nat) (r : Int32 × z_S) (k50 : Int32 → Int32 → Int32 → Int32 → Int32 → z_S → Option (Int32 × z_S)) (hk50 : ∀ (x1 : Int32) (x2 : Int32) (x3 : Int32) (x4 : Int32) (x5 : Int32) (S : z_S), k50 x1 x2 x3 x4 x5 S = some r → z_At X A (z_QI X Ω A r.1 (wM Ω r.2)) Ω 0 0 6 50 [(0, .ref (Ω.2.2 100)), (1, .int x1), (2, .int x2), (3, .int x3), (4, .int x4), (5, .int x5)] [] (wM Ω S)) (x1 : Int32) (x2 : Int32) (x3 : Int32) (x4 : Int32) (x5 : Int32) (S : z_S) (h : f_M_line_81 n k50 x1 x2 x3 x4 x5 S = some r) : z_At X A (z_QI X Ω A r.1 (wM Ω r.2)) Ω 0 0 6 81 [(0, .ref (Ω.2.2 100)), (1, .int x1), (2, .int x2), (3, .int x3), (4, .int x4), (5, .int x5)] [] (wM Ω S) := by
  refine z_aload_n rfl 0 rfl hC d_M_line_81 (q := 82) rfl ?_
  refine gf_M_7_0 hC d_M_line_82 (q := 85) rfl ?_
  refine z_iload 5 rfl hC d_M_line_85 (q := 87) rfl ?_
  obtain ⟨hv1, h⟩ := ck_some h
  refine al_wM_1 hC hv1 d_M_line_87 (q := 88) rfl ?_
  refine z_iload_n rfl 2 rfl hC d_M_line_88 (q := 89) rfl ?_
  refine z_icmp_ne (tgt := 106) (q := 92) hC d_M_line_89 rfl rfl (fun hb => ?_) (fun hb => ?_)
  · have h := (if_neg hb).symm.trans h
    exact w_M_line_106 hC hA hR hM n r k50 hk50 x1 x2 x3 x4 x5 S h
  · have h := (if_pos hb).symm.trans h
    refine z_aload_n rfl 0 rfl hC d_M_line_92 (q := 93) rfl ?_
    refine gf_M_13_0 hC d_M_line_93 (q := 96) rfl ?_
    refine z_iload 5 rfl hC d_M_line_96 (q := 98) rfl ?_
    obtain ⟨hv2, h⟩ := ck_some h
    refine al_wM_2 hC hv2 d_M_line_98 (q := 99) rfl ?_
    refine z_iload_n rfl 1 rfl hC d_M_line_99 (q := 100) rfl ?_
    refine z_icmp_ne (tgt := 106) (q := 103) hC d_M_line_100 rfl rfl (fun hb => ?_) (fun hb => ?_)
    · have h := (if_neg hb).symm.trans h
      exact w_M_line_106 hC hA hR hM n r k50 hk50 x1 x2 x3 x4 x5 S h
    · have h := (if_pos hb).symm.trans h
      refine z_sub [0] rfl ?_
      exact w_M_line_103 hC hA hR hM n r S h
set_option maxRecDepth 20000 in
theorem w_M_line_153 {X : z_X} {A : Nat → Prop} {Ω : z_O} (hC : z_C X b_M_line 6 "NodalAuctionModel" Ω) (hA : z_hA X A) (hR : z_R X (some .int)) (hM : z_rmOf X = z_rm 1 22) (n : Nat) (r : Int32 × z_S) (S : z_S) (h : f_M_line_153 n S = some r) : z_At X A (z_QI X Ω A r.1 (wM Ω r.2)) Ω 0 0 6 153 [(0, .ref (Ω.2.2 100))] [] (wM Ω S) := by
  refine z_aload_n rfl 0 rfl hC d_M_line_153 (q := 154) rfl ?_
  refine z_dup rfl hC d_M_line_154 (q := 155) rfl ?_
  refine gf_M_86_0 hC d_M_line_155 (q := 158) rfl ?_
  refine z_iconst (v := (1 : Int32)) (by decide) hC d_M_line_158 (q := 159) rfl ?_
  refine z_iadd hC d_M_line_159 (q := 160) rfl ?_
  refine pf_M_86_0 hC d_M_line_160 (q := 163) rfl ?_
  refine z_aload_n rfl 0 rfl hC d_M_line_163 (q := 164) rfl ?_
  refine z_iconst (v := (0 : Int32)) (by decide) hC d_M_line_164 (q := 165) rfl ?_
  refine pf_M_90_0 (by decide) hC d_M_line_165 (q := 168) rfl ?_
  refine z_aload_n rfl 0 rfl hC d_M_line_168 (q := 169) rfl ?_
  refine gf_M_86_0 hC d_M_line_169 (q := 172) rfl ?_
  refine z_iconst (v := (1 : Int32)) (by decide) hC d_M_line_172 (q := 173) rfl ?_
  refine z_isub hC d_M_line_173 (q := 174) rfl ?_
  cases h
  exact z_iret hC hR rfl rfl d_M_line_174
set_option maxRecDepth 20000 in
theorem w_M_line_132 {X : z_X} {A : Nat → Prop} {Ω : z_O} (hC : z_C X b_M_line 6 "NodalAuctionModel" Ω) (hA : z_hA X A) (hR : z_R X (some .int)) (hM : z_rmOf X = z_rm 1 22) (n : Nat) (r : Int32 × z_S) (x3 : Int32) (x4 : Int32) (S : z_S) (h : f_M_line_132 n x3 x4 S = some r) : z_At X A (z_QI X Ω A r.1 (wM Ω r.2)) Ω 0 0 6 132 [(0, .ref (Ω.2.2 100)), (3, .int x3), (4, .int x4)] [] (wM Ω S) := by
  refine z_aload_n rfl 0 rfl hC d_M_line_132 (q := 133) rfl ?_
  refine gf_M_16_0 hC d_M_line_133 (q := 136) rfl ?_
  refine z_aload_n rfl 0 rfl hC d_M_line_136 (q := 137) rfl ?_
  refine gf_M_86_0 hC d_M_line_137 (q := 140) rfl ?_
  refine z_iload_n rfl 1 rfl hC d_M_line_140 (q := 141) rfl ?_
  obtain ⟨hv1, h⟩ := ck_some h
  refine as_wM_3 hC hv1 d_M_line_141 (q := 142) rfl ?_
  refine z_aload_n rfl 0 rfl hC d_M_line_142 (q := 143) rfl ?_
  refine gf_M_19_0 hC d_M_line_143 (q := 146) rfl ?_
  refine z_aload_n rfl 0 rfl hC d_M_line_146 (q := 147) rfl ?_
  refine gf_M_86_0 hC d_M_line_147 (q := 150) rfl ?_
  refine z_iload 2 rfl hC d_M_line_150 (q := 152) rfl ?_
  obtain ⟨hv2, h⟩ := ck_some h
  refine as_wM_4 hC hv2 d_M_line_152 (q := 153) rfl ?_
  refine z_sub [0] rfl ?_
  exact w_M_line_153 hC hA hR hM n r (sI (sI S 2 (upd (gI S 2) ((gF S 0).toNatClampNeg) x3)) 3 (upd (gI (sI S 2 (upd (gI S 2) ((gF S 0).toNatClampNeg) x3)) 3) ((gF (sI S 2 (upd (gI S 2) ((gF S 0).toNatClampNeg) x3)) 0).toNatClampNeg) x4)) h
set_option maxRecDepth 20000 in
theorem w_M_line_50 {X : z_X} {A : Nat → Prop} {Ω : z_O} (hC : z_C X b_M_line 6 "NodalAuctionModel" Ω) (hA : z_hA X A) (hR : z_R X (some .int)) (hM : z_rmOf X = z_rm 1 22) (n : Nat) (r : Int32 × z_S) : ∀ (q : Nat) (x1 : Int32) (x2 : Int32) (x3 : Int32) (x4 : Int32) (x5 : Int32) (S : z_S), f_M_line_50 n q x1 x2 x3 x4 x5 S = some r → z_At X A (z_QI X Ω A r.1 (wM Ω r.2)) Ω 0 0 6 50 [(0, .ref (Ω.2.2 100)), (1, .int x1), (2, .int x2), (3, .int x3), (4, .int x4), (5, .int x5)] [] (wM Ω S) := by
  intro q
  induction q with
  | zero => intro x1 x2 x3 x4 x5 S h; cases h
  | succ q ih =>
    intro x1 x2 x3 x4 x5 S h
    refine z_iload 5 rfl hC d_M_line_50 (q := 52) rfl ?_
    refine z_aload_n rfl 0 rfl hC d_M_line_52 (q := 53) rfl ?_
    refine gf_M_86_0 hC d_M_line_53 (q := 56) rfl ?_
    refine z_icmp_ge (tgt := 112) (q := 59) hC d_M_line_56 rfl rfl (fun hb => ?_) (fun hb => ?_)
    · have h := (if_pos hb).symm.trans h
      refine z_aload_n rfl 0 rfl hC d_M_line_112 (q := 113) rfl ?_
      refine gf_M_7_0 hC d_M_line_113 (q := 116) rfl ?_
      refine z_aload_n rfl 0 rfl hC d_M_line_116 (q := 117) rfl ?_
      refine gf_M_86_0 hC d_M_line_117 (q := 120) rfl ?_
      refine z_iload_n rfl 1 rfl hC d_M_line_120 (q := 121) rfl ?_
      obtain ⟨hv1, h⟩ := ck_some h
      refine as_wM_1 hC hv1 d_M_line_121 (q := 122) rfl ?_
      refine z_aload_n rfl 0 rfl hC d_M_line_122 (q := 123) rfl ?_
      refine gf_M_13_0 hC d_M_line_123 (q := 126) rfl ?_
      refine z_aload_n rfl 0 rfl hC d_M_line_126 (q := 127) rfl ?_
      refine gf_M_86_0 hC d_M_line_127 (q := 130) rfl ?_
      refine z_iload_n rfl 2 rfl hC d_M_line_130 (q := 131) rfl ?_
      obtain ⟨hv2, h⟩ := ck_some h
      refine as_wM_2 hC hv2 d_M_line_131 (q := 132) rfl ?_
      refine z_sub [0, 3, 4] rfl ?_
      exact w_M_line_132 hC hA hR hM n r x3 x4 (sI (sI S 0 (upd (gI S 0) ((gF S 0).toNatClampNeg) x1)) 1 (upd (gI (sI S 0 (upd (gI S 0) ((gF S 0).toNatClampNeg) x1)) 1) ((gF (sI S 0 (upd (gI S 0) ((gF S 0).toNatClampNeg) x1)) 0).toNatClampNeg) x2)) h
    · have h := (if_neg hb).symm.trans h
      refine z_aload_n rfl 0 rfl hC d_M_line_59 (q := 60) rfl ?_
      refine gf_M_7_0 hC d_M_line_60 (q := 63) rfl ?_
      refine z_iload 5 rfl hC d_M_line_63 (q := 65) rfl ?_
      obtain ⟨hv1, h⟩ := ck_some h
      refine al_wM_1 hC hv1 d_M_line_65 (q := 66) rfl ?_
      refine z_iload_n rfl 1 rfl hC d_M_line_66 (q := 67) rfl ?_
      refine z_icmp_ne (tgt := 81) (q := 70) hC d_M_line_67 rfl rfl (fun hb => ?_) (fun hb => ?_)
      · have h := (if_neg hb).symm.trans h
        exact w_M_line_81 hC hA hR hM n r (f_M_line_50 n q) ih x1 x2 x3 x4 x5 S h
      · have h := (if_pos hb).symm.trans h
        refine z_aload_n rfl 0 rfl hC d_M_line_70 (q := 71) rfl ?_
        refine gf_M_13_0 hC d_M_line_71 (q := 74) rfl ?_
        refine z_iload 5 rfl hC d_M_line_74 (q := 76) rfl ?_
        obtain ⟨hv2, h⟩ := ck_some h
        refine al_wM_2 hC hv2 d_M_line_76 (q := 77) rfl ?_
        refine z_iload_n rfl 2 rfl hC d_M_line_77 (q := 78) rfl ?_
        refine z_icmp_eq (tgt := 103) (q := 81) hC d_M_line_78 rfl rfl (fun hb => ?_) (fun hb => ?_)
        · have h := (if_pos hb).symm.trans h
          refine z_sub [0] rfl ?_
          exact w_M_line_103 hC hA hR hM n r S h
        · have h := (if_neg hb).symm.trans h
          exact w_M_line_81 hC hA hR hM n r (f_M_line_50 n q) ih x1 x2 x3 x4 x5 S h
set_option maxRecDepth 20000 in
theorem w_M_line {X : z_X} {A : Nat → Prop} {Ω : z_O} (hC : z_C X b_M_line 6 "NodalAuctionModel" Ω) (hA : z_hA X A) (hR : z_R X (some .int)) (hM : z_rmOf X = z_rm 1 22) (n : Nat) (r : Int32 × z_S) (x1 : Int32) (x2 : Int32) (x3 : Int32) (x4 : Int32) (S : z_S) (h : f_M_line n x1 x2 x3 x4 S = some r) : z_At X A (z_QI X Ω A r.1 (wM Ω r.2)) Ω 0 0 6 0 [(0, .ref (Ω.2.2 100)), (1, .int x1), (2, .int x2), (3, .int x3), (4, .int x4)] [] (wM Ω S) := by
  refine z_iload_n rfl 1 rfl hC d_M_line_0 (q := 1) rfl ?_
  refine z_iconst (v := (0 : Int32)) (by decide) hC d_M_line_1 (q := 2) rfl ?_
  refine z_iconst (v := (3 : Int32)) (by decide) hC d_M_line_2 (q := 3) rfl ?_
  obtain ⟨v3, S3, hc3, h⟩ := bo_some h
  refine z_callSi (As := [.int x1, .int (0 : Int32), .int (3 : Int32)]) hC hA (c_M_within (z_lOf X) Ω n x1 (0 : Int32) (3 : Int32) S (v3, S3) hc3) k_539 k_537 k_538 k_6 h_M_within (by rw [hM]; exact ⟨Nat.le_of_ble_eq_true rfl, Nat.le_of_ble_eq_true rfl⟩) ⟨Nat.zero_le _, Nat.zero_le _⟩ rfl (Nat.le_of_ble_eq_true rfl) rfl d_M_line_3 (q := 6) rfl ?_
  refine z_if_eq (tgt := 44) (q := 9) hC d_M_line_6 rfl rfl (fun hb => ?_) (fun hb => ?_)
  · have h := (if_pos hb).symm.trans h
    refine z_sub [0] rfl ?_
    exact w_M_line_44 hC hA hR hM n r S3 h
  · have h := (if_neg hb).symm.trans h
    refine z_iload_n rfl 2 rfl hC d_M_line_9 (q := 10) rfl ?_
    refine z_iconst (v := (0 : Int32)) (by decide) hC d_M_line_10 (q := 11) rfl ?_
    refine z_iconst (v := (3 : Int32)) (by decide) hC d_M_line_11 (q := 12) rfl ?_
    obtain ⟨v12, S12, hc12, h⟩ := bo_some h
    refine z_callSi (As := [.int x2, .int (0 : Int32), .int (3 : Int32)]) hC hA (c_M_within (z_lOf X) Ω n x2 (0 : Int32) (3 : Int32) S3 (v12, S12) hc12) k_539 k_537 k_538 k_6 h_M_within (by rw [hM]; exact ⟨Nat.le_of_ble_eq_true rfl, Nat.le_of_ble_eq_true rfl⟩) ⟨Nat.zero_le _, Nat.zero_le _⟩ rfl (Nat.le_of_ble_eq_true rfl) rfl d_M_line_12 (q := 15) rfl ?_
    refine z_if_eq (tgt := 44) (q := 18) hC d_M_line_15 rfl rfl (fun hb => ?_) (fun hb => ?_)
    · have h := (if_pos hb).symm.trans h
      refine z_sub [0] rfl ?_
      exact w_M_line_44 hC hA hR hM n r S12 h
    · have h := (if_neg hb).symm.trans h
      refine z_iload_n rfl 1 rfl hC d_M_line_18 (q := 19) rfl ?_
      refine z_iload_n rfl 2 rfl hC d_M_line_19 (q := 20) rfl ?_
      refine z_icmp_eq (tgt := 44) (q := 23) hC d_M_line_20 rfl rfl (fun hb => ?_) (fun hb => ?_)
      · have h := (if_pos hb).symm.trans h
        refine z_sub [0] rfl ?_
        exact w_M_line_44 hC hA hR hM n r S12 h
      · have h := (if_neg hb).symm.trans h
        refine z_iload_n rfl 3 rfl hC d_M_line_23 (q := 24) rfl ?_
        refine z_iconst (v := (1 : Int32)) (by decide) hC d_M_line_24 (q := 25) rfl ?_
        refine z_iconst (v := (5 : Int32)) (by decide) hC d_M_line_25 (q := 26) rfl ?_
        obtain ⟨v26, S26, hc26, h⟩ := bo_some h
        refine z_callSi (As := [.int x3, .int (1 : Int32), .int (5 : Int32)]) hC hA (c_M_within (z_lOf X) Ω n x3 (1 : Int32) (5 : Int32) S12 (v26, S26) hc26) k_539 k_537 k_538 k_6 h_M_within (by rw [hM]; exact ⟨Nat.le_of_ble_eq_true rfl, Nat.le_of_ble_eq_true rfl⟩) ⟨Nat.zero_le _, Nat.zero_le _⟩ rfl (Nat.le_of_ble_eq_true rfl) rfl d_M_line_26 (q := 29) rfl ?_
        refine z_if_eq (tgt := 44) (q := 32) hC d_M_line_29 rfl rfl (fun hb => ?_) (fun hb => ?_)
        · have h := (if_pos hb).symm.trans h
          refine z_sub [0] rfl ?_
          exact w_M_line_44 hC hA hR hM n r S26 h
        · have h := (if_neg hb).symm.trans h
          refine z_iload 4 rfl hC d_M_line_32 (q := 34) rfl ?_
          refine z_iconst (v := (0 : Int32)) (by decide) hC d_M_line_34 (q := 35) rfl ?_
          refine z_sipush (v := (1000 : Int32)) (by decide) hC d_M_line_35 (q := 38) rfl ?_
          obtain ⟨v38, S38, hc38, h⟩ := bo_some h
          refine z_callSi (As := [.int x4, .int (0 : Int32), .int (1000 : Int32)]) hC hA (c_M_within (z_lOf X) Ω n x4 (0 : Int32) (1000 : Int32) S26 (v38, S38) hc38) k_539 k_537 k_538 k_6 h_M_within (by rw [hM]; exact ⟨Nat.le_of_ble_eq_true rfl, Nat.le_of_ble_eq_true rfl⟩) ⟨Nat.zero_le _, Nat.zero_le _⟩ rfl (Nat.le_of_ble_eq_true rfl) rfl d_M_line_38 (q := 41) rfl ?_
          refine z_if_ne (tgt := 47) (q := 44) hC d_M_line_41 rfl rfl (fun hb => ?_) (fun hb => ?_)
          · have h := (if_neg hb).symm.trans h
            refine z_iconst (v := (0 : Int32)) (by decide) hC d_M_line_47 (q := 48) rfl ?_
            refine z_istore (lv' := [(5, .int (0 : Int32)), (0, .ref (Ω.2.2 100)), (1, .int x1), (2, .int x2), (3, .int x3), (4, .int x4)]) (by decide) rfl hC d_M_line_48 (q := 50) rfl ?_
            refine z_sub [1, 2, 3, 4, 5, 0] rfl ?_
            exact w_M_line_50 hC hA hR hM n r n x1 x2 x3 x4 (0 : Int32) S38 h
          · have h := (if_pos hb).symm.trans h
            refine z_sub [0] rfl ?_
            exact w_M_line_44 hC hA hR hM n r S38 h
theorem c_M_line (l : Launch) (Ω : z_O) (n : Nat) (x1 : Int32) (x2 : Int32) (x3 : Int32) (x4 : Int32) (S : z_S) (r : Int32 × z_S) (h : f_M_line n x1 x2 x3 x4 S = some r) : z_MI l Ω y_M_line b_M_line 6 .int 1 22 [.ref (Ω.2.2 100), .int x1, .int x2, .int x3, .int x4] (wM Ω S) r.1 (wM Ω r.2) := z_introI (by decide +kernel) (Nat.le_of_ble_eq_true rfl) rfl (fun X A hC hA hR _ hM => w_M_line hC hA hR hM n r x1 x2 x3 x4 S h)
def f_M_limit_25 (n : Nat) (S : z_S) : Option (Int32 × z_S) := some ((0 : Int32), S)
def f_M_limit (n : Nat) (x1 : Int32) (x2 : Int32) (S : z_S) : Option (Int32 × z_S) := bo (f_M_within n x1 (0 : Int32) ((gF S 0) - (1 : Int32)) S) (fun v8 S8 => (if v8 = 0 then f_M_limit_25 n S8 else bo (f_M_within n x2 (0 : Int32) (1000 : Int32) S8) (fun v19 S19 => (if v19 = 0 then f_M_limit_25 n S19 else ck (vi x1 6) (some ((1 : Int32), sF (sI S19 3 (upd (gI S19 3) x1.toNatClampNeg x2)) 4 (0 : Int32)))))))
set_option maxRecDepth 20000 in
theorem w_M_limit_25 {X : z_X} {A : Nat → Prop} {Ω : z_O} (hC : z_C X b_M_limit 3 "NodalAuctionModel" Ω) (hA : z_hA X A) (hR : z_R X (some .boolean)) (hM : z_rmOf X = z_rm 1 22) (n : Nat) (r : Int32 × z_S) (S : z_S) (h : f_M_limit_25 n S = some r) : z_At X A (z_QI X Ω A r.1 (wM Ω r.2)) Ω 0 0 3 25 [(0, .ref (Ω.2.2 100))] [] (wM Ω S) := by
  refine z_iconst (v := (0 : Int32)) (by decide) hC d_M_limit_25 (q := 26) rfl ?_
  cases h
  exact z_zret hC hR (by decide) rfl rfl d_M_limit_26
set_option maxRecDepth 20000 in
theorem w_M_limit {X : z_X} {A : Nat → Prop} {Ω : z_O} (hC : z_C X b_M_limit 3 "NodalAuctionModel" Ω) (hA : z_hA X A) (hR : z_R X (some .boolean)) (hM : z_rmOf X = z_rm 1 22) (n : Nat) (r : Int32 × z_S) (x1 : Int32) (x2 : Int32) (S : z_S) (h : f_M_limit n x1 x2 S = some r) : z_At X A (z_QI X Ω A r.1 (wM Ω r.2)) Ω 0 0 3 0 [(0, .ref (Ω.2.2 100)), (1, .int x1), (2, .int x2)] [] (wM Ω S) := by
  refine z_iload_n rfl 1 rfl hC d_M_limit_0 (q := 1) rfl ?_
  refine z_iconst (v := (0 : Int32)) (by decide) hC d_M_limit_1 (q := 2) rfl ?_
  refine z_aload_n rfl 0 rfl hC d_M_limit_2 (q := 3) rfl ?_
  refine gf_M_86_0 hC d_M_limit_3 (q := 6) rfl ?_
  refine z_iconst (v := (1 : Int32)) (by decide) hC d_M_limit_6 (q := 7) rfl ?_
  refine z_isub hC d_M_limit_7 (q := 8) rfl ?_
  obtain ⟨v8, S8, hc8, h⟩ := bo_some h
  refine z_callSi (As := [.int x1, .int (0 : Int32), .int ((gF S 0) - (1 : Int32))]) hC hA (c_M_within (z_lOf X) Ω n x1 (0 : Int32) ((gF S 0) - (1 : Int32)) S (v8, S8) hc8) k_539 k_537 k_538 k_6 h_M_within (by rw [hM]; exact ⟨Nat.le_of_ble_eq_true rfl, Nat.le_of_ble_eq_true rfl⟩) ⟨Nat.zero_le _, Nat.zero_le _⟩ rfl (Nat.le_of_ble_eq_true rfl) rfl d_M_limit_8 (q := 11) rfl ?_
  refine z_if_eq (tgt := 25) (q := 14) hC d_M_limit_11 rfl rfl (fun hb => ?_) (fun hb => ?_)
  · have h := (if_pos hb).symm.trans h
    refine z_sub [0] rfl ?_
    exact w_M_limit_25 hC hA hR hM n r S8 h
  · have h := (if_neg hb).symm.trans h
    refine z_iload_n rfl 2 rfl hC d_M_limit_14 (q := 15) rfl ?_
    refine z_iconst (v := (0 : Int32)) (by decide) hC d_M_limit_15 (q := 16) rfl ?_
    refine z_sipush (v := (1000 : Int32)) (by decide) hC d_M_limit_16 (q := 19) rfl ?_
    obtain ⟨v19, S19, hc19, h⟩ := bo_some h
    refine z_callSi (As := [.int x2, .int (0 : Int32), .int (1000 : Int32)]) hC hA (c_M_within (z_lOf X) Ω n x2 (0 : Int32) (1000 : Int32) S8 (v19, S19) hc19) k_539 k_537 k_538 k_6 h_M_within (by rw [hM]; exact ⟨Nat.le_of_ble_eq_true rfl, Nat.le_of_ble_eq_true rfl⟩) ⟨Nat.zero_le _, Nat.zero_le _⟩ rfl (Nat.le_of_ble_eq_true rfl) rfl d_M_limit_19 (q := 22) rfl ?_
    refine z_if_ne (tgt := 27) (q := 25) hC d_M_limit_22 rfl rfl (fun hb => ?_) (fun hb => ?_)
    · have h := (if_neg hb).symm.trans h
      refine z_aload_n rfl 0 rfl hC d_M_limit_27 (q := 28) rfl ?_
      refine gf_M_19_0 hC d_M_limit_28 (q := 31) rfl ?_
      refine z_iload_n rfl 1 rfl hC d_M_limit_31 (q := 32) rfl ?_
      refine z_iload_n rfl 2 rfl hC d_M_limit_32 (q := 33) rfl ?_
      obtain ⟨hv1, h⟩ := ck_some h
      refine as_wM_4 hC hv1 d_M_limit_33 (q := 34) rfl ?_
      refine z_aload_n rfl 0 rfl hC d_M_limit_34 (q := 35) rfl ?_
      refine z_iconst (v := (0 : Int32)) (by decide) hC d_M_limit_35 (q := 36) rfl ?_
      refine pf_M_90_0 (by decide) hC d_M_limit_36 (q := 39) rfl ?_
      refine z_iconst (v := (1 : Int32)) (by decide) hC d_M_limit_39 (q := 40) rfl ?_
      cases h
      exact z_zret hC hR (by decide) rfl rfl d_M_limit_40
    · have h := (if_pos hb).symm.trans h
      refine z_sub [0] rfl ?_
      exact w_M_limit_25 hC hA hR hM n r S19 h
theorem c_M_limit (l : Launch) (Ω : z_O) (n : Nat) (x1 : Int32) (x2 : Int32) (S : z_S) (r : Int32 × z_S) (h : f_M_limit n x1 x2 S = some r) : z_MI l Ω y_M_limit b_M_limit 3 .boolean 1 22 [.ref (Ω.2.2 100), .int x1, .int x2] (wM Ω S) r.1 (wM Ω r.2) := z_introI (by decide +kernel) (Nat.le_of_ble_eq_true rfl) rfl (fun X A hC hA hR _ hM => w_M_limit hC hA hR hM n r x1 x2 S h)
def f_M_cut_92 (n : Nat) (k28 : Int32 → z_S → Option (Int32 × z_S)) (x2 : Int32) (S : z_S) : Option (Int32 × z_S) := k28 (x2 + (1 : Int32)) S
def f_M_cut_64 (n : Nat) (k28 : Int32 → z_S → Option (Int32 × z_S)) (x2 : Int32) (S : z_S) : Option (Int32 × z_S) := ck (vi (x2 + (1 : Int32)) 6) (ck (vi x2 6) (ck (vi (x2 + (1 : Int32)) 6) (ck (vi x2 6) (f_M_cut_92 n k28 x2 (sI (sI S 2 (upd (gI S 2) x2.toNatClampNeg (gI S 2 ((x2 + (1 : Int32)).toNatClampNeg)))) 3 (upd (gI (sI S 2 (upd (gI S 2) x2.toNatClampNeg (gI S 2 ((x2 + (1 : Int32)).toNatClampNeg)))) 3) x2.toNatClampNeg (gI (sI S 2 (upd (gI S 2) x2.toNatClampNeg (gI S 2 ((x2 + (1 : Int32)).toNatClampNeg)))) 3 ((x2 + (1 : Int32)).toNatClampNeg))))))))
def f_M_cut_28 (n : Nat) : Nat → Int32 → z_S → Option (Int32 × z_S)
  | 0, _, _ => none
  | q + 1, x2, S => (if (gF S 0) ≤ x2 then some ((1 : Int32), sF S 4 (0 : Int32)) else ck (vi (x2 + (1 : Int32)) 6) (ck (vi x2 6) (ck (vi (x2 + (1 : Int32)) 6) (ck (vi x2 6) (f_M_cut_64 n (f_M_cut_28 n q) x2 (sI (sI S 0 (upd (gI S 0) x2.toNatClampNeg (gI S 0 ((x2 + (1 : Int32)).toNatClampNeg)))) 1 (upd (gI (sI S 0 (upd (gI S 0) x2.toNatClampNeg (gI S 0 ((x2 + (1 : Int32)).toNatClampNeg)))) 1) x2.toNatClampNeg (gI (sI S 0 (upd (gI S 0) x2.toNatClampNeg (gI S 0 ((x2 + (1 : Int32)).toNatClampNeg)))) 1 ((x2 + (1 : Int32)).toNatClampNeg)))))))))
def f_M_cut (n : Nat) (x1 : Int32) (S : z_S) : Option (Int32 × z_S) := bo (f_M_within n x1 (0 : Int32) ((gF S 0) - (1 : Int32)) S) (fun v8 S8 => (if v8 = 0 then some ((0 : Int32), S8) else f_M_cut_28 n n x1 (sF S8 0 ((gF S8 0) - (1 : Int32)))))
set_option maxRecDepth 20000 in
theorem w_M_cut_92 {X : z_X} {A : Nat → Prop} {Ω : z_O} (hC : z_C X b_M_cut 3 "NodalAuctionModel" Ω) (hA : z_hA X A) (hR : z_R X (some .boolean)) (hM : z_rmOf X = z_rm 1 22) (n : Nat) (r : Int32 × z_S) (k28 : Int32 → z_S → Option (Int32 × z_S)) (hk28 : ∀ (x2 : Int32) (S : z_S), k28 x2 S = some r → z_At X A (z_QI X Ω A r.1 (wM Ω r.2)) Ω 0 0 3 28 [(0, .ref (Ω.2.2 100)), (2, .int x2)] [] (wM Ω S)) (x2 : Int32) (S : z_S) (h : f_M_cut_92 n k28 x2 S = some r) : z_At X A (z_QI X Ω A r.1 (wM Ω r.2)) Ω 0 0 3 92 [(0, .ref (Ω.2.2 100)), (2, .int x2)] [] (wM Ω S) := by
  refine z_iinc (lv' := [(2, .int (x2 + (1 : Int32))), (0, .ref (Ω.2.2 100))]) 1 rfl rfl (by decide) rfl hC d_M_cut_92 (q := 95) rfl ?_
  refine z_goto (tgt := 28) hC d_M_cut_95 rfl ?_
  refine z_sub [1, 0] rfl ?_
  exact hk28 (x2 + (1 : Int32)) S h
set_option maxRecDepth 20000 in
theorem w_M_cut_64 {X : z_X} {A : Nat → Prop} {Ω : z_O} (hC : z_C X b_M_cut 3 "NodalAuctionModel" Ω) (hA : z_hA X A) (hR : z_R X (some .boolean)) (hM : z_rmOf X = z_rm 1 22) (n : Nat) (r : Int32 × z_S) (k28 : Int32 → z_S → Option (Int32 × z_S)) (hk28 : ∀ (x2 : Int32) (S : z_S), k28 x2 S = some r → z_At X A (z_QI X Ω A r.1 (wM Ω r.2)) Ω 0 0 3 28 [(0, .ref (Ω.2.2 100)), (2, .int x2)] [] (wM Ω S)) (x2 : Int32) (S : z_S) (h : f_M_cut_64 n k28 x2 S = some r) : z_At X A (z_QI X Ω A r.1 (wM Ω r.2)) Ω 0 0 3 64 [(0, .ref (Ω.2.2 100)), (2, .int x2)] [] (wM Ω S) := by
  refine z_aload_n rfl 0 rfl hC d_M_cut_64 (q := 65) rfl ?_
  refine gf_M_16_0 hC d_M_cut_65 (q := 68) rfl ?_
  refine z_iload_n rfl 1 rfl hC d_M_cut_68 (q := 69) rfl ?_
  refine z_aload_n rfl 0 rfl hC d_M_cut_69 (q := 70) rfl ?_
  refine gf_M_16_0 hC d_M_cut_70 (q := 73) rfl ?_
  refine z_iload_n rfl 1 rfl hC d_M_cut_73 (q := 74) rfl ?_
  refine z_iconst (v := (1 : Int32)) (by decide) hC d_M_cut_74 (q := 75) rfl ?_
  refine z_iadd hC d_M_cut_75 (q := 76) rfl ?_
  obtain ⟨hv1, h⟩ := ck_some h
  refine al_wM_3 hC hv1 d_M_cut_76 (q := 77) rfl ?_
  obtain ⟨hv2, h⟩ := ck_some h
  refine as_wM_3 hC hv2 d_M_cut_77 (q := 78) rfl ?_
  refine z_aload_n rfl 0 rfl hC d_M_cut_78 (q := 79) rfl ?_
  refine gf_M_19_0 hC d_M_cut_79 (q := 82) rfl ?_
  refine z_iload_n rfl 1 rfl hC d_M_cut_82 (q := 83) rfl ?_
  refine z_aload_n rfl 0 rfl hC d_M_cut_83 (q := 84) rfl ?_
  refine gf_M_19_0 hC d_M_cut_84 (q := 87) rfl ?_
  refine z_iload_n rfl 1 rfl hC d_M_cut_87 (q := 88) rfl ?_
  refine z_iconst (v := (1 : Int32)) (by decide) hC d_M_cut_88 (q := 89) rfl ?_
  refine z_iadd hC d_M_cut_89 (q := 90) rfl ?_
  obtain ⟨hv3, h⟩ := ck_some h
  refine al_wM_4 hC hv3 d_M_cut_90 (q := 91) rfl ?_
  obtain ⟨hv4, h⟩ := ck_some h
  refine as_wM_4 hC hv4 d_M_cut_91 (q := 92) rfl ?_
  exact w_M_cut_92 hC hA hR hM n r k28 hk28 x2 (sI (sI S 2 (upd (gI S 2) x2.toNatClampNeg (gI S 2 ((x2 + (1 : Int32)).toNatClampNeg)))) 3 (upd (gI (sI S 2 (upd (gI S 2) x2.toNatClampNeg (gI S 2 ((x2 + (1 : Int32)).toNatClampNeg)))) 3) x2.toNatClampNeg (gI (sI S 2 (upd (gI S 2) x2.toNatClampNeg (gI S 2 ((x2 + (1 : Int32)).toNatClampNeg)))) 3 ((x2 + (1 : Int32)).toNatClampNeg)))) h
set_option maxRecDepth 20000 in
theorem w_M_cut_28 {X : z_X} {A : Nat → Prop} {Ω : z_O} (hC : z_C X b_M_cut 3 "NodalAuctionModel" Ω) (hA : z_hA X A) (hR : z_R X (some .boolean)) (hM : z_rmOf X = z_rm 1 22) (n : Nat) (r : Int32 × z_S) : ∀ (q : Nat) (x2 : Int32) (S : z_S), f_M_cut_28 n q x2 S = some r → z_At X A (z_QI X Ω A r.1 (wM Ω r.2)) Ω 0 0 3 28 [(0, .ref (Ω.2.2 100)), (2, .int x2)] [] (wM Ω S) := by
  intro q
  induction q with
  | zero => intro x2 S h; cases h
  | succ q ih =>
    intro x2 S h
    refine z_iload_n rfl 1 rfl hC d_M_cut_28 (q := 29) rfl ?_
    refine z_aload_n rfl 0 rfl hC d_M_cut_29 (q := 30) rfl ?_
    refine gf_M_86_0 hC d_M_cut_30 (q := 33) rfl ?_
    refine z_icmp_ge (tgt := 98) (q := 36) hC d_M_cut_33 rfl rfl (fun hb => ?_) (fun hb => ?_)
    · have h := (if_pos hb).symm.trans h
      refine z_aload_n rfl 0 rfl hC d_M_cut_98 (q := 99) rfl ?_
      refine z_iconst (v := (0 : Int32)) (by decide) hC d_M_cut_99 (q := 100) rfl ?_
      refine pf_M_90_0 (by decide) hC d_M_cut_100 (q := 103) rfl ?_
      refine z_iconst (v := (1 : Int32)) (by decide) hC d_M_cut_103 (q := 104) rfl ?_
      cases h
      exact z_zret hC hR (by decide) rfl rfl d_M_cut_104
    · have h := (if_neg hb).symm.trans h
      refine z_aload_n rfl 0 rfl hC d_M_cut_36 (q := 37) rfl ?_
      refine gf_M_7_0 hC d_M_cut_37 (q := 40) rfl ?_
      refine z_iload_n rfl 1 rfl hC d_M_cut_40 (q := 41) rfl ?_
      refine z_aload_n rfl 0 rfl hC d_M_cut_41 (q := 42) rfl ?_
      refine gf_M_7_0 hC d_M_cut_42 (q := 45) rfl ?_
      refine z_iload_n rfl 1 rfl hC d_M_cut_45 (q := 46) rfl ?_
      refine z_iconst (v := (1 : Int32)) (by decide) hC d_M_cut_46 (q := 47) rfl ?_
      refine z_iadd hC d_M_cut_47 (q := 48) rfl ?_
      obtain ⟨hv1, h⟩ := ck_some h
      refine al_wM_1 hC hv1 d_M_cut_48 (q := 49) rfl ?_
      obtain ⟨hv2, h⟩ := ck_some h
      refine as_wM_1 hC hv2 d_M_cut_49 (q := 50) rfl ?_
      refine z_aload_n rfl 0 rfl hC d_M_cut_50 (q := 51) rfl ?_
      refine gf_M_13_0 hC d_M_cut_51 (q := 54) rfl ?_
      refine z_iload_n rfl 1 rfl hC d_M_cut_54 (q := 55) rfl ?_
      refine z_aload_n rfl 0 rfl hC d_M_cut_55 (q := 56) rfl ?_
      refine gf_M_13_0 hC d_M_cut_56 (q := 59) rfl ?_
      refine z_iload_n rfl 1 rfl hC d_M_cut_59 (q := 60) rfl ?_
      refine z_iconst (v := (1 : Int32)) (by decide) hC d_M_cut_60 (q := 61) rfl ?_
      refine z_iadd hC d_M_cut_61 (q := 62) rfl ?_
      obtain ⟨hv3, h⟩ := ck_some h
      refine al_wM_2 hC hv3 d_M_cut_62 (q := 63) rfl ?_
      obtain ⟨hv4, h⟩ := ck_some h
      refine as_wM_2 hC hv4 d_M_cut_63 (q := 64) rfl ?_
      exact w_M_cut_64 hC hA hR hM n r (f_M_cut_28 n q) ih x2 (sI (sI S 0 (upd (gI S 0) x2.toNatClampNeg (gI S 0 ((x2 + (1 : Int32)).toNatClampNeg)))) 1 (upd (gI (sI S 0 (upd (gI S 0) x2.toNatClampNeg (gI S 0 ((x2 + (1 : Int32)).toNatClampNeg)))) 1) x2.toNatClampNeg (gI (sI S 0 (upd (gI S 0) x2.toNatClampNeg (gI S 0 ((x2 + (1 : Int32)).toNatClampNeg)))) 1 ((x2 + (1 : Int32)).toNatClampNeg)))) h
set_option maxRecDepth 20000 in
theorem w_M_cut {X : z_X} {A : Nat → Prop} {Ω : z_O} (hC : z_C X b_M_cut 3 "NodalAuctionModel" Ω) (hA : z_hA X A) (hR : z_R X (some .boolean)) (hM : z_rmOf X = z_rm 1 22) (n : Nat) (r : Int32 × z_S) (x1 : Int32) (S : z_S) (h : f_M_cut n x1 S = some r) : z_At X A (z_QI X Ω A r.1 (wM Ω r.2)) Ω 0 0 3 0 [(0, .ref (Ω.2.2 100)), (1, .int x1)] [] (wM Ω S) := by
  refine z_iload_n rfl 1 rfl hC d_M_cut_0 (q := 1) rfl ?_
  refine z_iconst (v := (0 : Int32)) (by decide) hC d_M_cut_1 (q := 2) rfl ?_
  refine z_aload_n rfl 0 rfl hC d_M_cut_2 (q := 3) rfl ?_
  refine gf_M_86_0 hC d_M_cut_3 (q := 6) rfl ?_
  refine z_iconst (v := (1 : Int32)) (by decide) hC d_M_cut_6 (q := 7) rfl ?_
  refine z_isub hC d_M_cut_7 (q := 8) rfl ?_
  obtain ⟨v8, S8, hc8, h⟩ := bo_some h
  refine z_callSi (As := [.int x1, .int (0 : Int32), .int ((gF S 0) - (1 : Int32))]) hC hA (c_M_within (z_lOf X) Ω n x1 (0 : Int32) ((gF S 0) - (1 : Int32)) S (v8, S8) hc8) k_539 k_537 k_538 k_6 h_M_within (by rw [hM]; exact ⟨Nat.le_of_ble_eq_true rfl, Nat.le_of_ble_eq_true rfl⟩) ⟨Nat.zero_le _, Nat.zero_le _⟩ rfl (Nat.le_of_ble_eq_true rfl) rfl d_M_cut_8 (q := 11) rfl ?_
  refine z_if_ne (tgt := 16) (q := 14) hC d_M_cut_11 rfl rfl (fun hb => ?_) (fun hb => ?_)
  · have h := (if_neg hb).symm.trans h
    refine z_aload_n rfl 0 rfl hC d_M_cut_16 (q := 17) rfl ?_
    refine z_dup rfl hC d_M_cut_17 (q := 18) rfl ?_
    refine gf_M_86_0 hC d_M_cut_18 (q := 21) rfl ?_
    refine z_iconst (v := (1 : Int32)) (by decide) hC d_M_cut_21 (q := 22) rfl ?_
    refine z_isub hC d_M_cut_22 (q := 23) rfl ?_
    refine pf_M_86_0 hC d_M_cut_23 (q := 26) rfl ?_
    refine z_iload_n rfl 1 rfl hC d_M_cut_26 (q := 27) rfl ?_
    refine z_istore_n (lv' := [(2, .int x1), (0, .ref (Ω.2.2 100)), (1, .int x1)]) rfl (by decide) rfl hC d_M_cut_27 (q := 28) rfl ?_
    refine z_sub [1, 0] rfl ?_
    exact w_M_cut_28 hC hA hR hM n r n x1 (sF S8 0 ((gF S8 0) - (1 : Int32))) h
  · have h := (if_pos hb).symm.trans h
    refine z_iconst (v := (0 : Int32)) (by decide) hC d_M_cut_14 (q := 15) rfl ?_
    cases h
    exact z_zret hC hR (by decide) rfl rfl d_M_cut_15
theorem c_M_cut (l : Launch) (Ω : z_O) (n : Nat) (x1 : Int32) (S : z_S) (r : Int32 × z_S) (h : f_M_cut n x1 S = some r) : z_MI l Ω y_M_cut b_M_cut 3 .boolean 1 22 [.ref (Ω.2.2 100), .int x1] (wM Ω S) r.1 (wM Ω r.2) := z_introI (by decide +kernel) (Nat.le_of_ble_eq_true rfl) rfl (fun X A hC hA hR _ hM => w_M_cut hC hA hR hM n r x1 S h)
def f_M_step_41 (n : Nat) (S : z_S) : Option (Int32 × z_S) := some ((-2147483648 : Int32), S)
def f_M_step_85 (n : Nat) (S : z_S) : Option (Int32 × z_S) := some ((gF (sF (sF S 1 ((gF S 1) + (1 : Int32))) 4 (0 : Int32)) 1) - (1 : Int32), sF (sF S 1 ((gF S 1) + (1 : Int32))) 4 (0 : Int32))
def f_M_step_64 (n : Nat) (x3 : Int32) (x4 : Int32) (S : z_S) : Option (Int32 × z_S) := ck (vi (gF S 1) 8) (ck (vi (gF (sI S 6 (upd (gI S 6) ((gF S 1).toNatClampNeg) x3)) 1) 8) (f_M_step_85 n (sI (sI S 6 (upd (gI S 6) ((gF S 1).toNatClampNeg) x3)) 7 (upd (gI (sI S 6 (upd (gI S 6) ((gF S 1).toNatClampNeg) x3)) 7) ((gF (sI S 6 (upd (gI S 6) ((gF S 1).toNatClampNeg) x3)) 1).toNatClampNeg) x4))))
def f_M_step (n : Nat) (x1 : Int32) (x2 : Int32) (x3 : Int32) (x4 : Int32) (S : z_S) : Option (Int32 × z_S) := bo (f_M_within n x2 (0 : Int32) (3 : Int32) S) (fun v3 S3 => (if v3 = 0 then f_M_step_41 n S3 else bo (f_M_within n x3 (0 : Int32) (1000 : Int32) S3) (fun v14 S14 => (if v14 = 0 then f_M_step_41 n S14 else bo (f_M_within n x4 (1 : Int32) (1000 : Int32) S14) (fun v26 S26 => (if v26 = 0 then f_M_step_41 n S26 else (if (gF S26 1) = (8 : Int32) then f_M_step_41 n S26 else ck (vi (gF S26 1) 8) (ck (vi (gF (sI S26 4 (upd (gI S26 4) ((gF S26 1).toNatClampNeg) (vp_nar .boolean x1))) 1) 8) (f_M_step_64 n x3 x4 (sI (sI S26 4 (upd (gI S26 4) ((gF S26 1).toNatClampNeg) (vp_nar .boolean x1))) 5 (upd (gI (sI S26 4 (upd (gI S26 4) ((gF S26 1).toNatClampNeg) (vp_nar .boolean x1))) 5) ((gF (sI S26 4 (upd (gI S26 4) ((gF S26 1).toNatClampNeg) (vp_nar .boolean x1))) 1).toNatClampNeg) x2)))))))))))
set_option maxRecDepth 20000 in
theorem w_M_step_41 {X : z_X} {A : Nat → Prop} {Ω : z_O} (hC : z_C X b_M_step 5 "NodalAuctionModel" Ω) (hA : z_hA X A) (hR : z_R X (some .int)) (hM : z_rmOf X = z_rm 1 22) (n : Nat) (r : Int32 × z_S) (S : z_S) (h : f_M_step_41 n S = some r) : z_At X A (z_QI X Ω A r.1 (wM Ω r.2)) Ω 0 0 5 41 [(0, .ref (Ω.2.2 100))] [] (wM Ω S) := by
  refine z_ldc (v := (-2147483648 : Int32)) k_540 hC d_M_step_41 (q := 43) rfl ?_
  cases h
  exact z_iret hC hR rfl rfl d_M_step_43
set_option maxRecDepth 20000 in
theorem w_M_step_85 {X : z_X} {A : Nat → Prop} {Ω : z_O} (hC : z_C X b_M_step 5 "NodalAuctionModel" Ω) (hA : z_hA X A) (hR : z_R X (some .int)) (hM : z_rmOf X = z_rm 1 22) (n : Nat) (r : Int32 × z_S) (S : z_S) (h : f_M_step_85 n S = some r) : z_At X A (z_QI X Ω A r.1 (wM Ω r.2)) Ω 0 0 5 85 [(0, .ref (Ω.2.2 100))] [] (wM Ω S) := by
  refine z_aload_n rfl 0 rfl hC d_M_step_85 (q := 86) rfl ?_
  refine z_dup rfl hC d_M_step_86 (q := 87) rfl ?_
  refine gf_M_94_0 hC d_M_step_87 (q := 90) rfl ?_
  refine z_iconst (v := (1 : Int32)) (by decide) hC d_M_step_90 (q := 91) rfl ?_
  refine z_iadd hC d_M_step_91 (q := 92) rfl ?_
  refine pf_M_94_0 hC d_M_step_92 (q := 95) rfl ?_
  refine z_aload_n rfl 0 rfl hC d_M_step_95 (q := 96) rfl ?_
  refine z_iconst (v := (0 : Int32)) (by decide) hC d_M_step_96 (q := 97) rfl ?_
  refine pf_M_90_0 (by decide) hC d_M_step_97 (q := 100) rfl ?_
  refine z_aload_n rfl 0 rfl hC d_M_step_100 (q := 101) rfl ?_
  refine gf_M_94_0 hC d_M_step_101 (q := 104) rfl ?_
  refine z_iconst (v := (1 : Int32)) (by decide) hC d_M_step_104 (q := 105) rfl ?_
  refine z_isub hC d_M_step_105 (q := 106) rfl ?_
  cases h
  exact z_iret hC hR rfl rfl d_M_step_106
set_option maxRecDepth 20000 in
theorem w_M_step_64 {X : z_X} {A : Nat → Prop} {Ω : z_O} (hC : z_C X b_M_step 5 "NodalAuctionModel" Ω) (hA : z_hA X A) (hR : z_R X (some .int)) (hM : z_rmOf X = z_rm 1 22) (n : Nat) (r : Int32 × z_S) (x3 : Int32) (x4 : Int32) (S : z_S) (h : f_M_step_64 n x3 x4 S = some r) : z_At X A (z_QI X Ω A r.1 (wM Ω r.2)) Ω 0 0 5 64 [(0, .ref (Ω.2.2 100)), (3, .int x3), (4, .int x4)] [] (wM Ω S) := by
  refine z_aload_n rfl 0 rfl hC d_M_step_64 (q := 65) rfl ?_
  refine gf_M_29_0 hC d_M_step_65 (q := 68) rfl ?_
  refine z_aload_n rfl 0 rfl hC d_M_step_68 (q := 69) rfl ?_
  refine gf_M_94_0 hC d_M_step_69 (q := 72) rfl ?_
  refine z_iload_n rfl 1 rfl hC d_M_step_72 (q := 73) rfl ?_
  obtain ⟨hv1, h⟩ := ck_some h
  refine as_wM_7 hC hv1 d_M_step_73 (q := 74) rfl ?_
  refine z_aload_n rfl 0 rfl hC d_M_step_74 (q := 75) rfl ?_
  refine gf_M_32_0 hC d_M_step_75 (q := 78) rfl ?_
  refine z_aload_n rfl 0 rfl hC d_M_step_78 (q := 79) rfl ?_
  refine gf_M_94_0 hC d_M_step_79 (q := 82) rfl ?_
  refine z_iload 2 rfl hC d_M_step_82 (q := 84) rfl ?_
  obtain ⟨hv2, h⟩ := ck_some h
  refine as_wM_8 hC hv2 d_M_step_84 (q := 85) rfl ?_
  refine z_sub [0] rfl ?_
  exact w_M_step_85 hC hA hR hM n r (sI (sI S 6 (upd (gI S 6) ((gF S 1).toNatClampNeg) x3)) 7 (upd (gI (sI S 6 (upd (gI S 6) ((gF S 1).toNatClampNeg) x3)) 7) ((gF (sI S 6 (upd (gI S 6) ((gF S 1).toNatClampNeg) x3)) 1).toNatClampNeg) x4)) h
set_option maxRecDepth 20000 in
theorem w_M_step {X : z_X} {A : Nat → Prop} {Ω : z_O} (hC : z_C X b_M_step 5 "NodalAuctionModel" Ω) (hA : z_hA X A) (hR : z_R X (some .int)) (hM : z_rmOf X = z_rm 1 22) (n : Nat) (r : Int32 × z_S) (x1 : Int32) (x2 : Int32) (x3 : Int32) (x4 : Int32) (S : z_S) (h : f_M_step n x1 x2 x3 x4 S = some r) : z_At X A (z_QI X Ω A r.1 (wM Ω r.2)) Ω 0 0 5 0 [(0, .ref (Ω.2.2 100)), (1, .int x1), (2, .int x2), (3, .int x3), (4, .int x4)] [] (wM Ω S) := by
  refine z_iload_n rfl 2 rfl hC d_M_step_0 (q := 1) rfl ?_
  refine z_iconst (v := (0 : Int32)) (by decide) hC d_M_step_1 (q := 2) rfl ?_
  refine z_iconst (v := (3 : Int32)) (by decide) hC d_M_step_2 (q := 3) rfl ?_
  obtain ⟨v3, S3, hc3, h⟩ := bo_some h
  refine z_callSi (As := [.int x2, .int (0 : Int32), .int (3 : Int32)]) hC hA (c_M_within (z_lOf X) Ω n x2 (0 : Int32) (3 : Int32) S (v3, S3) hc3) k_539 k_537 k_538 k_6 h_M_within (by rw [hM]; exact ⟨Nat.le_of_ble_eq_true rfl, Nat.le_of_ble_eq_true rfl⟩) ⟨Nat.zero_le _, Nat.zero_le _⟩ rfl (Nat.le_of_ble_eq_true rfl) rfl d_M_step_3 (q := 6) rfl ?_
  refine z_if_eq (tgt := 41) (q := 9) hC d_M_step_6 rfl rfl (fun hb => ?_) (fun hb => ?_)
  · have h := (if_pos hb).symm.trans h
    refine z_sub [0] rfl ?_
    exact w_M_step_41 hC hA hR hM n r S3 h
  · have h := (if_neg hb).symm.trans h
    refine z_iload_n rfl 3 rfl hC d_M_step_9 (q := 10) rfl ?_
    refine z_iconst (v := (0 : Int32)) (by decide) hC d_M_step_10 (q := 11) rfl ?_
    refine z_sipush (v := (1000 : Int32)) (by decide) hC d_M_step_11 (q := 14) rfl ?_
    obtain ⟨v14, S14, hc14, h⟩ := bo_some h
    refine z_callSi (As := [.int x3, .int (0 : Int32), .int (1000 : Int32)]) hC hA (c_M_within (z_lOf X) Ω n x3 (0 : Int32) (1000 : Int32) S3 (v14, S14) hc14) k_539 k_537 k_538 k_6 h_M_within (by rw [hM]; exact ⟨Nat.le_of_ble_eq_true rfl, Nat.le_of_ble_eq_true rfl⟩) ⟨Nat.zero_le _, Nat.zero_le _⟩ rfl (Nat.le_of_ble_eq_true rfl) rfl d_M_step_14 (q := 17) rfl ?_
    refine z_if_eq (tgt := 41) (q := 20) hC d_M_step_17 rfl rfl (fun hb => ?_) (fun hb => ?_)
    · have h := (if_pos hb).symm.trans h
      refine z_sub [0] rfl ?_
      exact w_M_step_41 hC hA hR hM n r S14 h
    · have h := (if_neg hb).symm.trans h
      refine z_iload 4 rfl hC d_M_step_20 (q := 22) rfl ?_
      refine z_iconst (v := (1 : Int32)) (by decide) hC d_M_step_22 (q := 23) rfl ?_
      refine z_sipush (v := (1000 : Int32)) (by decide) hC d_M_step_23 (q := 26) rfl ?_
      obtain ⟨v26, S26, hc26, h⟩ := bo_some h
      refine z_callSi (As := [.int x4, .int (1 : Int32), .int (1000 : Int32)]) hC hA (c_M_within (z_lOf X) Ω n x4 (1 : Int32) (1000 : Int32) S14 (v26, S26) hc26) k_539 k_537 k_538 k_6 h_M_within (by rw [hM]; exact ⟨Nat.le_of_ble_eq_true rfl, Nat.le_of_ble_eq_true rfl⟩) ⟨Nat.zero_le _, Nat.zero_le _⟩ rfl (Nat.le_of_ble_eq_true rfl) rfl d_M_step_26 (q := 29) rfl ?_
      refine z_if_eq (tgt := 41) (q := 32) hC d_M_step_29 rfl rfl (fun hb => ?_) (fun hb => ?_)
      · have h := (if_pos hb).symm.trans h
        refine z_sub [0] rfl ?_
        exact w_M_step_41 hC hA hR hM n r S26 h
      · have h := (if_neg hb).symm.trans h
        refine z_aload_n rfl 0 rfl hC d_M_step_32 (q := 33) rfl ?_
        refine gf_M_94_0 hC d_M_step_33 (q := 36) rfl ?_
        refine z_bipush (v := (8 : Int32)) (by decide) hC d_M_step_36 (q := 38) rfl ?_
        refine z_icmp_ne (tgt := 44) (q := 41) hC d_M_step_38 rfl rfl (fun hb => ?_) (fun hb => ?_)
        · have h := (if_neg hb).symm.trans h
          refine z_aload_n rfl 0 rfl hC d_M_step_44 (q := 45) rfl ?_
          refine gf_M_22_0 hC d_M_step_45 (q := 48) rfl ?_
          refine z_aload_n rfl 0 rfl hC d_M_step_48 (q := 49) rfl ?_
          refine gf_M_94_0 hC d_M_step_49 (q := 52) rfl ?_
          refine z_iload_n rfl 1 rfl hC d_M_step_52 (q := 53) rfl ?_
          obtain ⟨hv1, h⟩ := ck_some h
          refine as_wM_5 hC hv1 d_M_step_53 (q := 54) rfl ?_
          refine z_aload_n rfl 0 rfl hC d_M_step_54 (q := 55) rfl ?_
          refine gf_M_26_0 hC d_M_step_55 (q := 58) rfl ?_
          refine z_aload_n rfl 0 rfl hC d_M_step_58 (q := 59) rfl ?_
          refine gf_M_94_0 hC d_M_step_59 (q := 62) rfl ?_
          refine z_iload_n rfl 2 rfl hC d_M_step_62 (q := 63) rfl ?_
          obtain ⟨hv2, h⟩ := ck_some h
          refine as_wM_6 hC hv2 d_M_step_63 (q := 64) rfl ?_
          refine z_sub [0, 3, 4] rfl ?_
          exact w_M_step_64 hC hA hR hM n r x3 x4 (sI (sI S26 4 (upd (gI S26 4) ((gF S26 1).toNatClampNeg) (vp_nar .boolean x1))) 5 (upd (gI (sI S26 4 (upd (gI S26 4) ((gF S26 1).toNatClampNeg) (vp_nar .boolean x1))) 5) ((gF (sI S26 4 (upd (gI S26 4) ((gF S26 1).toNatClampNeg) (vp_nar .boolean x1))) 1).toNatClampNeg) x2)) h
        · have h := (if_pos hb).symm.trans h
          refine z_sub [0] rfl ?_
          exact w_M_step_41 hC hA hR hM n r S26 h
theorem c_M_step (l : Launch) (Ω : z_O) (n : Nat) (x1 : Int32) (x2 : Int32) (x3 : Int32) (x4 : Int32) (S : z_S) (r : Int32 × z_S) (h : f_M_step n x1 x2 x3 x4 S = some r) : z_MI l Ω y_M_step b_M_step 5 .int 1 22 [.ref (Ω.2.2 100), .int x1, .int x2, .int x3, .int x4] (wM Ω S) r.1 (wM Ω r.2) := z_introI (by decide +kernel) (Nat.le_of_ble_eq_true rfl) rfl (fun X A hC hA hR _ hM => w_M_step hC hA hR hM n r x1 x2 x3 x4 S h)
def f_M_bid (n : Nat) (x1 : Int32) (x2 : Int32) (x3 : Int32) (S : z_S) : Option (Int32 × z_S) := bo (f_M_step n (1 : Int32) x1 x2 x3 S) (fun v5 S5 => some (v5, S5))
set_option maxRecDepth 20000 in
theorem w_M_bid {X : z_X} {A : Nat → Prop} {Ω : z_O} (hC : z_C X b_M_bid 4 "NodalAuctionModel" Ω) (hA : z_hA X A) (hR : z_R X (some .int)) (hM : z_rmOf X = z_rm 2 46) (n : Nat) (r : Int32 × z_S) (x1 : Int32) (x2 : Int32) (x3 : Int32) (S : z_S) (h : f_M_bid n x1 x2 x3 S = some r) : z_At X A (z_QI X Ω A r.1 (wM Ω r.2)) Ω 0 0 4 0 [(0, .ref (Ω.2.2 100)), (1, .int x1), (2, .int x2), (3, .int x3)] [] (wM Ω S) := by
  refine z_aload_n rfl 0 rfl hC d_M_bid_0 (q := 1) rfl ?_
  refine z_iconst (v := (1 : Int32)) (by decide) hC d_M_bid_1 (q := 2) rfl ?_
  refine z_iload_n rfl 1 rfl hC d_M_bid_2 (q := 3) rfl ?_
  refine z_iload_n rfl 2 rfl hC d_M_bid_3 (q := 4) rfl ?_
  refine z_iload_n rfl 3 rfl hC d_M_bid_4 (q := 5) rfl ?_
  obtain ⟨v5, S5, hc5, h⟩ := bo_some h
  refine z_callVi (q0 := 0) (As := [.int (1 : Int32), .int x1, .int x2, .int x3]) hC hA (c_M_step (z_lOf X) Ω n (1 : Int32) x1 x2 x3 S (v5, S5) hc5) k_556 k_553 k_555 ks_37 k_6 h_M_step (by rw [hM]; exact ⟨Nat.le_of_ble_eq_true rfl, Nat.le_of_ble_eq_true rfl⟩) ⟨Nat.zero_le _, Nat.zero_le _⟩ rfl rfl rfl (Nat.le_of_ble_eq_true rfl) rfl d_M_bid_5 (q := 8) rfl ?_
  cases h
  exact z_iret hC hR rfl rfl d_M_bid_8
theorem c_M_bid (l : Launch) (Ω : z_O) (n : Nat) (x1 : Int32) (x2 : Int32) (x3 : Int32) (S : z_S) (r : Int32 × z_S) (h : f_M_bid n x1 x2 x3 S = some r) : z_MI l Ω y_M_bid b_M_bid 4 .int 2 46 [.ref (Ω.2.2 100), .int x1, .int x2, .int x3] (wM Ω S) r.1 (wM Ω r.2) := z_introI (by decide +kernel) (Nat.le_of_ble_eq_true rfl) rfl (fun X A hC hA hR _ hM => w_M_bid hC hA hR hM n r x1 x2 x3 S h)
def f_M_offer (n : Nat) (x1 : Int32) (x2 : Int32) (x3 : Int32) (S : z_S) : Option (Int32 × z_S) := bo (f_M_step n (0 : Int32) x1 x2 x3 S) (fun v5 S5 => some (v5, S5))
set_option maxRecDepth 20000 in
theorem w_M_offer {X : z_X} {A : Nat → Prop} {Ω : z_O} (hC : z_C X b_M_offer 4 "NodalAuctionModel" Ω) (hA : z_hA X A) (hR : z_R X (some .int)) (hM : z_rmOf X = z_rm 2 46) (n : Nat) (r : Int32 × z_S) (x1 : Int32) (x2 : Int32) (x3 : Int32) (S : z_S) (h : f_M_offer n x1 x2 x3 S = some r) : z_At X A (z_QI X Ω A r.1 (wM Ω r.2)) Ω 0 0 4 0 [(0, .ref (Ω.2.2 100)), (1, .int x1), (2, .int x2), (3, .int x3)] [] (wM Ω S) := by
  refine z_aload_n rfl 0 rfl hC d_M_offer_0 (q := 1) rfl ?_
  refine z_iconst (v := (0 : Int32)) (by decide) hC d_M_offer_1 (q := 2) rfl ?_
  refine z_iload_n rfl 1 rfl hC d_M_offer_2 (q := 3) rfl ?_
  refine z_iload_n rfl 2 rfl hC d_M_offer_3 (q := 4) rfl ?_
  refine z_iload_n rfl 3 rfl hC d_M_offer_4 (q := 5) rfl ?_
  obtain ⟨v5, S5, hc5, h⟩ := bo_some h
  refine z_callVi (q0 := 0) (As := [.int (0 : Int32), .int x1, .int x2, .int x3]) hC hA (c_M_step (z_lOf X) Ω n (0 : Int32) x1 x2 x3 S (v5, S5) hc5) k_556 k_553 k_555 ks_37 k_6 h_M_step (by rw [hM]; exact ⟨Nat.le_of_ble_eq_true rfl, Nat.le_of_ble_eq_true rfl⟩) ⟨Nat.zero_le _, Nat.zero_le _⟩ rfl rfl rfl (Nat.le_of_ble_eq_true rfl) rfl d_M_offer_5 (q := 8) rfl ?_
  cases h
  exact z_iret hC hR rfl rfl d_M_offer_8
theorem c_M_offer (l : Launch) (Ω : z_O) (n : Nat) (x1 : Int32) (x2 : Int32) (x3 : Int32) (S : z_S) (r : Int32 × z_S) (h : f_M_offer n x1 x2 x3 S = some r) : z_MI l Ω y_M_offer b_M_offer 4 .int 2 46 [.ref (Ω.2.2 100), .int x1, .int x2, .int x3] (wM Ω S) r.1 (wM Ω r.2) := z_introI (by decide +kernel) (Nat.le_of_ble_eq_true rfl) rfl (fun X A hC hA hR _ hM => w_M_offer hC hA hR hM n r x1 x2 x3 S h)
def f_M_cancel_92 (n : Nat) (k28 : Int32 → z_S → Option (Int32 × z_S)) (x2 : Int32) (S : z_S) : Option (Int32 × z_S) := k28 (x2 + (1 : Int32)) S
def f_M_cancel_64 (n : Nat) (k28 : Int32 → z_S → Option (Int32 × z_S)) (x2 : Int32) (S : z_S) : Option (Int32 × z_S) := ck (vi (x2 + (1 : Int32)) 8) (ck (vi x2 8) (ck (vi (x2 + (1 : Int32)) 8) (ck (vi x2 8) (f_M_cancel_92 n k28 x2 (sI (sI S 6 (upd (gI S 6) x2.toNatClampNeg (gI S 6 ((x2 + (1 : Int32)).toNatClampNeg)))) 7 (upd (gI (sI S 6 (upd (gI S 6) x2.toNatClampNeg (gI S 6 ((x2 + (1 : Int32)).toNatClampNeg)))) 7) x2.toNatClampNeg (gI (sI S 6 (upd (gI S 6) x2.toNatClampNeg (gI S 6 ((x2 + (1 : Int32)).toNatClampNeg)))) 7 ((x2 + (1 : Int32)).toNatClampNeg))))))))
def f_M_cancel_28 (n : Nat) : Nat → Int32 → z_S → Option (Int32 × z_S)
  | 0, _, _ => none
  | q + 1, x2, S => (if (gF S 1) ≤ x2 then some ((1 : Int32), sF S 4 (0 : Int32)) else ck (vi (x2 + (1 : Int32)) 8) (ck (vi x2 8) (ck (vi (x2 + (1 : Int32)) 8) (ck (vi x2 8) (f_M_cancel_64 n (f_M_cancel_28 n q) x2 (sI (sI S 4 (upd (gI S 4) x2.toNatClampNeg (vp_nar .boolean (gI S 4 ((x2 + (1 : Int32)).toNatClampNeg))))) 5 (upd (gI (sI S 4 (upd (gI S 4) x2.toNatClampNeg (vp_nar .boolean (gI S 4 ((x2 + (1 : Int32)).toNatClampNeg))))) 5) x2.toNatClampNeg (gI (sI S 4 (upd (gI S 4) x2.toNatClampNeg (vp_nar .boolean (gI S 4 ((x2 + (1 : Int32)).toNatClampNeg))))) 5 ((x2 + (1 : Int32)).toNatClampNeg)))))))))
def f_M_cancel (n : Nat) (x1 : Int32) (S : z_S) : Option (Int32 × z_S) := bo (f_M_within n x1 (0 : Int32) ((gF S 1) - (1 : Int32)) S) (fun v8 S8 => (if v8 = 0 then some ((0 : Int32), S8) else f_M_cancel_28 n n x1 (sF S8 1 ((gF S8 1) - (1 : Int32)))))
set_option maxRecDepth 20000 in
theorem w_M_cancel_92 {X : z_X} {A : Nat → Prop} {Ω : z_O} (hC : z_C X b_M_cancel 3 "NodalAuctionModel" Ω) (hA : z_hA X A) (hR : z_R X (some .boolean)) (hM : z_rmOf X = z_rm 1 22) (n : Nat) (r : Int32 × z_S) (k28 : Int32 → z_S → Option (Int32 × z_S)) (hk28 : ∀ (x2 : Int32) (S : z_S), k28 x2 S = some r → z_At X A (z_QI X Ω A r.1 (wM Ω r.2)) Ω 0 0 3 28 [(0, .ref (Ω.2.2 100)), (2, .int x2)] [] (wM Ω S)) (x2 : Int32) (S : z_S) (h : f_M_cancel_92 n k28 x2 S = some r) : z_At X A (z_QI X Ω A r.1 (wM Ω r.2)) Ω 0 0 3 92 [(0, .ref (Ω.2.2 100)), (2, .int x2)] [] (wM Ω S) := by
  refine z_iinc (lv' := [(2, .int (x2 + (1 : Int32))), (0, .ref (Ω.2.2 100))]) 1 rfl rfl (by decide) rfl hC d_M_cancel_92 (q := 95) rfl ?_
  refine z_goto (tgt := 28) hC d_M_cancel_95 rfl ?_
  refine z_sub [1, 0] rfl ?_
  exact hk28 (x2 + (1 : Int32)) S h
set_option maxRecDepth 20000 in
theorem w_M_cancel_64 {X : z_X} {A : Nat → Prop} {Ω : z_O} (hC : z_C X b_M_cancel 3 "NodalAuctionModel" Ω) (hA : z_hA X A) (hR : z_R X (some .boolean)) (hM : z_rmOf X = z_rm 1 22) (n : Nat) (r : Int32 × z_S) (k28 : Int32 → z_S → Option (Int32 × z_S)) (hk28 : ∀ (x2 : Int32) (S : z_S), k28 x2 S = some r → z_At X A (z_QI X Ω A r.1 (wM Ω r.2)) Ω 0 0 3 28 [(0, .ref (Ω.2.2 100)), (2, .int x2)] [] (wM Ω S)) (x2 : Int32) (S : z_S) (h : f_M_cancel_64 n k28 x2 S = some r) : z_At X A (z_QI X Ω A r.1 (wM Ω r.2)) Ω 0 0 3 64 [(0, .ref (Ω.2.2 100)), (2, .int x2)] [] (wM Ω S) := by
  refine z_aload_n rfl 0 rfl hC d_M_cancel_64 (q := 65) rfl ?_
  refine gf_M_29_0 hC d_M_cancel_65 (q := 68) rfl ?_
  refine z_iload_n rfl 1 rfl hC d_M_cancel_68 (q := 69) rfl ?_
  refine z_aload_n rfl 0 rfl hC d_M_cancel_69 (q := 70) rfl ?_
  refine gf_M_29_0 hC d_M_cancel_70 (q := 73) rfl ?_
  refine z_iload_n rfl 1 rfl hC d_M_cancel_73 (q := 74) rfl ?_
  refine z_iconst (v := (1 : Int32)) (by decide) hC d_M_cancel_74 (q := 75) rfl ?_
  refine z_iadd hC d_M_cancel_75 (q := 76) rfl ?_
  obtain ⟨hv1, h⟩ := ck_some h
  refine al_wM_7 hC hv1 d_M_cancel_76 (q := 77) rfl ?_
  obtain ⟨hv2, h⟩ := ck_some h
  refine as_wM_7 hC hv2 d_M_cancel_77 (q := 78) rfl ?_
  refine z_aload_n rfl 0 rfl hC d_M_cancel_78 (q := 79) rfl ?_
  refine gf_M_32_0 hC d_M_cancel_79 (q := 82) rfl ?_
  refine z_iload_n rfl 1 rfl hC d_M_cancel_82 (q := 83) rfl ?_
  refine z_aload_n rfl 0 rfl hC d_M_cancel_83 (q := 84) rfl ?_
  refine gf_M_32_0 hC d_M_cancel_84 (q := 87) rfl ?_
  refine z_iload_n rfl 1 rfl hC d_M_cancel_87 (q := 88) rfl ?_
  refine z_iconst (v := (1 : Int32)) (by decide) hC d_M_cancel_88 (q := 89) rfl ?_
  refine z_iadd hC d_M_cancel_89 (q := 90) rfl ?_
  obtain ⟨hv3, h⟩ := ck_some h
  refine al_wM_8 hC hv3 d_M_cancel_90 (q := 91) rfl ?_
  obtain ⟨hv4, h⟩ := ck_some h
  refine as_wM_8 hC hv4 d_M_cancel_91 (q := 92) rfl ?_
  exact w_M_cancel_92 hC hA hR hM n r k28 hk28 x2 (sI (sI S 6 (upd (gI S 6) x2.toNatClampNeg (gI S 6 ((x2 + (1 : Int32)).toNatClampNeg)))) 7 (upd (gI (sI S 6 (upd (gI S 6) x2.toNatClampNeg (gI S 6 ((x2 + (1 : Int32)).toNatClampNeg)))) 7) x2.toNatClampNeg (gI (sI S 6 (upd (gI S 6) x2.toNatClampNeg (gI S 6 ((x2 + (1 : Int32)).toNatClampNeg)))) 7 ((x2 + (1 : Int32)).toNatClampNeg)))) h
set_option maxRecDepth 20000 in
theorem w_M_cancel_28 {X : z_X} {A : Nat → Prop} {Ω : z_O} (hC : z_C X b_M_cancel 3 "NodalAuctionModel" Ω) (hA : z_hA X A) (hR : z_R X (some .boolean)) (hM : z_rmOf X = z_rm 1 22) (n : Nat) (r : Int32 × z_S) : ∀ (q : Nat) (x2 : Int32) (S : z_S), f_M_cancel_28 n q x2 S = some r → z_At X A (z_QI X Ω A r.1 (wM Ω r.2)) Ω 0 0 3 28 [(0, .ref (Ω.2.2 100)), (2, .int x2)] [] (wM Ω S) := by
  intro q
  induction q with
  | zero => intro x2 S h; cases h
  | succ q ih =>
    intro x2 S h
    refine z_iload_n rfl 1 rfl hC d_M_cancel_28 (q := 29) rfl ?_
    refine z_aload_n rfl 0 rfl hC d_M_cancel_29 (q := 30) rfl ?_
    refine gf_M_94_0 hC d_M_cancel_30 (q := 33) rfl ?_
    refine z_icmp_ge (tgt := 98) (q := 36) hC d_M_cancel_33 rfl rfl (fun hb => ?_) (fun hb => ?_)
    · have h := (if_pos hb).symm.trans h
      refine z_aload_n rfl 0 rfl hC d_M_cancel_98 (q := 99) rfl ?_
      refine z_iconst (v := (0 : Int32)) (by decide) hC d_M_cancel_99 (q := 100) rfl ?_
      refine pf_M_90_0 (by decide) hC d_M_cancel_100 (q := 103) rfl ?_
      refine z_iconst (v := (1 : Int32)) (by decide) hC d_M_cancel_103 (q := 104) rfl ?_
      cases h
      exact z_zret hC hR (by decide) rfl rfl d_M_cancel_104
    · have h := (if_neg hb).symm.trans h
      refine z_aload_n rfl 0 rfl hC d_M_cancel_36 (q := 37) rfl ?_
      refine gf_M_22_0 hC d_M_cancel_37 (q := 40) rfl ?_
      refine z_iload_n rfl 1 rfl hC d_M_cancel_40 (q := 41) rfl ?_
      refine z_aload_n rfl 0 rfl hC d_M_cancel_41 (q := 42) rfl ?_
      refine gf_M_22_0 hC d_M_cancel_42 (q := 45) rfl ?_
      refine z_iload_n rfl 1 rfl hC d_M_cancel_45 (q := 46) rfl ?_
      refine z_iconst (v := (1 : Int32)) (by decide) hC d_M_cancel_46 (q := 47) rfl ?_
      refine z_iadd hC d_M_cancel_47 (q := 48) rfl ?_
      obtain ⟨hv1, h⟩ := ck_some h
      refine al_wM_5 hC hv1 d_M_cancel_48 (q := 49) rfl ?_
      obtain ⟨hv2, h⟩ := ck_some h
      refine as_wM_5 hC hv2 d_M_cancel_49 (q := 50) rfl ?_
      refine z_aload_n rfl 0 rfl hC d_M_cancel_50 (q := 51) rfl ?_
      refine gf_M_26_0 hC d_M_cancel_51 (q := 54) rfl ?_
      refine z_iload_n rfl 1 rfl hC d_M_cancel_54 (q := 55) rfl ?_
      refine z_aload_n rfl 0 rfl hC d_M_cancel_55 (q := 56) rfl ?_
      refine gf_M_26_0 hC d_M_cancel_56 (q := 59) rfl ?_
      refine z_iload_n rfl 1 rfl hC d_M_cancel_59 (q := 60) rfl ?_
      refine z_iconst (v := (1 : Int32)) (by decide) hC d_M_cancel_60 (q := 61) rfl ?_
      refine z_iadd hC d_M_cancel_61 (q := 62) rfl ?_
      obtain ⟨hv3, h⟩ := ck_some h
      refine al_wM_6 hC hv3 d_M_cancel_62 (q := 63) rfl ?_
      obtain ⟨hv4, h⟩ := ck_some h
      refine as_wM_6 hC hv4 d_M_cancel_63 (q := 64) rfl ?_
      exact w_M_cancel_64 hC hA hR hM n r (f_M_cancel_28 n q) ih x2 (sI (sI S 4 (upd (gI S 4) x2.toNatClampNeg (vp_nar .boolean (gI S 4 ((x2 + (1 : Int32)).toNatClampNeg))))) 5 (upd (gI (sI S 4 (upd (gI S 4) x2.toNatClampNeg (vp_nar .boolean (gI S 4 ((x2 + (1 : Int32)).toNatClampNeg))))) 5) x2.toNatClampNeg (gI (sI S 4 (upd (gI S 4) x2.toNatClampNeg (vp_nar .boolean (gI S 4 ((x2 + (1 : Int32)).toNatClampNeg))))) 5 ((x2 + (1 : Int32)).toNatClampNeg)))) h
set_option maxRecDepth 20000 in
theorem w_M_cancel {X : z_X} {A : Nat → Prop} {Ω : z_O} (hC : z_C X b_M_cancel 3 "NodalAuctionModel" Ω) (hA : z_hA X A) (hR : z_R X (some .boolean)) (hM : z_rmOf X = z_rm 1 22) (n : Nat) (r : Int32 × z_S) (x1 : Int32) (S : z_S) (h : f_M_cancel n x1 S = some r) : z_At X A (z_QI X Ω A r.1 (wM Ω r.2)) Ω 0 0 3 0 [(0, .ref (Ω.2.2 100)), (1, .int x1)] [] (wM Ω S) := by
  refine z_iload_n rfl 1 rfl hC d_M_cancel_0 (q := 1) rfl ?_
  refine z_iconst (v := (0 : Int32)) (by decide) hC d_M_cancel_1 (q := 2) rfl ?_
  refine z_aload_n rfl 0 rfl hC d_M_cancel_2 (q := 3) rfl ?_
  refine gf_M_94_0 hC d_M_cancel_3 (q := 6) rfl ?_
  refine z_iconst (v := (1 : Int32)) (by decide) hC d_M_cancel_6 (q := 7) rfl ?_
  refine z_isub hC d_M_cancel_7 (q := 8) rfl ?_
  obtain ⟨v8, S8, hc8, h⟩ := bo_some h
  refine z_callSi (As := [.int x1, .int (0 : Int32), .int ((gF S 1) - (1 : Int32))]) hC hA (c_M_within (z_lOf X) Ω n x1 (0 : Int32) ((gF S 1) - (1 : Int32)) S (v8, S8) hc8) k_539 k_537 k_538 k_6 h_M_within (by rw [hM]; exact ⟨Nat.le_of_ble_eq_true rfl, Nat.le_of_ble_eq_true rfl⟩) ⟨Nat.zero_le _, Nat.zero_le _⟩ rfl (Nat.le_of_ble_eq_true rfl) rfl d_M_cancel_8 (q := 11) rfl ?_
  refine z_if_ne (tgt := 16) (q := 14) hC d_M_cancel_11 rfl rfl (fun hb => ?_) (fun hb => ?_)
  · have h := (if_neg hb).symm.trans h
    refine z_aload_n rfl 0 rfl hC d_M_cancel_16 (q := 17) rfl ?_
    refine z_dup rfl hC d_M_cancel_17 (q := 18) rfl ?_
    refine gf_M_94_0 hC d_M_cancel_18 (q := 21) rfl ?_
    refine z_iconst (v := (1 : Int32)) (by decide) hC d_M_cancel_21 (q := 22) rfl ?_
    refine z_isub hC d_M_cancel_22 (q := 23) rfl ?_
    refine pf_M_94_0 hC d_M_cancel_23 (q := 26) rfl ?_
    refine z_iload_n rfl 1 rfl hC d_M_cancel_26 (q := 27) rfl ?_
    refine z_istore_n (lv' := [(2, .int x1), (0, .ref (Ω.2.2 100)), (1, .int x1)]) rfl (by decide) rfl hC d_M_cancel_27 (q := 28) rfl ?_
    refine z_sub [1, 0] rfl ?_
    exact w_M_cancel_28 hC hA hR hM n r n x1 (sF S8 1 ((gF S8 1) - (1 : Int32))) h
  · have h := (if_pos hb).symm.trans h
    refine z_iconst (v := (0 : Int32)) (by decide) hC d_M_cancel_14 (q := 15) rfl ?_
    cases h
    exact z_zret hC hR (by decide) rfl rfl d_M_cancel_15
theorem c_M_cancel (l : Launch) (Ω : z_O) (n : Nat) (x1 : Int32) (S : z_S) (r : Int32 × z_S) (h : f_M_cancel n x1 S = some r) : z_MI l Ω y_M_cancel b_M_cancel 3 .boolean 1 22 [.ref (Ω.2.2 100), .int x1] (wM Ω S) r.1 (wM Ω r.2) := z_introI (by decide +kernel) (Nat.le_of_ble_eq_true rfl) rfl (fun X A hC hA hR _ hM => w_M_cancel hC hA hR hM n r x1 S h)
def f_M_connected_53 (n : Nat) (k4 : Int32 → Int32 → z_S → Option (Int32 × z_S)) (k11 : Int32 → Int32 → Int32 → z_S → Option (Int32 × z_S)) (x2 : Int32) (x3 : Int32) (t0 : Int32) (S : z_S) : Option (Int32 × z_S) := k11 t0 x2 (x3 + (1 : Int32)) S
def f_M_connected_38 (n : Nat) (k4 : Int32 → Int32 → z_S → Option (Int32 × z_S)) (k11 : Int32 → Int32 → Int32 → z_S → Option (Int32 × z_S)) (x1 : Int32) (x2 : Int32) (x3 : Int32) (x4 : Int32) (S : z_S) : Option (Int32 × z_S) := (if (x1 &&& x4) = 0 then f_M_connected_53 n k4 k11 x2 x3 x1 S else f_M_connected_53 n k4 k11 x2 x3 (x1 ||| x4) S)
def f_M_connected_11 (n : Nat) (k4 : Int32 → Int32 → z_S → Option (Int32 × z_S)) : Nat → Int32 → Int32 → Int32 → z_S → Option (Int32 × z_S)
  | 0, _, _, _, _ => none
  | q + 1, x1, x2, x3, S => (if (gF S 0) ≤ x3 then k4 x1 (x2 + (1 : Int32)) S else ck (vi x3 6) (ck (vi x3 6) (f_M_connected_38 n k4 (f_M_connected_11 n k4 q) x1 x2 x3 (((1 : Int32) <<< ((gI S 0 x3.toNatClampNeg) &&& 31)) ||| ((1 : Int32) <<< ((gI S 1 x3.toNatClampNeg) &&& 31))) S)))
def f_M_connected_77 (n : Nat) (t0 : Int32) (S : z_S) : Option (Int32 × z_S) := ck (vz t0) (some (t0, S))
def f_M_connected_4 (n : Nat) : Nat → Int32 → Int32 → z_S → Option (Int32 × z_S)
  | 0, _, _, _ => none
  | q + 1, x1, x2, S => (if (3 : Int32) ≤ x2 then (if x1 = (15 : Int32) then f_M_connected_77 n (1 : Int32) S else f_M_connected_77 n (0 : Int32) S) else f_M_connected_11 n (f_M_connected_4 n q) n x1 x2 (0 : Int32) S)
def f_M_connected (n : Nat) (S : z_S) : Option (Int32 × z_S) := f_M_connected_4 n n (1 : Int32) (0 : Int32) S
set_option maxRecDepth 20000 in
theorem w_M_connected_53 {X : z_X} {A : Nat → Prop} {Ω : z_O} (hC : z_C X b_M_connected 5 "NodalAuctionModel" Ω) (hA : z_hA X A) (hR : z_R X (some .boolean)) (hM : z_rmOf X = z_rm 0 0) (n : Nat) (r : Int32 × z_S) (k4 : Int32 → Int32 → z_S → Option (Int32 × z_S)) (k11 : Int32 → Int32 → Int32 → z_S → Option (Int32 × z_S)) (hk4 : ∀ (x1 : Int32) (x2 : Int32) (S : z_S), k4 x1 x2 S = some r → z_At X A (z_QI X Ω A r.1 (wM Ω r.2)) Ω 0 0 5 4 [(0, .ref (Ω.2.2 100)), (1, .int x1), (2, .int x2)] [] (wM Ω S)) (hk11 : ∀ (x1 : Int32) (x2 : Int32) (x3 : Int32) (S : z_S), k11 x1 x2 x3 S = some r → z_At X A (z_QI X Ω A r.1 (wM Ω r.2)) Ω 0 0 5 11 [(0, .ref (Ω.2.2 100)), (1, .int x1), (2, .int x2), (3, .int x3)] [] (wM Ω S)) (x2 : Int32) (x3 : Int32) (t0 : Int32) (S : z_S) (h : f_M_connected_53 n k4 k11 x2 x3 t0 S = some r) : z_At X A (z_QI X Ω A r.1 (wM Ω r.2)) Ω 0 0 5 53 [(0, .ref (Ω.2.2 100)), (2, .int x2), (3, .int x3)] [.int t0] (wM Ω S) := by
  refine z_istore_n (lv' := [(1, .int t0), (0, .ref (Ω.2.2 100)), (2, .int x2), (3, .int x3)]) rfl (by decide) rfl hC d_M_connected_53 (q := 54) rfl ?_
  refine z_iinc (lv' := [(3, .int (x3 + (1 : Int32))), (1, .int t0), (0, .ref (Ω.2.2 100)), (2, .int x2)]) 3 rfl rfl (by decide) rfl hC d_M_connected_54 (q := 57) rfl ?_
  refine z_goto (tgt := 11) hC d_M_connected_57 rfl ?_
  refine z_sub [2, 1, 3, 0] rfl ?_
  exact hk11 t0 x2 (x3 + (1 : Int32)) S h
set_option maxRecDepth 20000 in
theorem w_M_connected_38 {X : z_X} {A : Nat → Prop} {Ω : z_O} (hC : z_C X b_M_connected 5 "NodalAuctionModel" Ω) (hA : z_hA X A) (hR : z_R X (some .boolean)) (hM : z_rmOf X = z_rm 0 0) (n : Nat) (r : Int32 × z_S) (k4 : Int32 → Int32 → z_S → Option (Int32 × z_S)) (k11 : Int32 → Int32 → Int32 → z_S → Option (Int32 × z_S)) (hk4 : ∀ (x1 : Int32) (x2 : Int32) (S : z_S), k4 x1 x2 S = some r → z_At X A (z_QI X Ω A r.1 (wM Ω r.2)) Ω 0 0 5 4 [(0, .ref (Ω.2.2 100)), (1, .int x1), (2, .int x2)] [] (wM Ω S)) (hk11 : ∀ (x1 : Int32) (x2 : Int32) (x3 : Int32) (S : z_S), k11 x1 x2 x3 S = some r → z_At X A (z_QI X Ω A r.1 (wM Ω r.2)) Ω 0 0 5 11 [(0, .ref (Ω.2.2 100)), (1, .int x1), (2, .int x2), (3, .int x3)] [] (wM Ω S)) (x1 : Int32) (x2 : Int32) (x3 : Int32) (x4 : Int32) (S : z_S) (h : f_M_connected_38 n k4 k11 x1 x2 x3 x4 S = some r) : z_At X A (z_QI X Ω A r.1 (wM Ω r.2)) Ω 0 0 5 38 [(0, .ref (Ω.2.2 100)), (1, .int x1), (2, .int x2), (3, .int x3), (4, .int x4)] [] (wM Ω S) := by
  refine z_iload_n rfl 1 rfl hC d_M_connected_38 (q := 39) rfl ?_
  refine z_iload 4 rfl hC d_M_connected_39 (q := 41) rfl ?_
  refine z_iand hC d_M_connected_41 (q := 42) rfl ?_
  refine z_if_eq (tgt := 52) (q := 45) hC d_M_connected_42 rfl rfl (fun hb => ?_) (fun hb => ?_)
  · have h := (if_pos hb).symm.trans h
    refine z_iload_n rfl 1 rfl hC d_M_connected_52 (q := 53) rfl ?_
    refine z_sub [0, 2, 3] rfl ?_
    exact w_M_connected_53 hC hA hR hM n r k4 k11 hk4 hk11 x2 x3 x1 S h
  · have h := (if_neg hb).symm.trans h
    refine z_iload_n rfl 1 rfl hC d_M_connected_45 (q := 46) rfl ?_
    refine z_iload 4 rfl hC d_M_connected_46 (q := 48) rfl ?_
    refine z_ior hC d_M_connected_48 (q := 49) rfl ?_
    refine z_goto (tgt := 53) hC d_M_connected_49 rfl ?_
    refine z_sub [0, 2, 3] rfl ?_
    exact w_M_connected_53 hC hA hR hM n r k4 k11 hk4 hk11 x2 x3 (x1 ||| x4) S h
set_option maxRecDepth 20000 in
theorem w_M_connected_11 {X : z_X} {A : Nat → Prop} {Ω : z_O} (hC : z_C X b_M_connected 5 "NodalAuctionModel" Ω) (hA : z_hA X A) (hR : z_R X (some .boolean)) (hM : z_rmOf X = z_rm 0 0) (n : Nat) (r : Int32 × z_S) (k4 : Int32 → Int32 → z_S → Option (Int32 × z_S)) (hk4 : ∀ (x1 : Int32) (x2 : Int32) (S : z_S), k4 x1 x2 S = some r → z_At X A (z_QI X Ω A r.1 (wM Ω r.2)) Ω 0 0 5 4 [(0, .ref (Ω.2.2 100)), (1, .int x1), (2, .int x2)] [] (wM Ω S)) : ∀ (q : Nat) (x1 : Int32) (x2 : Int32) (x3 : Int32) (S : z_S), f_M_connected_11 n k4 q x1 x2 x3 S = some r → z_At X A (z_QI X Ω A r.1 (wM Ω r.2)) Ω 0 0 5 11 [(0, .ref (Ω.2.2 100)), (1, .int x1), (2, .int x2), (3, .int x3)] [] (wM Ω S) := by
  intro q
  induction q with
  | zero => intro x1 x2 x3 S h; cases h
  | succ q ih =>
    intro x1 x2 x3 S h
    refine z_iload_n rfl 3 rfl hC d_M_connected_11 (q := 12) rfl ?_
    refine z_aload_n rfl 0 rfl hC d_M_connected_12 (q := 13) rfl ?_
    refine gf_M_86_0 hC d_M_connected_13 (q := 16) rfl ?_
    refine z_icmp_ge (tgt := 60) (q := 19) hC d_M_connected_16 rfl rfl (fun hb => ?_) (fun hb => ?_)
    · have h := (if_pos hb).symm.trans h
      refine z_iinc (lv' := [(2, .int (x2 + (1 : Int32))), (0, .ref (Ω.2.2 100)), (1, .int x1), (3, .int x3)]) 2 rfl rfl (by decide) rfl hC d_M_connected_60 (q := 63) rfl ?_
      refine z_goto (tgt := 4) hC d_M_connected_63 rfl ?_
      refine z_sub [1, 2, 0] rfl ?_
      exact hk4 x1 (x2 + (1 : Int32)) S h
    · have h := (if_neg hb).symm.trans h
      refine z_iconst (v := (1 : Int32)) (by decide) hC d_M_connected_19 (q := 20) rfl ?_
      refine z_aload_n rfl 0 rfl hC d_M_connected_20 (q := 21) rfl ?_
      refine gf_M_7_0 hC d_M_connected_21 (q := 24) rfl ?_
      refine z_iload_n rfl 3 rfl hC d_M_connected_24 (q := 25) rfl ?_
      obtain ⟨hv1, h⟩ := ck_some h
      refine al_wM_1 hC hv1 d_M_connected_25 (q := 26) rfl ?_
      refine z_ishl hC d_M_connected_26 (q := 27) rfl ?_
      refine z_iconst (v := (1 : Int32)) (by decide) hC d_M_connected_27 (q := 28) rfl ?_
      refine z_aload_n rfl 0 rfl hC d_M_connected_28 (q := 29) rfl ?_
      refine gf_M_13_0 hC d_M_connected_29 (q := 32) rfl ?_
      refine z_iload_n rfl 3 rfl hC d_M_connected_32 (q := 33) rfl ?_
      obtain ⟨hv2, h⟩ := ck_some h
      refine al_wM_2 hC hv2 d_M_connected_33 (q := 34) rfl ?_
      refine z_ishl hC d_M_connected_34 (q := 35) rfl ?_
      refine z_ior hC d_M_connected_35 (q := 36) rfl ?_
      refine z_istore (lv' := [(4, .int (((1 : Int32) <<< ((gI S 0 x3.toNatClampNeg) &&& 31)) ||| ((1 : Int32) <<< ((gI S 1 x3.toNatClampNeg) &&& 31)))), (0, .ref (Ω.2.2 100)), (1, .int x1), (2, .int x2), (3, .int x3)]) (by decide) rfl hC d_M_connected_36 (q := 38) rfl ?_
      refine z_sub [1, 2, 3, 4, 0] rfl ?_
      exact w_M_connected_38 hC hA hR hM n r k4 (f_M_connected_11 n k4 q) hk4 ih x1 x2 x3 (((1 : Int32) <<< ((gI S 0 x3.toNatClampNeg) &&& 31)) ||| ((1 : Int32) <<< ((gI S 1 x3.toNatClampNeg) &&& 31))) S h
set_option maxRecDepth 20000 in
theorem w_M_connected_77 {X : z_X} {A : Nat → Prop} {Ω : z_O} (hC : z_C X b_M_connected 5 "NodalAuctionModel" Ω) (hA : z_hA X A) (hR : z_R X (some .boolean)) (hM : z_rmOf X = z_rm 0 0) (n : Nat) (r : Int32 × z_S) (t0 : Int32) (S : z_S) (h : f_M_connected_77 n t0 S = some r) : z_At X A (z_QI X Ω A r.1 (wM Ω r.2)) Ω 0 0 5 77 [(0, .ref (Ω.2.2 100))] [.int t0] (wM Ω S) := by
  obtain ⟨hv1, h⟩ := ck_some h
  cases h
  exact z_zret hC hR hv1 rfl rfl d_M_connected_77
set_option maxRecDepth 20000 in
theorem w_M_connected_4 {X : z_X} {A : Nat → Prop} {Ω : z_O} (hC : z_C X b_M_connected 5 "NodalAuctionModel" Ω) (hA : z_hA X A) (hR : z_R X (some .boolean)) (hM : z_rmOf X = z_rm 0 0) (n : Nat) (r : Int32 × z_S) : ∀ (q : Nat) (x1 : Int32) (x2 : Int32) (S : z_S), f_M_connected_4 n q x1 x2 S = some r → z_At X A (z_QI X Ω A r.1 (wM Ω r.2)) Ω 0 0 5 4 [(0, .ref (Ω.2.2 100)), (1, .int x1), (2, .int x2)] [] (wM Ω S) := by
  intro q
  induction q with
  | zero => intro x1 x2 S h; cases h
  | succ q ih =>
    intro x1 x2 S h
    refine z_iload_n rfl 2 rfl hC d_M_connected_4 (q := 5) rfl ?_
    refine z_iconst (v := (3 : Int32)) (by decide) hC d_M_connected_5 (q := 6) rfl ?_
    refine z_icmp_ge (tgt := 66) (q := 9) hC d_M_connected_6 rfl rfl (fun hb => ?_) (fun hb => ?_)
    · have h := (if_pos hb).symm.trans h
      refine z_iload_n rfl 1 rfl hC d_M_connected_66 (q := 67) rfl ?_
      refine z_bipush (v := (15 : Int32)) (by decide) hC d_M_connected_67 (q := 69) rfl ?_
      refine z_icmp_ne (tgt := 76) (q := 72) hC d_M_connected_69 rfl rfl (fun hb => ?_) (fun hb => ?_)
      · have h := (if_neg hb).symm.trans h
        refine z_iconst (v := (0 : Int32)) (by decide) hC d_M_connected_76 (q := 77) rfl ?_
        refine z_sub [0] rfl ?_
        exact w_M_connected_77 hC hA hR hM n r (0 : Int32) S h
      · have h := (if_pos hb).symm.trans h
        refine z_iconst (v := (1 : Int32)) (by decide) hC d_M_connected_72 (q := 73) rfl ?_
        refine z_goto (tgt := 77) hC d_M_connected_73 rfl ?_
        refine z_sub [0] rfl ?_
        exact w_M_connected_77 hC hA hR hM n r (1 : Int32) S h
    · have h := (if_neg hb).symm.trans h
      refine z_iconst (v := (0 : Int32)) (by decide) hC d_M_connected_9 (q := 10) rfl ?_
      refine z_istore_n (lv' := [(3, .int (0 : Int32)), (0, .ref (Ω.2.2 100)), (1, .int x1), (2, .int x2)]) rfl (by decide) rfl hC d_M_connected_10 (q := 11) rfl ?_
      refine z_sub [1, 2, 3, 0] rfl ?_
      exact w_M_connected_11 hC hA hR hM n r (f_M_connected_4 n q) ih n x1 x2 (0 : Int32) S h
set_option maxRecDepth 20000 in
theorem w_M_connected {X : z_X} {A : Nat → Prop} {Ω : z_O} (hC : z_C X b_M_connected 5 "NodalAuctionModel" Ω) (hA : z_hA X A) (hR : z_R X (some .boolean)) (hM : z_rmOf X = z_rm 0 0) (n : Nat) (r : Int32 × z_S) (S : z_S) (h : f_M_connected n S = some r) : z_At X A (z_QI X Ω A r.1 (wM Ω r.2)) Ω 0 0 5 0 [(0, .ref (Ω.2.2 100))] [] (wM Ω S) := by
  refine z_iconst (v := (1 : Int32)) (by decide) hC d_M_connected_0 (q := 1) rfl ?_
  refine z_istore_n (lv' := [(1, .int (1 : Int32)), (0, .ref (Ω.2.2 100))]) rfl (by decide) rfl hC d_M_connected_1 (q := 2) rfl ?_
  refine z_iconst (v := (0 : Int32)) (by decide) hC d_M_connected_2 (q := 3) rfl ?_
  refine z_istore_n (lv' := [(2, .int (0 : Int32)), (1, .int (1 : Int32)), (0, .ref (Ω.2.2 100))]) rfl (by decide) rfl hC d_M_connected_3 (q := 4) rfl ?_
  refine z_sub [2, 1, 0] rfl ?_
  exact w_M_connected_4 hC hA hR hM n r n (1 : Int32) (0 : Int32) S h
theorem c_M_connected (l : Launch) (Ω : z_O) (n : Nat) (S : z_S) (r : Int32 × z_S) (h : f_M_connected n S = some r) : z_MI l Ω y_M_connected b_M_connected 5 .boolean 0 0 [.ref (Ω.2.2 100)] (wM Ω S) r.1 (wM Ω r.2) := z_introI (by decide +kernel) (Nat.le_of_ble_eq_true rfl) rfl (fun X A hC hA hR _ hM => w_M_connected hC hA hR hM n r S h)
def f_M_before_35 (n : Nat) (t0 : Int32) (S : z_S) : Option (Int32 × z_S) := ck (vz t0) (some (t0, S))
def f_M_before_90 (n : Nat) (t0 : Int32) (S : z_S) : Option (Int32 × z_S) := ck (vz t0) (some (t0, S))
def f_M_before (n : Nat) (x1 : Int32) (x2 : Int32) (S : z_S) : Option (Int32 × z_S) := ck (vi x1 8) (ck (vi x2 8) ((if (gI S 6 x1.toNatClampNeg) = (gI S 6 x2.toNatClampNeg) then ck (vi x1 8) (ck (vi x2 8) ((if (gI S 4 x1.toNatClampNeg) = (gI S 4 x2.toNatClampNeg) then ck (vi x1 8) ((if (gI S 4 x1.toNatClampNeg) = 0 then (if x1 ≤ x2 then f_M_before_90 n (0 : Int32) S else f_M_before_90 n (1 : Int32) S) else (if x2 ≤ x1 then f_M_before_90 n (0 : Int32) S else f_M_before_90 n (1 : Int32) S))) else ck (vi x1 8) (ck (vz (gI S 4 x1.toNatClampNeg)) (some (gI S 4 x1.toNatClampNeg, S)))))) else ck (vi x1 8) (ck (vi x2 8) ((if (gI S 6 x1.toNatClampNeg) ≤ (gI S 6 x2.toNatClampNeg) then f_M_before_35 n (0 : Int32) S else f_M_before_35 n (1 : Int32) S))))))
set_option maxRecDepth 20000 in
theorem w_M_before_35 {X : z_X} {A : Nat → Prop} {Ω : z_O} (hC : z_C X b_M_before 3 "NodalAuctionModel" Ω) (hA : z_hA X A) (hR : z_R X (some .boolean)) (hM : z_rmOf X = z_rm 0 0) (n : Nat) (r : Int32 × z_S) (t0 : Int32) (S : z_S) (h : f_M_before_35 n t0 S = some r) : z_At X A (z_QI X Ω A r.1 (wM Ω r.2)) Ω 0 0 3 35 [(0, .ref (Ω.2.2 100))] [.int t0] (wM Ω S) := by
  obtain ⟨hv1, h⟩ := ck_some h
  cases h
  exact z_zret hC hR hv1 rfl rfl d_M_before_35
set_option maxRecDepth 20000 in
theorem w_M_before_90 {X : z_X} {A : Nat → Prop} {Ω : z_O} (hC : z_C X b_M_before 3 "NodalAuctionModel" Ω) (hA : z_hA X A) (hR : z_R X (some .boolean)) (hM : z_rmOf X = z_rm 0 0) (n : Nat) (r : Int32 × z_S) (t0 : Int32) (S : z_S) (h : f_M_before_90 n t0 S = some r) : z_At X A (z_QI X Ω A r.1 (wM Ω r.2)) Ω 0 0 3 90 [(0, .ref (Ω.2.2 100))] [.int t0] (wM Ω S) := by
  obtain ⟨hv1, h⟩ := ck_some h
  cases h
  exact z_zret hC hR hv1 rfl rfl d_M_before_90
set_option maxRecDepth 20000 in
theorem w_M_before {X : z_X} {A : Nat → Prop} {Ω : z_O} (hC : z_C X b_M_before 3 "NodalAuctionModel" Ω) (hA : z_hA X A) (hR : z_R X (some .boolean)) (hM : z_rmOf X = z_rm 0 0) (n : Nat) (r : Int32 × z_S) (x1 : Int32) (x2 : Int32) (S : z_S) (h : f_M_before n x1 x2 S = some r) : z_At X A (z_QI X Ω A r.1 (wM Ω r.2)) Ω 0 0 3 0 [(0, .ref (Ω.2.2 100)), (1, .int x1), (2, .int x2)] [] (wM Ω S) := by
  refine z_aload_n rfl 0 rfl hC d_M_before_0 (q := 1) rfl ?_
  refine gf_M_29_0 hC d_M_before_1 (q := 4) rfl ?_
  refine z_iload_n rfl 1 rfl hC d_M_before_4 (q := 5) rfl ?_
  obtain ⟨hv1, h⟩ := ck_some h
  refine al_wM_7 hC hv1 d_M_before_5 (q := 6) rfl ?_
  refine z_aload_n rfl 0 rfl hC d_M_before_6 (q := 7) rfl ?_
  refine gf_M_29_0 hC d_M_before_7 (q := 10) rfl ?_
  refine z_iload_n rfl 2 rfl hC d_M_before_10 (q := 11) rfl ?_
  obtain ⟨hv2, h⟩ := ck_some h
  refine al_wM_7 hC hv2 d_M_before_11 (q := 12) rfl ?_
  refine z_icmp_eq (tgt := 36) (q := 15) hC d_M_before_12 rfl rfl (fun hb => ?_) (fun hb => ?_)
  · have h := (if_pos hb).symm.trans h
    refine z_aload_n rfl 0 rfl hC d_M_before_36 (q := 37) rfl ?_
    refine gf_M_22_0 hC d_M_before_37 (q := 40) rfl ?_
    refine z_iload_n rfl 1 rfl hC d_M_before_40 (q := 41) rfl ?_
    obtain ⟨hv3, h⟩ := ck_some h
    refine al_wM_5 hC hv3 d_M_before_41 (q := 42) rfl ?_
    refine z_aload_n rfl 0 rfl hC d_M_before_42 (q := 43) rfl ?_
    refine gf_M_22_0 hC d_M_before_43 (q := 46) rfl ?_
    refine z_iload_n rfl 2 rfl hC d_M_before_46 (q := 47) rfl ?_
    obtain ⟨hv4, h⟩ := ck_some h
    refine al_wM_5 hC hv4 d_M_before_47 (q := 48) rfl ?_
    refine z_icmp_eq (tgt := 58) (q := 51) hC d_M_before_48 rfl rfl (fun hb => ?_) (fun hb => ?_)
    · have h := (if_pos hb).symm.trans h
      refine z_aload_n rfl 0 rfl hC d_M_before_58 (q := 59) rfl ?_
      refine gf_M_22_0 hC d_M_before_59 (q := 62) rfl ?_
      refine z_iload_n rfl 1 rfl hC d_M_before_62 (q := 63) rfl ?_
      obtain ⟨hv5, h⟩ := ck_some h
      refine al_wM_5 hC hv5 d_M_before_63 (q := 64) rfl ?_
      refine z_if_eq (tgt := 80) (q := 67) hC d_M_before_64 rfl rfl (fun hb => ?_) (fun hb => ?_)
      · have h := (if_pos hb).symm.trans h
        refine z_iload_n rfl 1 rfl hC d_M_before_80 (q := 81) rfl ?_
        refine z_iload_n rfl 2 rfl hC d_M_before_81 (q := 82) rfl ?_
        refine z_icmp_le (tgt := 89) (q := 85) hC d_M_before_82 rfl rfl (fun hb => ?_) (fun hb => ?_)
        · have h := (if_pos hb).symm.trans h
          refine z_iconst (v := (0 : Int32)) (by decide) hC d_M_before_89 (q := 90) rfl ?_
          refine z_sub [0] rfl ?_
          exact w_M_before_90 hC hA hR hM n r (0 : Int32) S h
        · have h := (if_neg hb).symm.trans h
          refine z_iconst (v := (1 : Int32)) (by decide) hC d_M_before_85 (q := 86) rfl ?_
          refine z_goto (tgt := 90) hC d_M_before_86 rfl ?_
          refine z_sub [0] rfl ?_
          exact w_M_before_90 hC hA hR hM n r (1 : Int32) S h
      · have h := (if_neg hb).symm.trans h
        refine z_iload_n rfl 1 rfl hC d_M_before_67 (q := 68) rfl ?_
        refine z_iload_n rfl 2 rfl hC d_M_before_68 (q := 69) rfl ?_
        refine z_icmp_ge (tgt := 76) (q := 72) hC d_M_before_69 rfl rfl (fun hb => ?_) (fun hb => ?_)
        · have h := (if_pos hb).symm.trans h
          refine z_iconst (v := (0 : Int32)) (by decide) hC d_M_before_76 (q := 77) rfl ?_
          refine z_goto (tgt := 90) hC d_M_before_77 rfl ?_
          refine z_sub [0] rfl ?_
          exact w_M_before_90 hC hA hR hM n r (0 : Int32) S h
        · have h := (if_neg hb).symm.trans h
          refine z_iconst (v := (1 : Int32)) (by decide) hC d_M_before_72 (q := 73) rfl ?_
          refine z_goto (tgt := 90) hC d_M_before_73 rfl ?_
          refine z_sub [0] rfl ?_
          exact w_M_before_90 hC hA hR hM n r (1 : Int32) S h
    · have h := (if_neg hb).symm.trans h
      refine z_aload_n rfl 0 rfl hC d_M_before_51 (q := 52) rfl ?_
      refine gf_M_22_0 hC d_M_before_52 (q := 55) rfl ?_
      refine z_iload_n rfl 1 rfl hC d_M_before_55 (q := 56) rfl ?_
      obtain ⟨hv5, h⟩ := ck_some h
      refine al_wM_5 hC hv5 d_M_before_56 (q := 57) rfl ?_
      obtain ⟨hv6, h⟩ := ck_some h
      cases h
      exact z_zret hC hR hv6 rfl rfl d_M_before_57
  · have h := (if_neg hb).symm.trans h
    refine z_aload_n rfl 0 rfl hC d_M_before_15 (q := 16) rfl ?_
    refine gf_M_29_0 hC d_M_before_16 (q := 19) rfl ?_
    refine z_iload_n rfl 1 rfl hC d_M_before_19 (q := 20) rfl ?_
    obtain ⟨hv3, h⟩ := ck_some h
    refine al_wM_7 hC hv3 d_M_before_20 (q := 21) rfl ?_
    refine z_aload_n rfl 0 rfl hC d_M_before_21 (q := 22) rfl ?_
    refine gf_M_29_0 hC d_M_before_22 (q := 25) rfl ?_
    refine z_iload_n rfl 2 rfl hC d_M_before_25 (q := 26) rfl ?_
    obtain ⟨hv4, h⟩ := ck_some h
    refine al_wM_7 hC hv4 d_M_before_26 (q := 27) rfl ?_
    refine z_icmp_le (tgt := 34) (q := 30) hC d_M_before_27 rfl rfl (fun hb => ?_) (fun hb => ?_)
    · have h := (if_pos hb).symm.trans h
      refine z_iconst (v := (0 : Int32)) (by decide) hC d_M_before_34 (q := 35) rfl ?_
      refine z_sub [0] rfl ?_
      exact w_M_before_35 hC hA hR hM n r (0 : Int32) S h
    · have h := (if_neg hb).symm.trans h
      refine z_iconst (v := (1 : Int32)) (by decide) hC d_M_before_30 (q := 31) rfl ?_
      refine z_goto (tgt := 35) hC d_M_before_31 rfl ?_
      refine z_sub [0] rfl ?_
      exact w_M_before_35 hC hA hR hM n r (1 : Int32) S h
theorem c_M_before (l : Launch) (Ω : z_O) (n : Nat) (x1 : Int32) (x2 : Int32) (S : z_S) (r : Int32 × z_S) (h : f_M_before n x1 x2 S = some r) : z_MI l Ω y_M_before b_M_before 3 .boolean 0 0 [.ref (Ω.2.2 100), .int x1, .int x2] (wM Ω S) r.1 (wM Ω r.2) := z_introI (by decide +kernel) (Nat.le_of_ble_eq_true rfl) rfl (fun X A hC hA hR _ hM => w_M_before hC hA hR hM n r x1 x2 S h)
def f_M_arrange_39 (n : Nat) (k2 : Int32 → z_S → Option (Unit × z_S)) (k14 : Int32 → Int32 → Int32 → z_S → Option (Unit × z_S)) (x1 : Int32) (x2 : Int32) (x3 : Int32) (S : z_S) : Option (Unit × z_S) := k14 x1 x2 (x3 + (1 : Int32)) S
def f_M_arrange_14 (n : Nat) (k2 : Int32 → z_S → Option (Unit × z_S)) : Nat → Int32 → Int32 → Int32 → z_S → Option (Unit × z_S)
  | 0, _, _, _, _ => none
  | q + 1, x1, x2, x3, S => (if (gF S 1) ≤ x3 then ck (vi x2 8) (k2 (x1 + (1 : Int32)) (sI S 8 (upd (gI S 8) x2.toNatClampNeg x1))) else (if x3 = x1 then f_M_arrange_39 n k2 (f_M_arrange_14 n k2 q) x1 x2 x3 S else bo (f_M_before n x3 x1 S) (fun v30 S30 => (if v30 = 0 then f_M_arrange_39 n k2 (f_M_arrange_14 n k2 q) x1 x2 x3 S30 else f_M_arrange_39 n k2 (f_M_arrange_14 n k2 q) x1 (x2 + (1 : Int32)) x3 S30))))
def f_M_arrange_2 (n : Nat) : Nat → Int32 → z_S → Option (Unit × z_S)
  | 0, _, _ => none
  | q + 1, x1, S => (if (gF S 1) ≤ x1 then some ((), S) else f_M_arrange_14 n (f_M_arrange_2 n q) n x1 (0 : Int32) (0 : Int32) S)
def f_M_arrange (n : Nat) (S : z_S) : Option (Unit × z_S) := f_M_arrange_2 n n (0 : Int32) S
set_option maxRecDepth 20000 in
theorem w_M_arrange_39 {X : z_X} {A : Nat → Prop} {Ω : z_O} (hC : z_C X b_M_arrange 4 "NodalAuctionModel" Ω) (hA : z_hA X A) (hR : z_R X none) (hM : z_rmOf X = z_rm 1 22) (n : Nat) (r : Unit × z_S) (k2 : Int32 → z_S → Option (Unit × z_S)) (k14 : Int32 → Int32 → Int32 → z_S → Option (Unit × z_S)) (hk2 : ∀ (x1 : Int32) (S : z_S), k2 x1 S = some r → z_At X A (z_QV X Ω A (wM Ω r.2)) Ω 0 0 4 2 [(0, .ref (Ω.2.2 100)), (1, .int x1)] [] (wM Ω S)) (hk14 : ∀ (x1 : Int32) (x2 : Int32) (x3 : Int32) (S : z_S), k14 x1 x2 x3 S = some r → z_At X A (z_QV X Ω A (wM Ω r.2)) Ω 0 0 4 14 [(0, .ref (Ω.2.2 100)), (1, .int x1), (2, .int x2), (3, .int x3)] [] (wM Ω S)) (x1 : Int32) (x2 : Int32) (x3 : Int32) (S : z_S) (h : f_M_arrange_39 n k2 k14 x1 x2 x3 S = some r) : z_At X A (z_QV X Ω A (wM Ω r.2)) Ω 0 0 4 39 [(0, .ref (Ω.2.2 100)), (1, .int x1), (2, .int x2), (3, .int x3)] [] (wM Ω S) := by
  refine z_iinc (lv' := [(3, .int (x3 + (1 : Int32))), (0, .ref (Ω.2.2 100)), (1, .int x1), (2, .int x2)]) 3 rfl rfl (by decide) rfl hC d_M_arrange_39 (q := 42) rfl ?_
  refine z_goto (tgt := 14) hC d_M_arrange_42 rfl ?_
  refine z_sub [1, 2, 3, 0] rfl ?_
  exact hk14 x1 x2 (x3 + (1 : Int32)) S h
set_option maxRecDepth 20000 in
theorem w_M_arrange_14 {X : z_X} {A : Nat → Prop} {Ω : z_O} (hC : z_C X b_M_arrange 4 "NodalAuctionModel" Ω) (hA : z_hA X A) (hR : z_R X none) (hM : z_rmOf X = z_rm 1 22) (n : Nat) (r : Unit × z_S) (k2 : Int32 → z_S → Option (Unit × z_S)) (hk2 : ∀ (x1 : Int32) (S : z_S), k2 x1 S = some r → z_At X A (z_QV X Ω A (wM Ω r.2)) Ω 0 0 4 2 [(0, .ref (Ω.2.2 100)), (1, .int x1)] [] (wM Ω S)) : ∀ (q : Nat) (x1 : Int32) (x2 : Int32) (x3 : Int32) (S : z_S), f_M_arrange_14 n k2 q x1 x2 x3 S = some r → z_At X A (z_QV X Ω A (wM Ω r.2)) Ω 0 0 4 14 [(0, .ref (Ω.2.2 100)), (1, .int x1), (2, .int x2), (3, .int x3)] [] (wM Ω S) := by
  intro q
  induction q with
  | zero => intro x1 x2 x3 S h; cases h
  | succ q ih =>
    intro x1 x2 x3 S h
    refine z_iload_n rfl 3 rfl hC d_M_arrange_14 (q := 15) rfl ?_
    refine z_aload_n rfl 0 rfl hC d_M_arrange_15 (q := 16) rfl ?_
    refine gf_M_94_0 hC d_M_arrange_16 (q := 19) rfl ?_
    refine z_icmp_ge (tgt := 45) (q := 22) hC d_M_arrange_19 rfl rfl (fun hb => ?_) (fun hb => ?_)
    · have h := (if_pos hb).symm.trans h
      refine z_aload_n rfl 0 rfl hC d_M_arrange_45 (q := 46) rfl ?_
      refine gf_M_35_0 hC d_M_arrange_46 (q := 49) rfl ?_
      refine z_iload_n rfl 2 rfl hC d_M_arrange_49 (q := 50) rfl ?_
      refine z_iload_n rfl 1 rfl hC d_M_arrange_50 (q := 51) rfl ?_
      obtain ⟨hv1, h⟩ := ck_some h
      refine as_wM_9 hC hv1 d_M_arrange_51 (q := 52) rfl ?_
      refine z_iinc (lv' := [(1, .int (x1 + (1 : Int32))), (0, .ref (Ω.2.2 100)), (2, .int x2), (3, .int x3)]) 1 rfl rfl (by decide) rfl hC d_M_arrange_52 (q := 55) rfl ?_
      refine z_goto (tgt := 2) hC d_M_arrange_55 rfl ?_
      refine z_sub [1, 0] rfl ?_
      exact hk2 (x1 + (1 : Int32)) (sI S 8 (upd (gI S 8) x2.toNatClampNeg x1)) h
    · have h := (if_neg hb).symm.trans h
      refine z_iload_n rfl 3 rfl hC d_M_arrange_22 (q := 23) rfl ?_
      refine z_iload_n rfl 1 rfl hC d_M_arrange_23 (q := 24) rfl ?_
      refine z_icmp_eq (tgt := 39) (q := 27) hC d_M_arrange_24 rfl rfl (fun hb => ?_) (fun hb => ?_)
      · have h := (if_pos hb).symm.trans h
        exact w_M_arrange_39 hC hA hR hM n r k2 (f_M_arrange_14 n k2 q) hk2 ih x1 x2 x3 S h
      · have h := (if_neg hb).symm.trans h
        refine z_aload_n rfl 0 rfl hC d_M_arrange_27 (q := 28) rfl ?_
        refine z_iload_n rfl 3 rfl hC d_M_arrange_28 (q := 29) rfl ?_
        refine z_iload_n rfl 1 rfl hC d_M_arrange_29 (q := 30) rfl ?_
        obtain ⟨v30, S30, hc30, h⟩ := bo_some h
        refine z_callVi (q0 := 0) (As := [.int x3, .int x1]) hC hA (c_M_before (z_lOf X) Ω n x3 x1 S (v30, S30) hc30) k_584 k_581 k_583 ks_41 k_6 h_M_before (by rw [hM]; exact ⟨Nat.le_of_ble_eq_true rfl, Nat.le_of_ble_eq_true rfl⟩) ⟨Nat.zero_le _, Nat.zero_le _⟩ rfl rfl rfl (Nat.le_of_ble_eq_true rfl) rfl d_M_arrange_30 (q := 33) rfl ?_
        refine z_if_eq (tgt := 39) (q := 36) hC d_M_arrange_33 rfl rfl (fun hb => ?_) (fun hb => ?_)
        · have h := (if_pos hb).symm.trans h
          exact w_M_arrange_39 hC hA hR hM n r k2 (f_M_arrange_14 n k2 q) hk2 ih x1 x2 x3 S30 h
        · have h := (if_neg hb).symm.trans h
          refine z_iinc (lv' := [(2, .int (x2 + (1 : Int32))), (0, .ref (Ω.2.2 100)), (1, .int x1), (3, .int x3)]) 2 rfl rfl (by decide) rfl hC d_M_arrange_36 (q := 39) rfl ?_
          refine z_sub [1, 2, 0, 3] rfl ?_
          exact w_M_arrange_39 hC hA hR hM n r k2 (f_M_arrange_14 n k2 q) hk2 ih x1 (x2 + (1 : Int32)) x3 S30 h
set_option maxRecDepth 20000 in
theorem w_M_arrange_2 {X : z_X} {A : Nat → Prop} {Ω : z_O} (hC : z_C X b_M_arrange 4 "NodalAuctionModel" Ω) (hA : z_hA X A) (hR : z_R X none) (hM : z_rmOf X = z_rm 1 22) (n : Nat) (r : Unit × z_S) : ∀ (q : Nat) (x1 : Int32) (S : z_S), f_M_arrange_2 n q x1 S = some r → z_At X A (z_QV X Ω A (wM Ω r.2)) Ω 0 0 4 2 [(0, .ref (Ω.2.2 100)), (1, .int x1)] [] (wM Ω S) := by
  intro q
  induction q with
  | zero => intro x1 S h; cases h
  | succ q ih =>
    intro x1 S h
    refine z_iload_n rfl 1 rfl hC d_M_arrange_2 (q := 3) rfl ?_
    refine z_aload_n rfl 0 rfl hC d_M_arrange_3 (q := 4) rfl ?_
    refine gf_M_94_0 hC d_M_arrange_4 (q := 7) rfl ?_
    refine z_icmp_ge (tgt := 58) (q := 10) hC d_M_arrange_7 rfl rfl (fun hb => ?_) (fun hb => ?_)
    · have h := (if_pos hb).symm.trans h
      cases h
      exact z_vret hC hR rfl d_M_arrange_58
    · have h := (if_neg hb).symm.trans h
      refine z_iconst (v := (0 : Int32)) (by decide) hC d_M_arrange_10 (q := 11) rfl ?_
      refine z_istore_n (lv' := [(2, .int (0 : Int32)), (0, .ref (Ω.2.2 100)), (1, .int x1)]) rfl (by decide) rfl hC d_M_arrange_11 (q := 12) rfl ?_
      refine z_iconst (v := (0 : Int32)) (by decide) hC d_M_arrange_12 (q := 13) rfl ?_
      refine z_istore_n (lv' := [(3, .int (0 : Int32)), (2, .int (0 : Int32)), (0, .ref (Ω.2.2 100)), (1, .int x1)]) rfl (by decide) rfl hC d_M_arrange_13 (q := 14) rfl ?_
      refine z_sub [2, 3, 1, 0] rfl ?_
      exact w_M_arrange_14 hC hA hR hM n r (f_M_arrange_2 n q) ih n x1 (0 : Int32) (0 : Int32) S h
set_option maxRecDepth 20000 in
theorem w_M_arrange {X : z_X} {A : Nat → Prop} {Ω : z_O} (hC : z_C X b_M_arrange 4 "NodalAuctionModel" Ω) (hA : z_hA X A) (hR : z_R X none) (hM : z_rmOf X = z_rm 1 22) (n : Nat) (r : Unit × z_S) (S : z_S) (h : f_M_arrange n S = some r) : z_At X A (z_QV X Ω A (wM Ω r.2)) Ω 0 0 4 0 [(0, .ref (Ω.2.2 100))] [] (wM Ω S) := by
  refine z_iconst (v := (0 : Int32)) (by decide) hC d_M_arrange_0 (q := 1) rfl ?_
  refine z_istore_n (lv' := [(1, .int (0 : Int32)), (0, .ref (Ω.2.2 100))]) rfl (by decide) rfl hC d_M_arrange_1 (q := 2) rfl ?_
  refine z_sub [1, 0] rfl ?_
  exact w_M_arrange_2 hC hA hR hM n r n (0 : Int32) S h
theorem c_M_arrange (l : Launch) (Ω : z_O) (n : Nat) (S : z_S) (r : Unit × z_S) (h : f_M_arrange n S = some r) : z_MV l Ω y_M_arrange b_M_arrange 4 1 22 [.ref (Ω.2.2 100)] (wM Ω S) (wM Ω r.2) := z_introV (by decide +kernel) (Nat.le_of_ble_eq_true rfl) rfl (fun X A hC hA hR _ hM => w_M_arrange hC hA hR hM n r S h)
def f_M_plane_58 (n : Nat) (S : z_S) : Option (Unit × z_S) := some ((), sF S 2 ((gF S 2) + (1 : Int32)))
def f_M_plane_32 (n : Nat) (x1 : Int64) (S : z_S) : Option (Unit × z_S) := ck (vi (gF S 2) 24) (ck (vi (gF (sJ S 2 (vp_updL (gJ S 2) ((gF S 2).toNatClampNeg) ((gI S 9 ((3 : Int32).toNatClampNeg)).toInt64))) 2) 24) (f_M_plane_58 n (sJ (sJ S 2 (vp_updL (gJ S 2) ((gF S 2).toNatClampNeg) ((gI S 9 ((3 : Int32).toNatClampNeg)).toInt64))) 3 (vp_updL (gJ (sJ S 2 (vp_updL (gJ S 2) ((gF S 2).toNatClampNeg) ((gI S 9 ((3 : Int32).toNatClampNeg)).toInt64))) 3) ((gF (sJ S 2 (vp_updL (gJ S 2) ((gF S 2).toNatClampNeg) ((gI S 9 ((3 : Int32).toNatClampNeg)).toInt64))) 2).toNatClampNeg) x1))))
def f_M_plane (n : Nat) (x1 : Int64) (S : z_S) : Option (Unit × z_S) := ck (vi (gF S 2) 24) (ck (vi (gF (sJ S 0 (vp_updL (gJ S 0) ((gF S 2).toNatClampNeg) ((gI S 9 ((1 : Int32).toNatClampNeg)).toInt64))) 2) 24) (f_M_plane_32 n x1 (sJ (sJ S 0 (vp_updL (gJ S 0) ((gF S 2).toNatClampNeg) ((gI S 9 ((1 : Int32).toNatClampNeg)).toInt64))) 1 (vp_updL (gJ (sJ S 0 (vp_updL (gJ S 0) ((gF S 2).toNatClampNeg) ((gI S 9 ((1 : Int32).toNatClampNeg)).toInt64))) 1) ((gF (sJ S 0 (vp_updL (gJ S 0) ((gF S 2).toNatClampNeg) ((gI S 9 ((1 : Int32).toNatClampNeg)).toInt64))) 2).toNatClampNeg) ((gI (sJ S 0 (vp_updL (gJ S 0) ((gF S 2).toNatClampNeg) ((gI S 9 ((1 : Int32).toNatClampNeg)).toInt64))) 9 ((2 : Int32).toNatClampNeg)).toInt64)))))
set_option maxRecDepth 20000 in
theorem w_M_plane_58 {X : z_X} {A : Nat → Prop} {Ω : z_O} (hC : z_C X b_M_plane 3 "NodalAuctionModel" Ω) (hA : z_hA X A) (hR : z_R X none) (hM : z_rmOf X = z_rm 0 0) (n : Nat) (r : Unit × z_S) (S : z_S) (h : f_M_plane_58 n S = some r) : z_At X A (z_QV X Ω A (wM Ω r.2)) Ω 0 0 3 58 [(0, .ref (Ω.2.2 100))] [] (wM Ω S) := by
  refine z_aload_n rfl 0 rfl hC d_M_plane_58 (q := 59) rfl ?_
  refine z_dup rfl hC d_M_plane_59 (q := 60) rfl ?_
  refine gf_M_105_0 hC d_M_plane_60 (q := 63) rfl ?_
  refine z_iconst (v := (1 : Int32)) (by decide) hC d_M_plane_63 (q := 64) rfl ?_
  refine z_iadd hC d_M_plane_64 (q := 65) rfl ?_
  refine pf_M_105_0 hC d_M_plane_65 (q := 68) rfl ?_
  cases h
  exact z_vret hC hR rfl d_M_plane_68
set_option maxRecDepth 20000 in
theorem w_M_plane_32 {X : z_X} {A : Nat → Prop} {Ω : z_O} (hC : z_C X b_M_plane 3 "NodalAuctionModel" Ω) (hA : z_hA X A) (hR : z_R X none) (hM : z_rmOf X = z_rm 0 0) (n : Nat) (r : Unit × z_S) (x1 : Int64) (S : z_S) (h : f_M_plane_32 n x1 S = some r) : z_At X A (z_QV X Ω A (wM Ω r.2)) Ω 0 0 3 32 [(0, .ref (Ω.2.2 100)), (1, .long x1)] [] (wM Ω S) := by
  refine z_aload_n rfl 0 rfl hC d_M_plane_32 (q := 33) rfl ?_
  refine gf_M_45_0 hC d_M_plane_33 (q := 36) rfl ?_
  refine z_aload_n rfl 0 rfl hC d_M_plane_36 (q := 37) rfl ?_
  refine gf_M_105_0 hC d_M_plane_37 (q := 40) rfl ?_
  refine z_aload_n rfl 0 rfl hC d_M_plane_40 (q := 41) rfl ?_
  refine gf_M_51_0 hC d_M_plane_41 (q := 44) rfl ?_
  refine z_iconst (v := (3 : Int32)) (by decide) hC d_M_plane_44 (q := 45) rfl ?_
  refine al_wM_14 hC (by decide) d_M_plane_45 (q := 46) rfl ?_
  refine z_i2l hC d_M_plane_46 (q := 47) rfl ?_
  obtain ⟨hv1, h⟩ := ck_some h
  refine as_wM_12 hC hv1 d_M_plane_47 (q := 48) rfl ?_
  refine z_aload_n rfl 0 rfl hC d_M_plane_48 (q := 49) rfl ?_
  refine gf_M_48_0 hC d_M_plane_49 (q := 52) rfl ?_
  refine z_aload_n rfl 0 rfl hC d_M_plane_52 (q := 53) rfl ?_
  refine gf_M_105_0 hC d_M_plane_53 (q := 56) rfl ?_
  refine z_lload_n rfl 1 rfl hC d_M_plane_56 (q := 57) rfl ?_
  obtain ⟨hv2, h⟩ := ck_some h
  refine as_wM_13 hC hv2 d_M_plane_57 (q := 58) rfl ?_
  refine z_sub [0] rfl ?_
  exact w_M_plane_58 hC hA hR hM n r (sJ (sJ S 2 (vp_updL (gJ S 2) ((gF S 2).toNatClampNeg) ((gI S 9 ((3 : Int32).toNatClampNeg)).toInt64))) 3 (vp_updL (gJ (sJ S 2 (vp_updL (gJ S 2) ((gF S 2).toNatClampNeg) ((gI S 9 ((3 : Int32).toNatClampNeg)).toInt64))) 3) ((gF (sJ S 2 (vp_updL (gJ S 2) ((gF S 2).toNatClampNeg) ((gI S 9 ((3 : Int32).toNatClampNeg)).toInt64))) 2).toNatClampNeg) x1)) h
set_option maxRecDepth 20000 in
theorem w_M_plane {X : z_X} {A : Nat → Prop} {Ω : z_O} (hC : z_C X b_M_plane 3 "NodalAuctionModel" Ω) (hA : z_hA X A) (hR : z_R X none) (hM : z_rmOf X = z_rm 0 0) (n : Nat) (r : Unit × z_S) (x1 : Int64) (S : z_S) (h : f_M_plane n x1 S = some r) : z_At X A (z_QV X Ω A (wM Ω r.2)) Ω 0 0 3 0 [(0, .ref (Ω.2.2 100)), (1, .long x1)] [] (wM Ω S) := by
  refine z_aload_n rfl 0 rfl hC d_M_plane_0 (q := 1) rfl ?_
  refine gf_M_38_0 hC d_M_plane_1 (q := 4) rfl ?_
  refine z_aload_n rfl 0 rfl hC d_M_plane_4 (q := 5) rfl ?_
  refine gf_M_105_0 hC d_M_plane_5 (q := 8) rfl ?_
  refine z_aload_n rfl 0 rfl hC d_M_plane_8 (q := 9) rfl ?_
  refine gf_M_51_0 hC d_M_plane_9 (q := 12) rfl ?_
  refine z_iconst (v := (1 : Int32)) (by decide) hC d_M_plane_12 (q := 13) rfl ?_
  refine al_wM_14 hC (by decide) d_M_plane_13 (q := 14) rfl ?_
  refine z_i2l hC d_M_plane_14 (q := 15) rfl ?_
  obtain ⟨hv1, h⟩ := ck_some h
  refine as_wM_10 hC hv1 d_M_plane_15 (q := 16) rfl ?_
  refine z_aload_n rfl 0 rfl hC d_M_plane_16 (q := 17) rfl ?_
  refine gf_M_42_0 hC d_M_plane_17 (q := 20) rfl ?_
  refine z_aload_n rfl 0 rfl hC d_M_plane_20 (q := 21) rfl ?_
  refine gf_M_105_0 hC d_M_plane_21 (q := 24) rfl ?_
  refine z_aload_n rfl 0 rfl hC d_M_plane_24 (q := 25) rfl ?_
  refine gf_M_51_0 hC d_M_plane_25 (q := 28) rfl ?_
  refine z_iconst (v := (2 : Int32)) (by decide) hC d_M_plane_28 (q := 29) rfl ?_
  refine al_wM_14 hC (by decide) d_M_plane_29 (q := 30) rfl ?_
  refine z_i2l hC d_M_plane_30 (q := 31) rfl ?_
  obtain ⟨hv2, h⟩ := ck_some h
  refine as_wM_11 hC hv2 d_M_plane_31 (q := 32) rfl ?_
  exact w_M_plane_32 hC hA hR hM n r x1 (sJ (sJ S 0 (vp_updL (gJ S 0) ((gF S 2).toNatClampNeg) ((gI S 9 ((1 : Int32).toNatClampNeg)).toInt64))) 1 (vp_updL (gJ (sJ S 0 (vp_updL (gJ S 0) ((gF S 2).toNatClampNeg) ((gI S 9 ((1 : Int32).toNatClampNeg)).toInt64))) 1) ((gF (sJ S 0 (vp_updL (gJ S 0) ((gF S 2).toNatClampNeg) ((gI S 9 ((1 : Int32).toNatClampNeg)).toInt64))) 2).toNatClampNeg) ((gI (sJ S 0 (vp_updL (gJ S 0) ((gF S 2).toNatClampNeg) ((gI S 9 ((1 : Int32).toNatClampNeg)).toInt64))) 9 ((2 : Int32).toNatClampNeg)).toInt64))) h
theorem c_M_plane (l : Launch) (Ω : z_O) (n : Nat) (x1 : Int64) (S : z_S) (r : Unit × z_S) (h : f_M_plane n x1 S = some r) : z_MV l Ω y_M_plane b_M_plane 3 0 0 [.ref (Ω.2.2 100), .long x1] (wM Ω S) (wM Ω r.2) := z_introV (by decide +kernel) (Nat.le_of_ble_eq_true rfl) rfl (fun X A hC hA hR _ hM => w_M_plane hC hA hR hM n r x1 S h)
def f_M_linePlanes_67 (n : Nat) (k7 : Int32 → z_S → Option (Unit × z_S)) (k17 : Int32 → Int32 → z_S → Option (Unit × z_S)) (x1 : Int32) (x2 : Int32) (t1 : Int32) (t2 : Int32) (S : z_S) : Option (Unit × z_S) := ck (vi t1 4) (k17 x1 (x2 + (1 : Int32)) (sI S 9 (upd (gI S 9) t1.toNatClampNeg t2)))
def f_M_linePlanes_17 (n : Nat) (k7 : Int32 → z_S → Option (Unit × z_S)) : Nat → Int32 → Int32 → z_S → Option (Unit × z_S)
  | 0, _, _, _ => none
  | q + 1, x1, x2, S => (if (4 : Int32) ≤ x2 then ck (vi x1 6) (bo (f_M_plane n ((gI S 3 x1.toNatClampNeg).toInt64) S) (fun _ S82 => ck (vi x1 6) (bo (f_M_plane n ((-(gI S82 3 x1.toNatClampNeg)).toInt64) S82) (fun _ S94 => k7 (x1 + (1 : Int32)) S94)))) else ck (vi x1 6) ((if x2 = (gI S 0 x1.toNatClampNeg) then ck (vi x1 6) (f_M_linePlanes_67 n k7 (f_M_linePlanes_17 n k7 q) x1 x2 x2 (gI S 2 x1.toNatClampNeg) S) else ck (vi x1 6) ((if x2 = (gI S 1 x1.toNatClampNeg) then ck (vi x1 6) (f_M_linePlanes_67 n k7 (f_M_linePlanes_17 n k7 q) x1 x2 x2 (-(gI S 2 x1.toNatClampNeg)) S) else f_M_linePlanes_67 n k7 (f_M_linePlanes_17 n k7 q) x1 x2 x2 (0 : Int32) S)))))
def f_M_linePlanes_7 (n : Nat) : Nat → Int32 → z_S → Option (Unit × z_S)
  | 0, _, _ => none
  | q + 1, x1, S => (if (gF S 0) ≤ x1 then some ((), S) else f_M_linePlanes_17 n (f_M_linePlanes_7 n q) n x1 (0 : Int32) S)
def f_M_linePlanes (n : Nat) (S : z_S) : Option (Unit × z_S) := f_M_linePlanes_7 n n (0 : Int32) (sF S 2 (0 : Int32))
set_option maxRecDepth 20000 in
theorem w_M_linePlanes_67 {X : z_X} {A : Nat → Prop} {Ω : z_O} (hC : z_C X b_M_linePlanes 3 "NodalAuctionModel" Ω) (hA : z_hA X A) (hR : z_R X none) (hM : z_rmOf X = z_rm 1 22) (n : Nat) (r : Unit × z_S) (k7 : Int32 → z_S → Option (Unit × z_S)) (k17 : Int32 → Int32 → z_S → Option (Unit × z_S)) (hk7 : ∀ (x1 : Int32) (S : z_S), k7 x1 S = some r → z_At X A (z_QV X Ω A (wM Ω r.2)) Ω 0 0 3 7 [(0, .ref (Ω.2.2 100)), (1, .int x1)] [] (wM Ω S)) (hk17 : ∀ (x1 : Int32) (x2 : Int32) (S : z_S), k17 x1 x2 S = some r → z_At X A (z_QV X Ω A (wM Ω r.2)) Ω 0 0 3 17 [(0, .ref (Ω.2.2 100)), (1, .int x1), (2, .int x2)] [] (wM Ω S)) (x1 : Int32) (x2 : Int32) (t1 : Int32) (t2 : Int32) (S : z_S) (h : f_M_linePlanes_67 n k7 k17 x1 x2 t1 t2 S = some r) : z_At X A (z_QV X Ω A (wM Ω r.2)) Ω 0 0 3 67 [(0, .ref (Ω.2.2 100)), (1, .int x1), (2, .int x2)] [.int t2, .int t1, .ref (Ω.2.2 114)] (wM Ω S) := by
  obtain ⟨hv1, h⟩ := ck_some h
  refine as_wM_14 hC hv1 d_M_linePlanes_67 (q := 68) rfl ?_
  refine z_iinc (lv' := [(2, .int (x2 + (1 : Int32))), (0, .ref (Ω.2.2 100)), (1, .int x1)]) 2 rfl rfl (by decide) rfl hC d_M_linePlanes_68 (q := 71) rfl ?_
  refine z_goto (tgt := 17) hC d_M_linePlanes_71 rfl ?_
  refine z_sub [1, 2, 0] rfl ?_
  exact hk17 x1 (x2 + (1 : Int32)) (sI S 9 (upd (gI S 9) t1.toNatClampNeg t2)) h
set_option maxRecDepth 20000 in
theorem w_M_linePlanes_17 {X : z_X} {A : Nat → Prop} {Ω : z_O} (hC : z_C X b_M_linePlanes 3 "NodalAuctionModel" Ω) (hA : z_hA X A) (hR : z_R X none) (hM : z_rmOf X = z_rm 1 22) (n : Nat) (r : Unit × z_S) (k7 : Int32 → z_S → Option (Unit × z_S)) (hk7 : ∀ (x1 : Int32) (S : z_S), k7 x1 S = some r → z_At X A (z_QV X Ω A (wM Ω r.2)) Ω 0 0 3 7 [(0, .ref (Ω.2.2 100)), (1, .int x1)] [] (wM Ω S)) : ∀ (q : Nat) (x1 : Int32) (x2 : Int32) (S : z_S), f_M_linePlanes_17 n k7 q x1 x2 S = some r → z_At X A (z_QV X Ω A (wM Ω r.2)) Ω 0 0 3 17 [(0, .ref (Ω.2.2 100)), (1, .int x1), (2, .int x2)] [] (wM Ω S) := by
  intro q
  induction q with
  | zero => intro x1 x2 S h; cases h
  | succ q ih =>
    intro x1 x2 S h
    refine z_iload_n rfl 2 rfl hC d_M_linePlanes_17 (q := 18) rfl ?_
    refine z_iconst (v := (4 : Int32)) (by decide) hC d_M_linePlanes_18 (q := 19) rfl ?_
    refine z_icmp_ge (tgt := 74) (q := 22) hC d_M_linePlanes_19 rfl rfl (fun hb => ?_) (fun hb => ?_)
    · have h := (if_pos hb).symm.trans h
      refine z_aload_n rfl 0 rfl hC d_M_linePlanes_74 (q := 75) rfl ?_
      refine z_aload_n rfl 0 rfl hC d_M_linePlanes_75 (q := 76) rfl ?_
      refine gf_M_19_0 hC d_M_linePlanes_76 (q := 79) rfl ?_
      refine z_iload_n rfl 1 rfl hC d_M_linePlanes_79 (q := 80) rfl ?_
      obtain ⟨hv1, h⟩ := ck_some h
      refine al_wM_4 hC hv1 d_M_linePlanes_80 (q := 81) rfl ?_
      refine z_i2l hC d_M_linePlanes_81 (q := 82) rfl ?_
      obtain ⟨v82, S82, hc82, h⟩ := bo_some h
      refine z_callVv (q0 := 0) (As := [.long ((gI S 3 x1.toNatClampNeg).toInt64)]) hC hA (c_M_plane (z_lOf X) Ω n ((gI S 3 x1.toNatClampNeg).toInt64) S (v82, S82) hc82) k_592 k_589 k_591 ks_43 k_6 h_M_plane (by rw [hM]; exact ⟨Nat.le_of_ble_eq_true rfl, Nat.le_of_ble_eq_true rfl⟩) ⟨Nat.zero_le _, Nat.zero_le _⟩ rfl rfl rfl (Nat.le_of_ble_eq_true rfl) rfl d_M_linePlanes_82 (q := 85) rfl ?_
      refine z_aload_n rfl 0 rfl hC d_M_linePlanes_85 (q := 86) rfl ?_
      refine z_aload_n rfl 0 rfl hC d_M_linePlanes_86 (q := 87) rfl ?_
      refine gf_M_19_0 hC d_M_linePlanes_87 (q := 90) rfl ?_
      refine z_iload_n rfl 1 rfl hC d_M_linePlanes_90 (q := 91) rfl ?_
      obtain ⟨hv2, h⟩ := ck_some h
      refine al_wM_4 hC hv2 d_M_linePlanes_91 (q := 92) rfl ?_
      refine z_ineg hC d_M_linePlanes_92 (q := 93) rfl ?_
      refine z_i2l hC d_M_linePlanes_93 (q := 94) rfl ?_
      obtain ⟨v94, S94, hc94, h⟩ := bo_some h
      refine z_callVv (q0 := 0) (As := [.long ((-(gI S82 3 x1.toNatClampNeg)).toInt64)]) hC hA (c_M_plane (z_lOf X) Ω n ((-(gI S82 3 x1.toNatClampNeg)).toInt64) S82 (v94, S94) hc94) k_592 k_589 k_591 ks_43 k_6 h_M_plane (by rw [hM]; exact ⟨Nat.le_of_ble_eq_true rfl, Nat.le_of_ble_eq_true rfl⟩) ⟨Nat.zero_le _, Nat.zero_le _⟩ rfl rfl rfl (Nat.le_of_ble_eq_true rfl) rfl d_M_linePlanes_94 (q := 97) rfl ?_
      refine z_iinc (lv' := [(1, .int (x1 + (1 : Int32))), (0, .ref (Ω.2.2 100)), (2, .int x2)]) 1 rfl rfl (by decide) rfl hC d_M_linePlanes_97 (q := 100) rfl ?_
      refine z_goto (tgt := 7) hC d_M_linePlanes_100 rfl ?_
      refine z_sub [1, 0] rfl ?_
      exact hk7 (x1 + (1 : Int32)) S94 h
    · have h := (if_neg hb).symm.trans h
      refine z_aload_n rfl 0 rfl hC d_M_linePlanes_22 (q := 23) rfl ?_
      refine gf_M_51_0 hC d_M_linePlanes_23 (q := 26) rfl ?_
      refine z_iload_n rfl 2 rfl hC d_M_linePlanes_26 (q := 27) rfl ?_
      refine z_iload_n rfl 2 rfl hC d_M_linePlanes_27 (q := 28) rfl ?_
      refine z_aload_n rfl 0 rfl hC d_M_linePlanes_28 (q := 29) rfl ?_
      refine gf_M_7_0 hC d_M_linePlanes_29 (q := 32) rfl ?_
      refine z_iload_n rfl 1 rfl hC d_M_linePlanes_32 (q := 33) rfl ?_
      obtain ⟨hv1, h⟩ := ck_some h
      refine al_wM_1 hC hv1 d_M_linePlanes_33 (q := 34) rfl ?_
      refine z_icmp_ne (tgt := 46) (q := 37) hC d_M_linePlanes_34 rfl rfl (fun hb => ?_) (fun hb => ?_)
      · have h := (if_neg hb).symm.trans h
        refine z_iload_n rfl 2 rfl hC d_M_linePlanes_46 (q := 47) rfl ?_
        refine z_aload_n rfl 0 rfl hC d_M_linePlanes_47 (q := 48) rfl ?_
        refine gf_M_13_0 hC d_M_linePlanes_48 (q := 51) rfl ?_
        refine z_iload_n rfl 1 rfl hC d_M_linePlanes_51 (q := 52) rfl ?_
        obtain ⟨hv2, h⟩ := ck_some h
        refine al_wM_2 hC hv2 d_M_linePlanes_52 (q := 53) rfl ?_
        refine z_icmp_ne (tgt := 66) (q := 56) hC d_M_linePlanes_53 rfl rfl (fun hb => ?_) (fun hb => ?_)
        · have h := (if_neg hb).symm.trans h
          refine z_iconst (v := (0 : Int32)) (by decide) hC d_M_linePlanes_66 (q := 67) rfl ?_
          exact w_M_linePlanes_67 hC hA hR hM n r k7 (f_M_linePlanes_17 n k7 q) hk7 ih x1 x2 x2 (0 : Int32) S h
        · have h := (if_pos hb).symm.trans h
          refine z_aload_n rfl 0 rfl hC d_M_linePlanes_56 (q := 57) rfl ?_
          refine gf_M_16_0 hC d_M_linePlanes_57 (q := 60) rfl ?_
          refine z_iload_n rfl 1 rfl hC d_M_linePlanes_60 (q := 61) rfl ?_
          obtain ⟨hv3, h⟩ := ck_some h
          refine al_wM_3 hC hv3 d_M_linePlanes_61 (q := 62) rfl ?_
          refine z_ineg hC d_M_linePlanes_62 (q := 63) rfl ?_
          refine z_goto (tgt := 67) hC d_M_linePlanes_63 rfl ?_
          exact w_M_linePlanes_67 hC hA hR hM n r k7 (f_M_linePlanes_17 n k7 q) hk7 ih x1 x2 x2 (-(gI S 2 x1.toNatClampNeg)) S h
      · have h := (if_pos hb).symm.trans h
        refine z_aload_n rfl 0 rfl hC d_M_linePlanes_37 (q := 38) rfl ?_
        refine gf_M_16_0 hC d_M_linePlanes_38 (q := 41) rfl ?_
        refine z_iload_n rfl 1 rfl hC d_M_linePlanes_41 (q := 42) rfl ?_
        obtain ⟨hv2, h⟩ := ck_some h
        refine al_wM_3 hC hv2 d_M_linePlanes_42 (q := 43) rfl ?_
        refine z_goto (tgt := 67) hC d_M_linePlanes_43 rfl ?_
        exact w_M_linePlanes_67 hC hA hR hM n r k7 (f_M_linePlanes_17 n k7 q) hk7 ih x1 x2 x2 (gI S 2 x1.toNatClampNeg) S h
set_option maxRecDepth 20000 in
theorem w_M_linePlanes_7 {X : z_X} {A : Nat → Prop} {Ω : z_O} (hC : z_C X b_M_linePlanes 3 "NodalAuctionModel" Ω) (hA : z_hA X A) (hR : z_R X none) (hM : z_rmOf X = z_rm 1 22) (n : Nat) (r : Unit × z_S) : ∀ (q : Nat) (x1 : Int32) (S : z_S), f_M_linePlanes_7 n q x1 S = some r → z_At X A (z_QV X Ω A (wM Ω r.2)) Ω 0 0 3 7 [(0, .ref (Ω.2.2 100)), (1, .int x1)] [] (wM Ω S) := by
  intro q
  induction q with
  | zero => intro x1 S h; cases h
  | succ q ih =>
    intro x1 S h
    refine z_iload_n rfl 1 rfl hC d_M_linePlanes_7 (q := 8) rfl ?_
    refine z_aload_n rfl 0 rfl hC d_M_linePlanes_8 (q := 9) rfl ?_
    refine gf_M_86_0 hC d_M_linePlanes_9 (q := 12) rfl ?_
    refine z_icmp_ge (tgt := 103) (q := 15) hC d_M_linePlanes_12 rfl rfl (fun hb => ?_) (fun hb => ?_)
    · have h := (if_pos hb).symm.trans h
      cases h
      exact z_vret hC hR rfl d_M_linePlanes_103
    · have h := (if_neg hb).symm.trans h
      refine z_iconst (v := (0 : Int32)) (by decide) hC d_M_linePlanes_15 (q := 16) rfl ?_
      refine z_istore_n (lv' := [(2, .int (0 : Int32)), (0, .ref (Ω.2.2 100)), (1, .int x1)]) rfl (by decide) rfl hC d_M_linePlanes_16 (q := 17) rfl ?_
      refine z_sub [1, 2, 0] rfl ?_
      exact w_M_linePlanes_17 hC hA hR hM n r (f_M_linePlanes_7 n q) ih n x1 (0 : Int32) S h
set_option maxRecDepth 20000 in
theorem w_M_linePlanes {X : z_X} {A : Nat → Prop} {Ω : z_O} (hC : z_C X b_M_linePlanes 3 "NodalAuctionModel" Ω) (hA : z_hA X A) (hR : z_R X none) (hM : z_rmOf X = z_rm 1 22) (n : Nat) (r : Unit × z_S) (S : z_S) (h : f_M_linePlanes n S = some r) : z_At X A (z_QV X Ω A (wM Ω r.2)) Ω 0 0 3 0 [(0, .ref (Ω.2.2 100))] [] (wM Ω S) := by
  refine z_aload_n rfl 0 rfl hC d_M_linePlanes_0 (q := 1) rfl ?_
  refine z_iconst (v := (0 : Int32)) (by decide) hC d_M_linePlanes_1 (q := 2) rfl ?_
  refine pf_M_105_0 hC d_M_linePlanes_2 (q := 5) rfl ?_
  refine z_iconst (v := (0 : Int32)) (by decide) hC d_M_linePlanes_5 (q := 6) rfl ?_
  refine z_istore_n (lv' := [(1, .int (0 : Int32)), (0, .ref (Ω.2.2 100))]) rfl (by decide) rfl hC d_M_linePlanes_6 (q := 7) rfl ?_
  refine z_sub [1, 0] rfl ?_
  exact w_M_linePlanes_7 hC hA hR hM n r n (0 : Int32) (sF S 2 (0 : Int32)) h
theorem c_M_linePlanes (l : Launch) (Ω : z_O) (n : Nat) (S : z_S) (r : Unit × z_S) (h : f_M_linePlanes n S = some r) : z_MV l Ω y_M_linePlanes b_M_linePlanes 3 1 22 [.ref (Ω.2.2 100)] (wM Ω S) (wM Ω r.2) := z_introV (by decide +kernel) (Nat.le_of_ble_eq_true rfl) rfl (fun X A hC hA hR _ hM => w_M_linePlanes hC hA hR hM n r S h)
def f_M_offered_49 (n : Nat) (k5 : Int32 → Int64 → Int32 → z_S → Option (Int64 × z_S)) (x1 : Int32) (x4 : Int32) (t0 : Int64) (S : z_S) : Option (Int64 × z_S) := k5 x1 t0 (x4 + (1 : Int32)) S
def f_M_offered_48 (n : Nat) (k5 : Int32 → Int64 → Int32 → z_S → Option (Int64 × z_S)) (x1 : Int32) (x2 : Int64) (x4 : Int32) (S : z_S) : Option (Int64 × z_S) := f_M_offered_49 n k5 x1 x4 x2 S
def f_M_offered_5 (n : Nat) : Nat → Int32 → Int64 → Int32 → z_S → Option (Int64 × z_S)
  | 0, _, _, _, _ => none
  | q + 1, x1, x2, x4, S => (if (gF S 1) ≤ x4 then some (x2, S) else ck (vi x4 8) ((if (gI S 5 x4.toNatClampNeg) = x1 then ck (vi x4 8) ((if (gI S 4 x4.toNatClampNeg) = 0 then ck (vi x4 8) (f_M_offered_49 n (f_M_offered_5 n q) x1 x4 (x2 + ((gI S 7 x4.toNatClampNeg).toInt64)) S) else f_M_offered_48 n (f_M_offered_5 n q) x1 x2 x4 S)) else f_M_offered_48 n (f_M_offered_5 n q) x1 x2 x4 S)))
def f_M_offered (n : Nat) (x1 : Int32) (S : z_S) : Option (Int64 × z_S) := f_M_offered_5 n n x1 (0 : Int64) (0 : Int32) S
set_option maxRecDepth 20000 in
theorem w_M_offered_49 {X : z_X} {A : Nat → Prop} {Ω : z_O} (hC : z_C X b_M_offered 5 "NodalAuctionModel" Ω) (hA : z_hA X A) (hR : z_R X (some .long)) (hM : z_rmOf X = z_rm 0 0) (n : Nat) (r : Int64 × z_S) (k5 : Int32 → Int64 → Int32 → z_S → Option (Int64 × z_S)) (hk5 : ∀ (x1 : Int32) (x2 : Int64) (x4 : Int32) (S : z_S), k5 x1 x2 x4 S = some r → z_At X A (z_QL X Ω A r.1 (wM Ω r.2)) Ω 0 0 5 5 [(0, .ref (Ω.2.2 100)), (1, .int x1), (2, .long x2), (4, .int x4)] [] (wM Ω S)) (x1 : Int32) (x4 : Int32) (t0 : Int64) (S : z_S) (h : f_M_offered_49 n k5 x1 x4 t0 S = some r) : z_At X A (z_QL X Ω A r.1 (wM Ω r.2)) Ω 0 0 5 49 [(0, .ref (Ω.2.2 100)), (1, .int x1), (4, .int x4)] [.long t0] (wM Ω S) := by
  refine z_lstore_n (lv' := [(2, .long t0), (0, .ref (Ω.2.2 100)), (1, .int x1), (4, .int x4)]) rfl (by decide) rfl hC d_M_offered_49 (q := 50) rfl ?_
  refine z_iinc (lv' := [(4, .int (x4 + (1 : Int32))), (2, .long t0), (0, .ref (Ω.2.2 100)), (1, .int x1)]) 3 rfl rfl (by decide) rfl hC d_M_offered_50 (q := 53) rfl ?_
  refine z_goto (tgt := 5) hC d_M_offered_53 rfl ?_
  refine z_sub [2, 3, 1, 0] rfl ?_
  exact hk5 x1 t0 (x4 + (1 : Int32)) S h
set_option maxRecDepth 20000 in
theorem w_M_offered_48 {X : z_X} {A : Nat → Prop} {Ω : z_O} (hC : z_C X b_M_offered 5 "NodalAuctionModel" Ω) (hA : z_hA X A) (hR : z_R X (some .long)) (hM : z_rmOf X = z_rm 0 0) (n : Nat) (r : Int64 × z_S) (k5 : Int32 → Int64 → Int32 → z_S → Option (Int64 × z_S)) (hk5 : ∀ (x1 : Int32) (x2 : Int64) (x4 : Int32) (S : z_S), k5 x1 x2 x4 S = some r → z_At X A (z_QL X Ω A r.1 (wM Ω r.2)) Ω 0 0 5 5 [(0, .ref (Ω.2.2 100)), (1, .int x1), (2, .long x2), (4, .int x4)] [] (wM Ω S)) (x1 : Int32) (x2 : Int64) (x4 : Int32) (S : z_S) (h : f_M_offered_48 n k5 x1 x2 x4 S = some r) : z_At X A (z_QL X Ω A r.1 (wM Ω r.2)) Ω 0 0 5 48 [(0, .ref (Ω.2.2 100)), (1, .int x1), (2, .long x2), (4, .int x4)] [] (wM Ω S) := by
  refine z_lload_n rfl 2 rfl hC d_M_offered_48 (q := 49) rfl ?_
  refine z_sub [0, 1, 3] rfl ?_
  exact w_M_offered_49 hC hA hR hM n r k5 hk5 x1 x4 x2 S h
set_option maxRecDepth 20000 in
theorem w_M_offered_5 {X : z_X} {A : Nat → Prop} {Ω : z_O} (hC : z_C X b_M_offered 5 "NodalAuctionModel" Ω) (hA : z_hA X A) (hR : z_R X (some .long)) (hM : z_rmOf X = z_rm 0 0) (n : Nat) (r : Int64 × z_S) : ∀ (q : Nat) (x1 : Int32) (x2 : Int64) (x4 : Int32) (S : z_S), f_M_offered_5 n q x1 x2 x4 S = some r → z_At X A (z_QL X Ω A r.1 (wM Ω r.2)) Ω 0 0 5 5 [(0, .ref (Ω.2.2 100)), (1, .int x1), (2, .long x2), (4, .int x4)] [] (wM Ω S) := by
  intro q
  induction q with
  | zero => intro x1 x2 x4 S h; cases h
  | succ q ih =>
    intro x1 x2 x4 S h
    refine z_iload 3 rfl hC d_M_offered_5 (q := 7) rfl ?_
    refine z_aload_n rfl 0 rfl hC d_M_offered_7 (q := 8) rfl ?_
    refine gf_M_94_0 hC d_M_offered_8 (q := 11) rfl ?_
    refine z_icmp_ge (tgt := 56) (q := 14) hC d_M_offered_11 rfl rfl (fun hb => ?_) (fun hb => ?_)
    · have h := (if_pos hb).symm.trans h
      refine z_lload_n rfl 2 rfl hC d_M_offered_56 (q := 57) rfl ?_
      cases h
      exact z_lret hC hR rfl rfl d_M_offered_57
    · have h := (if_neg hb).symm.trans h
      refine z_aload_n rfl 0 rfl hC d_M_offered_14 (q := 15) rfl ?_
      refine gf_M_26_0 hC d_M_offered_15 (q := 18) rfl ?_
      refine z_iload 3 rfl hC d_M_offered_18 (q := 20) rfl ?_
      obtain ⟨hv1, h⟩ := ck_some h
      refine al_wM_6 hC hv1 d_M_offered_20 (q := 21) rfl ?_
      refine z_iload_n rfl 1 rfl hC d_M_offered_21 (q := 22) rfl ?_
      refine z_icmp_ne (tgt := 48) (q := 25) hC d_M_offered_22 rfl rfl (fun hb => ?_) (fun hb => ?_)
      · have h := (if_neg hb).symm.trans h
        exact w_M_offered_48 hC hA hR hM n r (f_M_offered_5 n q) ih x1 x2 x4 S h
      · have h := (if_pos hb).symm.trans h
        refine z_aload_n rfl 0 rfl hC d_M_offered_25 (q := 26) rfl ?_
        refine gf_M_22_0 hC d_M_offered_26 (q := 29) rfl ?_
        refine z_iload 3 rfl hC d_M_offered_29 (q := 31) rfl ?_
        obtain ⟨hv2, h⟩ := ck_some h
        refine al_wM_5 hC hv2 d_M_offered_31 (q := 32) rfl ?_
        refine z_if_ne (tgt := 48) (q := 35) hC d_M_offered_32 rfl rfl (fun hb => ?_) (fun hb => ?_)
        · have h := (if_neg hb).symm.trans h
          exact w_M_offered_48 hC hA hR hM n r (f_M_offered_5 n q) ih x1 x2 x4 S h
        · have h := (if_pos hb).symm.trans h
          refine z_lload_n rfl 2 rfl hC d_M_offered_35 (q := 36) rfl ?_
          refine z_aload_n rfl 0 rfl hC d_M_offered_36 (q := 37) rfl ?_
          refine gf_M_32_0 hC d_M_offered_37 (q := 40) rfl ?_
          refine z_iload 3 rfl hC d_M_offered_40 (q := 42) rfl ?_
          obtain ⟨hv3, h⟩ := ck_some h
          refine al_wM_8 hC hv3 d_M_offered_42 (q := 43) rfl ?_
          refine z_i2l hC d_M_offered_43 (q := 44) rfl ?_
          refine z_ladd hC d_M_offered_44 (q := 45) rfl ?_
          refine z_goto (tgt := 49) hC d_M_offered_45 rfl ?_
          refine z_sub [0, 1, 3] rfl ?_
          exact w_M_offered_49 hC hA hR hM n r (f_M_offered_5 n q) ih x1 x4 (x2 + ((gI S 7 x4.toNatClampNeg).toInt64)) S h
set_option maxRecDepth 20000 in
theorem w_M_offered {X : z_X} {A : Nat → Prop} {Ω : z_O} (hC : z_C X b_M_offered 5 "NodalAuctionModel" Ω) (hA : z_hA X A) (hR : z_R X (some .long)) (hM : z_rmOf X = z_rm 0 0) (n : Nat) (r : Int64 × z_S) (x1 : Int32) (S : z_S) (h : f_M_offered n x1 S = some r) : z_At X A (z_QL X Ω A r.1 (wM Ω r.2)) Ω 0 0 5 0 [(0, .ref (Ω.2.2 100)), (1, .int x1)] [] (wM Ω S) := by
  refine z_lconst (v := (0 : Int64)) (by decide) hC d_M_offered_0 (q := 1) rfl ?_
  refine z_lstore_n (lv' := [(2, .long (0 : Int64)), (0, .ref (Ω.2.2 100)), (1, .int x1)]) rfl (by decide) rfl hC d_M_offered_1 (q := 2) rfl ?_
  refine z_iconst (v := (0 : Int32)) (by decide) hC d_M_offered_2 (q := 3) rfl ?_
  refine z_istore (lv' := [(4, .int (0 : Int32)), (2, .long (0 : Int64)), (0, .ref (Ω.2.2 100)), (1, .int x1)]) (by decide) rfl hC d_M_offered_3 (q := 5) rfl ?_
  refine z_sub [2, 3, 1, 0] rfl ?_
  exact w_M_offered_5 hC hA hR hM n r n x1 (0 : Int64) (0 : Int32) S h
theorem c_M_offered (l : Launch) (Ω : z_O) (n : Nat) (x1 : Int32) (S : z_S) (r : Int64 × z_S) (h : f_M_offered n x1 S = some r) : z_ML l Ω y_M_offered b_M_offered 5 .long 0 0 [.ref (Ω.2.2 100), .int x1] (wM Ω S) r.1 (wM Ω r.2) := z_introL (by decide +kernel) (Nat.le_of_ble_eq_true rfl) rfl (fun X A hC hA hR _ hM => w_M_offered hC hA hR hM n r x1 S h)
def f_M_nodePlanes_114 (n : Nat) (k2 : Int32 → Int32 → z_S → Option (Unit × z_S)) (k29 : Int32 → Int32 → Int32 → z_S → Option (Unit × z_S)) (x1 : Int32) (x2 : Int32) (x3 : Int32) (S : z_S) : Option (Unit × z_S) := k29 x1 x2 (x3 + (1 : Int32)) S
def f_M_nodePlanes_74 (n : Nat) (k2 : Int32 → Int32 → z_S → Option (Unit × z_S)) (k29 : Int32 → Int32 → Int32 → z_S → Option (Unit × z_S)) (x1 : Int32) (x2 : Int32) (x3 : Int32) (x4 : Int32) (S : z_S) : Option (Unit × z_S) := ck (vi x4 4) (ck (vi x3 6) (ck (vi x4 4) (ck (vi x2 4) (ck (vi x3 6) (ck (vi x2 4) (f_M_nodePlanes_114 n k2 k29 x1 x2 x3 (sI (sI S 9 (upd (gI S 9) x4.toNatClampNeg ((gI S 9 x4.toNatClampNeg) + (gI S 2 x3.toNatClampNeg)))) 9 (upd (gI (sI S 9 (upd (gI S 9) x4.toNatClampNeg ((gI S 9 x4.toNatClampNeg) + (gI S 2 x3.toNatClampNeg)))) 9) x2.toNatClampNeg ((gI (sI S 9 (upd (gI S 9) x4.toNatClampNeg ((gI S 9 x4.toNatClampNeg) + (gI S 2 x3.toNatClampNeg)))) 9 x2.toNatClampNeg) - (gI (sI S 9 (upd (gI S 9) x4.toNatClampNeg ((gI S 9 x4.toNatClampNeg) + (gI S 2 x3.toNatClampNeg)))) 2 x3.toNatClampNeg))))))))))
def f_M_nodePlanes_57 (n : Nat) (k2 : Int32 → Int32 → z_S → Option (Unit × z_S)) (k29 : Int32 → Int32 → Int32 → z_S → Option (Unit × z_S)) (x1 : Int32) (x2 : Int32) (x3 : Int32) (S : z_S) : Option (Unit × z_S) := ck (vi x3 6) (ck (vi x3 6) (f_M_nodePlanes_74 n k2 k29 x1 x2 x3 (((gI S 0 x3.toNatClampNeg) + (gI S 1 x3.toNatClampNeg)) - x2) S))
def f_M_nodePlanes_191 (n : Nat) (k2 : Int32 → Int32 → z_S → Option (Unit × z_S)) (k145 : Int32 → Int32 → Int64 → Int32 → z_S → Option (Unit × z_S)) (x1 : Int32) (x2 : Int32) (x3 : Int64) (x5 : Int32) (S : z_S) : Option (Unit × z_S) := k145 x1 x2 x3 (x5 + (1 : Int32)) S
def f_M_nodePlanes_186 (n : Nat) (k2 : Int32 → Int32 → z_S → Option (Unit × z_S)) (k145 : Int32 → Int32 → Int64 → Int32 → z_S → Option (Unit × z_S)) (x1 : Int32) (x2 : Int32) (x3 : Int64) (x5 : Int32) (S : z_S) : Option (Unit × z_S) := bo (f_M_plane n x3 S) (fun _ S188 => f_M_nodePlanes_191 n k2 k145 x1 x2 x3 x5 S188)
def f_M_nodePlanes_145 (n : Nat) (k2 : Int32 → Int32 → z_S → Option (Unit × z_S)) : Nat → Int32 → Int32 → Int64 → Int32 → z_S → Option (Unit × z_S)
  | 0, _, _, _, _, _ => none
  | q + 1, x1, x2, x3, x5, S => (if (gF S 1) ≤ x5 then k2 x1 (x2 + (1 : Int32)) S else ck (vi x5 8) (ck (vi (gI S 8 x5.toNatClampNeg) 8) ((if (gI S 5 ((gI S 8 x5.toNatClampNeg).toNatClampNeg)) = x2 then ck (vi x5 8) (ck (vi (gI S 8 x5.toNatClampNeg) 8) (f_M_nodePlanes_186 n k2 (f_M_nodePlanes_145 n k2 q) x1 x2 (x3 + ((gI S 7 ((gI S 8 x5.toNatClampNeg).toNatClampNeg)).toInt64)) x5 S)) else f_M_nodePlanes_191 n k2 (f_M_nodePlanes_145 n k2 q) x1 x2 x3 x5 S))))
def f_M_nodePlanes_130 (n : Nat) (k2 : Int32 → Int32 → z_S → Option (Unit × z_S)) (x1 : Int32) (x2 : Int32) (t0 : Int64) (S : z_S) : Option (Unit × z_S) := bo (f_M_offered n x2 S) (fun v132 S132 => bo (f_M_plane n (t0 - v132) S132) (fun _ S139 => f_M_nodePlanes_145 n k2 n x1 x2 (t0 - v132) (0 : Int32) S139))
def f_M_nodePlanes_29 (n : Nat) (k2 : Int32 → Int32 → z_S → Option (Unit × z_S)) : Nat → Int32 → Int32 → Int32 → z_S → Option (Unit × z_S)
  | 0, _, _, _, _ => none
  | q + 1, x1, x2, x3, S => (if (gF S 0) ≤ x3 then (if x2 = x1 then f_M_nodePlanes_130 n k2 x1 x2 (1 : Int64) S else f_M_nodePlanes_130 n k2 x1 x2 (0 : Int64) S) else ck (vi x3 6) ((if (gI S 0 x3.toNatClampNeg) = x2 then f_M_nodePlanes_57 n k2 (f_M_nodePlanes_29 n k2 q) x1 x2 x3 S else ck (vi x3 6) ((if (gI S 1 x3.toNatClampNeg) = x2 then f_M_nodePlanes_57 n k2 (f_M_nodePlanes_29 n k2 q) x1 x2 x3 S else f_M_nodePlanes_114 n k2 (f_M_nodePlanes_29 n k2 q) x1 x2 x3 S)))))
def f_M_nodePlanes_9 (n : Nat) (k2 : Int32 → Int32 → z_S → Option (Unit × z_S)) : Nat → Int32 → Int32 → Int32 → z_S → Option (Unit × z_S)
  | 0, _, _, _, _ => none
  | q + 1, x1, x2, x3, S => (if (4 : Int32) ≤ x3 then f_M_nodePlanes_29 n k2 n x1 x2 (0 : Int32) S else ck (vi x3 4) (f_M_nodePlanes_9 n k2 q x1 x2 (x3 + (1 : Int32)) (sI S 9 (upd (gI S 9) x3.toNatClampNeg (0 : Int32)))))
def f_M_nodePlanes_2 (n : Nat) : Nat → Int32 → Int32 → z_S → Option (Unit × z_S)
  | 0, _, _, _ => none
  | q + 1, x1, x2, S => (if (4 : Int32) ≤ x2 then some ((), S) else f_M_nodePlanes_9 n (f_M_nodePlanes_2 n q) n x1 x2 (0 : Int32) S)
def f_M_nodePlanes (n : Nat) (x1 : Int32) (S : z_S) : Option (Unit × z_S) := f_M_nodePlanes_2 n n x1 (0 : Int32) S
set_option maxRecDepth 20000 in
theorem w_M_nodePlanes_114 {X : z_X} {A : Nat → Prop} {Ω : z_O} (hC : z_C X b_M_nodePlanes 6 "NodalAuctionModel" Ω) (hA : z_hA X A) (hR : z_R X none) (hM : z_rmOf X = z_rm 1 24) (n : Nat) (r : Unit × z_S) (k2 : Int32 → Int32 → z_S → Option (Unit × z_S)) (k29 : Int32 → Int32 → Int32 → z_S → Option (Unit × z_S)) (hk2 : ∀ (x1 : Int32) (x2 : Int32) (S : z_S), k2 x1 x2 S = some r → z_At X A (z_QV X Ω A (wM Ω r.2)) Ω 0 0 6 2 [(0, .ref (Ω.2.2 100)), (1, .int x1), (2, .int x2)] [] (wM Ω S)) (hk29 : ∀ (x1 : Int32) (x2 : Int32) (x3 : Int32) (S : z_S), k29 x1 x2 x3 S = some r → z_At X A (z_QV X Ω A (wM Ω r.2)) Ω 0 0 6 29 [(0, .ref (Ω.2.2 100)), (1, .int x1), (2, .int x2), (3, .int x3)] [] (wM Ω S)) (x1 : Int32) (x2 : Int32) (x3 : Int32) (S : z_S) (h : f_M_nodePlanes_114 n k2 k29 x1 x2 x3 S = some r) : z_At X A (z_QV X Ω A (wM Ω r.2)) Ω 0 0 6 114 [(0, .ref (Ω.2.2 100)), (1, .int x1), (2, .int x2), (3, .int x3)] [] (wM Ω S) := by
  refine z_iinc (lv' := [(3, .int (x3 + (1 : Int32))), (0, .ref (Ω.2.2 100)), (1, .int x1), (2, .int x2)]) 3 rfl rfl (by decide) rfl hC d_M_nodePlanes_114 (q := 117) rfl ?_
  refine z_goto (tgt := 29) hC d_M_nodePlanes_117 rfl ?_
  refine z_sub [1, 2, 3, 0] rfl ?_
  exact hk29 x1 x2 (x3 + (1 : Int32)) S h
set_option maxRecDepth 20000 in
theorem w_M_nodePlanes_74 {X : z_X} {A : Nat → Prop} {Ω : z_O} (hC : z_C X b_M_nodePlanes 6 "NodalAuctionModel" Ω) (hA : z_hA X A) (hR : z_R X none) (hM : z_rmOf X = z_rm 1 24) (n : Nat) (r : Unit × z_S) (k2 : Int32 → Int32 → z_S → Option (Unit × z_S)) (k29 : Int32 → Int32 → Int32 → z_S → Option (Unit × z_S)) (hk2 : ∀ (x1 : Int32) (x2 : Int32) (S : z_S), k2 x1 x2 S = some r → z_At X A (z_QV X Ω A (wM Ω r.2)) Ω 0 0 6 2 [(0, .ref (Ω.2.2 100)), (1, .int x1), (2, .int x2)] [] (wM Ω S)) (hk29 : ∀ (x1 : Int32) (x2 : Int32) (x3 : Int32) (S : z_S), k29 x1 x2 x3 S = some r → z_At X A (z_QV X Ω A (wM Ω r.2)) Ω 0 0 6 29 [(0, .ref (Ω.2.2 100)), (1, .int x1), (2, .int x2), (3, .int x3)] [] (wM Ω S)) (x1 : Int32) (x2 : Int32) (x3 : Int32) (x4 : Int32) (S : z_S) (h : f_M_nodePlanes_74 n k2 k29 x1 x2 x3 x4 S = some r) : z_At X A (z_QV X Ω A (wM Ω r.2)) Ω 0 0 6 74 [(0, .ref (Ω.2.2 100)), (1, .int x1), (2, .int x2), (3, .int x3), (4, .int x4)] [] (wM Ω S) := by
  refine z_aload_n rfl 0 rfl hC d_M_nodePlanes_74 (q := 75) rfl ?_
  refine gf_M_51_0 hC d_M_nodePlanes_75 (q := 78) rfl ?_
  refine z_iload 4 rfl hC d_M_nodePlanes_78 (q := 80) rfl ?_
  refine z_aload_n rfl 0 rfl hC d_M_nodePlanes_80 (q := 81) rfl ?_
  refine gf_M_51_0 hC d_M_nodePlanes_81 (q := 84) rfl ?_
  refine z_iload 4 rfl hC d_M_nodePlanes_84 (q := 86) rfl ?_
  obtain ⟨hv1, h⟩ := ck_some h
  refine al_wM_14 hC hv1 d_M_nodePlanes_86 (q := 87) rfl ?_
  refine z_aload_n rfl 0 rfl hC d_M_nodePlanes_87 (q := 88) rfl ?_
  refine gf_M_16_0 hC d_M_nodePlanes_88 (q := 91) rfl ?_
  refine z_iload_n rfl 3 rfl hC d_M_nodePlanes_91 (q := 92) rfl ?_
  obtain ⟨hv2, h⟩ := ck_some h
  refine al_wM_3 hC hv2 d_M_nodePlanes_92 (q := 93) rfl ?_
  refine z_iadd hC d_M_nodePlanes_93 (q := 94) rfl ?_
  obtain ⟨hv3, h⟩ := ck_some h
  refine as_wM_14 hC hv3 d_M_nodePlanes_94 (q := 95) rfl ?_
  refine z_aload_n rfl 0 rfl hC d_M_nodePlanes_95 (q := 96) rfl ?_
  refine gf_M_51_0 hC d_M_nodePlanes_96 (q := 99) rfl ?_
  refine z_iload_n rfl 2 rfl hC d_M_nodePlanes_99 (q := 100) rfl ?_
  refine z_aload_n rfl 0 rfl hC d_M_nodePlanes_100 (q := 101) rfl ?_
  refine gf_M_51_0 hC d_M_nodePlanes_101 (q := 104) rfl ?_
  refine z_iload_n rfl 2 rfl hC d_M_nodePlanes_104 (q := 105) rfl ?_
  obtain ⟨hv4, h⟩ := ck_some h
  refine al_wM_14 hC hv4 d_M_nodePlanes_105 (q := 106) rfl ?_
  refine z_aload_n rfl 0 rfl hC d_M_nodePlanes_106 (q := 107) rfl ?_
  refine gf_M_16_0 hC d_M_nodePlanes_107 (q := 110) rfl ?_
  refine z_iload_n rfl 3 rfl hC d_M_nodePlanes_110 (q := 111) rfl ?_
  obtain ⟨hv5, h⟩ := ck_some h
  refine al_wM_3 hC hv5 d_M_nodePlanes_111 (q := 112) rfl ?_
  refine z_isub hC d_M_nodePlanes_112 (q := 113) rfl ?_
  obtain ⟨hv6, h⟩ := ck_some h
  refine as_wM_14 hC hv6 d_M_nodePlanes_113 (q := 114) rfl ?_
  refine z_sub [0, 1, 2, 3] rfl ?_
  exact w_M_nodePlanes_114 hC hA hR hM n r k2 k29 hk2 hk29 x1 x2 x3 (sI (sI S 9 (upd (gI S 9) x4.toNatClampNeg ((gI S 9 x4.toNatClampNeg) + (gI S 2 x3.toNatClampNeg)))) 9 (upd (gI (sI S 9 (upd (gI S 9) x4.toNatClampNeg ((gI S 9 x4.toNatClampNeg) + (gI S 2 x3.toNatClampNeg)))) 9) x2.toNatClampNeg ((gI (sI S 9 (upd (gI S 9) x4.toNatClampNeg ((gI S 9 x4.toNatClampNeg) + (gI S 2 x3.toNatClampNeg)))) 9 x2.toNatClampNeg) - (gI (sI S 9 (upd (gI S 9) x4.toNatClampNeg ((gI S 9 x4.toNatClampNeg) + (gI S 2 x3.toNatClampNeg)))) 2 x3.toNatClampNeg)))) h
set_option maxRecDepth 20000 in
theorem w_M_nodePlanes_57 {X : z_X} {A : Nat → Prop} {Ω : z_O} (hC : z_C X b_M_nodePlanes 6 "NodalAuctionModel" Ω) (hA : z_hA X A) (hR : z_R X none) (hM : z_rmOf X = z_rm 1 24) (n : Nat) (r : Unit × z_S) (k2 : Int32 → Int32 → z_S → Option (Unit × z_S)) (k29 : Int32 → Int32 → Int32 → z_S → Option (Unit × z_S)) (hk2 : ∀ (x1 : Int32) (x2 : Int32) (S : z_S), k2 x1 x2 S = some r → z_At X A (z_QV X Ω A (wM Ω r.2)) Ω 0 0 6 2 [(0, .ref (Ω.2.2 100)), (1, .int x1), (2, .int x2)] [] (wM Ω S)) (hk29 : ∀ (x1 : Int32) (x2 : Int32) (x3 : Int32) (S : z_S), k29 x1 x2 x3 S = some r → z_At X A (z_QV X Ω A (wM Ω r.2)) Ω 0 0 6 29 [(0, .ref (Ω.2.2 100)), (1, .int x1), (2, .int x2), (3, .int x3)] [] (wM Ω S)) (x1 : Int32) (x2 : Int32) (x3 : Int32) (S : z_S) (h : f_M_nodePlanes_57 n k2 k29 x1 x2 x3 S = some r) : z_At X A (z_QV X Ω A (wM Ω r.2)) Ω 0 0 6 57 [(0, .ref (Ω.2.2 100)), (1, .int x1), (2, .int x2), (3, .int x3)] [] (wM Ω S) := by
  refine z_aload_n rfl 0 rfl hC d_M_nodePlanes_57 (q := 58) rfl ?_
  refine gf_M_7_0 hC d_M_nodePlanes_58 (q := 61) rfl ?_
  refine z_iload_n rfl 3 rfl hC d_M_nodePlanes_61 (q := 62) rfl ?_
  obtain ⟨hv1, h⟩ := ck_some h
  refine al_wM_1 hC hv1 d_M_nodePlanes_62 (q := 63) rfl ?_
  refine z_aload_n rfl 0 rfl hC d_M_nodePlanes_63 (q := 64) rfl ?_
  refine gf_M_13_0 hC d_M_nodePlanes_64 (q := 67) rfl ?_
  refine z_iload_n rfl 3 rfl hC d_M_nodePlanes_67 (q := 68) rfl ?_
  obtain ⟨hv2, h⟩ := ck_some h
  refine al_wM_2 hC hv2 d_M_nodePlanes_68 (q := 69) rfl ?_
  refine z_iadd hC d_M_nodePlanes_69 (q := 70) rfl ?_
  refine z_iload_n rfl 2 rfl hC d_M_nodePlanes_70 (q := 71) rfl ?_
  refine z_isub hC d_M_nodePlanes_71 (q := 72) rfl ?_
  refine z_istore (lv' := [(4, .int (((gI S 0 x3.toNatClampNeg) + (gI S 1 x3.toNatClampNeg)) - x2)), (0, .ref (Ω.2.2 100)), (1, .int x1), (2, .int x2), (3, .int x3)]) (by decide) rfl hC d_M_nodePlanes_72 (q := 74) rfl ?_
  refine z_sub [1, 2, 3, 4, 0] rfl ?_
  exact w_M_nodePlanes_74 hC hA hR hM n r k2 k29 hk2 hk29 x1 x2 x3 (((gI S 0 x3.toNatClampNeg) + (gI S 1 x3.toNatClampNeg)) - x2) S h
set_option maxRecDepth 20000 in
theorem w_M_nodePlanes_191 {X : z_X} {A : Nat → Prop} {Ω : z_O} (hC : z_C X b_M_nodePlanes 6 "NodalAuctionModel" Ω) (hA : z_hA X A) (hR : z_R X none) (hM : z_rmOf X = z_rm 1 24) (n : Nat) (r : Unit × z_S) (k2 : Int32 → Int32 → z_S → Option (Unit × z_S)) (k145 : Int32 → Int32 → Int64 → Int32 → z_S → Option (Unit × z_S)) (hk2 : ∀ (x1 : Int32) (x2 : Int32) (S : z_S), k2 x1 x2 S = some r → z_At X A (z_QV X Ω A (wM Ω r.2)) Ω 0 0 6 2 [(0, .ref (Ω.2.2 100)), (1, .int x1), (2, .int x2)] [] (wM Ω S)) (hk145 : ∀ (x1 : Int32) (x2 : Int32) (x3 : Int64) (x5 : Int32) (S : z_S), k145 x1 x2 x3 x5 S = some r → z_At X A (z_QV X Ω A (wM Ω r.2)) Ω 0 0 6 145 [(0, .ref (Ω.2.2 100)), (1, .int x1), (2, .int x2), (3, .long x3), (5, .int x5)] [] (wM Ω S)) (x1 : Int32) (x2 : Int32) (x3 : Int64) (x5 : Int32) (S : z_S) (h : f_M_nodePlanes_191 n k2 k145 x1 x2 x3 x5 S = some r) : z_At X A (z_QV X Ω A (wM Ω r.2)) Ω 0 0 6 191 [(0, .ref (Ω.2.2 100)), (1, .int x1), (2, .int x2), (3, .long x3), (5, .int x5)] [] (wM Ω S) := by
  refine z_iinc (lv' := [(5, .int (x5 + (1 : Int32))), (0, .ref (Ω.2.2 100)), (1, .int x1), (2, .int x2), (3, .long x3)]) 4 rfl rfl (by decide) rfl hC d_M_nodePlanes_191 (q := 194) rfl ?_
  refine z_goto (tgt := 145) hC d_M_nodePlanes_194 rfl ?_
  refine z_sub [1, 2, 3, 4, 0] rfl ?_
  exact hk145 x1 x2 x3 (x5 + (1 : Int32)) S h
set_option maxRecDepth 20000 in
theorem w_M_nodePlanes_186 {X : z_X} {A : Nat → Prop} {Ω : z_O} (hC : z_C X b_M_nodePlanes 6 "NodalAuctionModel" Ω) (hA : z_hA X A) (hR : z_R X none) (hM : z_rmOf X = z_rm 1 24) (n : Nat) (r : Unit × z_S) (k2 : Int32 → Int32 → z_S → Option (Unit × z_S)) (k145 : Int32 → Int32 → Int64 → Int32 → z_S → Option (Unit × z_S)) (hk2 : ∀ (x1 : Int32) (x2 : Int32) (S : z_S), k2 x1 x2 S = some r → z_At X A (z_QV X Ω A (wM Ω r.2)) Ω 0 0 6 2 [(0, .ref (Ω.2.2 100)), (1, .int x1), (2, .int x2)] [] (wM Ω S)) (hk145 : ∀ (x1 : Int32) (x2 : Int32) (x3 : Int64) (x5 : Int32) (S : z_S), k145 x1 x2 x3 x5 S = some r → z_At X A (z_QV X Ω A (wM Ω r.2)) Ω 0 0 6 145 [(0, .ref (Ω.2.2 100)), (1, .int x1), (2, .int x2), (3, .long x3), (5, .int x5)] [] (wM Ω S)) (x1 : Int32) (x2 : Int32) (x3 : Int64) (x5 : Int32) (S : z_S) (h : f_M_nodePlanes_186 n k2 k145 x1 x2 x3 x5 S = some r) : z_At X A (z_QV X Ω A (wM Ω r.2)) Ω 0 0 6 186 [(0, .ref (Ω.2.2 100)), (1, .int x1), (2, .int x2), (3, .long x3), (5, .int x5)] [] (wM Ω S) := by
  refine z_aload_n rfl 0 rfl hC d_M_nodePlanes_186 (q := 187) rfl ?_
  refine z_lload_n rfl 3 rfl hC d_M_nodePlanes_187 (q := 188) rfl ?_
  obtain ⟨v188, S188, hc188, h⟩ := bo_some h
  refine z_callVv (q0 := 0) (As := [.long x3]) hC hA (c_M_plane (z_lOf X) Ω n x3 S (v188, S188) hc188) k_592 k_589 k_591 ks_43 k_6 h_M_plane (by rw [hM]; exact ⟨Nat.le_of_ble_eq_true rfl, Nat.le_of_ble_eq_true rfl⟩) ⟨Nat.zero_le _, Nat.zero_le _⟩ rfl rfl rfl (Nat.le_of_ble_eq_true rfl) rfl d_M_nodePlanes_188 (q := 191) rfl ?_
  exact w_M_nodePlanes_191 hC hA hR hM n r k2 k145 hk2 hk145 x1 x2 x3 x5 S188 h
set_option maxRecDepth 20000 in
theorem w_M_nodePlanes_145 {X : z_X} {A : Nat → Prop} {Ω : z_O} (hC : z_C X b_M_nodePlanes 6 "NodalAuctionModel" Ω) (hA : z_hA X A) (hR : z_R X none) (hM : z_rmOf X = z_rm 1 24) (n : Nat) (r : Unit × z_S) (k2 : Int32 → Int32 → z_S → Option (Unit × z_S)) (hk2 : ∀ (x1 : Int32) (x2 : Int32) (S : z_S), k2 x1 x2 S = some r → z_At X A (z_QV X Ω A (wM Ω r.2)) Ω 0 0 6 2 [(0, .ref (Ω.2.2 100)), (1, .int x1), (2, .int x2)] [] (wM Ω S)) : ∀ (q : Nat) (x1 : Int32) (x2 : Int32) (x3 : Int64) (x5 : Int32) (S : z_S), f_M_nodePlanes_145 n k2 q x1 x2 x3 x5 S = some r → z_At X A (z_QV X Ω A (wM Ω r.2)) Ω 0 0 6 145 [(0, .ref (Ω.2.2 100)), (1, .int x1), (2, .int x2), (3, .long x3), (5, .int x5)] [] (wM Ω S) := by
  intro q
  induction q with
  | zero => intro x1 x2 x3 x5 S h; cases h
  | succ q ih =>
    intro x1 x2 x3 x5 S h
    refine z_iload 4 rfl hC d_M_nodePlanes_145 (q := 147) rfl ?_
    refine z_aload_n rfl 0 rfl hC d_M_nodePlanes_147 (q := 148) rfl ?_
    refine gf_M_94_0 hC d_M_nodePlanes_148 (q := 151) rfl ?_
    refine z_icmp_ge (tgt := 197) (q := 154) hC d_M_nodePlanes_151 rfl rfl (fun hb => ?_) (fun hb => ?_)
    · have h := (if_pos hb).symm.trans h
      refine z_iinc (lv' := [(2, .int (x2 + (1 : Int32))), (0, .ref (Ω.2.2 100)), (1, .int x1), (3, .long x3), (5, .int x5)]) 2 rfl rfl (by decide) rfl hC d_M_nodePlanes_197 (q := 200) rfl ?_
      refine z_goto (tgt := 2) hC d_M_nodePlanes_200 rfl ?_
      refine z_sub [1, 2, 0] rfl ?_
      exact hk2 x1 (x2 + (1 : Int32)) S h
    · have h := (if_neg hb).symm.trans h
      refine z_aload_n rfl 0 rfl hC d_M_nodePlanes_154 (q := 155) rfl ?_
      refine gf_M_26_0 hC d_M_nodePlanes_155 (q := 158) rfl ?_
      refine z_aload_n rfl 0 rfl hC d_M_nodePlanes_158 (q := 159) rfl ?_
      refine gf_M_35_0 hC d_M_nodePlanes_159 (q := 162) rfl ?_
      refine z_iload 4 rfl hC d_M_nodePlanes_162 (q := 164) rfl ?_
      obtain ⟨hv1, h⟩ := ck_some h
      refine al_wM_9 hC hv1 d_M_nodePlanes_164 (q := 165) rfl ?_
      obtain ⟨hv2, h⟩ := ck_some h
      refine al_wM_6 hC hv2 d_M_nodePlanes_165 (q := 166) rfl ?_
      refine z_iload_n rfl 2 rfl hC d_M_nodePlanes_166 (q := 167) rfl ?_
      refine z_icmp_ne (tgt := 191) (q := 170) hC d_M_nodePlanes_167 rfl rfl (fun hb => ?_) (fun hb => ?_)
      · have h := (if_neg hb).symm.trans h
        exact w_M_nodePlanes_191 hC hA hR hM n r k2 (f_M_nodePlanes_145 n k2 q) hk2 ih x1 x2 x3 x5 S h
      · have h := (if_pos hb).symm.trans h
        refine z_lload_n rfl 3 rfl hC d_M_nodePlanes_170 (q := 171) rfl ?_
        refine z_aload_n rfl 0 rfl hC d_M_nodePlanes_171 (q := 172) rfl ?_
        refine gf_M_32_0 hC d_M_nodePlanes_172 (q := 175) rfl ?_
        refine z_aload_n rfl 0 rfl hC d_M_nodePlanes_175 (q := 176) rfl ?_
        refine gf_M_35_0 hC d_M_nodePlanes_176 (q := 179) rfl ?_
        refine z_iload 4 rfl hC d_M_nodePlanes_179 (q := 181) rfl ?_
        obtain ⟨hv3, h⟩ := ck_some h
        refine al_wM_9 hC hv3 d_M_nodePlanes_181 (q := 182) rfl ?_
        obtain ⟨hv4, h⟩ := ck_some h
        refine al_wM_8 hC hv4 d_M_nodePlanes_182 (q := 183) rfl ?_
        refine z_i2l hC d_M_nodePlanes_183 (q := 184) rfl ?_
        refine z_ladd hC d_M_nodePlanes_184 (q := 185) rfl ?_
        refine z_lstore_n (lv' := [(3, .long (x3 + ((gI S 7 ((gI S 8 x5.toNatClampNeg).toNatClampNeg)).toInt64))), (0, .ref (Ω.2.2 100)), (1, .int x1), (2, .int x2), (5, .int x5)]) rfl (by decide) rfl hC d_M_nodePlanes_185 (q := 186) rfl ?_
        refine z_sub [1, 2, 3, 0, 4] rfl ?_
        exact w_M_nodePlanes_186 hC hA hR hM n r k2 (f_M_nodePlanes_145 n k2 q) hk2 ih x1 x2 (x3 + ((gI S 7 ((gI S 8 x5.toNatClampNeg).toNatClampNeg)).toInt64)) x5 S h
set_option maxRecDepth 20000 in
theorem w_M_nodePlanes_130 {X : z_X} {A : Nat → Prop} {Ω : z_O} (hC : z_C X b_M_nodePlanes 6 "NodalAuctionModel" Ω) (hA : z_hA X A) (hR : z_R X none) (hM : z_rmOf X = z_rm 1 24) (n : Nat) (r : Unit × z_S) (k2 : Int32 → Int32 → z_S → Option (Unit × z_S)) (hk2 : ∀ (x1 : Int32) (x2 : Int32) (S : z_S), k2 x1 x2 S = some r → z_At X A (z_QV X Ω A (wM Ω r.2)) Ω 0 0 6 2 [(0, .ref (Ω.2.2 100)), (1, .int x1), (2, .int x2)] [] (wM Ω S)) (x1 : Int32) (x2 : Int32) (t0 : Int64) (S : z_S) (h : f_M_nodePlanes_130 n k2 x1 x2 t0 S = some r) : z_At X A (z_QV X Ω A (wM Ω r.2)) Ω 0 0 6 130 [(0, .ref (Ω.2.2 100)), (1, .int x1), (2, .int x2)] [.long t0] (wM Ω S) := by
  refine z_aload_n rfl 0 rfl hC d_M_nodePlanes_130 (q := 131) rfl ?_
  refine z_iload_n rfl 2 rfl hC d_M_nodePlanes_131 (q := 132) rfl ?_
  obtain ⟨v132, S132, hc132, h⟩ := bo_some h
  refine z_callVl (q0 := 0) (As := [.int x2]) hC hA (c_M_offered (z_lOf X) Ω n x2 S (v132, S132) hc132) k_600 k_597 k_599 ks_45 k_6 h_M_offered (by rw [hM]; exact ⟨Nat.le_of_ble_eq_true rfl, Nat.le_of_ble_eq_true rfl⟩) ⟨Nat.zero_le _, Nat.zero_le _⟩ rfl rfl rfl (Nat.le_of_ble_eq_true rfl) rfl d_M_nodePlanes_132 (q := 135) rfl ?_
  refine z_lsub hC d_M_nodePlanes_135 (q := 136) rfl ?_
  refine z_lstore_n (lv' := [(3, .long (t0 - v132)), (0, .ref (Ω.2.2 100)), (1, .int x1), (2, .int x2)]) rfl (by decide) rfl hC d_M_nodePlanes_136 (q := 137) rfl ?_
  refine z_aload_n rfl 1 rfl hC d_M_nodePlanes_137 (q := 138) rfl ?_
  refine z_lload_n rfl 0 rfl hC d_M_nodePlanes_138 (q := 139) rfl ?_
  obtain ⟨v139, S139, hc139, h⟩ := bo_some h
  refine z_callVv (q0 := 0) (As := [.long (t0 - v132)]) hC hA (c_M_plane (z_lOf X) Ω n (t0 - v132) S132 (v139, S139) hc139) k_592 k_589 k_591 ks_43 k_6 h_M_plane (by rw [hM]; exact ⟨Nat.le_of_ble_eq_true rfl, Nat.le_of_ble_eq_true rfl⟩) ⟨Nat.zero_le _, Nat.zero_le _⟩ rfl rfl rfl (Nat.le_of_ble_eq_true rfl) rfl d_M_nodePlanes_139 (q := 142) rfl ?_
  refine z_iconst (v := (0 : Int32)) (by decide) hC d_M_nodePlanes_142 (q := 143) rfl ?_
  refine z_istore (lv' := [(5, .int (0 : Int32)), (3, .long (t0 - v132)), (0, .ref (Ω.2.2 100)), (1, .int x1), (2, .int x2)]) (by decide) rfl hC d_M_nodePlanes_143 (q := 145) rfl ?_
  refine z_sub [2, 3, 4, 1, 0] rfl ?_
  exact w_M_nodePlanes_145 hC hA hR hM n r k2 hk2 n x1 x2 (t0 - v132) (0 : Int32) S139 h
set_option maxRecDepth 20000 in
theorem w_M_nodePlanes_29 {X : z_X} {A : Nat → Prop} {Ω : z_O} (hC : z_C X b_M_nodePlanes 6 "NodalAuctionModel" Ω) (hA : z_hA X A) (hR : z_R X none) (hM : z_rmOf X = z_rm 1 24) (n : Nat) (r : Unit × z_S) (k2 : Int32 → Int32 → z_S → Option (Unit × z_S)) (hk2 : ∀ (x1 : Int32) (x2 : Int32) (S : z_S), k2 x1 x2 S = some r → z_At X A (z_QV X Ω A (wM Ω r.2)) Ω 0 0 6 2 [(0, .ref (Ω.2.2 100)), (1, .int x1), (2, .int x2)] [] (wM Ω S)) : ∀ (q : Nat) (x1 : Int32) (x2 : Int32) (x3 : Int32) (S : z_S), f_M_nodePlanes_29 n k2 q x1 x2 x3 S = some r → z_At X A (z_QV X Ω A (wM Ω r.2)) Ω 0 0 6 29 [(0, .ref (Ω.2.2 100)), (1, .int x1), (2, .int x2), (3, .int x3)] [] (wM Ω S) := by
  intro q
  induction q with
  | zero => intro x1 x2 x3 S h; cases h
  | succ q ih =>
    intro x1 x2 x3 S h
    refine z_iload_n rfl 3 rfl hC d_M_nodePlanes_29 (q := 30) rfl ?_
    refine z_aload_n rfl 0 rfl hC d_M_nodePlanes_30 (q := 31) rfl ?_
    refine gf_M_86_0 hC d_M_nodePlanes_31 (q := 34) rfl ?_
    refine z_icmp_ge (tgt := 120) (q := 37) hC d_M_nodePlanes_34 rfl rfl (fun hb => ?_) (fun hb => ?_)
    · have h := (if_pos hb).symm.trans h
      refine z_iload_n rfl 2 rfl hC d_M_nodePlanes_120 (q := 121) rfl ?_
      refine z_iload_n rfl 1 rfl hC d_M_nodePlanes_121 (q := 122) rfl ?_
      refine z_icmp_ne (tgt := 129) (q := 125) hC d_M_nodePlanes_122 rfl rfl (fun hb => ?_) (fun hb => ?_)
      · have h := (if_neg hb).symm.trans h
        refine z_lconst (v := (0 : Int64)) (by decide) hC d_M_nodePlanes_129 (q := 130) rfl ?_
        refine z_sub [0, 1, 2] rfl ?_
        exact w_M_nodePlanes_130 hC hA hR hM n r k2 hk2 x1 x2 (0 : Int64) S h
      · have h := (if_pos hb).symm.trans h
        refine z_lconst (v := (1 : Int64)) (by decide) hC d_M_nodePlanes_125 (q := 126) rfl ?_
        refine z_goto (tgt := 130) hC d_M_nodePlanes_126 rfl ?_
        refine z_sub [0, 1, 2] rfl ?_
        exact w_M_nodePlanes_130 hC hA hR hM n r k2 hk2 x1 x2 (1 : Int64) S h
    · have h := (if_neg hb).symm.trans h
      refine z_aload_n rfl 0 rfl hC d_M_nodePlanes_37 (q := 38) rfl ?_
      refine gf_M_7_0 hC d_M_nodePlanes_38 (q := 41) rfl ?_
      refine z_iload_n rfl 3 rfl hC d_M_nodePlanes_41 (q := 42) rfl ?_
      obtain ⟨hv1, h⟩ := ck_some h
      refine al_wM_1 hC hv1 d_M_nodePlanes_42 (q := 43) rfl ?_
      refine z_iload_n rfl 2 rfl hC d_M_nodePlanes_43 (q := 44) rfl ?_
      refine z_icmp_eq (tgt := 57) (q := 47) hC d_M_nodePlanes_44 rfl rfl (fun hb => ?_) (fun hb => ?_)
      · have h := (if_pos hb).symm.trans h
        exact w_M_nodePlanes_57 hC hA hR hM n r k2 (f_M_nodePlanes_29 n k2 q) hk2 ih x1 x2 x3 S h
      · have h := (if_neg hb).symm.trans h
        refine z_aload_n rfl 0 rfl hC d_M_nodePlanes_47 (q := 48) rfl ?_
        refine gf_M_13_0 hC d_M_nodePlanes_48 (q := 51) rfl ?_
        refine z_iload_n rfl 3 rfl hC d_M_nodePlanes_51 (q := 52) rfl ?_
        obtain ⟨hv2, h⟩ := ck_some h
        refine al_wM_2 hC hv2 d_M_nodePlanes_52 (q := 53) rfl ?_
        refine z_iload_n rfl 2 rfl hC d_M_nodePlanes_53 (q := 54) rfl ?_
        refine z_icmp_ne (tgt := 114) (q := 57) hC d_M_nodePlanes_54 rfl rfl (fun hb => ?_) (fun hb => ?_)
        · have h := (if_neg hb).symm.trans h
          exact w_M_nodePlanes_114 hC hA hR hM n r k2 (f_M_nodePlanes_29 n k2 q) hk2 ih x1 x2 x3 S h
        · have h := (if_pos hb).symm.trans h
          exact w_M_nodePlanes_57 hC hA hR hM n r k2 (f_M_nodePlanes_29 n k2 q) hk2 ih x1 x2 x3 S h
set_option maxRecDepth 20000 in
theorem w_M_nodePlanes_9 {X : z_X} {A : Nat → Prop} {Ω : z_O} (hC : z_C X b_M_nodePlanes 6 "NodalAuctionModel" Ω) (hA : z_hA X A) (hR : z_R X none) (hM : z_rmOf X = z_rm 1 24) (n : Nat) (r : Unit × z_S) (k2 : Int32 → Int32 → z_S → Option (Unit × z_S)) (hk2 : ∀ (x1 : Int32) (x2 : Int32) (S : z_S), k2 x1 x2 S = some r → z_At X A (z_QV X Ω A (wM Ω r.2)) Ω 0 0 6 2 [(0, .ref (Ω.2.2 100)), (1, .int x1), (2, .int x2)] [] (wM Ω S)) : ∀ (q : Nat) (x1 : Int32) (x2 : Int32) (x3 : Int32) (S : z_S), f_M_nodePlanes_9 n k2 q x1 x2 x3 S = some r → z_At X A (z_QV X Ω A (wM Ω r.2)) Ω 0 0 6 9 [(0, .ref (Ω.2.2 100)), (1, .int x1), (2, .int x2), (3, .int x3)] [] (wM Ω S) := by
  intro q
  induction q with
  | zero => intro x1 x2 x3 S h; cases h
  | succ q ih =>
    intro x1 x2 x3 S h
    refine z_iload_n rfl 3 rfl hC d_M_nodePlanes_9 (q := 10) rfl ?_
    refine z_iconst (v := (4 : Int32)) (by decide) hC d_M_nodePlanes_10 (q := 11) rfl ?_
    refine z_icmp_ge (tgt := 27) (q := 14) hC d_M_nodePlanes_11 rfl rfl (fun hb => ?_) (fun hb => ?_)
    · have h := (if_pos hb).symm.trans h
      refine z_iconst (v := (0 : Int32)) (by decide) hC d_M_nodePlanes_27 (q := 28) rfl ?_
      refine z_istore_n (lv' := [(3, .int (0 : Int32)), (0, .ref (Ω.2.2 100)), (1, .int x1), (2, .int x2)]) rfl (by decide) rfl hC d_M_nodePlanes_28 (q := 29) rfl ?_
      refine z_sub [1, 2, 3, 0] rfl ?_
      exact w_M_nodePlanes_29 hC hA hR hM n r k2 hk2 n x1 x2 (0 : Int32) S h
    · have h := (if_neg hb).symm.trans h
      refine z_aload_n rfl 0 rfl hC d_M_nodePlanes_14 (q := 15) rfl ?_
      refine gf_M_51_0 hC d_M_nodePlanes_15 (q := 18) rfl ?_
      refine z_iload_n rfl 3 rfl hC d_M_nodePlanes_18 (q := 19) rfl ?_
      refine z_iconst (v := (0 : Int32)) (by decide) hC d_M_nodePlanes_19 (q := 20) rfl ?_
      obtain ⟨hv1, h⟩ := ck_some h
      refine as_wM_14 hC hv1 d_M_nodePlanes_20 (q := 21) rfl ?_
      refine z_iinc (lv' := [(3, .int (x3 + (1 : Int32))), (0, .ref (Ω.2.2 100)), (1, .int x1), (2, .int x2)]) 3 rfl rfl (by decide) rfl hC d_M_nodePlanes_21 (q := 24) rfl ?_
      refine z_goto (tgt := 9) hC d_M_nodePlanes_24 rfl ?_
      refine z_sub [1, 2, 3, 0] rfl ?_
      exact ih x1 x2 (x3 + (1 : Int32)) (sI S 9 (upd (gI S 9) x3.toNatClampNeg (0 : Int32))) h
set_option maxRecDepth 20000 in
theorem w_M_nodePlanes_2 {X : z_X} {A : Nat → Prop} {Ω : z_O} (hC : z_C X b_M_nodePlanes 6 "NodalAuctionModel" Ω) (hA : z_hA X A) (hR : z_R X none) (hM : z_rmOf X = z_rm 1 24) (n : Nat) (r : Unit × z_S) : ∀ (q : Nat) (x1 : Int32) (x2 : Int32) (S : z_S), f_M_nodePlanes_2 n q x1 x2 S = some r → z_At X A (z_QV X Ω A (wM Ω r.2)) Ω 0 0 6 2 [(0, .ref (Ω.2.2 100)), (1, .int x1), (2, .int x2)] [] (wM Ω S) := by
  intro q
  induction q with
  | zero => intro x1 x2 S h; cases h
  | succ q ih =>
    intro x1 x2 S h
    refine z_iload_n rfl 2 rfl hC d_M_nodePlanes_2 (q := 3) rfl ?_
    refine z_iconst (v := (4 : Int32)) (by decide) hC d_M_nodePlanes_3 (q := 4) rfl ?_
    refine z_icmp_ge (tgt := 203) (q := 7) hC d_M_nodePlanes_4 rfl rfl (fun hb => ?_) (fun hb => ?_)
    · have h := (if_pos hb).symm.trans h
      cases h
      exact z_vret hC hR rfl d_M_nodePlanes_203
    · have h := (if_neg hb).symm.trans h
      refine z_iconst (v := (0 : Int32)) (by decide) hC d_M_nodePlanes_7 (q := 8) rfl ?_
      refine z_istore_n (lv' := [(3, .int (0 : Int32)), (0, .ref (Ω.2.2 100)), (1, .int x1), (2, .int x2)]) rfl (by decide) rfl hC d_M_nodePlanes_8 (q := 9) rfl ?_
      refine z_sub [1, 2, 3, 0] rfl ?_
      exact w_M_nodePlanes_9 hC hA hR hM n r (f_M_nodePlanes_2 n q) ih n x1 x2 (0 : Int32) S h
set_option maxRecDepth 20000 in
theorem w_M_nodePlanes {X : z_X} {A : Nat → Prop} {Ω : z_O} (hC : z_C X b_M_nodePlanes 6 "NodalAuctionModel" Ω) (hA : z_hA X A) (hR : z_R X none) (hM : z_rmOf X = z_rm 1 24) (n : Nat) (r : Unit × z_S) (x1 : Int32) (S : z_S) (h : f_M_nodePlanes n x1 S = some r) : z_At X A (z_QV X Ω A (wM Ω r.2)) Ω 0 0 6 0 [(0, .ref (Ω.2.2 100)), (1, .int x1)] [] (wM Ω S) := by
  refine z_iconst (v := (0 : Int32)) (by decide) hC d_M_nodePlanes_0 (q := 1) rfl ?_
  refine z_istore_n (lv' := [(2, .int (0 : Int32)), (0, .ref (Ω.2.2 100)), (1, .int x1)]) rfl (by decide) rfl hC d_M_nodePlanes_1 (q := 2) rfl ?_
  refine z_sub [1, 2, 0] rfl ?_
  exact w_M_nodePlanes_2 hC hA hR hM n r n x1 (0 : Int32) S h
theorem c_M_nodePlanes (l : Launch) (Ω : z_O) (n : Nat) (x1 : Int32) (S : z_S) (r : Unit × z_S) (h : f_M_nodePlanes n x1 S = some r) : z_MV l Ω y_M_nodePlanes b_M_nodePlanes 6 1 24 [.ref (Ω.2.2 100), .int x1] (wM Ω S) (wM Ω r.2) := z_introV (by decide +kernel) (Nat.le_of_ble_eq_true rfl) rfl (fun X A hC hA hR _ hM => w_M_nodePlanes hC hA hR hM n r x1 S h)
