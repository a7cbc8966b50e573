def f_P_rowTop_40 (n : Nat) (k5 : Int32 → Int64 → Int32 → z_S → Option (Int64 × z_S)) (x1 : Int32) (x2 : Int64) (x4 : Int32) (S : z_S) : Option (Int64 × z_S) := k5 x1 x2 (x4 + (1 : Int32)) S
def f_P_rowTop_5 (n : Nat) : Nat → Int32 → Int64 → Int32 → z_S → Option (Int64 × z_S)
  | 0, _, _, _, _ => none
  | q + 1, x1, x2, x4, S => (if (gF S 4) ≤ x4 then some (x2, S) else ck (vi x1 8) (ck (vi x4 8) (ck (vi x4 8) (ck (vi (gI S 14 x4.toNatClampNeg) 16) (f_P_rowTop_40 n (f_P_rowTop_5 n q) x1 (x2 + ((gJ S (8 + x1.toNatClampNeg) (x4.toNatClampNeg)) * ((gI S 17 ((gI S 14 x4.toNatClampNeg).toNatClampNeg)).toInt64))) x4 S)))))
def f_P_rowTop (n : Nat) (x1 : Int32) (S : z_S) : Option (Int64 × z_S) := f_P_rowTop_5 n n x1 (0 : Int64) (0 : Int32) S
set_option maxRecDepth 20000 in
theorem w_P_rowTop_40 {X : z_X} {A : Nat → Prop} {Ω : z_O} (hC : z_C X b_P_rowTop 5 "NodalAuction$Program" Ω) (hA : z_hA X A) (hR : z_R X (some .long)) (hM : z_rmOf X = z_rm 0 0) (n : Nat) (r : Int64 × z_S) (k5 : Int32 → Int64 → Int32 → z_S → Option (Int64 × z_S)) (hk5 : ∀ (x1 : Int32) (x2 : Int64) (x4 : Int32) (S : z_S), k5 x1 x2 x4 S = some r → z_At X A (z_QL X Ω A r.1 (wN Ω r.2)) Ω 0 0 5 5 [(0, .ref (Ω.2.2 4)), (1, .int x1), (2, .long x2), (4, .int x4)] [] (wN Ω S)) (x1 : Int32) (x2 : Int64) (x4 : Int32) (S : z_S) (h : f_P_rowTop_40 n k5 x1 x2 x4 S = some r) : z_At X A (z_QL X Ω A r.1 (wN Ω r.2)) Ω 0 0 5 40 [(0, .ref (Ω.2.2 4)), (1, .int x1), (2, .long x2), (4, .int x4)] [] (wN Ω S) := by
  refine z_iinc (lv' := [(4, .int (x4 + (1 : Int32))), (0, .ref (Ω.2.2 4)), (1, .int x1), (2, .long x2)]) 3 rfl rfl (by decide) rfl hC d_P_rowTop_40 (q := 43) rfl ?_
  refine z_goto (tgt := 5) hC d_P_rowTop_43 rfl ?_
  refine z_sub [1, 2, 3, 0] rfl ?_
  exact hk5 x1 x2 (x4 + (1 : Int32)) S h
set_option maxRecDepth 20000 in
theorem w_P_rowTop_5 {X : z_X} {A : Nat → Prop} {Ω : z_O} (hC : z_C X b_P_rowTop 5 "NodalAuction$Program" Ω) (hA : z_hA X A) (hR : z_R X (some .long)) (hM : z_rmOf X = z_rm 0 0) (n : Nat) (r : Int64 × z_S) : ∀ (q : Nat) (x1 : Int32) (x2 : Int64) (x4 : Int32) (S : z_S), f_P_rowTop_5 n q x1 x2 x4 S = some r → z_At X A (z_QL X Ω A r.1 (wN Ω r.2)) Ω 0 0 5 5 [(0, .ref (Ω.2.2 4)), (1, .int x1), (2, .long x2), (4, .int x4)] [] (wN Ω S) := by
  intro q
  induction q with
  | zero => intro x1 x2 x4 S h; cases h
  | succ q ih =>
    intro x1 x2 x4 S h
    refine z_iload 3 rfl hC d_P_rowTop_5 (q := 7) rfl ?_
    refine z_aload_n rfl 0 rfl hC d_P_rowTop_7 (q := 8) rfl ?_
    refine gf_P_40_4 hC d_P_rowTop_8 (q := 11) rfl ?_
    refine z_icmp_ge (tgt := 46) (q := 14) hC d_P_rowTop_11 rfl rfl (fun hb => ?_) (fun hb => ?_)
    · have h := (if_pos hb).symm.trans h
      refine z_lload_n rfl 2 rfl hC d_P_rowTop_46 (q := 47) rfl ?_
      cases h
      exact z_lret hC hR rfl rfl d_P_rowTop_47
    · have h := (if_neg hb).symm.trans h
      refine z_lload_n rfl 2 rfl hC d_P_rowTop_14 (q := 15) rfl ?_
      refine z_aload_n rfl 0 rfl hC d_P_rowTop_15 (q := 16) rfl ?_
      refine gf_P_11_4 hC d_P_rowTop_16 (q := 19) rfl ?_
      refine z_iload_n rfl 1 rfl hC d_P_rowTop_19 (q := 20) rfl ?_
      obtain ⟨hv1, h⟩ := ck_some h
      refine ao_wN_21 hC hv1 d_P_rowTop_20 (q := 21) rfl ?_
      refine z_iload 3 rfl hC d_P_rowTop_21 (q := 23) rfl ?_
      obtain ⟨hv2, h⟩ := ck_some h
      refine lr_38 hC hv1 hv2 d_P_rowTop_23 (q := 24) rfl ?_
      refine z_aload_n rfl 0 rfl hC d_P_rowTop_24 (q := 25) rfl ?_
      refine gf_P_29_4 hC d_P_rowTop_25 (q := 28) rfl ?_
      refine z_aload_n rfl 0 rfl hC d_P_rowTop_28 (q := 29) rfl ?_
      refine gf_P_20_4 hC d_P_rowTop_29 (q := 32) rfl ?_
      refine z_iload 3 rfl hC d_P_rowTop_32 (q := 34) rfl ?_
      obtain ⟨hv3, h⟩ := ck_some h
      refine al_wN_23 hC hv3 d_P_rowTop_34 (q := 35) rfl ?_
      obtain ⟨hv4, h⟩ := ck_some h
      refine al_wN_26 hC hv4 d_P_rowTop_35 (q := 36) rfl ?_
      refine z_i2l hC d_P_rowTop_36 (q := 37) rfl ?_
      refine z_lmul hC d_P_rowTop_37 (q := 38) rfl ?_
      refine z_ladd hC d_P_rowTop_38 (q := 39) rfl ?_
      refine z_lstore_n (lv' := [(2, .long (x2 + ((gJ S (8 + x1.toNatClampNeg) (x4.toNatClampNeg)) * ((gI S 17 ((gI S 14 x4.toNatClampNeg).toNatClampNeg)).toInt64)))), (0, .ref (Ω.2.2 4)), (1, .int x1), (4, .int x4)]) rfl (by decide) rfl hC d_P_rowTop_39 (q := 40) rfl ?_
      refine z_sub [1, 2, 0, 3] rfl ?_
      exact w_P_rowTop_40 hC hA hR hM n r (f_P_rowTop_5 n q) ih x1 (x2 + ((gJ S (8 + x1.toNatClampNeg) (x4.toNatClampNeg)) * ((gI S 17 ((gI S 14 x4.toNatClampNeg).toNatClampNeg)).toInt64))) x4 S h
set_option maxRecDepth 20000 in
theorem w_P_rowTop {X : z_X} {A : Nat → Prop} {Ω : z_O} (hC : z_C X b_P_rowTop 5 "NodalAuction$Program" Ω) (hA : z_hA X A) (hR : z_R X (some .long)) (hM : z_rmOf X = z_rm 0 0) (n : Nat) (r : Int64 × z_S) (x1 : Int32) (S : z_S) (h : f_P_rowTop n x1 S = some r) : z_At X A (z_QL X Ω A r.1 (wN Ω r.2)) Ω 0 0 5 0 [(0, .ref (Ω.2.2 4)), (1, .int x1)] [] (wN Ω S) := by
  refine z_lconst (v := (0 : Int64)) (by decide) hC d_P_rowTop_0 (q := 1) rfl ?_
  refine z_lstore_n (lv' := [(2, .long (0 : Int64)), (0, .ref (Ω.2.2 4)), (1, .int x1)]) rfl (by decide) rfl hC d_P_rowTop_1 (q := 2) rfl ?_
  refine z_iconst (v := (0 : Int32)) (by decide) hC d_P_rowTop_2 (q := 3) rfl ?_
  refine z_istore (lv' := [(4, .int (0 : Int32)), (2, .long (0 : Int64)), (0, .ref (Ω.2.2 4)), (1, .int x1)]) (by decide) rfl hC d_P_rowTop_3 (q := 5) rfl ?_
  refine z_sub [2, 3, 1, 0] rfl ?_
  exact w_P_rowTop_5 hC hA hR hM n r n x1 (0 : Int64) (0 : Int32) S h
theorem c_P_rowTop (l : Launch) (Ω : z_O) (n : Nat) (x1 : Int32) (S : z_S) (r : Int64 × z_S) (h : f_P_rowTop n x1 S = some r) : z_ML l Ω y_P_rowTop b_P_rowTop 5 .long 0 0 [.ref (Ω.2.2 4), .int x1] (wN Ω S) r.1 (wN Ω r.2) := z_introL (by decide +kernel) (Nat.le_of_ble_eq_true rfl) rfl (fun X A hC hA hR _ hM => w_P_rowTop hC hA hR hM n r x1 S h)
def f_P_rowOf_2 (n : Nat) : Nat → Int32 → Int32 → z_S → Option (Int32 × z_S)
  | 0, _, _, _ => none
  | q + 1, x1, x2, S => (if (gF S 3) ≤ x2 then some ((-1 : Int32), S) else ck (vi x2 8) ((if (gI S 13 x2.toNatClampNeg) = x1 then some (x2, S) else f_P_rowOf_2 n q x1 (x2 + (1 : Int32)) S)))
def f_P_rowOf (n : Nat) (x1 : Int32) (S : z_S) : Option (Int32 × z_S) := f_P_rowOf_2 n n x1 (0 : Int32) S
set_option maxRecDepth 20000 in
theorem w_P_rowOf_2 {X : z_X} {A : Nat → Prop} {Ω : z_O} (hC : z_C X b_P_rowOf 3 "NodalAuction$Program" Ω) (hA : z_hA X A) (hR : z_R X (some .int)) (hM : z_rmOf X = z_rm 0 0) (n : Nat) (r : Int32 × z_S) : ∀ (q : Nat) (x1 : Int32) (x2 : Int32) (S : z_S), f_P_rowOf_2 n q x1 x2 S = some r → z_At X A (z_QI X Ω A r.1 (wN Ω r.2)) Ω 0 0 3 2 [(0, .ref (Ω.2.2 4)), (1, .int x1), (2, .int x2)] [] (wN Ω S) := by
  intro q
  induction q with
  | zero => intro x1 x2 S h; cases h
  | succ q ih =>
    intro x1 x2 S h
    refine z_iload_n rfl 2 rfl hC d_P_rowOf_2 (q := 3) rfl ?_
    refine z_aload_n rfl 0 rfl hC d_P_rowOf_3 (q := 4) rfl ?_
    refine gf_P_36_4 hC d_P_rowOf_4 (q := 7) rfl ?_
    refine z_icmp_ge (tgt := 28) (q := 10) hC d_P_rowOf_7 rfl rfl (fun hb => ?_) (fun hb => ?_)
    · have h := (if_pos hb).symm.trans h
      refine z_iconst (v := (-1 : Int32)) (by decide) hC d_P_rowOf_28 (q := 29) rfl ?_
      cases h
      exact z_iret hC hR rfl rfl d_P_rowOf_29
    · have h := (if_neg hb).symm.trans h
      refine z_aload_n rfl 0 rfl hC d_P_rowOf_10 (q := 11) rfl ?_
      refine gf_P_16_4 hC d_P_rowOf_11 (q := 14) rfl ?_
      refine z_iload_n rfl 2 rfl hC d_P_rowOf_14 (q := 15) rfl ?_
      obtain ⟨hv1, h⟩ := ck_some h
      refine al_wN_22 hC hv1 d_P_rowOf_15 (q := 16) rfl ?_
      refine z_iload_n rfl 1 rfl hC d_P_rowOf_16 (q := 17) rfl ?_
      refine z_icmp_ne (tgt := 22) (q := 20) hC d_P_rowOf_17 rfl rfl (fun hb => ?_) (fun hb => ?_)
      · have h := (if_neg hb).symm.trans h
        refine z_iinc (lv' := [(2, .int (x2 + (1 : Int32))), (0, .ref (Ω.2.2 4)), (1, .int x1)]) 2 rfl rfl (by decide) rfl hC d_P_rowOf_22 (q := 25) rfl ?_
        refine z_goto (tgt := 2) hC d_P_rowOf_25 rfl ?_
        refine z_sub [1, 2, 0] rfl ?_
        exact ih x1 (x2 + (1 : Int32)) S h
      · have h := (if_pos hb).symm.trans h
        refine z_iload_n rfl 2 rfl hC d_P_rowOf_20 (q := 21) rfl ?_
        cases h
        exact z_iret hC hR rfl rfl d_P_rowOf_21
set_option maxRecDepth 20000 in
theorem w_P_rowOf {X : z_X} {A : Nat → Prop} {Ω : z_O} (hC : z_C X b_P_rowOf 3 "NodalAuction$Program" Ω) (hA : z_hA X A) (hR : z_R X (some .int)) (hM : z_rmOf X = z_rm 0 0) (n : Nat) (r : Int32 × z_S) (x1 : Int32) (S : z_S) (h : f_P_rowOf n x1 S = some r) : z_At X A (z_QI X Ω A r.1 (wN Ω r.2)) Ω 0 0 3 0 [(0, .ref (Ω.2.2 4)), (1, .int x1)] [] (wN Ω S) := by
  refine z_iconst (v := (0 : Int32)) (by decide) hC d_P_rowOf_0 (q := 1) rfl ?_
  refine z_istore_n (lv' := [(2, .int (0 : Int32)), (0, .ref (Ω.2.2 4)), (1, .int x1)]) rfl (by decide) rfl hC d_P_rowOf_1 (q := 2) rfl ?_
  refine z_sub [1, 2, 0] rfl ?_
  exact w_P_rowOf_2 hC hA hR hM n r n x1 (0 : Int32) S h
theorem c_P_rowOf (l : Launch) (Ω : z_O) (n : Nat) (x1 : Int32) (S : z_S) (r : Int32 × z_S) (h : f_P_rowOf n x1 S = some r) : z_MI l Ω y_P_rowOf b_P_rowOf 3 .int 0 0 [.ref (Ω.2.2 4), .int x1] (wN Ω S) r.1 (wN Ω r.2) := z_introI (by decide +kernel) (Nat.le_of_ble_eq_true rfl) rfl (fun X A hC hA hR _ hM => w_P_rowOf hC hA hR hM n r x1 S h)
def f_P_top_30 (n : Nat) (t0 : Int64) (S : z_S) : Option (Int64 × z_S) := some (t0, S)
def f_P_top (n : Nat) (x1 : Int32) (S : z_S) : Option (Int64 × z_S) := bo (f_P_rowOf n x1 S) (fun v2 S2 => (if 0 ≤ v2 then bo (f_P_rowTop n v2 S2) (fun v27 S27 => f_P_top_30 n v27 S27) else ck (vi x1 16) (f_P_top_30 n (((gI S2 17 x1.toNatClampNeg).toInt64) * (gG S2 1)) S2)))
set_option maxRecDepth 20000 in
theorem w_P_top_30 {X : z_X} {A : Nat → Prop} {Ω : z_O} (hC : z_C X b_P_top 3 "NodalAuction$Program" Ω) (hA : z_hA X A) (hR : z_R X (some .long)) (hM : z_rmOf X = z_rm 1 24) (n : Nat) (r : Int64 × z_S) (t0 : Int64) (S : z_S) (h : f_P_top_30 n t0 S = some r) : z_At X A (z_QL X Ω A r.1 (wN Ω r.2)) Ω 0 0 3 30 [(0, .ref (Ω.2.2 4))] [.long t0] (wN Ω S) := by
  cases h
  exact z_lret hC hR rfl rfl d_P_top_30
set_option maxRecDepth 20000 in
theorem w_P_top {X : z_X} {A : Nat → Prop} {Ω : z_O} (hC : z_C X b_P_top 3 "NodalAuction$Program" Ω) (hA : z_hA X A) (hR : z_R X (some .long)) (hM : z_rmOf X = z_rm 1 24) (n : Nat) (r : Int64 × z_S) (x1 : Int32) (S : z_S) (h : f_P_top n x1 S = some r) : z_At X A (z_QL X Ω A r.1 (wN Ω r.2)) Ω 0 0 3 0 [(0, .ref (Ω.2.2 4)), (1, .int x1)] [] (wN Ω S) := by
  refine z_aload_n rfl 0 rfl hC d_P_top_0 (q := 1) rfl ?_
  refine z_iload_n rfl 1 rfl hC d_P_top_1 (q := 2) rfl ?_
  obtain ⟨v2, S2, hc2, h⟩ := bo_some h
  refine z_callVi (q0 := 4) (As := [.int x1]) hC hA (c_P_rowOf (z_lOf X) Ω n x1 S (v2, S2) hc2) k_285 k_282 k_284 ks_16 k_4 h_P_rowOf (by rw [hM]; exact ⟨Nat.le_of_ble_eq_true rfl, Nat.le_of_ble_eq_true rfl⟩) ⟨Nat.zero_le _, Nat.zero_le _⟩ rfl rfl rfl (Nat.le_of_ble_eq_true rfl) rfl d_P_top_2 (q := 5) rfl ?_
  refine z_istore_n (lv' := [(2, .int v2), (0, .ref (Ω.2.2 4)), (1, .int x1)]) rfl (by decide) rfl hC d_P_top_5 (q := 6) rfl ?_
  refine z_iload_n rfl 0 rfl hC d_P_top_6 (q := 7) rfl ?_
  refine z_if_ge (tgt := 25) (q := 10) hC d_P_top_7 rfl rfl (fun hb => ?_) (fun hb => ?_)
  · have h := (if_pos hb).symm.trans h
    refine z_aload_n rfl 1 rfl hC d_P_top_25 (q := 26) rfl ?_
    refine z_iload_n rfl 0 rfl hC d_P_top_26 (q := 27) rfl ?_
    obtain ⟨v27, S27, hc27, h⟩ := bo_some h
    refine z_callVl (q0 := 4) (As := [.int v2]) hC hA (c_P_rowTop (z_lOf X) Ω n v2 S2 (v27, S27) hc27) k_309 k_306 k_308 ks_22 k_4 h_P_rowTop (by rw [hM]; exact ⟨Nat.le_of_ble_eq_true rfl, Nat.le_of_ble_eq_true rfl⟩) ⟨Nat.zero_le _, Nat.zero_le _⟩ rfl rfl rfl (Nat.le_of_ble_eq_true rfl) rfl d_P_top_27 (q := 30) rfl ?_
    refine z_sub [1] rfl ?_
    exact w_P_top_30 hC hA hR hM n r v27 S27 h
  · have h := (if_neg hb).symm.trans h
    refine z_aload_n rfl 1 rfl hC d_P_top_10 (q := 11) rfl ?_
    refine gf_P_29_4 hC d_P_top_11 (q := 14) rfl ?_
    refine z_iload_n rfl 2 rfl hC d_P_top_14 (q := 15) rfl ?_
    obtain ⟨hv1, h⟩ := ck_some h
    refine al_wN_26 hC hv1 d_P_top_15 (q := 16) rfl ?_
    refine z_i2l hC d_P_top_16 (q := 17) rfl ?_
    refine z_aload_n rfl 1 rfl hC d_P_top_17 (q := 18) rfl ?_
    refine gf_P_43_4 hC d_P_top_18 (q := 21) rfl ?_
    refine z_lmul hC d_P_top_21 (q := 22) rfl ?_
    refine z_goto (tgt := 30) hC d_P_top_22 rfl ?_
    refine z_sub [1] rfl ?_
    exact w_P_top_30 hC hA hR hM n r (((gI S2 17 x1.toNatClampNeg).toInt64) * (gG S2 1)) S2 h
theorem c_P_top (l : Launch) (Ω : z_O) (n : Nat) (x1 : Int32) (S : z_S) (r : Int64 × z_S) (h : f_P_top n x1 S = some r) : z_ML l Ω y_P_top b_P_top 3 .long 1 24 [.ref (Ω.2.2 4), .int x1] (wN Ω S) r.1 (wN Ω r.2) := z_introL (by decide +kernel) (Nat.le_of_ble_eq_true rfl) rfl (fun X A hC hA hR _ hM => w_P_top hC hA hR hM n r x1 S h)
def f_P_gain_31 (n : Nat) (t0 : Int64) (S : z_S) : Option (Int64 × z_S) := some (t0, S)
def f_P_gain (n : Nat) (x1 : Int32) (x2 : Int32) (x3 : Int32) (S : z_S) : Option (Int64 × z_S) := (if x2 < 0 then ck (vi x3 8) ((if (gI S 14 x3.toNatClampNeg) = x1 then f_P_gain_31 n (gG S 1) S else f_P_gain_31 n (0 : Int64) S)) else ck (vi x2 8) (ck (vi x3 8) (some (gJ S (8 + x2.toNatClampNeg) (x3.toNatClampNeg), S))))
set_option maxRecDepth 20000 in
theorem w_P_gain_31 {X : z_X} {A : Nat → Prop} {Ω : z_O} (hC : z_C X b_P_gain 4 "NodalAuction$Program" Ω) (hA : z_hA X A) (hR : z_R X (some .long)) (hM : z_rmOf X = z_rm 0 0) (n : Nat) (r : Int64 × z_S) (t0 : Int64) (S : z_S) (h : f_P_gain_31 n t0 S = some r) : z_At X A (z_QL X Ω A r.1 (wN Ω r.2)) Ω 0 0 4 31 [(0, .ref (Ω.2.2 4))] [.long t0] (wN Ω S) := by
  cases h
  exact z_lret hC hR rfl rfl d_P_gain_31
set_option maxRecDepth 20000 in
theorem w_P_gain {X : z_X} {A : Nat → Prop} {Ω : z_O} (hC : z_C X b_P_gain 4 "NodalAuction$Program" Ω) (hA : z_hA X A) (hR : z_R X (some .long)) (hM : z_rmOf X = z_rm 0 0) (n : Nat) (r : Int64 × z_S) (x1 : Int32) (x2 : Int32) (x3 : Int32) (S : z_S) (h : f_P_gain n x1 x2 x3 S = some r) : z_At X A (z_QL X Ω A r.1 (wN Ω r.2)) Ω 0 0 4 0 [(0, .ref (Ω.2.2 4)), (1, .int x1), (2, .int x2), (3, .int x3)] [] (wN Ω S) := by
  refine z_iload_n rfl 2 rfl hC d_P_gain_0 (q := 1) rfl ?_
  refine z_if_lt (tgt := 13) (q := 4) hC d_P_gain_1 rfl rfl (fun hb => ?_) (fun hb => ?_)
  · have h := (if_pos hb).symm.trans h
    refine z_aload_n rfl 0 rfl hC d_P_gain_13 (q := 14) rfl ?_
    refine gf_P_20_4 hC d_P_gain_14 (q := 17) rfl ?_
    refine z_iload_n rfl 3 rfl hC d_P_gain_17 (q := 18) rfl ?_
    obtain ⟨hv1, h⟩ := ck_some h
    refine al_wN_23 hC hv1 d_P_gain_18 (q := 19) rfl ?_
    refine z_iload_n rfl 1 rfl hC d_P_gain_19 (q := 20) rfl ?_
    refine z_icmp_ne (tgt := 30) (q := 23) hC d_P_gain_20 rfl rfl (fun hb => ?_) (fun hb => ?_)
    · have h := (if_neg hb).symm.trans h
      refine z_lconst (v := (0 : Int64)) (by decide) hC d_P_gain_30 (q := 31) rfl ?_
      refine z_sub [0] rfl ?_
      exact w_P_gain_31 hC hA hR hM n r (0 : Int64) S h
    · have h := (if_pos hb).symm.trans h
      refine z_aload_n rfl 0 rfl hC d_P_gain_23 (q := 24) rfl ?_
      refine gf_P_43_4 hC d_P_gain_24 (q := 27) rfl ?_
      refine z_goto (tgt := 31) hC d_P_gain_27 rfl ?_
      refine z_sub [0] rfl ?_
      exact w_P_gain_31 hC hA hR hM n r (gG S 1) S h
  · have h := (if_neg hb).symm.trans h
    refine z_aload_n rfl 0 rfl hC d_P_gain_4 (q := 5) rfl ?_
    refine gf_P_11_4 hC d_P_gain_5 (q := 8) rfl ?_
    refine z_iload_n rfl 2 rfl hC d_P_gain_8 (q := 9) rfl ?_
    obtain ⟨hv1, h⟩ := ck_some h
    refine ao_wN_21 hC hv1 d_P_gain_9 (q := 10) rfl ?_
    refine z_iload_n rfl 3 rfl hC d_P_gain_10 (q := 11) rfl ?_
    obtain ⟨hv2, h⟩ := ck_some h
    refine lr_38 hC hv1 hv2 d_P_gain_11 (q := 12) rfl ?_
    cases h
    exact z_lret hC hR rfl rfl d_P_gain_12
theorem c_P_gain (l : Launch) (Ω : z_O) (n : Nat) (x1 : Int32) (x2 : Int32) (x3 : Int32) (S : z_S) (r : Int64 × z_S) (h : f_P_gain n x1 x2 x3 S = some r) : z_ML l Ω y_P_gain b_P_gain 4 .long 0 0 [.ref (Ω.2.2 4), .int x1, .int x2, .int x3] (wN Ω S) r.1 (wN Ω r.2) := z_introL (by decide +kernel) (Nat.le_of_ble_eq_true rfl) rfl (fun X A hC hA hR _ hM => w_P_gain hC hA hR hM n r x1 x2 x3 S h)
def f_P_canMove_26 (n : Nat) (t0 : Int32) (S : z_S) : Option (Int32 × z_S) := ck (vz t0) (some (t0, S))
def f_P_canMove_53 (n : Nat) (t0 : Int32) (S : z_S) : Option (Int32 × z_S) := ck (vz t0) (some (t0, S))
def f_P_canMove_52 (n : Nat) (S : z_S) : Option (Int32 × z_S) := f_P_canMove_53 n (0 : Int32) S
def f_P_canMove (n : Nat) (x1 : Int32) (x2 : Int64) (S : z_S) : Option (Int32 × z_S) := (if x2 ≤ (0 : Int64) then (if (0 : Int64) ≤ x2 then f_P_canMove_52 n S else ck (vi x1 16) (ck (vi x1 16) ((if (gI S 17 x1.toNatClampNeg) ≤ (gI S 15 x1.toNatClampNeg) then f_P_canMove_52 n S else f_P_canMove_53 n (1 : Int32) S)))) else ck (vi x1 16) (ck (vi x1 16) ((if (gI S 16 x1.toNatClampNeg) ≤ (gI S 17 x1.toNatClampNeg) then f_P_canMove_26 n (0 : Int32) S else f_P_canMove_26 n (1 : Int32) S))))
set_option maxRecDepth 20000 in
theorem w_P_canMove_26 {X : z_X} {A : Nat → Prop} {Ω : z_O} (hC : z_C X b_P_canMove 4 "NodalAuction$Program" Ω) (hA : z_hA X A) (hR : z_R X (some .boolean)) (hM : z_rmOf X = z_rm 0 0) (n : Nat) (r : Int32 × z_S) (t0 : Int32) (S : z_S) (h : f_P_canMove_26 n t0 S = some r) : z_At X A (z_QI X Ω A r.1 (wN Ω r.2)) Ω 0 0 4 26 [(0, .ref (Ω.2.2 4))] [.int t0] (wN Ω S) := by
  obtain ⟨hv1, h⟩ := ck_some h
  cases h
  exact z_zret hC hR hv1 rfl rfl d_P_canMove_26
set_option maxRecDepth 20000 in
theorem w_P_canMove_53 {X : z_X} {A : Nat → Prop} {Ω : z_O} (hC : z_C X b_P_canMove 4 "NodalAuction$Program" Ω) (hA : z_hA X A) (hR : z_R X (some .boolean)) (hM : z_rmOf X = z_rm 0 0) (n : Nat) (r : Int32 × z_S) (t0 : Int32) (S : z_S) (h : f_P_canMove_53 n t0 S = some r) : z_At X A (z_QI X Ω A r.1 (wN Ω r.2)) Ω 0 0 4 53 [(0, .ref (Ω.2.2 4))] [.int t0] (wN Ω S) := by
  obtain ⟨hv1, h⟩ := ck_some h
  cases h
  exact z_zret hC hR hv1 rfl rfl d_P_canMove_53
set_option maxRecDepth 20000 in
theorem w_P_canMove_52 {X : z_X} {A : Nat → Prop} {Ω : z_O} (hC : z_C X b_P_canMove 4 "NodalAuction$Program" Ω) (hA : z_hA X A) (hR : z_R X (some .boolean)) (hM : z_rmOf X = z_rm 0 0) (n : Nat) (r : Int32 × z_S) (S : z_S) (h : f_P_canMove_52 n S = some r) : z_At X A (z_QI X Ω A r.1 (wN Ω r.2)) Ω 0 0 4 52 [(0, .ref (Ω.2.2 4))] [] (wN Ω S) := by
  refine z_iconst (v := (0 : Int32)) (by decide) hC d_P_canMove_52 (q := 53) rfl ?_
  exact w_P_canMove_53 hC hA hR hM n r (0 : Int32) S h
set_option maxRecDepth 20000 in
theorem w_P_canMove {X : z_X} {A : Nat → Prop} {Ω : z_O} (hC : z_C X b_P_canMove 4 "NodalAuction$Program" Ω) (hA : z_hA X A) (hR : z_R X (some .boolean)) (hM : z_rmOf X = z_rm 0 0) (n : Nat) (r : Int32 × z_S) (x1 : Int32) (x2 : Int64) (S : z_S) (h : f_P_canMove n x1 x2 S = some r) : z_At X A (z_QI X Ω A r.1 (wN Ω r.2)) Ω 0 0 4 0 [(0, .ref (Ω.2.2 4)), (1, .int x1), (2, .long x2)] [] (wN Ω S) := by
  refine z_lload_n rfl 2 rfl hC d_P_canMove_0 (q := 1) rfl ?_
  refine z_lconst (v := (0 : Int64)) (by decide) hC d_P_canMove_1 (q := 2) rfl ?_
  refine z_lcmp_le (pc1 := 3) (tgt := 27) (q := 6) hC d_P_canMove_2 rfl d_P_canMove_3 rfl rfl (fun hb => ?_) (fun hb => ?_)
  · have h := (if_pos hb).symm.trans h
    refine z_lload_n rfl 2 rfl hC d_P_canMove_27 (q := 28) rfl ?_
    refine z_lconst (v := (0 : Int64)) (by decide) hC d_P_canMove_28 (q := 29) rfl ?_
    refine z_lcmp_ge (pc1 := 30) (tgt := 52) (q := 33) hC d_P_canMove_29 rfl d_P_canMove_30 rfl rfl (fun hb => ?_) (fun hb => ?_)
    · have h := (if_pos hb).symm.trans h
      refine z_sub [0] rfl ?_
      exact w_P_canMove_52 hC hA hR hM n r S h
    · have h := (if_neg hb).symm.trans h
      refine z_aload_n rfl 0 rfl hC d_P_canMove_33 (q := 34) rfl ?_
      refine gf_P_29_4 hC d_P_canMove_34 (q := 37) rfl ?_
      refine z_iload_n rfl 1 rfl hC d_P_canMove_37 (q := 38) rfl ?_
      obtain ⟨hv1, h⟩ := ck_some h
      refine al_wN_26 hC hv1 d_P_canMove_38 (q := 39) rfl ?_
      refine z_aload_n rfl 0 rfl hC d_P_canMove_39 (q := 40) rfl ?_
      refine gf_P_23_4 hC d_P_canMove_40 (q := 43) rfl ?_
      refine z_iload_n rfl 1 rfl hC d_P_canMove_43 (q := 44) rfl ?_
      obtain ⟨hv2, h⟩ := ck_some h
      refine al_wN_24 hC hv2 d_P_canMove_44 (q := 45) rfl ?_
      refine z_icmp_le (tgt := 52) (q := 48) hC d_P_canMove_45 rfl rfl (fun hb => ?_) (fun hb => ?_)
      · have h := (if_pos hb).symm.trans h
        refine z_sub [0] rfl ?_
        exact w_P_canMove_52 hC hA hR hM n r S h
      · have h := (if_neg hb).symm.trans h
        refine z_iconst (v := (1 : Int32)) (by decide) hC d_P_canMove_48 (q := 49) rfl ?_
        refine z_goto (tgt := 53) hC d_P_canMove_49 rfl ?_
        refine z_sub [0] rfl ?_
        exact w_P_canMove_53 hC hA hR hM n r (1 : Int32) S h
  · have h := (if_neg hb).symm.trans h
    refine z_aload_n rfl 0 rfl hC d_P_canMove_6 (q := 7) rfl ?_
    refine gf_P_29_4 hC d_P_canMove_7 (q := 10) rfl ?_
    refine z_iload_n rfl 1 rfl hC d_P_canMove_10 (q := 11) rfl ?_
    obtain ⟨hv1, h⟩ := ck_some h
    refine al_wN_26 hC hv1 d_P_canMove_11 (q := 12) rfl ?_
    refine z_aload_n rfl 0 rfl hC d_P_canMove_12 (q := 13) rfl ?_
    refine gf_P_26_4 hC d_P_canMove_13 (q := 16) rfl ?_
    refine z_iload_n rfl 1 rfl hC d_P_canMove_16 (q := 17) rfl ?_
    obtain ⟨hv2, h⟩ := ck_some h
    refine al_wN_25 hC hv2 d_P_canMove_17 (q := 18) rfl ?_
    refine z_icmp_ge (tgt := 25) (q := 21) hC d_P_canMove_18 rfl rfl (fun hb => ?_) (fun hb => ?_)
    · have h := (if_pos hb).symm.trans h
      refine z_iconst (v := (0 : Int32)) (by decide) hC d_P_canMove_25 (q := 26) rfl ?_
      refine z_sub [0] rfl ?_
      exact w_P_canMove_26 hC hA hR hM n r (0 : Int32) S h
    · have h := (if_neg hb).symm.trans h
      refine z_iconst (v := (1 : Int32)) (by decide) hC d_P_canMove_21 (q := 22) rfl ?_
      refine z_goto (tgt := 26) hC d_P_canMove_22 rfl ?_
      refine z_sub [0] rfl ?_
      exact w_P_canMove_26 hC hA hR hM n r (1 : Int32) S h
theorem c_P_canMove (l : Launch) (Ω : z_O) (n : Nat) (x1 : Int32) (x2 : Int64) (S : z_S) (r : Int32 × z_S) (h : f_P_canMove n x1 x2 S = some r) : z_MI l Ω y_P_canMove b_P_canMove 4 .boolean 0 0 [.ref (Ω.2.2 4), .int x1, .long x2] (wN Ω S) r.1 (wN Ω r.2) := z_introI (by decide +kernel) (Nat.le_of_ble_eq_true rfl) rfl (fun X A hC hA hR _ hM => w_P_canMove hC hA hR hM n r x1 x2 S h)
def f_P_firstGain_81 (n : Nat) (k5 : Int32 → Int32 → Int32 → Int32 → z_S → Option (Int32 × z_S)) (x1 : Int32) (x2 : Int32) (x3 : Int32) (x4 : Int32) (S : z_S) : Option (Int32 × z_S) := k5 x1 x2 x3 (x4 + (1 : Int32)) S
def f_P_firstGain_39 (n : Nat) (k5 : Int32 → Int32 → Int32 → Int32 → z_S → Option (Int32 × z_S)) (x1 : Int32) (x2 : Int32) (x3 : Int32) (x4 : Int32) (t0 : Int32) (S : z_S) : Option (Int32 × z_S) := (if t0 = 0 then f_P_firstGain_81 n k5 x1 x2 x3 x4 S else ck (vi x4 8) ((if (gI S 18 x4.toNatClampNeg) = 0 then ck (vi x4 8) (bo (f_P_gain n x1 x2 x4 S) (fun v69 S69 => bo (f_P_canMove n (gI S 14 x4.toNatClampNeg) v69 S69) (fun v72 S72 => (if v72 = 0 then f_P_firstGain_81 n k5 x1 x2 x3 x4 S72 else f_P_firstGain_81 n k5 x1 x2 x4 x4 S72)))) else f_P_firstGain_81 n k5 x1 x2 x3 x4 S)))
def f_P_firstGain_34 (n : Nat) (k5 : Int32 → Int32 → Int32 → Int32 → z_S → Option (Int32 × z_S)) (x1 : Int32) (x2 : Int32) (x3 : Int32) (x4 : Int32) (S : z_S) : Option (Int32 × z_S) := f_P_firstGain_39 n k5 x1 x2 x3 x4 (1 : Int32) S
def f_P_firstGain_5 (n : Nat) : Nat → Int32 → Int32 → Int32 → Int32 → z_S → Option (Int32 × z_S)
  | 0, _, _, _, _, _ => none
  | q + 1, x1, x2, x3, x4, S => (if (gF S 4) ≤ x4 then some (x3, S) else (if x3 < 0 then f_P_firstGain_34 n (f_P_firstGain_5 n q) x1 x2 x3 x4 S else ck (vi x4 8) (ck (vi x3 8) ((if (gI S 14 x3.toNatClampNeg) ≤ (gI S 14 x4.toNatClampNeg) then f_P_firstGain_39 n (f_P_firstGain_5 n q) x1 x2 x3 x4 (0 : Int32) S else f_P_firstGain_34 n (f_P_firstGain_5 n q) x1 x2 x3 x4 S)))))
def f_P_firstGain (n : Nat) (x1 : Int32) (x2 : Int32) (S : z_S) : Option (Int32 × z_S) := f_P_firstGain_5 n n x1 x2 (-1 : Int32) (0 : Int32) S
set_option maxRecDepth 20000 in
theorem w_P_firstGain_81 {X : z_X} {A : Nat → Prop} {Ω : z_O} (hC : z_C X b_P_firstGain 6 "NodalAuction$Program" Ω) (hA : z_hA X A) (hR : z_R X (some .int)) (hM : z_rmOf X = z_rm 1 23) (n : Nat) (r : Int32 × z_S) (k5 : Int32 → Int32 → Int32 → Int32 → z_S → Option (Int32 × z_S)) (hk5 : ∀ (x1 : Int32) (x2 : Int32) (x3 : Int32) (x4 : Int32) (S : z_S), k5 x1 x2 x3 x4 S = some r → z_At X A (z_QI X Ω A r.1 (wN Ω r.2)) Ω 0 0 6 5 [(0, .ref (Ω.2.2 4)), (1, .int x1), (2, .int x2), (3, .int x3), (4, .int x4)] [] (wN Ω S)) (x1 : Int32) (x2 : Int32) (x3 : Int32) (x4 : Int32) (S : z_S) (h : f_P_firstGain_81 n k5 x1 x2 x3 x4 S = some r) : z_At X A (z_QI X Ω A r.1 (wN Ω r.2)) Ω 0 0 6 81 [(0, .ref (Ω.2.2 4)), (1, .int x1), (2, .int x2), (3, .int x3), (4, .int x4)] [] (wN Ω S) := by
  refine z_iinc (lv' := [(4, .int (x4 + (1 : Int32))), (0, .ref (Ω.2.2 4)), (1, .int x1), (2, .int x2), (3, .int x3)]) 4 rfl rfl (by decide) rfl hC d_P_firstGain_81 (q := 84) rfl ?_
  refine z_goto (tgt := 5) hC d_P_firstGain_84 rfl ?_
  refine z_sub [1, 2, 3, 4, 0] rfl ?_
  exact hk5 x1 x2 x3 (x4 + (1 : Int32)) S h
set_option maxRecDepth 20000 in
theorem w_P_firstGain_39 {X : z_X} {A : Nat → Prop} {Ω : z_O} (hC : z_C X b_P_firstGain 6 "NodalAuction$Program" Ω) (hA : z_hA X A) (hR : z_R X (some .int)) (hM : z_rmOf X = z_rm 1 23) (n : Nat) (r : Int32 × z_S) (k5 : Int32 → Int32 → Int32 → Int32 → z_S → Option (Int32 × z_S)) (hk5 : ∀ (x1 : Int32) (x2 : Int32) (x3 : Int32) (x4 : Int32) (S : z_S), k5 x1 x2 x3 x4 S = some r → z_At X A (z_QI X Ω A r.1 (wN Ω r.2)) Ω 0 0 6 5 [(0, .ref (Ω.2.2 4)), (1, .int x1), (2, .int x2), (3, .int x3), (4, .int x4)] [] (wN Ω S)) (x1 : Int32) (x2 : Int32) (x3 : Int32) (x4 : Int32) (t0 : Int32) (S : z_S) (h : f_P_firstGain_39 n k5 x1 x2 x3 x4 t0 S = some r) : z_At X A (z_QI X Ω A r.1 (wN Ω r.2)) Ω 0 0 6 39 [(0, .ref (Ω.2.2 4)), (1, .int x1), (2, .int x2), (3, .int x3), (4, .int x4)] [.int t0] (wN Ω S) := by
  refine z_istore (lv' := [(5, .int t0), (0, .ref (Ω.2.2 4)), (1, .int x1), (2, .int x2), (3, .int x3), (4, .int x4)]) (by decide) rfl hC d_P_firstGain_39 (q := 41) rfl ?_
  refine z_iload 0 rfl hC d_P_firstGain_41 (q := 43) rfl ?_
  refine z_if_eq (tgt := 81) (q := 46) hC d_P_firstGain_43 rfl rfl (fun hb => ?_) (fun hb => ?_)
  · have h := (if_pos hb).symm.trans h
    refine z_sub [1, 2, 3, 4, 5] rfl ?_
    exact w_P_firstGain_81 hC hA hR hM n r k5 hk5 x1 x2 x3 x4 S h
  · have h := (if_neg hb).symm.trans h
    refine z_aload_n rfl 1 rfl hC d_P_firstGain_46 (q := 47) rfl ?_
    refine gf_P_32_4 hC d_P_firstGain_47 (q := 50) rfl ?_
    refine z_iload 5 rfl hC d_P_firstGain_50 (q := 52) rfl ?_
    obtain ⟨hv1, h⟩ := ck_some h
    refine al_wN_27 hC hv1 d_P_firstGain_52 (q := 53) rfl ?_
    refine z_if_ne (tgt := 81) (q := 56) hC d_P_firstGain_53 rfl rfl (fun hb => ?_) (fun hb => ?_)
    · have h := (if_neg hb).symm.trans h
      refine z_sub [1, 2, 3, 4, 5] rfl ?_
      exact w_P_firstGain_81 hC hA hR hM n r k5 hk5 x1 x2 x3 x4 S h
    · have h := (if_pos hb).symm.trans h
      refine z_aload_n rfl 1 rfl hC d_P_firstGain_56 (q := 57) rfl ?_
      refine z_aload_n rfl 1 rfl hC d_P_firstGain_57 (q := 58) rfl ?_
      refine gf_P_20_4 hC d_P_firstGain_58 (q := 61) rfl ?_
      refine z_iload 5 rfl hC d_P_firstGain_61 (q := 63) rfl ?_
      obtain ⟨hv2, h⟩ := ck_some h
      refine al_wN_23 hC hv2 d_P_firstGain_63 (q := 64) rfl ?_
      refine z_aload_n rfl 1 rfl hC d_P_firstGain_64 (q := 65) rfl ?_
      refine z_iload_n rfl 2 rfl hC d_P_firstGain_65 (q := 66) rfl ?_
      refine z_iload_n rfl 3 rfl hC d_P_firstGain_66 (q := 67) rfl ?_
      refine z_iload 5 rfl hC d_P_firstGain_67 (q := 69) rfl ?_
      obtain ⟨v69, S69, hc69, h⟩ := bo_some h
      refine z_callVl (q0 := 4) (As := [.int x1, .int x2, .int x4]) hC hA (c_P_gain (z_lOf X) Ω n x1 x2 x4 S (v69, S69) hc69) k_293 k_290 k_292 ks_18 k_4 h_P_gain (by rw [hM]; exact ⟨Nat.le_of_ble_eq_true rfl, Nat.le_of_ble_eq_true rfl⟩) ⟨Nat.zero_le _, Nat.zero_le _⟩ rfl rfl rfl (Nat.le_of_ble_eq_true rfl) rfl d_P_firstGain_69 (q := 72) rfl ?_
      obtain ⟨v72, S72, hc72, h⟩ := bo_some h
      refine z_callVi (q0 := 4) (As := [.int (gI S 14 x4.toNatClampNeg), .long v69]) hC hA (c_P_canMove (z_lOf X) Ω n (gI S 14 x4.toNatClampNeg) v69 S69 (v72, S72) hc72) k_297 k_294 k_296 ks_19 k_4 h_P_canMove (by rw [hM]; exact ⟨Nat.le_of_ble_eq_true rfl, Nat.le_of_ble_eq_true rfl⟩) ⟨Nat.zero_le _, Nat.zero_le _⟩ rfl rfl rfl (Nat.le_of_ble_eq_true rfl) rfl d_P_firstGain_72 (q := 75) rfl ?_
      refine z_if_eq (tgt := 81) (q := 78) hC d_P_firstGain_75 rfl rfl (fun hb => ?_) (fun hb => ?_)
      · have h := (if_pos hb).symm.trans h
        refine z_sub [1, 2, 3, 4, 5] rfl ?_
        exact w_P_firstGain_81 hC hA hR hM n r k5 hk5 x1 x2 x3 x4 S72 h
      · have h := (if_neg hb).symm.trans h
        refine z_iload 5 rfl hC d_P_firstGain_78 (q := 80) rfl ?_
        refine z_istore_n (lv' := [(3, .int x4), (5, .int t0), (0, .ref (Ω.2.2 4)), (1, .int x1), (2, .int x2), (4, .int x4)]) rfl (by decide) rfl hC d_P_firstGain_80 (q := 81) rfl ?_
        refine z_sub [2, 3, 4, 0, 5] rfl ?_
        exact w_P_firstGain_81 hC hA hR hM n r k5 hk5 x1 x2 x4 x4 S72 h
set_option maxRecDepth 20000 in
theorem w_P_firstGain_34 {X : z_X} {A : Nat → Prop} {Ω : z_O} (hC : z_C X b_P_firstGain 6 "NodalAuction$Program" Ω) (hA : z_hA X A) (hR : z_R X (some .int)) (hM : z_rmOf X = z_rm 1 23) (n : Nat) (r : Int32 × z_S) (k5 : Int32 → Int32 → Int32 → Int32 → z_S → Option (Int32 × z_S)) (hk5 : ∀ (x1 : Int32) (x2 : Int32) (x3 : Int32) (x4 : Int32) (S : z_S), k5 x1 x2 x3 x4 S = some r → z_At X A (z_QI X Ω A r.1 (wN Ω r.2)) Ω 0 0 6 5 [(0, .ref (Ω.2.2 4)), (1, .int x1), (2, .int x2), (3, .int x3), (4, .int x4)] [] (wN Ω S)) (x1 : Int32) (x2 : Int32) (x3 : Int32) (x4 : Int32) (S : z_S) (h : f_P_firstGain_34 n k5 x1 x2 x3 x4 S = some r) : z_At X A (z_QI X Ω A r.1 (wN Ω r.2)) Ω 0 0 6 34 [(0, .ref (Ω.2.2 4)), (1, .int x1), (2, .int x2), (3, .int x3), (4, .int x4)] [] (wN Ω S) := by
  refine z_iconst (v := (1 : Int32)) (by decide) hC d_P_firstGain_34 (q := 35) rfl ?_
  refine z_goto (tgt := 39) hC d_P_firstGain_35 rfl ?_
  exact w_P_firstGain_39 hC hA hR hM n r k5 hk5 x1 x2 x3 x4 (1 : Int32) S h
set_option maxRecDepth 20000 in
theorem w_P_firstGain_5 {X : z_X} {A : Nat → Prop} {Ω : z_O} (hC : z_C X b_P_firstGain 6 "NodalAuction$Program" Ω) (hA : z_hA X A) (hR : z_R X (some .int)) (hM : z_rmOf X = z_rm 1 23) (n : Nat) (r : Int32 × z_S) : ∀ (q : Nat) (x1 : Int32) (x2 : Int32) (x3 : Int32) (x4 : Int32) (S : z_S), f_P_firstGain_5 n q x1 x2 x3 x4 S = some r → z_At X A (z_QI X Ω A r.1 (wN Ω r.2)) Ω 0 0 6 5 [(0, .ref (Ω.2.2 4)), (1, .int x1), (2, .int x2), (3, .int x3), (4, .int x4)] [] (wN Ω S) := by
  intro q
  induction q with
  | zero => intro x1 x2 x3 x4 S h; cases h
  | succ q ih =>
    intro x1 x2 x3 x4 S h
    refine z_iload 4 rfl hC d_P_firstGain_5 (q := 7) rfl ?_
    refine z_aload_n rfl 0 rfl hC d_P_firstGain_7 (q := 8) rfl ?_
    refine gf_P_40_4 hC d_P_firstGain_8 (q := 11) rfl ?_
    refine z_icmp_ge (tgt := 87) (q := 14) hC d_P_firstGain_11 rfl rfl (fun hb => ?_) (fun hb => ?_)
    · have h := (if_pos hb).symm.trans h
      refine z_iload_n rfl 3 rfl hC d_P_firstGain_87 (q := 88) rfl ?_
      cases h
      exact z_iret hC hR rfl rfl d_P_firstGain_88
    · have h := (if_neg hb).symm.trans h
      refine z_iload_n rfl 3 rfl hC d_P_firstGain_14 (q := 15) rfl ?_
      refine z_if_lt (tgt := 34) (q := 18) hC d_P_firstGain_15 rfl rfl (fun hb => ?_) (fun hb => ?_)
      · have h := (if_pos hb).symm.trans h
        exact w_P_firstGain_34 hC hA hR hM n r (f_P_firstGain_5 n q) ih x1 x2 x3 x4 S h
      · have h := (if_neg hb).symm.trans h
        refine z_aload_n rfl 0 rfl hC d_P_firstGain_18 (q := 19) rfl ?_
        refine gf_P_20_4 hC d_P_firstGain_19 (q := 22) rfl ?_
        refine z_iload 4 rfl hC d_P_firstGain_22 (q := 24) rfl ?_
        obtain ⟨hv1, h⟩ := ck_some h
        refine al_wN_23 hC hv1 d_P_firstGain_24 (q := 25) rfl ?_
        refine z_aload_n rfl 0 rfl hC d_P_firstGain_25 (q := 26) rfl ?_
        refine gf_P_20_4 hC d_P_firstGain_26 (q := 29) rfl ?_
        refine z_iload_n rfl 3 rfl hC d_P_firstGain_29 (q := 30) rfl ?_
        obtain ⟨hv2, h⟩ := ck_some h
        refine al_wN_23 hC hv2 d_P_firstGain_30 (q := 31) rfl ?_
        refine z_icmp_ge (tgt := 38) (q := 34) hC d_P_firstGain_31 rfl rfl (fun hb => ?_) (fun hb => ?_)
        · have h := (if_pos hb).symm.trans h
          refine z_iconst (v := (0 : Int32)) (by decide) hC d_P_firstGain_38 (q := 39) rfl ?_
          exact w_P_firstGain_39 hC hA hR hM n r (f_P_firstGain_5 n q) ih x1 x2 x3 x4 (0 : Int32) S h
        · have h := (if_neg hb).symm.trans h
          exact w_P_firstGain_34 hC hA hR hM n r (f_P_firstGain_5 n q) ih x1 x2 x3 x4 S h
set_option maxRecDepth 20000 in
theorem w_P_firstGain {X : z_X} {A : Nat → Prop} {Ω : z_O} (hC : z_C X b_P_firstGain 6 "NodalAuction$Program" Ω) (hA : z_hA X A) (hR : z_R X (some .int)) (hM : z_rmOf X = z_rm 1 23) (n : Nat) (r : Int32 × z_S) (x1 : Int32) (x2 : Int32) (S : z_S) (h : f_P_firstGain n x1 x2 S = some r) : z_At X A (z_QI X Ω A r.1 (wN Ω r.2)) Ω 0 0 6 0 [(0, .ref (Ω.2.2 4)), (1, .int x1), (2, .int x2)] [] (wN Ω S) := by
  refine z_iconst (v := (-1 : Int32)) (by decide) hC d_P_firstGain_0 (q := 1) rfl ?_
  refine z_istore_n (lv' := [(3, .int (-1 : Int32)), (0, .ref (Ω.2.2 4)), (1, .int x1), (2, .int x2)]) rfl (by decide) rfl hC d_P_firstGain_1 (q := 2) rfl ?_
  refine z_iconst (v := (0 : Int32)) (by decide) hC d_P_firstGain_2 (q := 3) rfl ?_
  refine z_istore (lv' := [(4, .int (0 : Int32)), (3, .int (-1 : Int32)), (0, .ref (Ω.2.2 4)), (1, .int x1), (2, .int x2)]) (by decide) rfl hC d_P_firstGain_3 (q := 5) rfl ?_
  refine z_sub [2, 3, 4, 1, 0] rfl ?_
  exact w_P_firstGain_5 hC hA hR hM n r n x1 x2 (-1 : Int32) (0 : Int32) S h
theorem c_P_firstGain (l : Launch) (Ω : z_O) (n : Nat) (x1 : Int32) (x2 : Int32) (S : z_S) (r : Int32 × z_S) (h : f_P_firstGain n x1 x2 S = some r) : z_MI l Ω y_P_firstGain b_P_firstGain 6 .int 1 23 [.ref (Ω.2.2 4), .int x1, .int x2] (wN Ω S) r.1 (wN Ω r.2) := z_introI (by decide +kernel) (Nat.le_of_ble_eq_true rfl) rfl (fun X A hC hA hR _ hM => w_P_firstGain hC hA hR hM n r x1 x2 S h)
def f_P_roomOf_51 (n : Nat) (t0 : Int64) (S : z_S) : Option (Int64 × z_S) := some (t0, S)
def f_P_roomOf (n : Nat) (x1 : Int32) (x2 : Int32) (S : z_S) : Option (Int64 × z_S) := ck (vi x1 8) (bo (f_P_rowTop n x1 S) (fun v9 S9 => (if x2 = 0 then ck (vi (gI S 13 x1.toNatClampNeg) 16) (f_P_roomOf_51 n (v9 - (((gI S9 15 ((gI S 13 x1.toNatClampNeg).toNatClampNeg)).toInt64) * (gG S9 1))) S9) else ck (vi (gI S 13 x1.toNatClampNeg) 16) (f_P_roomOf_51 n ((((gI S9 16 ((gI S 13 x1.toNatClampNeg).toNatClampNeg)).toInt64) * (gG S9 1)) - v9) S9))))
set_option maxRecDepth 20000 in
theorem w_P_roomOf_51 {X : z_X} {A : Nat → Prop} {Ω : z_O} (hC : z_C X b_P_roomOf 6 "NodalAuction$Program" Ω) (hA : z_hA X A) (hR : z_R X (some .long)) (hM : z_rmOf X = z_rm 1 24) (n : Nat) (r : Int64 × z_S) (t0 : Int64) (S : z_S) (h : f_P_roomOf_51 n t0 S = some r) : z_At X A (z_QL X Ω A r.1 (wN Ω r.2)) Ω 0 0 6 51 [(0, .ref (Ω.2.2 4))] [.long t0] (wN Ω S) := by
  cases h
  exact z_lret hC hR rfl rfl d_P_roomOf_51
set_option maxRecDepth 20000 in
theorem w_P_roomOf {X : z_X} {A : Nat → Prop} {Ω : z_O} (hC : z_C X b_P_roomOf 6 "NodalAuction$Program" Ω) (hA : z_hA X A) (hR : z_R X (some .long)) (hM : z_rmOf X = z_rm 1 24) (n : Nat) (r : Int64 × z_S) (x1 : Int32) (x2 : Int32) (S : z_S) (h : f_P_roomOf n x1 x2 S = some r) : z_At X A (z_QL X Ω A r.1 (wN Ω r.2)) Ω 0 0 6 0 [(0, .ref (Ω.2.2 4)), (1, .int x1), (2, .int x2)] [] (wN Ω S) := by
  refine z_aload_n rfl 0 rfl hC d_P_roomOf_0 (q := 1) rfl ?_
  refine gf_P_16_4 hC d_P_roomOf_1 (q := 4) rfl ?_
  refine z_iload_n rfl 1 rfl hC d_P_roomOf_4 (q := 5) rfl ?_
  obtain ⟨hv1, h⟩ := ck_some h
  refine al_wN_22 hC hv1 d_P_roomOf_5 (q := 6) rfl ?_
  refine z_istore_n (lv' := [(3, .int (gI S 13 x1.toNatClampNeg)), (0, .ref (Ω.2.2 4)), (1, .int x1), (2, .int x2)]) rfl (by decide) rfl hC d_P_roomOf_6 (q := 7) rfl ?_
  refine z_aload_n rfl 1 rfl hC d_P_roomOf_7 (q := 8) rfl ?_
  refine z_iload_n rfl 2 rfl hC d_P_roomOf_8 (q := 9) rfl ?_
  obtain ⟨v9, S9, hc9, h⟩ := bo_some h
  refine z_callVl (q0 := 4) (As := [.int x1]) hC hA (c_P_rowTop (z_lOf X) Ω n x1 S (v9, S9) hc9) k_309 k_306 k_308 ks_22 k_4 h_P_rowTop (by rw [hM]; exact ⟨Nat.le_of_ble_eq_true rfl, Nat.le_of_ble_eq_true rfl⟩) ⟨Nat.zero_le _, Nat.zero_le _⟩ rfl rfl rfl (Nat.le_of_ble_eq_true rfl) rfl d_P_roomOf_9 (q := 12) rfl ?_
  refine z_lstore (lv' := [(4, .long v9), (3, .int (gI S 13 x1.toNatClampNeg)), (0, .ref (Ω.2.2 4)), (1, .int x1), (2, .int x2)]) (by decide) rfl hC d_P_roomOf_12 (q := 14) rfl ?_
  refine z_iload_n rfl 4 rfl hC d_P_roomOf_14 (q := 15) rfl ?_
  refine z_if_eq (tgt := 36) (q := 18) hC d_P_roomOf_15 rfl rfl (fun hb => ?_) (fun hb => ?_)
  · have h := (if_pos hb).symm.trans h
    refine z_lload 0 rfl hC d_P_roomOf_36 (q := 38) rfl ?_
    refine z_aload_n rfl 2 rfl hC d_P_roomOf_38 (q := 39) rfl ?_
    refine gf_P_23_4 hC d_P_roomOf_39 (q := 42) rfl ?_
    refine z_iload_n rfl 1 rfl hC d_P_roomOf_42 (q := 43) rfl ?_
    obtain ⟨hv2, h⟩ := ck_some h
    refine al_wN_24 hC hv2 d_P_roomOf_43 (q := 44) rfl ?_
    refine z_i2l hC d_P_roomOf_44 (q := 45) rfl ?_
    refine z_aload_n rfl 2 rfl hC d_P_roomOf_45 (q := 46) rfl ?_
    refine gf_P_43_4 hC d_P_roomOf_46 (q := 49) rfl ?_
    refine z_lmul hC d_P_roomOf_49 (q := 50) rfl ?_
    refine z_lsub hC d_P_roomOf_50 (q := 51) rfl ?_
    refine z_sub [2] rfl ?_
    exact w_P_roomOf_51 hC hA hR hM n r (v9 - (((gI S9 15 ((gI S 13 x1.toNatClampNeg).toNatClampNeg)).toInt64) * (gG S9 1))) S9 h
  · have h := (if_neg hb).symm.trans h
    refine z_aload_n rfl 2 rfl hC d_P_roomOf_18 (q := 19) rfl ?_
    refine gf_P_26_4 hC d_P_roomOf_19 (q := 22) rfl ?_
    refine z_iload_n rfl 1 rfl hC d_P_roomOf_22 (q := 23) rfl ?_
    obtain ⟨hv2, h⟩ := ck_some h
    refine al_wN_25 hC hv2 d_P_roomOf_23 (q := 24) rfl ?_
    refine z_i2l hC d_P_roomOf_24 (q := 25) rfl ?_
    refine z_aload_n rfl 2 rfl hC d_P_roomOf_25 (q := 26) rfl ?_
    refine gf_P_43_4 hC d_P_roomOf_26 (q := 29) rfl ?_
    refine z_lmul hC d_P_roomOf_29 (q := 30) rfl ?_
    refine z_lload 0 rfl hC d_P_roomOf_30 (q := 32) rfl ?_
    refine z_lsub hC d_P_roomOf_32 (q := 33) rfl ?_
    refine z_goto (tgt := 51) hC d_P_roomOf_33 rfl ?_
    refine z_sub [2] rfl ?_
    exact w_P_roomOf_51 hC hA hR hM n r ((((gI S9 16 ((gI S 13 x1.toNatClampNeg).toNatClampNeg)).toInt64) * (gG S9 1)) - v9) S9 h
theorem c_P_roomOf (l : Launch) (Ω : z_O) (n : Nat) (x1 : Int32) (x2 : Int32) (S : z_S) (r : Int64 × z_S) (h : f_P_roomOf n x1 x2 S = some r) : z_ML l Ω y_P_roomOf b_P_roomOf 6 .long 1 24 [.ref (Ω.2.2 4), .int x1, .int x2] (wN Ω S) r.1 (wN Ω r.2) := z_introL (by decide +kernel) (Nat.le_of_ble_eq_true rfl) rfl (fun X A hC hA hR _ hM => w_P_roomOf hC hA hR hM n r x1 x2 S h)
def f_P_replaceRow_122 (n : Nat) (k39 : Int32 → Int32 → Int32 → Int64 → Int64 → Int64 → Int32 → z_S → Option (Unit × z_S)) (x1 : Int32) (x2 : Int32) (x3 : Int32) (x4 : Int64) (x6 : Int64) (x8 : Int64) (x10 : Int32) (S : z_S) : Option (Unit × z_S) := k39 x1 x2 x3 x4 x6 x8 (x10 + (1 : Int32)) S
def f_P_replaceRow_39 (n : Nat) : Nat → Int32 → Int32 → Int32 → Int64 → Int64 → Int64 → Int32 → z_S → Option (Unit × z_S)
  | 0, _, _, _, _, _, _, _, _ => none
  | q + 1, x1, x2, x3, x4, x6, x8, x10, S => (if (gF S 4) ≤ x10 then some ((), S) else (if x10 = x3 then ck (vi x1 8) (ck (vi x10 8) (f_P_replaceRow_122 n (f_P_replaceRow_39 n q) x1 x2 x3 x4 x6 x8 x10 (sJ S (8 + x1.toNatClampNeg) (vp_updL (gJ S (8 + x1.toNatClampNeg)) x10.toNatClampNeg (x6 * x8))))) else (if (gG S 1) = (0 : Int64) then f_P_replaceRow_122 n (f_P_replaceRow_39 n q) x1 x2 x3 x4 x6 x8 x10 S else ck (vi x1 8) (ck (vi x1 8) (ck (vi x10 8) (ck (vi x2 8) (ck (vi x10 8) (ck (vn (gG S 1)) (ck (vi x10 8) (f_P_replaceRow_122 n (f_P_replaceRow_39 n q) x1 x2 x3 x4 x6 x8 x10 (sJ S (8 + x1.toNatClampNeg) (vp_updL (gJ S (8 + x1.toNatClampNeg)) x10.toNatClampNeg ((x6 * (((gJ S (8 + x1.toNatClampNeg) (x10.toNatClampNeg)) * x4) - (x8 * (gJ S (8 + x2.toNatClampNeg) (x10.toNatClampNeg))))) / (gG S 1))))))))))))))
def f_P_replaceRow_36 (n : Nat) (x1 : Int32) (x2 : Int32) (x3 : Int32) (x4 : Int64) (x6 : Int64) (x8 : Int64) (S : z_S) : Option (Unit × z_S) := f_P_replaceRow_39 n n x1 x2 x3 x4 x6 x8 (0 : Int32) S
def f_P_replaceRow_24 (n : Nat) (x1 : Int32) (x2 : Int32) (x3 : Int32) (x4 : Int64) (t0 : Int64) (S : z_S) : Option (Unit × z_S) := ck (vi x1 8) (ck (vi x3 8) (f_P_replaceRow_36 n x1 x2 x3 x4 t0 (gJ S (8 + x1.toNatClampNeg) (x3.toNatClampNeg)) S))
def f_P_replaceRow_10 (n : Nat) (x1 : Int32) (x2 : Int32) (x3 : Int32) (x4 : Int64) (S : z_S) : Option (Unit × z_S) := (if x4 ≤ (0 : Int64) then f_P_replaceRow_24 n x1 x2 x3 x4 (-1 : Int64) S else f_P_replaceRow_24 n x1 x2 x3 x4 (1 : Int64) S)
def f_P_replaceRow (n : Nat) (x1 : Int32) (x2 : Int32) (x3 : Int32) (S : z_S) : Option (Unit × z_S) := ck (vi x2 8) (ck (vi x3 8) (f_P_replaceRow_10 n x1 x2 x3 (gJ S (8 + x2.toNatClampNeg) (x3.toNatClampNeg)) S))
set_option maxRecDepth 20000 in
theorem w_P_replaceRow_122 {X : z_X} {A : Nat → Prop} {Ω : z_O} (hC : z_C X b_P_replaceRow 11 "NodalAuction$Program" Ω) (hA : z_hA X A) (hR : z_R X none) (hM : z_rmOf X = z_rm 0 0) (n : Nat) (r : Unit × z_S) (k39 : Int32 → Int32 → Int32 → Int64 → Int64 → Int64 → Int32 → z_S → Option (Unit × z_S)) (hk39 : ∀ (x1 : Int32) (x2 : Int32) (x3 : Int32) (x4 : Int64) (x6 : Int64) (x8 : Int64) (x10 : Int32) (S : z_S), k39 x1 x2 x3 x4 x6 x8 x10 S = some r → z_At X A (z_QV X Ω A (wN Ω r.2)) Ω 0 0 11 39 [(0, .ref (Ω.2.2 4)), (1, .int x1), (2, .int x2), (3, .int x3), (4, .long x4), (6, .long x6), (8, .long x8), (10, .int x10)] [] (wN Ω S)) (x1 : Int32) (x2 : Int32) (x3 : Int32) (x4 : Int64) (x6 : Int64) (x8 : Int64) (x10 : Int32) (S : z_S) (h : f_P_replaceRow_122 n k39 x1 x2 x3 x4 x6 x8 x10 S = some r) : z_At X A (z_QV X Ω A (wN Ω r.2)) Ω 0 0 11 122 [(0, .ref (Ω.2.2 4)), (1, .int x1), (2, .int x2), (3, .int x3), (4, .long x4), (6, .long x6), (8, .long x8), (10, .int x10)] [] (wN Ω S) := by
  refine z_iinc (lv' := [(10, .int (x10 + (1 : Int32))), (0, .ref (Ω.2.2 4)), (1, .int x1), (2, .int x2), (3, .int x3), (4, .long x4), (6, .long x6), (8, .long x8)]) 7 rfl rfl (by decide) rfl hC d_P_replaceRow_122 (q := 125) rfl ?_
  refine z_goto (tgt := 39) hC d_P_replaceRow_125 rfl ?_
  refine z_sub [1, 2, 3, 4, 5, 6, 7, 0] rfl ?_
  exact hk39 x1 x2 x3 x4 x6 x8 (x10 + (1 : Int32)) S h
set_option maxRecDepth 20000 in
theorem w_P_replaceRow_39 {X : z_X} {A : Nat → Prop} {Ω : z_O} (hC : z_C X b_P_replaceRow 11 "NodalAuction$Program" Ω) (hA : z_hA X A) (hR : z_R X none) (hM : z_rmOf X = z_rm 0 0) (n : Nat) (r : Unit × z_S) : ∀ (q : Nat) (x1 : Int32) (x2 : Int32) (x3 : Int32) (x4 : Int64) (x6 : Int64) (x8 : Int64) (x10 : Int32) (S : z_S), f_P_replaceRow_39 n q x1 x2 x3 x4 x6 x8 x10 S = some r → z_At X A (z_QV X Ω A (wN Ω r.2)) Ω 0 0 11 39 [(0, .ref (Ω.2.2 4)), (1, .int x1), (2, .int x2), (3, .int x3), (4, .long x4), (6, .long x6), (8, .long x8), (10, .int x10)] [] (wN Ω S) := by
  intro q
  induction q with
  | zero => intro x1 x2 x3 x4 x6 x8 x10 S h; cases h
  | succ q ih =>
    intro x1 x2 x3 x4 x6 x8 x10 S h
    refine z_iload 7 rfl hC d_P_replaceRow_39 (q := 41) rfl ?_
    refine z_aload_n rfl 0 rfl hC d_P_replaceRow_41 (q := 42) rfl ?_
    refine gf_P_40_4 hC d_P_replaceRow_42 (q := 45) rfl ?_
    refine z_icmp_ge (tgt := 128) (q := 48) hC d_P_replaceRow_45 rfl rfl (fun hb => ?_) (fun hb => ?_)
    · have h := (if_pos hb).symm.trans h
      cases h
      exact z_vret hC hR rfl d_P_replaceRow_128
    · have h := (if_neg hb).symm.trans h
      refine z_iload 7 rfl hC d_P_replaceRow_48 (q := 50) rfl ?_
      refine z_iload_n rfl 3 rfl hC d_P_replaceRow_50 (q := 51) rfl ?_
      refine z_icmp_ne (tgt := 71) (q := 54) hC d_P_replaceRow_51 rfl rfl (fun hb => ?_) (fun hb => ?_)
      · have h := (if_neg hb).symm.trans h
        refine z_aload_n rfl 0 rfl hC d_P_replaceRow_71 (q := 72) rfl ?_
        refine gf_P_43_4 hC d_P_replaceRow_72 (q := 75) rfl ?_
        refine z_lconst (v := (0 : Int64)) (by decide) hC d_P_replaceRow_75 (q := 76) rfl ?_
        refine z_lcmp_eq (pc1 := 77) (tgt := 122) (q := 80) hC d_P_replaceRow_76 rfl d_P_replaceRow_77 rfl rfl (fun hb => ?_) (fun hb => ?_)
        · have h := (if_pos hb).symm.trans h
          exact w_P_replaceRow_122 hC hA hR hM n r (f_P_replaceRow_39 n q) ih x1 x2 x3 x4 x6 x8 x10 S h
        · have h := (if_neg hb).symm.trans h
          refine z_aload_n rfl 0 rfl hC d_P_replaceRow_80 (q := 81) rfl ?_
          refine gf_P_11_4 hC d_P_replaceRow_81 (q := 84) rfl ?_
          refine z_iload_n rfl 1 rfl hC d_P_replaceRow_84 (q := 85) rfl ?_
          obtain ⟨hv1, h⟩ := ck_some h
          refine ao_wN_21 hC hv1 d_P_replaceRow_85 (q := 86) rfl ?_
          refine z_iload 7 rfl hC d_P_replaceRow_86 (q := 88) rfl ?_
          refine z_lload 5 rfl hC d_P_replaceRow_88 (q := 90) rfl ?_
          refine z_aload_n rfl 0 rfl hC d_P_replaceRow_90 (q := 91) rfl ?_
          refine gf_P_11_4 hC d_P_replaceRow_91 (q := 94) rfl ?_
          refine z_iload_n rfl 1 rfl hC d_P_replaceRow_94 (q := 95) rfl ?_
          obtain ⟨hv2, h⟩ := ck_some h
          refine ao_wN_21 hC hv2 d_P_replaceRow_95 (q := 96) rfl ?_
          refine z_iload 7 rfl hC d_P_replaceRow_96 (q := 98) rfl ?_
          obtain ⟨hv3, h⟩ := ck_some h
          refine lr_38 hC hv2 hv3 d_P_replaceRow_98 (q := 99) rfl ?_
          refine z_lload 4 rfl hC d_P_replaceRow_99 (q := 101) rfl ?_
          refine z_lmul hC d_P_replaceRow_101 (q := 102) rfl ?_
          refine z_lload 6 rfl hC d_P_replaceRow_102 (q := 104) rfl ?_
          refine z_aload_n rfl 0 rfl hC d_P_replaceRow_104 (q := 105) rfl ?_
          refine gf_P_11_4 hC d_P_replaceRow_105 (q := 108) rfl ?_
          refine z_iload_n rfl 2 rfl hC d_P_replaceRow_108 (q := 109) rfl ?_
          obtain ⟨hv4, h⟩ := ck_some h
          refine ao_wN_21 hC hv4 d_P_replaceRow_109 (q := 110) rfl ?_
          refine z_iload 7 rfl hC d_P_replaceRow_110 (q := 112) rfl ?_
          obtain ⟨hv5, h⟩ := ck_some h
          refine lr_38 hC hv4 hv5 d_P_replaceRow_112 (q := 113) rfl ?_
          refine z_lmul hC d_P_replaceRow_113 (q := 114) rfl ?_
          refine z_lsub hC d_P_replaceRow_114 (q := 115) rfl ?_
          refine z_lmul hC d_P_replaceRow_115 (q := 116) rfl ?_
          refine z_aload_n rfl 0 rfl hC d_P_replaceRow_116 (q := 117) rfl ?_
          refine gf_P_43_4 hC d_P_replaceRow_117 (q := 120) rfl ?_
          obtain ⟨hv6, h⟩ := ck_some h
          refine z_ldiv hv6 hC d_P_replaceRow_120 (q := 121) rfl ?_
          obtain ⟨hv7, h⟩ := ck_some h
          refine sr_38 hC hv1 hv7 d_P_replaceRow_121 (q := 122) rfl ?_
          exact w_P_replaceRow_122 hC hA hR hM n r (f_P_replaceRow_39 n q) ih x1 x2 x3 x4 x6 x8 x10 (sJ S (8 + x1.toNatClampNeg) (vp_updL (gJ S (8 + x1.toNatClampNeg)) x10.toNatClampNeg ((x6 * (((gJ S (8 + x1.toNatClampNeg) (x10.toNatClampNeg)) * x4) - (x8 * (gJ S (8 + x2.toNatClampNeg) (x10.toNatClampNeg))))) / (gG S 1)))) h
      · have h := (if_pos hb).symm.trans h
        refine z_aload_n rfl 0 rfl hC d_P_replaceRow_54 (q := 55) rfl ?_
        refine gf_P_11_4 hC d_P_replaceRow_55 (q := 58) rfl ?_
        refine z_iload_n rfl 1 rfl hC d_P_replaceRow_58 (q := 59) rfl ?_
        obtain ⟨hv1, h⟩ := ck_some h
        refine ao_wN_21 hC hv1 d_P_replaceRow_59 (q := 60) rfl ?_
        refine z_iload 7 rfl hC d_P_replaceRow_60 (q := 62) rfl ?_
        refine z_lload 5 rfl hC d_P_replaceRow_62 (q := 64) rfl ?_
        refine z_lload 6 rfl hC d_P_replaceRow_64 (q := 66) rfl ?_
        refine z_lmul hC d_P_replaceRow_66 (q := 67) rfl ?_
        obtain ⟨hv2, h⟩ := ck_some h
        refine sr_38 hC hv1 hv2 d_P_replaceRow_67 (q := 68) rfl ?_
        refine z_goto (tgt := 122) hC d_P_replaceRow_68 rfl ?_
        exact w_P_replaceRow_122 hC hA hR hM n r (f_P_replaceRow_39 n q) ih x1 x2 x3 x4 x6 x8 x10 (sJ S (8 + x1.toNatClampNeg) (vp_updL (gJ S (8 + x1.toNatClampNeg)) x10.toNatClampNeg (x6 * x8))) h
set_option maxRecDepth 20000 in
theorem w_P_replaceRow_36 {X : z_X} {A : Nat → Prop} {Ω : z_O} (hC : z_C X b_P_replaceRow 11 "NodalAuction$Program" Ω) (hA : z_hA X A) (hR : z_R X none) (hM : z_rmOf X = z_rm 0 0) (n : Nat) (r : Unit × z_S) (x1 : Int32) (x2 : Int32) (x3 : Int32) (x4 : Int64) (x6 : Int64) (x8 : Int64) (S : z_S) (h : f_P_replaceRow_36 n x1 x2 x3 x4 x6 x8 S = some r) : z_At X A (z_QV X Ω A (wN Ω r.2)) Ω 0 0 11 36 [(0, .ref (Ω.2.2 4)), (1, .int x1), (2, .int x2), (3, .int x3), (4, .long x4), (6, .long x6), (8, .long x8)] [] (wN Ω S) := by
  refine z_iconst (v := (0 : Int32)) (by decide) hC d_P_replaceRow_36 (q := 37) rfl ?_
  refine z_istore (lv' := [(10, .int (0 : Int32)), (0, .ref (Ω.2.2 4)), (1, .int x1), (2, .int x2), (3, .int x3), (4, .long x4), (6, .long x6), (8, .long x8)]) (by decide) rfl hC d_P_replaceRow_37 (q := 39) rfl ?_
  refine z_sub [1, 2, 3, 4, 5, 6, 7, 0] rfl ?_
  exact w_P_replaceRow_39 hC hA hR hM n r n x1 x2 x3 x4 x6 x8 (0 : Int32) S h
set_option maxRecDepth 20000 in
theorem w_P_replaceRow_24 {X : z_X} {A : Nat → Prop} {Ω : z_O} (hC : z_C X b_P_replaceRow 11 "NodalAuction$Program" Ω) (hA : z_hA X A) (hR : z_R X none) (hM : z_rmOf X = z_rm 0 0) (n : Nat) (r : Unit × z_S) (x1 : Int32) (x2 : Int32) (x3 : Int32) (x4 : Int64) (t0 : Int64) (S : z_S) (h : f_P_replaceRow_24 n x1 x2 x3 x4 t0 S = some r) : z_At X A (z_QV X Ω A (wN Ω r.2)) Ω 0 0 11 24 [(0, .ref (Ω.2.2 4)), (1, .int x1), (2, .int x2), (3, .int x3), (4, .long x4)] [.long t0] (wN Ω S) := by
  refine z_lstore (lv' := [(6, .long t0), (0, .ref (Ω.2.2 4)), (1, .int x1), (2, .int x2), (3, .int x3), (4, .long x4)]) (by decide) rfl hC d_P_replaceRow_24 (q := 26) rfl ?_
  refine z_aload_n rfl 1 rfl hC d_P_replaceRow_26 (q := 27) rfl ?_
  refine gf_P_11_4 hC d_P_replaceRow_27 (q := 30) rfl ?_
  refine z_iload_n rfl 2 rfl hC d_P_replaceRow_30 (q := 31) rfl ?_
  obtain ⟨hv1, h⟩ := ck_some h
  refine ao_wN_21 hC hv1 d_P_replaceRow_31 (q := 32) rfl ?_
  refine z_iload_n rfl 4 rfl hC d_P_replaceRow_32 (q := 33) rfl ?_
  obtain ⟨hv2, h⟩ := ck_some h
  refine lr_38 hC hv1 hv2 d_P_replaceRow_33 (q := 34) rfl ?_
  refine z_lstore (lv' := [(8, .long (gJ S (8 + x1.toNatClampNeg) (x3.toNatClampNeg))), (6, .long t0), (0, .ref (Ω.2.2 4)), (1, .int x1), (2, .int x2), (3, .int x3), (4, .long x4)]) (by decide) rfl hC d_P_replaceRow_34 (q := 36) rfl ?_
  refine z_sub [2, 3, 4, 5, 6, 1, 0] rfl ?_
  exact w_P_replaceRow_36 hC hA hR hM n r x1 x2 x3 x4 t0 (gJ S (8 + x1.toNatClampNeg) (x3.toNatClampNeg)) S h
set_option maxRecDepth 20000 in
theorem w_P_replaceRow_10 {X : z_X} {A : Nat → Prop} {Ω : z_O} (hC : z_C X b_P_replaceRow 11 "NodalAuction$Program" Ω) (hA : z_hA X A) (hR : z_R X none) (hM : z_rmOf X = z_rm 0 0) (n : Nat) (r : Unit × z_S) (x1 : Int32) (x2 : Int32) (x3 : Int32) (x4 : Int64) (S : z_S) (h : f_P_replaceRow_10 n x1 x2 x3 x4 S = some r) : z_At X A (z_QV X Ω A (wN Ω r.2)) Ω 0 0 11 10 [(0, .ref (Ω.2.2 4)), (1, .int x1), (2, .int x2), (3, .int x3), (4, .long x4)] [] (wN Ω S) := by
  refine z_lload 4 rfl hC d_P_replaceRow_10 (q := 12) rfl ?_
  refine z_lconst (v := (0 : Int64)) (by decide) hC d_P_replaceRow_12 (q := 13) rfl ?_
  refine z_lcmp_le (pc1 := 14) (tgt := 21) (q := 17) hC d_P_replaceRow_13 rfl d_P_replaceRow_14 rfl rfl (fun hb => ?_) (fun hb => ?_)
  · have h := (if_pos hb).symm.trans h
    refine z_ldc2 (v := (-1 : Int64)) k_317 hC d_P_replaceRow_21 (q := 24) rfl ?_
    exact w_P_replaceRow_24 hC hA hR hM n r x1 x2 x3 x4 (-1 : Int64) S h
  · have h := (if_neg hb).symm.trans h
    refine z_lconst (v := (1 : Int64)) (by decide) hC d_P_replaceRow_17 (q := 18) rfl ?_
    refine z_goto (tgt := 24) hC d_P_replaceRow_18 rfl ?_
    exact w_P_replaceRow_24 hC hA hR hM n r x1 x2 x3 x4 (1 : Int64) S h
set_option maxRecDepth 20000 in
theorem w_P_replaceRow {X : z_X} {A : Nat → Prop} {Ω : z_O} (hC : z_C X b_P_replaceRow 11 "NodalAuction$Program" Ω) (hA : z_hA X A) (hR : z_R X none) (hM : z_rmOf X = z_rm 0 0) (n : Nat) (r : Unit × z_S) (x1 : Int32) (x2 : Int32) (x3 : Int32) (S : z_S) (h : f_P_replaceRow n x1 x2 x3 S = some r) : z_At X A (z_QV X Ω A (wN Ω r.2)) Ω 0 0 11 0 [(0, .ref (Ω.2.2 4)), (1, .int x1), (2, .int x2), (3, .int x3)] [] (wN Ω S) := by
  refine z_aload_n rfl 0 rfl hC d_P_replaceRow_0 (q := 1) rfl ?_
  refine gf_P_11_4 hC d_P_replaceRow_1 (q := 4) rfl ?_
  refine z_iload_n rfl 2 rfl hC d_P_replaceRow_4 (q := 5) rfl ?_
  obtain ⟨hv1, h⟩ := ck_some h
  refine ao_wN_21 hC hv1 d_P_replaceRow_5 (q := 6) rfl ?_
  refine z_iload_n rfl 3 rfl hC d_P_replaceRow_6 (q := 7) rfl ?_
  obtain ⟨hv2, h⟩ := ck_some h
  refine lr_38 hC hv1 hv2 d_P_replaceRow_7 (q := 8) rfl ?_
  refine z_lstore (lv' := [(4, .long (gJ S (8 + x2.toNatClampNeg) (x3.toNatClampNeg))), (0, .ref (Ω.2.2 4)), (1, .int x1), (2, .int x2), (3, .int x3)]) (by decide) rfl hC d_P_replaceRow_8 (q := 10) rfl ?_
  refine z_sub [1, 2, 3, 4, 0] rfl ?_
  exact w_P_replaceRow_10 hC hA hR hM n r x1 x2 x3 (gJ S (8 + x2.toNatClampNeg) (x3.toNatClampNeg)) S h
theorem c_P_replaceRow (l : Launch) (Ω : z_O) (n : Nat) (x1 : Int32) (x2 : Int32) (x3 : Int32) (S : z_S) (r : Unit × z_S) (h : f_P_replaceRow n x1 x2 x3 S = some r) : z_MV l Ω y_P_replaceRow b_P_replaceRow 11 0 0 [.ref (Ω.2.2 4), .int x1, .int x2, .int x3] (wN Ω S) (wN Ω r.2) := z_introV (by decide +kernel) (Nat.le_of_ble_eq_true rfl) rfl (fun X A hC hA hR _ hM => w_P_replaceRow hC hA hR hM n r x1 x2 x3 S h)
def f_P_pivot_24 (n : Nat) (S : z_S) : Option (Unit × z_S) := some ((), S)
def f_P_pivot_66 (n : Nat) (k43 : Int32 → Int32 → Int64 → Int64 → Int32 → z_S → Option (Unit × z_S)) (x1 : Int32) (x2 : Int32) (x3 : Int64) (x5 : Int64) (x7 : Int32) (S : z_S) : Option (Unit × z_S) := k43 x1 x2 x3 x5 (x7 + (1 : Int32)) S
def f_P_pivot_121 (n : Nat) (k75 : Int32 → Int32 → Int64 → Int64 → Int32 → z_S → Option (Unit × z_S)) (x1 : Int32) (x2 : Int32) (x3 : Int64) (x5 : Int64) (x7 : Int32) (t0 : Int32) (t1 : Int32) (t2 : Int64) (S : z_S) : Option (Unit × z_S) := ck (vi t1 8) (k75 x1 x2 x3 x5 (x7 + (1 : Int32)) (sJ S (8 + t0.toNatClampNeg) (vp_updL (gJ S (8 + t0.toNatClampNeg)) t1.toNatClampNeg t2)))
def f_P_pivot_164 (n : Nat) (S : z_S) : Option (Unit × z_S) := some ((), S)
def f_P_pivot_75 (n : Nat) : Nat → Int32 → Int32 → Int64 → Int64 → Int32 → z_S → Option (Unit × z_S)
  | 0, _, _, _, _, _, _ => none
  | q + 1, x1, x2, x3, x5, x7, S => (if (gF S 4) ≤ x7 then ck (vi x1 8) (ck (vi x2 8) (ck (vi x1 8) (ck (vi x2 8) (f_P_pivot_164 n (sI (sI (sG S 1 (x5 * x3)) 13 (upd (gI (sG S 1 (x5 * x3)) 13) x1.toNatClampNeg (gI (sG S 1 (x5 * x3)) 14 x2.toNatClampNeg))) 14 (upd (gI (sI (sG S 1 (x5 * x3)) 13 (upd (gI (sG S 1 (x5 * x3)) 13) x1.toNatClampNeg (gI (sG S 1 (x5 * x3)) 14 x2.toNatClampNeg))) 14) x2.toNatClampNeg (gI (sG S 1 (x5 * x3)) 13 x1.toNatClampNeg))))))) else ck (vi x1 8) ((if x7 = x2 then f_P_pivot_121 n (f_P_pivot_75 n q) x1 x2 x3 x5 x7 x1 x7 (x5 * (gG S 1)) S else ck (vi x1 8) (ck (vi x7 8) (f_P_pivot_121 n (f_P_pivot_75 n q) x1 x2 x3 x5 x7 x1 x7 ((-x5) * (gJ S (8 + x1.toNatClampNeg) (x7.toNatClampNeg))) S)))))
def f_P_pivot_43 (n : Nat) : Nat → Int32 → Int32 → Int64 → Int64 → Int32 → z_S → Option (Unit × z_S)
  | 0, _, _, _, _, _, _ => none
  | q + 1, x1, x2, x3, x5, x7, S => (if (gF S 3) ≤ x7 then f_P_pivot_75 n n x1 x2 x3 x5 (0 : Int32) S else (if x7 = x1 then f_P_pivot_66 n (f_P_pivot_43 n q) x1 x2 x3 x5 x7 S else bo (f_P_replaceRow n x7 x1 x2 S) (fun _ S63 => f_P_pivot_66 n (f_P_pivot_43 n q) x1 x2 x3 x5 x7 S63)))
def f_P_pivot_38 (n : Nat) (x1 : Int32) (x2 : Int32) (x3 : Int64) (t0 : Int64) (S : z_S) : Option (Unit × z_S) := f_P_pivot_43 n n x1 x2 x3 t0 (0 : Int32) S
def f_P_pivot_9 (n : Nat) (x1 : Int32) (x2 : Int32) (x3 : Int64) (S : z_S) : Option (Unit × z_S) := (if x3 = (0 : Int64) then f_P_pivot_24 n S else (if (gG S 1) = (0 : Int64) then f_P_pivot_24 n S else (if x3 ≤ (0 : Int64) then f_P_pivot_38 n x1 x2 x3 (-1 : Int64) S else f_P_pivot_38 n x1 x2 x3 (1 : Int64) S)))
def f_P_pivot (n : Nat) (x1 : Int32) (x2 : Int32) (S : z_S) : Option (Unit × z_S) := ck (vi x1 8) (ck (vi x2 8) (f_P_pivot_9 n x1 x2 (gJ S (8 + x1.toNatClampNeg) (x2.toNatClampNeg)) S))
set_option maxRecDepth 20000 in
theorem w_P_pivot_24 {X : z_X} {A : Nat → Prop} {Ω : z_O} (hC : z_C X b_P_pivot 8 "NodalAuction$Program" Ω) (hA : z_hA X A) (hR : z_R X none) (hM : z_rmOf X = z_rm 1 30) (n : Nat) (r : Unit × z_S) (S : z_S) (h : f_P_pivot_24 n S = some r) : z_At X A (z_QV X Ω A (wN Ω r.2)) Ω 0 0 8 24 [(0, .ref (Ω.2.2 4))] [] (wN Ω S) := by
  cases h
  exact z_vret hC hR rfl d_P_pivot_24
set_option maxRecDepth 20000 in
theorem w_P_pivot_66 {X : z_X} {A : Nat → Prop} {Ω : z_O} (hC : z_C X b_P_pivot 8 "NodalAuction$Program" Ω) (hA : z_hA X A) (hR : z_R X none) (hM : z_rmOf X = z_rm 1 30) (n : Nat) (r : Unit × z_S) (k43 : Int32 → Int32 → Int64 → Int64 → Int32 → z_S → Option (Unit × z_S)) (hk43 : ∀ (x1 : Int32) (x2 : Int32) (x3 : Int64) (x5 : Int64) (x7 : Int32) (S : z_S), k43 x1 x2 x3 x5 x7 S = some r → z_At X A (z_QV X Ω A (wN Ω r.2)) Ω 0 0 8 43 [(0, .ref (Ω.2.2 4)), (1, .int x1), (2, .int x2), (3, .long x3), (5, .long x5), (7, .int x7)] [] (wN Ω S)) (x1 : Int32) (x2 : Int32) (x3 : Int64) (x5 : Int64) (x7 : Int32) (S : z_S) (h : f_P_pivot_66 n k43 x1 x2 x3 x5 x7 S = some r) : z_At X A (z_QV X Ω A (wN Ω r.2)) Ω 0 0 8 66 [(0, .ref (Ω.2.2 4)), (1, .int x1), (2, .int x2), (3, .long x3), (5, .long x5), (7, .int x7)] [] (wN Ω S) := by
  refine z_iinc (lv' := [(7, .int (x7 + (1 : Int32))), (0, .ref (Ω.2.2 4)), (1, .int x1), (2, .int x2), (3, .long x3), (5, .long x5)]) 5 rfl rfl (by decide) rfl hC d_P_pivot_66 (q := 69) rfl ?_
  refine z_goto (tgt := 43) hC d_P_pivot_69 rfl ?_
  refine z_sub [1, 2, 3, 4, 5, 0] rfl ?_
  exact hk43 x1 x2 x3 x5 (x7 + (1 : Int32)) S h
set_option maxRecDepth 20000 in
theorem w_P_pivot_121 {X : z_X} {A : Nat → Prop} {Ω : z_O} (hC : z_C X b_P_pivot 8 "NodalAuction$Program" Ω) (hA : z_hA X A) (hR : z_R X none) (hM : z_rmOf X = z_rm 1 30) (n : Nat) (r : Unit × z_S) (k75 : Int32 → Int32 → Int64 → Int64 → Int32 → z_S → Option (Unit × z_S)) (hk75 : ∀ (x1 : Int32) (x2 : Int32) (x3 : Int64) (x5 : Int64) (x7 : Int32) (S : z_S), k75 x1 x2 x3 x5 x7 S = some r → z_At X A (z_QV X Ω A (wN Ω r.2)) Ω 0 0 8 75 [(0, .ref (Ω.2.2 4)), (1, .int x1), (2, .int x2), (3, .long x3), (5, .long x5), (7, .int x7)] [] (wN Ω S)) (x1 : Int32) (x2 : Int32) (x3 : Int64) (x5 : Int64) (x7 : Int32) (t0 : Int32) (t1 : Int32) (t2 : Int64) (S : z_S) (ht0 : vi t0 8 = true) (h : f_P_pivot_121 n k75 x1 x2 x3 x5 x7 t0 t1 t2 S = some r) : z_At X A (z_QV X Ω A (wN Ω r.2)) Ω 0 0 8 121 [(0, .ref (Ω.2.2 4)), (1, .int x1), (2, .int x2), (3, .long x3), (5, .long x5), (7, .int x7)] [.long t2, .int t1, .ref (Ω.2.2 (38 + t0.toNatClampNeg))] (wN Ω S) := by
  obtain ⟨hv1, h⟩ := ck_some h
  refine sr_38 hC ht0 hv1 d_P_pivot_121 (q := 122) rfl ?_
  refine z_iinc (lv' := [(7, .int (x7 + (1 : Int32))), (0, .ref (Ω.2.2 4)), (1, .int x1), (2, .int x2), (3, .long x3), (5, .long x5)]) 5 rfl rfl (by decide) rfl hC d_P_pivot_122 (q := 125) rfl ?_
  refine z_goto (tgt := 75) hC d_P_pivot_125 rfl ?_
  refine z_sub [1, 2, 3, 4, 5, 0] rfl ?_
  exact hk75 x1 x2 x3 x5 (x7 + (1 : Int32)) (sJ S (8 + t0.toNatClampNeg) (vp_updL (gJ S (8 + t0.toNatClampNeg)) t1.toNatClampNeg t2)) h
set_option maxRecDepth 20000 in
theorem w_P_pivot_164 {X : z_X} {A : Nat → Prop} {Ω : z_O} (hC : z_C X b_P_pivot 8 "NodalAuction$Program" Ω) (hA : z_hA X A) (hR : z_R X none) (hM : z_rmOf X = z_rm 1 30) (n : Nat) (r : Unit × z_S) (S : z_S) (h : f_P_pivot_164 n S = some r) : z_At X A (z_QV X Ω A (wN Ω r.2)) Ω 0 0 8 164 [(0, .ref (Ω.2.2 4))] [] (wN Ω S) := by
  cases h
  exact z_vret hC hR rfl d_P_pivot_164
set_option maxRecDepth 20000 in
theorem w_P_pivot_75 {X : z_X} {A : Nat → Prop} {Ω : z_O} (hC : z_C X b_P_pivot 8 "NodalAuction$Program" Ω) (hA : z_hA X A) (hR : z_R X none) (hM : z_rmOf X = z_rm 1 30) (n : Nat) (r : Unit × z_S) : ∀ (q : Nat) (x1 : Int32) (x2 : Int32) (x3 : Int64) (x5 : Int64) (x7 : Int32) (S : z_S), f_P_pivot_75 n q x1 x2 x3 x5 x7 S = some r → z_At X A (z_QV X Ω A (wN Ω r.2)) Ω 0 0 8 75 [(0, .ref (Ω.2.2 4)), (1, .int x1), (2, .int x2), (3, .long x3), (5, .long x5), (7, .int x7)] [] (wN Ω S) := by
  intro q
  induction q with
  | zero => intro x1 x2 x3 x5 x7 S h; cases h
  | succ q ih =>
    intro x1 x2 x3 x5 x7 S h
    refine z_iload 5 rfl hC d_P_pivot_75 (q := 77) rfl ?_
    refine z_aload_n rfl 0 rfl hC d_P_pivot_77 (q := 78) rfl ?_
    refine gf_P_40_4 hC d_P_pivot_78 (q := 81) rfl ?_
    refine z_icmp_ge (tgt := 128) (q := 84) hC d_P_pivot_81 rfl rfl (fun hb => ?_) (fun hb => ?_)
    · have h := (if_pos hb).symm.trans h
      refine z_aload_n rfl 0 rfl hC d_P_pivot_128 (q := 129) rfl ?_
      refine z_lload 4 rfl hC d_P_pivot_129 (q := 131) rfl ?_
      refine z_lload_n rfl 3 rfl hC d_P_pivot_131 (q := 132) rfl ?_
      refine z_lmul hC d_P_pivot_132 (q := 133) rfl ?_
      refine pf_P_43_4 hC d_P_pivot_133 (q := 136) rfl ?_
      refine z_aload_n rfl 0 rfl hC d_P_pivot_136 (q := 137) rfl ?_
      refine gf_P_16_4 hC d_P_pivot_137 (q := 140) rfl ?_
      refine z_iload_n rfl 1 rfl hC d_P_pivot_140 (q := 141) rfl ?_
      obtain ⟨hv1, h⟩ := ck_some h
      refine al_wN_22 hC hv1 d_P_pivot_141 (q := 142) rfl ?_
      refine z_istore (lv' := [(7, .int (gI (sG S 1 (x5 * x3)) 13 x1.toNatClampNeg)), (0, .ref (Ω.2.2 4)), (1, .int x1), (2, .int x2), (3, .long x3), (5, .long x5)]) (by decide) rfl hC d_P_pivot_142 (q := 144) rfl ?_
      refine z_aload_n rfl 1 rfl hC d_P_pivot_144 (q := 145) rfl ?_
      refine gf_P_16_4 hC d_P_pivot_145 (q := 148) rfl ?_
      refine z_iload_n rfl 2 rfl hC d_P_pivot_148 (q := 149) rfl ?_
      refine z_aload_n rfl 1 rfl hC d_P_pivot_149 (q := 150) rfl ?_
      refine gf_P_20_4 hC d_P_pivot_150 (q := 153) rfl ?_
      refine z_iload_n rfl 3 rfl hC d_P_pivot_153 (q := 154) rfl ?_
      obtain ⟨hv2, h⟩ := ck_some h
      refine al_wN_23 hC hv2 d_P_pivot_154 (q := 155) rfl ?_
      obtain ⟨hv3, h⟩ := ck_some h
      refine as_wN_22 hC hv3 d_P_pivot_155 (q := 156) rfl ?_
      refine z_aload_n rfl 1 rfl hC d_P_pivot_156 (q := 157) rfl ?_
      refine gf_P_20_4 hC d_P_pivot_157 (q := 160) rfl ?_
      refine z_iload_n rfl 3 rfl hC d_P_pivot_160 (q := 161) rfl ?_
      refine z_iload 0 rfl hC d_P_pivot_161 (q := 163) rfl ?_
      obtain ⟨hv4, h⟩ := ck_some h
      refine as_wN_23 hC hv4 d_P_pivot_163 (q := 164) rfl ?_
      refine z_sub [1] rfl ?_
      exact w_P_pivot_164 hC hA hR hM n r (sI (sI (sG S 1 (x5 * x3)) 13 (upd (gI (sG S 1 (x5 * x3)) 13) x1.toNatClampNeg (gI (sG S 1 (x5 * x3)) 14 x2.toNatClampNeg))) 14 (upd (gI (sI (sG S 1 (x5 * x3)) 13 (upd (gI (sG S 1 (x5 * x3)) 13) x1.toNatClampNeg (gI (sG S 1 (x5 * x3)) 14 x2.toNatClampNeg))) 14) x2.toNatClampNeg (gI (sG S 1 (x5 * x3)) 13 x1.toNatClampNeg))) h
    · have h := (if_neg hb).symm.trans h
      refine z_aload_n rfl 0 rfl hC d_P_pivot_84 (q := 85) rfl ?_
      refine gf_P_11_4 hC d_P_pivot_85 (q := 88) rfl ?_
      refine z_iload_n rfl 1 rfl hC d_P_pivot_88 (q := 89) rfl ?_
      obtain ⟨hv1, h⟩ := ck_some h
      refine ao_wN_21 hC hv1 d_P_pivot_89 (q := 90) rfl ?_
      refine z_iload 5 rfl hC d_P_pivot_90 (q := 92) rfl ?_
      refine z_iload 5 rfl hC d_P_pivot_92 (q := 94) rfl ?_
      refine z_iload_n rfl 2 rfl hC d_P_pivot_94 (q := 95) rfl ?_
      refine z_icmp_ne (tgt := 108) (q := 98) hC d_P_pivot_95 rfl rfl (fun hb => ?_) (fun hb => ?_)
      · have h := (if_neg hb).symm.trans h
        refine z_lload 4 rfl hC d_P_pivot_108 (q := 110) rfl ?_
        refine z_lneg hC d_P_pivot_110 (q := 111) rfl ?_
        refine z_aload_n rfl 0 rfl hC d_P_pivot_111 (q := 112) rfl ?_
        refine gf_P_11_4 hC d_P_pivot_112 (q := 115) rfl ?_
        refine z_iload_n rfl 1 rfl hC d_P_pivot_115 (q := 116) rfl ?_
        obtain ⟨hv2, h⟩ := ck_some h
        refine ao_wN_21 hC hv2 d_P_pivot_116 (q := 117) rfl ?_
        refine z_iload 5 rfl hC d_P_pivot_117 (q := 119) rfl ?_
        obtain ⟨hv3, h⟩ := ck_some h
        refine lr_38 hC hv2 hv3 d_P_pivot_119 (q := 120) rfl ?_
        refine z_lmul hC d_P_pivot_120 (q := 121) rfl ?_
        exact w_P_pivot_121 hC hA hR hM n r (f_P_pivot_75 n q) ih x1 x2 x3 x5 x7 x1 x7 ((-x5) * (gJ S (8 + x1.toNatClampNeg) (x7.toNatClampNeg))) S hv1 h
      · have h := (if_pos hb).symm.trans h
        refine z_lload 4 rfl hC d_P_pivot_98 (q := 100) rfl ?_
        refine z_aload_n rfl 0 rfl hC d_P_pivot_100 (q := 101) rfl ?_
        refine gf_P_43_4 hC d_P_pivot_101 (q := 104) rfl ?_
        refine z_lmul hC d_P_pivot_104 (q := 105) rfl ?_
        refine z_goto (tgt := 121) hC d_P_pivot_105 rfl ?_
        exact w_P_pivot_121 hC hA hR hM n r (f_P_pivot_75 n q) ih x1 x2 x3 x5 x7 x1 x7 (x5 * (gG S 1)) S hv1 h
set_option maxRecDepth 20000 in
theorem w_P_pivot_43 {X : z_X} {A : Nat → Prop} {Ω : z_O} (hC : z_C X b_P_pivot 8 "NodalAuction$Program" Ω) (hA : z_hA X A) (hR : z_R X none) (hM : z_rmOf X = z_rm 1 30) (n : Nat) (r : Unit × z_S) : ∀ (q : Nat) (x1 : Int32) (x2 : Int32) (x3 : Int64) (x5 : Int64) (x7 : Int32) (S : z_S), f_P_pivot_43 n q x1 x2 x3 x5 x7 S = some r → z_At X A (z_QV X Ω A (wN Ω r.2)) Ω 0 0 8 43 [(0, .ref (Ω.2.2 4)), (1, .int x1), (2, .int x2), (3, .long x3), (5, .long x5), (7, .int x7)] [] (wN Ω S) := by
  intro q
  induction q with
  | zero => intro x1 x2 x3 x5 x7 S h; cases h
  | succ q ih =>
    intro x1 x2 x3 x5 x7 S h
    refine z_iload 5 rfl hC d_P_pivot_43 (q := 45) rfl ?_
    refine z_aload_n rfl 0 rfl hC d_P_pivot_45 (q := 46) rfl ?_
    refine gf_P_36_4 hC d_P_pivot_46 (q := 49) rfl ?_
    refine z_icmp_ge (tgt := 72) (q := 52) hC d_P_pivot_49 rfl rfl (fun hb => ?_) (fun hb => ?_)
    · have h := (if_pos hb).symm.trans h
      refine z_iconst (v := (0 : Int32)) (by decide) hC d_P_pivot_72 (q := 73) rfl ?_
      refine z_istore (lv' := [(7, .int (0 : Int32)), (0, .ref (Ω.2.2 4)), (1, .int x1), (2, .int x2), (3, .long x3), (5, .long x5)]) (by decide) rfl hC d_P_pivot_73 (q := 75) rfl ?_
      refine z_sub [1, 2, 3, 4, 5, 0] rfl ?_
      exact w_P_pivot_75 hC hA hR hM n r n x1 x2 x3 x5 (0 : Int32) S h
    · have h := (if_neg hb).symm.trans h
      refine z_iload 5 rfl hC d_P_pivot_52 (q := 54) rfl ?_
      refine z_iload_n rfl 1 rfl hC d_P_pivot_54 (q := 55) rfl ?_
      refine z_icmp_eq (tgt := 66) (q := 58) hC d_P_pivot_55 rfl rfl (fun hb => ?_) (fun hb => ?_)
      · have h := (if_pos hb).symm.trans h
        exact w_P_pivot_66 hC hA hR hM n r (f_P_pivot_43 n q) ih x1 x2 x3 x5 x7 S h
      · have h := (if_neg hb).symm.trans h
        refine z_aload_n rfl 0 rfl hC d_P_pivot_58 (q := 59) rfl ?_
        refine z_iload 5 rfl hC d_P_pivot_59 (q := 61) rfl ?_
        refine z_iload_n rfl 1 rfl hC d_P_pivot_61 (q := 62) rfl ?_
        refine z_iload_n rfl 2 rfl hC d_P_pivot_62 (q := 63) rfl ?_
        obtain ⟨v63, S63, hc63, h⟩ := bo_some h
        refine z_callVv (q0 := 4) (As := [.int x7, .int x1, .int x2]) hC hA (c_P_replaceRow (z_lOf X) Ω n x7 x1 x2 S (v63, S63) hc63) k_321 k_318 k_320 ks_24 k_4 h_P_replaceRow (by rw [hM]; exact ⟨Nat.le_of_ble_eq_true rfl, Nat.le_of_ble_eq_true rfl⟩) ⟨Nat.zero_le _, Nat.zero_le _⟩ rfl rfl rfl (Nat.le_of_ble_eq_true rfl) rfl d_P_pivot_63 (q := 66) rfl ?_
        exact w_P_pivot_66 hC hA hR hM n r (f_P_pivot_43 n q) ih x1 x2 x3 x5 x7 S63 h
set_option maxRecDepth 20000 in
theorem w_P_pivot_38 {X : z_X} {A : Nat → Prop} {Ω : z_O} (hC : z_C X b_P_pivot 8 "NodalAuction$Program" Ω) (hA : z_hA X A) (hR : z_R X none) (hM : z_rmOf X = z_rm 1 30) (n : Nat) (r : Unit × z_S) (x1 : Int32) (x2 : Int32) (x3 : Int64) (t0 : Int64) (S : z_S) (h : f_P_pivot_38 n x1 x2 x3 t0 S = some r) : z_At X A (z_QV X Ω A (wN Ω r.2)) Ω 0 0 8 38 [(0, .ref (Ω.2.2 4)), (1, .int x1), (2, .int x2), (3, .long x3)] [.long t0] (wN Ω S) := by
  refine z_lstore (lv' := [(5, .long t0), (0, .ref (Ω.2.2 4)), (1, .int x1), (2, .int x2), (3, .long x3)]) (by decide) rfl hC d_P_pivot_38 (q := 40) rfl ?_
  refine z_iconst (v := (0 : Int32)) (by decide) hC d_P_pivot_40 (q := 41) rfl ?_
  refine z_istore (lv' := [(7, .int (0 : Int32)), (5, .long t0), (0, .ref (Ω.2.2 4)), (1, .int x1), (2, .int x2), (3, .long x3)]) (by decide) rfl hC d_P_pivot_41 (q := 43) rfl ?_
  refine z_sub [2, 3, 4, 5, 1, 0] rfl ?_
  exact w_P_pivot_43 hC hA hR hM n r n x1 x2 x3 t0 (0 : Int32) S h
set_option maxRecDepth 20000 in
theorem w_P_pivot_9 {X : z_X} {A : Nat → Prop} {Ω : z_O} (hC : z_C X b_P_pivot 8 "NodalAuction$Program" Ω) (hA : z_hA X A) (hR : z_R X none) (hM : z_rmOf X = z_rm 1 30) (n : Nat) (r : Unit × z_S) (x1 : Int32) (x2 : Int32) (x3 : Int64) (S : z_S) (h : f_P_pivot_9 n x1 x2 x3 S = some r) : z_At X A (z_QV X Ω A (wN Ω r.2)) Ω 0 0 8 9 [(0, .ref (Ω.2.2 4)), (1, .int x1), (2, .int x2), (3, .long x3)] [] (wN Ω S) := by
  refine z_lload_n rfl 3 rfl hC d_P_pivot_9 (q := 10) rfl ?_
  refine z_lconst (v := (0 : Int64)) (by decide) hC d_P_pivot_10 (q := 11) rfl ?_
  refine z_lcmp_eq (pc1 := 12) (tgt := 24) (q := 15) hC d_P_pivot_11 rfl d_P_pivot_12 rfl rfl (fun hb => ?_) (fun hb => ?_)
  · have h := (if_pos hb).symm.trans h
    refine z_sub [0] rfl ?_
    exact w_P_pivot_24 hC hA hR hM n r S h
  · have h := (if_neg hb).symm.trans h
    refine z_aload_n rfl 0 rfl hC d_P_pivot_15 (q := 16) rfl ?_
    refine gf_P_43_4 hC d_P_pivot_16 (q := 19) rfl ?_
    refine z_lconst (v := (0 : Int64)) (by decide) hC d_P_pivot_19 (q := 20) rfl ?_
    refine z_lcmp_ne (pc1 := 21) (tgt := 25) (q := 24) hC d_P_pivot_20 rfl d_P_pivot_21 rfl rfl (fun hb => ?_) (fun hb => ?_)
    · have h := (if_neg hb).symm.trans h
      refine z_lload_n rfl 3 rfl hC d_P_pivot_25 (q := 26) rfl ?_
      refine z_lconst (v := (0 : Int64)) (by decide) hC d_P_pivot_26 (q := 27) rfl ?_
      refine z_lcmp_le (pc1 := 28) (tgt := 35) (q := 31) hC d_P_pivot_27 rfl d_P_pivot_28 rfl rfl (fun hb => ?_) (fun hb => ?_)
      · have h := (if_pos hb).symm.trans h
        refine z_ldc2 (v := (-1 : Int64)) k_317 hC d_P_pivot_35 (q := 38) rfl ?_
        exact w_P_pivot_38 hC hA hR hM n r x1 x2 x3 (-1 : Int64) S h
      · have h := (if_neg hb).symm.trans h
        refine z_lconst (v := (1 : Int64)) (by decide) hC d_P_pivot_31 (q := 32) rfl ?_
        refine z_goto (tgt := 38) hC d_P_pivot_32 rfl ?_
        exact w_P_pivot_38 hC hA hR hM n r x1 x2 x3 (1 : Int64) S h
    · have h := (if_pos hb).symm.trans h
      refine z_sub [0] rfl ?_
      exact w_P_pivot_24 hC hA hR hM n r S h
set_option maxRecDepth 20000 in
theorem w_P_pivot {X : z_X} {A : Nat → Prop} {Ω : z_O} (hC : z_C X b_P_pivot 8 "NodalAuction$Program" Ω) (hA : z_hA X A) (hR : z_R X none) (hM : z_rmOf X = z_rm 1 30) (n : Nat) (r : Unit × z_S) (x1 : Int32) (x2 : Int32) (S : z_S) (h : f_P_pivot n x1 x2 S = some r) : z_At X A (z_QV X Ω A (wN Ω r.2)) Ω 0 0 8 0 [(0, .ref (Ω.2.2 4)), (1, .int x1), (2, .int x2)] [] (wN Ω S) := by
  refine z_aload_n rfl 0 rfl hC d_P_pivot_0 (q := 1) rfl ?_
  refine gf_P_11_4 hC d_P_pivot_1 (q := 4) rfl ?_
  refine z_iload_n rfl 1 rfl hC d_P_pivot_4 (q := 5) rfl ?_
  obtain ⟨hv1, h⟩ := ck_some h
  refine ao_wN_21 hC hv1 d_P_pivot_5 (q := 6) rfl ?_
  refine z_iload_n rfl 2 rfl hC d_P_pivot_6 (q := 7) rfl ?_
  obtain ⟨hv2, h⟩ := ck_some h
  refine lr_38 hC hv1 hv2 d_P_pivot_7 (q := 8) rfl ?_
  refine z_lstore_n (lv' := [(3, .long (gJ S (8 + x1.toNatClampNeg) (x2.toNatClampNeg))), (0, .ref (Ω.2.2 4)), (1, .int x1), (2, .int x2)]) rfl (by decide) rfl hC d_P_pivot_8 (q := 9) rfl ?_
  refine z_sub [1, 2, 3, 0] rfl ?_
  exact w_P_pivot_9 hC hA hR hM n r x1 x2 (gJ S (8 + x1.toNatClampNeg) (x2.toNatClampNeg)) S h
theorem c_P_pivot (l : Launch) (Ω : z_O) (n : Nat) (x1 : Int32) (x2 : Int32) (S : z_S) (r : Unit × z_S) (h : f_P_pivot n x1 x2 S = some r) : z_MV l Ω y_P_pivot b_P_pivot 8 1 30 [.ref (Ω.2.2 4), .int x1, .int x2] (wN Ω S) (wN Ω r.2) := z_introV (by decide +kernel) (Nat.le_of_ble_eq_true rfl) rfl (fun X A hC hA hR _ hM => w_P_pivot hC hA hR hM n r x1 x2 S h)
def f_P_advance_191 (n : Nat) (k32 : Int32 → Int32 → Int32 → Int32 → Int64 → Int64 → Int32 → z_S → Option (Unit × z_S)) (x1 : Int32) (x2 : Int32) (x3 : Int32) (x4 : Int32) (x5 : Int64) (x7 : Int64) (x9 : Int32) (S : z_S) : Option (Unit × z_S) := k32 x1 x2 x3 x4 x5 x7 (x9 + (1 : Int32)) S
def f_P_advance_179 (n : Nat) (k32 : Int32 → Int32 → Int32 → Int32 → Int64 → Int64 → Int32 → z_S → Option (Unit × z_S)) (x1 : Int32) (x2 : Int32) (x3 : Int32) (x9 : Int32) (x12 : Int64) (x14 : Int64) (S : z_S) : Option (Unit × z_S) := f_P_advance_191 n k32 x1 x2 x3 x9 x12 x14 x9 S
def f_P_advance_158 (n : Nat) (k32 : Int32 → Int32 → Int32 → Int32 → Int64 → Int64 → Int32 → z_S → Option (Unit × z_S)) (x1 : Int32) (x2 : Int32) (x3 : Int32) (x4 : Int32) (x5 : Int64) (x7 : Int64) (x9 : Int32) (x12 : Int64) (x14 : Int64) (x16 : Int64) (t0 : Int32) (S : z_S) : Option (Unit × z_S) := (if x16 < (0 : Int64) then f_P_advance_179 n k32 x1 x2 x3 x9 x12 x14 S else (if x16 = (0 : Int64) then (if t0 = 0 then f_P_advance_191 n k32 x1 x2 x3 x4 x5 x7 x9 S else f_P_advance_179 n k32 x1 x2 x3 x9 x12 x14 S) else f_P_advance_191 n k32 x1 x2 x3 x4 x5 x7 x9 S))
def f_P_advance_157 (n : Nat) (k32 : Int32 → Int32 → Int32 → Int32 → Int64 → Int64 → Int32 → z_S → Option (Unit × z_S)) (x1 : Int32) (x2 : Int32) (x3 : Int32) (x4 : Int32) (x5 : Int64) (x7 : Int64) (x9 : Int32) (x12 : Int64) (x14 : Int64) (x16 : Int64) (S : z_S) : Option (Unit × z_S) := f_P_advance_158 n k32 x1 x2 x3 x4 x5 x7 x9 x12 x14 x16 (0 : Int32) S
def f_P_advance_131 (n : Nat) (k32 : Int32 → Int32 → Int32 → Int32 → Int64 → Int64 → Int32 → z_S → Option (Unit × z_S)) (x1 : Int32) (x2 : Int32) (x3 : Int32) (x4 : Int32) (x5 : Int64) (x7 : Int64) (x9 : Int32) (x12 : Int64) (x14 : Int64) (x16 : Int64) (S : z_S) : Option (Unit × z_S) := (if x4 < 0 then f_P_advance_157 n k32 x1 x2 x3 x4 x5 x7 x9 x12 x14 x16 S else ck (vi x9 8) (ck (vi x4 8) ((if (gI S 13 x4.toNatClampNeg) ≤ (gI S 13 x9.toNatClampNeg) then f_P_advance_157 n k32 x1 x2 x3 x4 x5 x7 x9 x12 x14 x16 S else f_P_advance_158 n k32 x1 x2 x3 x4 x5 x7 x9 x12 x14 x16 (1 : Int32) S))))
def f_P_advance_106 (n : Nat) (k32 : Int32 → Int32 → Int32 → Int32 → Int64 → Int64 → Int32 → z_S → Option (Unit × z_S)) (x1 : Int32) (x2 : Int32) (x3 : Int32) (x4 : Int32) (x5 : Int64) (x7 : Int64) (x9 : Int32) (x10 : Int64) (t1 : Int32) (t2 : Int32) (S : z_S) : Option (Unit × z_S) := bo (f_P_roomOf n t1 t2 S) (fun v106 S106 => f_P_advance_131 n k32 x1 x2 x3 x4 x5 x7 x9 v106 (if 0 < x10 then x10 else -x10) ((v106 * x7) - (x5 * (if 0 < x10 then x10 else -x10))) S106)
def f_P_advance_67 (n : Nat) (k32 : Int32 → Int32 → Int32 → Int32 → Int64 → Int64 → Int32 → z_S → Option (Unit × z_S)) (x1 : Int32) (x2 : Int32) (x3 : Int32) (x4 : Int32) (x5 : Int64) (x7 : Int64) (x9 : Int32) (t0 : Int64) (S : z_S) : Option (Unit × z_S) := (if t0 = (0 : Int64) then f_P_advance_191 n k32 x1 x2 x3 x4 x5 x7 x9 S else ck (vi x9 8) ((if (gI S 13 x9.toNatClampNeg) = (15 : Int32) then f_P_advance_191 n k32 x1 x2 x3 x4 x5 x7 x9 S else (if t0 ≤ (0 : Int64) then f_P_advance_106 n k32 x1 x2 x3 x4 x5 x7 x9 t0 x9 (0 : Int32) S else f_P_advance_106 n k32 x1 x2 x3 x4 x5 x7 x9 t0 x9 (1 : Int32) S))))
def f_P_advance_226 (n : Nat) (t1 : Int32) (t2 : Int32) (S : z_S) : Option (Unit × z_S) := ck (vi t1 16) (some ((), sI S 17 (upd (gI S 17) t1.toNatClampNeg t2)))
def f_P_advance_295 (n : Nat) (x1 : Int32) (x4 : Int32) (t1 : Int32) (t2 : Int32) (S : z_S) : Option (Unit × z_S) := ck (vi t1 16) (bo (f_P_pivot n x4 x1 (sI S 17 (upd (gI S 17) t1.toNatClampNeg t2))) (fun _ S300 => some ((), S300)))
def f_P_advance_265 (n : Nat) (x1 : Int32) (x4 : Int32) (x9 : Int32) (t0 : Int32) (S : z_S) : Option (Unit × z_S) := (if t0 = 0 then ck (vi x9 16) (f_P_advance_295 n x1 x4 x9 (gI S 15 x9.toNatClampNeg) S) else ck (vi x9 16) (f_P_advance_295 n x1 x4 x9 (gI S 16 x9.toNatClampNeg) S))
def f_P_advance_257 (n : Nat) (x1 : Int32) (x4 : Int32) (x9 : Int32) (t0 : Int32) (t1 : Int32) (S : z_S) : Option (Unit × z_S) := (if t0 = t1 then f_P_advance_265 n x1 x4 x9 (1 : Int32) S else f_P_advance_265 n x1 x4 x9 (0 : Int32) S)
def f_P_advance_32 (n : Nat) : Nat → Int32 → Int32 → Int32 → Int32 → Int64 → Int64 → Int32 → z_S → Option (Unit × z_S)
  | 0, _, _, _, _, _, _, _, _ => none
  | q + 1, x1, x2, x3, x4, x5, x7, x9, S => (if (gF S 3) ≤ x9 then (if 0 ≤ x4 then ck (vi x4 8) (ck (vi x4 8) (ck (vi x1 8) ((if (gJ S (8 + x4.toNatClampNeg) (x1.toNatClampNeg)) ≤ (0 : Int64) then f_P_advance_257 n x1 x4 (gI S 13 x4.toNatClampNeg) x2 (0 : Int32) S else f_P_advance_257 n x1 x4 (gI S 13 x4.toNatClampNeg) x2 (1 : Int32) S)))) else (if x2 = 0 then ck (vi x3 16) (f_P_advance_226 n x3 (gI S 15 x3.toNatClampNeg) S) else ck (vi x3 16) (f_P_advance_226 n x3 (gI S 16 x3.toNatClampNeg) S))) else (if x2 = 0 then ck (vi x9 8) (ck (vi x1 8) (f_P_advance_67 n (f_P_advance_32 n q) x1 x2 x3 x4 x5 x7 x9 (-(gJ S (8 + x9.toNatClampNeg) (x1.toNatClampNeg))) S)) else ck (vi x9 8) (ck (vi x1 8) (f_P_advance_67 n (f_P_advance_32 n q) x1 x2 x3 x4 x5 x7 x9 (gJ S (8 + x9.toNatClampNeg) (x1.toNatClampNeg)) S))))
def f_P_advance_26 (n : Nat) (x1 : Int32) (x2 : Int32) (x3 : Int32) (x4 : Int32) (x5 : Int64) (S : z_S) : Option (Unit × z_S) := f_P_advance_32 n n x1 x2 x3 x4 x5 (1 : Int64) (0 : Int32) S
def f_P_advance (n : Nat) (x1 : Int32) (x2 : Int32) (S : z_S) : Option (Unit × z_S) := ck (vi x1 8) (ck (vi (gI S 14 x1.toNatClampNeg) 16) (ck (vi (gI S 14 x1.toNatClampNeg) 16) (f_P_advance_26 n x1 x2 (gI S 14 x1.toNatClampNeg) (-1 : Int32) (((gI S 16 ((gI S 14 x1.toNatClampNeg).toNatClampNeg)) - (gI S 15 ((gI S 14 x1.toNatClampNeg).toNatClampNeg))).toInt64) S)))
set_option maxRecDepth 20000 in
theorem w_P_advance_191 {X : z_X} {A : Nat → Prop} {Ω : z_O} (hC : z_C X b_P_advance 19 "NodalAuction$Program" Ω) (hA : z_hA X A) (hR : z_R X none) (hM : z_rmOf X = z_rm 2 57) (n : Nat) (r : Unit × z_S) (k32 : Int32 → Int32 → Int32 → Int32 → Int64 → Int64 → Int32 → z_S → Option (Unit × z_S)) (hk32 : ∀ (x1 : Int32) (x2 : Int32) (x3 : Int32) (x4 : Int32) (x5 : Int64) (x7 : Int64) (x9 : Int32) (S : z_S), k32 x1 x2 x3 x4 x5 x7 x9 S = some r → z_At X A (z_QV X Ω A (wN Ω r.2)) Ω 0 0 19 32 [(0, .ref (Ω.2.2 4)), (1, .int x1), (2, .int x2), (3, .int x3), (4, .int x4), (5, .long x5), (7, .long x7), (9, .int x9)] [] (wN Ω S)) (x1 : Int32) (x2 : Int32) (x3 : Int32) (x4 : Int32) (x5 : Int64) (x7 : Int64) (x9 : Int32) (S : z_S) (h : f_P_advance_191 n k32 x1 x2 x3 x4 x5 x7 x9 S = some r) : z_At X A (z_QV X Ω A (wN Ω r.2)) Ω 0 0 19 191 [(0, .ref (Ω.2.2 4)), (1, .int x1), (2, .int x2), (3, .int x3), (4, .int x4), (5, .long x5), (7, .long x7), (9, .int x9)] [] (wN Ω S) := by
  refine z_iinc (lv' := [(9, .int (x9 + (1 : Int32))), (0, .ref (Ω.2.2 4)), (1, .int x1), (2, .int x2), (3, .int x3), (4, .int x4), (5, .long x5), (7, .long x7)]) 7 rfl rfl (by decide) rfl hC d_P_advance_191 (q := 194) rfl ?_
  refine z_goto (tgt := 32) hC d_P_advance_194 rfl ?_
  refine z_sub [1, 2, 3, 4, 5, 6, 7, 0] rfl ?_
  exact hk32 x1 x2 x3 x4 x5 x7 (x9 + (1 : Int32)) S h
set_option maxRecDepth 20000 in
theorem w_P_advance_179 {X : z_X} {A : Nat → Prop} {Ω : z_O} (hC : z_C X b_P_advance 19 "NodalAuction$Program" Ω) (hA : z_hA X A) (hR : z_R X none) (hM : z_rmOf X = z_rm 2 57) (n : Nat) (r : Unit × z_S) (k32 : Int32 → Int32 → Int32 → Int32 → Int64 → Int64 → Int32 → z_S → Option (Unit × z_S)) (hk32 : ∀ (x1 : Int32) (x2 : Int32) (x3 : Int32) (x4 : Int32) (x5 : Int64) (x7 : Int64) (x9 : Int32) (S : z_S), k32 x1 x2 x3 x4 x5 x7 x9 S = some r → z_At X A (z_QV X Ω A (wN Ω r.2)) Ω 0 0 19 32 [(0, .ref (Ω.2.2 4)), (1, .int x1), (2, .int x2), (3, .int x3), (4, .int x4), (5, .long x5), (7, .long x7), (9, .int x9)] [] (wN Ω S)) (x1 : Int32) (x2 : Int32) (x3 : Int32) (x9 : Int32) (x12 : Int64) (x14 : Int64) (S : z_S) (h : f_P_advance_179 n k32 x1 x2 x3 x9 x12 x14 S = some r) : z_At X A (z_QV X Ω A (wN Ω r.2)) Ω 0 0 19 179 [(0, .ref (Ω.2.2 4)), (1, .int x1), (2, .int x2), (3, .int x3), (9, .int x9), (12, .long x12), (14, .long x14)] [] (wN Ω S) := by
  refine z_iload 4 rfl hC d_P_advance_179 (q := 181) rfl ?_
  refine z_istore (lv' := [(4, .int x9), (0, .ref (Ω.2.2 4)), (1, .int x1), (2, .int x2), (3, .int x3), (9, .int x9), (12, .long x12), (14, .long x14)]) (by decide) rfl hC d_P_advance_181 (q := 183) rfl ?_
  refine z_lload 6 rfl hC d_P_advance_183 (q := 185) rfl ?_
  refine z_lstore (lv' := [(5, .long x12), (4, .int x9), (0, .ref (Ω.2.2 4)), (1, .int x1), (2, .int x2), (3, .int x3), (9, .int x9), (12, .long x12), (14, .long x14)]) (by decide) rfl hC d_P_advance_185 (q := 187) rfl ?_
  refine z_lload 8 rfl hC d_P_advance_187 (q := 189) rfl ?_
  refine z_lstore (lv' := [(7, .long x14), (5, .long x12), (4, .int x9), (0, .ref (Ω.2.2 4)), (1, .int x1), (2, .int x2), (3, .int x3), (9, .int x9), (12, .long x12), (14, .long x14)]) (by decide) rfl hC d_P_advance_189 (q := 191) rfl ?_
  refine z_sub [3, 4, 5, 6, 2, 1, 0, 7] rfl ?_
  exact w_P_advance_191 hC hA hR hM n r k32 hk32 x1 x2 x3 x9 x12 x14 x9 S h
set_option maxRecDepth 20000 in
theorem w_P_advance_158 {X : z_X} {A : Nat → Prop} {Ω : z_O} (hC : z_C X b_P_advance 19 "NodalAuction$Program" Ω) (hA : z_hA X A) (hR : z_R X none) (hM : z_rmOf X = z_rm 2 57) (n : Nat) (r : Unit × z_S) (k32 : Int32 → Int32 → Int32 → Int32 → Int64 → Int64 → Int32 → z_S → Option (Unit × z_S)) (hk32 : ∀ (x1 : Int32) (x2 : Int32) (x3 : Int32) (x4 : Int32) (x5 : Int64) (x7 : Int64) (x9 : Int32) (S : z_S), k32 x1 x2 x3 x4 x5 x7 x9 S = some r → z_At X A (z_QV X Ω A (wN Ω r.2)) Ω 0 0 19 32 [(0, .ref (Ω.2.2 4)), (1, .int x1), (2, .int x2), (3, .int x3), (4, .int x4), (5, .long x5), (7, .long x7), (9, .int x9)] [] (wN Ω S)) (x1 : Int32) (x2 : Int32) (x3 : Int32) (x4 : Int32) (x5 : Int64) (x7 : Int64) (x9 : Int32) (x12 : Int64) (x14 : Int64) (x16 : Int64) (t0 : Int32) (S : z_S) (h : f_P_advance_158 n k32 x1 x2 x3 x4 x5 x7 x9 x12 x14 x16 t0 S = some r) : z_At X A (z_QV X Ω A (wN Ω r.2)) Ω 0 0 19 158 [(0, .ref (Ω.2.2 4)), (1, .int x1), (2, .int x2), (3, .int x3), (4, .int x4), (5, .long x5), (7, .long x7), (9, .int x9), (12, .long x12), (14, .long x14), (16, .long x16)] [.int t0] (wN Ω S) := by
  refine z_istore (lv' := [(18, .int t0), (0, .ref (Ω.2.2 4)), (1, .int x1), (2, .int x2), (3, .int x3), (4, .int x4), (5, .long x5), (7, .long x7), (9, .int x9), (12, .long x12), (14, .long x14), (16, .long x16)]) (by decide) rfl hC d_P_advance_158 (q := 160) rfl ?_
  refine z_lload 11 rfl hC d_P_advance_160 (q := 162) rfl ?_
  refine z_lconst (v := (0 : Int64)) (by decide) hC d_P_advance_162 (q := 163) rfl ?_
  refine z_lcmp_lt (pc1 := 164) (tgt := 179) (q := 167) hC d_P_advance_163 rfl d_P_advance_164 rfl rfl (fun hb => ?_) (fun hb => ?_)
  · have h := (if_pos hb).symm.trans h
    refine z_sub [1, 2, 3, 4, 8, 9, 10] rfl ?_
    exact w_P_advance_179 hC hA hR hM n r k32 hk32 x1 x2 x3 x9 x12 x14 S h
  · have h := (if_neg hb).symm.trans h
    refine z_lload 11 rfl hC d_P_advance_167 (q := 169) rfl ?_
    refine z_lconst (v := (0 : Int64)) (by decide) hC d_P_advance_169 (q := 170) rfl ?_
    refine z_lcmp_ne (pc1 := 171) (tgt := 191) (q := 174) hC d_P_advance_170 rfl d_P_advance_171 rfl rfl (fun hb => ?_) (fun hb => ?_)
    · have h := (if_neg hb).symm.trans h
      refine z_sub [1, 2, 3, 4, 5, 6, 7, 8] rfl ?_
      exact w_P_advance_191 hC hA hR hM n r k32 hk32 x1 x2 x3 x4 x5 x7 x9 S h
    · have h := (if_pos hb).symm.trans h
      refine z_iload 0 rfl hC d_P_advance_174 (q := 176) rfl ?_
      refine z_if_eq (tgt := 191) (q := 179) hC d_P_advance_176 rfl rfl (fun hb => ?_) (fun hb => ?_)
      · have h := (if_pos hb).symm.trans h
        refine z_sub [1, 2, 3, 4, 5, 6, 7, 8] rfl ?_
        exact w_P_advance_191 hC hA hR hM n r k32 hk32 x1 x2 x3 x4 x5 x7 x9 S h
      · have h := (if_neg hb).symm.trans h
        refine z_sub [1, 2, 3, 4, 8, 9, 10] rfl ?_
        exact w_P_advance_179 hC hA hR hM n r k32 hk32 x1 x2 x3 x9 x12 x14 S h
set_option maxRecDepth 20000 in
theorem w_P_advance_157 {X : z_X} {A : Nat → Prop} {Ω : z_O} (hC : z_C X b_P_advance 19 "NodalAuction$Program" Ω) (hA : z_hA X A) (hR : z_R X none) (hM : z_rmOf X = z_rm 2 57) (n : Nat) (r : Unit × z_S) (k32 : Int32 → Int32 → Int32 → Int32 → Int64 → Int64 → Int32 → z_S → Option (Unit × z_S)) (hk32 : ∀ (x1 : Int32) (x2 : Int32) (x3 : Int32) (x4 : Int32) (x5 : Int64) (x7 : Int64) (x9 : Int32) (S : z_S), k32 x1 x2 x3 x4 x5 x7 x9 S = some r → z_At X A (z_QV X Ω A (wN Ω r.2)) Ω 0 0 19 32 [(0, .ref (Ω.2.2 4)), (1, .int x1), (2, .int x2), (3, .int x3), (4, .int x4), (5, .long x5), (7, .long x7), (9, .int x9)] [] (wN Ω S)) (x1 : Int32) (x2 : Int32) (x3 : Int32) (x4 : Int32) (x5 : Int64) (x7 : Int64) (x9 : Int32) (x12 : Int64) (x14 : Int64) (x16 : Int64) (S : z_S) (h : f_P_advance_157 n k32 x1 x2 x3 x4 x5 x7 x9 x12 x14 x16 S = some r) : z_At X A (z_QV X Ω A (wN Ω r.2)) Ω 0 0 19 157 [(0, .ref (Ω.2.2 4)), (1, .int x1), (2, .int x2), (3, .int x3), (4, .int x4), (5, .long x5), (7, .long x7), (9, .int x9), (12, .long x12), (14, .long x14), (16, .long x16)] [] (wN Ω S) := by
  refine z_iconst (v := (0 : Int32)) (by decide) hC d_P_advance_157 (q := 158) rfl ?_
  exact w_P_advance_158 hC hA hR hM n r k32 hk32 x1 x2 x3 x4 x5 x7 x9 x12 x14 x16 (0 : Int32) S h
set_option maxRecDepth 20000 in
theorem w_P_advance_131 {X : z_X} {A : Nat → Prop} {Ω : z_O} (hC : z_C X b_P_advance 19 "NodalAuction$Program" Ω) (hA : z_hA X A) (hR : z_R X none) (hM : z_rmOf X = z_rm 2 57) (n : Nat) (r : Unit × z_S) (k32 : Int32 → Int32 → Int32 → Int32 → Int64 → Int64 → Int32 → z_S → Option (Unit × z_S)) (hk32 : ∀ (x1 : Int32) (x2 : Int32) (x3 : Int32) (x4 : Int32) (x5 : Int64) (x7 : Int64) (x9 : Int32) (S : z_S), k32 x1 x2 x3 x4 x5 x7 x9 S = some r → z_At X A (z_QV X Ω A (wN Ω r.2)) Ω 0 0 19 32 [(0, .ref (Ω.2.2 4)), (1, .int x1), (2, .int x2), (3, .int x3), (4, .int x4), (5, .long x5), (7, .long x7), (9, .int x9)] [] (wN Ω S)) (x1 : Int32) (x2 : Int32) (x3 : Int32) (x4 : Int32) (x5 : Int64) (x7 : Int64) (x9 : Int32) (x12 : Int64) (x14 : Int64) (x16 : Int64) (S : z_S) (h : f_P_advance_131 n k32 x1 x2 x3 x4 x5 x7 x9 x12 x14 x16 S = some r) : z_At X A (z_QV X Ω A (wN Ω r.2)) Ω 0 0 19 131 [(0, .ref (Ω.2.2 4)), (1, .int x1), (2, .int x2), (3, .int x3), (4, .int x4), (5, .long x5), (7, .long x7), (9, .int x9), (12, .long x12), (14, .long x14), (16, .long x16)] [] (wN Ω S) := by
  refine z_iload 4 rfl hC d_P_advance_131 (q := 133) rfl ?_
  refine z_if_lt (tgt := 157) (q := 136) hC d_P_advance_133 rfl rfl (fun hb => ?_) (fun hb => ?_)
  · have h := (if_pos hb).symm.trans h
    exact w_P_advance_157 hC hA hR hM n r k32 hk32 x1 x2 x3 x4 x5 x7 x9 x12 x14 x16 S h
  · have h := (if_neg hb).symm.trans h
    refine z_aload_n rfl 0 rfl hC d_P_advance_136 (q := 137) rfl ?_
    refine gf_P_16_4 hC d_P_advance_137 (q := 140) rfl ?_
    refine z_iload 7 rfl hC d_P_advance_140 (q := 142) rfl ?_
    obtain ⟨hv1, h⟩ := ck_some h
    refine al_wN_22 hC hv1 d_P_advance_142 (q := 143) rfl ?_
    refine z_aload_n rfl 0 rfl hC d_P_advance_143 (q := 144) rfl ?_
    refine gf_P_16_4 hC d_P_advance_144 (q := 147) rfl ?_
    refine z_iload 4 rfl hC d_P_advance_147 (q := 149) rfl ?_
    obtain ⟨hv2, h⟩ := ck_some h
    refine al_wN_22 hC hv2 d_P_advance_149 (q := 150) rfl ?_
    refine z_icmp_ge (tgt := 157) (q := 153) hC d_P_advance_150 rfl rfl (fun hb => ?_) (fun hb => ?_)
    · have h := (if_pos hb).symm.trans h
      exact w_P_advance_157 hC hA hR hM n r k32 hk32 x1 x2 x3 x4 x5 x7 x9 x12 x14 x16 S h
    · have h := (if_neg hb).symm.trans h
      refine z_iconst (v := (1 : Int32)) (by decide) hC d_P_advance_153 (q := 154) rfl ?_
      refine z_goto (tgt := 158) hC d_P_advance_154 rfl ?_
      exact w_P_advance_158 hC hA hR hM n r k32 hk32 x1 x2 x3 x4 x5 x7 x9 x12 x14 x16 (1 : Int32) S h
set_option maxRecDepth 20000 in
theorem w_P_advance_106 {X : z_X} {A : Nat → Prop} {Ω : z_O} (hC : z_C X b_P_advance 19 "NodalAuction$Program" Ω) (hA : z_hA X A) (hR : z_R X none) (hM : z_rmOf X = z_rm 2 57) (n : Nat) (r : Unit × z_S) (k32 : Int32 → Int32 → Int32 → Int32 → Int64 → Int64 → Int32 → z_S → Option (Unit × z_S)) (hk32 : ∀ (x1 : Int32) (x2 : Int32) (x3 : Int32) (x4 : Int32) (x5 : Int64) (x7 : Int64) (x9 : Int32) (S : z_S), k32 x1 x2 x3 x4 x5 x7 x9 S = some r → z_At X A (z_QV X Ω A (wN Ω r.2)) Ω 0 0 19 32 [(0, .ref (Ω.2.2 4)), (1, .int x1), (2, .int x2), (3, .int x3), (4, .int x4), (5, .long x5), (7, .long x7), (9, .int x9)] [] (wN Ω S)) (x1 : Int32) (x2 : Int32) (x3 : Int32) (x4 : Int32) (x5 : Int64) (x7 : Int64) (x9 : Int32) (x10 : Int64) (t1 : Int32) (t2 : Int32) (S : z_S) (h : f_P_advance_106 n k32 x1 x2 x3 x4 x5 x7 x9 x10 t1 t2 S = some r) : z_At X A (z_QV X Ω A (wN Ω r.2)) Ω 0 0 19 106 [(0, .ref (Ω.2.2 4)), (1, .int x1), (2, .int x2), (3, .int x3), (4, .int x4), (5, .long x5), (7, .long x7), (9, .int x9), (10, .long x10)] [.int t2, .int t1, .ref (Ω.2.2 4)] (wN Ω S) := by
  obtain ⟨v106, S106, hc106, h⟩ := bo_some h
  refine z_callVl (q0 := 4) (As := [.int t1, .int t2]) hC hA (c_P_roomOf (z_lOf X) Ω n t1 t2 S (v106, S106) hc106) k_305 k_302 k_304 ks_21 k_4 h_P_roomOf (by rw [hM]; exact ⟨Nat.le_of_ble_eq_true rfl, Nat.le_of_ble_eq_true rfl⟩) ⟨Nat.zero_le _, Nat.zero_le _⟩ rfl rfl rfl (Nat.le_of_ble_eq_true rfl) rfl d_P_advance_106 (q := 109) rfl ?_
  refine z_lstore (lv' := [(12, .long v106), (0, .ref (Ω.2.2 4)), (1, .int x1), (2, .int x2), (3, .int x3), (4, .int x4), (5, .long x5), (7, .long x7), (9, .int x9), (10, .long x10)]) (by decide) rfl hC d_P_advance_109 (q := 111) rfl ?_
  refine z_lload 9 rfl hC d_P_advance_111 (q := 113) rfl ?_
  refine z_labs hC k_310 k_311 k_7 k_312 (by rw [hM]; decide) (by rw [hM]; exact Nat.le_of_ble_eq_true rfl) ⟨Nat.zero_le _, Nat.zero_le _⟩ d_P_advance_113 (q := 116) rfl ?_
  refine z_lstore (lv' := [(14, .long (if 0 < x10 then x10 else -x10)), (12, .long v106), (0, .ref (Ω.2.2 4)), (1, .int x1), (2, .int x2), (3, .int x3), (4, .int x4), (5, .long x5), (7, .long x7), (9, .int x9), (10, .long x10)]) (by decide) rfl hC d_P_advance_116 (q := 118) rfl ?_
  refine z_lload 1 rfl hC d_P_advance_118 (q := 120) rfl ?_
  refine z_lload 8 rfl hC d_P_advance_120 (q := 122) rfl ?_
  refine z_lmul hC d_P_advance_122 (q := 123) rfl ?_
  refine z_lload 7 rfl hC d_P_advance_123 (q := 125) rfl ?_
  refine z_lload 0 rfl hC d_P_advance_125 (q := 127) rfl ?_
  refine z_lmul hC d_P_advance_127 (q := 128) rfl ?_
  refine z_lsub hC d_P_advance_128 (q := 129) rfl ?_
  refine z_lstore (lv' := [(16, .long ((v106 * x7) - (x5 * (if 0 < x10 then x10 else -x10)))), (14, .long (if 0 < x10 then x10 else -x10)), (12, .long v106), (0, .ref (Ω.2.2 4)), (1, .int x1), (2, .int x2), (3, .int x3), (4, .int x4), (5, .long x5), (7, .long x7), (9, .int x9), (10, .long x10)]) (by decide) rfl hC d_P_advance_129 (q := 131) rfl ?_
  refine z_sub [3, 4, 5, 6, 7, 8, 9, 10, 2, 1, 0] rfl ?_
  exact w_P_advance_131 hC hA hR hM n r k32 hk32 x1 x2 x3 x4 x5 x7 x9 v106 (if 0 < x10 then x10 else -x10) ((v106 * x7) - (x5 * (if 0 < x10 then x10 else -x10))) S106 h
set_option maxRecDepth 20000 in
theorem w_P_advance_67 {X : z_X} {A : Nat → Prop} {Ω : z_O} (hC : z_C X b_P_advance 19 "NodalAuction$Program" Ω) (hA : z_hA X A) (hR : z_R X none) (hM : z_rmOf X = z_rm 2 57) (n : Nat) (r : Unit × z_S) (k32 : Int32 → Int32 → Int32 → Int32 → Int64 → Int64 → Int32 → z_S → Option (Unit × z_S)) (hk32 : ∀ (x1 : Int32) (x2 : Int32) (x3 : Int32) (x4 : Int32) (x5 : Int64) (x7 : Int64) (x9 : Int32) (S : z_S), k32 x1 x2 x3 x4 x5 x7 x9 S = some r → z_At X A (z_QV X Ω A (wN Ω r.2)) Ω 0 0 19 32 [(0, .ref (Ω.2.2 4)), (1, .int x1), (2, .int x2), (3, .int x3), (4, .int x4), (5, .long x5), (7, .long x7), (9, .int x9)] [] (wN Ω S)) (x1 : Int32) (x2 : Int32) (x3 : Int32) (x4 : Int32) (x5 : Int64) (x7 : Int64) (x9 : Int32) (t0 : Int64) (S : z_S) (h : f_P_advance_67 n k32 x1 x2 x3 x4 x5 x7 x9 t0 S = some r) : z_At X A (z_QV X Ω A (wN Ω r.2)) Ω 0 0 19 67 [(0, .ref (Ω.2.2 4)), (1, .int x1), (2, .int x2), (3, .int x3), (4, .int x4), (5, .long x5), (7, .long x7), (9, .int x9)] [.long t0] (wN Ω S) := by
  refine z_lstore (lv' := [(10, .long t0), (0, .ref (Ω.2.2 4)), (1, .int x1), (2, .int x2), (3, .int x3), (4, .int x4), (5, .long x5), (7, .long x7), (9, .int x9)]) (by decide) rfl hC d_P_advance_67 (q := 69) rfl ?_
  refine z_lload 0 rfl hC d_P_advance_69 (q := 71) rfl ?_
  refine z_lconst (v := (0 : Int64)) (by decide) hC d_P_advance_71 (q := 72) rfl ?_
  refine z_lcmp_eq (pc1 := 73) (tgt := 191) (q := 76) hC d_P_advance_72 rfl d_P_advance_73 rfl rfl (fun hb => ?_) (fun hb => ?_)
  · have h := (if_pos hb).symm.trans h
    refine z_sub [1, 2, 3, 4, 5, 6, 7, 8] rfl ?_
    exact w_P_advance_191 hC hA hR hM n r k32 hk32 x1 x2 x3 x4 x5 x7 x9 S h
  · have h := (if_neg hb).symm.trans h
    refine z_aload_n rfl 1 rfl hC d_P_advance_76 (q := 77) rfl ?_
    refine gf_P_16_4 hC d_P_advance_77 (q := 80) rfl ?_
    refine z_iload 8 rfl hC d_P_advance_80 (q := 82) rfl ?_
    obtain ⟨hv1, h⟩ := ck_some h
    refine al_wN_22 hC hv1 d_P_advance_82 (q := 83) rfl ?_
    refine z_bipush (v := (15 : Int32)) (by decide) hC d_P_advance_83 (q := 85) rfl ?_
    refine z_icmp_ne (tgt := 91) (q := 88) hC d_P_advance_85 rfl rfl (fun hb => ?_) (fun hb => ?_)
    · have h := (if_neg hb).symm.trans h
      refine z_aload_n rfl 1 rfl hC d_P_advance_91 (q := 92) rfl ?_
      refine z_iload 8 rfl hC d_P_advance_92 (q := 94) rfl ?_
      refine z_lload 0 rfl hC d_P_advance_94 (q := 96) rfl ?_
      refine z_lconst (v := (0 : Int64)) (by decide) hC d_P_advance_96 (q := 97) rfl ?_
      refine z_lcmp_le (pc1 := 98) (tgt := 105) (q := 101) hC d_P_advance_97 rfl d_P_advance_98 rfl rfl (fun hb => ?_) (fun hb => ?_)
      · have h := (if_pos hb).symm.trans h
        refine z_iconst (v := (0 : Int32)) (by decide) hC d_P_advance_105 (q := 106) rfl ?_
        refine z_sub [1, 2, 3, 4, 5, 6, 7, 8, 0] rfl ?_
        exact w_P_advance_106 hC hA hR hM n r k32 hk32 x1 x2 x3 x4 x5 x7 x9 t0 x9 (0 : Int32) S h
      · have h := (if_neg hb).symm.trans h
        refine z_iconst (v := (1 : Int32)) (by decide) hC d_P_advance_101 (q := 102) rfl ?_
        refine z_goto (tgt := 106) hC d_P_advance_102 rfl ?_
        refine z_sub [1, 2, 3, 4, 5, 6, 7, 8, 0] rfl ?_
        exact w_P_advance_106 hC hA hR hM n r k32 hk32 x1 x2 x3 x4 x5 x7 x9 t0 x9 (1 : Int32) S h
    · have h := (if_pos hb).symm.trans h
      refine z_goto (tgt := 191) hC d_P_advance_88 rfl ?_
      refine z_sub [1, 2, 3, 4, 5, 6, 7, 8] rfl ?_
      exact w_P_advance_191 hC hA hR hM n r k32 hk32 x1 x2 x3 x4 x5 x7 x9 S h
set_option maxRecDepth 20000 in
theorem w_P_advance_226 {X : z_X} {A : Nat → Prop} {Ω : z_O} (hC : z_C X b_P_advance 19 "NodalAuction$Program" Ω) (hA : z_hA X A) (hR : z_R X none) (hM : z_rmOf X = z_rm 2 57) (n : Nat) (r : Unit × z_S) (t1 : Int32) (t2 : Int32) (S : z_S) (h : f_P_advance_226 n t1 t2 S = some r) : z_At X A (z_QV X Ω A (wN Ω r.2)) Ω 0 0 19 226 [(0, .ref (Ω.2.2 4))] [.int t2, .int t1, .ref (Ω.2.2 26)] (wN Ω S) := by
  obtain ⟨hv1, h⟩ := ck_some h
  refine as_wN_26 hC hv1 d_P_advance_226 (q := 227) rfl ?_
  cases h
  exact z_vret hC hR rfl d_P_advance_227
set_option maxRecDepth 20000 in
theorem w_P_advance_295 {X : z_X} {A : Nat → Prop} {Ω : z_O} (hC : z_C X b_P_advance 19 "NodalAuction$Program" Ω) (hA : z_hA X A) (hR : z_R X none) (hM : z_rmOf X = z_rm 2 57) (n : Nat) (r : Unit × z_S) (x1 : Int32) (x4 : Int32) (t1 : Int32) (t2 : Int32) (S : z_S) (h : f_P_advance_295 n x1 x4 t1 t2 S = some r) : z_At X A (z_QV X Ω A (wN Ω r.2)) Ω 0 0 19 295 [(0, .ref (Ω.2.2 4)), (1, .int x1), (4, .int x4)] [.int t2, .int t1, .ref (Ω.2.2 26)] (wN Ω S) := by
  obtain ⟨hv1, h⟩ := ck_some h
  refine as_wN_26 hC hv1 d_P_advance_295 (q := 296) rfl ?_
  refine z_aload_n rfl 0 rfl hC d_P_advance_296 (q := 297) rfl ?_
  refine z_iload 2 rfl hC d_P_advance_297 (q := 299) rfl ?_
  refine z_iload_n rfl 1 rfl hC d_P_advance_299 (q := 300) rfl ?_
  obtain ⟨v300, S300, hc300, h⟩ := bo_some h
  refine z_callVv (q0 := 4) (As := [.int x4, .int x1]) hC hA (c_P_pivot (z_lOf X) Ω n x4 x1 (sI S 17 (upd (gI S 17) t1.toNatClampNeg t2)) (v300, S300) hc300) k_316 k_313 k_315 ks_23 k_4 h_P_pivot (by rw [hM]; exact ⟨Nat.le_of_ble_eq_true rfl, Nat.le_of_ble_eq_true rfl⟩) ⟨Nat.zero_le _, Nat.zero_le _⟩ rfl rfl rfl (Nat.le_of_ble_eq_true rfl) rfl d_P_advance_300 (q := 303) rfl ?_
  cases h
  exact z_vret hC hR rfl d_P_advance_303
set_option maxRecDepth 20000 in
theorem w_P_advance_265 {X : z_X} {A : Nat → Prop} {Ω : z_O} (hC : z_C X b_P_advance 19 "NodalAuction$Program" Ω) (hA : z_hA X A) (hR : z_R X none) (hM : z_rmOf X = z_rm 2 57) (n : Nat) (r : Unit × z_S) (x1 : Int32) (x4 : Int32) (x9 : Int32) (t0 : Int32) (S : z_S) (h : f_P_advance_265 n x1 x4 x9 t0 S = some r) : z_At X A (z_QV X Ω A (wN Ω r.2)) Ω 0 0 19 265 [(0, .ref (Ω.2.2 4)), (1, .int x1), (4, .int x4), (9, .int x9)] [.int t0] (wN Ω S) := by
  refine z_istore (lv' := [(10, .int t0), (0, .ref (Ω.2.2 4)), (1, .int x1), (4, .int x4), (9, .int x9)]) (by decide) rfl hC d_P_advance_265 (q := 267) rfl ?_
  refine z_aload_n rfl 1 rfl hC d_P_advance_267 (q := 268) rfl ?_
  refine gf_P_29_4 hC d_P_advance_268 (q := 271) rfl ?_
  refine z_iload 4 rfl hC d_P_advance_271 (q := 273) rfl ?_
  refine z_iload 0 rfl hC d_P_advance_273 (q := 275) rfl ?_
  refine z_if_eq (tgt := 288) (q := 278) hC d_P_advance_275 rfl rfl (fun hb => ?_) (fun hb => ?_)
  · have h := (if_pos hb).symm.trans h
    refine z_aload_n rfl 1 rfl hC d_P_advance_288 (q := 289) rfl ?_
    refine gf_P_23_4 hC d_P_advance_289 (q := 292) rfl ?_
    refine z_iload 4 rfl hC d_P_advance_292 (q := 294) rfl ?_
    obtain ⟨hv1, h⟩ := ck_some h
    refine al_wN_24 hC hv1 d_P_advance_294 (q := 295) rfl ?_
    refine z_sub [1, 2, 3] rfl ?_
    exact w_P_advance_295 hC hA hR hM n r x1 x4 x9 (gI S 15 x9.toNatClampNeg) S h
  · have h := (if_neg hb).symm.trans h
    refine z_aload_n rfl 1 rfl hC d_P_advance_278 (q := 279) rfl ?_
    refine gf_P_26_4 hC d_P_advance_279 (q := 282) rfl ?_
    refine z_iload 4 rfl hC d_P_advance_282 (q := 284) rfl ?_
    obtain ⟨hv1, h⟩ := ck_some h
    refine al_wN_25 hC hv1 d_P_advance_284 (q := 285) rfl ?_
    refine z_goto (tgt := 295) hC d_P_advance_285 rfl ?_
    refine z_sub [1, 2, 3] rfl ?_
    exact w_P_advance_295 hC hA hR hM n r x1 x4 x9 (gI S 16 x9.toNatClampNeg) S h
set_option maxRecDepth 20000 in
theorem w_P_advance_257 {X : z_X} {A : Nat → Prop} {Ω : z_O} (hC : z_C X b_P_advance 19 "NodalAuction$Program" Ω) (hA : z_hA X A) (hR : z_R X none) (hM : z_rmOf X = z_rm 2 57) (n : Nat) (r : Unit × z_S) (x1 : Int32) (x4 : Int32) (x9 : Int32) (t0 : Int32) (t1 : Int32) (S : z_S) (h : f_P_advance_257 n x1 x4 x9 t0 t1 S = some r) : z_At X A (z_QV X Ω A (wN Ω r.2)) Ω 0 0 19 257 [(0, .ref (Ω.2.2 4)), (1, .int x1), (4, .int x4), (9, .int x9)] [.int t1, .int t0] (wN Ω S) := by
  refine z_icmp_ne (tgt := 264) (q := 260) hC d_P_advance_257 rfl rfl (fun hb => ?_) (fun hb => ?_)
  · have h := (if_neg hb).symm.trans h
    refine z_iconst (v := (0 : Int32)) (by decide) hC d_P_advance_264 (q := 265) rfl ?_
    exact w_P_advance_265 hC hA hR hM n r x1 x4 x9 (0 : Int32) S h
  · have h := (if_pos hb).symm.trans h
    refine z_iconst (v := (1 : Int32)) (by decide) hC d_P_advance_260 (q := 261) rfl ?_
    refine z_goto (tgt := 265) hC d_P_advance_261 rfl ?_
    exact w_P_advance_265 hC hA hR hM n r x1 x4 x9 (1 : Int32) S h
set_option maxRecDepth 20000 in
theorem w_P_advance_32 {X : z_X} {A : Nat → Prop} {Ω : z_O} (hC : z_C X b_P_advance 19 "NodalAuction$Program" Ω) (hA : z_hA X A) (hR : z_R X none) (hM : z_rmOf X = z_rm 2 57) (n : Nat) (r : Unit × z_S) : ∀ (q : Nat) (x1 : Int32) (x2 : Int32) (x3 : Int32) (x4 : Int32) (x5 : Int64) (x7 : Int64) (x9 : Int32) (S : z_S), f_P_advance_32 n q x1 x2 x3 x4 x5 x7 x9 S = some r → z_At X A (z_QV X Ω A (wN Ω r.2)) Ω 0 0 19 32 [(0, .ref (Ω.2.2 4)), (1, .int x1), (2, .int x2), (3, .int x3), (4, .int x4), (5, .long x5), (7, .long x7), (9, .int x9)] [] (wN Ω S) := by
  intro q
  induction q with
  | zero => intro x1 x2 x3 x4 x5 x7 x9 S h; cases h
  | succ q ih =>
    intro x1 x2 x3 x4 x5 x7 x9 S h
    refine z_iload 7 rfl hC d_P_advance_32 (q := 34) rfl ?_
    refine z_aload_n rfl 0 rfl hC d_P_advance_34 (q := 35) rfl ?_
    refine gf_P_36_4 hC d_P_advance_35 (q := 38) rfl ?_
    refine z_icmp_ge (tgt := 197) (q := 41) hC d_P_advance_38 rfl rfl (fun hb => ?_) (fun hb => ?_)
    · have h := (if_pos hb).symm.trans h
      refine z_iload 4 rfl hC d_P_advance_197 (q := 199) rfl ?_
      refine z_if_ge (tgt := 228) (q := 202) hC d_P_advance_199 rfl rfl (fun hb => ?_) (fun hb => ?_)
      · have h := (if_pos hb).symm.trans h
        refine z_aload_n rfl 0 rfl hC d_P_advance_228 (q := 229) rfl ?_
        refine gf_P_16_4 hC d_P_advance_229 (q := 232) rfl ?_
        refine z_iload 4 rfl hC d_P_advance_232 (q := 234) rfl ?_
        obtain ⟨hv1, h⟩ := ck_some h
        refine al_wN_22 hC hv1 d_P_advance_234 (q := 235) rfl ?_
        refine z_istore (lv' := [(9, .int (gI S 13 x4.toNatClampNeg)), (0, .ref (Ω.2.2 4)), (1, .int x1), (2, .int x2), (3, .int x3), (4, .int x4), (5, .long x5), (7, .long x7)]) (by decide) rfl hC d_P_advance_235 (q := 237) rfl ?_
        refine z_iload_n rfl 3 rfl hC d_P_advance_237 (q := 238) rfl ?_
        refine z_aload_n rfl 1 rfl hC d_P_advance_238 (q := 239) rfl ?_
        refine gf_P_11_4 hC d_P_advance_239 (q := 242) rfl ?_
        refine z_iload 5 rfl hC d_P_advance_242 (q := 244) rfl ?_
        obtain ⟨hv2, h⟩ := ck_some h
        refine ao_wN_21 hC hv2 d_P_advance_244 (q := 245) rfl ?_
        refine z_iload_n rfl 2 rfl hC d_P_advance_245 (q := 246) rfl ?_
        obtain ⟨hv3, h⟩ := ck_some h
        refine lr_38 hC hv2 hv3 d_P_advance_246 (q := 247) rfl ?_
        refine z_lconst (v := (0 : Int64)) (by decide) hC d_P_advance_247 (q := 248) rfl ?_
        refine z_lcmp_le (pc1 := 249) (tgt := 256) (q := 252) hC d_P_advance_248 rfl d_P_advance_249 rfl rfl (fun hb => ?_) (fun hb => ?_)
        · have h := (if_pos hb).symm.trans h
          refine z_iconst (v := (0 : Int32)) (by decide) hC d_P_advance_256 (q := 257) rfl ?_
          refine z_sub [1, 2, 5, 0] rfl ?_
          exact w_P_advance_257 hC hA hR hM n r x1 x4 (gI S 13 x4.toNatClampNeg) x2 (0 : Int32) S h
        · have h := (if_neg hb).symm.trans h
          refine z_iconst (v := (1 : Int32)) (by decide) hC d_P_advance_252 (q := 253) rfl ?_
          refine z_goto (tgt := 257) hC d_P_advance_253 rfl ?_
          refine z_sub [1, 2, 5, 0] rfl ?_
          exact w_P_advance_257 hC hA hR hM n r x1 x4 (gI S 13 x4.toNatClampNeg) x2 (1 : Int32) S h
      · have h := (if_neg hb).symm.trans h
        refine z_aload_n rfl 0 rfl hC d_P_advance_202 (q := 203) rfl ?_
        refine gf_P_29_4 hC d_P_advance_203 (q := 206) rfl ?_
        refine z_iload_n rfl 3 rfl hC d_P_advance_206 (q := 207) rfl ?_
        refine z_iload_n rfl 2 rfl hC d_P_advance_207 (q := 208) rfl ?_
        refine z_if_eq (tgt := 220) (q := 211) hC d_P_advance_208 rfl rfl (fun hb => ?_) (fun hb => ?_)
        · have h := (if_pos hb).symm.trans h
          refine z_aload_n rfl 0 rfl hC d_P_advance_220 (q := 221) rfl ?_
          refine gf_P_23_4 hC d_P_advance_221 (q := 224) rfl ?_
          refine z_iload_n rfl 3 rfl hC d_P_advance_224 (q := 225) rfl ?_
          obtain ⟨hv1, h⟩ := ck_some h
          refine al_wN_24 hC hv1 d_P_advance_225 (q := 226) rfl ?_
          refine z_sub [0] rfl ?_
          exact w_P_advance_226 hC hA hR hM n r x3 (gI S 15 x3.toNatClampNeg) S h
        · have h := (if_neg hb).symm.trans h
          refine z_aload_n rfl 0 rfl hC d_P_advance_211 (q := 212) rfl ?_
          refine gf_P_26_4 hC d_P_advance_212 (q := 215) rfl ?_
          refine z_iload_n rfl 3 rfl hC d_P_advance_215 (q := 216) rfl ?_
          obtain ⟨hv1, h⟩ := ck_some h
          refine al_wN_25 hC hv1 d_P_advance_216 (q := 217) rfl ?_
          refine z_goto (tgt := 226) hC d_P_advance_217 rfl ?_
          refine z_sub [0] rfl ?_
          exact w_P_advance_226 hC hA hR hM n r x3 (gI S 16 x3.toNatClampNeg) S h
    · have h := (if_neg hb).symm.trans h
      refine z_iload_n rfl 2 rfl hC d_P_advance_41 (q := 42) rfl ?_
      refine z_if_eq (tgt := 57) (q := 45) hC d_P_advance_42 rfl rfl (fun hb => ?_) (fun hb => ?_)
      · have h := (if_pos hb).symm.trans h
        refine z_aload_n rfl 0 rfl hC d_P_advance_57 (q := 58) rfl ?_
        refine gf_P_11_4 hC d_P_advance_58 (q := 61) rfl ?_
        refine z_iload 7 rfl hC d_P_advance_61 (q := 63) rfl ?_
        obtain ⟨hv1, h⟩ := ck_some h
        refine ao_wN_21 hC hv1 d_P_advance_63 (q := 64) rfl ?_
        refine z_iload_n rfl 1 rfl hC d_P_advance_64 (q := 65) rfl ?_
        obtain ⟨hv2, h⟩ := ck_some h
        refine lr_38 hC hv1 hv2 d_P_advance_65 (q := 66) rfl ?_
        refine z_lneg hC d_P_advance_66 (q := 67) rfl ?_
        exact w_P_advance_67 hC hA hR hM n r (f_P_advance_32 n q) ih x1 x2 x3 x4 x5 x7 x9 (-(gJ S (8 + x9.toNatClampNeg) (x1.toNatClampNeg))) S h
      · have h := (if_neg hb).symm.trans h
        refine z_aload_n rfl 0 rfl hC d_P_advance_45 (q := 46) rfl ?_
        refine gf_P_11_4 hC d_P_advance_46 (q := 49) rfl ?_
        refine z_iload 7 rfl hC d_P_advance_49 (q := 51) rfl ?_
        obtain ⟨hv1, h⟩ := ck_some h
        refine ao_wN_21 hC hv1 d_P_advance_51 (q := 52) rfl ?_
        refine z_iload_n rfl 1 rfl hC d_P_advance_52 (q := 53) rfl ?_
        obtain ⟨hv2, h⟩ := ck_some h
        refine lr_38 hC hv1 hv2 d_P_advance_53 (q := 54) rfl ?_
        refine z_goto (tgt := 67) hC d_P_advance_54 rfl ?_
        exact w_P_advance_67 hC hA hR hM n r (f_P_advance_32 n q) ih x1 x2 x3 x4 x5 x7 x9 (gJ S (8 + x9.toNatClampNeg) (x1.toNatClampNeg)) S h
set_option maxRecDepth 20000 in
theorem w_P_advance_26 {X : z_X} {A : Nat → Prop} {Ω : z_O} (hC : z_C X b_P_advance 19 "NodalAuction$Program" Ω) (hA : z_hA X A) (hR : z_R X none) (hM : z_rmOf X = z_rm 2 57) (n : Nat) (r : Unit × z_S) (x1 : Int32) (x2 : Int32) (x3 : Int32) (x4 : Int32) (x5 : Int64) (S : z_S) (h : f_P_advance_26 n x1 x2 x3 x4 x5 S = some r) : z_At X A (z_QV X Ω A (wN Ω r.2)) Ω 0 0 19 26 [(0, .ref (Ω.2.2 4)), (1, .int x1), (2, .int x2), (3, .int x3), (4, .int x4), (5, .long x5)] [] (wN Ω S) := by
  refine z_lconst (v := (1 : Int64)) (by decide) hC d_P_advance_26 (q := 27) rfl ?_
  refine z_lstore (lv' := [(7, .long (1 : Int64)), (0, .ref (Ω.2.2 4)), (1, .int x1), (2, .int x2), (3, .int x3), (4, .int x4), (5, .long x5)]) (by decide) rfl hC d_P_advance_27 (q := 29) rfl ?_
  refine z_iconst (v := (0 : Int32)) (by decide) hC d_P_advance_29 (q := 30) rfl ?_
  refine z_istore (lv' := [(9, .int (0 : Int32)), (7, .long (1 : Int64)), (0, .ref (Ω.2.2 4)), (1, .int x1), (2, .int x2), (3, .int x3), (4, .int x4), (5, .long x5)]) (by decide) rfl hC d_P_advance_30 (q := 32) rfl ?_
  refine z_sub [2, 3, 4, 5, 6, 7, 1, 0] rfl ?_
  exact w_P_advance_32 hC hA hR hM n r n x1 x2 x3 x4 x5 (1 : Int64) (0 : Int32) S h
set_option maxRecDepth 20000 in
theorem w_P_advance {X : z_X} {A : Nat → Prop} {Ω : z_O} (hC : z_C X b_P_advance 19 "NodalAuction$Program" Ω) (hA : z_hA X A) (hR : z_R X none) (hM : z_rmOf X = z_rm 2 57) (n : Nat) (r : Unit × z_S) (x1 : Int32) (x2 : Int32) (S : z_S) (h : f_P_advance n x1 x2 S = some r) : z_At X A (z_QV X Ω A (wN Ω r.2)) Ω 0 0 19 0 [(0, .ref (Ω.2.2 4)), (1, .int x1), (2, .int x2)] [] (wN Ω S) := by
  refine z_aload_n rfl 0 rfl hC d_P_advance_0 (q := 1) rfl ?_
  refine gf_P_20_4 hC d_P_advance_1 (q := 4) rfl ?_
  refine z_iload_n rfl 1 rfl hC d_P_advance_4 (q := 5) rfl ?_
  obtain ⟨hv1, h⟩ := ck_some h
  refine al_wN_23 hC hv1 d_P_advance_5 (q := 6) rfl ?_
  refine z_istore_n (lv' := [(3, .int (gI S 14 x1.toNatClampNeg)), (0, .ref (Ω.2.2 4)), (1, .int x1), (2, .int x2)]) rfl (by decide) rfl hC d_P_advance_6 (q := 7) rfl ?_
  refine z_iconst (v := (-1 : Int32)) (by decide) hC d_P_advance_7 (q := 8) rfl ?_
  refine z_istore (lv' := [(4, .int (-1 : Int32)), (3, .int (gI S 14 x1.toNatClampNeg)), (0, .ref (Ω.2.2 4)), (1, .int x1), (2, .int x2)]) (by decide) rfl hC d_P_advance_8 (q := 10) rfl ?_
  refine z_aload_n rfl 2 rfl hC d_P_advance_10 (q := 11) rfl ?_
  refine gf_P_26_4 hC d_P_advance_11 (q := 14) rfl ?_
  refine z_iload_n rfl 1 rfl hC d_P_advance_14 (q := 15) rfl ?_
  obtain ⟨hv2, h⟩ := ck_some h
  refine al_wN_25 hC hv2 d_P_advance_15 (q := 16) rfl ?_
  refine z_aload_n rfl 2 rfl hC d_P_advance_16 (q := 17) rfl ?_
  refine gf_P_23_4 hC d_P_advance_17 (q := 20) rfl ?_
  refine z_iload_n rfl 1 rfl hC d_P_advance_20 (q := 21) rfl ?_
  obtain ⟨hv3, h⟩ := ck_some h
  refine al_wN_24 hC hv3 d_P_advance_21 (q := 22) rfl ?_
  refine z_isub hC d_P_advance_22 (q := 23) rfl ?_
  refine z_i2l hC d_P_advance_23 (q := 24) rfl ?_
  refine z_lstore (lv' := [(5, .long (((gI S 16 ((gI S 14 x1.toNatClampNeg).toNatClampNeg)) - (gI S 15 ((gI S 14 x1.toNatClampNeg).toNatClampNeg))).toInt64)), (4, .int (-1 : Int32)), (3, .int (gI S 14 x1.toNatClampNeg)), (0, .ref (Ω.2.2 4)), (1, .int x1), (2, .int x2)]) (by decide) rfl hC d_P_advance_24 (q := 26) rfl ?_
  refine z_sub [3, 4, 5, 2, 1, 0] rfl ?_
  exact w_P_advance_26 hC hA hR hM n r x1 x2 (gI S 14 x1.toNatClampNeg) (-1 : Int32) (((gI S 16 ((gI S 14 x1.toNatClampNeg).toNatClampNeg)) - (gI S 15 ((gI S 14 x1.toNatClampNeg).toNatClampNeg))).toInt64) S h
theorem c_P_advance (l : Launch) (Ω : z_O) (n : Nat) (x1 : Int32) (x2 : Int32) (S : z_S) (r : Unit × z_S) (h : f_P_advance n x1 x2 S = some r) : z_MV l Ω y_P_advance b_P_advance 19 2 57 [.ref (Ω.2.2 4), .int x1, .int x2] (wN Ω S) (wN Ω r.2) := z_introV (by decide +kernel) (Nat.le_of_ble_eq_true rfl) rfl (fun X A hC hA hR _ hM => w_P_advance hC hA hR hM n r x1 x2 S h)
def f_P_maximise_51 (n : Nat) (k2 : Int32 → Int32 → z_S → Option (Unit × z_S)) (x1 : Int32) (x2 : Int32) (t1 : Int32) (t2 : Int32) (S : z_S) : Option (Unit × z_S) := bo (f_P_advance n t1 t2 S) (fun _ S51 => k2 x1 (x2 + (1 : Int32)) S51)
def f_P_maximise_95 (n : Nat) (k68 : Int32 → Int32 → Int32 → z_S → Option (Unit × z_S)) (x1 : Int32) (x2 : Int32) (x3 : Int32) (S : z_S) : Option (Unit × z_S) := k68 x1 x2 (x3 + (1 : Int32)) S
def f_P_maximise_68 (n : Nat) : Nat → Int32 → Int32 → Int32 → z_S → Option (Unit × z_S)
  | 0, _, _, _, _ => none
  | q + 1, x1, x2, x3, S => (if (gF S 4) ≤ x3 then some ((), S) else bo (f_P_gain n x1 x2 x3 S) (fun v80 S80 => (if v80 = (0 : Int64) then f_P_maximise_95 n (f_P_maximise_68 n q) x1 x2 x3 S80 else ck (vi x3 8) (f_P_maximise_95 n (f_P_maximise_68 n q) x1 x2 x3 (sI S80 18 (upd (gI S80 18) x3.toNatClampNeg (vp_nar .boolean (1 : Int32))))))))
def f_P_maximise_60 (n : Nat) (x1 : Int32) (S : z_S) : Option (Unit × z_S) := bo (f_P_rowOf n x1 S) (fun v62 S62 => f_P_maximise_68 n n x1 v62 (0 : Int32) S62)
def f_P_maximise_2 (n : Nat) : Nat → Int32 → Int32 → z_S → Option (Unit × z_S)
  | 0, _, _, _ => none
  | q + 1, x1, x2, S => (if (1000000 : Int32) ≤ x2 then f_P_maximise_60 n x1 S else bo (f_P_rowOf n x1 S) (fun v10 S10 => bo (f_P_firstGain n x1 v10 S10) (fun v17 S17 => (if 0 ≤ v17 then bo (f_P_gain n x1 v10 v17 S17) (fun v38 S38 => (if v38 ≤ (0 : Int64) then f_P_maximise_51 n (f_P_maximise_2 n q) x1 x2 v17 (0 : Int32) S38 else f_P_maximise_51 n (f_P_maximise_2 n q) x1 x2 v17 (1 : Int32) S38)) else f_P_maximise_60 n x1 S17))))
def f_P_maximise (n : Nat) (x1 : Int32) (S : z_S) : Option (Unit × z_S) := f_P_maximise_2 n n x1 (0 : Int32) S
set_option maxRecDepth 20000 in
theorem w_P_maximise_51 {X : z_X} {A : Nat → Prop} {Ω : z_O} (hC : z_C X b_P_maximise 5 "NodalAuction$Program" Ω) (hA : z_hA X A) (hR : z_R X none) (hM : z_rmOf X = z_rm 3 95) (n : Nat) (r : Unit × z_S) (k2 : Int32 → Int32 → z_S → Option (Unit × z_S)) (hk2 : ∀ (x1 : Int32) (x2 : Int32) (S : z_S), k2 x1 x2 S = some r → z_At X A (z_QV X Ω A (wN Ω r.2)) Ω 0 0 5 2 [(0, .ref (Ω.2.2 4)), (1, .int x1), (2, .int x2)] [] (wN Ω S)) (x1 : Int32) (x2 : Int32) (t1 : Int32) (t2 : Int32) (S : z_S) (h : f_P_maximise_51 n k2 x1 x2 t1 t2 S = some r) : z_At X A (z_QV X Ω A (wN Ω r.2)) Ω 0 0 5 51 [(0, .ref (Ω.2.2 4)), (1, .int x1), (2, .int x2)] [.int t2, .int t1, .ref (Ω.2.2 4)] (wN Ω S) := by
  obtain ⟨v51, S51, hc51, h⟩ := bo_some h
  refine z_callVv (q0 := 4) (As := [.int t1, .int t2]) hC hA (c_P_advance (z_lOf X) Ω n t1 t2 S (v51, S51) hc51) k_301 k_298 k_300 ks_20 k_4 h_P_advance (by rw [hM]; exact ⟨Nat.le_of_ble_eq_true rfl, Nat.le_of_ble_eq_true rfl⟩) ⟨Nat.zero_le _, Nat.zero_le _⟩ rfl rfl rfl (Nat.le_of_ble_eq_true rfl) rfl d_P_maximise_51 (q := 54) rfl ?_
  refine z_iinc (lv' := [(2, .int (x2 + (1 : Int32))), (0, .ref (Ω.2.2 4)), (1, .int x1)]) 2 rfl rfl (by decide) rfl hC d_P_maximise_54 (q := 57) rfl ?_
  refine z_goto (tgt := 2) hC d_P_maximise_57 rfl ?_
  refine z_sub [1, 2, 0] rfl ?_
  exact hk2 x1 (x2 + (1 : Int32)) S51 h
set_option maxRecDepth 20000 in
theorem w_P_maximise_95 {X : z_X} {A : Nat → Prop} {Ω : z_O} (hC : z_C X b_P_maximise 5 "NodalAuction$Program" Ω) (hA : z_hA X A) (hR : z_R X none) (hM : z_rmOf X = z_rm 3 95) (n : Nat) (r : Unit × z_S) (k68 : Int32 → Int32 → Int32 → z_S → Option (Unit × z_S)) (hk68 : ∀ (x1 : Int32) (x2 : Int32) (x3 : Int32) (S : z_S), k68 x1 x2 x3 S = some r → z_At X A (z_QV X Ω A (wN Ω r.2)) Ω 0 0 5 68 [(0, .ref (Ω.2.2 4)), (1, .int x1), (2, .int x2), (3, .int x3)] [] (wN Ω S)) (x1 : Int32) (x2 : Int32) (x3 : Int32) (S : z_S) (h : f_P_maximise_95 n k68 x1 x2 x3 S = some r) : z_At X A (z_QV X Ω A (wN Ω r.2)) Ω 0 0 5 95 [(0, .ref (Ω.2.2 4)), (1, .int x1), (2, .int x2), (3, .int x3)] [] (wN Ω S) := by
  refine z_iinc (lv' := [(3, .int (x3 + (1 : Int32))), (0, .ref (Ω.2.2 4)), (1, .int x1), (2, .int x2)]) 3 rfl rfl (by decide) rfl hC d_P_maximise_95 (q := 98) rfl ?_
  refine z_goto (tgt := 68) hC d_P_maximise_98 rfl ?_
  refine z_sub [1, 2, 3, 0] rfl ?_
  exact hk68 x1 x2 (x3 + (1 : Int32)) S h
set_option maxRecDepth 20000 in
theorem w_P_maximise_68 {X : z_X} {A : Nat → Prop} {Ω : z_O} (hC : z_C X b_P_maximise 5 "NodalAuction$Program" Ω) (hA : z_hA X A) (hR : z_R X none) (hM : z_rmOf X = z_rm 3 95) (n : Nat) (r : Unit × z_S) : ∀ (q : Nat) (x1 : Int32) (x2 : Int32) (x3 : Int32) (S : z_S), f_P_maximise_68 n q x1 x2 x3 S = some r → z_At X A (z_QV X Ω A (wN Ω r.2)) Ω 0 0 5 68 [(0, .ref (Ω.2.2 4)), (1, .int x1), (2, .int x2), (3, .int x3)] [] (wN Ω S) := by
  intro q
  induction q with
  | zero => intro x1 x2 x3 S h; cases h
  | succ q ih =>
    intro x1 x2 x3 S h
    refine z_iload_n rfl 3 rfl hC d_P_maximise_68 (q := 69) rfl ?_
    refine z_aload_n rfl 0 rfl hC d_P_maximise_69 (q := 70) rfl ?_
    refine gf_P_40_4 hC d_P_maximise_70 (q := 73) rfl ?_
    refine z_icmp_ge (tgt := 101) (q := 76) hC d_P_maximise_73 rfl rfl (fun hb => ?_) (fun hb => ?_)
    · have h := (if_pos hb).symm.trans h
      cases h
      exact z_vret hC hR rfl d_P_maximise_101
    · have h := (if_neg hb).symm.trans h
      refine z_aload_n rfl 0 rfl hC d_P_maximise_76 (q := 77) rfl ?_
      refine z_iload_n rfl 1 rfl hC d_P_maximise_77 (q := 78) rfl ?_
      refine z_iload_n rfl 2 rfl hC d_P_maximise_78 (q := 79) rfl ?_
      refine z_iload_n rfl 3 rfl hC d_P_maximise_79 (q := 80) rfl ?_
      obtain ⟨v80, S80, hc80, h⟩ := bo_some h
      refine z_callVl (q0 := 4) (As := [.int x1, .int x2, .int x3]) hC hA (c_P_gain (z_lOf X) Ω n x1 x2 x3 S (v80, S80) hc80) k_293 k_290 k_292 ks_18 k_4 h_P_gain (by rw [hM]; exact ⟨Nat.le_of_ble_eq_true rfl, Nat.le_of_ble_eq_true rfl⟩) ⟨Nat.zero_le _, Nat.zero_le _⟩ rfl rfl rfl (Nat.le_of_ble_eq_true rfl) rfl d_P_maximise_80 (q := 83) rfl ?_
      refine z_lconst (v := (0 : Int64)) (by decide) hC d_P_maximise_83 (q := 84) rfl ?_
      refine z_lcmp_eq (pc1 := 85) (tgt := 95) (q := 88) hC d_P_maximise_84 rfl d_P_maximise_85 rfl rfl (fun hb => ?_) (fun hb => ?_)
      · have h := (if_pos hb).symm.trans h
        exact w_P_maximise_95 hC hA hR hM n r (f_P_maximise_68 n q) ih x1 x2 x3 S80 h
      · have h := (if_neg hb).symm.trans h
        refine z_aload_n rfl 0 rfl hC d_P_maximise_88 (q := 89) rfl ?_
        refine gf_P_32_4 hC d_P_maximise_89 (q := 92) rfl ?_
        refine z_iload_n rfl 3 rfl hC d_P_maximise_92 (q := 93) rfl ?_
        refine z_iconst (v := (1 : Int32)) (by decide) hC d_P_maximise_93 (q := 94) rfl ?_
        obtain ⟨hv1, h⟩ := ck_some h
        refine as_wN_27 hC hv1 d_P_maximise_94 (q := 95) rfl ?_
        exact w_P_maximise_95 hC hA hR hM n r (f_P_maximise_68 n q) ih x1 x2 x3 (sI S80 18 (upd (gI S80 18) x3.toNatClampNeg (vp_nar .boolean (1 : Int32)))) h
set_option maxRecDepth 20000 in
theorem w_P_maximise_60 {X : z_X} {A : Nat → Prop} {Ω : z_O} (hC : z_C X b_P_maximise 5 "NodalAuction$Program" Ω) (hA : z_hA X A) (hR : z_R X none) (hM : z_rmOf X = z_rm 3 95) (n : Nat) (r : Unit × z_S) (x1 : Int32) (S : z_S) (h : f_P_maximise_60 n x1 S = some r) : z_At X A (z_QV X Ω A (wN Ω r.2)) Ω 0 0 5 60 [(0, .ref (Ω.2.2 4)), (1, .int x1)] [] (wN Ω S) := by
  refine z_aload_n rfl 0 rfl hC d_P_maximise_60 (q := 61) rfl ?_
  refine z_iload_n rfl 1 rfl hC d_P_maximise_61 (q := 62) rfl ?_
  obtain ⟨v62, S62, hc62, h⟩ := bo_some h
  refine z_callVi (q0 := 4) (As := [.int x1]) hC hA (c_P_rowOf (z_lOf X) Ω n x1 S (v62, S62) hc62) k_285 k_282 k_284 ks_16 k_4 h_P_rowOf (by rw [hM]; exact ⟨Nat.le_of_ble_eq_true rfl, Nat.le_of_ble_eq_true rfl⟩) ⟨Nat.zero_le _, Nat.zero_le _⟩ rfl rfl rfl (Nat.le_of_ble_eq_true rfl) rfl d_P_maximise_62 (q := 65) rfl ?_
  refine z_istore_n (lv' := [(2, .int v62), (0, .ref (Ω.2.2 4)), (1, .int x1)]) rfl (by decide) rfl hC d_P_maximise_65 (q := 66) rfl ?_
  refine z_iconst (v := (0 : Int32)) (by decide) hC d_P_maximise_66 (q := 67) rfl ?_
  refine z_istore_n (lv' := [(3, .int (0 : Int32)), (2, .int v62), (0, .ref (Ω.2.2 4)), (1, .int x1)]) rfl (by decide) rfl hC d_P_maximise_67 (q := 68) rfl ?_
  refine z_sub [2, 3, 1, 0] rfl ?_
  exact w_P_maximise_68 hC hA hR hM n r n x1 v62 (0 : Int32) S62 h
set_option maxRecDepth 20000 in
theorem w_P_maximise_2 {X : z_X} {A : Nat → Prop} {Ω : z_O} (hC : z_C X b_P_maximise 5 "NodalAuction$Program" Ω) (hA : z_hA X A) (hR : z_R X none) (hM : z_rmOf X = z_rm 3 95) (n : Nat) (r : Unit × z_S) : ∀ (q : Nat) (x1 : Int32) (x2 : Int32) (S : z_S), f_P_maximise_2 n q x1 x2 S = some r → z_At X A (z_QV X Ω A (wN Ω r.2)) Ω 0 0 5 2 [(0, .ref (Ω.2.2 4)), (1, .int x1), (2, .int x2)] [] (wN Ω S) := by
  intro q
  induction q with
  | zero => intro x1 x2 S h; cases h
  | succ q ih =>
    intro x1 x2 S h
    refine z_iload_n rfl 2 rfl hC d_P_maximise_2 (q := 3) rfl ?_
    refine z_ldc (v := (1000000 : Int32)) k_281 hC d_P_maximise_3 (q := 5) rfl ?_
    refine z_icmp_ge (tgt := 60) (q := 8) hC d_P_maximise_5 rfl rfl (fun hb => ?_) (fun hb => ?_)
    · have h := (if_pos hb).symm.trans h
      refine z_sub [0, 1] rfl ?_
      exact w_P_maximise_60 hC hA hR hM n r x1 S h
    · have h := (if_neg hb).symm.trans h
      refine z_aload_n rfl 0 rfl hC d_P_maximise_8 (q := 9) rfl ?_
      refine z_iload_n rfl 1 rfl hC d_P_maximise_9 (q := 10) rfl ?_
      obtain ⟨v10, S10, hc10, h⟩ := bo_some h
      refine z_callVi (q0 := 4) (As := [.int x1]) hC hA (c_P_rowOf (z_lOf X) Ω n x1 S (v10, S10) hc10) k_285 k_282 k_284 ks_16 k_4 h_P_rowOf (by rw [hM]; exact ⟨Nat.le_of_ble_eq_true rfl, Nat.le_of_ble_eq_true rfl⟩) ⟨Nat.zero_le _, Nat.zero_le _⟩ rfl rfl rfl (Nat.le_of_ble_eq_true rfl) rfl d_P_maximise_10 (q := 13) rfl ?_
      refine z_istore_n (lv' := [(3, .int v10), (0, .ref (Ω.2.2 4)), (1, .int x1), (2, .int x2)]) rfl (by decide) rfl hC d_P_maximise_13 (q := 14) rfl ?_
      refine z_aload_n rfl 1 rfl hC d_P_maximise_14 (q := 15) rfl ?_
      refine z_iload_n rfl 2 rfl hC d_P_maximise_15 (q := 16) rfl ?_
      refine z_iload_n rfl 0 rfl hC d_P_maximise_16 (q := 17) rfl ?_
      obtain ⟨v17, S17, hc17, h⟩ := bo_some h
      refine z_callVi (q0 := 4) (As := [.int x1, .int v10]) hC hA (c_P_firstGain (z_lOf X) Ω n x1 v10 S10 (v17, S17) hc17) k_289 k_286 k_288 ks_17 k_4 h_P_firstGain (by rw [hM]; exact ⟨Nat.le_of_ble_eq_true rfl, Nat.le_of_ble_eq_true rfl⟩) ⟨Nat.zero_le _, Nat.zero_le _⟩ rfl rfl rfl (Nat.le_of_ble_eq_true rfl) rfl d_P_maximise_17 (q := 20) rfl ?_
      refine z_istore (lv' := [(4, .int v17), (3, .int v10), (0, .ref (Ω.2.2 4)), (1, .int x1), (2, .int x2)]) (by decide) rfl hC d_P_maximise_20 (q := 22) rfl ?_
      refine z_iload 0 rfl hC d_P_maximise_22 (q := 24) rfl ?_
      refine z_if_ge (tgt := 30) (q := 27) hC d_P_maximise_24 rfl rfl (fun hb => ?_) (fun hb => ?_)
      · have h := (if_pos hb).symm.trans h
        refine z_aload_n rfl 2 rfl hC d_P_maximise_30 (q := 31) rfl ?_
        refine z_iload 0 rfl hC d_P_maximise_31 (q := 33) rfl ?_
        refine z_aload_n rfl 2 rfl hC d_P_maximise_33 (q := 34) rfl ?_
        refine z_iload_n rfl 3 rfl hC d_P_maximise_34 (q := 35) rfl ?_
        refine z_iload_n rfl 1 rfl hC d_P_maximise_35 (q := 36) rfl ?_
        refine z_iload 0 rfl hC d_P_maximise_36 (q := 38) rfl ?_
        obtain ⟨v38, S38, hc38, h⟩ := bo_some h
        refine z_callVl (q0 := 4) (As := [.int x1, .int v10, .int v17]) hC hA (c_P_gain (z_lOf X) Ω n x1 v10 v17 S17 (v38, S38) hc38) k_293 k_290 k_292 ks_18 k_4 h_P_gain (by rw [hM]; exact ⟨Nat.le_of_ble_eq_true rfl, Nat.le_of_ble_eq_true rfl⟩) ⟨Nat.zero_le _, Nat.zero_le _⟩ rfl rfl rfl (Nat.le_of_ble_eq_true rfl) rfl d_P_maximise_38 (q := 41) rfl ?_
        refine z_lconst (v := (0 : Int64)) (by decide) hC d_P_maximise_41 (q := 42) rfl ?_
        refine z_lcmp_le (pc1 := 43) (tgt := 50) (q := 46) hC d_P_maximise_42 rfl d_P_maximise_43 rfl rfl (fun hb => ?_) (fun hb => ?_)
        · have h := (if_pos hb).symm.trans h
          refine z_iconst (v := (0 : Int32)) (by decide) hC d_P_maximise_50 (q := 51) rfl ?_
          refine z_sub [2, 3, 4] rfl ?_
          exact w_P_maximise_51 hC hA hR hM n r (f_P_maximise_2 n q) ih x1 x2 v17 (0 : Int32) S38 h
        · have h := (if_neg hb).symm.trans h
          refine z_iconst (v := (1 : Int32)) (by decide) hC d_P_maximise_46 (q := 47) rfl ?_
          refine z_goto (tgt := 51) hC d_P_maximise_47 rfl ?_
          refine z_sub [2, 3, 4] rfl ?_
          exact w_P_maximise_51 hC hA hR hM n r (f_P_maximise_2 n q) ih x1 x2 v17 (1 : Int32) S38 h
      · have h := (if_neg hb).symm.trans h
        refine z_goto (tgt := 60) hC d_P_maximise_27 rfl ?_
        refine z_sub [2, 3] rfl ?_
        exact w_P_maximise_60 hC hA hR hM n r x1 S17 h
set_option maxRecDepth 20000 in
theorem w_P_maximise {X : z_X} {A : Nat → Prop} {Ω : z_O} (hC : z_C X b_P_maximise 5 "NodalAuction$Program" Ω) (hA : z_hA X A) (hR : z_R X none) (hM : z_rmOf X = z_rm 3 95) (n : Nat) (r : Unit × z_S) (x1 : Int32) (S : z_S) (h : f_P_maximise n x1 S = some r) : z_At X A (z_QV X Ω A (wN Ω r.2)) Ω 0 0 5 0 [(0, .ref (Ω.2.2 4)), (1, .int x1)] [] (wN Ω S) := by
  refine z_iconst (v := (0 : Int32)) (by decide) hC d_P_maximise_0 (q := 1) rfl ?_
  refine z_istore_n (lv' := [(2, .int (0 : Int32)), (0, .ref (Ω.2.2 4)), (1, .int x1)]) rfl (by decide) rfl hC d_P_maximise_1 (q := 2) rfl ?_
  refine z_sub [1, 2, 0] rfl ?_
  exact w_P_maximise_2 hC hA hR hM n r n x1 (0 : Int32) S h
theorem c_P_maximise (l : Launch) (Ω : z_O) (n : Nat) (x1 : Int32) (S : z_S) (r : Unit × z_S) (h : f_P_maximise n x1 S = some r) : z_MV l Ω y_P_maximise b_P_maximise 5 3 95 [.ref (Ω.2.2 4), .int x1] (wN Ω S) (wN Ω r.2) := z_introV (by decide +kernel) (Nat.le_of_ble_eq_true rfl) rfl (fun X A hC hA hR _ hM => w_P_maximise hC hA hR hM n r x1 S h)
