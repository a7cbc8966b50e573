def f_G_has_17 (n : Nat) (t0 : Int32) (S : z_S) : Option (Int32 × z_S) := ck (vz t0) (some (t0, S))
def f_G_has_16 (n : Nat) (S : z_S) : Option (Int32 × z_S) := f_G_has_17 n (0 : Int32) S
def f_G_has (n : Nat) (x1 : Int32) (S : z_S) : Option (Int32 × z_S) := (if x1 < 0 then f_G_has_16 n S else (if (gF S 0) ≤ x1 then f_G_has_16 n S else f_G_has_17 n (1 : Int32) S))
set_option maxRecDepth 20000 in
theorem w_G_has_17 {X : z_X} {A : Nat → Prop} {Ω : z_O} (hC : z_C X b_G_has 2 "NodalAuction$Grid" Ω) (hA : z_hA X A) (hR : z_R X (some .boolean)) (hM : z_rmOf X = z_rm 0 0) (n : Nat) (r : Int32 × z_S) (t0 : Int32) (S : z_S) (h : f_G_has_17 n t0 S = some r) : z_At X A (z_QI X Ω A r.1 (wN Ω r.2)) Ω 0 0 2 17 [(0, .ref (Ω.2.2 1))] [.int t0] (wN Ω S) := by
  obtain ⟨hv1, h⟩ := ck_some h
  cases h
  exact z_zret hC hR hv1 rfl rfl d_G_has_17
set_option maxRecDepth 20000 in
theorem w_G_has_16 {X : z_X} {A : Nat → Prop} {Ω : z_O} (hC : z_C X b_G_has 2 "NodalAuction$Grid" Ω) (hA : z_hA X A) (hR : z_R X (some .boolean)) (hM : z_rmOf X = z_rm 0 0) (n : Nat) (r : Int32 × z_S) (S : z_S) (h : f_G_has_16 n S = some r) : z_At X A (z_QI X Ω A r.1 (wN Ω r.2)) Ω 0 0 2 16 [(0, .ref (Ω.2.2 1))] [] (wN Ω S) := by
  refine z_iconst (v := (0 : Int32)) (by decide) hC d_G_has_16 (q := 17) rfl ?_
  exact w_G_has_17 hC hA hR hM n r (0 : Int32) S h
set_option maxRecDepth 20000 in
theorem w_G_has {X : z_X} {A : Nat → Prop} {Ω : z_O} (hC : z_C X b_G_has 2 "NodalAuction$Grid" Ω) (hA : z_hA X A) (hR : z_R X (some .boolean)) (hM : z_rmOf X = z_rm 0 0) (n : Nat) (r : Int32 × z_S) (x1 : Int32) (S : z_S) (h : f_G_has n x1 S = some r) : z_At X A (z_QI X Ω A r.1 (wN Ω r.2)) Ω 0 0 2 0 [(0, .ref (Ω.2.2 1)), (1, .int x1)] [] (wN Ω S) := by
  refine z_iload_n rfl 1 rfl hC d_G_has_0 (q := 1) rfl ?_
  refine z_if_lt (tgt := 16) (q := 4) hC d_G_has_1 rfl rfl (fun hb => ?_) (fun hb => ?_)
  · have h := (if_pos hb).symm.trans h
    refine z_sub [0] rfl ?_
    exact w_G_has_16 hC hA hR hM n r S h
  · have h := (if_neg hb).symm.trans h
    refine z_iload_n rfl 1 rfl hC d_G_has_4 (q := 5) rfl ?_
    refine z_aload_n rfl 0 rfl hC d_G_has_5 (q := 6) rfl ?_
    refine gf_G_24_1 hC d_G_has_6 (q := 9) rfl ?_
    refine z_icmp_ge (tgt := 16) (q := 12) hC d_G_has_9 rfl rfl (fun hb => ?_) (fun hb => ?_)
    · have h := (if_pos hb).symm.trans h
      refine z_sub [0] rfl ?_
      exact w_G_has_16 hC hA hR hM n r S h
    · have h := (if_neg hb).symm.trans h
      refine z_iconst (v := (1 : Int32)) (by decide) hC d_G_has_12 (q := 13) rfl ?_
      refine z_goto (tgt := 17) hC d_G_has_13 rfl ?_
      refine z_sub [0] rfl ?_
      exact w_G_has_17 hC hA hR hM n r (1 : Int32) S h
theorem c_G_has (l : Launch) (Ω : z_O) (n : Nat) (x1 : Int32) (S : z_S) (r : Int32 × z_S) (h : f_G_has n x1 S = some r) : z_MI l Ω y_G_has b_G_has 2 .boolean 0 0 [.ref (Ω.2.2 1), .int x1] (wN Ω S) r.1 (wN Ω r.2) := z_introI (by decide +kernel) (Nat.le_of_ble_eq_true rfl) rfl (fun X A hC hA hR _ hM => w_G_has hC hA hR hM n r x1 S h)
def f_G_joins_50 (n : Nat) (S : z_S) : Option (Int32 × z_S) := some ((1 : Int32), S)
def f_G_joins_52 (n : Nat) (k2 : Int32 → Int32 → Int32 → z_S → Option (Int32 × z_S)) (x1 : Int32) (x2 : Int32) (x3 : Int32) (S : z_S) : Option (Int32 × z_S) := k2 x1 x2 (x3 + (1 : Int32)) S
def f_G_joins_30 (n : Nat) (k2 : Int32 → Int32 → Int32 → z_S → Option (Int32 × z_S)) (x1 : Int32) (x2 : Int32) (x3 : Int32) (S : z_S) : Option (Int32 × z_S) := ck (vi x3 6) ((if (gI S 1 x3.toNatClampNeg) = x2 then ck (vi x3 6) ((if (gI S 2 x3.toNatClampNeg) = x1 then f_G_joins_50 n S else f_G_joins_52 n k2 x1 x2 x3 S)) else f_G_joins_52 n k2 x1 x2 x3 S))
def f_G_joins_2 (n : Nat) : Nat → Int32 → Int32 → Int32 → z_S → Option (Int32 × z_S)
  | 0, _, _, _, _ => none
  | q + 1, x1, x2, x3, S => (if (gF S 0) ≤ x3 then some ((0 : Int32), S) else ck (vi x3 6) ((if (gI S 1 x3.toNatClampNeg) = x1 then ck (vi x3 6) ((if (gI S 2 x3.toNatClampNeg) = x2 then f_G_joins_50 n S else f_G_joins_30 n (f_G_joins_2 n q) x1 x2 x3 S)) else f_G_joins_30 n (f_G_joins_2 n q) x1 x2 x3 S)))
def f_G_joins (n : Nat) (x1 : Int32) (x2 : Int32) (S : z_S) : Option (Int32 × z_S) := f_G_joins_2 n n x1 x2 (0 : Int32) S
set_option maxRecDepth 20000 in
theorem w_G_joins_50 {X : z_X} {A : Nat → Prop} {Ω : z_O} (hC : z_C X b_G_joins 4 "NodalAuction$Grid" Ω) (hA : z_hA X A) (hR : z_R X (some .boolean)) (hM : z_rmOf X = z_rm 0 0) (n : Nat) (r : Int32 × z_S) (S : z_S) (h : f_G_joins_50 n S = some r) : z_At X A (z_QI X Ω A r.1 (wN Ω r.2)) Ω 0 0 4 50 [(0, .ref (Ω.2.2 1))] [] (wN Ω S) := by
  refine z_iconst (v := (1 : Int32)) (by decide) hC d_G_joins_50 (q := 51) rfl ?_
  cases h
  exact z_zret hC hR (by decide) rfl rfl d_G_joins_51
set_option maxRecDepth 20000 in
theorem w_G_joins_52 {X : z_X} {A : Nat → Prop} {Ω : z_O} (hC : z_C X b_G_joins 4 "NodalAuction$Grid" Ω) (hA : z_hA X A) (hR : z_R X (some .boolean)) (hM : z_rmOf X = z_rm 0 0) (n : Nat) (r : Int32 × z_S) (k2 : Int32 → Int32 → Int32 → z_S → Option (Int32 × z_S)) (hk2 : ∀ (x1 : Int32) (x2 : Int32) (x3 : Int32) (S : z_S), k2 x1 x2 x3 S = some r → z_At X A (z_QI X Ω A r.1 (wN Ω r.2)) Ω 0 0 4 2 [(0, .ref (Ω.2.2 1)), (1, .int x1), (2, .int x2), (3, .int x3)] [] (wN Ω S)) (x1 : Int32) (x2 : Int32) (x3 : Int32) (S : z_S) (h : f_G_joins_52 n k2 x1 x2 x3 S = some r) : z_At X A (z_QI X Ω A r.1 (wN Ω r.2)) Ω 0 0 4 52 [(0, .ref (Ω.2.2 1)), (1, .int x1), (2, .int x2), (3, .int x3)] [] (wN Ω S) := by
  refine z_iinc (lv' := [(3, .int (x3 + (1 : Int32))), (0, .ref (Ω.2.2 1)), (1, .int x1), (2, .int x2)]) 3 rfl rfl (by decide) rfl hC d_G_joins_52 (q := 55) rfl ?_
  refine z_goto (tgt := 2) hC d_G_joins_55 rfl ?_
  refine z_sub [1, 2, 3, 0] rfl ?_
  exact hk2 x1 x2 (x3 + (1 : Int32)) S h
set_option maxRecDepth 20000 in
theorem w_G_joins_30 {X : z_X} {A : Nat → Prop} {Ω : z_O} (hC : z_C X b_G_joins 4 "NodalAuction$Grid" Ω) (hA : z_hA X A) (hR : z_R X (some .boolean)) (hM : z_rmOf X = z_rm 0 0) (n : Nat) (r : Int32 × z_S) (k2 : Int32 → Int32 → Int32 → z_S → Option (Int32 × z_S)) (hk2 : ∀ (x1 : Int32) (x2 : Int32) (x3 : Int32) (S : z_S), k2 x1 x2 x3 S = some r → z_At X A (z_QI X Ω A r.1 (wN Ω r.2)) Ω 0 0 4 2 [(0, .ref (Ω.2.2 1)), (1, .int x1), (2, .int x2), (3, .int x3)] [] (wN Ω S)) (x1 : Int32) (x2 : Int32) (x3 : Int32) (S : z_S) (h : f_G_joins_30 n k2 x1 x2 x3 S = some r) : z_At X A (z_QI X Ω A r.1 (wN Ω r.2)) Ω 0 0 4 30 [(0, .ref (Ω.2.2 1)), (1, .int x1), (2, .int x2), (3, .int x3)] [] (wN Ω S) := by
  refine z_aload_n rfl 0 rfl hC d_G_joins_30 (q := 31) rfl ?_
  refine gf_G_9_1 hC d_G_joins_31 (q := 34) rfl ?_
  refine z_iload_n rfl 3 rfl hC d_G_joins_34 (q := 35) rfl ?_
  obtain ⟨hv1, h⟩ := ck_some h
  refine al_wN_7 hC hv1 d_G_joins_35 (q := 36) rfl ?_
  refine z_iload_n rfl 2 rfl hC d_G_joins_36 (q := 37) rfl ?_
  refine z_icmp_ne (tgt := 52) (q := 40) hC d_G_joins_37 rfl rfl (fun hb => ?_) (fun hb => ?_)
  · have h := (if_neg hb).symm.trans h
    exact w_G_joins_52 hC hA hR hM n r k2 hk2 x1 x2 x3 S h
  · have h := (if_pos hb).symm.trans h
    refine z_aload_n rfl 0 rfl hC d_G_joins_40 (q := 41) rfl ?_
    refine gf_G_15_1 hC d_G_joins_41 (q := 44) rfl ?_
    refine z_iload_n rfl 3 rfl hC d_G_joins_44 (q := 45) rfl ?_
    obtain ⟨hv2, h⟩ := ck_some h
    refine al_wN_8 hC hv2 d_G_joins_45 (q := 46) rfl ?_
    refine z_iload_n rfl 1 rfl hC d_G_joins_46 (q := 47) rfl ?_
    refine z_icmp_ne (tgt := 52) (q := 50) hC d_G_joins_47 rfl rfl (fun hb => ?_) (fun hb => ?_)
    · have h := (if_neg hb).symm.trans h
      exact w_G_joins_52 hC hA hR hM n r k2 hk2 x1 x2 x3 S h
    · have h := (if_pos hb).symm.trans h
      refine z_sub [0] rfl ?_
      exact w_G_joins_50 hC hA hR hM n r S h
set_option maxRecDepth 20000 in
theorem w_G_joins_2 {X : z_X} {A : Nat → Prop} {Ω : z_O} (hC : z_C X b_G_joins 4 "NodalAuction$Grid" Ω) (hA : z_hA X A) (hR : z_R X (some .boolean)) (hM : z_rmOf X = z_rm 0 0) (n : Nat) (r : Int32 × z_S) : ∀ (q : Nat) (x1 : Int32) (x2 : Int32) (x3 : Int32) (S : z_S), f_G_joins_2 n q x1 x2 x3 S = some r → z_At X A (z_QI X Ω A r.1 (wN Ω r.2)) Ω 0 0 4 2 [(0, .ref (Ω.2.2 1)), (1, .int x1), (2, .int x2), (3, .int x3)] [] (wN Ω S) := by
  intro q
  induction q with
  | zero => intro x1 x2 x3 S h; cases h
  | succ q ih =>
    intro x1 x2 x3 S h
    refine z_iload_n rfl 3 rfl hC d_G_joins_2 (q := 3) rfl ?_
    refine z_aload_n rfl 0 rfl hC d_G_joins_3 (q := 4) rfl ?_
    refine gf_G_24_1 hC d_G_joins_4 (q := 7) rfl ?_
    refine z_icmp_ge (tgt := 58) (q := 10) hC d_G_joins_7 rfl rfl (fun hb => ?_) (fun hb => ?_)
    · have h := (if_pos hb).symm.trans h
      refine z_iconst (v := (0 : Int32)) (by decide) hC d_G_joins_58 (q := 59) rfl ?_
      cases h
      exact z_zret hC hR (by decide) rfl rfl d_G_joins_59
    · have h := (if_neg hb).symm.trans h
      refine z_aload_n rfl 0 rfl hC d_G_joins_10 (q := 11) rfl ?_
      refine gf_G_9_1 hC d_G_joins_11 (q := 14) rfl ?_
      refine z_iload_n rfl 3 rfl hC d_G_joins_14 (q := 15) rfl ?_
      obtain ⟨hv1, h⟩ := ck_some h
      refine al_wN_7 hC hv1 d_G_joins_15 (q := 16) rfl ?_
      refine z_iload_n rfl 1 rfl hC d_G_joins_16 (q := 17) rfl ?_
      refine z_icmp_ne (tgt := 30) (q := 20) hC d_G_joins_17 rfl rfl (fun hb => ?_) (fun hb => ?_)
      · have h := (if_neg hb).symm.trans h
        exact w_G_joins_30 hC hA hR hM n r (f_G_joins_2 n q) ih x1 x2 x3 S h
      · have h := (if_pos hb).symm.trans h
        refine z_aload_n rfl 0 rfl hC d_G_joins_20 (q := 21) rfl ?_
        refine gf_G_15_1 hC d_G_joins_21 (q := 24) rfl ?_
        refine z_iload_n rfl 3 rfl hC d_G_joins_24 (q := 25) rfl ?_
        obtain ⟨hv2, h⟩ := ck_some h
        refine al_wN_8 hC hv2 d_G_joins_25 (q := 26) rfl ?_
        refine z_iload_n rfl 2 rfl hC d_G_joins_26 (q := 27) rfl ?_
        refine z_icmp_eq (tgt := 50) (q := 30) hC d_G_joins_27 rfl rfl (fun hb => ?_) (fun hb => ?_)
        · have h := (if_pos hb).symm.trans h
          refine z_sub [0] rfl ?_
          exact w_G_joins_50 hC hA hR hM n r S h
        · have h := (if_neg hb).symm.trans h
          exact w_G_joins_30 hC hA hR hM n r (f_G_joins_2 n q) ih x1 x2 x3 S h
set_option maxRecDepth 20000 in
theorem w_G_joins {X : z_X} {A : Nat → Prop} {Ω : z_O} (hC : z_C X b_G_joins 4 "NodalAuction$Grid" Ω) (hA : z_hA X A) (hR : z_R X (some .boolean)) (hM : z_rmOf X = z_rm 0 0) (n : Nat) (r : Int32 × z_S) (x1 : Int32) (x2 : Int32) (S : z_S) (h : f_G_joins n x1 x2 S = some r) : z_At X A (z_QI X Ω A r.1 (wN Ω r.2)) Ω 0 0 4 0 [(0, .ref (Ω.2.2 1)), (1, .int x1), (2, .int x2)] [] (wN Ω S) := by
  refine z_iconst (v := (0 : Int32)) (by decide) hC d_G_joins_0 (q := 1) rfl ?_
  refine z_istore_n (lv' := [(3, .int (0 : Int32)), (0, .ref (Ω.2.2 1)), (1, .int x1), (2, .int x2)]) rfl (by decide) rfl hC d_G_joins_1 (q := 2) rfl ?_
  refine z_sub [1, 2, 3, 0] rfl ?_
  exact w_G_joins_2 hC hA hR hM n r n x1 x2 (0 : Int32) S h
theorem c_G_joins (l : Launch) (Ω : z_O) (n : Nat) (x1 : Int32) (x2 : Int32) (S : z_S) (r : Int32 × z_S) (h : f_G_joins n x1 x2 S = some r) : z_MI l Ω y_G_joins b_G_joins 4 .boolean 0 0 [.ref (Ω.2.2 1), .int x1, .int x2] (wN Ω S) r.1 (wN Ω r.2) := z_introI (by decide +kernel) (Nat.le_of_ble_eq_true rfl) rfl (fun X A hC hA hR _ hM => w_G_joins hC hA hR hM n r x1 x2 S h)
def f_G_add_53 (n : Nat) (S : z_S) : Option (Int32 × z_S) := some ((gF (sF S 0 ((gF S 0) + (1 : Int32))) 0) - (1 : Int32), sF S 0 ((gF S 0) + (1 : Int32)))
def f_G_add_32 (n : Nat) (x3 : Int32) (x4 : Int32) (S : z_S) : Option (Int32 × z_S) := ck (vi (gF S 0) 6) (ck (vi (gF (sI S 3 (upd (gI S 3) ((gF S 0).toNatClampNeg) x3)) 0) 6) (f_G_add_53 n (sI (sI S 3 (upd (gI S 3) ((gF S 0).toNatClampNeg) x3)) 4 (upd (gI (sI S 3 (upd (gI S 3) ((gF S 0).toNatClampNeg) x3)) 4) ((gF (sI S 3 (upd (gI S 3) ((gF S 0).toNatClampNeg) x3)) 0).toNatClampNeg) x4))))
def f_G_add (n : Nat) (x1 : Int32) (x2 : Int32) (x3 : Int32) (x4 : Int32) (S : z_S) : Option (Int32 × z_S) := (if (gF S 0) < (6 : Int32) then ck (vi (gF S 0) 6) (ck (vi (gF (sI S 1 (upd (gI S 1) ((gF S 0).toNatClampNeg) x1)) 0) 6) (f_G_add_32 n x3 x4 (sI (sI S 1 (upd (gI S 1) ((gF S 0).toNatClampNeg) x1)) 2 (upd (gI (sI S 1 (upd (gI S 1) ((gF S 0).toNatClampNeg) x1)) 2) ((gF (sI S 1 (upd (gI S 1) ((gF S 0).toNatClampNeg) x1)) 0).toNatClampNeg) x2)))) else some ((-2147483648 : Int32), S))
set_option maxRecDepth 20000 in
theorem w_G_add_53 {X : z_X} {A : Nat → Prop} {Ω : z_O} (hC : z_C X b_G_add 5 "NodalAuction$Grid" Ω) (hA : z_hA X A) (hR : z_R X (some .int)) (hM : z_rmOf X = z_rm 0 0) (n : Nat) (r : Int32 × z_S) (S : z_S) (h : f_G_add_53 n S = some r) : z_At X A (z_QI X Ω A r.1 (wN Ω r.2)) Ω 0 0 5 53 [(0, .ref (Ω.2.2 1))] [] (wN Ω S) := by
  refine z_aload_n rfl 0 rfl hC d_G_add_53 (q := 54) rfl ?_
  refine z_dup rfl hC d_G_add_54 (q := 55) rfl ?_
  refine gf_G_24_1 hC d_G_add_55 (q := 58) rfl ?_
  refine z_iconst (v := (1 : Int32)) (by decide) hC d_G_add_58 (q := 59) rfl ?_
  refine z_iadd hC d_G_add_59 (q := 60) rfl ?_
  refine pf_G_24_1 hC d_G_add_60 (q := 63) rfl ?_
  refine z_aload_n rfl 0 rfl hC d_G_add_63 (q := 64) rfl ?_
  refine gf_G_24_1 hC d_G_add_64 (q := 67) rfl ?_
  refine z_iconst (v := (1 : Int32)) (by decide) hC d_G_add_67 (q := 68) rfl ?_
  refine z_isub hC d_G_add_68 (q := 69) rfl ?_
  cases h
  exact z_iret hC hR rfl rfl d_G_add_69
set_option maxRecDepth 20000 in
theorem w_G_add_32 {X : z_X} {A : Nat → Prop} {Ω : z_O} (hC : z_C X b_G_add 5 "NodalAuction$Grid" Ω) (hA : z_hA X A) (hR : z_R X (some .int)) (hM : z_rmOf X = z_rm 0 0) (n : Nat) (r : Int32 × z_S) (x3 : Int32) (x4 : Int32) (S : z_S) (h : f_G_add_32 n x3 x4 S = some r) : z_At X A (z_QI X Ω A r.1 (wN Ω r.2)) Ω 0 0 5 32 [(0, .ref (Ω.2.2 1)), (3, .int x3), (4, .int x4)] [] (wN Ω S) := by
  refine z_aload_n rfl 0 rfl hC d_G_add_32 (q := 33) rfl ?_
  refine gf_G_18_1 hC d_G_add_33 (q := 36) rfl ?_
  refine z_aload_n rfl 0 rfl hC d_G_add_36 (q := 37) rfl ?_
  refine gf_G_24_1 hC d_G_add_37 (q := 40) rfl ?_
  refine z_iload_n rfl 1 rfl hC d_G_add_40 (q := 41) rfl ?_
  obtain ⟨hv1, h⟩ := ck_some h
  refine as_wN_9 hC hv1 d_G_add_41 (q := 42) rfl ?_
  refine z_aload_n rfl 0 rfl hC d_G_add_42 (q := 43) rfl ?_
  refine gf_G_21_1 hC d_G_add_43 (q := 46) rfl ?_
  refine z_aload_n rfl 0 rfl hC d_G_add_46 (q := 47) rfl ?_
  refine gf_G_24_1 hC d_G_add_47 (q := 50) rfl ?_
  refine z_iload 2 rfl hC d_G_add_50 (q := 52) rfl ?_
  obtain ⟨hv2, h⟩ := ck_some h
  refine as_wN_10 hC hv2 d_G_add_52 (q := 53) rfl ?_
  refine z_sub [0] rfl ?_
  exact w_G_add_53 hC hA hR hM n r (sI (sI S 3 (upd (gI S 3) ((gF S 0).toNatClampNeg) x3)) 4 (upd (gI (sI S 3 (upd (gI S 3) ((gF S 0).toNatClampNeg) x3)) 4) ((gF (sI S 3 (upd (gI S 3) ((gF S 0).toNatClampNeg) x3)) 0).toNatClampNeg) x4)) h
set_option maxRecDepth 20000 in
theorem w_G_add {X : z_X} {A : Nat → Prop} {Ω : z_O} (hC : z_C X b_G_add 5 "NodalAuction$Grid" Ω) (hA : z_hA X A) (hR : z_R X (some .int)) (hM : z_rmOf X = z_rm 0 0) (n : Nat) (r : Int32 × z_S) (x1 : Int32) (x2 : Int32) (x3 : Int32) (x4 : Int32) (S : z_S) (h : f_G_add n x1 x2 x3 x4 S = some r) : z_At X A (z_QI X Ω A r.1 (wN Ω r.2)) Ω 0 0 5 0 [(0, .ref (Ω.2.2 1)), (1, .int x1), (2, .int x2), (3, .int x3), (4, .int x4)] [] (wN Ω S) := by
  refine z_aload_n rfl 0 rfl hC d_G_add_0 (q := 1) rfl ?_
  refine gf_G_24_1 hC d_G_add_1 (q := 4) rfl ?_
  refine z_bipush (v := (6 : Int32)) (by decide) hC d_G_add_4 (q := 6) rfl ?_
  refine z_icmp_lt (tgt := 12) (q := 9) hC d_G_add_6 rfl rfl (fun hb => ?_) (fun hb => ?_)
  · have h := (if_pos hb).symm.trans h
    refine z_aload_n rfl 0 rfl hC d_G_add_12 (q := 13) rfl ?_
    refine gf_G_9_1 hC d_G_add_13 (q := 16) rfl ?_
    refine z_aload_n rfl 0 rfl hC d_G_add_16 (q := 17) rfl ?_
    refine gf_G_24_1 hC d_G_add_17 (q := 20) rfl ?_
    refine z_iload_n rfl 1 rfl hC d_G_add_20 (q := 21) rfl ?_
    obtain ⟨hv1, h⟩ := ck_some h
    refine as_wN_7 hC hv1 d_G_add_21 (q := 22) rfl ?_
    refine z_aload_n rfl 0 rfl hC d_G_add_22 (q := 23) rfl ?_
    refine gf_G_15_1 hC d_G_add_23 (q := 26) rfl ?_
    refine z_aload_n rfl 0 rfl hC d_G_add_26 (q := 27) rfl ?_
    refine gf_G_24_1 hC d_G_add_27 (q := 30) rfl ?_
    refine z_iload_n rfl 2 rfl hC d_G_add_30 (q := 31) rfl ?_
    obtain ⟨hv2, h⟩ := ck_some h
    refine as_wN_8 hC hv2 d_G_add_31 (q := 32) rfl ?_
    refine z_sub [0, 3, 4] rfl ?_
    exact w_G_add_32 hC hA hR hM n r x3 x4 (sI (sI S 1 (upd (gI S 1) ((gF S 0).toNatClampNeg) x1)) 2 (upd (gI (sI S 1 (upd (gI S 1) ((gF S 0).toNatClampNeg) x1)) 2) ((gF (sI S 1 (upd (gI S 1) ((gF S 0).toNatClampNeg) x1)) 0).toNatClampNeg) x2)) h
  · have h := (if_neg hb).symm.trans h
    refine z_ldc (v := (-2147483648 : Int32)) k_196 hC d_G_add_9 (q := 11) rfl ?_
    cases h
    exact z_iret hC hR rfl rfl d_G_add_11
theorem c_G_add (l : Launch) (Ω : z_O) (n : Nat) (x1 : Int32) (x2 : Int32) (x3 : Int32) (x4 : Int32) (S : z_S) (r : Int32 × z_S) (h : f_G_add n x1 x2 x3 x4 S = some r) : z_MI l Ω y_G_add b_G_add 5 .int 0 0 [.ref (Ω.2.2 1), .int x1, .int x2, .int x3, .int x4] (wN Ω S) r.1 (wN Ω r.2) := z_introI (by decide +kernel) (Nat.le_of_ble_eq_true rfl) rfl (fun X A hC hA hR _ hM => w_G_add hC hA hR hM n r x1 x2 x3 x4 S h)
def f_G_remove_68 (n : Nat) (k2 : Int32 → z_S → Option (Unit × z_S)) (x2 : Int32) (S : z_S) : Option (Unit × z_S) := k2 (x2 + (1 : Int32)) S
def f_G_remove_40 (n : Nat) (k2 : Int32 → z_S → Option (Unit × z_S)) (x2 : Int32) (S : z_S) : Option (Unit × z_S) := ck (vi (x2 + (1 : Int32)) 6) (ck (vi x2 6) (ck (vi (x2 + (1 : Int32)) 6) (ck (vi x2 6) (f_G_remove_68 n k2 x2 (sI (sI S 3 (upd (gI S 3) x2.toNatClampNeg (gI S 3 ((x2 + (1 : Int32)).toNatClampNeg)))) 4 (upd (gI (sI S 3 (upd (gI S 3) x2.toNatClampNeg (gI S 3 ((x2 + (1 : Int32)).toNatClampNeg)))) 4) x2.toNatClampNeg (gI (sI S 3 (upd (gI S 3) x2.toNatClampNeg (gI S 3 ((x2 + (1 : Int32)).toNatClampNeg)))) 4 ((x2 + (1 : Int32)).toNatClampNeg))))))))
def f_G_remove_2 (n : Nat) : Nat → Int32 → z_S → Option (Unit × z_S)
  | 0, _, _ => none
  | q + 1, x2, S => (if (gF S 0) ≤ (x2 + (1 : Int32)) then some ((), sF S 0 ((gF S 0) - (1 : Int32))) else ck (vi (x2 + (1 : Int32)) 6) (ck (vi x2 6) (ck (vi (x2 + (1 : Int32)) 6) (ck (vi x2 6) (f_G_remove_40 n (f_G_remove_2 n q) x2 (sI (sI S 1 (upd (gI S 1) x2.toNatClampNeg (gI S 1 ((x2 + (1 : Int32)).toNatClampNeg)))) 2 (upd (gI (sI S 1 (upd (gI S 1) x2.toNatClampNeg (gI S 1 ((x2 + (1 : Int32)).toNatClampNeg)))) 2) x2.toNatClampNeg (gI (sI S 1 (upd (gI S 1) x2.toNatClampNeg (gI S 1 ((x2 + (1 : Int32)).toNatClampNeg)))) 2 ((x2 + (1 : Int32)).toNatClampNeg)))))))))
def f_G_remove (n : Nat) (x1 : Int32) (S : z_S) : Option (Unit × z_S) := f_G_remove_2 n n x1 S
set_option maxRecDepth 20000 in
theorem w_G_remove_68 {X : z_X} {A : Nat → Prop} {Ω : z_O} (hC : z_C X b_G_remove 3 "NodalAuction$Grid" Ω) (hA : z_hA X A) (hR : z_R X none) (hM : z_rmOf X = z_rm 0 0) (n : Nat) (r : Unit × z_S) (k2 : Int32 → z_S → Option (Unit × z_S)) (hk2 : ∀ (x2 : Int32) (S : z_S), k2 x2 S = some r → z_At X A (z_QV X Ω A (wN Ω r.2)) Ω 0 0 3 2 [(0, .ref (Ω.2.2 1)), (2, .int x2)] [] (wN Ω S)) (x2 : Int32) (S : z_S) (h : f_G_remove_68 n k2 x2 S = some r) : z_At X A (z_QV X Ω A (wN Ω r.2)) Ω 0 0 3 68 [(0, .ref (Ω.2.2 1)), (2, .int x2)] [] (wN Ω S) := by
  refine z_iinc (lv' := [(2, .int (x2 + (1 : Int32))), (0, .ref (Ω.2.2 1))]) 1 rfl rfl (by decide) rfl hC d_G_remove_68 (q := 71) rfl ?_
  refine z_goto (tgt := 2) hC d_G_remove_71 rfl ?_
  refine z_sub [1, 0] rfl ?_
  exact hk2 (x2 + (1 : Int32)) S h
set_option maxRecDepth 20000 in
theorem w_G_remove_40 {X : z_X} {A : Nat → Prop} {Ω : z_O} (hC : z_C X b_G_remove 3 "NodalAuction$Grid" Ω) (hA : z_hA X A) (hR : z_R X none) (hM : z_rmOf X = z_rm 0 0) (n : Nat) (r : Unit × z_S) (k2 : Int32 → z_S → Option (Unit × z_S)) (hk2 : ∀ (x2 : Int32) (S : z_S), k2 x2 S = some r → z_At X A (z_QV X Ω A (wN Ω r.2)) Ω 0 0 3 2 [(0, .ref (Ω.2.2 1)), (2, .int x2)] [] (wN Ω S)) (x2 : Int32) (S : z_S) (h : f_G_remove_40 n k2 x2 S = some r) : z_At X A (z_QV X Ω A (wN Ω r.2)) Ω 0 0 3 40 [(0, .ref (Ω.2.2 1)), (2, .int x2)] [] (wN Ω S) := by
  refine z_aload_n rfl 0 rfl hC d_G_remove_40 (q := 41) rfl ?_
  refine gf_G_18_1 hC d_G_remove_41 (q := 44) rfl ?_
  refine z_iload_n rfl 1 rfl hC d_G_remove_44 (q := 45) rfl ?_
  refine z_aload_n rfl 0 rfl hC d_G_remove_45 (q := 46) rfl ?_
  refine gf_G_18_1 hC d_G_remove_46 (q := 49) rfl ?_
  refine z_iload_n rfl 1 rfl hC d_G_remove_49 (q := 50) rfl ?_
  refine z_iconst (v := (1 : Int32)) (by decide) hC d_G_remove_50 (q := 51) rfl ?_
  refine z_iadd hC d_G_remove_51 (q := 52) rfl ?_
  obtain ⟨hv1, h⟩ := ck_some h
  refine al_wN_9 hC hv1 d_G_remove_52 (q := 53) rfl ?_
  obtain ⟨hv2, h⟩ := ck_some h
  refine as_wN_9 hC hv2 d_G_remove_53 (q := 54) rfl ?_
  refine z_aload_n rfl 0 rfl hC d_G_remove_54 (q := 55) rfl ?_
  refine gf_G_21_1 hC d_G_remove_55 (q := 58) rfl ?_
  refine z_iload_n rfl 1 rfl hC d_G_remove_58 (q := 59) rfl ?_
  refine z_aload_n rfl 0 rfl hC d_G_remove_59 (q := 60) rfl ?_
  refine gf_G_21_1 hC d_G_remove_60 (q := 63) rfl ?_
  refine z_iload_n rfl 1 rfl hC d_G_remove_63 (q := 64) rfl ?_
  refine z_iconst (v := (1 : Int32)) (by decide) hC d_G_remove_64 (q := 65) rfl ?_
  refine z_iadd hC d_G_remove_65 (q := 66) rfl ?_
  obtain ⟨hv3, h⟩ := ck_some h
  refine al_wN_10 hC hv3 d_G_remove_66 (q := 67) rfl ?_
  obtain ⟨hv4, h⟩ := ck_some h
  refine as_wN_10 hC hv4 d_G_remove_67 (q := 68) rfl ?_
  exact w_G_remove_68 hC hA hR hM n r k2 hk2 x2 (sI (sI S 3 (upd (gI S 3) x2.toNatClampNeg (gI S 3 ((x2 + (1 : Int32)).toNatClampNeg)))) 4 (upd (gI (sI S 3 (upd (gI S 3) x2.toNatClampNeg (gI S 3 ((x2 + (1 : Int32)).toNatClampNeg)))) 4) x2.toNatClampNeg (gI (sI S 3 (upd (gI S 3) x2.toNatClampNeg (gI S 3 ((x2 + (1 : Int32)).toNatClampNeg)))) 4 ((x2 + (1 : Int32)).toNatClampNeg)))) h
set_option maxRecDepth 20000 in
theorem w_G_remove_2 {X : z_X} {A : Nat → Prop} {Ω : z_O} (hC : z_C X b_G_remove 3 "NodalAuction$Grid" Ω) (hA : z_hA X A) (hR : z_R X none) (hM : z_rmOf X = z_rm 0 0) (n : Nat) (r : Unit × z_S) : ∀ (q : Nat) (x2 : Int32) (S : z_S), f_G_remove_2 n q x2 S = some r → z_At X A (z_QV X Ω A (wN Ω r.2)) Ω 0 0 3 2 [(0, .ref (Ω.2.2 1)), (2, .int x2)] [] (wN Ω S) := by
  intro q
  induction q with
  | zero => intro x2 S h; cases h
  | succ q ih =>
    intro x2 S h
    refine z_iload_n rfl 1 rfl hC d_G_remove_2 (q := 3) rfl ?_
    refine z_iconst (v := (1 : Int32)) (by decide) hC d_G_remove_3 (q := 4) rfl ?_
    refine z_iadd hC d_G_remove_4 (q := 5) rfl ?_
    refine z_aload_n rfl 0 rfl hC d_G_remove_5 (q := 6) rfl ?_
    refine gf_G_24_1 hC d_G_remove_6 (q := 9) rfl ?_
    refine z_icmp_ge (tgt := 74) (q := 12) hC d_G_remove_9 rfl rfl (fun hb => ?_) (fun hb => ?_)
    · have h := (if_pos hb).symm.trans h
      refine z_aload_n rfl 0 rfl hC d_G_remove_74 (q := 75) rfl ?_
      refine z_dup rfl hC d_G_remove_75 (q := 76) rfl ?_
      refine gf_G_24_1 hC d_G_remove_76 (q := 79) rfl ?_
      refine z_iconst (v := (1 : Int32)) (by decide) hC d_G_remove_79 (q := 80) rfl ?_
      refine z_isub hC d_G_remove_80 (q := 81) rfl ?_
      refine pf_G_24_1 hC d_G_remove_81 (q := 84) rfl ?_
      cases h
      exact z_vret hC hR rfl d_G_remove_84
    · have h := (if_neg hb).symm.trans h
      refine z_aload_n rfl 0 rfl hC d_G_remove_12 (q := 13) rfl ?_
      refine gf_G_9_1 hC d_G_remove_13 (q := 16) rfl ?_
      refine z_iload_n rfl 1 rfl hC d_G_remove_16 (q := 17) rfl ?_
      refine z_aload_n rfl 0 rfl hC d_G_remove_17 (q := 18) rfl ?_
      refine gf_G_9_1 hC d_G_remove_18 (q := 21) rfl ?_
      refine z_iload_n rfl 1 rfl hC d_G_remove_21 (q := 22) rfl ?_
      refine z_iconst (v := (1 : Int32)) (by decide) hC d_G_remove_22 (q := 23) rfl ?_
      refine z_iadd hC d_G_remove_23 (q := 24) rfl ?_
      obtain ⟨hv1, h⟩ := ck_some h
      refine al_wN_7 hC hv1 d_G_remove_24 (q := 25) rfl ?_
      obtain ⟨hv2, h⟩ := ck_some h
      refine as_wN_7 hC hv2 d_G_remove_25 (q := 26) rfl ?_
      refine z_aload_n rfl 0 rfl hC d_G_remove_26 (q := 27) rfl ?_
      refine gf_G_15_1 hC d_G_remove_27 (q := 30) rfl ?_
      refine z_iload_n rfl 1 rfl hC d_G_remove_30 (q := 31) rfl ?_
      refine z_aload_n rfl 0 rfl hC d_G_remove_31 (q := 32) rfl ?_
      refine gf_G_15_1 hC d_G_remove_32 (q := 35) rfl ?_
      refine z_iload_n rfl 1 rfl hC d_G_remove_35 (q := 36) rfl ?_
      refine z_iconst (v := (1 : Int32)) (by decide) hC d_G_remove_36 (q := 37) rfl ?_
      refine z_iadd hC d_G_remove_37 (q := 38) rfl ?_
      obtain ⟨hv3, h⟩ := ck_some h
      refine al_wN_8 hC hv3 d_G_remove_38 (q := 39) rfl ?_
      obtain ⟨hv4, h⟩ := ck_some h
      refine as_wN_8 hC hv4 d_G_remove_39 (q := 40) rfl ?_
      exact w_G_remove_40 hC hA hR hM n r (f_G_remove_2 n q) ih x2 (sI (sI S 1 (upd (gI S 1) x2.toNatClampNeg (gI S 1 ((x2 + (1 : Int32)).toNatClampNeg)))) 2 (upd (gI (sI S 1 (upd (gI S 1) x2.toNatClampNeg (gI S 1 ((x2 + (1 : Int32)).toNatClampNeg)))) 2) x2.toNatClampNeg (gI (sI S 1 (upd (gI S 1) x2.toNatClampNeg (gI S 1 ((x2 + (1 : Int32)).toNatClampNeg)))) 2 ((x2 + (1 : Int32)).toNatClampNeg)))) h
set_option maxRecDepth 20000 in
theorem w_G_remove {X : z_X} {A : Nat → Prop} {Ω : z_O} (hC : z_C X b_G_remove 3 "NodalAuction$Grid" Ω) (hA : z_hA X A) (hR : z_R X none) (hM : z_rmOf X = z_rm 0 0) (n : Nat) (r : Unit × z_S) (x1 : Int32) (S : z_S) (h : f_G_remove n x1 S = some r) : z_At X A (z_QV X Ω A (wN Ω r.2)) Ω 0 0 3 0 [(0, .ref (Ω.2.2 1)), (1, .int x1)] [] (wN Ω S) := by
  refine z_iload_n rfl 1 rfl hC d_G_remove_0 (q := 1) rfl ?_
  refine z_istore_n (lv' := [(2, .int x1), (0, .ref (Ω.2.2 1)), (1, .int x1)]) rfl (by decide) rfl hC d_G_remove_1 (q := 2) rfl ?_
  refine z_sub [1, 0] rfl ?_
  exact w_G_remove_2 hC hA hR hM n r n x1 S h
theorem c_G_remove (l : Launch) (Ω : z_O) (n : Nat) (x1 : Int32) (S : z_S) (r : Unit × z_S) (h : f_G_remove n x1 S = some r) : z_MV l Ω y_G_remove b_G_remove 3 0 0 [.ref (Ω.2.2 1), .int x1] (wN Ω S) (wN Ω r.2) := z_introV (by decide +kernel) (Nat.le_of_ble_eq_true rfl) rfl (fun X A hC hA hR _ hM => w_G_remove hC hA hR hM n r x1 S h)
def f_G_weighNodes_9 (n : Nat) (k2 : Int32 → z_S → Option (Unit × z_S)) : Nat → Int32 → Int32 → z_S → Option (Unit × z_S)
  | 0, _, _, _ => none
  | q + 1, x1, x2, S => (if (4 : Int32) ≤ x2 then k2 (x1 + (1 : Int32)) S else ck (vi x1 4) (ck (vi x2 4) (f_G_weighNodes_9 n k2 q x1 (x2 + (1 : Int32)) (sJ S (0 + x1.toNatClampNeg) (vp_updL (gJ S (0 + x1.toNatClampNeg)) x2.toNatClampNeg (0 : Int64))))))
def f_G_weighNodes_131 (n : Nat) (k37 : Int32 → z_S → Option (Unit × z_S)) (x1 : Int32) (S : z_S) : Option (Unit × z_S) := k37 (x1 + (1 : Int32)) S
def f_G_weighNodes_113 (n : Nat) (k37 : Int32 → z_S → Option (Unit × z_S)) (x1 : Int32) (x2 : Int32) (x3 : Int32) (S : z_S) : Option (Unit × z_S) := ck (vi x3 4) (ck (vi x2 4) (ck (vi x1 6) (ck (vi x2 4) (f_G_weighNodes_131 n k37 x1 (sJ S (0 + x3.toNatClampNeg) (vp_updL (gJ S (0 + x3.toNatClampNeg)) x2.toNatClampNeg ((gJ S (0 + x3.toNatClampNeg) (x2.toNatClampNeg)) - ((gI S 3 x1.toNatClampNeg).toInt64))))))))
def f_G_weighNodes_95 (n : Nat) (k37 : Int32 → z_S → Option (Unit × z_S)) (x1 : Int32) (x2 : Int32) (x3 : Int32) (S : z_S) : Option (Unit × z_S) := ck (vi x2 4) (ck (vi x3 4) (ck (vi x1 6) (ck (vi x3 4) (f_G_weighNodes_113 n k37 x1 x2 x3 (sJ S (0 + x2.toNatClampNeg) (vp_updL (gJ S (0 + x2.toNatClampNeg)) x3.toNatClampNeg ((gJ S (0 + x2.toNatClampNeg) (x3.toNatClampNeg)) - ((gI S 3 x1.toNatClampNeg).toInt64))))))))
def f_G_weighNodes_77 (n : Nat) (k37 : Int32 → z_S → Option (Unit × z_S)) (x1 : Int32) (x2 : Int32) (x3 : Int32) (S : z_S) : Option (Unit × z_S) := ck (vi x3 4) (ck (vi x3 4) (ck (vi x1 6) (ck (vi x3 4) (f_G_weighNodes_95 n k37 x1 x2 x3 (sJ S (0 + x3.toNatClampNeg) (vp_updL (gJ S (0 + x3.toNatClampNeg)) x3.toNatClampNeg ((gJ S (0 + x3.toNatClampNeg) (x3.toNatClampNeg)) + ((gI S 3 x1.toNatClampNeg).toInt64))))))))
def f_G_weighNodes_37 (n : Nat) : Nat → Int32 → z_S → Option (Unit × z_S)
  | 0, _, _ => none
  | q + 1, x1, S => (if (gF S 0) ≤ x1 then some ((), S) else ck (vi x1 6) (ck (vi x1 6) (ck (vi (gI S 1 x1.toNatClampNeg) 4) (ck (vi (gI S 1 x1.toNatClampNeg) 4) (ck (vi x1 6) (ck (vi (gI S 1 x1.toNatClampNeg) 4) (f_G_weighNodes_77 n (f_G_weighNodes_37 n q) x1 (gI S 1 x1.toNatClampNeg) (gI S 2 x1.toNatClampNeg) (sJ S (0 + (gI S 1 x1.toNatClampNeg).toNatClampNeg) (vp_updL (gJ S (0 + (gI S 1 x1.toNatClampNeg).toNatClampNeg)) ((gI S 1 x1.toNatClampNeg).toNatClampNeg) ((gJ S (0 + (gI S 1 x1.toNatClampNeg).toNatClampNeg) ((gI S 1 x1.toNatClampNeg).toNatClampNeg)) + ((gI S 3 x1.toNatClampNeg).toInt64)))))))))))
def f_G_weighNodes_2 (n : Nat) : Nat → Int32 → z_S → Option (Unit × z_S)
  | 0, _, _ => none
  | q + 1, x1, S => (if (4 : Int32) ≤ x1 then f_G_weighNodes_37 n n (0 : Int32) S else f_G_weighNodes_9 n (f_G_weighNodes_2 n q) n x1 (0 : Int32) S)
def f_G_weighNodes (n : Nat) (S : z_S) : Option (Unit × z_S) := f_G_weighNodes_2 n n (0 : Int32) S
set_option maxRecDepth 20000 in
theorem w_G_weighNodes_9 {X : z_X} {A : Nat → Prop} {Ω : z_O} (hC : z_C X b_G_weighNodes 4 "NodalAuction$Grid" Ω) (hA : z_hA X A) (hR : z_R X none) (hM : z_rmOf X = z_rm 0 0) (n : Nat) (r : Unit × z_S) (k2 : Int32 → z_S → Option (Unit × z_S)) (hk2 : ∀ (x1 : Int32) (S : z_S), k2 x1 S = some r → z_At X A (z_QV X Ω A (wN Ω r.2)) Ω 0 0 4 2 [(0, .ref (Ω.2.2 1)), (1, .int x1)] [] (wN Ω S)) : ∀ (q : Nat) (x1 : Int32) (x2 : Int32) (S : z_S), f_G_weighNodes_9 n k2 q x1 x2 S = some r → z_At X A (z_QV X Ω A (wN Ω r.2)) Ω 0 0 4 9 [(0, .ref (Ω.2.2 1)), (1, .int x1), (2, .int x2)] [] (wN Ω S) := by
  intro q
  induction q with
  | zero => intro x1 x2 S h; cases h
  | succ q ih =>
    intro x1 x2 S h
    refine z_iload_n rfl 2 rfl hC d_G_weighNodes_9 (q := 10) rfl ?_
    refine z_iconst (v := (4 : Int32)) (by decide) hC d_G_weighNodes_10 (q := 11) rfl ?_
    refine z_icmp_ge (tgt := 29) (q := 14) hC d_G_weighNodes_11 rfl rfl (fun hb => ?_) (fun hb => ?_)
    · have h := (if_pos hb).symm.trans h
      refine z_iinc (lv' := [(1, .int (x1 + (1 : Int32))), (0, .ref (Ω.2.2 1)), (2, .int x2)]) 1 rfl rfl (by decide) rfl hC d_G_weighNodes_29 (q := 32) rfl ?_
      refine z_goto (tgt := 2) hC d_G_weighNodes_32 rfl ?_
      refine z_sub [1, 0] rfl ?_
      exact hk2 (x1 + (1 : Int32)) S h
    · have h := (if_neg hb).symm.trans h
      refine z_aload_n rfl 0 rfl hC d_G_weighNodes_14 (q := 15) rfl ?_
      refine gf_G_30_1 hC d_G_weighNodes_15 (q := 18) rfl ?_
      refine z_iload_n rfl 1 rfl hC d_G_weighNodes_18 (q := 19) rfl ?_
      obtain ⟨hv1, h⟩ := ck_some h
      refine ao_wN_11 hC hv1 d_G_weighNodes_19 (q := 20) rfl ?_
      refine z_iload_n rfl 2 rfl hC d_G_weighNodes_20 (q := 21) rfl ?_
      refine z_lconst (v := (0 : Int64)) (by decide) hC d_G_weighNodes_21 (q := 22) rfl ?_
      obtain ⟨hv2, h⟩ := ck_some h
      refine sr_30 hC hv1 hv2 d_G_weighNodes_22 (q := 23) rfl ?_
      refine z_iinc (lv' := [(2, .int (x2 + (1 : Int32))), (0, .ref (Ω.2.2 1)), (1, .int x1)]) 2 rfl rfl (by decide) rfl hC d_G_weighNodes_23 (q := 26) rfl ?_
      refine z_goto (tgt := 9) hC d_G_weighNodes_26 rfl ?_
      refine z_sub [1, 2, 0] rfl ?_
      exact ih x1 (x2 + (1 : Int32)) (sJ S (0 + x1.toNatClampNeg) (vp_updL (gJ S (0 + x1.toNatClampNeg)) x2.toNatClampNeg (0 : Int64))) h
set_option maxRecDepth 20000 in
theorem w_G_weighNodes_131 {X : z_X} {A : Nat → Prop} {Ω : z_O} (hC : z_C X b_G_weighNodes 4 "NodalAuction$Grid" Ω) (hA : z_hA X A) (hR : z_R X none) (hM : z_rmOf X = z_rm 0 0) (n : Nat) (r : Unit × z_S) (k37 : Int32 → z_S → Option (Unit × z_S)) (hk37 : ∀ (x1 : Int32) (S : z_S), k37 x1 S = some r → z_At X A (z_QV X Ω A (wN Ω r.2)) Ω 0 0 4 37 [(0, .ref (Ω.2.2 1)), (1, .int x1)] [] (wN Ω S)) (x1 : Int32) (S : z_S) (h : f_G_weighNodes_131 n k37 x1 S = some r) : z_At X A (z_QV X Ω A (wN Ω r.2)) Ω 0 0 4 131 [(0, .ref (Ω.2.2 1)), (1, .int x1)] [] (wN Ω S) := by
  refine z_iinc (lv' := [(1, .int (x1 + (1 : Int32))), (0, .ref (Ω.2.2 1))]) 1 rfl rfl (by decide) rfl hC d_G_weighNodes_131 (q := 134) rfl ?_
  refine z_goto (tgt := 37) hC d_G_weighNodes_134 rfl ?_
  refine z_sub [1, 0] rfl ?_
  exact hk37 (x1 + (1 : Int32)) S h
set_option maxRecDepth 20000 in
theorem w_G_weighNodes_113 {X : z_X} {A : Nat → Prop} {Ω : z_O} (hC : z_C X b_G_weighNodes 4 "NodalAuction$Grid" Ω) (hA : z_hA X A) (hR : z_R X none) (hM : z_rmOf X = z_rm 0 0) (n : Nat) (r : Unit × z_S) (k37 : Int32 → z_S → Option (Unit × z_S)) (hk37 : ∀ (x1 : Int32) (S : z_S), k37 x1 S = some r → z_At X A (z_QV X Ω A (wN Ω r.2)) Ω 0 0 4 37 [(0, .ref (Ω.2.2 1)), (1, .int x1)] [] (wN Ω S)) (x1 : Int32) (x2 : Int32) (x3 : Int32) (S : z_S) (h : f_G_weighNodes_113 n k37 x1 x2 x3 S = some r) : z_At X A (z_QV X Ω A (wN Ω r.2)) Ω 0 0 4 113 [(0, .ref (Ω.2.2 1)), (1, .int x1), (2, .int x2), (3, .int x3)] [] (wN Ω S) := by
  refine z_aload_n rfl 0 rfl hC d_G_weighNodes_113 (q := 114) rfl ?_
  refine gf_G_30_1 hC d_G_weighNodes_114 (q := 117) rfl ?_
  refine z_iload_n rfl 3 rfl hC d_G_weighNodes_117 (q := 118) rfl ?_
  obtain ⟨hv1, h⟩ := ck_some h
  refine ao_wN_11 hC hv1 d_G_weighNodes_118 (q := 119) rfl ?_
  refine z_iload_n rfl 2 rfl hC d_G_weighNodes_119 (q := 120) rfl ?_
  refine z_dup2_11 rfl rfl hC d_G_weighNodes_120 (q := 121) rfl ?_
  obtain ⟨hv2, h⟩ := ck_some h
  refine lr_30 hC hv1 hv2 d_G_weighNodes_121 (q := 122) rfl ?_
  refine z_aload_n rfl 0 rfl hC d_G_weighNodes_122 (q := 123) rfl ?_
  refine gf_G_18_1 hC d_G_weighNodes_123 (q := 126) rfl ?_
  refine z_iload_n rfl 1 rfl hC d_G_weighNodes_126 (q := 127) rfl ?_
  obtain ⟨hv3, h⟩ := ck_some h
  refine al_wN_9 hC hv3 d_G_weighNodes_127 (q := 128) rfl ?_
  refine z_i2l hC d_G_weighNodes_128 (q := 129) rfl ?_
  refine z_lsub hC d_G_weighNodes_129 (q := 130) rfl ?_
  obtain ⟨hv4, h⟩ := ck_some h
  refine sr_30 hC hv1 hv4 d_G_weighNodes_130 (q := 131) rfl ?_
  refine z_sub [0, 1] rfl ?_
  exact w_G_weighNodes_131 hC hA hR hM n r k37 hk37 x1 (sJ S (0 + x3.toNatClampNeg) (vp_updL (gJ S (0 + x3.toNatClampNeg)) x2.toNatClampNeg ((gJ S (0 + x3.toNatClampNeg) (x2.toNatClampNeg)) - ((gI S 3 x1.toNatClampNeg).toInt64)))) h
set_option maxRecDepth 20000 in
theorem w_G_weighNodes_95 {X : z_X} {A : Nat → Prop} {Ω : z_O} (hC : z_C X b_G_weighNodes 4 "NodalAuction$Grid" Ω) (hA : z_hA X A) (hR : z_R X none) (hM : z_rmOf X = z_rm 0 0) (n : Nat) (r : Unit × z_S) (k37 : Int32 → z_S → Option (Unit × z_S)) (hk37 : ∀ (x1 : Int32) (S : z_S), k37 x1 S = some r → z_At X A (z_QV X Ω A (wN Ω r.2)) Ω 0 0 4 37 [(0, .ref (Ω.2.2 1)), (1, .int x1)] [] (wN Ω S)) (x1 : Int32) (x2 : Int32) (x3 : Int32) (S : z_S) (h : f_G_weighNodes_95 n k37 x1 x2 x3 S = some r) : z_At X A (z_QV X Ω A (wN Ω r.2)) Ω 0 0 4 95 [(0, .ref (Ω.2.2 1)), (1, .int x1), (2, .int x2), (3, .int x3)] [] (wN Ω S) := by
  refine z_aload_n rfl 0 rfl hC d_G_weighNodes_95 (q := 96) rfl ?_
  refine gf_G_30_1 hC d_G_weighNodes_96 (q := 99) rfl ?_
  refine z_iload_n rfl 2 rfl hC d_G_weighNodes_99 (q := 100) rfl ?_
  obtain ⟨hv1, h⟩ := ck_some h
  refine ao_wN_11 hC hv1 d_G_weighNodes_100 (q := 101) rfl ?_
  refine z_iload_n rfl 3 rfl hC d_G_weighNodes_101 (q := 102) rfl ?_
  refine z_dup2_11 rfl rfl hC d_G_weighNodes_102 (q := 103) rfl ?_
  obtain ⟨hv2, h⟩ := ck_some h
  refine lr_30 hC hv1 hv2 d_G_weighNodes_103 (q := 104) rfl ?_
  refine z_aload_n rfl 0 rfl hC d_G_weighNodes_104 (q := 105) rfl ?_
  refine gf_G_18_1 hC d_G_weighNodes_105 (q := 108) rfl ?_
  refine z_iload_n rfl 1 rfl hC d_G_weighNodes_108 (q := 109) rfl ?_
  obtain ⟨hv3, h⟩ := ck_some h
  refine al_wN_9 hC hv3 d_G_weighNodes_109 (q := 110) rfl ?_
  refine z_i2l hC d_G_weighNodes_110 (q := 111) rfl ?_
  refine z_lsub hC d_G_weighNodes_111 (q := 112) rfl ?_
  obtain ⟨hv4, h⟩ := ck_some h
  refine sr_30 hC hv1 hv4 d_G_weighNodes_112 (q := 113) rfl ?_
  exact w_G_weighNodes_113 hC hA hR hM n r k37 hk37 x1 x2 x3 (sJ S (0 + x2.toNatClampNeg) (vp_updL (gJ S (0 + x2.toNatClampNeg)) x3.toNatClampNeg ((gJ S (0 + x2.toNatClampNeg) (x3.toNatClampNeg)) - ((gI S 3 x1.toNatClampNeg).toInt64)))) h
set_option maxRecDepth 20000 in
theorem w_G_weighNodes_77 {X : z_X} {A : Nat → Prop} {Ω : z_O} (hC : z_C X b_G_weighNodes 4 "NodalAuction$Grid" Ω) (hA : z_hA X A) (hR : z_R X none) (hM : z_rmOf X = z_rm 0 0) (n : Nat) (r : Unit × z_S) (k37 : Int32 → z_S → Option (Unit × z_S)) (hk37 : ∀ (x1 : Int32) (S : z_S), k37 x1 S = some r → z_At X A (z_QV X Ω A (wN Ω r.2)) Ω 0 0 4 37 [(0, .ref (Ω.2.2 1)), (1, .int x1)] [] (wN Ω S)) (x1 : Int32) (x2 : Int32) (x3 : Int32) (S : z_S) (h : f_G_weighNodes_77 n k37 x1 x2 x3 S = some r) : z_At X A (z_QV X Ω A (wN Ω r.2)) Ω 0 0 4 77 [(0, .ref (Ω.2.2 1)), (1, .int x1), (2, .int x2), (3, .int x3)] [] (wN Ω S) := by
  refine z_aload_n rfl 0 rfl hC d_G_weighNodes_77 (q := 78) rfl ?_
  refine gf_G_30_1 hC d_G_weighNodes_78 (q := 81) rfl ?_
  refine z_iload_n rfl 3 rfl hC d_G_weighNodes_81 (q := 82) rfl ?_
  obtain ⟨hv1, h⟩ := ck_some h
  refine ao_wN_11 hC hv1 d_G_weighNodes_82 (q := 83) rfl ?_
  refine z_iload_n rfl 3 rfl hC d_G_weighNodes_83 (q := 84) rfl ?_
  refine z_dup2_11 rfl rfl hC d_G_weighNodes_84 (q := 85) rfl ?_
  obtain ⟨hv2, h⟩ := ck_some h
  refine lr_30 hC hv1 hv2 d_G_weighNodes_85 (q := 86) rfl ?_
  refine z_aload_n rfl 0 rfl hC d_G_weighNodes_86 (q := 87) rfl ?_
  refine gf_G_18_1 hC d_G_weighNodes_87 (q := 90) rfl ?_
  refine z_iload_n rfl 1 rfl hC d_G_weighNodes_90 (q := 91) rfl ?_
  obtain ⟨hv3, h⟩ := ck_some h
  refine al_wN_9 hC hv3 d_G_weighNodes_91 (q := 92) rfl ?_
  refine z_i2l hC d_G_weighNodes_92 (q := 93) rfl ?_
  refine z_ladd hC d_G_weighNodes_93 (q := 94) rfl ?_
  obtain ⟨hv4, h⟩ := ck_some h
  refine sr_30 hC hv1 hv4 d_G_weighNodes_94 (q := 95) rfl ?_
  exact w_G_weighNodes_95 hC hA hR hM n r k37 hk37 x1 x2 x3 (sJ S (0 + x3.toNatClampNeg) (vp_updL (gJ S (0 + x3.toNatClampNeg)) x3.toNatClampNeg ((gJ S (0 + x3.toNatClampNeg) (x3.toNatClampNeg)) + ((gI S 3 x1.toNatClampNeg).toInt64)))) h
set_option maxRecDepth 20000 in
theorem w_G_weighNodes_37 {X : z_X} {A : Nat → Prop} {Ω : z_O} (hC : z_C X b_G_weighNodes 4 "NodalAuction$Grid" Ω) (hA : z_hA X A) (hR : z_R X none) (hM : z_rmOf X = z_rm 0 0) (n : Nat) (r : Unit × z_S) : ∀ (q : Nat) (x1 : Int32) (S : z_S), f_G_weighNodes_37 n q x1 S = some r → z_At X A (z_QV X Ω A (wN Ω r.2)) Ω 0 0 4 37 [(0, .ref (Ω.2.2 1)), (1, .int x1)] [] (wN Ω S) := by
  intro q
  induction q with
  | zero => intro x1 S h; cases h
  | succ q ih =>
    intro x1 S h
    refine z_iload_n rfl 1 rfl hC d_G_weighNodes_37 (q := 38) rfl ?_
    refine z_aload_n rfl 0 rfl hC d_G_weighNodes_38 (q := 39) rfl ?_
    refine gf_G_24_1 hC d_G_weighNodes_39 (q := 42) rfl ?_
    refine z_icmp_ge (tgt := 137) (q := 45) hC d_G_weighNodes_42 rfl rfl (fun hb => ?_) (fun hb => ?_)
    · have h := (if_pos hb).symm.trans h
      cases h
      exact z_vret hC hR rfl d_G_weighNodes_137
    · have h := (if_neg hb).symm.trans h
      refine z_aload_n rfl 0 rfl hC d_G_weighNodes_45 (q := 46) rfl ?_
      refine gf_G_9_1 hC d_G_weighNodes_46 (q := 49) rfl ?_
      refine z_iload_n rfl 1 rfl hC d_G_weighNodes_49 (q := 50) rfl ?_
      obtain ⟨hv1, h⟩ := ck_some h
      refine al_wN_7 hC hv1 d_G_weighNodes_50 (q := 51) rfl ?_
      refine z_istore_n (lv' := [(2, .int (gI S 1 x1.toNatClampNeg)), (0, .ref (Ω.2.2 1)), (1, .int x1)]) rfl (by decide) rfl hC d_G_weighNodes_51 (q := 52) rfl ?_
      refine z_aload_n rfl 1 rfl hC d_G_weighNodes_52 (q := 53) rfl ?_
      refine gf_G_15_1 hC d_G_weighNodes_53 (q := 56) rfl ?_
      refine z_iload_n rfl 2 rfl hC d_G_weighNodes_56 (q := 57) rfl ?_
      obtain ⟨hv2, h⟩ := ck_some h
      refine al_wN_8 hC hv2 d_G_weighNodes_57 (q := 58) rfl ?_
      refine z_istore_n (lv' := [(3, .int (gI S 2 x1.toNatClampNeg)), (2, .int (gI S 1 x1.toNatClampNeg)), (0, .ref (Ω.2.2 1)), (1, .int x1)]) rfl (by decide) rfl hC d_G_weighNodes_58 (q := 59) rfl ?_
      refine z_aload_n rfl 2 rfl hC d_G_weighNodes_59 (q := 60) rfl ?_
      refine gf_G_30_1 hC d_G_weighNodes_60 (q := 63) rfl ?_
      refine z_iload_n rfl 1 rfl hC d_G_weighNodes_63 (q := 64) rfl ?_
      obtain ⟨hv3, h⟩ := ck_some h
      refine ao_wN_11 hC hv3 d_G_weighNodes_64 (q := 65) rfl ?_
      refine z_iload_n rfl 1 rfl hC d_G_weighNodes_65 (q := 66) rfl ?_
      refine z_dup2_11 rfl rfl hC d_G_weighNodes_66 (q := 67) rfl ?_
      obtain ⟨hv4, h⟩ := ck_some h
      refine lr_30 hC hv3 hv4 d_G_weighNodes_67 (q := 68) rfl ?_
      refine z_aload_n rfl 2 rfl hC d_G_weighNodes_68 (q := 69) rfl ?_
      refine gf_G_18_1 hC d_G_weighNodes_69 (q := 72) rfl ?_
      refine z_iload_n rfl 3 rfl hC d_G_weighNodes_72 (q := 73) rfl ?_
      obtain ⟨hv5, h⟩ := ck_some h
      refine al_wN_9 hC hv5 d_G_weighNodes_73 (q := 74) rfl ?_
      refine z_i2l hC d_G_weighNodes_74 (q := 75) rfl ?_
      refine z_ladd hC d_G_weighNodes_75 (q := 76) rfl ?_
      obtain ⟨hv6, h⟩ := ck_some h
      refine sr_30 hC hv3 hv6 d_G_weighNodes_76 (q := 77) rfl ?_
      refine z_sub [2, 3, 1, 0] rfl ?_
      exact w_G_weighNodes_77 hC hA hR hM n r (f_G_weighNodes_37 n q) ih x1 (gI S 1 x1.toNatClampNeg) (gI S 2 x1.toNatClampNeg) (sJ S (0 + (gI S 1 x1.toNatClampNeg).toNatClampNeg) (vp_updL (gJ S (0 + (gI S 1 x1.toNatClampNeg).toNatClampNeg)) ((gI S 1 x1.toNatClampNeg).toNatClampNeg) ((gJ S (0 + (gI S 1 x1.toNatClampNeg).toNatClampNeg) ((gI S 1 x1.toNatClampNeg).toNatClampNeg)) + ((gI S 3 x1.toNatClampNeg).toInt64)))) h
set_option maxRecDepth 20000 in
theorem w_G_weighNodes_2 {X : z_X} {A : Nat → Prop} {Ω : z_O} (hC : z_C X b_G_weighNodes 4 "NodalAuction$Grid" Ω) (hA : z_hA X A) (hR : z_R X none) (hM : z_rmOf X = z_rm 0 0) (n : Nat) (r : Unit × z_S) : ∀ (q : Nat) (x1 : Int32) (S : z_S), f_G_weighNodes_2 n q x1 S = some r → z_At X A (z_QV X Ω A (wN Ω r.2)) Ω 0 0 4 2 [(0, .ref (Ω.2.2 1)), (1, .int x1)] [] (wN Ω S) := by
  intro q
  induction q with
  | zero => intro x1 S h; cases h
  | succ q ih =>
    intro x1 S h
    refine z_iload_n rfl 1 rfl hC d_G_weighNodes_2 (q := 3) rfl ?_
    refine z_iconst (v := (4 : Int32)) (by decide) hC d_G_weighNodes_3 (q := 4) rfl ?_
    refine z_icmp_ge (tgt := 35) (q := 7) hC d_G_weighNodes_4 rfl rfl (fun hb => ?_) (fun hb => ?_)
    · have h := (if_pos hb).symm.trans h
      refine z_iconst (v := (0 : Int32)) (by decide) hC d_G_weighNodes_35 (q := 36) rfl ?_
      refine z_istore_n (lv' := [(1, .int (0 : Int32)), (0, .ref (Ω.2.2 1))]) rfl (by decide) rfl hC d_G_weighNodes_36 (q := 37) rfl ?_
      refine z_sub [1, 0] rfl ?_
      exact w_G_weighNodes_37 hC hA hR hM n r n (0 : Int32) S h
    · have h := (if_neg hb).symm.trans h
      refine z_iconst (v := (0 : Int32)) (by decide) hC d_G_weighNodes_7 (q := 8) rfl ?_
      refine z_istore_n (lv' := [(2, .int (0 : Int32)), (0, .ref (Ω.2.2 1)), (1, .int x1)]) rfl (by decide) rfl hC d_G_weighNodes_8 (q := 9) rfl ?_
      refine z_sub [1, 2, 0] rfl ?_
      exact w_G_weighNodes_9 hC hA hR hM n r (f_G_weighNodes_2 n q) ih n x1 (0 : Int32) S h
set_option maxRecDepth 20000 in
theorem w_G_weighNodes {X : z_X} {A : Nat → Prop} {Ω : z_O} (hC : z_C X b_G_weighNodes 4 "NodalAuction$Grid" Ω) (hA : z_hA X A) (hR : z_R X none) (hM : z_rmOf X = z_rm 0 0) (n : Nat) (r : Unit × z_S) (S : z_S) (h : f_G_weighNodes n S = some r) : z_At X A (z_QV X Ω A (wN Ω r.2)) Ω 0 0 4 0 [(0, .ref (Ω.2.2 1))] [] (wN Ω S) := by
  refine z_iconst (v := (0 : Int32)) (by decide) hC d_G_weighNodes_0 (q := 1) rfl ?_
  refine z_istore_n (lv' := [(1, .int (0 : Int32)), (0, .ref (Ω.2.2 1))]) rfl (by decide) rfl hC d_G_weighNodes_1 (q := 2) rfl ?_
  refine z_sub [1, 0] rfl ?_
  exact w_G_weighNodes_2 hC hA hR hM n r n (0 : Int32) S h
theorem c_G_weighNodes (l : Launch) (Ω : z_O) (n : Nat) (S : z_S) (r : Unit × z_S) (h : f_G_weighNodes n S = some r) : z_MV l Ω y_G_weighNodes b_G_weighNodes 4 0 0 [.ref (Ω.2.2 1)] (wN Ω S) (wN Ω r.2) := z_introV (by decide +kernel) (Nat.le_of_ble_eq_true rfl) rfl (fun X A hC hA hR _ hM => w_G_weighNodes hC hA hR hM n r S h)
def f_G_beside (n : Nat) (x0 : Int32) (x1 : Int32) (S : z_S) : Option (Int32 × z_S) := some (((x0 + (1 : Int32)) + (x1 - x1 / (3 : Int32) * (3 : Int32))) - ((x0 + (1 : Int32)) + (x1 - x1 / (3 : Int32) * (3 : Int32))) / (4 : Int32) * (4 : Int32), S)
set_option maxRecDepth 20000 in
theorem w_G_beside {X : z_X} {A : Nat → Prop} {Ω : z_O} (hC : z_C X b_G_beside 2 "NodalAuction$Grid" Ω) (hA : z_hA X A) (hR : z_R X (some .int)) (hM : z_rmOf X = z_rm 0 0) (n : Nat) (r : Int32 × z_S) (x0 : Int32) (x1 : Int32) (S : z_S) (h : f_G_beside n x0 x1 S = some r) : z_At X A (z_QI X Ω A r.1 (wN Ω r.2)) Ω 0 0 2 0 [(0, .int x0), (1, .int x1)] [] (wN Ω S) := by
  refine z_iload_n rfl 0 rfl hC d_G_beside_0 (q := 1) rfl ?_
  refine z_iconst (v := (1 : Int32)) (by decide) hC d_G_beside_1 (q := 2) rfl ?_
  refine z_iadd hC d_G_beside_2 (q := 3) rfl ?_
  refine z_iload_n rfl 1 rfl hC d_G_beside_3 (q := 4) rfl ?_
  refine z_iconst (v := (3 : Int32)) (by decide) hC d_G_beside_4 (q := 5) rfl ?_
  refine z_irem (by decide) hC d_G_beside_5 (q := 6) rfl ?_
  refine z_iadd hC d_G_beside_6 (q := 7) rfl ?_
  refine z_iconst (v := (4 : Int32)) (by decide) hC d_G_beside_7 (q := 8) rfl ?_
  refine z_irem (by decide) hC d_G_beside_8 (q := 9) rfl ?_
  cases h
  exact z_iret hC hR rfl rfl d_G_beside_9
theorem c_G_beside (l : Launch) (Ω : z_O) (n : Nat) (x0 : Int32) (x1 : Int32) (S : z_S) (r : Int32 × z_S) (h : f_G_beside n x0 x1 S = some r) : z_MI l Ω y_G_beside b_G_beside 2 .int 0 0 [.int x0, .int x1] (wN Ω S) r.1 (wN Ω r.2) := z_introI (by decide +kernel) (Nat.le_of_ble_eq_true rfl) rfl (fun X A hC hA hR _ hM => w_G_beside hC hA hR hM n r x0 x1 S h)
def f_G_cofactor (n : Nat) (x1 : Int32) (x2 : Int32) (x3 : Int32) (S : z_S) : Option (Int64 × z_S) := bo (f_G_beside n x1 (x2 + (1 : Int32)) S) (fun v4 S4 => bo (f_G_beside n x1 (x2 + (2 : Int32)) S4) (fun v13 S13 => bo (f_G_beside n x1 (x3 + (1 : Int32)) S13) (fun v22 S22 => bo (f_G_beside n x1 (x3 + (2 : Int32)) S22) (fun v31 S31 => ck (vi v4 4) (ck (vi v22 4) (ck (vi v13 4) (ck (vi v31 4) (ck (vi v4 4) (ck (vi v31 4) (ck (vi v13 4) (ck (vi v22 4) (some (((gJ S31 (0 + v4.toNatClampNeg) (v22.toNatClampNeg)) * (gJ S31 (0 + v13.toNatClampNeg) (v31.toNatClampNeg))) - ((gJ S31 (0 + v4.toNatClampNeg) (v31.toNatClampNeg)) * (gJ S31 (0 + v13.toNatClampNeg) (v22.toNatClampNeg))), S31)))))))))))))
set_option maxRecDepth 20000 in
theorem w_G_cofactor {X : z_X} {A : Nat → Prop} {Ω : z_O} (hC : z_C X b_G_cofactor 8 "NodalAuction$Grid" Ω) (hA : z_hA X A) (hR : z_R X (some .long)) (hM : z_rmOf X = z_rm 1 21) (n : Nat) (r : Int64 × z_S) (x1 : Int32) (x2 : Int32) (x3 : Int32) (S : z_S) (h : f_G_cofactor n x1 x2 x3 S = some r) : z_At X A (z_QL X Ω A r.1 (wN Ω r.2)) Ω 0 0 8 0 [(0, .ref (Ω.2.2 1)), (1, .int x1), (2, .int x2), (3, .int x3)] [] (wN Ω S) := by
  refine z_iload_n rfl 1 rfl hC d_G_cofactor_0 (q := 1) rfl ?_
  refine z_iload_n rfl 2 rfl hC d_G_cofactor_1 (q := 2) rfl ?_
  refine z_iconst (v := (1 : Int32)) (by decide) hC d_G_cofactor_2 (q := 3) rfl ?_
  refine z_iadd hC d_G_cofactor_3 (q := 4) rfl ?_
  obtain ⟨v4, S4, hc4, h⟩ := bo_some h
  refine z_callSi (As := [.int x1, .int (x2 + (1 : Int32))]) hC hA (c_G_beside (z_lOf X) Ω n x1 (x2 + (1 : Int32)) S (v4, S4) hc4) k_260 k_258 k_259 k_2 h_G_beside (by rw [hM]; exact ⟨Nat.le_of_ble_eq_true rfl, Nat.le_of_ble_eq_true rfl⟩) ⟨Nat.zero_le _, Nat.zero_le _⟩ rfl (Nat.le_of_ble_eq_true rfl) rfl d_G_cofactor_4 (q := 7) rfl ?_
  refine z_istore (lv' := [(4, .int v4), (0, .ref (Ω.2.2 1)), (1, .int x1), (2, .int x2), (3, .int x3)]) (by decide) rfl hC d_G_cofactor_7 (q := 9) rfl ?_
  refine z_iload_n rfl 2 rfl hC d_G_cofactor_9 (q := 10) rfl ?_
  refine z_iload_n rfl 3 rfl hC d_G_cofactor_10 (q := 11) rfl ?_
  refine z_iconst (v := (2 : Int32)) (by decide) hC d_G_cofactor_11 (q := 12) rfl ?_
  refine z_iadd hC d_G_cofactor_12 (q := 13) rfl ?_
  obtain ⟨v13, S13, hc13, h⟩ := bo_some h
  refine z_callSi (As := [.int x1, .int (x2 + (2 : Int32))]) hC hA (c_G_beside (z_lOf X) Ω n x1 (x2 + (2 : Int32)) S4 (v13, S13) hc13) k_260 k_258 k_259 k_2 h_G_beside (by rw [hM]; exact ⟨Nat.le_of_ble_eq_true rfl, Nat.le_of_ble_eq_true rfl⟩) ⟨Nat.zero_le _, Nat.zero_le _⟩ rfl (Nat.le_of_ble_eq_true rfl) rfl d_G_cofactor_13 (q := 16) rfl ?_
  refine z_istore (lv' := [(5, .int v13), (4, .int v4), (0, .ref (Ω.2.2 1)), (1, .int x1), (2, .int x2), (3, .int x3)]) (by decide) rfl hC d_G_cofactor_16 (q := 18) rfl ?_
  refine z_iload_n rfl 3 rfl hC d_G_cofactor_18 (q := 19) rfl ?_
  refine z_iload_n rfl 5 rfl hC d_G_cofactor_19 (q := 20) rfl ?_
  refine z_iconst (v := (1 : Int32)) (by decide) hC d_G_cofactor_20 (q := 21) rfl ?_
  refine z_iadd hC d_G_cofactor_21 (q := 22) rfl ?_
  obtain ⟨v22, S22, hc22, h⟩ := bo_some h
  refine z_callSi (As := [.int x1, .int (x3 + (1 : Int32))]) hC hA (c_G_beside (z_lOf X) Ω n x1 (x3 + (1 : Int32)) S13 (v22, S22) hc22) k_260 k_258 k_259 k_2 h_G_beside (by rw [hM]; exact ⟨Nat.le_of_ble_eq_true rfl, Nat.le_of_ble_eq_true rfl⟩) ⟨Nat.zero_le _, Nat.zero_le _⟩ rfl (Nat.le_of_ble_eq_true rfl) rfl d_G_cofactor_22 (q := 25) rfl ?_
  refine z_istore (lv' := [(6, .int v22), (5, .int v13), (4, .int v4), (0, .ref (Ω.2.2 1)), (1, .int x1), (2, .int x2), (3, .int x3)]) (by decide) rfl hC d_G_cofactor_25 (q := 27) rfl ?_
  refine z_iload_n rfl 4 rfl hC d_G_cofactor_27 (q := 28) rfl ?_
  refine z_iload_n rfl 6 rfl hC d_G_cofactor_28 (q := 29) rfl ?_
  refine z_iconst (v := (2 : Int32)) (by decide) hC d_G_cofactor_29 (q := 30) rfl ?_
  refine z_iadd hC d_G_cofactor_30 (q := 31) rfl ?_
  obtain ⟨v31, S31, hc31, h⟩ := bo_some h
  refine z_callSi (As := [.int x1, .int (x3 + (2 : Int32))]) hC hA (c_G_beside (z_lOf X) Ω n x1 (x3 + (2 : Int32)) S22 (v31, S31) hc31) k_260 k_258 k_259 k_2 h_G_beside (by rw [hM]; exact ⟨Nat.le_of_ble_eq_true rfl, Nat.le_of_ble_eq_true rfl⟩) ⟨Nat.zero_le _, Nat.zero_le _⟩ rfl (Nat.le_of_ble_eq_true rfl) rfl d_G_cofactor_31 (q := 34) rfl ?_
  refine z_istore (lv' := [(7, .int v31), (6, .int v22), (5, .int v13), (4, .int v4), (0, .ref (Ω.2.2 1)), (1, .int x1), (2, .int x2), (3, .int x3)]) (by decide) rfl hC d_G_cofactor_34 (q := 36) rfl ?_
  refine z_aload_n rfl 4 rfl hC d_G_cofactor_36 (q := 37) rfl ?_
  refine gf_G_30_1 hC d_G_cofactor_37 (q := 40) rfl ?_
  refine z_iload 3 rfl hC d_G_cofactor_40 (q := 42) rfl ?_
  obtain ⟨hv1, h⟩ := ck_some h
  refine ao_wN_11 hC hv1 d_G_cofactor_42 (q := 43) rfl ?_
  refine z_iload 1 rfl hC d_G_cofactor_43 (q := 45) rfl ?_
  obtain ⟨hv2, h⟩ := ck_some h
  refine lr_30 hC hv1 hv2 d_G_cofactor_45 (q := 46) rfl ?_
  refine z_aload_n rfl 4 rfl hC d_G_cofactor_46 (q := 47) rfl ?_
  refine gf_G_30_1 hC d_G_cofactor_47 (q := 50) rfl ?_
  refine z_iload 2 rfl hC d_G_cofactor_50 (q := 52) rfl ?_
  obtain ⟨hv3, h⟩ := ck_some h
  refine ao_wN_11 hC hv3 d_G_cofactor_52 (q := 53) rfl ?_
  refine z_iload 0 rfl hC d_G_cofactor_53 (q := 55) rfl ?_
  obtain ⟨hv4, h⟩ := ck_some h
  refine lr_30 hC hv3 hv4 d_G_cofactor_55 (q := 56) rfl ?_
  refine z_lmul hC d_G_cofactor_56 (q := 57) rfl ?_
  refine z_aload_n rfl 4 rfl hC d_G_cofactor_57 (q := 58) rfl ?_
  refine gf_G_30_1 hC d_G_cofactor_58 (q := 61) rfl ?_
  refine z_iload 3 rfl hC d_G_cofactor_61 (q := 63) rfl ?_
  obtain ⟨hv5, h⟩ := ck_some h
  refine ao_wN_11 hC hv5 d_G_cofactor_63 (q := 64) rfl ?_
  refine z_iload 0 rfl hC d_G_cofactor_64 (q := 66) rfl ?_
  obtain ⟨hv6, h⟩ := ck_some h
  refine lr_30 hC hv5 hv6 d_G_cofactor_66 (q := 67) rfl ?_
  refine z_aload_n rfl 4 rfl hC d_G_cofactor_67 (q := 68) rfl ?_
  refine gf_G_30_1 hC d_G_cofactor_68 (q := 71) rfl ?_
  refine z_iload 2 rfl hC d_G_cofactor_71 (q := 73) rfl ?_
  obtain ⟨hv7, h⟩ := ck_some h
  refine ao_wN_11 hC hv7 d_G_cofactor_73 (q := 74) rfl ?_
  refine z_iload 1 rfl hC d_G_cofactor_74 (q := 76) rfl ?_
  obtain ⟨hv8, h⟩ := ck_some h
  refine lr_30 hC hv7 hv8 d_G_cofactor_76 (q := 77) rfl ?_
  refine z_lmul hC d_G_cofactor_77 (q := 78) rfl ?_
  refine z_lsub hC d_G_cofactor_78 (q := 79) rfl ?_
  cases h
  exact z_lret hC hR rfl rfl d_G_cofactor_79
theorem c_G_cofactor (l : Launch) (Ω : z_O) (n : Nat) (x1 : Int32) (x2 : Int32) (x3 : Int32) (S : z_S) (r : Int64 × z_S) (h : f_G_cofactor n x1 x2 x3 S = some r) : z_ML l Ω y_G_cofactor b_G_cofactor 8 .long 1 21 [.ref (Ω.2.2 1), .int x1, .int x2, .int x3] (wN Ω S) r.1 (wN Ω r.2) := z_introL (by decide +kernel) (Nat.le_of_ble_eq_true rfl) rfl (fun X A hC hA hR _ hM => w_G_cofactor hC hA hR hM n r x1 x2 x3 S h)
def f_G_ground_34 (n : Nat) (k11 : Int32 → Int32 → z_S → Option (Unit × z_S)) (x1 : Int32) (x2 : Int32) (S : z_S) : Option (Unit × z_S) := k11 x1 (x2 + (1 : Int32)) S
def f_G_ground_49 (n : Nat) (k42 : Int32 → Int32 → z_S → Option (Unit × z_S)) : Nat → Int32 → Int32 → Int32 → z_S → Option (Unit × z_S)
  | 0, _, _, _, _ => none
  | q + 1, x1, x2, x3, S => (if (3 : Int32) ≤ x3 then k42 x1 (x2 + (1 : Int32)) S else bo (f_G_beside n x1 x2 S) (fun v60 S60 => ck (vi v60 4) (bo (f_G_beside n x1 x3 S60) (fun v66 S66 => bo (f_G_cofactor n x1 x2 x3 S66) (fun v73 S73 => ck (vi v66 4) (f_G_ground_49 n k42 q x1 x2 (x3 + (1 : Int32)) (sJ S73 (4 + v60.toNatClampNeg) (vp_updL (gJ S73 (4 + v60.toNatClampNeg)) v66.toNatClampNeg v73))))))))
def f_G_ground_97 (n : Nat) : Nat → Int32 → Int32 → z_S → Option (Unit × z_S)
  | 0, _, _, _ => none
  | q + 1, x2, x3, S => (if (4 : Int32) ≤ x3 then some ((), S) else ck (vi x2 4) (ck (vi x3 4) (ck (vi x2 4) (ck (vi x3 4) (f_G_ground_97 n q x2 (x3 + (1 : Int32)) (sG S 0 ((gG S 0) + ((gJ S (0 + x2.toNatClampNeg) (x3.toNatClampNeg)) * (gJ S (4 + x2.toNatClampNeg) (x3.toNatClampNeg))))))))))
def f_G_ground_42 (n : Nat) : Nat → Int32 → Int32 → z_S → Option (Unit × z_S)
  | 0, _, _, _ => none
  | q + 1, x1, x2, S => (if (3 : Int32) ≤ x2 then bo (f_G_beside n x1 (0 : Int32) S) (fun v91 S91 => f_G_ground_97 n n v91 (0 : Int32) S91) else f_G_ground_49 n (f_G_ground_42 n q) n x1 x2 (0 : Int32) S)
def f_G_ground_11 (n : Nat) : Nat → Int32 → Int32 → z_S → Option (Unit × z_S)
  | 0, _, _, _ => none
  | q + 1, x1, x2, S => (if (4 : Int32) ≤ x2 then f_G_ground_42 n n x1 (0 : Int32) S else ck (vi x1 4) (ck (vi x2 4) (ck (vi x2 4) (ck (vi x1 4) (f_G_ground_34 n (f_G_ground_11 n q) x1 x2 (sJ (sJ S (4 + x1.toNatClampNeg) (vp_updL (gJ S (4 + x1.toNatClampNeg)) x2.toNatClampNeg (0 : Int64))) (4 + x2.toNatClampNeg) (vp_updL (gJ (sJ S (4 + x1.toNatClampNeg) (vp_updL (gJ S (4 + x1.toNatClampNeg)) x2.toNatClampNeg (0 : Int64))) (4 + x2.toNatClampNeg)) x1.toNatClampNeg (0 : Int64))))))))
def f_G_ground (n : Nat) (x1 : Int32) (S : z_S) : Option (Unit × z_S) := bo (f_G_weighNodes n S) (fun _ S1 => f_G_ground_11 n n x1 (0 : Int32) (sG S1 0 (0 : Int64)))
set_option maxRecDepth 20000 in
theorem w_G_ground_34 {X : z_X} {A : Nat → Prop} {Ω : z_O} (hC : z_C X b_G_ground 4 "NodalAuction$Grid" Ω) (hA : z_hA X A) (hR : z_R X none) (hM : z_rmOf X = z_rm 2 48) (n : Nat) (r : Unit × z_S) (k11 : Int32 → Int32 → z_S → Option (Unit × z_S)) (hk11 : ∀ (x1 : Int32) (x2 : Int32) (S : z_S), k11 x1 x2 S = some r → z_At X A (z_QV X Ω A (wN Ω r.2)) Ω 0 0 4 11 [(0, .ref (Ω.2.2 1)), (1, .int x1), (2, .int x2)] [] (wN Ω S)) (x1 : Int32) (x2 : Int32) (S : z_S) (h : f_G_ground_34 n k11 x1 x2 S = some r) : z_At X A (z_QV X Ω A (wN Ω r.2)) Ω 0 0 4 34 [(0, .ref (Ω.2.2 1)), (1, .int x1), (2, .int x2)] [] (wN Ω S) := by
  refine z_iinc (lv' := [(2, .int (x2 + (1 : Int32))), (0, .ref (Ω.2.2 1)), (1, .int x1)]) 2 rfl rfl (by decide) rfl hC d_G_ground_34 (q := 37) rfl ?_
  refine z_goto (tgt := 11) hC d_G_ground_37 rfl ?_
  refine z_sub [1, 2, 0] rfl ?_
  exact hk11 x1 (x2 + (1 : Int32)) S h
set_option maxRecDepth 20000 in
theorem w_G_ground_49 {X : z_X} {A : Nat → Prop} {Ω : z_O} (hC : z_C X b_G_ground 4 "NodalAuction$Grid" Ω) (hA : z_hA X A) (hR : z_R X none) (hM : z_rmOf X = z_rm 2 48) (n : Nat) (r : Unit × z_S) (k42 : Int32 → Int32 → z_S → Option (Unit × z_S)) (hk42 : ∀ (x1 : Int32) (x2 : Int32) (S : z_S), k42 x1 x2 S = some r → z_At X A (z_QV X Ω A (wN Ω r.2)) Ω 0 0 4 42 [(0, .ref (Ω.2.2 1)), (1, .int x1), (2, .int x2)] [] (wN Ω S)) : ∀ (q : Nat) (x1 : Int32) (x2 : Int32) (x3 : Int32) (S : z_S), f_G_ground_49 n k42 q x1 x2 x3 S = some r → z_At X A (z_QV X Ω A (wN Ω r.2)) Ω 0 0 4 49 [(0, .ref (Ω.2.2 1)), (1, .int x1), (2, .int x2), (3, .int x3)] [] (wN Ω S) := by
  intro q
  induction q with
  | zero => intro x1 x2 x3 S h; cases h
  | succ q ih =>
    intro x1 x2 x3 S h
    refine z_iload_n rfl 3 rfl hC d_G_ground_49 (q := 50) rfl ?_
    refine z_iconst (v := (3 : Int32)) (by decide) hC d_G_ground_50 (q := 51) rfl ?_
    refine z_icmp_ge (tgt := 83) (q := 54) hC d_G_ground_51 rfl rfl (fun hb => ?_) (fun hb => ?_)
    · have h := (if_pos hb).symm.trans h
      refine z_iinc (lv' := [(2, .int (x2 + (1 : Int32))), (0, .ref (Ω.2.2 1)), (1, .int x1), (3, .int x3)]) 2 rfl rfl (by decide) rfl hC d_G_ground_83 (q := 86) rfl ?_
      refine z_goto (tgt := 42) hC d_G_ground_86 rfl ?_
      refine z_sub [1, 2, 0] rfl ?_
      exact hk42 x1 (x2 + (1 : Int32)) S h
    · have h := (if_neg hb).symm.trans h
      refine z_aload_n rfl 0 rfl hC d_G_ground_54 (q := 55) rfl ?_
      refine gf_G_33_1 hC d_G_ground_55 (q := 58) rfl ?_
      refine z_iload_n rfl 1 rfl hC d_G_ground_58 (q := 59) rfl ?_
      refine z_iload_n rfl 2 rfl hC d_G_ground_59 (q := 60) rfl ?_
      obtain ⟨v60, S60, hc60, h⟩ := bo_some h
      refine z_callSi (As := [.int x1, .int x2]) hC hA (c_G_beside (z_lOf X) Ω n x1 x2 S (v60, S60) hc60) k_260 k_258 k_259 k_2 h_G_beside (by rw [hM]; exact ⟨Nat.le_of_ble_eq_true rfl, Nat.le_of_ble_eq_true rfl⟩) ⟨Nat.zero_le _, Nat.zero_le _⟩ rfl (Nat.le_of_ble_eq_true rfl) rfl d_G_ground_60 (q := 63) rfl ?_
      obtain ⟨hv1, h⟩ := ck_some h
      refine ao_wN_12 hC hv1 d_G_ground_63 (q := 64) rfl ?_
      refine z_iload_n rfl 1 rfl hC d_G_ground_64 (q := 65) rfl ?_
      refine z_iload_n rfl 3 rfl hC d_G_ground_65 (q := 66) rfl ?_
      obtain ⟨v66, S66, hc66, h⟩ := bo_some h
      refine z_callSi (As := [.int x1, .int x3]) hC hA (c_G_beside (z_lOf X) Ω n x1 x3 S60 (v66, S66) hc66) k_260 k_258 k_259 k_2 h_G_beside (by rw [hM]; exact ⟨Nat.le_of_ble_eq_true rfl, Nat.le_of_ble_eq_true rfl⟩) ⟨Nat.zero_le _, Nat.zero_le _⟩ rfl (Nat.le_of_ble_eq_true rfl) rfl d_G_ground_66 (q := 69) rfl ?_
      refine z_aload_n rfl 0 rfl hC d_G_ground_69 (q := 70) rfl ?_
      refine z_iload_n rfl 1 rfl hC d_G_ground_70 (q := 71) rfl ?_
      refine z_iload_n rfl 2 rfl hC d_G_ground_71 (q := 72) rfl ?_
      refine z_iload_n rfl 3 rfl hC d_G_ground_72 (q := 73) rfl ?_
      obtain ⟨v73, S73, hc73, h⟩ := bo_some h
      refine z_callVl (q0 := 1) (As := [.int x1, .int x2, .int x3]) hC hA (c_G_cofactor (z_lOf X) Ω n x1 x2 x3 S66 (v73, S73) hc73) k_264 k_261 k_263 ks_11 k_2 h_G_cofactor (by rw [hM]; exact ⟨Nat.le_of_ble_eq_true rfl, Nat.le_of_ble_eq_true rfl⟩) ⟨Nat.zero_le _, Nat.zero_le _⟩ rfl rfl rfl (Nat.le_of_ble_eq_true rfl) rfl d_G_ground_73 (q := 76) rfl ?_
      obtain ⟨hv2, h⟩ := ck_some h
      refine sr_34 hC hv1 hv2 d_G_ground_76 (q := 77) rfl ?_
      refine z_iinc (lv' := [(3, .int (x3 + (1 : Int32))), (0, .ref (Ω.2.2 1)), (1, .int x1), (2, .int x2)]) 3 rfl rfl (by decide) rfl hC d_G_ground_77 (q := 80) rfl ?_
      refine z_goto (tgt := 49) hC d_G_ground_80 rfl ?_
      refine z_sub [1, 2, 3, 0] rfl ?_
      exact ih x1 x2 (x3 + (1 : Int32)) (sJ S73 (4 + v60.toNatClampNeg) (vp_updL (gJ S73 (4 + v60.toNatClampNeg)) v66.toNatClampNeg v73)) h
set_option maxRecDepth 20000 in
theorem w_G_ground_97 {X : z_X} {A : Nat → Prop} {Ω : z_O} (hC : z_C X b_G_ground 4 "NodalAuction$Grid" Ω) (hA : z_hA X A) (hR : z_R X none) (hM : z_rmOf X = z_rm 2 48) (n : Nat) (r : Unit × z_S) : ∀ (q : Nat) (x2 : Int32) (x3 : Int32) (S : z_S), f_G_ground_97 n q x2 x3 S = some r → z_At X A (z_QV X Ω A (wN Ω r.2)) Ω 0 0 4 97 [(0, .ref (Ω.2.2 1)), (2, .int x2), (3, .int x3)] [] (wN Ω S) := by
  intro q
  induction q with
  | zero => intro x2 x3 S h; cases h
  | succ q ih =>
    intro x2 x3 S h
    refine z_iload_n rfl 2 rfl hC d_G_ground_97 (q := 98) rfl ?_
    refine z_iconst (v := (4 : Int32)) (by decide) hC d_G_ground_98 (q := 99) rfl ?_
    refine z_icmp_ge (tgt := 134) (q := 102) hC d_G_ground_99 rfl rfl (fun hb => ?_) (fun hb => ?_)
    · have h := (if_pos hb).symm.trans h
      cases h
      exact z_vret hC hR rfl d_G_ground_134
    · have h := (if_neg hb).symm.trans h
      refine z_aload_n rfl 0 rfl hC d_G_ground_102 (q := 103) rfl ?_
      refine z_dup rfl hC d_G_ground_103 (q := 104) rfl ?_
      refine gf_G_36_1 hC d_G_ground_104 (q := 107) rfl ?_
      refine z_aload_n rfl 0 rfl hC d_G_ground_107 (q := 108) rfl ?_
      refine gf_G_30_1 hC d_G_ground_108 (q := 111) rfl ?_
      refine z_iload_n rfl 1 rfl hC d_G_ground_111 (q := 112) rfl ?_
      obtain ⟨hv1, h⟩ := ck_some h
      refine ao_wN_11 hC hv1 d_G_ground_112 (q := 113) rfl ?_
      refine z_iload_n rfl 2 rfl hC d_G_ground_113 (q := 114) rfl ?_
      obtain ⟨hv2, h⟩ := ck_some h
      refine lr_30 hC hv1 hv2 d_G_ground_114 (q := 115) rfl ?_
      refine z_aload_n rfl 0 rfl hC d_G_ground_115 (q := 116) rfl ?_
      refine gf_G_33_1 hC d_G_ground_116 (q := 119) rfl ?_
      refine z_iload_n rfl 1 rfl hC d_G_ground_119 (q := 120) rfl ?_
      obtain ⟨hv3, h⟩ := ck_some h
      refine ao_wN_12 hC hv3 d_G_ground_120 (q := 121) rfl ?_
      refine z_iload_n rfl 2 rfl hC d_G_ground_121 (q := 122) rfl ?_
      obtain ⟨hv4, h⟩ := ck_some h
      refine lr_34 hC hv3 hv4 d_G_ground_122 (q := 123) rfl ?_
      refine z_lmul hC d_G_ground_123 (q := 124) rfl ?_
      refine z_ladd hC d_G_ground_124 (q := 125) rfl ?_
      refine pf_G_36_1 hC d_G_ground_125 (q := 128) rfl ?_
      refine z_iinc (lv' := [(3, .int (x3 + (1 : Int32))), (0, .ref (Ω.2.2 1)), (2, .int x2)]) 2 rfl rfl (by decide) rfl hC d_G_ground_128 (q := 131) rfl ?_
      refine z_goto (tgt := 97) hC d_G_ground_131 rfl ?_
      refine z_sub [1, 2, 0] rfl ?_
      exact ih x2 (x3 + (1 : Int32)) (sG S 0 ((gG S 0) + ((gJ S (0 + x2.toNatClampNeg) (x3.toNatClampNeg)) * (gJ S (4 + x2.toNatClampNeg) (x3.toNatClampNeg))))) h
set_option maxRecDepth 20000 in
theorem w_G_ground_42 {X : z_X} {A : Nat → Prop} {Ω : z_O} (hC : z_C X b_G_ground 4 "NodalAuction$Grid" Ω) (hA : z_hA X A) (hR : z_R X none) (hM : z_rmOf X = z_rm 2 48) (n : Nat) (r : Unit × z_S) : ∀ (q : Nat) (x1 : Int32) (x2 : Int32) (S : z_S), f_G_ground_42 n q x1 x2 S = some r → z_At X A (z_QV X Ω A (wN Ω r.2)) Ω 0 0 4 42 [(0, .ref (Ω.2.2 1)), (1, .int x1), (2, .int x2)] [] (wN Ω S) := by
  intro q
  induction q with
  | zero => intro x1 x2 S h; cases h
  | succ q ih =>
    intro x1 x2 S h
    refine z_iload_n rfl 2 rfl hC d_G_ground_42 (q := 43) rfl ?_
    refine z_iconst (v := (3 : Int32)) (by decide) hC d_G_ground_43 (q := 44) rfl ?_
    refine z_icmp_ge (tgt := 89) (q := 47) hC d_G_ground_44 rfl rfl (fun hb => ?_) (fun hb => ?_)
    · have h := (if_pos hb).symm.trans h
      refine z_iload_n rfl 1 rfl hC d_G_ground_89 (q := 90) rfl ?_
      refine z_iconst (v := (0 : Int32)) (by decide) hC d_G_ground_90 (q := 91) rfl ?_
      obtain ⟨v91, S91, hc91, h⟩ := bo_some h
      refine z_callSi (As := [.int x1, .int (0 : Int32)]) hC hA (c_G_beside (z_lOf X) Ω n x1 (0 : Int32) S (v91, S91) hc91) k_260 k_258 k_259 k_2 h_G_beside (by rw [hM]; exact ⟨Nat.le_of_ble_eq_true rfl, Nat.le_of_ble_eq_true rfl⟩) ⟨Nat.zero_le _, Nat.zero_le _⟩ rfl (Nat.le_of_ble_eq_true rfl) rfl d_G_ground_91 (q := 94) rfl ?_
      refine z_istore_n (lv' := [(2, .int v91), (0, .ref (Ω.2.2 1)), (1, .int x1)]) rfl (by decide) rfl hC d_G_ground_94 (q := 95) rfl ?_
      refine z_iconst (v := (0 : Int32)) (by decide) hC d_G_ground_95 (q := 96) rfl ?_
      refine z_istore_n (lv' := [(3, .int (0 : Int32)), (2, .int v91), (0, .ref (Ω.2.2 1)), (1, .int x1)]) rfl (by decide) rfl hC d_G_ground_96 (q := 97) rfl ?_
      refine z_sub [2, 1, 0] rfl ?_
      exact w_G_ground_97 hC hA hR hM n r n v91 (0 : Int32) S91 h
    · have h := (if_neg hb).symm.trans h
      refine z_iconst (v := (0 : Int32)) (by decide) hC d_G_ground_47 (q := 48) rfl ?_
      refine z_istore_n (lv' := [(3, .int (0 : Int32)), (0, .ref (Ω.2.2 1)), (1, .int x1), (2, .int x2)]) rfl (by decide) rfl hC d_G_ground_48 (q := 49) rfl ?_
      refine z_sub [1, 2, 3, 0] rfl ?_
      exact w_G_ground_49 hC hA hR hM n r (f_G_ground_42 n q) ih n x1 x2 (0 : Int32) S h
set_option maxRecDepth 20000 in
theorem w_G_ground_11 {X : z_X} {A : Nat → Prop} {Ω : z_O} (hC : z_C X b_G_ground 4 "NodalAuction$Grid" Ω) (hA : z_hA X A) (hR : z_R X none) (hM : z_rmOf X = z_rm 2 48) (n : Nat) (r : Unit × z_S) : ∀ (q : Nat) (x1 : Int32) (x2 : Int32) (S : z_S), f_G_ground_11 n q x1 x2 S = some r → z_At X A (z_QV X Ω A (wN Ω r.2)) Ω 0 0 4 11 [(0, .ref (Ω.2.2 1)), (1, .int x1), (2, .int x2)] [] (wN Ω S) := by
  intro q
  induction q with
  | zero => intro x1 x2 S h; cases h
  | succ q ih =>
    intro x1 x2 S h
    refine z_iload_n rfl 2 rfl hC d_G_ground_11 (q := 12) rfl ?_
    refine z_iconst (v := (4 : Int32)) (by decide) hC d_G_ground_12 (q := 13) rfl ?_
    refine z_icmp_ge (tgt := 40) (q := 16) hC d_G_ground_13 rfl rfl (fun hb => ?_) (fun hb => ?_)
    · have h := (if_pos hb).symm.trans h
      refine z_iconst (v := (0 : Int32)) (by decide) hC d_G_ground_40 (q := 41) rfl ?_
      refine z_istore_n (lv' := [(2, .int (0 : Int32)), (0, .ref (Ω.2.2 1)), (1, .int x1)]) rfl (by decide) rfl hC d_G_ground_41 (q := 42) rfl ?_
      refine z_sub [1, 2, 0] rfl ?_
      exact w_G_ground_42 hC hA hR hM n r n x1 (0 : Int32) S h
    · have h := (if_neg hb).symm.trans h
      refine z_aload_n rfl 0 rfl hC d_G_ground_16 (q := 17) rfl ?_
      refine gf_G_33_1 hC d_G_ground_17 (q := 20) rfl ?_
      refine z_iload_n rfl 1 rfl hC d_G_ground_20 (q := 21) rfl ?_
      obtain ⟨hv1, h⟩ := ck_some h
      refine ao_wN_12 hC hv1 d_G_ground_21 (q := 22) rfl ?_
      refine z_iload_n rfl 2 rfl hC d_G_ground_22 (q := 23) rfl ?_
      refine z_lconst (v := (0 : Int64)) (by decide) hC d_G_ground_23 (q := 24) rfl ?_
      obtain ⟨hv2, h⟩ := ck_some h
      refine sr_34 hC hv1 hv2 d_G_ground_24 (q := 25) rfl ?_
      refine z_aload_n rfl 0 rfl hC d_G_ground_25 (q := 26) rfl ?_
      refine gf_G_33_1 hC d_G_ground_26 (q := 29) rfl ?_
      refine z_iload_n rfl 2 rfl hC d_G_ground_29 (q := 30) rfl ?_
      obtain ⟨hv3, h⟩ := ck_some h
      refine ao_wN_12 hC hv3 d_G_ground_30 (q := 31) rfl ?_
      refine z_iload_n rfl 1 rfl hC d_G_ground_31 (q := 32) rfl ?_
      refine z_lconst (v := (0 : Int64)) (by decide) hC d_G_ground_32 (q := 33) rfl ?_
      obtain ⟨hv4, h⟩ := ck_some h
      refine sr_34 hC hv3 hv4 d_G_ground_33 (q := 34) rfl ?_
      exact w_G_ground_34 hC hA hR hM n r (f_G_ground_11 n q) ih x1 x2 (sJ (sJ S (4 + x1.toNatClampNeg) (vp_updL (gJ S (4 + x1.toNatClampNeg)) x2.toNatClampNeg (0 : Int64))) (4 + x2.toNatClampNeg) (vp_updL (gJ (sJ S (4 + x1.toNatClampNeg) (vp_updL (gJ S (4 + x1.toNatClampNeg)) x2.toNatClampNeg (0 : Int64))) (4 + x2.toNatClampNeg)) x1.toNatClampNeg (0 : Int64))) h
set_option maxRecDepth 20000 in
theorem w_G_ground {X : z_X} {A : Nat → Prop} {Ω : z_O} (hC : z_C X b_G_ground 4 "NodalAuction$Grid" Ω) (hA : z_hA X A) (hR : z_R X none) (hM : z_rmOf X = z_rm 2 48) (n : Nat) (r : Unit × z_S) (x1 : Int32) (S : z_S) (h : f_G_ground n x1 S = some r) : z_At X A (z_QV X Ω A (wN Ω r.2)) Ω 0 0 4 0 [(0, .ref (Ω.2.2 1)), (1, .int x1)] [] (wN Ω S) := by
  refine z_aload_n rfl 0 rfl hC d_G_ground_0 (q := 1) rfl ?_
  obtain ⟨v1, S1, hc1, h⟩ := bo_some h
  refine z_callVv (q0 := 1) (As := []) hC hA (c_G_weighNodes (z_lOf X) Ω n S (v1, S1) hc1) k_257 k_254 k_256 ks_10 k_2 h_G_weighNodes (by rw [hM]; exact ⟨Nat.le_of_ble_eq_true rfl, Nat.le_of_ble_eq_true rfl⟩) ⟨Nat.zero_le _, Nat.zero_le _⟩ rfl rfl rfl (Nat.le_of_ble_eq_true rfl) rfl d_G_ground_1 (q := 4) rfl ?_
  refine z_aload_n rfl 0 rfl hC d_G_ground_4 (q := 5) rfl ?_
  refine z_lconst (v := (0 : Int64)) (by decide) hC d_G_ground_5 (q := 6) rfl ?_
  refine pf_G_36_1 hC d_G_ground_6 (q := 9) rfl ?_
  refine z_iconst (v := (0 : Int32)) (by decide) hC d_G_ground_9 (q := 10) rfl ?_
  refine z_istore_n (lv' := [(2, .int (0 : Int32)), (0, .ref (Ω.2.2 1)), (1, .int x1)]) rfl (by decide) rfl hC d_G_ground_10 (q := 11) rfl ?_
  refine z_sub [1, 2, 0] rfl ?_
  exact w_G_ground_11 hC hA hR hM n r n x1 (0 : Int32) (sG S1 0 (0 : Int64)) h
theorem c_G_ground (l : Launch) (Ω : z_O) (n : Nat) (x1 : Int32) (S : z_S) (r : Unit × z_S) (h : f_G_ground n x1 S = some r) : z_MV l Ω y_G_ground b_G_ground 4 2 48 [.ref (Ω.2.2 1), .int x1] (wN Ω S) (wN Ω r.2) := z_introV (by decide +kernel) (Nat.le_of_ble_eq_true rfl) rfl (fun X A hC hA hR _ hM => w_G_ground hC hA hR hM n r x1 S h)
def f_G_share (n : Nat) (x1 : Int32) (x2 : Int32) (S : z_S) : Option (Int64 × z_S) := ck (vi x1 6) (ck (vi x1 6) (ck (vi (gI S 2 x1.toNatClampNeg) 4) (ck (vi x2 4) (ck (vi x1 6) (ck (vi (gI S 1 x1.toNatClampNeg) 4) (ck (vi x2 4) (some (((gI S 3 x1.toNatClampNeg).toInt64) * ((gJ S (4 + (gI S 2 x1.toNatClampNeg).toNatClampNeg) (x2.toNatClampNeg)) - (gJ S (4 + (gI S 1 x1.toNatClampNeg).toNatClampNeg) (x2.toNatClampNeg))), S))))))))
set_option maxRecDepth 20000 in
theorem w_G_share {X : z_X} {A : Nat → Prop} {Ω : z_O} (hC : z_C X b_G_share 3 "NodalAuction$Grid" Ω) (hA : z_hA X A) (hR : z_R X (some .long)) (hM : z_rmOf X = z_rm 0 0) (n : Nat) (r : Int64 × z_S) (x1 : Int32) (x2 : Int32) (S : z_S) (h : f_G_share n x1 x2 S = some r) : z_At X A (z_QL X Ω A r.1 (wN Ω r.2)) Ω 0 0 3 0 [(0, .ref (Ω.2.2 1)), (1, .int x1), (2, .int x2)] [] (wN Ω S) := by
  refine z_aload_n rfl 0 rfl hC d_G_share_0 (q := 1) rfl ?_
  refine gf_G_18_1 hC d_G_share_1 (q := 4) rfl ?_
  refine z_iload_n rfl 1 rfl hC d_G_share_4 (q := 5) rfl ?_
  obtain ⟨hv1, h⟩ := ck_some h
  refine al_wN_9 hC hv1 d_G_share_5 (q := 6) rfl ?_
  refine z_i2l hC d_G_share_6 (q := 7) rfl ?_
  refine z_aload_n rfl 0 rfl hC d_G_share_7 (q := 8) rfl ?_
  refine gf_G_33_1 hC d_G_share_8 (q := 11) rfl ?_
  refine z_aload_n rfl 0 rfl hC d_G_share_11 (q := 12) rfl ?_
  refine gf_G_15_1 hC d_G_share_12 (q := 15) rfl ?_
  refine z_iload_n rfl 1 rfl hC d_G_share_15 (q := 16) rfl ?_
  obtain ⟨hv2, h⟩ := ck_some h
  refine al_wN_8 hC hv2 d_G_share_16 (q := 17) rfl ?_
  obtain ⟨hv3, h⟩ := ck_some h
  refine ao_wN_12 hC hv3 d_G_share_17 (q := 18) rfl ?_
  refine z_iload_n rfl 2 rfl hC d_G_share_18 (q := 19) rfl ?_
  obtain ⟨hv4, h⟩ := ck_some h
  refine lr_34 hC hv3 hv4 d_G_share_19 (q := 20) rfl ?_
  refine z_aload_n rfl 0 rfl hC d_G_share_20 (q := 21) rfl ?_
  refine gf_G_33_1 hC d_G_share_21 (q := 24) rfl ?_
  refine z_aload_n rfl 0 rfl hC d_G_share_24 (q := 25) rfl ?_
  refine gf_G_9_1 hC d_G_share_25 (q := 28) rfl ?_
  refine z_iload_n rfl 1 rfl hC d_G_share_28 (q := 29) rfl ?_
  obtain ⟨hv5, h⟩ := ck_some h
  refine al_wN_7 hC hv5 d_G_share_29 (q := 30) rfl ?_
  obtain ⟨hv6, h⟩ := ck_some h
  refine ao_wN_12 hC hv6 d_G_share_30 (q := 31) rfl ?_
  refine z_iload_n rfl 2 rfl hC d_G_share_31 (q := 32) rfl ?_
  obtain ⟨hv7, h⟩ := ck_some h
  refine lr_34 hC hv6 hv7 d_G_share_32 (q := 33) rfl ?_
  refine z_lsub hC d_G_share_33 (q := 34) rfl ?_
  refine z_lmul hC d_G_share_34 (q := 35) rfl ?_
  cases h
  exact z_lret hC hR rfl rfl d_G_share_35
theorem c_G_share (l : Launch) (Ω : z_O) (n : Nat) (x1 : Int32) (x2 : Int32) (S : z_S) (r : Int64 × z_S) (h : f_G_share n x1 x2 S = some r) : z_ML l Ω y_G_share b_G_share 3 .long 0 0 [.ref (Ω.2.2 1), .int x1, .int x2] (wN Ω S) r.1 (wN Ω r.2) := z_introL (by decide +kernel) (Nat.le_of_ble_eq_true rfl) rfl (fun X A hC hA hR _ hM => w_G_share hC hA hR hM n r x1 x2 S h)
