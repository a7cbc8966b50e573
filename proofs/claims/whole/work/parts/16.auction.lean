def f_N_within_15 (n : Nat) (t0 : Int32) (S : z_S) : Option (Int32 × z_S) := ck (vz t0) (some (t0, S))
def f_N_within_14 (n : Nat) (S : z_S) : Option (Int32 × z_S) := f_N_within_15 n (0 : Int32) S
def f_N_within (n : Nat) (x0 : Int32) (x1 : Int32) (x2 : Int32) (S : z_S) : Option (Int32 × z_S) := (if x0 < x1 then f_N_within_14 n S else (if x2 < x0 then f_N_within_14 n S else f_N_within_15 n (1 : Int32) S))
set_option maxRecDepth 20000 in
theorem w_N_within_15 {X : z_X} {A : Nat → Prop} {Ω : z_O} (hC : z_C X b_N_within 3 "NodalAuction" Ω) (hA : z_hA X A) (hR : z_R X (some .boolean)) (hM : z_rmOf X = z_rm 0 0) (n : Nat) (r : Int32 × z_S) (t0 : Int32) (S : z_S) (h : f_N_within_15 n t0 S = some r) : z_At X A (z_QI X Ω A r.1 (wN Ω r.2)) Ω 0 0 3 15 [] [.int t0] (wN Ω S) := by
  obtain ⟨hv1, h⟩ := ck_some h
  cases h
  exact z_zret hC hR hv1 rfl rfl d_N_within_15
set_option maxRecDepth 20000 in
theorem w_N_within_14 {X : z_X} {A : Nat → Prop} {Ω : z_O} (hC : z_C X b_N_within 3 "NodalAuction" Ω) (hA : z_hA X A) (hR : z_R X (some .boolean)) (hM : z_rmOf X = z_rm 0 0) (n : Nat) (r : Int32 × z_S) (S : z_S) (h : f_N_within_14 n S = some r) : z_At X A (z_QI X Ω A r.1 (wN Ω r.2)) Ω 0 0 3 14 [] [] (wN Ω S) := by
  refine z_iconst (v := (0 : Int32)) (by decide) hC d_N_within_14 (q := 15) rfl ?_
  exact w_N_within_15 hC hA hR hM n r (0 : Int32) S h
set_option maxRecDepth 20000 in
theorem w_N_within {X : z_X} {A : Nat → Prop} {Ω : z_O} (hC : z_C X b_N_within 3 "NodalAuction" Ω) (hA : z_hA X A) (hR : z_R X (some .boolean)) (hM : z_rmOf X = z_rm 0 0) (n : Nat) (r : Int32 × z_S) (x0 : Int32) (x1 : Int32) (x2 : Int32) (S : z_S) (h : f_N_within n x0 x1 x2 S = some r) : z_At X A (z_QI X Ω A r.1 (wN Ω r.2)) Ω 0 0 3 0 [(0, .int x0), (1, .int x1), (2, .int x2)] [] (wN Ω S) := by
  refine z_iload_n rfl 0 rfl hC d_N_within_0 (q := 1) rfl ?_
  refine z_iload_n rfl 1 rfl hC d_N_within_1 (q := 2) rfl ?_
  refine z_icmp_lt (tgt := 14) (q := 5) hC d_N_within_2 rfl rfl (fun hb => ?_) (fun hb => ?_)
  · have h := (if_pos hb).symm.trans h
    refine z_sub [] rfl ?_
    exact w_N_within_14 hC hA hR hM n r S h
  · have h := (if_neg hb).symm.trans h
    refine z_iload_n rfl 0 rfl hC d_N_within_5 (q := 6) rfl ?_
    refine z_iload_n rfl 2 rfl hC d_N_within_6 (q := 7) rfl ?_
    refine z_icmp_gt (tgt := 14) (q := 10) hC d_N_within_7 rfl rfl (fun hb => ?_) (fun hb => ?_)
    · have h := (if_pos hb).symm.trans h
      refine z_sub [] rfl ?_
      exact w_N_within_14 hC hA hR hM n r S h
    · have h := (if_neg hb).symm.trans h
      refine z_iconst (v := (1 : Int32)) (by decide) hC d_N_within_10 (q := 11) rfl ?_
      refine z_goto (tgt := 15) hC d_N_within_11 rfl ?_
      refine z_sub [] rfl ?_
      exact w_N_within_15 hC hA hR hM n r (1 : Int32) S h
theorem c_N_within (l : Launch) (Ω : z_O) (n : Nat) (x0 : Int32) (x1 : Int32) (x2 : Int32) (S : z_S) (r : Int32 × z_S) (h : f_N_within n x0 x1 x2 S = some r) : z_MI l Ω y_N_within b_N_within 3 .boolean 0 0 [.int x0, .int x1, .int x2] (wN Ω S) r.1 (wN Ω r.2) := z_introI (by decide +kernel) (Nat.le_of_ble_eq_true rfl) rfl (fun X A hC hA hR _ hM => w_N_within hC hA hR hM n r x0 x1 x2 S h)
def f_N_isNode (n : Nat) (x0 : Int32) (S : z_S) : Option (Int32 × z_S) := bo (f_N_within n x0 (0 : Int32) (3 : Int32) S) (fun v3 S3 => ck (vz v3) (some (v3, S3)))
set_option maxRecDepth 20000 in
theorem w_N_isNode {X : z_X} {A : Nat → Prop} {Ω : z_O} (hC : z_C X b_N_isNode 1 "NodalAuction" Ω) (hA : z_hA X A) (hR : z_R X (some .boolean)) (hM : z_rmOf X = z_rm 1 22) (n : Nat) (r : Int32 × z_S) (x0 : Int32) (S : z_S) (h : f_N_isNode n x0 S = some r) : z_At X A (z_QI X Ω A r.1 (wN Ω r.2)) Ω 0 0 1 0 [(0, .int x0)] [] (wN Ω S) := by
  refine z_iload_n rfl 0 rfl hC d_N_isNode_0 (q := 1) rfl ?_
  refine z_iconst (v := (0 : Int32)) (by decide) hC d_N_isNode_1 (q := 2) rfl ?_
  refine z_iconst (v := (3 : Int32)) (by decide) hC d_N_isNode_2 (q := 3) rfl ?_
  obtain ⟨v3, S3, hc3, h⟩ := bo_some h
  refine z_callSi (As := [.int x0, .int (0 : Int32), .int (3 : Int32)]) hC hA (c_N_within (z_lOf X) Ω n x0 (0 : Int32) (3 : Int32) S (v3, S3) hc3) k_186 k_184 k_185 k_1 h_N_within (by rw [hM]; exact ⟨Nat.le_of_ble_eq_true rfl, Nat.le_of_ble_eq_true rfl⟩) ⟨Nat.zero_le _, Nat.zero_le _⟩ rfl (Nat.le_of_ble_eq_true rfl) rfl d_N_isNode_3 (q := 6) rfl ?_
  obtain ⟨hv1, h⟩ := ck_some h
  cases h
  exact z_zret hC hR hv1 rfl rfl d_N_isNode_6
theorem c_N_isNode (l : Launch) (Ω : z_O) (n : Nat) (x0 : Int32) (S : z_S) (r : Int32 × z_S) (h : f_N_isNode n x0 S = some r) : z_MI l Ω y_N_isNode b_N_isNode 1 .boolean 1 22 [.int x0] (wN Ω S) r.1 (wN Ω r.2) := z_introI (by decide +kernel) (Nat.le_of_ble_eq_true rfl) rfl (fun X A hC hA hR _ hM => w_N_isNode hC hA hR hM n r x0 S h)
def f_N_addStep_30 (n : Nat) (S : z_S) : Option (Int32 × z_S) := some ((-2147483648 : Int32), S)
def f_N_addStep (n : Nat) (x1 : Int32) (x2 : Int32) (x3 : Int32) (x4 : Int32) (S : z_S) : Option (Int32 × z_S) := bo (f_N_isNode n x2 S) (fun v1 S1 => (if v1 = 0 then f_N_addStep_30 n S1 else bo (f_N_within n x3 (0 : Int32) (1000 : Int32) S1) (fun v12 S12 => (if v12 = 0 then f_N_addStep_30 n S12 else bo (f_N_within n x4 (1 : Int32) (1000 : Int32) S12) (fun v24 S24 => (if v24 = 0 then f_N_addStep_30 n S24 else (if (gF S24 1) < (8 : Int32) then bo (f_B_add n x1 x2 x3 x4 (sF S24 5 (0 : Int32))) (fun v65 S65 => some (v65, S65)) else some ((-2147483648 : Int32), S24))))))))
set_option maxRecDepth 20000 in
theorem w_N_addStep_30 {X : z_X} {A : Nat → Prop} {Ω : z_O} (hC : z_C X b_N_addStep 5 "NodalAuction" Ω) (hA : z_hA X A) (hR : z_R X (some .int)) (hM : z_rmOf X = z_rm 2 42) (n : Nat) (r : Int32 × z_S) (S : z_S) (h : f_N_addStep_30 n S = some r) : z_At X A (z_QI X Ω A r.1 (wN Ω r.2)) Ω 0 0 5 30 [(0, .ref (Ω.2.2 0))] [] (wN Ω S) := by
  refine z_ldc (v := (-2147483648 : Int32)) k_191 hC d_N_addStep_30 (q := 32) rfl ?_
  cases h
  exact z_iret hC hR rfl rfl d_N_addStep_32
set_option maxRecDepth 20000 in
theorem w_N_addStep {X : z_X} {A : Nat → Prop} {Ω : z_O} (hC : z_C X b_N_addStep 5 "NodalAuction" Ω) (hA : z_hA X A) (hR : z_R X (some .int)) (hM : z_rmOf X = z_rm 2 42) (n : Nat) (r : Int32 × z_S) (x1 : Int32) (x2 : Int32) (x3 : Int32) (x4 : Int32) (S : z_S) (h : f_N_addStep n x1 x2 x3 x4 S = some r) : z_At X A (z_QI X Ω A r.1 (wN Ω r.2)) Ω 0 0 5 0 [(0, .ref (Ω.2.2 0)), (1, .int x1), (2, .int x2), (3, .int x3), (4, .int x4)] [] (wN Ω S) := by
  refine z_iload_n rfl 2 rfl hC d_N_addStep_0 (q := 1) rfl ?_
  obtain ⟨v1, S1, hc1, h⟩ := bo_some h
  refine z_callSi (As := [.int x2]) hC hA (c_N_isNode (z_lOf X) Ω n x2 S (v1, S1) hc1) k_183 k_181 k_182 k_1 h_N_isNode (by rw [hM]; exact ⟨Nat.le_of_ble_eq_true rfl, Nat.le_of_ble_eq_true rfl⟩) ⟨Nat.zero_le _, Nat.zero_le _⟩ rfl (Nat.le_of_ble_eq_true rfl) rfl d_N_addStep_1 (q := 4) rfl ?_
  refine z_if_eq (tgt := 30) (q := 7) hC d_N_addStep_4 rfl rfl (fun hb => ?_) (fun hb => ?_)
  · have h := (if_pos hb).symm.trans h
    refine z_sub [0] rfl ?_
    exact w_N_addStep_30 hC hA hR hM n r S1 h
  · have h := (if_neg hb).symm.trans h
    refine z_iload_n rfl 3 rfl hC d_N_addStep_7 (q := 8) rfl ?_
    refine z_iconst (v := (0 : Int32)) (by decide) hC d_N_addStep_8 (q := 9) rfl ?_
    refine z_sipush (v := (1000 : Int32)) (by decide) hC d_N_addStep_9 (q := 12) rfl ?_
    obtain ⟨v12, S12, hc12, h⟩ := bo_some h
    refine z_callSi (As := [.int x3, .int (0 : Int32), .int (1000 : Int32)]) hC hA (c_N_within (z_lOf X) Ω n x3 (0 : Int32) (1000 : Int32) S1 (v12, S12) hc12) k_186 k_184 k_185 k_1 h_N_within (by rw [hM]; exact ⟨Nat.le_of_ble_eq_true rfl, Nat.le_of_ble_eq_true rfl⟩) ⟨Nat.zero_le _, Nat.zero_le _⟩ rfl (Nat.le_of_ble_eq_true rfl) rfl d_N_addStep_12 (q := 15) rfl ?_
    refine z_if_eq (tgt := 30) (q := 18) hC d_N_addStep_15 rfl rfl (fun hb => ?_) (fun hb => ?_)
    · have h := (if_pos hb).symm.trans h
      refine z_sub [0] rfl ?_
      exact w_N_addStep_30 hC hA hR hM n r S12 h
    · have h := (if_neg hb).symm.trans h
      refine z_iload 4 rfl hC d_N_addStep_18 (q := 20) rfl ?_
      refine z_iconst (v := (1 : Int32)) (by decide) hC d_N_addStep_20 (q := 21) rfl ?_
      refine z_sipush (v := (1000 : Int32)) (by decide) hC d_N_addStep_21 (q := 24) rfl ?_
      obtain ⟨v24, S24, hc24, h⟩ := bo_some h
      refine z_callSi (As := [.int x4, .int (1 : Int32), .int (1000 : Int32)]) hC hA (c_N_within (z_lOf X) Ω n x4 (1 : Int32) (1000 : Int32) S12 (v24, S24) hc24) k_186 k_184 k_185 k_1 h_N_within (by rw [hM]; exact ⟨Nat.le_of_ble_eq_true rfl, Nat.le_of_ble_eq_true rfl⟩) ⟨Nat.zero_le _, Nat.zero_le _⟩ rfl (Nat.le_of_ble_eq_true rfl) rfl d_N_addStep_24 (q := 27) rfl ?_
      refine z_if_ne (tgt := 33) (q := 30) hC d_N_addStep_27 rfl rfl (fun hb => ?_) (fun hb => ?_)
      · have h := (if_neg hb).symm.trans h
        refine z_aload_n rfl 0 rfl hC d_N_addStep_33 (q := 34) rfl ?_
        refine gf_N_19_0 hC d_N_addStep_34 (q := 37) rfl ?_
        refine gf_N_91_2 hC d_N_addStep_37 (q := 40) rfl ?_
        refine z_bipush (v := (8 : Int32)) (by decide) hC d_N_addStep_40 (q := 42) rfl ?_
        refine z_icmp_lt (tgt := 48) (q := 45) hC d_N_addStep_42 rfl rfl (fun hb => ?_) (fun hb => ?_)
        · have h := (if_pos hb).symm.trans h
          refine z_aload_n rfl 0 rfl hC d_N_addStep_48 (q := 49) rfl ?_
          refine gf_N_36_0 hC d_N_addStep_49 (q := 52) rfl ?_
          refine z_iconst (v := (0 : Int32)) (by decide) hC d_N_addStep_52 (q := 53) rfl ?_
          refine pf_N_61_5 (by decide) hC d_N_addStep_53 (q := 56) rfl ?_
          refine z_aload_n rfl 0 rfl hC d_N_addStep_56 (q := 57) rfl ?_
          refine gf_N_19_0 hC d_N_addStep_57 (q := 60) rfl ?_
          refine z_iload_n rfl 1 rfl hC d_N_addStep_60 (q := 61) rfl ?_
          refine z_iload_n rfl 2 rfl hC d_N_addStep_61 (q := 62) rfl ?_
          refine z_iload_n rfl 3 rfl hC d_N_addStep_62 (q := 63) rfl ?_
          refine z_iload 4 rfl hC d_N_addStep_63 (q := 65) rfl ?_
          obtain ⟨v65, S65, hc65, h⟩ := bo_some h
          refine z_callVNi (q0 := 2) (As := [.int x1, .int x2, .int x3, .int x4]) hC hA (c_B_add (z_lOf X) Ω n x1 x2 x3 x4 (sF S24 5 (0 : Int32)) (v65, S65) hc65) k_224 k_221 k_223 ks_5 k_3 h_B_add (by rw [hM]; exact ⟨Nat.le_of_ble_eq_true rfl, Nat.le_of_ble_eq_true rfl⟩) ⟨Nat.zero_le _, Nat.zero_le _⟩ rfl rfl rfl (Nat.le_of_ble_eq_true rfl) rfl d_N_addStep_65 (q := 68) rfl ?_
          cases h
          exact z_iret hC hR rfl rfl d_N_addStep_68
        · have h := (if_neg hb).symm.trans h
          refine z_ldc (v := (-2147483648 : Int32)) k_191 hC d_N_addStep_45 (q := 47) rfl ?_
          cases h
          exact z_iret hC hR rfl rfl d_N_addStep_47
      · have h := (if_pos hb).symm.trans h
        refine z_sub [0] rfl ?_
        exact w_N_addStep_30 hC hA hR hM n r S24 h
theorem c_N_addStep (l : Launch) (Ω : z_O) (n : Nat) (x1 : Int32) (x2 : Int32) (x3 : Int32) (x4 : Int32) (S : z_S) (r : Int32 × z_S) (h : f_N_addStep n x1 x2 x3 x4 S = some r) : z_MI l Ω y_N_addStep b_N_addStep 5 .int 2 42 [.ref (Ω.2.2 0), .int x1, .int x2, .int x3, .int x4] (wN Ω S) r.1 (wN Ω r.2) := z_introI (by decide +kernel) (Nat.le_of_ble_eq_true rfl) rfl (fun X A hC hA hR _ hM => w_N_addStep hC hA hR hM n r x1 x2 x3 x4 S h)
def f_N_addOneAt_37 (n : Nat) (S : z_S) : Option (Int32 × z_S) := some ((0 : Int32), S)
def f_N_addOneAt (n : Nat) (x1 : Int32) (S : z_S) : Option (Int32 × z_S) := (if (gF S 5) = 0 then f_N_addOneAt_37 n S else bo (f_N_isNode n x1 S) (fun v11 S11 => (if v11 = 0 then f_N_addOneAt_37 n S11 else bo (f_P_load n x1 (1 : Int32) S11) (fun v31 S31 => (if v31 = 0 then f_N_addOneAt_37 n S31 else bo (f_P_maximise n (8 : Int32) S31) (fun _ S45 => bo (f_P_top n (8 : Int32) S45) (fun v54 S54 => (if v54 = (gG S54 1) then bo (f_P_maximise n (15 : Int32) S54) (fun _ S76 => some ((1 : Int32), S76)) else some ((0 : Int32), S54)))))))))
set_option maxRecDepth 20000 in
theorem w_N_addOneAt_37 {X : z_X} {A : Nat → Prop} {Ω : z_O} (hC : z_C X b_N_addOneAt 2 "NodalAuction" Ω) (hA : z_hA X A) (hR : z_R X (some .boolean)) (hM : z_rmOf X = z_rm 4 119) (n : Nat) (r : Int32 × z_S) (S : z_S) (h : f_N_addOneAt_37 n S = some r) : z_At X A (z_QI X Ω A r.1 (wN Ω r.2)) Ω 0 0 2 37 [(0, .ref (Ω.2.2 0))] [] (wN Ω S) := by
  refine z_iconst (v := (0 : Int32)) (by decide) hC d_N_addOneAt_37 (q := 38) rfl ?_
  cases h
  exact z_zret hC hR (by decide) rfl rfl d_N_addOneAt_38
set_option maxRecDepth 20000 in
theorem w_N_addOneAt {X : z_X} {A : Nat → Prop} {Ω : z_O} (hC : z_C X b_N_addOneAt 2 "NodalAuction" Ω) (hA : z_hA X A) (hR : z_R X (some .boolean)) (hM : z_rmOf X = z_rm 4 119) (n : Nat) (r : Int32 × z_S) (x1 : Int32) (S : z_S) (h : f_N_addOneAt n x1 S = some r) : z_At X A (z_QI X Ω A r.1 (wN Ω r.2)) Ω 0 0 2 0 [(0, .ref (Ω.2.2 0)), (1, .int x1)] [] (wN Ω S) := by
  refine z_aload_n rfl 0 rfl hC d_N_addOneAt_0 (q := 1) rfl ?_
  refine gf_N_36_0 hC d_N_addOneAt_1 (q := 4) rfl ?_
  refine gf_N_61_5 hC d_N_addOneAt_4 (q := 7) rfl ?_
  refine z_if_eq (tgt := 37) (q := 10) hC d_N_addOneAt_7 rfl rfl (fun hb => ?_) (fun hb => ?_)
  · have h := (if_pos hb).symm.trans h
    refine z_sub [0] rfl ?_
    exact w_N_addOneAt_37 hC hA hR hM n r S h
  · have h := (if_neg hb).symm.trans h
    refine z_iload_n rfl 1 rfl hC d_N_addOneAt_10 (q := 11) rfl ?_
    obtain ⟨v11, S11, hc11, h⟩ := bo_some h
    refine z_callSi (As := [.int x1]) hC hA (c_N_isNode (z_lOf X) Ω n x1 S (v11, S11) hc11) k_183 k_181 k_182 k_1 h_N_isNode (by rw [hM]; exact ⟨Nat.le_of_ble_eq_true rfl, Nat.le_of_ble_eq_true rfl⟩) ⟨Nat.zero_le _, Nat.zero_le _⟩ rfl (Nat.le_of_ble_eq_true rfl) rfl d_N_addOneAt_11 (q := 14) rfl ?_
    refine z_if_eq (tgt := 37) (q := 17) hC d_N_addOneAt_14 rfl rfl (fun hb => ?_) (fun hb => ?_)
    · have h := (if_pos hb).symm.trans h
      refine z_sub [0] rfl ?_
      exact w_N_addOneAt_37 hC hA hR hM n r S11 h
    · have h := (if_neg hb).symm.trans h
      refine z_aload_n rfl 0 rfl hC d_N_addOneAt_17 (q := 18) rfl ?_
      refine gf_N_29_0 hC d_N_addOneAt_18 (q := 21) rfl ?_
      refine z_aload_n rfl 0 rfl hC d_N_addOneAt_21 (q := 22) rfl ?_
      refine gf_N_12_0 hC d_N_addOneAt_22 (q := 25) rfl ?_
      refine z_aload_n rfl 0 rfl hC d_N_addOneAt_25 (q := 26) rfl ?_
      refine gf_N_19_0 hC d_N_addOneAt_26 (q := 29) rfl ?_
      refine z_iload_n rfl 1 rfl hC d_N_addOneAt_29 (q := 30) rfl ?_
      refine z_iconst (v := (1 : Int32)) (by decide) hC d_N_addOneAt_30 (q := 31) rfl ?_
      obtain ⟨v31, S31, hc31, h⟩ := bo_some h
      refine z_callVNi (q0 := 4) (As := [.ref (Ω.2.2 1), .ref (Ω.2.2 2), .int x1, .int (1 : Int32)]) hC hA (c_P_load (z_lOf X) Ω n x1 (1 : Int32) S11 (v31, S31) hc31) k_249 k_246 k_248 ks_8 k_4 h_P_load (by rw [hM]; exact ⟨Nat.le_of_ble_eq_true rfl, Nat.le_of_ble_eq_true rfl⟩) ⟨Nat.zero_le _, Nat.zero_le _⟩ rfl rfl rfl (Nat.le_of_ble_eq_true rfl) rfl d_N_addOneAt_31 (q := 34) rfl ?_
      refine z_if_ne (tgt := 39) (q := 37) hC d_N_addOneAt_34 rfl rfl (fun hb => ?_) (fun hb => ?_)
      · have h := (if_neg hb).symm.trans h
        refine z_aload_n rfl 0 rfl hC d_N_addOneAt_39 (q := 40) rfl ?_
        refine gf_N_29_0 hC d_N_addOneAt_40 (q := 43) rfl ?_
        refine z_bipush (v := (8 : Int32)) (by decide) hC d_N_addOneAt_43 (q := 45) rfl ?_
        obtain ⟨v45, S45, hc45, h⟩ := bo_some h
        refine z_callVNv (q0 := 4) (As := [.int (8 : Int32)]) hC hA (c_P_maximise (z_lOf X) Ω n (8 : Int32) S31 (v45, S45) hc45) k_280 k_277 k_279 ks_15 k_4 h_P_maximise (by rw [hM]; exact ⟨Nat.le_of_ble_eq_true rfl, Nat.le_of_ble_eq_true rfl⟩) ⟨Nat.zero_le _, Nat.zero_le _⟩ rfl rfl rfl (Nat.le_of_ble_eq_true rfl) rfl d_N_addOneAt_45 (q := 48) rfl ?_
        refine z_aload_n rfl 0 rfl hC d_N_addOneAt_48 (q := 49) rfl ?_
        refine gf_N_29_0 hC d_N_addOneAt_49 (q := 52) rfl ?_
        refine z_bipush (v := (8 : Int32)) (by decide) hC d_N_addOneAt_52 (q := 54) rfl ?_
        obtain ⟨v54, S54, hc54, h⟩ := bo_some h
        refine z_callVNl (q0 := 4) (As := [.int (8 : Int32)]) hC hA (c_P_top (z_lOf X) Ω n (8 : Int32) S45 (v54, S54) hc54) k_329 k_378 k_328 ks_26 k_4 h_P_top (by rw [hM]; exact ⟨Nat.le_of_ble_eq_true rfl, Nat.le_of_ble_eq_true rfl⟩) ⟨Nat.zero_le _, Nat.zero_le _⟩ rfl rfl rfl (Nat.le_of_ble_eq_true rfl) rfl d_N_addOneAt_54 (q := 57) rfl ?_
        refine z_aload_n rfl 0 rfl hC d_N_addOneAt_57 (q := 58) rfl ?_
        refine gf_N_29_0 hC d_N_addOneAt_58 (q := 61) rfl ?_
        refine gf_N_159_4 hC d_N_addOneAt_61 (q := 64) rfl ?_
        refine z_lcmp_eq (pc1 := 65) (tgt := 70) (q := 68) hC d_N_addOneAt_64 rfl d_N_addOneAt_65 rfl rfl (fun hb => ?_) (fun hb => ?_)
        · have h := (if_pos hb).symm.trans h
          refine z_aload_n rfl 0 rfl hC d_N_addOneAt_70 (q := 71) rfl ?_
          refine gf_N_29_0 hC d_N_addOneAt_71 (q := 74) rfl ?_
          refine z_bipush (v := (15 : Int32)) (by decide) hC d_N_addOneAt_74 (q := 76) rfl ?_
          obtain ⟨v76, S76, hc76, h⟩ := bo_some h
          refine z_callVNv (q0 := 4) (As := [.int (15 : Int32)]) hC hA (c_P_maximise (z_lOf X) Ω n (15 : Int32) S54 (v76, S76) hc76) k_280 k_277 k_279 ks_15 k_4 h_P_maximise (by rw [hM]; exact ⟨Nat.le_of_ble_eq_true rfl, Nat.le_of_ble_eq_true rfl⟩) ⟨Nat.zero_le _, Nat.zero_le _⟩ rfl rfl rfl (Nat.le_of_ble_eq_true rfl) rfl d_N_addOneAt_76 (q := 79) rfl ?_
          refine z_iconst (v := (1 : Int32)) (by decide) hC d_N_addOneAt_79 (q := 80) rfl ?_
          cases h
          exact z_zret hC hR (by decide) rfl rfl d_N_addOneAt_80
        · have h := (if_neg hb).symm.trans h
          refine z_iconst (v := (0 : Int32)) (by decide) hC d_N_addOneAt_68 (q := 69) rfl ?_
          cases h
          exact z_zret hC hR (by decide) rfl rfl d_N_addOneAt_69
      · have h := (if_pos hb).symm.trans h
        refine z_sub [0] rfl ?_
        exact w_N_addOneAt_37 hC hA hR hM n r S31 h
theorem c_N_addOneAt (l : Launch) (Ω : z_O) (n : Nat) (x1 : Int32) (S : z_S) (r : Int32 × z_S) (h : f_N_addOneAt n x1 S = some r) : z_MI l Ω y_N_addOneAt b_N_addOneAt 2 .boolean 4 119 [.ref (Ω.2.2 0), .int x1] (wN Ω S) r.1 (wN Ω r.2) := z_introI (by decide +kernel) (Nat.le_of_ble_eq_true rfl) rfl (fun X A hC hA hR _ hM => w_N_addOneAt hC hA hR hM n r x1 S h)
def f_N_costTop (n : Nat) (S : z_S) : Option (Int64 × z_S) := bo (f_P_top n (15 : Int32) S) (fun v21 S21 => some (((gG S 2) * (gG S 1)) - (v21 * ((gF S21 6).toInt64)), S21))
set_option maxRecDepth 20000 in
theorem w_N_costTop {X : z_X} {A : Nat → Prop} {Ω : z_O} (hC : z_C X b_N_costTop 1 "NodalAuction" Ω) (hA : z_hA X A) (hR : z_R X (some .long)) (hM : z_rmOf X = z_rm 2 46) (n : Nat) (r : Int64 × z_S) (S : z_S) (h : f_N_costTop n S = some r) : z_At X A (z_QL X Ω A r.1 (wN Ω r.2)) Ω 0 0 1 0 [(0, .ref (Ω.2.2 0))] [] (wN Ω S) := by
  refine z_aload_n rfl 0 rfl hC d_N_costTop_0 (q := 1) rfl ?_
  refine gf_N_36_0 hC d_N_costTop_1 (q := 4) rfl ?_
  refine gf_N_114_5 hC d_N_costTop_4 (q := 7) rfl ?_
  refine z_aload_n rfl 0 rfl hC d_N_costTop_7 (q := 8) rfl ?_
  refine gf_N_29_0 hC d_N_costTop_8 (q := 11) rfl ?_
  refine gf_N_159_4 hC d_N_costTop_11 (q := 14) rfl ?_
  refine z_lmul hC d_N_costTop_14 (q := 15) rfl ?_
  refine z_aload_n rfl 0 rfl hC d_N_costTop_15 (q := 16) rfl ?_
  refine gf_N_29_0 hC d_N_costTop_16 (q := 19) rfl ?_
  refine z_bipush (v := (15 : Int32)) (by decide) hC d_N_costTop_19 (q := 21) rfl ?_
  obtain ⟨v21, S21, hc21, h⟩ := bo_some h
  refine z_callVNl (q0 := 4) (As := [.int (15 : Int32)]) hC hA (c_P_top (z_lOf X) Ω n (15 : Int32) S (v21, S21) hc21) k_329 k_378 k_328 ks_26 k_4 h_P_top (by rw [hM]; exact ⟨Nat.le_of_ble_eq_true rfl, Nat.le_of_ble_eq_true rfl⟩) ⟨Nat.zero_le _, Nat.zero_le _⟩ rfl rfl rfl (Nat.le_of_ble_eq_true rfl) rfl d_N_costTop_21 (q := 24) rfl ?_
  refine z_aload_n rfl 0 rfl hC d_N_costTop_24 (q := 25) rfl ?_
  refine gf_N_36_0 hC d_N_costTop_25 (q := 28) rfl ?_
  refine gf_N_100_5 hC d_N_costTop_28 (q := 31) rfl ?_
  refine z_i2l hC d_N_costTop_31 (q := 32) rfl ?_
  refine z_lmul hC d_N_costTop_32 (q := 33) rfl ?_
  refine z_lsub hC d_N_costTop_33 (q := 34) rfl ?_
  cases h
  exact z_lret hC hR rfl rfl d_N_costTop_34
theorem c_N_costTop (l : Launch) (Ω : z_O) (n : Nat) (S : z_S) (r : Int64 × z_S) (h : f_N_costTop n S = some r) : z_ML l Ω y_N_costTop b_N_costTop 1 .long 2 46 [.ref (Ω.2.2 0)] (wN Ω S) r.1 (wN Ω r.2) := z_introL (by decide +kernel) (Nat.le_of_ble_eq_true rfl) rfl (fun X A hC hA hR _ hM => w_N_costTop hC hA hR hM n r S h)
def f_N_costBottom (n : Nat) (S : z_S) : Option (Int64 × z_S) := some ((gG S 1) * ((gF S 6).toInt64), S)
set_option maxRecDepth 20000 in
theorem w_N_costBottom {X : z_X} {A : Nat → Prop} {Ω : z_O} (hC : z_C X b_N_costBottom 1 "NodalAuction" Ω) (hA : z_hA X A) (hR : z_R X (some .long)) (hM : z_rmOf X = z_rm 0 0) (n : Nat) (r : Int64 × z_S) (S : z_S) (h : f_N_costBottom n S = some r) : z_At X A (z_QL X Ω A r.1 (wN Ω r.2)) Ω 0 0 1 0 [(0, .ref (Ω.2.2 0))] [] (wN Ω S) := by
  refine z_aload_n rfl 0 rfl hC d_N_costBottom_0 (q := 1) rfl ?_
  refine gf_N_29_0 hC d_N_costBottom_1 (q := 4) rfl ?_
  refine gf_N_159_4 hC d_N_costBottom_4 (q := 7) rfl ?_
  refine z_aload_n rfl 0 rfl hC d_N_costBottom_7 (q := 8) rfl ?_
  refine gf_N_36_0 hC d_N_costBottom_8 (q := 11) rfl ?_
  refine gf_N_100_5 hC d_N_costBottom_11 (q := 14) rfl ?_
  refine z_i2l hC d_N_costBottom_14 (q := 15) rfl ?_
  refine z_lmul hC d_N_costBottom_15 (q := 16) rfl ?_
  cases h
  exact z_lret hC hR rfl rfl d_N_costBottom_16
theorem c_N_costBottom (l : Launch) (Ω : z_O) (n : Nat) (S : z_S) (r : Int64 × z_S) (h : f_N_costBottom n S = some r) : z_ML l Ω y_N_costBottom b_N_costBottom 1 .long 0 0 [.ref (Ω.2.2 0)] (wN Ω S) r.1 (wN Ω r.2) := z_introL (by decide +kernel) (Nat.le_of_ble_eq_true rfl) rfl (fun X A hC hA hR _ hM => w_N_costBottom hC hA hR hM n r S h)
def f_N_takePrices_32 (n : Nat) : Nat → Int32 → z_S → Option (Int32 × z_S)
  | 0, _, _ => none
  | q + 1, x5, S => (if (4 : Int32) ≤ x5 then some ((1 : Int32), S) else ck (vi x5 4) (bo (f_N_within n (gI S 0 x5.toNatClampNeg) (-2000 : Int32) (2000 : Int32) S) (fun v51 S51 => (if v51 = 0 then some ((0 : Int32), S51) else f_N_takePrices_32 n q (x5 + (1 : Int32)) S51))))
def f_N_takePrices_29 (n : Nat) (S : z_S) : Option (Int32 × z_S) := f_N_takePrices_32 n n (0 : Int32) S
def f_N_takePrices_14 (n : Nat) (x3 : Int32) (x4 : Int32) (S : z_S) : Option (Int32 × z_S) := f_N_takePrices_29 n (sI (sI S 0 (upd (gI S 0) ((2 : Int32).toNatClampNeg) x3)) 0 (upd (gI (sI S 0 (upd (gI S 0) ((2 : Int32).toNatClampNeg) x3)) 0) ((3 : Int32).toNatClampNeg) x4))
def f_N_takePrices (n : Nat) (x1 : Int32) (x2 : Int32) (x3 : Int32) (x4 : Int32) (S : z_S) : Option (Int32 × z_S) := f_N_takePrices_14 n x3 x4 (sI (sI S 0 (upd (gI S 0) ((0 : Int32).toNatClampNeg) x1)) 0 (upd (gI (sI S 0 (upd (gI S 0) ((0 : Int32).toNatClampNeg) x1)) 0) ((1 : Int32).toNatClampNeg) x2))
set_option maxRecDepth 20000 in
theorem w_N_takePrices_32 {X : z_X} {A : Nat → Prop} {Ω : z_O} (hC : z_C X b_N_takePrices 6 "NodalAuction" Ω) (hA : z_hA X A) (hR : z_R X (some .boolean)) (hM : z_rmOf X = z_rm 1 22) (n : Nat) (r : Int32 × z_S) : ∀ (q : Nat) (x5 : Int32) (S : z_S), f_N_takePrices_32 n q x5 S = some r → z_At X A (z_QI X Ω A r.1 (wN Ω r.2)) Ω 0 0 6 32 [(0, .ref (Ω.2.2 0)), (5, .int x5)] [] (wN Ω S) := by
  intro q
  induction q with
  | zero => intro x5 S h; cases h
  | succ q ih =>
    intro x5 S h
    refine z_iload 1 rfl hC d_N_takePrices_32 (q := 34) rfl ?_
    refine z_iconst (v := (4 : Int32)) (by decide) hC d_N_takePrices_34 (q := 35) rfl ?_
    refine z_icmp_ge (tgt := 65) (q := 38) hC d_N_takePrices_35 rfl rfl (fun hb => ?_) (fun hb => ?_)
    · have h := (if_pos hb).symm.trans h
      refine z_iconst (v := (1 : Int32)) (by decide) hC d_N_takePrices_65 (q := 66) rfl ?_
      cases h
      exact z_zret hC hR (by decide) rfl rfl d_N_takePrices_66
    · have h := (if_neg hb).symm.trans h
      refine z_aload_n rfl 0 rfl hC d_N_takePrices_38 (q := 39) rfl ?_
      refine gf_N_40_0 hC d_N_takePrices_39 (q := 42) rfl ?_
      refine z_iload 1 rfl hC d_N_takePrices_42 (q := 44) rfl ?_
      obtain ⟨hv1, h⟩ := ck_some h
      refine al_wN_6 hC hv1 d_N_takePrices_44 (q := 45) rfl ?_
      refine z_sipush (v := (-2000 : Int32)) (by decide) hC d_N_takePrices_45 (q := 48) rfl ?_
      refine z_sipush (v := (2000 : Int32)) (by decide) hC d_N_takePrices_48 (q := 51) rfl ?_
      obtain ⟨v51, S51, hc51, h⟩ := bo_some h
      refine z_callSi (As := [.int (gI S 0 x5.toNatClampNeg), .int (-2000 : Int32), .int (2000 : Int32)]) hC hA (c_N_within (z_lOf X) Ω n (gI S 0 x5.toNatClampNeg) (-2000 : Int32) (2000 : Int32) S (v51, S51) hc51) k_186 k_184 k_185 k_1 h_N_within (by rw [hM]; exact ⟨Nat.le_of_ble_eq_true rfl, Nat.le_of_ble_eq_true rfl⟩) ⟨Nat.zero_le _, Nat.zero_le _⟩ rfl (Nat.le_of_ble_eq_true rfl) rfl d_N_takePrices_51 (q := 54) rfl ?_
      refine z_if_ne (tgt := 59) (q := 57) hC d_N_takePrices_54 rfl rfl (fun hb => ?_) (fun hb => ?_)
      · have h := (if_neg hb).symm.trans h
        refine z_iinc (lv' := [(5, .int (x5 + (1 : Int32))), (0, .ref (Ω.2.2 0))]) 1 rfl rfl (by decide) rfl hC d_N_takePrices_59 (q := 62) rfl ?_
        refine z_goto (tgt := 32) hC d_N_takePrices_62 rfl ?_
        refine z_sub [1, 0] rfl ?_
        exact ih (x5 + (1 : Int32)) S51 h
      · have h := (if_pos hb).symm.trans h
        refine z_iconst (v := (0 : Int32)) (by decide) hC d_N_takePrices_57 (q := 58) rfl ?_
        cases h
        exact z_zret hC hR (by decide) rfl rfl d_N_takePrices_58
set_option maxRecDepth 20000 in
theorem w_N_takePrices_29 {X : z_X} {A : Nat → Prop} {Ω : z_O} (hC : z_C X b_N_takePrices 6 "NodalAuction" Ω) (hA : z_hA X A) (hR : z_R X (some .boolean)) (hM : z_rmOf X = z_rm 1 22) (n : Nat) (r : Int32 × z_S) (S : z_S) (h : f_N_takePrices_29 n S = some r) : z_At X A (z_QI X Ω A r.1 (wN Ω r.2)) Ω 0 0 6 29 [(0, .ref (Ω.2.2 0))] [] (wN Ω S) := by
  refine z_iconst (v := (0 : Int32)) (by decide) hC d_N_takePrices_29 (q := 30) rfl ?_
  refine z_istore (lv' := [(5, .int (0 : Int32)), (0, .ref (Ω.2.2 0))]) (by decide) rfl hC d_N_takePrices_30 (q := 32) rfl ?_
  refine z_sub [1, 0] rfl ?_
  exact w_N_takePrices_32 hC hA hR hM n r n (0 : Int32) S h
set_option maxRecDepth 20000 in
theorem w_N_takePrices_14 {X : z_X} {A : Nat → Prop} {Ω : z_O} (hC : z_C X b_N_takePrices 6 "NodalAuction" Ω) (hA : z_hA X A) (hR : z_R X (some .boolean)) (hM : z_rmOf X = z_rm 1 22) (n : Nat) (r : Int32 × z_S) (x3 : Int32) (x4 : Int32) (S : z_S) (h : f_N_takePrices_14 n x3 x4 S = some r) : z_At X A (z_QI X Ω A r.1 (wN Ω r.2)) Ω 0 0 6 14 [(0, .ref (Ω.2.2 0)), (3, .int x3), (4, .int x4)] [] (wN Ω S) := by
  refine z_aload_n rfl 0 rfl hC d_N_takePrices_14 (q := 15) rfl ?_
  refine gf_N_40_0 hC d_N_takePrices_15 (q := 18) rfl ?_
  refine z_iconst (v := (2 : Int32)) (by decide) hC d_N_takePrices_18 (q := 19) rfl ?_
  refine z_iload_n rfl 1 rfl hC d_N_takePrices_19 (q := 20) rfl ?_
  refine as_wN_6 hC (by decide) d_N_takePrices_20 (q := 21) rfl ?_
  refine z_aload_n rfl 0 rfl hC d_N_takePrices_21 (q := 22) rfl ?_
  refine gf_N_40_0 hC d_N_takePrices_22 (q := 25) rfl ?_
  refine z_iconst (v := (3 : Int32)) (by decide) hC d_N_takePrices_25 (q := 26) rfl ?_
  refine z_iload 2 rfl hC d_N_takePrices_26 (q := 28) rfl ?_
  refine as_wN_6 hC (by decide) d_N_takePrices_28 (q := 29) rfl ?_
  refine z_sub [0] rfl ?_
  exact w_N_takePrices_29 hC hA hR hM n r (sI (sI S 0 (upd (gI S 0) ((2 : Int32).toNatClampNeg) x3)) 0 (upd (gI (sI S 0 (upd (gI S 0) ((2 : Int32).toNatClampNeg) x3)) 0) ((3 : Int32).toNatClampNeg) x4)) h
set_option maxRecDepth 20000 in
theorem w_N_takePrices {X : z_X} {A : Nat → Prop} {Ω : z_O} (hC : z_C X b_N_takePrices 6 "NodalAuction" Ω) (hA : z_hA X A) (hR : z_R X (some .boolean)) (hM : z_rmOf X = z_rm 1 22) (n : Nat) (r : Int32 × z_S) (x1 : Int32) (x2 : Int32) (x3 : Int32) (x4 : Int32) (S : z_S) (h : f_N_takePrices n x1 x2 x3 x4 S = some r) : z_At X A (z_QI X Ω A r.1 (wN Ω r.2)) Ω 0 0 6 0 [(0, .ref (Ω.2.2 0)), (1, .int x1), (2, .int x2), (3, .int x3), (4, .int x4)] [] (wN Ω S) := by
  refine z_aload_n rfl 0 rfl hC d_N_takePrices_0 (q := 1) rfl ?_
  refine gf_N_40_0 hC d_N_takePrices_1 (q := 4) rfl ?_
  refine z_iconst (v := (0 : Int32)) (by decide) hC d_N_takePrices_4 (q := 5) rfl ?_
  refine z_iload_n rfl 1 rfl hC d_N_takePrices_5 (q := 6) rfl ?_
  refine as_wN_6 hC (by decide) d_N_takePrices_6 (q := 7) rfl ?_
  refine z_aload_n rfl 0 rfl hC d_N_takePrices_7 (q := 8) rfl ?_
  refine gf_N_40_0 hC d_N_takePrices_8 (q := 11) rfl ?_
  refine z_iconst (v := (1 : Int32)) (by decide) hC d_N_takePrices_11 (q := 12) rfl ?_
  refine z_iload_n rfl 2 rfl hC d_N_takePrices_12 (q := 13) rfl ?_
  refine as_wN_6 hC (by decide) d_N_takePrices_13 (q := 14) rfl ?_
  refine z_sub [0, 3, 4] rfl ?_
  exact w_N_takePrices_14 hC hA hR hM n r x3 x4 (sI (sI S 0 (upd (gI S 0) ((0 : Int32).toNatClampNeg) x1)) 0 (upd (gI (sI S 0 (upd (gI S 0) ((0 : Int32).toNatClampNeg) x1)) 0) ((1 : Int32).toNatClampNeg) x2)) h
theorem c_N_takePrices (l : Launch) (Ω : z_O) (n : Nat) (x1 : Int32) (x2 : Int32) (x3 : Int32) (x4 : Int32) (S : z_S) (r : Int32 × z_S) (h : f_N_takePrices n x1 x2 x3 x4 S = some r) : z_MI l Ω y_N_takePrices b_N_takePrices 6 .boolean 1 22 [.ref (Ω.2.2 0), .int x1, .int x2, .int x3, .int x4] (wN Ω S) r.1 (wN Ω r.2) := z_introI (by decide +kernel) (Nat.le_of_ble_eq_true rfl) rfl (fun X A hC hA hR _ hM => w_N_takePrices hC hA hR hM n r x1 x2 x3 x4 S h)
def f_N_margin (n : Nat) (x1 : Int32) (S : z_S) : Option (Int32 × z_S) := ck (vi x1 8) (ck (vi x1 8) (ck (vi x1 8) (ck (vi (gI S 6 x1.toNatClampNeg) 4) (some ((gI S 5 x1.toNatClampNeg) * ((gI S 7 x1.toNatClampNeg) - (gI S 0 ((gI S 6 x1.toNatClampNeg).toNatClampNeg))), S)))))
set_option maxRecDepth 20000 in
theorem w_N_margin {X : z_X} {A : Nat → Prop} {Ω : z_O} (hC : z_C X b_N_margin 2 "NodalAuction" Ω) (hA : z_hA X A) (hR : z_R X (some .int)) (hM : z_rmOf X = z_rm 0 0) (n : Nat) (r : Int32 × z_S) (x1 : Int32) (S : z_S) (h : f_N_margin n x1 S = some r) : z_At X A (z_QI X Ω A r.1 (wN Ω r.2)) Ω 0 0 2 0 [(0, .ref (Ω.2.2 0)), (1, .int x1)] [] (wN Ω S) := by
  refine z_aload_n rfl 0 rfl hC d_N_margin_0 (q := 1) rfl ?_
  refine gf_N_19_0 hC d_N_margin_1 (q := 4) rfl ?_
  refine gf_N_162_2 hC d_N_margin_4 (q := 7) rfl ?_
  refine z_iload_n rfl 1 rfl hC d_N_margin_7 (q := 8) rfl ?_
  obtain ⟨hv1, h⟩ := ck_some h
  refine al_wN_13 hC hv1 d_N_margin_8 (q := 9) rfl ?_
  refine z_aload_n rfl 0 rfl hC d_N_margin_9 (q := 10) rfl ?_
  refine gf_N_19_0 hC d_N_margin_10 (q := 13) rfl ?_
  refine gf_N_165_2 hC d_N_margin_13 (q := 16) rfl ?_
  refine z_iload_n rfl 1 rfl hC d_N_margin_16 (q := 17) rfl ?_
  obtain ⟨hv2, h⟩ := ck_some h
  refine al_wN_15 hC hv2 d_N_margin_17 (q := 18) rfl ?_
  refine z_aload_n rfl 0 rfl hC d_N_margin_18 (q := 19) rfl ?_
  refine gf_N_40_0 hC d_N_margin_19 (q := 22) rfl ?_
  refine z_aload_n rfl 0 rfl hC d_N_margin_22 (q := 23) rfl ?_
  refine gf_N_19_0 hC d_N_margin_23 (q := 26) rfl ?_
  refine gf_N_168_2 hC d_N_margin_26 (q := 29) rfl ?_
  refine z_iload_n rfl 1 rfl hC d_N_margin_29 (q := 30) rfl ?_
  obtain ⟨hv3, h⟩ := ck_some h
  refine al_wN_14 hC hv3 d_N_margin_30 (q := 31) rfl ?_
  obtain ⟨hv4, h⟩ := ck_some h
  refine al_wN_6 hC hv4 d_N_margin_31 (q := 32) rfl ?_
  refine z_isub hC d_N_margin_32 (q := 33) rfl ?_
  refine z_imul hC d_N_margin_33 (q := 34) rfl ?_
  cases h
  exact z_iret hC hR rfl rfl d_N_margin_34
theorem c_N_margin (l : Launch) (Ω : z_O) (n : Nat) (x1 : Int32) (S : z_S) (r : Int32 × z_S) (h : f_N_margin n x1 S = some r) : z_MI l Ω y_N_margin b_N_margin 2 .int 0 0 [.ref (Ω.2.2 0), .int x1] (wN Ω S) r.1 (wN Ω r.2) := z_introI (by decide +kernel) (Nat.le_of_ble_eq_true rfl) rfl (fun X A hC hA hR _ hM => w_N_margin hC hA hR hM n r x1 S h)
def f_N_someStepLoses_35 (n : Nat) (k2 : Int32 → z_S → Option (Int32 × z_S)) (x1 : Int32) (S : z_S) : Option (Int32 × z_S) := k2 (x1 + (1 : Int32)) S
def f_N_someStepLoses_2 (n : Nat) : Nat → Int32 → z_S → Option (Int32 × z_S)
  | 0, _, _ => none
  | q + 1, x1, S => (if (gF S 1) ≤ x1 then some ((0 : Int32), S) else ck (vi x1 8) ((if (gI S 19 x1.toNatClampNeg) ≤ 0 then f_N_someStepLoses_35 n (f_N_someStepLoses_2 n q) x1 S else bo (f_N_margin n x1 S) (fun v27 S27 => (if 0 ≤ v27 then f_N_someStepLoses_35 n (f_N_someStepLoses_2 n q) x1 S27 else some ((1 : Int32), S27))))))
def f_N_someStepLoses (n : Nat) (S : z_S) : Option (Int32 × z_S) := f_N_someStepLoses_2 n n (0 : Int32) S
set_option maxRecDepth 20000 in
theorem w_N_someStepLoses_35 {X : z_X} {A : Nat → Prop} {Ω : z_O} (hC : z_C X b_N_someStepLoses 2 "NodalAuction" Ω) (hA : z_hA X A) (hR : z_R X (some .boolean)) (hM : z_rmOf X = z_rm 1 21) (n : Nat) (r : Int32 × z_S) (k2 : Int32 → z_S → Option (Int32 × z_S)) (hk2 : ∀ (x1 : Int32) (S : z_S), k2 x1 S = some r → z_At X A (z_QI X Ω A r.1 (wN Ω r.2)) Ω 0 0 2 2 [(0, .ref (Ω.2.2 0)), (1, .int x1)] [] (wN Ω S)) (x1 : Int32) (S : z_S) (h : f_N_someStepLoses_35 n k2 x1 S = some r) : z_At X A (z_QI X Ω A r.1 (wN Ω r.2)) Ω 0 0 2 35 [(0, .ref (Ω.2.2 0)), (1, .int x1)] [] (wN Ω S) := by
  refine z_iinc (lv' := [(1, .int (x1 + (1 : Int32))), (0, .ref (Ω.2.2 0))]) 1 rfl rfl (by decide) rfl hC d_N_someStepLoses_35 (q := 38) rfl ?_
  refine z_goto (tgt := 2) hC d_N_someStepLoses_38 rfl ?_
  refine z_sub [1, 0] rfl ?_
  exact hk2 (x1 + (1 : Int32)) S h
set_option maxRecDepth 20000 in
theorem w_N_someStepLoses_2 {X : z_X} {A : Nat → Prop} {Ω : z_O} (hC : z_C X b_N_someStepLoses 2 "NodalAuction" Ω) (hA : z_hA X A) (hR : z_R X (some .boolean)) (hM : z_rmOf X = z_rm 1 21) (n : Nat) (r : Int32 × z_S) : ∀ (q : Nat) (x1 : Int32) (S : z_S), f_N_someStepLoses_2 n q x1 S = some r → z_At X A (z_QI X Ω A r.1 (wN Ω r.2)) Ω 0 0 2 2 [(0, .ref (Ω.2.2 0)), (1, .int x1)] [] (wN Ω S) := by
  intro q
  induction q with
  | zero => intro x1 S h; cases h
  | succ q ih =>
    intro x1 S h
    refine z_iload_n rfl 1 rfl hC d_N_someStepLoses_2 (q := 3) rfl ?_
    refine z_aload_n rfl 0 rfl hC d_N_someStepLoses_3 (q := 4) rfl ?_
    refine gf_N_19_0 hC d_N_someStepLoses_4 (q := 7) rfl ?_
    refine gf_N_91_2 hC d_N_someStepLoses_7 (q := 10) rfl ?_
    refine z_icmp_ge (tgt := 41) (q := 13) hC d_N_someStepLoses_10 rfl rfl (fun hb => ?_) (fun hb => ?_)
    · have h := (if_pos hb).symm.trans h
      refine z_iconst (v := (0 : Int32)) (by decide) hC d_N_someStepLoses_41 (q := 42) rfl ?_
      cases h
      exact z_zret hC hR (by decide) rfl rfl d_N_someStepLoses_42
    · have h := (if_neg hb).symm.trans h
      refine z_aload_n rfl 0 rfl hC d_N_someStepLoses_13 (q := 14) rfl ?_
      refine gf_N_36_0 hC d_N_someStepLoses_14 (q := 17) rfl ?_
      refine gf_N_103_5 hC d_N_someStepLoses_17 (q := 20) rfl ?_
      refine z_iload_n rfl 1 rfl hC d_N_someStepLoses_20 (q := 21) rfl ?_
      obtain ⟨hv1, h⟩ := ck_some h
      refine al_wN_28 hC hv1 d_N_someStepLoses_21 (q := 22) rfl ?_
      refine z_if_le (tgt := 35) (q := 25) hC d_N_someStepLoses_22 rfl rfl (fun hb => ?_) (fun hb => ?_)
      · have h := (if_pos hb).symm.trans h
        exact w_N_someStepLoses_35 hC hA hR hM n r (f_N_someStepLoses_2 n q) ih x1 S h
      · have h := (if_neg hb).symm.trans h
        refine z_aload_n rfl 0 rfl hC d_N_someStepLoses_25 (q := 26) rfl ?_
        refine z_iload_n rfl 1 rfl hC d_N_someStepLoses_26 (q := 27) rfl ?_
        obtain ⟨v27, S27, hc27, h⟩ := bo_some h
        refine z_callVi (q0 := 0) (As := [.int x1]) hC hA (c_N_margin (z_lOf X) Ω n x1 S (v27, S27) hc27) k_407 k_404 k_406 ks_33 k_1 h_N_margin (by rw [hM]; exact ⟨Nat.le_of_ble_eq_true rfl, Nat.le_of_ble_eq_true rfl⟩) ⟨Nat.zero_le _, Nat.zero_le _⟩ rfl rfl rfl (Nat.le_of_ble_eq_true rfl) rfl d_N_someStepLoses_27 (q := 30) rfl ?_
        refine z_if_ge (tgt := 35) (q := 33) hC d_N_someStepLoses_30 rfl rfl (fun hb => ?_) (fun hb => ?_)
        · have h := (if_pos hb).symm.trans h
          exact w_N_someStepLoses_35 hC hA hR hM n r (f_N_someStepLoses_2 n q) ih x1 S27 h
        · have h := (if_neg hb).symm.trans h
          refine z_iconst (v := (1 : Int32)) (by decide) hC d_N_someStepLoses_33 (q := 34) rfl ?_
          cases h
          exact z_zret hC hR (by decide) rfl rfl d_N_someStepLoses_34
set_option maxRecDepth 20000 in
theorem w_N_someStepLoses {X : z_X} {A : Nat → Prop} {Ω : z_O} (hC : z_C X b_N_someStepLoses 2 "NodalAuction" Ω) (hA : z_hA X A) (hR : z_R X (some .boolean)) (hM : z_rmOf X = z_rm 1 21) (n : Nat) (r : Int32 × z_S) (S : z_S) (h : f_N_someStepLoses n S = some r) : z_At X A (z_QI X Ω A r.1 (wN Ω r.2)) Ω 0 0 2 0 [(0, .ref (Ω.2.2 0))] [] (wN Ω S) := by
  refine z_iconst (v := (0 : Int32)) (by decide) hC d_N_someStepLoses_0 (q := 1) rfl ?_
  refine z_istore_n (lv' := [(1, .int (0 : Int32)), (0, .ref (Ω.2.2 0))]) rfl (by decide) rfl hC d_N_someStepLoses_1 (q := 2) rfl ?_
  refine z_sub [1, 0] rfl ?_
  exact w_N_someStepLoses_2 hC hA hR hM n r n (0 : Int32) S h
theorem c_N_someStepLoses (l : Launch) (Ω : z_O) (n : Nat) (S : z_S) (r : Int32 × z_S) (h : f_N_someStepLoses n S = some r) : z_MI l Ω y_N_someStepLoses b_N_someStepLoses 2 .boolean 1 21 [.ref (Ω.2.2 0)] (wN Ω S) r.1 (wN Ω r.2) := z_introI (by decide +kernel) (Nat.le_of_ble_eq_true rfl) rfl (fun X A hC hA hR _ hM => w_N_someStepLoses hC hA hR hM n r S h)
def f_N_someStepWouldGain_52 (n : Nat) (k2 : Int32 → z_S → Option (Int32 × z_S)) (x1 : Int32) (S : z_S) : Option (Int32 × z_S) := k2 (x1 + (1 : Int32)) S
def f_N_someStepWouldGain_2 (n : Nat) : Nat → Int32 → z_S → Option (Int32 × z_S)
  | 0, _, _ => none
  | q + 1, x1, S => (if (gF S 1) ≤ x1 then some ((0 : Int32), S) else ck (vi x1 8) (ck (vi x1 8) ((if ((gI S 8 x1.toNatClampNeg) * (gF S 6)) ≤ (gI S 19 x1.toNatClampNeg) then f_N_someStepWouldGain_52 n (f_N_someStepWouldGain_2 n q) x1 S else bo (f_N_margin n x1 S) (fun v44 S44 => (if v44 ≤ 0 then f_N_someStepWouldGain_52 n (f_N_someStepWouldGain_2 n q) x1 S44 else some ((1 : Int32), S44)))))))
def f_N_someStepWouldGain (n : Nat) (S : z_S) : Option (Int32 × z_S) := f_N_someStepWouldGain_2 n n (0 : Int32) S
set_option maxRecDepth 20000 in
theorem w_N_someStepWouldGain_52 {X : z_X} {A : Nat → Prop} {Ω : z_O} (hC : z_C X b_N_someStepWouldGain 2 "NodalAuction" Ω) (hA : z_hA X A) (hR : z_R X (some .boolean)) (hM : z_rmOf X = z_rm 1 21) (n : Nat) (r : Int32 × z_S) (k2 : Int32 → z_S → Option (Int32 × z_S)) (hk2 : ∀ (x1 : Int32) (S : z_S), k2 x1 S = some r → z_At X A (z_QI X Ω A r.1 (wN Ω r.2)) Ω 0 0 2 2 [(0, .ref (Ω.2.2 0)), (1, .int x1)] [] (wN Ω S)) (x1 : Int32) (S : z_S) (h : f_N_someStepWouldGain_52 n k2 x1 S = some r) : z_At X A (z_QI X Ω A r.1 (wN Ω r.2)) Ω 0 0 2 52 [(0, .ref (Ω.2.2 0)), (1, .int x1)] [] (wN Ω S) := by
  refine z_iinc (lv' := [(1, .int (x1 + (1 : Int32))), (0, .ref (Ω.2.2 0))]) 1 rfl rfl (by decide) rfl hC d_N_someStepWouldGain_52 (q := 55) rfl ?_
  refine z_goto (tgt := 2) hC d_N_someStepWouldGain_55 rfl ?_
  refine z_sub [1, 0] rfl ?_
  exact hk2 (x1 + (1 : Int32)) S h
set_option maxRecDepth 20000 in
theorem w_N_someStepWouldGain_2 {X : z_X} {A : Nat → Prop} {Ω : z_O} (hC : z_C X b_N_someStepWouldGain 2 "NodalAuction" Ω) (hA : z_hA X A) (hR : z_R X (some .boolean)) (hM : z_rmOf X = z_rm 1 21) (n : Nat) (r : Int32 × z_S) : ∀ (q : Nat) (x1 : Int32) (S : z_S), f_N_someStepWouldGain_2 n q x1 S = some r → z_At X A (z_QI X Ω A r.1 (wN Ω r.2)) Ω 0 0 2 2 [(0, .ref (Ω.2.2 0)), (1, .int x1)] [] (wN Ω S) := by
  intro q
  induction q with
  | zero => intro x1 S h; cases h
  | succ q ih =>
    intro x1 S h
    refine z_iload_n rfl 1 rfl hC d_N_someStepWouldGain_2 (q := 3) rfl ?_
    refine z_aload_n rfl 0 rfl hC d_N_someStepWouldGain_3 (q := 4) rfl ?_
    refine gf_N_19_0 hC d_N_someStepWouldGain_4 (q := 7) rfl ?_
    refine gf_N_91_2 hC d_N_someStepWouldGain_7 (q := 10) rfl ?_
    refine z_icmp_ge (tgt := 58) (q := 13) hC d_N_someStepWouldGain_10 rfl rfl (fun hb => ?_) (fun hb => ?_)
    · have h := (if_pos hb).symm.trans h
      refine z_iconst (v := (0 : Int32)) (by decide) hC d_N_someStepWouldGain_58 (q := 59) rfl ?_
      cases h
      exact z_zret hC hR (by decide) rfl rfl d_N_someStepWouldGain_59
    · have h := (if_neg hb).symm.trans h
      refine z_aload_n rfl 0 rfl hC d_N_someStepWouldGain_13 (q := 14) rfl ?_
      refine gf_N_36_0 hC d_N_someStepWouldGain_14 (q := 17) rfl ?_
      refine gf_N_103_5 hC d_N_someStepWouldGain_17 (q := 20) rfl ?_
      refine z_iload_n rfl 1 rfl hC d_N_someStepWouldGain_20 (q := 21) rfl ?_
      obtain ⟨hv1, h⟩ := ck_some h
      refine al_wN_28 hC hv1 d_N_someStepWouldGain_21 (q := 22) rfl ?_
      refine z_aload_n rfl 0 rfl hC d_N_someStepWouldGain_22 (q := 23) rfl ?_
      refine gf_N_19_0 hC d_N_someStepWouldGain_23 (q := 26) rfl ?_
      refine gf_N_174_2 hC d_N_someStepWouldGain_26 (q := 29) rfl ?_
      refine z_iload_n rfl 1 rfl hC d_N_someStepWouldGain_29 (q := 30) rfl ?_
      obtain ⟨hv2, h⟩ := ck_some h
      refine al_wN_16 hC hv2 d_N_someStepWouldGain_30 (q := 31) rfl ?_
      refine z_aload_n rfl 0 rfl hC d_N_someStepWouldGain_31 (q := 32) rfl ?_
      refine gf_N_36_0 hC d_N_someStepWouldGain_32 (q := 35) rfl ?_
      refine gf_N_100_5 hC d_N_someStepWouldGain_35 (q := 38) rfl ?_
      refine z_imul hC d_N_someStepWouldGain_38 (q := 39) rfl ?_
      refine z_icmp_ge (tgt := 52) (q := 42) hC d_N_someStepWouldGain_39 rfl rfl (fun hb => ?_) (fun hb => ?_)
      · have h := (if_pos hb).symm.trans h
        exact w_N_someStepWouldGain_52 hC hA hR hM n r (f_N_someStepWouldGain_2 n q) ih x1 S h
      · have h := (if_neg hb).symm.trans h
        refine z_aload_n rfl 0 rfl hC d_N_someStepWouldGain_42 (q := 43) rfl ?_
        refine z_iload_n rfl 1 rfl hC d_N_someStepWouldGain_43 (q := 44) rfl ?_
        obtain ⟨v44, S44, hc44, h⟩ := bo_some h
        refine z_callVi (q0 := 0) (As := [.int x1]) hC hA (c_N_margin (z_lOf X) Ω n x1 S (v44, S44) hc44) k_407 k_404 k_406 ks_33 k_1 h_N_margin (by rw [hM]; exact ⟨Nat.le_of_ble_eq_true rfl, Nat.le_of_ble_eq_true rfl⟩) ⟨Nat.zero_le _, Nat.zero_le _⟩ rfl rfl rfl (Nat.le_of_ble_eq_true rfl) rfl d_N_someStepWouldGain_44 (q := 47) rfl ?_
        refine z_if_le (tgt := 52) (q := 50) hC d_N_someStepWouldGain_47 rfl rfl (fun hb => ?_) (fun hb => ?_)
        · have h := (if_pos hb).symm.trans h
          exact w_N_someStepWouldGain_52 hC hA hR hM n r (f_N_someStepWouldGain_2 n q) ih x1 S44 h
        · have h := (if_neg hb).symm.trans h
          refine z_iconst (v := (1 : Int32)) (by decide) hC d_N_someStepWouldGain_50 (q := 51) rfl ?_
          cases h
          exact z_zret hC hR (by decide) rfl rfl d_N_someStepWouldGain_51
set_option maxRecDepth 20000 in
theorem w_N_someStepWouldGain {X : z_X} {A : Nat → Prop} {Ω : z_O} (hC : z_C X b_N_someStepWouldGain 2 "NodalAuction" Ω) (hA : z_hA X A) (hR : z_R X (some .boolean)) (hM : z_rmOf X = z_rm 1 21) (n : Nat) (r : Int32 × z_S) (S : z_S) (h : f_N_someStepWouldGain n S = some r) : z_At X A (z_QI X Ω A r.1 (wN Ω r.2)) Ω 0 0 2 0 [(0, .ref (Ω.2.2 0))] [] (wN Ω S) := by
  refine z_iconst (v := (0 : Int32)) (by decide) hC d_N_someStepWouldGain_0 (q := 1) rfl ?_
  refine z_istore_n (lv' := [(1, .int (0 : Int32)), (0, .ref (Ω.2.2 0))]) rfl (by decide) rfl hC d_N_someStepWouldGain_1 (q := 2) rfl ?_
  refine z_sub [1, 0] rfl ?_
  exact w_N_someStepWouldGain_2 hC hA hR hM n r n (0 : Int32) S h
theorem c_N_someStepWouldGain (l : Launch) (Ω : z_O) (n : Nat) (S : z_S) (r : Int32 × z_S) (h : f_N_someStepWouldGain n S = some r) : z_MI l Ω y_N_someStepWouldGain b_N_someStepWouldGain 2 .boolean 1 21 [.ref (Ω.2.2 0)] (wN Ω S) r.1 (wN Ω r.2) := z_introI (by decide +kernel) (Nat.le_of_ble_eq_true rfl) rfl (fun X A hC hA hR _ hM => w_N_someStepWouldGain hC hA hR hM n r S h)
def f_N_intakeWorth_55 (n : Nat) (k4 : Int64 → Int32 → z_S → Option (Int64 × z_S)) (x1 : Int64) (x3 : Int32) (S : z_S) : Option (Int64 × z_S) := k4 x1 (x3 + (1 : Int32)) S
def f_N_intakeWorth_4 (n : Nat) : Nat → Int64 → Int32 → z_S → Option (Int64 × z_S)
  | 0, _, _, _ => none
  | q + 1, x1, x3, S => (if (gF S 1) ≤ x3 then some (x1, S) else ck (vi x3 8) (ck (vi x3 8) (ck (vi x3 8) (ck (vi (gI S 6 x3.toNatClampNeg) 4) (f_N_intakeWorth_55 n (f_N_intakeWorth_4 n q) (x1 + ((((gI S 5 x3.toNatClampNeg).toInt64) * ((gI S 19 x3.toNatClampNeg).toInt64)) * ((gI S 0 ((gI S 6 x3.toNatClampNeg).toNatClampNeg)).toInt64))) x3 S)))))
def f_N_intakeWorth (n : Nat) (S : z_S) : Option (Int64 × z_S) := f_N_intakeWorth_4 n n (0 : Int64) (0 : Int32) S
set_option maxRecDepth 20000 in
theorem w_N_intakeWorth_55 {X : z_X} {A : Nat → Prop} {Ω : z_O} (hC : z_C X b_N_intakeWorth 4 "NodalAuction" Ω) (hA : z_hA X A) (hR : z_R X (some .long)) (hM : z_rmOf X = z_rm 0 0) (n : Nat) (r : Int64 × z_S) (k4 : Int64 → Int32 → z_S → Option (Int64 × z_S)) (hk4 : ∀ (x1 : Int64) (x3 : Int32) (S : z_S), k4 x1 x3 S = some r → z_At X A (z_QL X Ω A r.1 (wN Ω r.2)) Ω 0 0 4 4 [(0, .ref (Ω.2.2 0)), (1, .long x1), (3, .int x3)] [] (wN Ω S)) (x1 : Int64) (x3 : Int32) (S : z_S) (h : f_N_intakeWorth_55 n k4 x1 x3 S = some r) : z_At X A (z_QL X Ω A r.1 (wN Ω r.2)) Ω 0 0 4 55 [(0, .ref (Ω.2.2 0)), (1, .long x1), (3, .int x3)] [] (wN Ω S) := by
  refine z_iinc (lv' := [(3, .int (x3 + (1 : Int32))), (0, .ref (Ω.2.2 0)), (1, .long x1)]) 2 rfl rfl (by decide) rfl hC d_N_intakeWorth_55 (q := 58) rfl ?_
  refine z_goto (tgt := 4) hC d_N_intakeWorth_58 rfl ?_
  refine z_sub [1, 2, 0] rfl ?_
  exact hk4 x1 (x3 + (1 : Int32)) S h
set_option maxRecDepth 20000 in
theorem w_N_intakeWorth_4 {X : z_X} {A : Nat → Prop} {Ω : z_O} (hC : z_C X b_N_intakeWorth 4 "NodalAuction" Ω) (hA : z_hA X A) (hR : z_R X (some .long)) (hM : z_rmOf X = z_rm 0 0) (n : Nat) (r : Int64 × z_S) : ∀ (q : Nat) (x1 : Int64) (x3 : Int32) (S : z_S), f_N_intakeWorth_4 n q x1 x3 S = some r → z_At X A (z_QL X Ω A r.1 (wN Ω r.2)) Ω 0 0 4 4 [(0, .ref (Ω.2.2 0)), (1, .long x1), (3, .int x3)] [] (wN Ω S) := by
  intro q
  induction q with
  | zero => intro x1 x3 S h; cases h
  | succ q ih =>
    intro x1 x3 S h
    refine z_iload_n rfl 2 rfl hC d_N_intakeWorth_4 (q := 5) rfl ?_
    refine z_aload_n rfl 0 rfl hC d_N_intakeWorth_5 (q := 6) rfl ?_
    refine gf_N_19_0 hC d_N_intakeWorth_6 (q := 9) rfl ?_
    refine gf_N_91_2 hC d_N_intakeWorth_9 (q := 12) rfl ?_
    refine z_icmp_ge (tgt := 61) (q := 15) hC d_N_intakeWorth_12 rfl rfl (fun hb => ?_) (fun hb => ?_)
    · have h := (if_pos hb).symm.trans h
      refine z_lload_n rfl 1 rfl hC d_N_intakeWorth_61 (q := 62) rfl ?_
      cases h
      exact z_lret hC hR rfl rfl d_N_intakeWorth_62
    · have h := (if_neg hb).symm.trans h
      refine z_lload_n rfl 1 rfl hC d_N_intakeWorth_15 (q := 16) rfl ?_
      refine z_aload_n rfl 0 rfl hC d_N_intakeWorth_16 (q := 17) rfl ?_
      refine gf_N_19_0 hC d_N_intakeWorth_17 (q := 20) rfl ?_
      refine gf_N_162_2 hC d_N_intakeWorth_20 (q := 23) rfl ?_
      refine z_iload_n rfl 2 rfl hC d_N_intakeWorth_23 (q := 24) rfl ?_
      obtain ⟨hv1, h⟩ := ck_some h
      refine al_wN_13 hC hv1 d_N_intakeWorth_24 (q := 25) rfl ?_
      refine z_i2l hC d_N_intakeWorth_25 (q := 26) rfl ?_
      refine z_aload_n rfl 0 rfl hC d_N_intakeWorth_26 (q := 27) rfl ?_
      refine gf_N_36_0 hC d_N_intakeWorth_27 (q := 30) rfl ?_
      refine gf_N_103_5 hC d_N_intakeWorth_30 (q := 33) rfl ?_
      refine z_iload_n rfl 2 rfl hC d_N_intakeWorth_33 (q := 34) rfl ?_
      obtain ⟨hv2, h⟩ := ck_some h
      refine al_wN_28 hC hv2 d_N_intakeWorth_34 (q := 35) rfl ?_
      refine z_i2l hC d_N_intakeWorth_35 (q := 36) rfl ?_
      refine z_lmul hC d_N_intakeWorth_36 (q := 37) rfl ?_
      refine z_aload_n rfl 0 rfl hC d_N_intakeWorth_37 (q := 38) rfl ?_
      refine gf_N_40_0 hC d_N_intakeWorth_38 (q := 41) rfl ?_
      refine z_aload_n rfl 0 rfl hC d_N_intakeWorth_41 (q := 42) rfl ?_
      refine gf_N_19_0 hC d_N_intakeWorth_42 (q := 45) rfl ?_
      refine gf_N_168_2 hC d_N_intakeWorth_45 (q := 48) rfl ?_
      refine z_iload_n rfl 2 rfl hC d_N_intakeWorth_48 (q := 49) rfl ?_
      obtain ⟨hv3, h⟩ := ck_some h
      refine al_wN_14 hC hv3 d_N_intakeWorth_49 (q := 50) rfl ?_
      obtain ⟨hv4, h⟩ := ck_some h
      refine al_wN_6 hC hv4 d_N_intakeWorth_50 (q := 51) rfl ?_
      refine z_i2l hC d_N_intakeWorth_51 (q := 52) rfl ?_
      refine z_lmul hC d_N_intakeWorth_52 (q := 53) rfl ?_
      refine z_ladd hC d_N_intakeWorth_53 (q := 54) rfl ?_
      refine z_lstore_n (lv' := [(1, .long (x1 + ((((gI S 5 x3.toNatClampNeg).toInt64) * ((gI S 19 x3.toNatClampNeg).toInt64)) * ((gI S 0 ((gI S 6 x3.toNatClampNeg).toNatClampNeg)).toInt64)))), (0, .ref (Ω.2.2 0)), (3, .int x3)]) rfl (by decide) rfl hC d_N_intakeWorth_54 (q := 55) rfl ?_
      refine z_sub [1, 0, 2] rfl ?_
      exact w_N_intakeWorth_55 hC hA hR hM n r (f_N_intakeWorth_4 n q) ih (x1 + ((((gI S 5 x3.toNatClampNeg).toInt64) * ((gI S 19 x3.toNatClampNeg).toInt64)) * ((gI S 0 ((gI S 6 x3.toNatClampNeg).toNatClampNeg)).toInt64))) x3 S h
set_option maxRecDepth 20000 in
theorem w_N_intakeWorth {X : z_X} {A : Nat → Prop} {Ω : z_O} (hC : z_C X b_N_intakeWorth 4 "NodalAuction" Ω) (hA : z_hA X A) (hR : z_R X (some .long)) (hM : z_rmOf X = z_rm 0 0) (n : Nat) (r : Int64 × z_S) (S : z_S) (h : f_N_intakeWorth n S = some r) : z_At X A (z_QL X Ω A r.1 (wN Ω r.2)) Ω 0 0 4 0 [(0, .ref (Ω.2.2 0))] [] (wN Ω S) := by
  refine z_lconst (v := (0 : Int64)) (by decide) hC d_N_intakeWorth_0 (q := 1) rfl ?_
  refine z_lstore_n (lv' := [(1, .long (0 : Int64)), (0, .ref (Ω.2.2 0))]) rfl (by decide) rfl hC d_N_intakeWorth_1 (q := 2) rfl ?_
  refine z_iconst (v := (0 : Int32)) (by decide) hC d_N_intakeWorth_2 (q := 3) rfl ?_
  refine z_istore_n (lv' := [(3, .int (0 : Int32)), (1, .long (0 : Int64)), (0, .ref (Ω.2.2 0))]) rfl (by decide) rfl hC d_N_intakeWorth_3 (q := 4) rfl ?_
  refine z_sub [2, 1, 0] rfl ?_
  exact w_N_intakeWorth_4 hC hA hR hM n r n (0 : Int64) (0 : Int32) S h
theorem c_N_intakeWorth (l : Launch) (Ω : z_O) (n : Nat) (S : z_S) (r : Int64 × z_S) (h : f_N_intakeWorth n S = some r) : z_ML l Ω y_N_intakeWorth b_N_intakeWorth 4 .long 0 0 [.ref (Ω.2.2 0)] (wN Ω S) r.1 (wN Ω r.2) := z_introL (by decide +kernel) (Nat.le_of_ble_eq_true rfl) rfl (fun X A hC hA hR _ hM => w_N_intakeWorth hC hA hR hM n r S h)
def f_N_gridCarriesMore_129 (n : Nat) (t0 : Int32) (S : z_S) : Option (Int32 × z_S) := ck (vz t0) (some (t0, S))
def f_N_gridCarriesMore_10 (n : Nat) : Nat → Int32 → z_S → Option (Int32 × z_S)
  | 0, _, _ => none
  | q + 1, x1, S => (if (4 : Int32) ≤ x1 then bo (f_P_load_p n (0 : Int32) (0 : Int32) S) (fun v73 S73 => (if v73 = 0 then some ((0 : Int32), S73) else bo (f_P_maximise n (15 : Int32) S73) (fun _ S87 => bo (f_P_top n (15 : Int32) S87) (fun v96 S96 => bo (f_N_intakeWorth n S96) (fun v109 S109 => (if (v96 * ((gF S96 6).toInt64)) ≤ (v109 * (gG S109 1)) then f_N_gridCarriesMore_129 n (0 : Int32) S109 else f_N_gridCarriesMore_129 n (1 : Int32) S109)))))) else ck (vi x1 4) (bo (f_B_add_p n (1 : Int32) x1 (gI S 0 x1.toNatClampNeg) (3000 : Int32) S) (fun v30 S30 => ck (vi x1 4) (bo (f_B_add_p n (-1 : Int32) x1 (gI S30 0 x1.toNatClampNeg) (3000 : Int32) S30) (fun v49 S49 => f_N_gridCarriesMore_10 n q (x1 + (1 : Int32)) S49)))))
def f_N_gridCarriesMore (n : Nat) (S : z_S) : Option (Int32 × z_S) := f_N_gridCarriesMore_10 n n (0 : Int32) (sF S 2 (0 : Int32))
set_option maxRecDepth 20000 in
theorem w_N_gridCarriesMore_129 {X : z_X} {A : Nat → Prop} {Ω : z_O} (hC : z_C X b_N_gridCarriesMore 2 "NodalAuction" Ω) (hA : z_hA X A) (hR : z_R X (some .boolean)) (hM : z_rmOf X = z_rm 4 119) (n : Nat) (r : Int32 × z_S) (t0 : Int32) (S : z_S) (h : f_N_gridCarriesMore_129 n t0 S = some r) : z_At X A (z_QI X Ω A r.1 (wN Ω r.2)) Ω 0 0 2 129 [(0, .ref (Ω.2.2 0))] [.int t0] (wN Ω S) := by
  obtain ⟨hv1, h⟩ := ck_some h
  cases h
  exact z_zret hC hR hv1 rfl rfl d_N_gridCarriesMore_129
set_option maxRecDepth 20000 in
theorem w_N_gridCarriesMore_10 {X : z_X} {A : Nat → Prop} {Ω : z_O} (hC : z_C X b_N_gridCarriesMore 2 "NodalAuction" Ω) (hA : z_hA X A) (hR : z_R X (some .boolean)) (hM : z_rmOf X = z_rm 4 119) (n : Nat) (r : Int32 × z_S) : ∀ (q : Nat) (x1 : Int32) (S : z_S), f_N_gridCarriesMore_10 n q x1 S = some r → z_At X A (z_QI X Ω A r.1 (wN Ω r.2)) Ω 0 0 2 10 [(0, .ref (Ω.2.2 0)), (1, .int x1)] [] (wN Ω S) := by
  intro q
  induction q with
  | zero => intro x1 S h; cases h
  | succ q ih =>
    intro x1 S h
    refine z_iload_n rfl 1 rfl hC d_N_gridCarriesMore_10 (q := 11) rfl ?_
    refine z_iconst (v := (4 : Int32)) (by decide) hC d_N_gridCarriesMore_11 (q := 12) rfl ?_
    refine z_icmp_ge (tgt := 59) (q := 15) hC d_N_gridCarriesMore_12 rfl rfl (fun hb => ?_) (fun hb => ?_)
    · have h := (if_pos hb).symm.trans h
      refine z_aload_n rfl 0 rfl hC d_N_gridCarriesMore_59 (q := 60) rfl ?_
      refine gf_N_29_0 hC d_N_gridCarriesMore_60 (q := 63) rfl ?_
      refine z_aload_n rfl 0 rfl hC d_N_gridCarriesMore_63 (q := 64) rfl ?_
      refine gf_N_12_0 hC d_N_gridCarriesMore_64 (q := 67) rfl ?_
      refine z_aload_n rfl 0 rfl hC d_N_gridCarriesMore_67 (q := 68) rfl ?_
      refine gf_N_23_0 hC d_N_gridCarriesMore_68 (q := 71) rfl ?_
      refine z_iconst (v := (0 : Int32)) (by decide) hC d_N_gridCarriesMore_71 (q := 72) rfl ?_
      refine z_iconst (v := (0 : Int32)) (by decide) hC d_N_gridCarriesMore_72 (q := 73) rfl ?_
      obtain ⟨v73, S73, hc73, h⟩ := bo_some h
      refine z_callVNi (q0 := 4) (As := [.ref (Ω.2.2 1), .ref (Ω.2.2 3), .int (0 : Int32), .int (0 : Int32)]) hC hA (c_P_load_p (z_lOf X) Ω n (0 : Int32) (0 : Int32) S (v73, S73) hc73) k_249 k_246 k_248 ks_8 k_4 h_P_load (by rw [hM]; exact ⟨Nat.le_of_ble_eq_true rfl, Nat.le_of_ble_eq_true rfl⟩) ⟨Nat.zero_le _, Nat.zero_le _⟩ rfl rfl rfl (Nat.le_of_ble_eq_true rfl) rfl d_N_gridCarriesMore_73 (q := 76) rfl ?_
      refine z_if_ne (tgt := 81) (q := 79) hC d_N_gridCarriesMore_76 rfl rfl (fun hb => ?_) (fun hb => ?_)
      · have h := (if_neg hb).symm.trans h
        refine z_aload_n rfl 0 rfl hC d_N_gridCarriesMore_81 (q := 82) rfl ?_
        refine gf_N_29_0 hC d_N_gridCarriesMore_82 (q := 85) rfl ?_
        refine z_bipush (v := (15 : Int32)) (by decide) hC d_N_gridCarriesMore_85 (q := 87) rfl ?_
        obtain ⟨v87, S87, hc87, h⟩ := bo_some h
        refine z_callVNv (q0 := 4) (As := [.int (15 : Int32)]) hC hA (c_P_maximise (z_lOf X) Ω n (15 : Int32) S73 (v87, S87) hc87) k_280 k_277 k_279 ks_15 k_4 h_P_maximise (by rw [hM]; exact ⟨Nat.le_of_ble_eq_true rfl, Nat.le_of_ble_eq_true rfl⟩) ⟨Nat.zero_le _, Nat.zero_le _⟩ rfl rfl rfl (Nat.le_of_ble_eq_true rfl) rfl d_N_gridCarriesMore_87 (q := 90) rfl ?_
        refine z_aload_n rfl 0 rfl hC d_N_gridCarriesMore_90 (q := 91) rfl ?_
        refine gf_N_29_0 hC d_N_gridCarriesMore_91 (q := 94) rfl ?_
        refine z_bipush (v := (15 : Int32)) (by decide) hC d_N_gridCarriesMore_94 (q := 96) rfl ?_
        obtain ⟨v96, S96, hc96, h⟩ := bo_some h
        refine z_callVNl (q0 := 4) (As := [.int (15 : Int32)]) hC hA (c_P_top (z_lOf X) Ω n (15 : Int32) S87 (v96, S96) hc96) k_329 k_378 k_328 ks_26 k_4 h_P_top (by rw [hM]; exact ⟨Nat.le_of_ble_eq_true rfl, Nat.le_of_ble_eq_true rfl⟩) ⟨Nat.zero_le _, Nat.zero_le _⟩ rfl rfl rfl (Nat.le_of_ble_eq_true rfl) rfl d_N_gridCarriesMore_96 (q := 99) rfl ?_
        refine z_aload_n rfl 0 rfl hC d_N_gridCarriesMore_99 (q := 100) rfl ?_
        refine gf_N_36_0 hC d_N_gridCarriesMore_100 (q := 103) rfl ?_
        refine gf_N_100_5 hC d_N_gridCarriesMore_103 (q := 106) rfl ?_
        refine z_i2l hC d_N_gridCarriesMore_106 (q := 107) rfl ?_
        refine z_lmul hC d_N_gridCarriesMore_107 (q := 108) rfl ?_
        refine z_aload_n rfl 0 rfl hC d_N_gridCarriesMore_108 (q := 109) rfl ?_
        obtain ⟨v109, S109, hc109, h⟩ := bo_some h
        refine z_callVl (q0 := 0) (As := []) hC hA (c_N_intakeWorth (z_lOf X) Ω n S96 (v109, S109) hc109) k_419 k_416 k_418 ks_36 k_1 h_N_intakeWorth (by rw [hM]; exact ⟨Nat.le_of_ble_eq_true rfl, Nat.le_of_ble_eq_true rfl⟩) ⟨Nat.zero_le _, Nat.zero_le _⟩ rfl rfl rfl (Nat.le_of_ble_eq_true rfl) rfl d_N_gridCarriesMore_109 (q := 112) rfl ?_
        refine z_aload_n rfl 0 rfl hC d_N_gridCarriesMore_112 (q := 113) rfl ?_
        refine gf_N_29_0 hC d_N_gridCarriesMore_113 (q := 116) rfl ?_
        refine gf_N_159_4 hC d_N_gridCarriesMore_116 (q := 119) rfl ?_
        refine z_lmul hC d_N_gridCarriesMore_119 (q := 120) rfl ?_
        refine z_lcmp_le (pc1 := 121) (tgt := 128) (q := 124) hC d_N_gridCarriesMore_120 rfl d_N_gridCarriesMore_121 rfl rfl (fun hb => ?_) (fun hb => ?_)
        · have h := (if_pos hb).symm.trans h
          refine z_iconst (v := (0 : Int32)) (by decide) hC d_N_gridCarriesMore_128 (q := 129) rfl ?_
          refine z_sub [0] rfl ?_
          exact w_N_gridCarriesMore_129 hC hA hR hM n r (0 : Int32) S109 h
        · have h := (if_neg hb).symm.trans h
          refine z_iconst (v := (1 : Int32)) (by decide) hC d_N_gridCarriesMore_124 (q := 125) rfl ?_
          refine z_goto (tgt := 129) hC d_N_gridCarriesMore_125 rfl ?_
          refine z_sub [0] rfl ?_
          exact w_N_gridCarriesMore_129 hC hA hR hM n r (1 : Int32) S109 h
      · have h := (if_pos hb).symm.trans h
        refine z_iconst (v := (0 : Int32)) (by decide) hC d_N_gridCarriesMore_79 (q := 80) rfl ?_
        cases h
        exact z_zret hC hR (by decide) rfl rfl d_N_gridCarriesMore_80
    · have h := (if_neg hb).symm.trans h
      refine z_aload_n rfl 0 rfl hC d_N_gridCarriesMore_15 (q := 16) rfl ?_
      refine gf_N_23_0 hC d_N_gridCarriesMore_16 (q := 19) rfl ?_
      refine z_iconst (v := (1 : Int32)) (by decide) hC d_N_gridCarriesMore_19 (q := 20) rfl ?_
      refine z_iload_n rfl 1 rfl hC d_N_gridCarriesMore_20 (q := 21) rfl ?_
      refine z_aload_n rfl 0 rfl hC d_N_gridCarriesMore_21 (q := 22) rfl ?_
      refine gf_N_40_0 hC d_N_gridCarriesMore_22 (q := 25) rfl ?_
      refine z_iload_n rfl 1 rfl hC d_N_gridCarriesMore_25 (q := 26) rfl ?_
      obtain ⟨hv1, h⟩ := ck_some h
      refine al_wN_6 hC hv1 d_N_gridCarriesMore_26 (q := 27) rfl ?_
      refine z_sipush (v := (3000 : Int32)) (by decide) hC d_N_gridCarriesMore_27 (q := 30) rfl ?_
      obtain ⟨v30, S30, hc30, h⟩ := bo_some h
      refine z_callVNi (q0 := 3) (As := [.int (1 : Int32), .int x1, .int (gI S 0 x1.toNatClampNeg), .int (3000 : Int32)]) hC hA (c_B_add_p (z_lOf X) Ω n (1 : Int32) x1 (gI S 0 x1.toNatClampNeg) (3000 : Int32) S (v30, S30) hc30) k_224 k_221 k_223 ks_5 k_3 h_B_add (by rw [hM]; exact ⟨Nat.le_of_ble_eq_true rfl, Nat.le_of_ble_eq_true rfl⟩) ⟨Nat.zero_le _, Nat.zero_le _⟩ rfl rfl rfl (Nat.le_of_ble_eq_true rfl) rfl d_N_gridCarriesMore_30 (q := 33) rfl ?_
      refine z_pop rfl hC d_N_gridCarriesMore_33 (q := 34) rfl ?_
      refine z_aload_n rfl 0 rfl hC d_N_gridCarriesMore_34 (q := 35) rfl ?_
      refine gf_N_23_0 hC d_N_gridCarriesMore_35 (q := 38) rfl ?_
      refine z_iconst (v := (-1 : Int32)) (by decide) hC d_N_gridCarriesMore_38 (q := 39) rfl ?_
      refine z_iload_n rfl 1 rfl hC d_N_gridCarriesMore_39 (q := 40) rfl ?_
      refine z_aload_n rfl 0 rfl hC d_N_gridCarriesMore_40 (q := 41) rfl ?_
      refine gf_N_40_0 hC d_N_gridCarriesMore_41 (q := 44) rfl ?_
      refine z_iload_n rfl 1 rfl hC d_N_gridCarriesMore_44 (q := 45) rfl ?_
      obtain ⟨hv2, h⟩ := ck_some h
      refine al_wN_6 hC hv2 d_N_gridCarriesMore_45 (q := 46) rfl ?_
      refine z_sipush (v := (3000 : Int32)) (by decide) hC d_N_gridCarriesMore_46 (q := 49) rfl ?_
      obtain ⟨v49, S49, hc49, h⟩ := bo_some h
      refine z_callVNi (q0 := 3) (As := [.int (-1 : Int32), .int x1, .int (gI S30 0 x1.toNatClampNeg), .int (3000 : Int32)]) hC hA (c_B_add_p (z_lOf X) Ω n (-1 : Int32) x1 (gI S30 0 x1.toNatClampNeg) (3000 : Int32) S30 (v49, S49) hc49) k_224 k_221 k_223 ks_5 k_3 h_B_add (by rw [hM]; exact ⟨Nat.le_of_ble_eq_true rfl, Nat.le_of_ble_eq_true rfl⟩) ⟨Nat.zero_le _, Nat.zero_le _⟩ rfl rfl rfl (Nat.le_of_ble_eq_true rfl) rfl d_N_gridCarriesMore_49 (q := 52) rfl ?_
      refine z_pop rfl hC d_N_gridCarriesMore_52 (q := 53) rfl ?_
      refine z_iinc (lv' := [(1, .int (x1 + (1 : Int32))), (0, .ref (Ω.2.2 0))]) 1 rfl rfl (by decide) rfl hC d_N_gridCarriesMore_53 (q := 56) rfl ?_
      refine z_goto (tgt := 10) hC d_N_gridCarriesMore_56 rfl ?_
      refine z_sub [1, 0] rfl ?_
      exact ih (x1 + (1 : Int32)) S49 h
set_option maxRecDepth 20000 in
theorem w_N_gridCarriesMore {X : z_X} {A : Nat → Prop} {Ω : z_O} (hC : z_C X b_N_gridCarriesMore 2 "NodalAuction" Ω) (hA : z_hA X A) (hR : z_R X (some .boolean)) (hM : z_rmOf X = z_rm 4 119) (n : Nat) (r : Int32 × z_S) (S : z_S) (h : f_N_gridCarriesMore n S = some r) : z_At X A (z_QI X Ω A r.1 (wN Ω r.2)) Ω 0 0 2 0 [(0, .ref (Ω.2.2 0))] [] (wN Ω S) := by
  refine z_aload_n rfl 0 rfl hC d_N_gridCarriesMore_0 (q := 1) rfl ?_
  refine gf_N_23_0 hC d_N_gridCarriesMore_1 (q := 4) rfl ?_
  refine z_iconst (v := (0 : Int32)) (by decide) hC d_N_gridCarriesMore_4 (q := 5) rfl ?_
  refine pf_N_91_3 hC d_N_gridCarriesMore_5 (q := 8) rfl ?_
  refine z_iconst (v := (0 : Int32)) (by decide) hC d_N_gridCarriesMore_8 (q := 9) rfl ?_
  refine z_istore_n (lv' := [(1, .int (0 : Int32)), (0, .ref (Ω.2.2 0))]) rfl (by decide) rfl hC d_N_gridCarriesMore_9 (q := 10) rfl ?_
  refine z_sub [1, 0] rfl ?_
  exact w_N_gridCarriesMore_10 hC hA hR hM n r n (0 : Int32) (sF S 2 (0 : Int32)) h
theorem c_N_gridCarriesMore (l : Launch) (Ω : z_O) (n : Nat) (S : z_S) (r : Int32 × z_S) (h : f_N_gridCarriesMore n S = some r) : z_MI l Ω y_N_gridCarriesMore b_N_gridCarriesMore 2 .boolean 4 119 [.ref (Ω.2.2 0)] (wN Ω S) r.1 (wN Ω r.2) := z_introI (by decide +kernel) (Nat.le_of_ble_eq_true rfl) rfl (fun X A hC hA hR _ hM => w_N_gridCarriesMore hC hA hR hM n r S h)
def f_N_line_31 (n : Nat) (S : z_S) : Option (Int32 × z_S) := some ((-2147483648 : Int32), S)
def f_N_line_55 (n : Nat) (S : z_S) : Option (Int32 × z_S) := some ((-2147483648 : Int32), S)
def f_N_line (n : Nat) (x1 : Int32) (x2 : Int32) (x3 : Int32) (x4 : Int32) (S : z_S) : Option (Int32 × z_S) := bo (f_N_isNode n x1 S) (fun v1 S1 => (if v1 = 0 then f_N_line_31 n S1 else bo (f_N_isNode n x2 S1) (fun v8 S8 => (if v8 = 0 then f_N_line_31 n S8 else (if x1 = x2 then f_N_line_31 n S8 else bo (f_G_joins n x1 x2 S8) (fun v25 S25 => (if v25 = 0 then bo (f_N_within n x3 (1 : Int32) (5 : Int32) S25) (fun v37 S37 => (if v37 = 0 then f_N_line_55 n S37 else bo (f_N_within n x4 (0 : Int32) (1000 : Int32) S37) (fun v49 S49 => (if v49 = 0 then f_N_line_55 n S49 else (if (gF S49 0) < (6 : Int32) then bo (f_G_add n x1 x2 x3 x4 (sF S49 5 (0 : Int32))) (fun v90 S90 => some (v90, S90)) else some ((-2147483648 : Int32), S49)))))) else f_N_line_31 n S25)))))))
set_option maxRecDepth 20000 in
theorem w_N_line_31 {X : z_X} {A : Nat → Prop} {Ω : z_O} (hC : z_C X b_N_line 5 "NodalAuction" Ω) (hA : z_hA X A) (hR : z_R X (some .int)) (hM : z_rmOf X = z_rm 2 42) (n : Nat) (r : Int32 × z_S) (S : z_S) (h : f_N_line_31 n S = some r) : z_At X A (z_QI X Ω A r.1 (wN Ω r.2)) Ω 0 0 5 31 [(0, .ref (Ω.2.2 0))] [] (wN Ω S) := by
  refine z_ldc (v := (-2147483648 : Int32)) k_191 hC d_N_line_31 (q := 33) rfl ?_
  cases h
  exact z_iret hC hR rfl rfl d_N_line_33
set_option maxRecDepth 20000 in
theorem w_N_line_55 {X : z_X} {A : Nat → Prop} {Ω : z_O} (hC : z_C X b_N_line 5 "NodalAuction" Ω) (hA : z_hA X A) (hR : z_R X (some .int)) (hM : z_rmOf X = z_rm 2 42) (n : Nat) (r : Int32 × z_S) (S : z_S) (h : f_N_line_55 n S = some r) : z_At X A (z_QI X Ω A r.1 (wN Ω r.2)) Ω 0 0 5 55 [(0, .ref (Ω.2.2 0))] [] (wN Ω S) := by
  refine z_ldc (v := (-2147483648 : Int32)) k_191 hC d_N_line_55 (q := 57) rfl ?_
  cases h
  exact z_iret hC hR rfl rfl d_N_line_57
set_option maxRecDepth 20000 in
theorem w_N_line {X : z_X} {A : Nat → Prop} {Ω : z_O} (hC : z_C X b_N_line 5 "NodalAuction" Ω) (hA : z_hA X A) (hR : z_R X (some .int)) (hM : z_rmOf X = z_rm 2 42) (n : Nat) (r : Int32 × z_S) (x1 : Int32) (x2 : Int32) (x3 : Int32) (x4 : Int32) (S : z_S) (h : f_N_line n x1 x2 x3 x4 S = some r) : z_At X A (z_QI X Ω A r.1 (wN Ω r.2)) Ω 0 0 5 0 [(0, .ref (Ω.2.2 0)), (1, .int x1), (2, .int x2), (3, .int x3), (4, .int x4)] [] (wN Ω S) := by
  refine z_iload_n rfl 1 rfl hC d_N_line_0 (q := 1) rfl ?_
  obtain ⟨v1, S1, hc1, h⟩ := bo_some h
  refine z_callSi (As := [.int x1]) hC hA (c_N_isNode (z_lOf X) Ω n x1 S (v1, S1) hc1) k_183 k_181 k_182 k_1 h_N_isNode (by rw [hM]; exact ⟨Nat.le_of_ble_eq_true rfl, Nat.le_of_ble_eq_true rfl⟩) ⟨Nat.zero_le _, Nat.zero_le _⟩ rfl (Nat.le_of_ble_eq_true rfl) rfl d_N_line_1 (q := 4) rfl ?_
  refine z_if_eq (tgt := 31) (q := 7) hC d_N_line_4 rfl rfl (fun hb => ?_) (fun hb => ?_)
  · have h := (if_pos hb).symm.trans h
    refine z_sub [0] rfl ?_
    exact w_N_line_31 hC hA hR hM n r S1 h
  · have h := (if_neg hb).symm.trans h
    refine z_iload_n rfl 2 rfl hC d_N_line_7 (q := 8) rfl ?_
    obtain ⟨v8, S8, hc8, h⟩ := bo_some h
    refine z_callSi (As := [.int x2]) hC hA (c_N_isNode (z_lOf X) Ω n x2 S1 (v8, S8) hc8) k_183 k_181 k_182 k_1 h_N_isNode (by rw [hM]; exact ⟨Nat.le_of_ble_eq_true rfl, Nat.le_of_ble_eq_true rfl⟩) ⟨Nat.zero_le _, Nat.zero_le _⟩ rfl (Nat.le_of_ble_eq_true rfl) rfl d_N_line_8 (q := 11) rfl ?_
    refine z_if_eq (tgt := 31) (q := 14) hC d_N_line_11 rfl rfl (fun hb => ?_) (fun hb => ?_)
    · have h := (if_pos hb).symm.trans h
      refine z_sub [0] rfl ?_
      exact w_N_line_31 hC hA hR hM n r S8 h
    · have h := (if_neg hb).symm.trans h
      refine z_iload_n rfl 1 rfl hC d_N_line_14 (q := 15) rfl ?_
      refine z_iload_n rfl 2 rfl hC d_N_line_15 (q := 16) rfl ?_
      refine z_icmp_eq (tgt := 31) (q := 19) hC d_N_line_16 rfl rfl (fun hb => ?_) (fun hb => ?_)
      · have h := (if_pos hb).symm.trans h
        refine z_sub [0] rfl ?_
        exact w_N_line_31 hC hA hR hM n r S8 h
      · have h := (if_neg hb).symm.trans h
        refine z_aload_n rfl 0 rfl hC d_N_line_19 (q := 20) rfl ?_
        refine gf_N_12_0 hC d_N_line_20 (q := 23) rfl ?_
        refine z_iload_n rfl 1 rfl hC d_N_line_23 (q := 24) rfl ?_
        refine z_iload_n rfl 2 rfl hC d_N_line_24 (q := 25) rfl ?_
        obtain ⟨v25, S25, hc25, h⟩ := bo_some h
        refine z_callVNi (q0 := 1) (As := [.int x1, .int x2]) hC hA (c_G_joins (z_lOf X) Ω n x1 x2 S8 (v25, S25) hc25) k_190 k_187 k_189 ks_0 k_2 h_G_joins (by rw [hM]; exact ⟨Nat.le_of_ble_eq_true rfl, Nat.le_of_ble_eq_true rfl⟩) ⟨Nat.zero_le _, Nat.zero_le _⟩ rfl rfl rfl (Nat.le_of_ble_eq_true rfl) rfl d_N_line_25 (q := 28) rfl ?_
        refine z_if_eq (tgt := 34) (q := 31) hC d_N_line_28 rfl rfl (fun hb => ?_) (fun hb => ?_)
        · have h := (if_pos hb).symm.trans h
          refine z_iload_n rfl 3 rfl hC d_N_line_34 (q := 35) rfl ?_
          refine z_iconst (v := (1 : Int32)) (by decide) hC d_N_line_35 (q := 36) rfl ?_
          refine z_iconst (v := (5 : Int32)) (by decide) hC d_N_line_36 (q := 37) rfl ?_
          obtain ⟨v37, S37, hc37, h⟩ := bo_some h
          refine z_callSi (As := [.int x3, .int (1 : Int32), .int (5 : Int32)]) hC hA (c_N_within (z_lOf X) Ω n x3 (1 : Int32) (5 : Int32) S25 (v37, S37) hc37) k_186 k_184 k_185 k_1 h_N_within (by rw [hM]; exact ⟨Nat.le_of_ble_eq_true rfl, Nat.le_of_ble_eq_true rfl⟩) ⟨Nat.zero_le _, Nat.zero_le _⟩ rfl (Nat.le_of_ble_eq_true rfl) rfl d_N_line_37 (q := 40) rfl ?_
          refine z_if_eq (tgt := 55) (q := 43) hC d_N_line_40 rfl rfl (fun hb => ?_) (fun hb => ?_)
          · have h := (if_pos hb).symm.trans h
            refine z_sub [0] rfl ?_
            exact w_N_line_55 hC hA hR hM n r S37 h
          · have h := (if_neg hb).symm.trans h
            refine z_iload 4 rfl hC d_N_line_43 (q := 45) rfl ?_
            refine z_iconst (v := (0 : Int32)) (by decide) hC d_N_line_45 (q := 46) rfl ?_
            refine z_sipush (v := (1000 : Int32)) (by decide) hC d_N_line_46 (q := 49) rfl ?_
            obtain ⟨v49, S49, hc49, h⟩ := bo_some h
            refine z_callSi (As := [.int x4, .int (0 : Int32), .int (1000 : Int32)]) hC hA (c_N_within (z_lOf X) Ω n x4 (0 : Int32) (1000 : Int32) S37 (v49, S49) hc49) k_186 k_184 k_185 k_1 h_N_within (by rw [hM]; exact ⟨Nat.le_of_ble_eq_true rfl, Nat.le_of_ble_eq_true rfl⟩) ⟨Nat.zero_le _, Nat.zero_le _⟩ rfl (Nat.le_of_ble_eq_true rfl) rfl d_N_line_49 (q := 52) rfl ?_
            refine z_if_ne (tgt := 58) (q := 55) hC d_N_line_52 rfl rfl (fun hb => ?_) (fun hb => ?_)
            · have h := (if_neg hb).symm.trans h
              refine z_aload_n rfl 0 rfl hC d_N_line_58 (q := 59) rfl ?_
              refine gf_N_12_0 hC d_N_line_59 (q := 62) rfl ?_
              refine gf_N_57_1 hC d_N_line_62 (q := 65) rfl ?_
              refine z_bipush (v := (6 : Int32)) (by decide) hC d_N_line_65 (q := 67) rfl ?_
              refine z_icmp_lt (tgt := 73) (q := 70) hC d_N_line_67 rfl rfl (fun hb => ?_) (fun hb => ?_)
              · have h := (if_pos hb).symm.trans h
                refine z_aload_n rfl 0 rfl hC d_N_line_73 (q := 74) rfl ?_
                refine gf_N_36_0 hC d_N_line_74 (q := 77) rfl ?_
                refine z_iconst (v := (0 : Int32)) (by decide) hC d_N_line_77 (q := 78) rfl ?_
                refine pf_N_61_5 (by decide) hC d_N_line_78 (q := 81) rfl ?_
                refine z_aload_n rfl 0 rfl hC d_N_line_81 (q := 82) rfl ?_
                refine gf_N_12_0 hC d_N_line_82 (q := 85) rfl ?_
                refine z_iload_n rfl 1 rfl hC d_N_line_85 (q := 86) rfl ?_
                refine z_iload_n rfl 2 rfl hC d_N_line_86 (q := 87) rfl ?_
                refine z_iload_n rfl 3 rfl hC d_N_line_87 (q := 88) rfl ?_
                refine z_iload 4 rfl hC d_N_line_88 (q := 90) rfl ?_
                obtain ⟨v90, S90, hc90, h⟩ := bo_some h
                refine z_callVNi (q0 := 1) (As := [.int x1, .int x2, .int x3, .int x4]) hC hA (c_G_add (z_lOf X) Ω n x1 x2 x3 x4 (sF S49 5 (0 : Int32)) (v90, S90) hc90) k_195 k_192 k_194 ks_1 k_2 h_G_add (by rw [hM]; exact ⟨Nat.le_of_ble_eq_true rfl, Nat.le_of_ble_eq_true rfl⟩) ⟨Nat.zero_le _, Nat.zero_le _⟩ rfl rfl rfl (Nat.le_of_ble_eq_true rfl) rfl d_N_line_90 (q := 93) rfl ?_
                cases h
                exact z_iret hC hR rfl rfl d_N_line_93
              · have h := (if_neg hb).symm.trans h
                refine z_ldc (v := (-2147483648 : Int32)) k_191 hC d_N_line_70 (q := 72) rfl ?_
                cases h
                exact z_iret hC hR rfl rfl d_N_line_72
            · have h := (if_pos hb).symm.trans h
              refine z_sub [0] rfl ?_
              exact w_N_line_55 hC hA hR hM n r S49 h
        · have h := (if_neg hb).symm.trans h
          refine z_sub [0] rfl ?_
          exact w_N_line_31 hC hA hR hM n r S25 h
theorem c_N_line (l : Launch) (Ω : z_O) (n : Nat) (x1 : Int32) (x2 : Int32) (x3 : Int32) (x4 : Int32) (S : z_S) (r : Int32 × z_S) (h : f_N_line n x1 x2 x3 x4 S = some r) : z_MI l Ω y_N_line b_N_line 5 .int 2 42 [.ref (Ω.2.2 0), .int x1, .int x2, .int x3, .int x4] (wN Ω S) r.1 (wN Ω r.2) := z_introI (by decide +kernel) (Nat.le_of_ble_eq_true rfl) rfl (fun X A hC hA hR _ hM => w_N_line hC hA hR hM n r x1 x2 x3 x4 S h)
def f_N_limit_22 (n : Nat) (S : z_S) : Option (Int32 × z_S) := some ((0 : Int32), S)
def f_N_limit (n : Nat) (x1 : Int32) (x2 : Int32) (S : z_S) : Option (Int32 × z_S) := bo (f_G_has n x1 S) (fun v5 S5 => (if v5 = 0 then f_N_limit_22 n S5 else bo (f_N_within n x2 (0 : Int32) (1000 : Int32) S5) (fun v16 S16 => (if v16 = 0 then f_N_limit_22 n S16 else ck (vi x1 6) (some ((1 : Int32), sI (sF S16 5 (0 : Int32)) 4 (upd (gI (sF S16 5 (0 : Int32)) 4) x1.toNatClampNeg x2)))))))
set_option maxRecDepth 20000 in
theorem w_N_limit_22 {X : z_X} {A : Nat → Prop} {Ω : z_O} (hC : z_C X b_N_limit 3 "NodalAuction" Ω) (hA : z_hA X A) (hR : z_R X (some .boolean)) (hM : z_rmOf X = z_rm 1 22) (n : Nat) (r : Int32 × z_S) (S : z_S) (h : f_N_limit_22 n S = some r) : z_At X A (z_QI X Ω A r.1 (wN Ω r.2)) Ω 0 0 3 22 [(0, .ref (Ω.2.2 0))] [] (wN Ω S) := by
  refine z_iconst (v := (0 : Int32)) (by decide) hC d_N_limit_22 (q := 23) rfl ?_
  cases h
  exact z_zret hC hR (by decide) rfl rfl d_N_limit_23
set_option maxRecDepth 20000 in
theorem w_N_limit {X : z_X} {A : Nat → Prop} {Ω : z_O} (hC : z_C X b_N_limit 3 "NodalAuction" Ω) (hA : z_hA X A) (hR : z_R X (some .boolean)) (hM : z_rmOf X = z_rm 1 22) (n : Nat) (r : Int32 × z_S) (x1 : Int32) (x2 : Int32) (S : z_S) (h : f_N_limit n x1 x2 S = some r) : z_At X A (z_QI X Ω A r.1 (wN Ω r.2)) Ω 0 0 3 0 [(0, .ref (Ω.2.2 0)), (1, .int x1), (2, .int x2)] [] (wN Ω S) := by
  refine z_aload_n rfl 0 rfl hC d_N_limit_0 (q := 1) rfl ?_
  refine gf_N_12_0 hC d_N_limit_1 (q := 4) rfl ?_
  refine z_iload_n rfl 1 rfl hC d_N_limit_4 (q := 5) rfl ?_
  obtain ⟨v5, S5, hc5, h⟩ := bo_some h
  refine z_callVNi (q0 := 1) (As := [.int x1]) hC hA (c_G_has (z_lOf X) Ω n x1 S (v5, S5) hc5) k_204 k_201 k_203 ks_2 k_2 h_G_has (by rw [hM]; exact ⟨Nat.le_of_ble_eq_true rfl, Nat.le_of_ble_eq_true rfl⟩) ⟨Nat.zero_le _, Nat.zero_le _⟩ rfl rfl rfl (Nat.le_of_ble_eq_true rfl) rfl d_N_limit_5 (q := 8) rfl ?_
  refine z_if_eq (tgt := 22) (q := 11) hC d_N_limit_8 rfl rfl (fun hb => ?_) (fun hb => ?_)
  · have h := (if_pos hb).symm.trans h
    refine z_sub [0] rfl ?_
    exact w_N_limit_22 hC hA hR hM n r S5 h
  · have h := (if_neg hb).symm.trans h
    refine z_iload_n rfl 2 rfl hC d_N_limit_11 (q := 12) rfl ?_
    refine z_iconst (v := (0 : Int32)) (by decide) hC d_N_limit_12 (q := 13) rfl ?_
    refine z_sipush (v := (1000 : Int32)) (by decide) hC d_N_limit_13 (q := 16) rfl ?_
    obtain ⟨v16, S16, hc16, h⟩ := bo_some h
    refine z_callSi (As := [.int x2, .int (0 : Int32), .int (1000 : Int32)]) hC hA (c_N_within (z_lOf X) Ω n x2 (0 : Int32) (1000 : Int32) S5 (v16, S16) hc16) k_186 k_184 k_185 k_1 h_N_within (by rw [hM]; exact ⟨Nat.le_of_ble_eq_true rfl, Nat.le_of_ble_eq_true rfl⟩) ⟨Nat.zero_le _, Nat.zero_le _⟩ rfl (Nat.le_of_ble_eq_true rfl) rfl d_N_limit_16 (q := 19) rfl ?_
    refine z_if_ne (tgt := 24) (q := 22) hC d_N_limit_19 rfl rfl (fun hb => ?_) (fun hb => ?_)
    · have h := (if_neg hb).symm.trans h
      refine z_aload_n rfl 0 rfl hC d_N_limit_24 (q := 25) rfl ?_
      refine gf_N_36_0 hC d_N_limit_25 (q := 28) rfl ?_
      refine z_iconst (v := (0 : Int32)) (by decide) hC d_N_limit_28 (q := 29) rfl ?_
      refine pf_N_61_5 (by decide) hC d_N_limit_29 (q := 32) rfl ?_
      refine z_aload_n rfl 0 rfl hC d_N_limit_32 (q := 33) rfl ?_
      refine gf_N_12_0 hC d_N_limit_33 (q := 36) rfl ?_
      refine gf_N_72_1 hC d_N_limit_36 (q := 39) rfl ?_
      refine z_iload_n rfl 1 rfl hC d_N_limit_39 (q := 40) rfl ?_
      refine z_iload_n rfl 2 rfl hC d_N_limit_40 (q := 41) rfl ?_
      obtain ⟨hv1, h⟩ := ck_some h
      refine as_wN_10 hC hv1 d_N_limit_41 (q := 42) rfl ?_
      refine z_iconst (v := (1 : Int32)) (by decide) hC d_N_limit_42 (q := 43) rfl ?_
      cases h
      exact z_zret hC hR (by decide) rfl rfl d_N_limit_43
    · have h := (if_pos hb).symm.trans h
      refine z_sub [0] rfl ?_
      exact w_N_limit_22 hC hA hR hM n r S16 h
theorem c_N_limit (l : Launch) (Ω : z_O) (n : Nat) (x1 : Int32) (x2 : Int32) (S : z_S) (r : Int32 × z_S) (h : f_N_limit n x1 x2 S = some r) : z_MI l Ω y_N_limit b_N_limit 3 .boolean 1 22 [.ref (Ω.2.2 0), .int x1, .int x2] (wN Ω S) r.1 (wN Ω r.2) := z_introI (by decide +kernel) (Nat.le_of_ble_eq_true rfl) rfl (fun X A hC hA hR _ hM => w_N_limit hC hA hR hM n r x1 x2 S h)
def f_N_cut (n : Nat) (x1 : Int32) (S : z_S) : Option (Int32 × z_S) := bo (f_G_has n x1 S) (fun v5 S5 => (if v5 = 0 then some ((0 : Int32), S5) else bo (f_G_remove n x1 (sF S5 5 (0 : Int32))) (fun _ S26 => some ((1 : Int32), S26))))
set_option maxRecDepth 20000 in
theorem w_N_cut {X : z_X} {A : Nat → Prop} {Ω : z_O} (hC : z_C X b_N_cut 2 "NodalAuction" Ω) (hA : z_hA X A) (hR : z_R X (some .boolean)) (hM : z_rmOf X = z_rm 1 22) (n : Nat) (r : Int32 × z_S) (x1 : Int32) (S : z_S) (h : f_N_cut n x1 S = some r) : z_At X A (z_QI X Ω A r.1 (wN Ω r.2)) Ω 0 0 2 0 [(0, .ref (Ω.2.2 0)), (1, .int x1)] [] (wN Ω S) := by
  refine z_aload_n rfl 0 rfl hC d_N_cut_0 (q := 1) rfl ?_
  refine gf_N_12_0 hC d_N_cut_1 (q := 4) rfl ?_
  refine z_iload_n rfl 1 rfl hC d_N_cut_4 (q := 5) rfl ?_
  obtain ⟨v5, S5, hc5, h⟩ := bo_some h
  refine z_callVNi (q0 := 1) (As := [.int x1]) hC hA (c_G_has (z_lOf X) Ω n x1 S (v5, S5) hc5) k_204 k_201 k_203 ks_2 k_2 h_G_has (by rw [hM]; exact ⟨Nat.le_of_ble_eq_true rfl, Nat.le_of_ble_eq_true rfl⟩) ⟨Nat.zero_le _, Nat.zero_le _⟩ rfl rfl rfl (Nat.le_of_ble_eq_true rfl) rfl d_N_cut_5 (q := 8) rfl ?_
  refine z_if_ne (tgt := 13) (q := 11) hC d_N_cut_8 rfl rfl (fun hb => ?_) (fun hb => ?_)
  · have h := (if_neg hb).symm.trans h
    refine z_aload_n rfl 0 rfl hC d_N_cut_13 (q := 14) rfl ?_
    refine gf_N_36_0 hC d_N_cut_14 (q := 17) rfl ?_
    refine z_iconst (v := (0 : Int32)) (by decide) hC d_N_cut_17 (q := 18) rfl ?_
    refine pf_N_61_5 (by decide) hC d_N_cut_18 (q := 21) rfl ?_
    refine z_aload_n rfl 0 rfl hC d_N_cut_21 (q := 22) rfl ?_
    refine gf_N_12_0 hC d_N_cut_22 (q := 25) rfl ?_
    refine z_iload_n rfl 1 rfl hC d_N_cut_25 (q := 26) rfl ?_
    obtain ⟨v26, S26, hc26, h⟩ := bo_some h
    refine z_callVNv (q0 := 1) (As := [.int x1]) hC hA (c_G_remove (z_lOf X) Ω n x1 (sF S5 5 (0 : Int32)) (v26, S26) hc26) k_212 k_209 k_211 ks_3 k_2 h_G_remove (by rw [hM]; exact ⟨Nat.le_of_ble_eq_true rfl, Nat.le_of_ble_eq_true rfl⟩) ⟨Nat.zero_le _, Nat.zero_le _⟩ rfl rfl rfl (Nat.le_of_ble_eq_true rfl) rfl d_N_cut_26 (q := 29) rfl ?_
    refine z_iconst (v := (1 : Int32)) (by decide) hC d_N_cut_29 (q := 30) rfl ?_
    cases h
    exact z_zret hC hR (by decide) rfl rfl d_N_cut_30
  · have h := (if_pos hb).symm.trans h
    refine z_iconst (v := (0 : Int32)) (by decide) hC d_N_cut_11 (q := 12) rfl ?_
    cases h
    exact z_zret hC hR (by decide) rfl rfl d_N_cut_12
theorem c_N_cut (l : Launch) (Ω : z_O) (n : Nat) (x1 : Int32) (S : z_S) (r : Int32 × z_S) (h : f_N_cut n x1 S = some r) : z_MI l Ω y_N_cut b_N_cut 2 .boolean 1 22 [.ref (Ω.2.2 0), .int x1] (wN Ω S) r.1 (wN Ω r.2) := z_introI (by decide +kernel) (Nat.le_of_ble_eq_true rfl) rfl (fun X A hC hA hR _ hM => w_N_cut hC hA hR hM n r x1 S h)
def f_N_bid (n : Nat) (x1 : Int32) (x2 : Int32) (x3 : Int32) (S : z_S) : Option (Int32 × z_S) := bo (f_N_addStep n (1 : Int32) x1 x2 x3 S) (fun v5 S5 => some (v5, S5))
set_option maxRecDepth 20000 in
theorem w_N_bid {X : z_X} {A : Nat → Prop} {Ω : z_O} (hC : z_C X b_N_bid 4 "NodalAuction" Ω) (hA : z_hA X A) (hR : z_R X (some .int)) (hM : z_rmOf X = z_rm 3 66) (n : Nat) (r : Int32 × z_S) (x1 : Int32) (x2 : Int32) (x3 : Int32) (S : z_S) (h : f_N_bid n x1 x2 x3 S = some r) : z_At X A (z_QI X Ω A r.1 (wN Ω r.2)) Ω 0 0 4 0 [(0, .ref (Ω.2.2 0)), (1, .int x1), (2, .int x2), (3, .int x3)] [] (wN Ω S) := by
  refine z_aload_n rfl 0 rfl hC d_N_bid_0 (q := 1) rfl ?_
  refine z_iconst (v := (1 : Int32)) (by decide) hC d_N_bid_1 (q := 2) rfl ?_
  refine z_iload_n rfl 1 rfl hC d_N_bid_2 (q := 3) rfl ?_
  refine z_iload_n rfl 2 rfl hC d_N_bid_3 (q := 4) rfl ?_
  refine z_iload_n rfl 3 rfl hC d_N_bid_4 (q := 5) rfl ?_
  obtain ⟨v5, S5, hc5, h⟩ := bo_some h
  refine z_callVi (q0 := 0) (As := [.int (1 : Int32), .int x1, .int x2, .int x3]) hC hA (c_N_addStep (z_lOf X) Ω n (1 : Int32) x1 x2 x3 S (v5, S5) hc5) k_220 k_217 k_219 ks_4 k_1 h_N_addStep (by rw [hM]; exact ⟨Nat.le_of_ble_eq_true rfl, Nat.le_of_ble_eq_true rfl⟩) ⟨Nat.zero_le _, Nat.zero_le _⟩ rfl rfl rfl (Nat.le_of_ble_eq_true rfl) rfl d_N_bid_5 (q := 8) rfl ?_
  cases h
  exact z_iret hC hR rfl rfl d_N_bid_8
theorem c_N_bid (l : Launch) (Ω : z_O) (n : Nat) (x1 : Int32) (x2 : Int32) (x3 : Int32) (S : z_S) (r : Int32 × z_S) (h : f_N_bid n x1 x2 x3 S = some r) : z_MI l Ω y_N_bid b_N_bid 4 .int 3 66 [.ref (Ω.2.2 0), .int x1, .int x2, .int x3] (wN Ω S) r.1 (wN Ω r.2) := z_introI (by decide +kernel) (Nat.le_of_ble_eq_true rfl) rfl (fun X A hC hA hR _ hM => w_N_bid hC hA hR hM n r x1 x2 x3 S h)
def f_N_offer (n : Nat) (x1 : Int32) (x2 : Int32) (x3 : Int32) (S : z_S) : Option (Int32 × z_S) := bo (f_N_addStep n (-1 : Int32) x1 x2 x3 S) (fun v5 S5 => some (v5, S5))
set_option maxRecDepth 20000 in
theorem w_N_offer {X : z_X} {A : Nat → Prop} {Ω : z_O} (hC : z_C X b_N_offer 4 "NodalAuction" Ω) (hA : z_hA X A) (hR : z_R X (some .int)) (hM : z_rmOf X = z_rm 3 66) (n : Nat) (r : Int32 × z_S) (x1 : Int32) (x2 : Int32) (x3 : Int32) (S : z_S) (h : f_N_offer n x1 x2 x3 S = some r) : z_At X A (z_QI X Ω A r.1 (wN Ω r.2)) Ω 0 0 4 0 [(0, .ref (Ω.2.2 0)), (1, .int x1), (2, .int x2), (3, .int x3)] [] (wN Ω S) := by
  refine z_aload_n rfl 0 rfl hC d_N_offer_0 (q := 1) rfl ?_
  refine z_iconst (v := (-1 : Int32)) (by decide) hC d_N_offer_1 (q := 2) rfl ?_
  refine z_iload_n rfl 1 rfl hC d_N_offer_2 (q := 3) rfl ?_
  refine z_iload_n rfl 2 rfl hC d_N_offer_3 (q := 4) rfl ?_
  refine z_iload_n rfl 3 rfl hC d_N_offer_4 (q := 5) rfl ?_
  obtain ⟨v5, S5, hc5, h⟩ := bo_some h
  refine z_callVi (q0 := 0) (As := [.int (-1 : Int32), .int x1, .int x2, .int x3]) hC hA (c_N_addStep (z_lOf X) Ω n (-1 : Int32) x1 x2 x3 S (v5, S5) hc5) k_220 k_217 k_219 ks_4 k_1 h_N_addStep (by rw [hM]; exact ⟨Nat.le_of_ble_eq_true rfl, Nat.le_of_ble_eq_true rfl⟩) ⟨Nat.zero_le _, Nat.zero_le _⟩ rfl rfl rfl (Nat.le_of_ble_eq_true rfl) rfl d_N_offer_5 (q := 8) rfl ?_
  cases h
  exact z_iret hC hR rfl rfl d_N_offer_8
theorem c_N_offer (l : Launch) (Ω : z_O) (n : Nat) (x1 : Int32) (x2 : Int32) (x3 : Int32) (S : z_S) (r : Int32 × z_S) (h : f_N_offer n x1 x2 x3 S = some r) : z_MI l Ω y_N_offer b_N_offer 4 .int 3 66 [.ref (Ω.2.2 0), .int x1, .int x2, .int x3] (wN Ω S) r.1 (wN Ω r.2) := z_introI (by decide +kernel) (Nat.le_of_ble_eq_true rfl) rfl (fun X A hC hA hR _ hM => w_N_offer hC hA hR hM n r x1 x2 x3 S h)
def f_N_cancel (n : Nat) (x1 : Int32) (S : z_S) : Option (Int32 × z_S) := bo (f_B_has n x1 S) (fun v5 S5 => (if v5 = 0 then some ((0 : Int32), S5) else bo (f_B_remove n x1 (sF S5 5 (0 : Int32))) (fun _ S26 => some ((1 : Int32), S26))))
set_option maxRecDepth 20000 in
theorem w_N_cancel {X : z_X} {A : Nat → Prop} {Ω : z_O} (hC : z_C X b_N_cancel 2 "NodalAuction" Ω) (hA : z_hA X A) (hR : z_R X (some .boolean)) (hM : z_rmOf X = z_rm 1 22) (n : Nat) (r : Int32 × z_S) (x1 : Int32) (S : z_S) (h : f_N_cancel n x1 S = some r) : z_At X A (z_QI X Ω A r.1 (wN Ω r.2)) Ω 0 0 2 0 [(0, .ref (Ω.2.2 0)), (1, .int x1)] [] (wN Ω S) := by
  refine z_aload_n rfl 0 rfl hC d_N_cancel_0 (q := 1) rfl ?_
  refine gf_N_19_0 hC d_N_cancel_1 (q := 4) rfl ?_
  refine z_iload_n rfl 1 rfl hC d_N_cancel_4 (q := 5) rfl ?_
  obtain ⟨v5, S5, hc5, h⟩ := bo_some h
  refine z_callVNi (q0 := 2) (As := [.int x1]) hC hA (c_B_has (z_lOf X) Ω n x1 S (v5, S5) hc5) k_237 k_234 k_236 ks_6 k_3 h_B_has (by rw [hM]; exact ⟨Nat.le_of_ble_eq_true rfl, Nat.le_of_ble_eq_true rfl⟩) ⟨Nat.zero_le _, Nat.zero_le _⟩ rfl rfl rfl (Nat.le_of_ble_eq_true rfl) rfl d_N_cancel_5 (q := 8) rfl ?_
  refine z_if_ne (tgt := 13) (q := 11) hC d_N_cancel_8 rfl rfl (fun hb => ?_) (fun hb => ?_)
  · have h := (if_neg hb).symm.trans h
    refine z_aload_n rfl 0 rfl hC d_N_cancel_13 (q := 14) rfl ?_
    refine gf_N_36_0 hC d_N_cancel_14 (q := 17) rfl ?_
    refine z_iconst (v := (0 : Int32)) (by decide) hC d_N_cancel_17 (q := 18) rfl ?_
    refine pf_N_61_5 (by decide) hC d_N_cancel_18 (q := 21) rfl ?_
    refine z_aload_n rfl 0 rfl hC d_N_cancel_21 (q := 22) rfl ?_
    refine gf_N_19_0 hC d_N_cancel_22 (q := 25) rfl ?_
    refine z_iload_n rfl 1 rfl hC d_N_cancel_25 (q := 26) rfl ?_
    obtain ⟨v26, S26, hc26, h⟩ := bo_some h
    refine z_callVNv (q0 := 2) (As := [.int x1]) hC hA (c_B_remove (z_lOf X) Ω n x1 (sF S5 5 (0 : Int32)) (v26, S26) hc26) k_241 k_238 k_240 ks_7 k_3 h_B_remove (by rw [hM]; exact ⟨Nat.le_of_ble_eq_true rfl, Nat.le_of_ble_eq_true rfl⟩) ⟨Nat.zero_le _, Nat.zero_le _⟩ rfl rfl rfl (Nat.le_of_ble_eq_true rfl) rfl d_N_cancel_26 (q := 29) rfl ?_
    refine z_iconst (v := (1 : Int32)) (by decide) hC d_N_cancel_29 (q := 30) rfl ?_
    cases h
    exact z_zret hC hR (by decide) rfl rfl d_N_cancel_30
  · have h := (if_pos hb).symm.trans h
    refine z_iconst (v := (0 : Int32)) (by decide) hC d_N_cancel_11 (q := 12) rfl ?_
    cases h
    exact z_zret hC hR (by decide) rfl rfl d_N_cancel_12
theorem c_N_cancel (l : Launch) (Ω : z_O) (n : Nat) (x1 : Int32) (S : z_S) (r : Int32 × z_S) (h : f_N_cancel n x1 S = some r) : z_MI l Ω y_N_cancel b_N_cancel 2 .boolean 1 22 [.ref (Ω.2.2 0), .int x1] (wN Ω S) r.1 (wN Ω r.2) := z_introI (by decide +kernel) (Nat.le_of_ble_eq_true rfl) rfl (fun X A hC hA hR _ hM => w_N_cancel hC hA hR hM n r x1 S h)
def f_N_clear_42 (n : Nat) : Nat → Int32 → z_S → Option (Int32 × z_S)
  | 0, _, _ => none
  | q + 1, x1, S => (if (gF S 1) ≤ x1 then bo (f_O_take n S) (fun _ S83 => bo (f_O_taken n (gF S83 1) S83) (fun v97 S97 => some (v97, S97))) else bo (f_P_maximise n x1 S) (fun _ S58 => f_N_clear_42 n q (x1 + (1 : Int32)) S58))
def f_N_clear (n : Nat) (S : z_S) : Option (Int32 × z_S) := bo (f_P_load n (0 : Int32) (0 : Int32) (sF S 5 (0 : Int32))) (fun v22 S22 => (if v22 = 0 then some ((-2147483648 : Int32), S22) else bo (f_P_maximise n (15 : Int32) S22) (fun _ S37 => f_N_clear_42 n n (0 : Int32) S37)))
set_option maxRecDepth 20000 in
theorem w_N_clear_42 {X : z_X} {A : Nat → Prop} {Ω : z_O} (hC : z_C X b_N_clear 2 "NodalAuction" Ω) (hA : z_hA X A) (hR : z_R X (some .int)) (hM : z_rmOf X = z_rm 4 119) (n : Nat) (r : Int32 × z_S) : ∀ (q : Nat) (x1 : Int32) (S : z_S), f_N_clear_42 n q x1 S = some r → z_At X A (z_QI X Ω A r.1 (wN Ω r.2)) Ω 0 0 2 42 [(0, .ref (Ω.2.2 0)), (1, .int x1)] [] (wN Ω S) := by
  intro q
  induction q with
  | zero => intro x1 S h; cases h
  | succ q ih =>
    intro x1 S h
    refine z_iload_n rfl 1 rfl hC d_N_clear_42 (q := 43) rfl ?_
    refine z_aload_n rfl 0 rfl hC d_N_clear_43 (q := 44) rfl ?_
    refine gf_N_19_0 hC d_N_clear_44 (q := 47) rfl ?_
    refine gf_N_91_2 hC d_N_clear_47 (q := 50) rfl ?_
    refine z_icmp_ge (tgt := 67) (q := 53) hC d_N_clear_50 rfl rfl (fun hb => ?_) (fun hb => ?_)
    · have h := (if_pos hb).symm.trans h
      refine z_aload_n rfl 0 rfl hC d_N_clear_67 (q := 68) rfl ?_
      refine gf_N_36_0 hC d_N_clear_68 (q := 71) rfl ?_
      refine z_aload_n rfl 0 rfl hC d_N_clear_71 (q := 72) rfl ?_
      refine gf_N_29_0 hC d_N_clear_72 (q := 75) rfl ?_
      refine z_aload_n rfl 0 rfl hC d_N_clear_75 (q := 76) rfl ?_
      refine gf_N_12_0 hC d_N_clear_76 (q := 79) rfl ?_
      refine z_aload_n rfl 0 rfl hC d_N_clear_79 (q := 80) rfl ?_
      refine gf_N_19_0 hC d_N_clear_80 (q := 83) rfl ?_
      obtain ⟨v83, S83, hc83, h⟩ := bo_some h
      refine z_callVNv (q0 := 5) (As := [.ref (Ω.2.2 4), .ref (Ω.2.2 1), .ref (Ω.2.2 2)]) hC hA (c_O_take (z_lOf X) Ω n S (v83, S83) hc83) k_325 k_322 k_324 ks_25 k_5 h_O_take (by rw [hM]; exact ⟨Nat.le_of_ble_eq_true rfl, Nat.le_of_ble_eq_true rfl⟩) ⟨Nat.zero_le _, Nat.zero_le _⟩ rfl rfl rfl (Nat.le_of_ble_eq_true rfl) rfl d_N_clear_83 (q := 86) rfl ?_
      refine z_aload_n rfl 0 rfl hC d_N_clear_86 (q := 87) rfl ?_
      refine gf_N_36_0 hC d_N_clear_87 (q := 90) rfl ?_
      refine z_aload_n rfl 0 rfl hC d_N_clear_90 (q := 91) rfl ?_
      refine gf_N_19_0 hC d_N_clear_91 (q := 94) rfl ?_
      refine gf_N_91_2 hC d_N_clear_94 (q := 97) rfl ?_
      obtain ⟨v97, S97, hc97, h⟩ := bo_some h
      refine z_callVNi (q0 := 5) (As := [.int (gF S83 1)]) hC hA (c_O_taken (z_lOf X) Ω n (gF S83 1) S83 (v97, S97) hc97) k_337 k_334 k_336 ks_27 k_5 h_O_taken (by rw [hM]; exact ⟨Nat.le_of_ble_eq_true rfl, Nat.le_of_ble_eq_true rfl⟩) ⟨Nat.zero_le _, Nat.zero_le _⟩ rfl rfl rfl (Nat.le_of_ble_eq_true rfl) rfl d_N_clear_97 (q := 100) rfl ?_
      cases h
      exact z_iret hC hR rfl rfl d_N_clear_100
    · have h := (if_neg hb).symm.trans h
      refine z_aload_n rfl 0 rfl hC d_N_clear_53 (q := 54) rfl ?_
      refine gf_N_29_0 hC d_N_clear_54 (q := 57) rfl ?_
      refine z_iload_n rfl 1 rfl hC d_N_clear_57 (q := 58) rfl ?_
      obtain ⟨v58, S58, hc58, h⟩ := bo_some h
      refine z_callVNv (q0 := 4) (As := [.int x1]) hC hA (c_P_maximise (z_lOf X) Ω n x1 S (v58, S58) hc58) k_280 k_277 k_279 ks_15 k_4 h_P_maximise (by rw [hM]; exact ⟨Nat.le_of_ble_eq_true rfl, Nat.le_of_ble_eq_true rfl⟩) ⟨Nat.zero_le _, Nat.zero_le _⟩ rfl rfl rfl (Nat.le_of_ble_eq_true rfl) rfl d_N_clear_58 (q := 61) rfl ?_
      refine z_iinc (lv' := [(1, .int (x1 + (1 : Int32))), (0, .ref (Ω.2.2 0))]) 1 rfl rfl (by decide) rfl hC d_N_clear_61 (q := 64) rfl ?_
      refine z_goto (tgt := 42) hC d_N_clear_64 rfl ?_
      refine z_sub [1, 0] rfl ?_
      exact ih (x1 + (1 : Int32)) S58 h
set_option maxRecDepth 20000 in
theorem w_N_clear {X : z_X} {A : Nat → Prop} {Ω : z_O} (hC : z_C X b_N_clear 2 "NodalAuction" Ω) (hA : z_hA X A) (hR : z_R X (some .int)) (hM : z_rmOf X = z_rm 4 119) (n : Nat) (r : Int32 × z_S) (S : z_S) (h : f_N_clear n S = some r) : z_At X A (z_QI X Ω A r.1 (wN Ω r.2)) Ω 0 0 2 0 [(0, .ref (Ω.2.2 0))] [] (wN Ω S) := by
  refine z_aload_n rfl 0 rfl hC d_N_clear_0 (q := 1) rfl ?_
  refine gf_N_36_0 hC d_N_clear_1 (q := 4) rfl ?_
  refine z_iconst (v := (0 : Int32)) (by decide) hC d_N_clear_4 (q := 5) rfl ?_
  refine pf_N_61_5 (by decide) hC d_N_clear_5 (q := 8) rfl ?_
  refine z_aload_n rfl 0 rfl hC d_N_clear_8 (q := 9) rfl ?_
  refine gf_N_29_0 hC d_N_clear_9 (q := 12) rfl ?_
  refine z_aload_n rfl 0 rfl hC d_N_clear_12 (q := 13) rfl ?_
  refine gf_N_12_0 hC d_N_clear_13 (q := 16) rfl ?_
  refine z_aload_n rfl 0 rfl hC d_N_clear_16 (q := 17) rfl ?_
  refine gf_N_19_0 hC d_N_clear_17 (q := 20) rfl ?_
  refine z_iconst (v := (0 : Int32)) (by decide) hC d_N_clear_20 (q := 21) rfl ?_
  refine z_iconst (v := (0 : Int32)) (by decide) hC d_N_clear_21 (q := 22) rfl ?_
  obtain ⟨v22, S22, hc22, h⟩ := bo_some h
  refine z_callVNi (q0 := 4) (As := [.ref (Ω.2.2 1), .ref (Ω.2.2 2), .int (0 : Int32), .int (0 : Int32)]) hC hA (c_P_load (z_lOf X) Ω n (0 : Int32) (0 : Int32) (sF S 5 (0 : Int32)) (v22, S22) hc22) k_249 k_246 k_248 ks_8 k_4 h_P_load (by rw [hM]; exact ⟨Nat.le_of_ble_eq_true rfl, Nat.le_of_ble_eq_true rfl⟩) ⟨Nat.zero_le _, Nat.zero_le _⟩ rfl rfl rfl (Nat.le_of_ble_eq_true rfl) rfl d_N_clear_22 (q := 25) rfl ?_
  refine z_if_ne (tgt := 31) (q := 28) hC d_N_clear_25 rfl rfl (fun hb => ?_) (fun hb => ?_)
  · have h := (if_neg hb).symm.trans h
    refine z_aload_n rfl 0 rfl hC d_N_clear_31 (q := 32) rfl ?_
    refine gf_N_29_0 hC d_N_clear_32 (q := 35) rfl ?_
    refine z_bipush (v := (15 : Int32)) (by decide) hC d_N_clear_35 (q := 37) rfl ?_
    obtain ⟨v37, S37, hc37, h⟩ := bo_some h
    refine z_callVNv (q0 := 4) (As := [.int (15 : Int32)]) hC hA (c_P_maximise (z_lOf X) Ω n (15 : Int32) S22 (v37, S37) hc37) k_280 k_277 k_279 ks_15 k_4 h_P_maximise (by rw [hM]; exact ⟨Nat.le_of_ble_eq_true rfl, Nat.le_of_ble_eq_true rfl⟩) ⟨Nat.zero_le _, Nat.zero_le _⟩ rfl rfl rfl (Nat.le_of_ble_eq_true rfl) rfl d_N_clear_37 (q := 40) rfl ?_
    refine z_iconst (v := (0 : Int32)) (by decide) hC d_N_clear_40 (q := 41) rfl ?_
    refine z_istore_n (lv' := [(1, .int (0 : Int32)), (0, .ref (Ω.2.2 0))]) rfl (by decide) rfl hC d_N_clear_41 (q := 42) rfl ?_
    refine z_sub [1, 0] rfl ?_
    exact w_N_clear_42 hC hA hR hM n r n (0 : Int32) S37 h
  · have h := (if_pos hb).symm.trans h
    refine z_ldc (v := (-2147483648 : Int32)) k_191 hC d_N_clear_28 (q := 30) rfl ?_
    cases h
    exact z_iret hC hR rfl rfl d_N_clear_30
theorem c_N_clear (l : Launch) (Ω : z_O) (n : Nat) (S : z_S) (r : Int32 × z_S) (h : f_N_clear n S = some r) : z_MI l Ω y_N_clear b_N_clear 2 .int 4 119 [.ref (Ω.2.2 0)] (wN Ω S) r.1 (wN Ω r.2) := z_introI (by decide +kernel) (Nat.le_of_ble_eq_true rfl) rfl (fun X A hC hA hR _ hM => w_N_clear hC hA hR hM n r S h)
def f_N_steps (n : Nat) (S : z_S) : Option (Int32 × z_S) := some (gF S 1, S)
set_option maxRecDepth 20000 in
theorem w_N_steps {X : z_X} {A : Nat → Prop} {Ω : z_O} (hC : z_C X b_N_steps 1 "NodalAuction" Ω) (hA : z_hA X A) (hR : z_R X (some .int)) (hM : z_rmOf X = z_rm 0 0) (n : Nat) (r : Int32 × z_S) (S : z_S) (h : f_N_steps n S = some r) : z_At X A (z_QI X Ω A r.1 (wN Ω r.2)) Ω 0 0 1 0 [(0, .ref (Ω.2.2 0))] [] (wN Ω S) := by
  refine z_aload_n rfl 0 rfl hC d_N_steps_0 (q := 1) rfl ?_
  refine gf_N_19_0 hC d_N_steps_1 (q := 4) rfl ?_
  refine gf_N_91_2 hC d_N_steps_4 (q := 7) rfl ?_
  cases h
  exact z_iret hC hR rfl rfl d_N_steps_7
theorem c_N_steps (l : Launch) (Ω : z_O) (n : Nat) (S : z_S) (r : Int32 × z_S) (h : f_N_steps n S = some r) : z_MI l Ω y_N_steps b_N_steps 1 .int 0 0 [.ref (Ω.2.2 0)] (wN Ω S) r.1 (wN Ω r.2) := z_introI (by decide +kernel) (Nat.le_of_ble_eq_true rfl) rfl (fun X A hC hA hR _ hM => w_N_steps hC hA hR hM n r S h)
def f_N_lines (n : Nat) (S : z_S) : Option (Int32 × z_S) := some (gF S 0, S)
set_option maxRecDepth 20000 in
theorem w_N_lines {X : z_X} {A : Nat → Prop} {Ω : z_O} (hC : z_C X b_N_lines 1 "NodalAuction" Ω) (hA : z_hA X A) (hR : z_R X (some .int)) (hM : z_rmOf X = z_rm 0 0) (n : Nat) (r : Int32 × z_S) (S : z_S) (h : f_N_lines n S = some r) : z_At X A (z_QI X Ω A r.1 (wN Ω r.2)) Ω 0 0 1 0 [(0, .ref (Ω.2.2 0))] [] (wN Ω S) := by
  refine z_aload_n rfl 0 rfl hC d_N_lines_0 (q := 1) rfl ?_
  refine gf_N_12_0 hC d_N_lines_1 (q := 4) rfl ?_
  refine gf_N_57_1 hC d_N_lines_4 (q := 7) rfl ?_
  cases h
  exact z_iret hC hR rfl rfl d_N_lines_7
theorem c_N_lines (l : Launch) (Ω : z_O) (n : Nat) (S : z_S) (r : Int32 × z_S) (h : f_N_lines n S = some r) : z_MI l Ω y_N_lines b_N_lines 1 .int 0 0 [.ref (Ω.2.2 0)] (wN Ω S) r.1 (wN Ω r.2) := z_introI (by decide +kernel) (Nat.le_of_ble_eq_true rfl) rfl (fun X A hC hA hR _ hM => w_N_lines hC hA hR hM n r S h)
def f_N_scale_21 (n : Nat) (t0 : Int32) (S : z_S) : Option (Int32 × z_S) := some (t0, S)
def f_N_scale (n : Nat) (S : z_S) : Option (Int32 × z_S) := (if (gF S 5) = 0 then f_N_scale_21 n (0 : Int32) S else f_N_scale_21 n (gF S 6) S)
set_option maxRecDepth 20000 in
theorem w_N_scale_21 {X : z_X} {A : Nat → Prop} {Ω : z_O} (hC : z_C X b_N_scale 1 "NodalAuction" Ω) (hA : z_hA X A) (hR : z_R X (some .int)) (hM : z_rmOf X = z_rm 0 0) (n : Nat) (r : Int32 × z_S) (t0 : Int32) (S : z_S) (h : f_N_scale_21 n t0 S = some r) : z_At X A (z_QI X Ω A r.1 (wN Ω r.2)) Ω 0 0 1 21 [(0, .ref (Ω.2.2 0))] [.int t0] (wN Ω S) := by
  cases h
  exact z_iret hC hR rfl rfl d_N_scale_21
set_option maxRecDepth 20000 in
theorem w_N_scale {X : z_X} {A : Nat → Prop} {Ω : z_O} (hC : z_C X b_N_scale 1 "NodalAuction" Ω) (hA : z_hA X A) (hR : z_R X (some .int)) (hM : z_rmOf X = z_rm 0 0) (n : Nat) (r : Int32 × z_S) (S : z_S) (h : f_N_scale n S = some r) : z_At X A (z_QI X Ω A r.1 (wN Ω r.2)) Ω 0 0 1 0 [(0, .ref (Ω.2.2 0))] [] (wN Ω S) := by
  refine z_aload_n rfl 0 rfl hC d_N_scale_0 (q := 1) rfl ?_
  refine gf_N_36_0 hC d_N_scale_1 (q := 4) rfl ?_
  refine gf_N_61_5 hC d_N_scale_4 (q := 7) rfl ?_
  refine z_if_eq (tgt := 20) (q := 10) hC d_N_scale_7 rfl rfl (fun hb => ?_) (fun hb => ?_)
  · have h := (if_pos hb).symm.trans h
    refine z_iconst (v := (0 : Int32)) (by decide) hC d_N_scale_20 (q := 21) rfl ?_
    exact w_N_scale_21 hC hA hR hM n r (0 : Int32) S h
  · have h := (if_neg hb).symm.trans h
    refine z_aload_n rfl 0 rfl hC d_N_scale_10 (q := 11) rfl ?_
    refine gf_N_36_0 hC d_N_scale_11 (q := 14) rfl ?_
    refine gf_N_100_5 hC d_N_scale_14 (q := 17) rfl ?_
    refine z_goto (tgt := 21) hC d_N_scale_17 rfl ?_
    exact w_N_scale_21 hC hA hR hM n r (gF S 6) S h
theorem c_N_scale (l : Launch) (Ω : z_O) (n : Nat) (S : z_S) (r : Int32 × z_S) (h : f_N_scale n S = some r) : z_MI l Ω y_N_scale b_N_scale 1 .int 0 0 [.ref (Ω.2.2 0)] (wN Ω S) r.1 (wN Ω r.2) := z_introI (by decide +kernel) (Nat.le_of_ble_eq_true rfl) rfl (fun X A hC hA hR _ hM => w_N_scale hC hA hR hM n r S h)
def f_N_accepted_35 (n : Nat) (t0 : Int32) (S : z_S) : Option (Int32 × z_S) := some (t0, S)
def f_N_accepted_33 (n : Nat) (S : z_S) : Option (Int32 × z_S) := f_N_accepted_35 n (-2147483648 : Int32) S
def f_N_accepted (n : Nat) (x1 : Int32) (S : z_S) : Option (Int32 × z_S) := (if (gF S 5) = 0 then f_N_accepted_33 n S else bo (f_B_has n x1 S) (fun v15 S15 => (if v15 = 0 then f_N_accepted_33 n S15 else ck (vi x1 8) (f_N_accepted_35 n (gI S15 19 x1.toNatClampNeg) S15))))
set_option maxRecDepth 20000 in
theorem w_N_accepted_35 {X : z_X} {A : Nat → Prop} {Ω : z_O} (hC : z_C X b_N_accepted 2 "NodalAuction" Ω) (hA : z_hA X A) (hR : z_R X (some .int)) (hM : z_rmOf X = z_rm 1 21) (n : Nat) (r : Int32 × z_S) (t0 : Int32) (S : z_S) (h : f_N_accepted_35 n t0 S = some r) : z_At X A (z_QI X Ω A r.1 (wN Ω r.2)) Ω 0 0 2 35 [(0, .ref (Ω.2.2 0))] [.int t0] (wN Ω S) := by
  cases h
  exact z_iret hC hR rfl rfl d_N_accepted_35
set_option maxRecDepth 20000 in
theorem w_N_accepted_33 {X : z_X} {A : Nat → Prop} {Ω : z_O} (hC : z_C X b_N_accepted 2 "NodalAuction" Ω) (hA : z_hA X A) (hR : z_R X (some .int)) (hM : z_rmOf X = z_rm 1 21) (n : Nat) (r : Int32 × z_S) (S : z_S) (h : f_N_accepted_33 n S = some r) : z_At X A (z_QI X Ω A r.1 (wN Ω r.2)) Ω 0 0 2 33 [(0, .ref (Ω.2.2 0))] [] (wN Ω S) := by
  refine z_ldc (v := (-2147483648 : Int32)) k_191 hC d_N_accepted_33 (q := 35) rfl ?_
  exact w_N_accepted_35 hC hA hR hM n r (-2147483648 : Int32) S h
set_option maxRecDepth 20000 in
theorem w_N_accepted {X : z_X} {A : Nat → Prop} {Ω : z_O} (hC : z_C X b_N_accepted 2 "NodalAuction" Ω) (hA : z_hA X A) (hR : z_R X (some .int)) (hM : z_rmOf X = z_rm 1 21) (n : Nat) (r : Int32 × z_S) (x1 : Int32) (S : z_S) (h : f_N_accepted n x1 S = some r) : z_At X A (z_QI X Ω A r.1 (wN Ω r.2)) Ω 0 0 2 0 [(0, .ref (Ω.2.2 0)), (1, .int x1)] [] (wN Ω S) := by
  refine z_aload_n rfl 0 rfl hC d_N_accepted_0 (q := 1) rfl ?_
  refine gf_N_36_0 hC d_N_accepted_1 (q := 4) rfl ?_
  refine gf_N_61_5 hC d_N_accepted_4 (q := 7) rfl ?_
  refine z_if_eq (tgt := 33) (q := 10) hC d_N_accepted_7 rfl rfl (fun hb => ?_) (fun hb => ?_)
  · have h := (if_pos hb).symm.trans h
    refine z_sub [0] rfl ?_
    exact w_N_accepted_33 hC hA hR hM n r S h
  · have h := (if_neg hb).symm.trans h
    refine z_aload_n rfl 0 rfl hC d_N_accepted_10 (q := 11) rfl ?_
    refine gf_N_19_0 hC d_N_accepted_11 (q := 14) rfl ?_
    refine z_iload_n rfl 1 rfl hC d_N_accepted_14 (q := 15) rfl ?_
    obtain ⟨v15, S15, hc15, h⟩ := bo_some h
    refine z_callVNi (q0 := 2) (As := [.int x1]) hC hA (c_B_has (z_lOf X) Ω n x1 S (v15, S15) hc15) k_237 k_234 k_236 ks_6 k_3 h_B_has (by rw [hM]; exact ⟨Nat.le_of_ble_eq_true rfl, Nat.le_of_ble_eq_true rfl⟩) ⟨Nat.zero_le _, Nat.zero_le _⟩ rfl rfl rfl (Nat.le_of_ble_eq_true rfl) rfl d_N_accepted_15 (q := 18) rfl ?_
    refine z_if_eq (tgt := 33) (q := 21) hC d_N_accepted_18 rfl rfl (fun hb => ?_) (fun hb => ?_)
    · have h := (if_pos hb).symm.trans h
      refine z_sub [0] rfl ?_
      exact w_N_accepted_33 hC hA hR hM n r S15 h
    · have h := (if_neg hb).symm.trans h
      refine z_aload_n rfl 0 rfl hC d_N_accepted_21 (q := 22) rfl ?_
      refine gf_N_36_0 hC d_N_accepted_22 (q := 25) rfl ?_
      refine gf_N_103_5 hC d_N_accepted_25 (q := 28) rfl ?_
      refine z_iload_n rfl 1 rfl hC d_N_accepted_28 (q := 29) rfl ?_
      obtain ⟨hv1, h⟩ := ck_some h
      refine al_wN_28 hC hv1 d_N_accepted_29 (q := 30) rfl ?_
      refine z_goto (tgt := 35) hC d_N_accepted_30 rfl ?_
      refine z_sub [0] rfl ?_
      exact w_N_accepted_35 hC hA hR hM n r (gI S15 19 x1.toNatClampNeg) S15 h
theorem c_N_accepted (l : Launch) (Ω : z_O) (n : Nat) (x1 : Int32) (S : z_S) (r : Int32 × z_S) (h : f_N_accepted n x1 S = some r) : z_MI l Ω y_N_accepted b_N_accepted 2 .int 1 21 [.ref (Ω.2.2 0), .int x1] (wN Ω S) r.1 (wN Ω r.2) := z_introI (by decide +kernel) (Nat.le_of_ble_eq_true rfl) rfl (fun X A hC hA hR _ hM => w_N_accepted hC hA hR hM n r x1 S h)
def f_N_flow_35 (n : Nat) (t0 : Int32) (S : z_S) : Option (Int32 × z_S) := some (t0, S)
def f_N_flow_33 (n : Nat) (S : z_S) : Option (Int32 × z_S) := f_N_flow_35 n (-2147483648 : Int32) S
def f_N_flow (n : Nat) (x1 : Int32) (S : z_S) : Option (Int32 × z_S) := (if (gF S 5) = 0 then f_N_flow_33 n S else bo (f_G_has n x1 S) (fun v15 S15 => (if v15 = 0 then f_N_flow_33 n S15 else ck (vi x1 6) (f_N_flow_35 n (gI S15 20 x1.toNatClampNeg) S15))))
set_option maxRecDepth 20000 in
theorem w_N_flow_35 {X : z_X} {A : Nat → Prop} {Ω : z_O} (hC : z_C X b_N_flow 2 "NodalAuction" Ω) (hA : z_hA X A) (hR : z_R X (some .int)) (hM : z_rmOf X = z_rm 1 21) (n : Nat) (r : Int32 × z_S) (t0 : Int32) (S : z_S) (h : f_N_flow_35 n t0 S = some r) : z_At X A (z_QI X Ω A r.1 (wN Ω r.2)) Ω 0 0 2 35 [(0, .ref (Ω.2.2 0))] [.int t0] (wN Ω S) := by
  cases h
  exact z_iret hC hR rfl rfl d_N_flow_35
set_option maxRecDepth 20000 in
theorem w_N_flow_33 {X : z_X} {A : Nat → Prop} {Ω : z_O} (hC : z_C X b_N_flow 2 "NodalAuction" Ω) (hA : z_hA X A) (hR : z_R X (some .int)) (hM : z_rmOf X = z_rm 1 21) (n : Nat) (r : Int32 × z_S) (S : z_S) (h : f_N_flow_33 n S = some r) : z_At X A (z_QI X Ω A r.1 (wN Ω r.2)) Ω 0 0 2 33 [(0, .ref (Ω.2.2 0))] [] (wN Ω S) := by
  refine z_ldc (v := (-2147483648 : Int32)) k_191 hC d_N_flow_33 (q := 35) rfl ?_
  exact w_N_flow_35 hC hA hR hM n r (-2147483648 : Int32) S h
set_option maxRecDepth 20000 in
theorem w_N_flow {X : z_X} {A : Nat → Prop} {Ω : z_O} (hC : z_C X b_N_flow 2 "NodalAuction" Ω) (hA : z_hA X A) (hR : z_R X (some .int)) (hM : z_rmOf X = z_rm 1 21) (n : Nat) (r : Int32 × z_S) (x1 : Int32) (S : z_S) (h : f_N_flow n x1 S = some r) : z_At X A (z_QI X Ω A r.1 (wN Ω r.2)) Ω 0 0 2 0 [(0, .ref (Ω.2.2 0)), (1, .int x1)] [] (wN Ω S) := by
  refine z_aload_n rfl 0 rfl hC d_N_flow_0 (q := 1) rfl ?_
  refine gf_N_36_0 hC d_N_flow_1 (q := 4) rfl ?_
  refine gf_N_61_5 hC d_N_flow_4 (q := 7) rfl ?_
  refine z_if_eq (tgt := 33) (q := 10) hC d_N_flow_7 rfl rfl (fun hb => ?_) (fun hb => ?_)
  · have h := (if_pos hb).symm.trans h
    refine z_sub [0] rfl ?_
    exact w_N_flow_33 hC hA hR hM n r S h
  · have h := (if_neg hb).symm.trans h
    refine z_aload_n rfl 0 rfl hC d_N_flow_10 (q := 11) rfl ?_
    refine gf_N_12_0 hC d_N_flow_11 (q := 14) rfl ?_
    refine z_iload_n rfl 1 rfl hC d_N_flow_14 (q := 15) rfl ?_
    obtain ⟨v15, S15, hc15, h⟩ := bo_some h
    refine z_callVNi (q0 := 1) (As := [.int x1]) hC hA (c_G_has (z_lOf X) Ω n x1 S (v15, S15) hc15) k_204 k_201 k_203 ks_2 k_2 h_G_has (by rw [hM]; exact ⟨Nat.le_of_ble_eq_true rfl, Nat.le_of_ble_eq_true rfl⟩) ⟨Nat.zero_le _, Nat.zero_le _⟩ rfl rfl rfl (Nat.le_of_ble_eq_true rfl) rfl d_N_flow_15 (q := 18) rfl ?_
    refine z_if_eq (tgt := 33) (q := 21) hC d_N_flow_18 rfl rfl (fun hb => ?_) (fun hb => ?_)
    · have h := (if_pos hb).symm.trans h
      refine z_sub [0] rfl ?_
      exact w_N_flow_33 hC hA hR hM n r S15 h
    · have h := (if_neg hb).symm.trans h
      refine z_aload_n rfl 0 rfl hC d_N_flow_21 (q := 22) rfl ?_
      refine gf_N_36_0 hC d_N_flow_22 (q := 25) rfl ?_
      refine gf_N_106_5 hC d_N_flow_25 (q := 28) rfl ?_
      refine z_iload_n rfl 1 rfl hC d_N_flow_28 (q := 29) rfl ?_
      obtain ⟨hv1, h⟩ := ck_some h
      refine al_wN_29 hC hv1 d_N_flow_29 (q := 30) rfl ?_
      refine z_goto (tgt := 35) hC d_N_flow_30 rfl ?_
      refine z_sub [0] rfl ?_
      exact w_N_flow_35 hC hA hR hM n r (gI S15 20 x1.toNatClampNeg) S15 h
theorem c_N_flow (l : Launch) (Ω : z_O) (n : Nat) (x1 : Int32) (S : z_S) (r : Int32 × z_S) (h : f_N_flow n x1 S = some r) : z_MI l Ω y_N_flow b_N_flow 2 .int 1 21 [.ref (Ω.2.2 0), .int x1] (wN Ω S) r.1 (wN Ω r.2) := z_introI (by decide +kernel) (Nat.le_of_ble_eq_true rfl) rfl (fun X A hC hA hR _ hM => w_N_flow hC hA hR hM n r x1 S h)
def f_N_tight_66 (n : Nat) (k17 : Int32 → Int32 → z_S → Option (Int32 × z_S)) (x1 : Int32) (x2 : Int32) (S : z_S) : Option (Int32 × z_S) := k17 x1 (x2 + (1 : Int32)) S
def f_N_tight_17 (n : Nat) : Nat → Int32 → Int32 → z_S → Option (Int32 × z_S)
  | 0, _, _, _ => none
  | q + 1, x1, x2, S => (if (gF S 0) ≤ x2 then some (x1, S) else ck (vi x2 6) (ck (vi x2 6) ((if (if 0 ≤ (gI S 20 x2.toNatClampNeg) then (gI S 20 x2.toNatClampNeg) else 0 - (gI S 20 x2.toNatClampNeg)) = ((gI S 4 x2.toNatClampNeg) * (gF S 6)) then f_N_tight_66 n (f_N_tight_17 n q) (x1 + ((1 : Int32) <<< (x2 &&& 31))) x2 S else f_N_tight_66 n (f_N_tight_17 n q) x1 x2 S))))
def f_N_tight (n : Nat) (S : z_S) : Option (Int32 × z_S) := (if (gF S 5) = 0 then some ((-2147483648 : Int32), S) else f_N_tight_17 n n (0 : Int32) (0 : Int32) S)
set_option maxRecDepth 20000 in
theorem w_N_tight_66 {X : z_X} {A : Nat → Prop} {Ω : z_O} (hC : z_C X b_N_tight 3 "NodalAuction" Ω) (hA : z_hA X A) (hR : z_R X (some .int)) (hM : z_rmOf X = z_rm 1 13) (n : Nat) (r : Int32 × z_S) (k17 : Int32 → Int32 → z_S → Option (Int32 × z_S)) (hk17 : ∀ (x1 : Int32) (x2 : Int32) (S : z_S), k17 x1 x2 S = some r → z_At X A (z_QI X Ω A r.1 (wN Ω r.2)) Ω 0 0 3 17 [(0, .ref (Ω.2.2 0)), (1, .int x1), (2, .int x2)] [] (wN Ω S)) (x1 : Int32) (x2 : Int32) (S : z_S) (h : f_N_tight_66 n k17 x1 x2 S = some r) : z_At X A (z_QI X Ω A r.1 (wN Ω r.2)) Ω 0 0 3 66 [(0, .ref (Ω.2.2 0)), (1, .int x1), (2, .int x2)] [] (wN Ω S) := by
  refine z_iinc (lv' := [(2, .int (x2 + (1 : Int32))), (0, .ref (Ω.2.2 0)), (1, .int x1)]) 2 rfl rfl (by decide) rfl hC d_N_tight_66 (q := 69) rfl ?_
  refine z_goto (tgt := 17) hC d_N_tight_69 rfl ?_
  refine z_sub [1, 2, 0] rfl ?_
  exact hk17 x1 (x2 + (1 : Int32)) S h
set_option maxRecDepth 20000 in
theorem w_N_tight_17 {X : z_X} {A : Nat → Prop} {Ω : z_O} (hC : z_C X b_N_tight 3 "NodalAuction" Ω) (hA : z_hA X A) (hR : z_R X (some .int)) (hM : z_rmOf X = z_rm 1 13) (n : Nat) (r : Int32 × z_S) : ∀ (q : Nat) (x1 : Int32) (x2 : Int32) (S : z_S), f_N_tight_17 n q x1 x2 S = some r → z_At X A (z_QI X Ω A r.1 (wN Ω r.2)) Ω 0 0 3 17 [(0, .ref (Ω.2.2 0)), (1, .int x1), (2, .int x2)] [] (wN Ω S) := by
  intro q
  induction q with
  | zero => intro x1 x2 S h; cases h
  | succ q ih =>
    intro x1 x2 S h
    refine z_iload_n rfl 2 rfl hC d_N_tight_17 (q := 18) rfl ?_
    refine z_aload_n rfl 0 rfl hC d_N_tight_18 (q := 19) rfl ?_
    refine gf_N_12_0 hC d_N_tight_19 (q := 22) rfl ?_
    refine gf_N_57_1 hC d_N_tight_22 (q := 25) rfl ?_
    refine z_icmp_ge (tgt := 72) (q := 28) hC d_N_tight_25 rfl rfl (fun hb => ?_) (fun hb => ?_)
    · have h := (if_pos hb).symm.trans h
      refine z_iload_n rfl 1 rfl hC d_N_tight_72 (q := 73) rfl ?_
      cases h
      exact z_iret hC hR rfl rfl d_N_tight_73
    · have h := (if_neg hb).symm.trans h
      refine z_aload_n rfl 0 rfl hC d_N_tight_28 (q := 29) rfl ?_
      refine gf_N_36_0 hC d_N_tight_29 (q := 32) rfl ?_
      refine gf_N_106_5 hC d_N_tight_32 (q := 35) rfl ?_
      refine z_iload_n rfl 2 rfl hC d_N_tight_35 (q := 36) rfl ?_
      obtain ⟨hv1, h⟩ := ck_some h
      refine al_wN_29 hC hv1 d_N_tight_36 (q := 37) rfl ?_
      refine z_iabs hC k_362 k_363 k_7 k_364 (by rw [hM]; decide) (by rw [hM]; exact Nat.le_of_ble_eq_true rfl) ⟨Nat.zero_le _, Nat.zero_le _⟩ d_N_tight_37 (q := 40) rfl ?_
      refine z_aload_n rfl 0 rfl hC d_N_tight_40 (q := 41) rfl ?_
      refine gf_N_12_0 hC d_N_tight_41 (q := 44) rfl ?_
      refine gf_N_72_1 hC d_N_tight_44 (q := 47) rfl ?_
      refine z_iload_n rfl 2 rfl hC d_N_tight_47 (q := 48) rfl ?_
      obtain ⟨hv2, h⟩ := ck_some h
      refine al_wN_10 hC hv2 d_N_tight_48 (q := 49) rfl ?_
      refine z_aload_n rfl 0 rfl hC d_N_tight_49 (q := 50) rfl ?_
      refine gf_N_36_0 hC d_N_tight_50 (q := 53) rfl ?_
      refine gf_N_100_5 hC d_N_tight_53 (q := 56) rfl ?_
      refine z_imul hC d_N_tight_56 (q := 57) rfl ?_
      refine z_icmp_ne (tgt := 66) (q := 60) hC d_N_tight_57 rfl rfl (fun hb => ?_) (fun hb => ?_)
      · have h := (if_neg hb).symm.trans h
        exact w_N_tight_66 hC hA hR hM n r (f_N_tight_17 n q) ih x1 x2 S h
      · have h := (if_pos hb).symm.trans h
        refine z_iload_n rfl 1 rfl hC d_N_tight_60 (q := 61) rfl ?_
        refine z_iconst (v := (1 : Int32)) (by decide) hC d_N_tight_61 (q := 62) rfl ?_
        refine z_iload_n rfl 2 rfl hC d_N_tight_62 (q := 63) rfl ?_
        refine z_ishl hC d_N_tight_63 (q := 64) rfl ?_
        refine z_iadd hC d_N_tight_64 (q := 65) rfl ?_
        refine z_istore_n (lv' := [(1, .int (x1 + ((1 : Int32) <<< (x2 &&& 31)))), (0, .ref (Ω.2.2 0)), (2, .int x2)]) rfl (by decide) rfl hC d_N_tight_65 (q := 66) rfl ?_
        refine z_sub [1, 0, 2] rfl ?_
        exact w_N_tight_66 hC hA hR hM n r (f_N_tight_17 n q) ih (x1 + ((1 : Int32) <<< (x2 &&& 31))) x2 S h
set_option maxRecDepth 20000 in
theorem w_N_tight {X : z_X} {A : Nat → Prop} {Ω : z_O} (hC : z_C X b_N_tight 3 "NodalAuction" Ω) (hA : z_hA X A) (hR : z_R X (some .int)) (hM : z_rmOf X = z_rm 1 13) (n : Nat) (r : Int32 × z_S) (S : z_S) (h : f_N_tight n S = some r) : z_At X A (z_QI X Ω A r.1 (wN Ω r.2)) Ω 0 0 3 0 [(0, .ref (Ω.2.2 0))] [] (wN Ω S) := by
  refine z_aload_n rfl 0 rfl hC d_N_tight_0 (q := 1) rfl ?_
  refine gf_N_36_0 hC d_N_tight_1 (q := 4) rfl ?_
  refine gf_N_61_5 hC d_N_tight_4 (q := 7) rfl ?_
  refine z_if_ne (tgt := 13) (q := 10) hC d_N_tight_7 rfl rfl (fun hb => ?_) (fun hb => ?_)
  · have h := (if_neg hb).symm.trans h
    refine z_iconst (v := (0 : Int32)) (by decide) hC d_N_tight_13 (q := 14) rfl ?_
    refine z_istore_n (lv' := [(1, .int (0 : Int32)), (0, .ref (Ω.2.2 0))]) rfl (by decide) rfl hC d_N_tight_14 (q := 15) rfl ?_
    refine z_iconst (v := (0 : Int32)) (by decide) hC d_N_tight_15 (q := 16) rfl ?_
    refine z_istore_n (lv' := [(2, .int (0 : Int32)), (1, .int (0 : Int32)), (0, .ref (Ω.2.2 0))]) rfl (by decide) rfl hC d_N_tight_16 (q := 17) rfl ?_
    refine z_sub [2, 1, 0] rfl ?_
    exact w_N_tight_17 hC hA hR hM n r n (0 : Int32) (0 : Int32) S h
  · have h := (if_pos hb).symm.trans h
    refine z_ldc (v := (-2147483648 : Int32)) k_191 hC d_N_tight_10 (q := 12) rfl ?_
    cases h
    exact z_iret hC hR rfl rfl d_N_tight_12
theorem c_N_tight (l : Launch) (Ω : z_O) (n : Nat) (S : z_S) (r : Int32 × z_S) (h : f_N_tight n S = some r) : z_MI l Ω y_N_tight b_N_tight 3 .int 1 13 [.ref (Ω.2.2 0)] (wN Ω S) r.1 (wN Ω r.2) := z_introI (by decide +kernel) (Nat.le_of_ble_eq_true rfl) rfl (fun X A hC hA hR _ hM => w_N_tight hC hA hR hM n r S h)
def f_N_welfare_23 (n : Nat) (t0 : Int64) (S : z_S) : Option (Int64 × z_S) := some (t0, S)
def f_N_welfare (n : Nat) (S : z_S) : Option (Int64 × z_S) := (if (gF S 5) = 0 then f_N_welfare_23 n (-1 : Int64) S else f_N_welfare_23 n (gG S 2) S)
set_option maxRecDepth 20000 in
theorem w_N_welfare_23 {X : z_X} {A : Nat → Prop} {Ω : z_O} (hC : z_C X b_N_welfare 1 "NodalAuction" Ω) (hA : z_hA X A) (hR : z_R X (some .long)) (hM : z_rmOf X = z_rm 0 0) (n : Nat) (r : Int64 × z_S) (t0 : Int64) (S : z_S) (h : f_N_welfare_23 n t0 S = some r) : z_At X A (z_QL X Ω A r.1 (wN Ω r.2)) Ω 0 0 1 23 [(0, .ref (Ω.2.2 0))] [.long t0] (wN Ω S) := by
  cases h
  exact z_lret hC hR rfl rfl d_N_welfare_23
set_option maxRecDepth 20000 in
theorem w_N_welfare {X : z_X} {A : Nat → Prop} {Ω : z_O} (hC : z_C X b_N_welfare 1 "NodalAuction" Ω) (hA : z_hA X A) (hR : z_R X (some .long)) (hM : z_rmOf X = z_rm 0 0) (n : Nat) (r : Int64 × z_S) (S : z_S) (h : f_N_welfare n S = some r) : z_At X A (z_QL X Ω A r.1 (wN Ω r.2)) Ω 0 0 1 0 [(0, .ref (Ω.2.2 0))] [] (wN Ω S) := by
  refine z_aload_n rfl 0 rfl hC d_N_welfare_0 (q := 1) rfl ?_
  refine gf_N_36_0 hC d_N_welfare_1 (q := 4) rfl ?_
  refine gf_N_61_5 hC d_N_welfare_4 (q := 7) rfl ?_
  refine z_if_eq (tgt := 20) (q := 10) hC d_N_welfare_7 rfl rfl (fun hb => ?_) (fun hb => ?_)
  · have h := (if_pos hb).symm.trans h
    refine z_ldc2 (v := (-1 : Int64)) k_369 hC d_N_welfare_20 (q := 23) rfl ?_
    exact w_N_welfare_23 hC hA hR hM n r (-1 : Int64) S h
  · have h := (if_neg hb).symm.trans h
    refine z_aload_n rfl 0 rfl hC d_N_welfare_10 (q := 11) rfl ?_
    refine gf_N_36_0 hC d_N_welfare_11 (q := 14) rfl ?_
    refine gf_N_114_5 hC d_N_welfare_14 (q := 17) rfl ?_
    refine z_goto (tgt := 23) hC d_N_welfare_17 rfl ?_
    exact w_N_welfare_23 hC hA hR hM n r (gG S 2) S h
theorem c_N_welfare (l : Launch) (Ω : z_O) (n : Nat) (S : z_S) (r : Int64 × z_S) (h : f_N_welfare n S = some r) : z_ML l Ω y_N_welfare b_N_welfare 1 .long 0 0 [.ref (Ω.2.2 0)] (wN Ω S) r.1 (wN Ω r.2) := z_introL (by decide +kernel) (Nat.le_of_ble_eq_true rfl) rfl (fun X A hC hA hR _ hM => w_N_welfare hC hA hR hM n r S h)
def f_N_extraTop_38 (n : Nat) (t0 : Int64) (S : z_S) : Option (Int64 × z_S) := some (t0, S)
def f_N_extraTop (n : Nat) (x1 : Int32) (S : z_S) : Option (Int64 × z_S) := bo (f_N_addOneAt n x1 S) (fun v2 S2 => (if v2 = 0 then some ((0 : Int64), S2) else bo (f_N_costTop n S2) (fun v11 S11 => bo (f_N_costBottom n S11) (fun v15 S15 => bo (f_N_commonDivisor n v11 v15 S15) (fun v18 S18 => (if v18 = (0 : Int64) then f_N_extraTop_38 n (0 : Int64) S18 else bo (f_N_costTop n S18) (fun v33 S33 => ck (vn v18) (f_N_extraTop_38 n (v33 / v18) S33))))))))
set_option maxRecDepth 20000 in
theorem w_N_extraTop_38 {X : z_X} {A : Nat → Prop} {Ω : z_O} (hC : z_C X b_N_extraTop 4 "NodalAuction" Ω) (hA : z_hA X A) (hR : z_R X (some .long)) (hM : z_rmOf X = z_rm 5 140) (n : Nat) (r : Int64 × z_S) (t0 : Int64) (S : z_S) (h : f_N_extraTop_38 n t0 S = some r) : z_At X A (z_QL X Ω A r.1 (wN Ω r.2)) Ω 0 0 4 38 [(0, .ref (Ω.2.2 0))] [.long t0] (wN Ω S) := by
  cases h
  exact z_lret hC hR rfl rfl d_N_extraTop_38
set_option maxRecDepth 20000 in
theorem w_N_extraTop {X : z_X} {A : Nat → Prop} {Ω : z_O} (hC : z_C X b_N_extraTop 4 "NodalAuction" Ω) (hA : z_hA X A) (hR : z_R X (some .long)) (hM : z_rmOf X = z_rm 5 140) (n : Nat) (r : Int64 × z_S) (x1 : Int32) (S : z_S) (h : f_N_extraTop n x1 S = some r) : z_At X A (z_QL X Ω A r.1 (wN Ω r.2)) Ω 0 0 4 0 [(0, .ref (Ω.2.2 0)), (1, .int x1)] [] (wN Ω S) := by
  refine z_aload_n rfl 0 rfl hC d_N_extraTop_0 (q := 1) rfl ?_
  refine z_iload_n rfl 1 rfl hC d_N_extraTop_1 (q := 2) rfl ?_
  obtain ⟨v2, S2, hc2, h⟩ := bo_some h
  refine z_callVi (q0 := 0) (As := [.int x1]) hC hA (c_N_addOneAt (z_lOf X) Ω n x1 S (v2, S2) hc2) k_377 k_374 k_376 ks_28 k_1 h_N_addOneAt (by rw [hM]; exact ⟨Nat.le_of_ble_eq_true rfl, Nat.le_of_ble_eq_true rfl⟩) ⟨Nat.zero_le _, Nat.zero_le _⟩ rfl rfl rfl (Nat.le_of_ble_eq_true rfl) rfl d_N_extraTop_2 (q := 5) rfl ?_
  refine z_if_ne (tgt := 10) (q := 8) hC d_N_extraTop_5 rfl rfl (fun hb => ?_) (fun hb => ?_)
  · have h := (if_neg hb).symm.trans h
    refine z_aload_n rfl 0 rfl hC d_N_extraTop_10 (q := 11) rfl ?_
    obtain ⟨v11, S11, hc11, h⟩ := bo_some h
    refine z_callVl (q0 := 0) (As := []) hC hA (c_N_costTop (z_lOf X) Ω n S2 (v11, S11) hc11) k_382 k_379 k_381 ks_29 k_1 h_N_costTop (by rw [hM]; exact ⟨Nat.le_of_ble_eq_true rfl, Nat.le_of_ble_eq_true rfl⟩) ⟨Nat.zero_le _, Nat.zero_le _⟩ rfl rfl rfl (Nat.le_of_ble_eq_true rfl) rfl d_N_extraTop_11 (q := 14) rfl ?_
    refine z_aload_n rfl 0 rfl hC d_N_extraTop_14 (q := 15) rfl ?_
    obtain ⟨v15, S15, hc15, h⟩ := bo_some h
    refine z_callVl (q0 := 0) (As := []) hC hA (c_N_costBottom (z_lOf X) Ω n S11 (v15, S15) hc15) k_386 k_383 k_385 ks_30 k_1 h_N_costBottom (by rw [hM]; exact ⟨Nat.le_of_ble_eq_true rfl, Nat.le_of_ble_eq_true rfl⟩) ⟨Nat.zero_le _, Nat.zero_le _⟩ rfl rfl rfl (Nat.le_of_ble_eq_true rfl) rfl d_N_extraTop_15 (q := 18) rfl ?_
    obtain ⟨v18, S18, hc18, h⟩ := bo_some h
    refine z_callSl (As := [.long v11, .long v15]) hC hA (c_N_commonDivisor (z_lOf X) Ω n v11 v15 S15 (v18, S18) hc18) k_332 k_387 k_331 k_1 h_N_commonDivisor (by rw [hM]; exact ⟨Nat.le_of_ble_eq_true rfl, Nat.le_of_ble_eq_true rfl⟩) ⟨Nat.zero_le _, Nat.zero_le _⟩ rfl (Nat.le_of_ble_eq_true rfl) rfl d_N_extraTop_18 (q := 21) rfl ?_
    refine z_lstore_n (lv' := [(2, .long v18), (0, .ref (Ω.2.2 0)), (1, .int x1)]) rfl (by decide) rfl hC d_N_extraTop_21 (q := 22) rfl ?_
    refine z_lload_n rfl 0 rfl hC d_N_extraTop_22 (q := 23) rfl ?_
    refine z_lconst (v := (0 : Int64)) (by decide) hC d_N_extraTop_23 (q := 24) rfl ?_
    refine z_lcmp_ne (pc1 := 25) (tgt := 32) (q := 28) hC d_N_extraTop_24 rfl d_N_extraTop_25 rfl rfl (fun hb => ?_) (fun hb => ?_)
    · have h := (if_neg hb).symm.trans h
      refine z_aload_n rfl 1 rfl hC d_N_extraTop_32 (q := 33) rfl ?_
      obtain ⟨v33, S33, hc33, h⟩ := bo_some h
      refine z_callVl (q0 := 0) (As := []) hC hA (c_N_costTop (z_lOf X) Ω n S18 (v33, S33) hc33) k_382 k_379 k_381 ks_29 k_1 h_N_costTop (by rw [hM]; exact ⟨Nat.le_of_ble_eq_true rfl, Nat.le_of_ble_eq_true rfl⟩) ⟨Nat.zero_le _, Nat.zero_le _⟩ rfl rfl rfl (Nat.le_of_ble_eq_true rfl) rfl d_N_extraTop_33 (q := 36) rfl ?_
      refine z_lload_n rfl 0 rfl hC d_N_extraTop_36 (q := 37) rfl ?_
      obtain ⟨hv1, h⟩ := ck_some h
      refine z_ldiv hv1 hC d_N_extraTop_37 (q := 38) rfl ?_
      refine z_sub [1] rfl ?_
      exact w_N_extraTop_38 hC hA hR hM n r (v33 / v18) S33 h
    · have h := (if_pos hb).symm.trans h
      refine z_lconst (v := (0 : Int64)) (by decide) hC d_N_extraTop_28 (q := 29) rfl ?_
      refine z_goto (tgt := 38) hC d_N_extraTop_29 rfl ?_
      refine z_sub [1] rfl ?_
      exact w_N_extraTop_38 hC hA hR hM n r (0 : Int64) S18 h
  · have h := (if_pos hb).symm.trans h
    refine z_lconst (v := (0 : Int64)) (by decide) hC d_N_extraTop_8 (q := 9) rfl ?_
    cases h
    exact z_lret hC hR rfl rfl d_N_extraTop_9
theorem c_N_extraTop (l : Launch) (Ω : z_O) (n : Nat) (x1 : Int32) (S : z_S) (r : Int64 × z_S) (h : f_N_extraTop n x1 S = some r) : z_ML l Ω y_N_extraTop b_N_extraTop 4 .long 5 140 [.ref (Ω.2.2 0), .int x1] (wN Ω S) r.1 (wN Ω r.2) := z_introL (by decide +kernel) (Nat.le_of_ble_eq_true rfl) rfl (fun X A hC hA hR _ hM => w_N_extraTop hC hA hR hM n r x1 S h)
def f_N_extraBottom_39 (n : Nat) (t0 : Int32) (S : z_S) : Option (Int32 × z_S) := some (t0, S)
def f_N_extraBottom (n : Nat) (x1 : Int32) (S : z_S) : Option (Int32 × z_S) := bo (f_N_addOneAt n x1 S) (fun v2 S2 => (if v2 = 0 then some ((0 : Int32), S2) else bo (f_N_costTop n S2) (fun v11 S11 => bo (f_N_costBottom n S11) (fun v15 S15 => bo (f_N_commonDivisor n v11 v15 S15) (fun v18 S18 => (if v18 = (0 : Int64) then f_N_extraBottom_39 n (0 : Int32) S18 else bo (f_N_costBottom n S18) (fun v33 S33 => ck (vn v18) (f_N_extraBottom_39 n ((v33 / v18).toInt32) S33))))))))
set_option maxRecDepth 20000 in
theorem w_N_extraBottom_39 {X : z_X} {A : Nat → Prop} {Ω : z_O} (hC : z_C X b_N_extraBottom 4 "NodalAuction" Ω) (hA : z_hA X A) (hR : z_R X (some .int)) (hM : z_rmOf X = z_rm 5 140) (n : Nat) (r : Int32 × z_S) (t0 : Int32) (S : z_S) (h : f_N_extraBottom_39 n t0 S = some r) : z_At X A (z_QI X Ω A r.1 (wN Ω r.2)) Ω 0 0 4 39 [(0, .ref (Ω.2.2 0))] [.int t0] (wN Ω S) := by
  cases h
  exact z_iret hC hR rfl rfl d_N_extraBottom_39
set_option maxRecDepth 20000 in
theorem w_N_extraBottom {X : z_X} {A : Nat → Prop} {Ω : z_O} (hC : z_C X b_N_extraBottom 4 "NodalAuction" Ω) (hA : z_hA X A) (hR : z_R X (some .int)) (hM : z_rmOf X = z_rm 5 140) (n : Nat) (r : Int32 × z_S) (x1 : Int32) (S : z_S) (h : f_N_extraBottom n x1 S = some r) : z_At X A (z_QI X Ω A r.1 (wN Ω r.2)) Ω 0 0 4 0 [(0, .ref (Ω.2.2 0)), (1, .int x1)] [] (wN Ω S) := by
  refine z_aload_n rfl 0 rfl hC d_N_extraBottom_0 (q := 1) rfl ?_
  refine z_iload_n rfl 1 rfl hC d_N_extraBottom_1 (q := 2) rfl ?_
  obtain ⟨v2, S2, hc2, h⟩ := bo_some h
  refine z_callVi (q0 := 0) (As := [.int x1]) hC hA (c_N_addOneAt (z_lOf X) Ω n x1 S (v2, S2) hc2) k_377 k_374 k_376 ks_28 k_1 h_N_addOneAt (by rw [hM]; exact ⟨Nat.le_of_ble_eq_true rfl, Nat.le_of_ble_eq_true rfl⟩) ⟨Nat.zero_le _, Nat.zero_le _⟩ rfl rfl rfl (Nat.le_of_ble_eq_true rfl) rfl d_N_extraBottom_2 (q := 5) rfl ?_
  refine z_if_ne (tgt := 10) (q := 8) hC d_N_extraBottom_5 rfl rfl (fun hb => ?_) (fun hb => ?_)
  · have h := (if_neg hb).symm.trans h
    refine z_aload_n rfl 0 rfl hC d_N_extraBottom_10 (q := 11) rfl ?_
    obtain ⟨v11, S11, hc11, h⟩ := bo_some h
    refine z_callVl (q0 := 0) (As := []) hC hA (c_N_costTop (z_lOf X) Ω n S2 (v11, S11) hc11) k_382 k_379 k_381 ks_29 k_1 h_N_costTop (by rw [hM]; exact ⟨Nat.le_of_ble_eq_true rfl, Nat.le_of_ble_eq_true rfl⟩) ⟨Nat.zero_le _, Nat.zero_le _⟩ rfl rfl rfl (Nat.le_of_ble_eq_true rfl) rfl d_N_extraBottom_11 (q := 14) rfl ?_
    refine z_aload_n rfl 0 rfl hC d_N_extraBottom_14 (q := 15) rfl ?_
    obtain ⟨v15, S15, hc15, h⟩ := bo_some h
    refine z_callVl (q0 := 0) (As := []) hC hA (c_N_costBottom (z_lOf X) Ω n S11 (v15, S15) hc15) k_386 k_383 k_385 ks_30 k_1 h_N_costBottom (by rw [hM]; exact ⟨Nat.le_of_ble_eq_true rfl, Nat.le_of_ble_eq_true rfl⟩) ⟨Nat.zero_le _, Nat.zero_le _⟩ rfl rfl rfl (Nat.le_of_ble_eq_true rfl) rfl d_N_extraBottom_15 (q := 18) rfl ?_
    obtain ⟨v18, S18, hc18, h⟩ := bo_some h
    refine z_callSl (As := [.long v11, .long v15]) hC hA (c_N_commonDivisor (z_lOf X) Ω n v11 v15 S15 (v18, S18) hc18) k_332 k_387 k_331 k_1 h_N_commonDivisor (by rw [hM]; exact ⟨Nat.le_of_ble_eq_true rfl, Nat.le_of_ble_eq_true rfl⟩) ⟨Nat.zero_le _, Nat.zero_le _⟩ rfl (Nat.le_of_ble_eq_true rfl) rfl d_N_extraBottom_18 (q := 21) rfl ?_
    refine z_lstore_n (lv' := [(2, .long v18), (0, .ref (Ω.2.2 0)), (1, .int x1)]) rfl (by decide) rfl hC d_N_extraBottom_21 (q := 22) rfl ?_
    refine z_lload_n rfl 0 rfl hC d_N_extraBottom_22 (q := 23) rfl ?_
    refine z_lconst (v := (0 : Int64)) (by decide) hC d_N_extraBottom_23 (q := 24) rfl ?_
    refine z_lcmp_ne (pc1 := 25) (tgt := 32) (q := 28) hC d_N_extraBottom_24 rfl d_N_extraBottom_25 rfl rfl (fun hb => ?_) (fun hb => ?_)
    · have h := (if_neg hb).symm.trans h
      refine z_aload_n rfl 1 rfl hC d_N_extraBottom_32 (q := 33) rfl ?_
      obtain ⟨v33, S33, hc33, h⟩ := bo_some h
      refine z_callVl (q0 := 0) (As := []) hC hA (c_N_costBottom (z_lOf X) Ω n S18 (v33, S33) hc33) k_386 k_383 k_385 ks_30 k_1 h_N_costBottom (by rw [hM]; exact ⟨Nat.le_of_ble_eq_true rfl, Nat.le_of_ble_eq_true rfl⟩) ⟨Nat.zero_le _, Nat.zero_le _⟩ rfl rfl rfl (Nat.le_of_ble_eq_true rfl) rfl d_N_extraBottom_33 (q := 36) rfl ?_
      refine z_lload_n rfl 0 rfl hC d_N_extraBottom_36 (q := 37) rfl ?_
      obtain ⟨hv1, h⟩ := ck_some h
      refine z_ldiv hv1 hC d_N_extraBottom_37 (q := 38) rfl ?_
      refine z_l2i hC d_N_extraBottom_38 (q := 39) rfl ?_
      refine z_sub [1] rfl ?_
      exact w_N_extraBottom_39 hC hA hR hM n r ((v33 / v18).toInt32) S33 h
    · have h := (if_pos hb).symm.trans h
      refine z_iconst (v := (0 : Int32)) (by decide) hC d_N_extraBottom_28 (q := 29) rfl ?_
      refine z_goto (tgt := 39) hC d_N_extraBottom_29 rfl ?_
      refine z_sub [1] rfl ?_
      exact w_N_extraBottom_39 hC hA hR hM n r (0 : Int32) S18 h
  · have h := (if_pos hb).symm.trans h
    refine z_iconst (v := (0 : Int32)) (by decide) hC d_N_extraBottom_8 (q := 9) rfl ?_
    cases h
    exact z_iret hC hR rfl rfl d_N_extraBottom_9
theorem c_N_extraBottom (l : Launch) (Ω : z_O) (n : Nat) (x1 : Int32) (S : z_S) (r : Int32 × z_S) (h : f_N_extraBottom n x1 S = some r) : z_MI l Ω y_N_extraBottom b_N_extraBottom 4 .int 5 140 [.ref (Ω.2.2 0), .int x1] (wN Ω S) r.1 (wN Ω r.2) := z_introI (by decide +kernel) (Nat.le_of_ble_eq_true rfl) rfl (fun X A hC hA hR _ hM => w_N_extraBottom hC hA hR hM n r x1 S h)
def f_N_check_22 (n : Nat) (S : z_S) : Option (Int32 × z_S) := some ((-1 : Int32), S)
def f_N_check_69 (n : Nat) (t0 : Int32) (t1 : Int32) (S : z_S) : Option (Int32 × z_S) := some (t0 + t1, S)
def f_N_check_52 (n : Nat) (t0 : Int32) (t1 : Int32) (S : z_S) : Option (Int32 × z_S) := bo (f_N_gridCarriesMore n S) (fun v58 S58 => (if v58 = 0 then f_N_check_69 n (t0 + t1) (0 : Int32) S58 else f_N_check_69 n (t0 + t1) (4 : Int32) S58))
def f_N_check_36 (n : Nat) (t0 : Int32) (S : z_S) : Option (Int32 × z_S) := bo (f_N_someStepWouldGain n S) (fun v41 S41 => (if v41 = 0 then f_N_check_52 n t0 (0 : Int32) S41 else f_N_check_52 n t0 (2 : Int32) S41))
def f_N_check (n : Nat) (x1 : Int32) (x2 : Int32) (x3 : Int32) (x4 : Int32) (S : z_S) : Option (Int32 × z_S) := (if (gF S 5) = 0 then f_N_check_22 n S else bo (f_N_takePrices n x1 x2 x3 x4 S) (fun v16 S16 => (if v16 = 0 then f_N_check_22 n S16 else bo (f_N_someStepLoses n S16) (fun v25 S25 => (if v25 = 0 then f_N_check_36 n (0 : Int32) S25 else f_N_check_36 n (1 : Int32) S25)))))
set_option maxRecDepth 20000 in
theorem w_N_check_22 {X : z_X} {A : Nat → Prop} {Ω : z_O} (hC : z_C X b_N_check 6 "NodalAuction" Ω) (hA : z_hA X A) (hR : z_R X (some .int)) (hM : z_rmOf X = z_rm 5 140) (n : Nat) (r : Int32 × z_S) (S : z_S) (h : f_N_check_22 n S = some r) : z_At X A (z_QI X Ω A r.1 (wN Ω r.2)) Ω 0 0 6 22 [(0, .ref (Ω.2.2 0))] [] (wN Ω S) := by
  refine z_iconst (v := (-1 : Int32)) (by decide) hC d_N_check_22 (q := 23) rfl ?_
  cases h
  exact z_iret hC hR rfl rfl d_N_check_23
set_option maxRecDepth 20000 in
theorem w_N_check_69 {X : z_X} {A : Nat → Prop} {Ω : z_O} (hC : z_C X b_N_check 6 "NodalAuction" Ω) (hA : z_hA X A) (hR : z_R X (some .int)) (hM : z_rmOf X = z_rm 5 140) (n : Nat) (r : Int32 × z_S) (t0 : Int32) (t1 : Int32) (S : z_S) (h : f_N_check_69 n t0 t1 S = some r) : z_At X A (z_QI X Ω A r.1 (wN Ω r.2)) Ω 0 0 6 69 [(0, .ref (Ω.2.2 0))] [.int t1, .int t0] (wN Ω S) := by
  refine z_iadd hC d_N_check_69 (q := 70) rfl ?_
  refine z_istore (lv' := [(5, .int (t0 + t1)), (0, .ref (Ω.2.2 0))]) (by decide) rfl hC d_N_check_70 (q := 72) rfl ?_
  refine z_iload 0 rfl hC d_N_check_72 (q := 74) rfl ?_
  cases h
  exact z_iret hC hR rfl rfl d_N_check_74
set_option maxRecDepth 20000 in
theorem w_N_check_52 {X : z_X} {A : Nat → Prop} {Ω : z_O} (hC : z_C X b_N_check 6 "NodalAuction" Ω) (hA : z_hA X A) (hR : z_R X (some .int)) (hM : z_rmOf X = z_rm 5 140) (n : Nat) (r : Int32 × z_S) (t0 : Int32) (t1 : Int32) (S : z_S) (h : f_N_check_52 n t0 t1 S = some r) : z_At X A (z_QI X Ω A r.1 (wN Ω r.2)) Ω 0 0 6 52 [(0, .ref (Ω.2.2 0))] [.int t1, .int t0] (wN Ω S) := by
  refine z_iadd hC d_N_check_52 (q := 53) rfl ?_
  refine z_istore (lv' := [(5, .int (t0 + t1)), (0, .ref (Ω.2.2 0))]) (by decide) rfl hC d_N_check_53 (q := 55) rfl ?_
  refine z_iload 0 rfl hC d_N_check_55 (q := 57) rfl ?_
  refine z_aload_n rfl 1 rfl hC d_N_check_57 (q := 58) rfl ?_
  obtain ⟨v58, S58, hc58, h⟩ := bo_some h
  refine z_callVi (q0 := 0) (As := []) hC hA (c_N_gridCarriesMore (z_lOf X) Ω n S (v58, S58) hc58) k_415 k_412 k_414 ks_35 k_1 h_N_gridCarriesMore (by rw [hM]; exact ⟨Nat.le_of_ble_eq_true rfl, Nat.le_of_ble_eq_true rfl⟩) ⟨Nat.zero_le _, Nat.zero_le _⟩ rfl rfl rfl (Nat.le_of_ble_eq_true rfl) rfl d_N_check_58 (q := 61) rfl ?_
  refine z_if_eq (tgt := 68) (q := 64) hC d_N_check_61 rfl rfl (fun hb => ?_) (fun hb => ?_)
  · have h := (if_pos hb).symm.trans h
    refine z_iconst (v := (0 : Int32)) (by decide) hC d_N_check_68 (q := 69) rfl ?_
    refine z_sub [1] rfl ?_
    exact w_N_check_69 hC hA hR hM n r (t0 + t1) (0 : Int32) S58 h
  · have h := (if_neg hb).symm.trans h
    refine z_iconst (v := (4 : Int32)) (by decide) hC d_N_check_64 (q := 65) rfl ?_
    refine z_goto (tgt := 69) hC d_N_check_65 rfl ?_
    refine z_sub [1] rfl ?_
    exact w_N_check_69 hC hA hR hM n r (t0 + t1) (4 : Int32) S58 h
set_option maxRecDepth 20000 in
theorem w_N_check_36 {X : z_X} {A : Nat → Prop} {Ω : z_O} (hC : z_C X b_N_check 6 "NodalAuction" Ω) (hA : z_hA X A) (hR : z_R X (some .int)) (hM : z_rmOf X = z_rm 5 140) (n : Nat) (r : Int32 × z_S) (t0 : Int32) (S : z_S) (h : f_N_check_36 n t0 S = some r) : z_At X A (z_QI X Ω A r.1 (wN Ω r.2)) Ω 0 0 6 36 [(0, .ref (Ω.2.2 0))] [.int t0] (wN Ω S) := by
  refine z_istore (lv' := [(5, .int t0), (0, .ref (Ω.2.2 0))]) (by decide) rfl hC d_N_check_36 (q := 38) rfl ?_
  refine z_iload 0 rfl hC d_N_check_38 (q := 40) rfl ?_
  refine z_aload_n rfl 1 rfl hC d_N_check_40 (q := 41) rfl ?_
  obtain ⟨v41, S41, hc41, h⟩ := bo_some h
  refine z_callVi (q0 := 0) (As := []) hC hA (c_N_someStepWouldGain (z_lOf X) Ω n S (v41, S41) hc41) k_411 k_408 k_410 ks_34 k_1 h_N_someStepWouldGain (by rw [hM]; exact ⟨Nat.le_of_ble_eq_true rfl, Nat.le_of_ble_eq_true rfl⟩) ⟨Nat.zero_le _, Nat.zero_le _⟩ rfl rfl rfl (Nat.le_of_ble_eq_true rfl) rfl d_N_check_41 (q := 44) rfl ?_
  refine z_if_eq (tgt := 51) (q := 47) hC d_N_check_44 rfl rfl (fun hb => ?_) (fun hb => ?_)
  · have h := (if_pos hb).symm.trans h
    refine z_iconst (v := (0 : Int32)) (by decide) hC d_N_check_51 (q := 52) rfl ?_
    refine z_sub [1] rfl ?_
    exact w_N_check_52 hC hA hR hM n r t0 (0 : Int32) S41 h
  · have h := (if_neg hb).symm.trans h
    refine z_iconst (v := (2 : Int32)) (by decide) hC d_N_check_47 (q := 48) rfl ?_
    refine z_goto (tgt := 52) hC d_N_check_48 rfl ?_
    refine z_sub [1] rfl ?_
    exact w_N_check_52 hC hA hR hM n r t0 (2 : Int32) S41 h
set_option maxRecDepth 20000 in
theorem w_N_check {X : z_X} {A : Nat → Prop} {Ω : z_O} (hC : z_C X b_N_check 6 "NodalAuction" Ω) (hA : z_hA X A) (hR : z_R X (some .int)) (hM : z_rmOf X = z_rm 5 140) (n : Nat) (r : Int32 × z_S) (x1 : Int32) (x2 : Int32) (x3 : Int32) (x4 : Int32) (S : z_S) (h : f_N_check n x1 x2 x3 x4 S = some r) : z_At X A (z_QI X Ω A r.1 (wN Ω r.2)) Ω 0 0 6 0 [(0, .ref (Ω.2.2 0)), (1, .int x1), (2, .int x2), (3, .int x3), (4, .int x4)] [] (wN Ω S) := by
  refine z_aload_n rfl 0 rfl hC d_N_check_0 (q := 1) rfl ?_
  refine gf_N_36_0 hC d_N_check_1 (q := 4) rfl ?_
  refine gf_N_61_5 hC d_N_check_4 (q := 7) rfl ?_
  refine z_if_eq (tgt := 22) (q := 10) hC d_N_check_7 rfl rfl (fun hb => ?_) (fun hb => ?_)
  · have h := (if_pos hb).symm.trans h
    refine z_sub [0] rfl ?_
    exact w_N_check_22 hC hA hR hM n r S h
  · have h := (if_neg hb).symm.trans h
    refine z_aload_n rfl 0 rfl hC d_N_check_10 (q := 11) rfl ?_
    refine z_iload_n rfl 1 rfl hC d_N_check_11 (q := 12) rfl ?_
    refine z_iload_n rfl 2 rfl hC d_N_check_12 (q := 13) rfl ?_
    refine z_iload_n rfl 3 rfl hC d_N_check_13 (q := 14) rfl ?_
    refine z_iload 4 rfl hC d_N_check_14 (q := 16) rfl ?_
    obtain ⟨v16, S16, hc16, h⟩ := bo_some h
    refine z_callVi (q0 := 0) (As := [.int x1, .int x2, .int x3, .int x4]) hC hA (c_N_takePrices (z_lOf X) Ω n x1 x2 x3 x4 S (v16, S16) hc16) k_399 k_396 k_398 ks_31 k_1 h_N_takePrices (by rw [hM]; exact ⟨Nat.le_of_ble_eq_true rfl, Nat.le_of_ble_eq_true rfl⟩) ⟨Nat.zero_le _, Nat.zero_le _⟩ rfl rfl rfl (Nat.le_of_ble_eq_true rfl) rfl d_N_check_16 (q := 19) rfl ?_
    refine z_if_ne (tgt := 24) (q := 22) hC d_N_check_19 rfl rfl (fun hb => ?_) (fun hb => ?_)
    · have h := (if_neg hb).symm.trans h
      refine z_aload_n rfl 0 rfl hC d_N_check_24 (q := 25) rfl ?_
      obtain ⟨v25, S25, hc25, h⟩ := bo_some h
      refine z_callVi (q0 := 0) (As := []) hC hA (c_N_someStepLoses (z_lOf X) Ω n S16 (v25, S25) hc25) k_403 k_400 k_402 ks_32 k_1 h_N_someStepLoses (by rw [hM]; exact ⟨Nat.le_of_ble_eq_true rfl, Nat.le_of_ble_eq_true rfl⟩) ⟨Nat.zero_le _, Nat.zero_le _⟩ rfl rfl rfl (Nat.le_of_ble_eq_true rfl) rfl d_N_check_25 (q := 28) rfl ?_
      refine z_if_eq (tgt := 35) (q := 31) hC d_N_check_28 rfl rfl (fun hb => ?_) (fun hb => ?_)
      · have h := (if_pos hb).symm.trans h
        refine z_iconst (v := (0 : Int32)) (by decide) hC d_N_check_35 (q := 36) rfl ?_
        refine z_sub [0] rfl ?_
        exact w_N_check_36 hC hA hR hM n r (0 : Int32) S25 h
      · have h := (if_neg hb).symm.trans h
        refine z_iconst (v := (1 : Int32)) (by decide) hC d_N_check_31 (q := 32) rfl ?_
        refine z_goto (tgt := 36) hC d_N_check_32 rfl ?_
        refine z_sub [0] rfl ?_
        exact w_N_check_36 hC hA hR hM n r (1 : Int32) S25 h
    · have h := (if_pos hb).symm.trans h
      refine z_sub [0] rfl ?_
      exact w_N_check_22 hC hA hR hM n r S16 h
theorem c_N_check (l : Launch) (Ω : z_O) (n : Nat) (x1 : Int32) (x2 : Int32) (x3 : Int32) (x4 : Int32) (S : z_S) (r : Int32 × z_S) (h : f_N_check n x1 x2 x3 x4 S = some r) : z_MI l Ω y_N_check b_N_check 6 .int 5 140 [.ref (Ω.2.2 0), .int x1, .int x2, .int x3, .int x4] (wN Ω S) r.1 (wN Ω r.2) := z_introI (by decide +kernel) (Nat.le_of_ble_eq_true rfl) rfl (fun X A hC hA hR _ hM => w_N_check hC hA hR hM n r x1 x2 x3 x4 S h)
def f_N_rent_22 (n : Nat) (S : z_S) : Option (Int64 × z_S) := some ((0 : Int64), S)
def f_N_rent (n : Nat) (x1 : Int32) (x2 : Int32) (x3 : Int32) (x4 : Int32) (S : z_S) : Option (Int64 × z_S) := (if (gF S 5) = 0 then f_N_rent_22 n S else bo (f_N_takePrices n x1 x2 x3 x4 S) (fun v16 S16 => (if v16 = 0 then f_N_rent_22 n S16 else bo (f_N_intakeWorth n S16) (fun v25 S25 => some (v25, S25)))))
set_option maxRecDepth 20000 in
theorem w_N_rent_22 {X : z_X} {A : Nat → Prop} {Ω : z_O} (hC : z_C X b_N_rent 5 "NodalAuction" Ω) (hA : z_hA X A) (hR : z_R X (some .long)) (hM : z_rmOf X = z_rm 2 47) (n : Nat) (r : Int64 × z_S) (S : z_S) (h : f_N_rent_22 n S = some r) : z_At X A (z_QL X Ω A r.1 (wN Ω r.2)) Ω 0 0 5 22 [(0, .ref (Ω.2.2 0))] [] (wN Ω S) := by
  refine z_lconst (v := (0 : Int64)) (by decide) hC d_N_rent_22 (q := 23) rfl ?_
  cases h
  exact z_lret hC hR rfl rfl d_N_rent_23
set_option maxRecDepth 20000 in
theorem w_N_rent {X : z_X} {A : Nat → Prop} {Ω : z_O} (hC : z_C X b_N_rent 5 "NodalAuction" Ω) (hA : z_hA X A) (hR : z_R X (some .long)) (hM : z_rmOf X = z_rm 2 47) (n : Nat) (r : Int64 × z_S) (x1 : Int32) (x2 : Int32) (x3 : Int32) (x4 : Int32) (S : z_S) (h : f_N_rent n x1 x2 x3 x4 S = some r) : z_At X A (z_QL X Ω A r.1 (wN Ω r.2)) Ω 0 0 5 0 [(0, .ref (Ω.2.2 0)), (1, .int x1), (2, .int x2), (3, .int x3), (4, .int x4)] [] (wN Ω S) := by
  refine z_aload_n rfl 0 rfl hC d_N_rent_0 (q := 1) rfl ?_
  refine gf_N_36_0 hC d_N_rent_1 (q := 4) rfl ?_
  refine gf_N_61_5 hC d_N_rent_4 (q := 7) rfl ?_
  refine z_if_eq (tgt := 22) (q := 10) hC d_N_rent_7 rfl rfl (fun hb => ?_) (fun hb => ?_)
  · have h := (if_pos hb).symm.trans h
    refine z_sub [0] rfl ?_
    exact w_N_rent_22 hC hA hR hM n r S h
  · have h := (if_neg hb).symm.trans h
    refine z_aload_n rfl 0 rfl hC d_N_rent_10 (q := 11) rfl ?_
    refine z_iload_n rfl 1 rfl hC d_N_rent_11 (q := 12) rfl ?_
    refine z_iload_n rfl 2 rfl hC d_N_rent_12 (q := 13) rfl ?_
    refine z_iload_n rfl 3 rfl hC d_N_rent_13 (q := 14) rfl ?_
    refine z_iload 4 rfl hC d_N_rent_14 (q := 16) rfl ?_
    obtain ⟨v16, S16, hc16, h⟩ := bo_some h
    refine z_callVi (q0 := 0) (As := [.int x1, .int x2, .int x3, .int x4]) hC hA (c_N_takePrices (z_lOf X) Ω n x1 x2 x3 x4 S (v16, S16) hc16) k_399 k_396 k_398 ks_31 k_1 h_N_takePrices (by rw [hM]; exact ⟨Nat.le_of_ble_eq_true rfl, Nat.le_of_ble_eq_true rfl⟩) ⟨Nat.zero_le _, Nat.zero_le _⟩ rfl rfl rfl (Nat.le_of_ble_eq_true rfl) rfl d_N_rent_16 (q := 19) rfl ?_
    refine z_if_ne (tgt := 24) (q := 22) hC d_N_rent_19 rfl rfl (fun hb => ?_) (fun hb => ?_)
    · have h := (if_neg hb).symm.trans h
      refine z_aload_n rfl 0 rfl hC d_N_rent_24 (q := 25) rfl ?_
      obtain ⟨v25, S25, hc25, h⟩ := bo_some h
      refine z_callVl (q0 := 0) (As := []) hC hA (c_N_intakeWorth (z_lOf X) Ω n S16 (v25, S25) hc25) k_419 k_416 k_418 ks_36 k_1 h_N_intakeWorth (by rw [hM]; exact ⟨Nat.le_of_ble_eq_true rfl, Nat.le_of_ble_eq_true rfl⟩) ⟨Nat.zero_le _, Nat.zero_le _⟩ rfl rfl rfl (Nat.le_of_ble_eq_true rfl) rfl d_N_rent_25 (q := 28) rfl ?_
      cases h
      exact z_lret hC hR rfl rfl d_N_rent_28
    · have h := (if_pos hb).symm.trans h
      refine z_sub [0] rfl ?_
      exact w_N_rent_22 hC hA hR hM n r S16 h
theorem c_N_rent (l : Launch) (Ω : z_O) (n : Nat) (x1 : Int32) (x2 : Int32) (x3 : Int32) (x4 : Int32) (S : z_S) (r : Int64 × z_S) (h : f_N_rent n x1 x2 x3 x4 S = some r) : z_ML l Ω y_N_rent b_N_rent 5 .long 2 47 [.ref (Ω.2.2 0), .int x1, .int x2, .int x3, .int x4] (wN Ω S) r.1 (wN Ω r.2) := z_introL (by decide +kernel) (Nat.le_of_ble_eq_true rfl) rfl (fun X A hC hA hR _ hM => w_N_rent hC hA hR hM n r x1 x2 x3 x4 S h)
