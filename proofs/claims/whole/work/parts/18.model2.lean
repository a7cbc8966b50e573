def f_M_cell_48 (n : Nat) (t0 : Int64) (S : z_S) : Option (Int64 × z_S) := some (t0, S)
def f_M_cell (n : Nat) (x1 : Int32) (x2 : Int32) (x3 : Int32) (S : z_S) : Option (Int64 × z_S) := (if x2 = x3 then ck (vi x1 24) (f_M_cell_48 n (gJ S 3 x1.toNatClampNeg) S) else (if x2 = (1 : Int32) then ck (vi x1 24) (f_M_cell_48 n (gJ S 0 x1.toNatClampNeg) S) else (if x2 = (2 : Int32) then ck (vi x1 24) (f_M_cell_48 n (gJ S 1 x1.toNatClampNeg) S) else ck (vi x1 24) (f_M_cell_48 n (gJ S 2 x1.toNatClampNeg) S))))
set_option maxRecDepth 20000 in
theorem w_M_cell_48 {X : z_X} {A : Nat → Prop} {Ω : z_O} (hC : z_C X b_M_cell 4 "NodalAuctionModel" Ω) (hA : z_hA X A) (hR : z_R X (some .long)) (hM : z_rmOf X = z_rm 0 0) (n : Nat) (r : Int64 × z_S) (t0 : Int64) (S : z_S) (h : f_M_cell_48 n t0 S = some r) : z_At X A (z_QL X Ω A r.1 (wM Ω r.2)) Ω 0 0 4 48 [(0, .ref (Ω.2.2 100))] [.long t0] (wM Ω S) := by
  cases h
  exact z_lret hC hR rfl rfl d_M_cell_48
set_option maxRecDepth 20000 in
theorem w_M_cell {X : z_X} {A : Nat → Prop} {Ω : z_O} (hC : z_C X b_M_cell 4 "NodalAuctionModel" Ω) (hA : z_hA X A) (hR : z_R X (some .long)) (hM : z_rmOf X = z_rm 0 0) (n : Nat) (r : Int64 × z_S) (x1 : Int32) (x2 : Int32) (x3 : Int32) (S : z_S) (h : f_M_cell n x1 x2 x3 S = some r) : z_At X A (z_QL X Ω A r.1 (wM Ω r.2)) Ω 0 0 4 0 [(0, .ref (Ω.2.2 100)), (1, .int x1), (2, .int x2), (3, .int x3)] [] (wM Ω S) := by
  refine z_iload_n rfl 2 rfl hC d_M_cell_0 (q := 1) rfl ?_
  refine z_iload_n rfl 3 rfl hC d_M_cell_1 (q := 2) rfl ?_
  refine z_icmp_ne (tgt := 14) (q := 5) hC d_M_cell_2 rfl rfl (fun hb => ?_) (fun hb => ?_)
  · have h := (if_neg hb).symm.trans h
    refine z_iload_n rfl 2 rfl hC d_M_cell_14 (q := 15) rfl ?_
    refine z_iconst (v := (1 : Int32)) (by decide) hC d_M_cell_15 (q := 16) rfl ?_
    refine z_icmp_ne (tgt := 28) (q := 19) hC d_M_cell_16 rfl rfl (fun hb => ?_) (fun hb => ?_)
    · have h := (if_neg hb).symm.trans h
      refine z_iload_n rfl 2 rfl hC d_M_cell_28 (q := 29) rfl ?_
      refine z_iconst (v := (2 : Int32)) (by decide) hC d_M_cell_29 (q := 30) rfl ?_
      refine z_icmp_ne (tgt := 42) (q := 33) hC d_M_cell_30 rfl rfl (fun hb => ?_) (fun hb => ?_)
      · have h := (if_neg hb).symm.trans h
        refine z_aload_n rfl 0 rfl hC d_M_cell_42 (q := 43) rfl ?_
        refine gf_M_45_0 hC d_M_cell_43 (q := 46) rfl ?_
        refine z_iload_n rfl 1 rfl hC d_M_cell_46 (q := 47) rfl ?_
        obtain ⟨hv1, h⟩ := ck_some h
        refine al_wM_12 hC hv1 d_M_cell_47 (q := 48) rfl ?_
        refine z_sub [0] rfl ?_
        exact w_M_cell_48 hC hA hR hM n r (gJ S 2 x1.toNatClampNeg) S h
      · have h := (if_pos hb).symm.trans h
        refine z_aload_n rfl 0 rfl hC d_M_cell_33 (q := 34) rfl ?_
        refine gf_M_42_0 hC d_M_cell_34 (q := 37) rfl ?_
        refine z_iload_n rfl 1 rfl hC d_M_cell_37 (q := 38) rfl ?_
        obtain ⟨hv1, h⟩ := ck_some h
        refine al_wM_11 hC hv1 d_M_cell_38 (q := 39) rfl ?_
        refine z_goto (tgt := 48) hC d_M_cell_39 rfl ?_
        refine z_sub [0] rfl ?_
        exact w_M_cell_48 hC hA hR hM n r (gJ S 1 x1.toNatClampNeg) S h
    · have h := (if_pos hb).symm.trans h
      refine z_aload_n rfl 0 rfl hC d_M_cell_19 (q := 20) rfl ?_
      refine gf_M_38_0 hC d_M_cell_20 (q := 23) rfl ?_
      refine z_iload_n rfl 1 rfl hC d_M_cell_23 (q := 24) rfl ?_
      obtain ⟨hv1, h⟩ := ck_some h
      refine al_wM_10 hC hv1 d_M_cell_24 (q := 25) rfl ?_
      refine z_goto (tgt := 48) hC d_M_cell_25 rfl ?_
      refine z_sub [0] rfl ?_
      exact w_M_cell_48 hC hA hR hM n r (gJ S 0 x1.toNatClampNeg) S h
  · have h := (if_pos hb).symm.trans h
    refine z_aload_n rfl 0 rfl hC d_M_cell_5 (q := 6) rfl ?_
    refine gf_M_48_0 hC d_M_cell_6 (q := 9) rfl ?_
    refine z_iload_n rfl 1 rfl hC d_M_cell_9 (q := 10) rfl ?_
    obtain ⟨hv1, h⟩ := ck_some h
    refine al_wM_13 hC hv1 d_M_cell_10 (q := 11) rfl ?_
    refine z_goto (tgt := 48) hC d_M_cell_11 rfl ?_
    refine z_sub [0] rfl ?_
    exact w_M_cell_48 hC hA hR hM n r (gJ S 3 x1.toNatClampNeg) S h
theorem c_M_cell (l : Launch) (Ω : z_O) (n : Nat) (x1 : Int32) (x2 : Int32) (x3 : Int32) (S : z_S) (r : Int64 × z_S) (h : f_M_cell n x1 x2 x3 S = some r) : z_ML l Ω y_M_cell b_M_cell 4 .long 0 0 [.ref (Ω.2.2 100), .int x1, .int x2, .int x3] (wM Ω S) r.1 (wM Ω r.2) := z_introL (by decide +kernel) (Nat.le_of_ble_eq_true rfl) rfl (fun X A hC hA hR _ hM => w_M_cell hC hA hR hM n r x1 x2 x3 S h)
def f_M_minor (n : Nat) (x1 : Int32) (x2 : Int32) (x3 : Int32) (x4 : Int32) (x5 : Int32) (S : z_S) : Option (Int64 × z_S) := bo (f_M_cell n x1 x3 x5 S) (fun v5 S5 => bo (f_M_cell n x2 x4 x5 S5) (fun v16 S16 => bo (f_M_cell n x1 x4 x5 S16) (fun v27 S27 => bo (f_M_cell n x2 x3 x5 S27) (fun v37 S37 => some ((v5 * v16) - (v27 * v37), S37)))))
set_option maxRecDepth 20000 in
theorem w_M_minor {X : z_X} {A : Nat → Prop} {Ω : z_O} (hC : z_C X b_M_minor 14 "NodalAuctionModel" Ω) (hA : z_hA X A) (hR : z_R X (some .long)) (hM : z_rmOf X = z_rm 1 23) (n : Nat) (r : Int64 × z_S) (x1 : Int32) (x2 : Int32) (x3 : Int32) (x4 : Int32) (x5 : Int32) (S : z_S) (h : f_M_minor n x1 x2 x3 x4 x5 S = some r) : z_At X A (z_QL X Ω A r.1 (wM Ω r.2)) Ω 0 0 14 0 [(0, .ref (Ω.2.2 100)), (1, .int x1), (2, .int x2), (3, .int x3), (4, .int x4), (5, .int x5)] [] (wM Ω S) := by
  refine z_aload_n rfl 0 rfl hC d_M_minor_0 (q := 1) rfl ?_
  refine z_iload_n rfl 1 rfl hC d_M_minor_1 (q := 2) rfl ?_
  refine z_iload_n rfl 3 rfl hC d_M_minor_2 (q := 3) rfl ?_
  refine z_iload 5 rfl hC d_M_minor_3 (q := 5) rfl ?_
  obtain ⟨v5, S5, hc5, h⟩ := bo_some h
  refine z_callVl (q0 := 0) (As := [.int x1, .int x3, .int x5]) hC hA (c_M_cell (z_lOf X) Ω n x1 x3 x5 S (v5, S5) hc5) k_612 k_609 k_611 ks_48 k_6 h_M_cell (by rw [hM]; exact ⟨Nat.le_of_ble_eq_true rfl, Nat.le_of_ble_eq_true rfl⟩) ⟨Nat.zero_le _, Nat.zero_le _⟩ rfl rfl rfl (Nat.le_of_ble_eq_true rfl) rfl d_M_minor_5 (q := 8) rfl ?_
  refine z_lstore (lv' := [(6, .long v5), (0, .ref (Ω.2.2 100)), (1, .int x1), (2, .int x2), (3, .int x3), (4, .int x4), (5, .int x5)]) (by decide) rfl hC d_M_minor_8 (q := 10) rfl ?_
  refine z_aload_n rfl 1 rfl hC d_M_minor_10 (q := 11) rfl ?_
  refine z_iload_n rfl 3 rfl hC d_M_minor_11 (q := 12) rfl ?_
  refine z_iload 5 rfl hC d_M_minor_12 (q := 14) rfl ?_
  refine z_iload 6 rfl hC d_M_minor_14 (q := 16) rfl ?_
  obtain ⟨v16, S16, hc16, h⟩ := bo_some h
  refine z_callVl (q0 := 0) (As := [.int x2, .int x4, .int x5]) hC hA (c_M_cell (z_lOf X) Ω n x2 x4 x5 S5 (v16, S16) hc16) k_612 k_609 k_611 ks_48 k_6 h_M_cell (by rw [hM]; exact ⟨Nat.le_of_ble_eq_true rfl, Nat.le_of_ble_eq_true rfl⟩) ⟨Nat.zero_le _, Nat.zero_le _⟩ rfl rfl rfl (Nat.le_of_ble_eq_true rfl) rfl d_M_minor_16 (q := 19) rfl ?_
  refine z_lstore (lv' := [(8, .long v16), (6, .long v5), (0, .ref (Ω.2.2 100)), (1, .int x1), (2, .int x2), (3, .int x3), (4, .int x4), (5, .int x5)]) (by decide) rfl hC d_M_minor_19 (q := 21) rfl ?_
  refine z_aload_n rfl 2 rfl hC d_M_minor_21 (q := 22) rfl ?_
  refine z_iload_n rfl 3 rfl hC d_M_minor_22 (q := 23) rfl ?_
  refine z_iload 6 rfl hC d_M_minor_23 (q := 25) rfl ?_
  refine z_iload 7 rfl hC d_M_minor_25 (q := 27) rfl ?_
  obtain ⟨v27, S27, hc27, h⟩ := bo_some h
  refine z_callVl (q0 := 0) (As := [.int x1, .int x4, .int x5]) hC hA (c_M_cell (z_lOf X) Ω n x1 x4 x5 S16 (v27, S27) hc27) k_612 k_609 k_611 ks_48 k_6 h_M_cell (by rw [hM]; exact ⟨Nat.le_of_ble_eq_true rfl, Nat.le_of_ble_eq_true rfl⟩) ⟨Nat.zero_le _, Nat.zero_le _⟩ rfl rfl rfl (Nat.le_of_ble_eq_true rfl) rfl d_M_minor_27 (q := 30) rfl ?_
  refine z_lstore (lv' := [(10, .long v27), (8, .long v16), (6, .long v5), (0, .ref (Ω.2.2 100)), (1, .int x1), (2, .int x2), (3, .int x3), (4, .int x4), (5, .int x5)]) (by decide) rfl hC d_M_minor_30 (q := 32) rfl ?_
  refine z_aload_n rfl 3 rfl hC d_M_minor_32 (q := 33) rfl ?_
  refine z_iload_n rfl 5 rfl hC d_M_minor_33 (q := 34) rfl ?_
  refine z_iload_n rfl 6 rfl hC d_M_minor_34 (q := 35) rfl ?_
  refine z_iload 8 rfl hC d_M_minor_35 (q := 37) rfl ?_
  obtain ⟨v37, S37, hc37, h⟩ := bo_some h
  refine z_callVl (q0 := 0) (As := [.int x2, .int x3, .int x5]) hC hA (c_M_cell (z_lOf X) Ω n x2 x3 x5 S27 (v37, S37) hc37) k_612 k_609 k_611 ks_48 k_6 h_M_cell (by rw [hM]; exact ⟨Nat.le_of_ble_eq_true rfl, Nat.le_of_ble_eq_true rfl⟩) ⟨Nat.zero_le _, Nat.zero_le _⟩ rfl rfl rfl (Nat.le_of_ble_eq_true rfl) rfl d_M_minor_37 (q := 40) rfl ?_
  refine z_lstore (lv' := [(12, .long v37), (10, .long v27), (8, .long v16), (6, .long v5), (0, .ref (Ω.2.2 100)), (1, .int x1), (2, .int x2), (3, .int x3), (4, .int x4), (5, .int x5)]) (by decide) rfl hC d_M_minor_40 (q := 42) rfl ?_
  refine z_lload 3 rfl hC d_M_minor_42 (q := 44) rfl ?_
  refine z_lload 2 rfl hC d_M_minor_44 (q := 46) rfl ?_
  refine z_lmul hC d_M_minor_46 (q := 47) rfl ?_
  refine z_lload 1 rfl hC d_M_minor_47 (q := 49) rfl ?_
  refine z_lload 0 rfl hC d_M_minor_49 (q := 51) rfl ?_
  refine z_lmul hC d_M_minor_51 (q := 52) rfl ?_
  refine z_lsub hC d_M_minor_52 (q := 53) rfl ?_
  cases h
  exact z_lret hC hR rfl rfl d_M_minor_53
theorem c_M_minor (l : Launch) (Ω : z_O) (n : Nat) (x1 : Int32) (x2 : Int32) (x3 : Int32) (x4 : Int32) (x5 : Int32) (S : z_S) (r : Int64 × z_S) (h : f_M_minor n x1 x2 x3 x4 x5 S = some r) : z_ML l Ω y_M_minor b_M_minor 14 .long 1 23 [.ref (Ω.2.2 100), .int x1, .int x2, .int x3, .int x4, .int x5] (wM Ω S) r.1 (wM Ω r.2) := z_introL (by decide +kernel) (Nat.le_of_ble_eq_true rfl) rfl (fun X A hC hA hR _ hM => w_M_minor hC hA hR hM n r x1 x2 x3 x4 x5 S h)
def f_M_determinant (n : Nat) (x1 : Int32) (x2 : Int32) (x3 : Int32) (x4 : Int32) (S : z_S) : Option (Int64 × z_S) := bo (f_M_cell n x1 (1 : Int32) x4 S) (fun v5 S5 => bo (f_M_minor n x2 x3 (2 : Int32) (3 : Int32) x4 S5) (fun v15 S15 => bo (f_M_cell n x1 (2 : Int32) x4 S15) (fun v26 S26 => bo (f_M_minor n x2 x3 (1 : Int32) (3 : Int32) x4 S26) (fun v36 S36 => bo (f_M_cell n x1 (3 : Int32) x4 S36) (fun v47 S47 => bo (f_M_minor n x2 x3 (1 : Int32) (2 : Int32) x4 S47) (fun v57 S57 => some (((v5 * v15) - (v26 * v36)) + (v47 * v57), S57)))))))
set_option maxRecDepth 20000 in
theorem w_M_determinant {X : z_X} {A : Nat → Prop} {Ω : z_O} (hC : z_C X b_M_determinant 11 "NodalAuctionModel" Ω) (hA : z_hA X A) (hR : z_R X (some .long)) (hM : z_rmOf X = z_rm 2 56) (n : Nat) (r : Int64 × z_S) (x1 : Int32) (x2 : Int32) (x3 : Int32) (x4 : Int32) (S : z_S) (h : f_M_determinant n x1 x2 x3 x4 S = some r) : z_At X A (z_QL X Ω A r.1 (wM Ω r.2)) Ω 0 0 11 0 [(0, .ref (Ω.2.2 100)), (1, .int x1), (2, .int x2), (3, .int x3), (4, .int x4)] [] (wM Ω S) := by
  refine z_aload_n rfl 0 rfl hC d_M_determinant_0 (q := 1) rfl ?_
  refine z_iload_n rfl 1 rfl hC d_M_determinant_1 (q := 2) rfl ?_
  refine z_iconst (v := (1 : Int32)) (by decide) hC d_M_determinant_2 (q := 3) rfl ?_
  refine z_iload 4 rfl hC d_M_determinant_3 (q := 5) rfl ?_
  obtain ⟨v5, S5, hc5, h⟩ := bo_some h
  refine z_callVl (q0 := 0) (As := [.int x1, .int (1 : Int32), .int x4]) hC hA (c_M_cell (z_lOf X) Ω n x1 (1 : Int32) x4 S (v5, S5) hc5) k_612 k_609 k_611 ks_48 k_6 h_M_cell (by rw [hM]; exact ⟨Nat.le_of_ble_eq_true rfl, Nat.le_of_ble_eq_true rfl⟩) ⟨Nat.zero_le _, Nat.zero_le _⟩ rfl rfl rfl (Nat.le_of_ble_eq_true rfl) rfl d_M_determinant_5 (q := 8) rfl ?_
  refine z_aload_n rfl 0 rfl hC d_M_determinant_8 (q := 9) rfl ?_
  refine z_iload_n rfl 2 rfl hC d_M_determinant_9 (q := 10) rfl ?_
  refine z_iload_n rfl 3 rfl hC d_M_determinant_10 (q := 11) rfl ?_
  refine z_iconst (v := (2 : Int32)) (by decide) hC d_M_determinant_11 (q := 12) rfl ?_
  refine z_iconst (v := (3 : Int32)) (by decide) hC d_M_determinant_12 (q := 13) rfl ?_
  refine z_iload 4 rfl hC d_M_determinant_13 (q := 15) rfl ?_
  obtain ⟨v15, S15, hc15, h⟩ := bo_some h
  refine z_callVl (q0 := 0) (As := [.int x2, .int x3, .int (2 : Int32), .int (3 : Int32), .int x4]) hC hA (c_M_minor (z_lOf X) Ω n x2 x3 (2 : Int32) (3 : Int32) x4 S5 (v15, S15) hc15) k_616 k_613 k_615 ks_49 k_6 h_M_minor (by rw [hM]; exact ⟨Nat.le_of_ble_eq_true rfl, Nat.le_of_ble_eq_true rfl⟩) ⟨Nat.zero_le _, Nat.zero_le _⟩ rfl rfl rfl (Nat.le_of_ble_eq_true rfl) rfl d_M_determinant_15 (q := 18) rfl ?_
  refine z_lmul hC d_M_determinant_18 (q := 19) rfl ?_
  refine z_lstore (lv' := [(5, .long (v5 * v15)), (0, .ref (Ω.2.2 100)), (1, .int x1), (2, .int x2), (3, .int x3), (4, .int x4)]) (by decide) rfl hC d_M_determinant_19 (q := 21) rfl ?_
  refine z_aload_n rfl 1 rfl hC d_M_determinant_21 (q := 22) rfl ?_
  refine z_iload_n rfl 2 rfl hC d_M_determinant_22 (q := 23) rfl ?_
  refine z_iconst (v := (2 : Int32)) (by decide) hC d_M_determinant_23 (q := 24) rfl ?_
  refine z_iload 5 rfl hC d_M_determinant_24 (q := 26) rfl ?_
  obtain ⟨v26, S26, hc26, h⟩ := bo_some h
  refine z_callVl (q0 := 0) (As := [.int x1, .int (2 : Int32), .int x4]) hC hA (c_M_cell (z_lOf X) Ω n x1 (2 : Int32) x4 S15 (v26, S26) hc26) k_612 k_609 k_611 ks_48 k_6 h_M_cell (by rw [hM]; exact ⟨Nat.le_of_ble_eq_true rfl, Nat.le_of_ble_eq_true rfl⟩) ⟨Nat.zero_le _, Nat.zero_le _⟩ rfl rfl rfl (Nat.le_of_ble_eq_true rfl) rfl d_M_determinant_26 (q := 29) rfl ?_
  refine z_aload_n rfl 1 rfl hC d_M_determinant_29 (q := 30) rfl ?_
  refine z_iload_n rfl 3 rfl hC d_M_determinant_30 (q := 31) rfl ?_
  refine z_iload_n rfl 4 rfl hC d_M_determinant_31 (q := 32) rfl ?_
  refine z_iconst (v := (1 : Int32)) (by decide) hC d_M_determinant_32 (q := 33) rfl ?_
  refine z_iconst (v := (3 : Int32)) (by decide) hC d_M_determinant_33 (q := 34) rfl ?_
  refine z_iload 5 rfl hC d_M_determinant_34 (q := 36) rfl ?_
  obtain ⟨v36, S36, hc36, h⟩ := bo_some h
  refine z_callVl (q0 := 0) (As := [.int x2, .int x3, .int (1 : Int32), .int (3 : Int32), .int x4]) hC hA (c_M_minor (z_lOf X) Ω n x2 x3 (1 : Int32) (3 : Int32) x4 S26 (v36, S36) hc36) k_616 k_613 k_615 ks_49 k_6 h_M_minor (by rw [hM]; exact ⟨Nat.le_of_ble_eq_true rfl, Nat.le_of_ble_eq_true rfl⟩) ⟨Nat.zero_le _, Nat.zero_le _⟩ rfl rfl rfl (Nat.le_of_ble_eq_true rfl) rfl d_M_determinant_36 (q := 39) rfl ?_
  refine z_lmul hC d_M_determinant_39 (q := 40) rfl ?_
  refine z_lstore (lv' := [(7, .long (v26 * v36)), (5, .long (v5 * v15)), (0, .ref (Ω.2.2 100)), (1, .int x1), (2, .int x2), (3, .int x3), (4, .int x4)]) (by decide) rfl hC d_M_determinant_40 (q := 42) rfl ?_
  refine z_aload_n rfl 2 rfl hC d_M_determinant_42 (q := 43) rfl ?_
  refine z_iload_n rfl 3 rfl hC d_M_determinant_43 (q := 44) rfl ?_
  refine z_iconst (v := (3 : Int32)) (by decide) hC d_M_determinant_44 (q := 45) rfl ?_
  refine z_iload 6 rfl hC d_M_determinant_45 (q := 47) rfl ?_
  obtain ⟨v47, S47, hc47, h⟩ := bo_some h
  refine z_callVl (q0 := 0) (As := [.int x1, .int (3 : Int32), .int x4]) hC hA (c_M_cell (z_lOf X) Ω n x1 (3 : Int32) x4 S36 (v47, S47) hc47) k_612 k_609 k_611 ks_48 k_6 h_M_cell (by rw [hM]; exact ⟨Nat.le_of_ble_eq_true rfl, Nat.le_of_ble_eq_true rfl⟩) ⟨Nat.zero_le _, Nat.zero_le _⟩ rfl rfl rfl (Nat.le_of_ble_eq_true rfl) rfl d_M_determinant_47 (q := 50) rfl ?_
  refine z_aload_n rfl 2 rfl hC d_M_determinant_50 (q := 51) rfl ?_
  refine z_iload_n rfl 4 rfl hC d_M_determinant_51 (q := 52) rfl ?_
  refine z_iload_n rfl 5 rfl hC d_M_determinant_52 (q := 53) rfl ?_
  refine z_iconst (v := (1 : Int32)) (by decide) hC d_M_determinant_53 (q := 54) rfl ?_
  refine z_iconst (v := (2 : Int32)) (by decide) hC d_M_determinant_54 (q := 55) rfl ?_
  refine z_iload 6 rfl hC d_M_determinant_55 (q := 57) rfl ?_
  obtain ⟨v57, S57, hc57, h⟩ := bo_some h
  refine z_callVl (q0 := 0) (As := [.int x2, .int x3, .int (1 : Int32), .int (2 : Int32), .int x4]) hC hA (c_M_minor (z_lOf X) Ω n x2 x3 (1 : Int32) (2 : Int32) x4 S47 (v57, S57) hc57) k_616 k_613 k_615 ks_49 k_6 h_M_minor (by rw [hM]; exact ⟨Nat.le_of_ble_eq_true rfl, Nat.le_of_ble_eq_true rfl⟩) ⟨Nat.zero_le _, Nat.zero_le _⟩ rfl rfl rfl (Nat.le_of_ble_eq_true rfl) rfl d_M_determinant_57 (q := 60) rfl ?_
  refine z_lmul hC d_M_determinant_60 (q := 61) rfl ?_
  refine z_lstore (lv' := [(9, .long (v47 * v57)), (7, .long (v26 * v36)), (5, .long (v5 * v15)), (0, .ref (Ω.2.2 100)), (1, .int x1), (2, .int x2), (3, .int x3), (4, .int x4)]) (by decide) rfl hC d_M_determinant_61 (q := 63) rfl ?_
  refine z_lload 2 rfl hC d_M_determinant_63 (q := 65) rfl ?_
  refine z_lload 1 rfl hC d_M_determinant_65 (q := 67) rfl ?_
  refine z_lsub hC d_M_determinant_67 (q := 68) rfl ?_
  refine z_lload 0 rfl hC d_M_determinant_68 (q := 70) rfl ?_
  refine z_ladd hC d_M_determinant_70 (q := 71) rfl ?_
  cases h
  exact z_lret hC hR rfl rfl d_M_determinant_71
theorem c_M_determinant (l : Launch) (Ω : z_O) (n : Nat) (x1 : Int32) (x2 : Int32) (x3 : Int32) (x4 : Int32) (S : z_S) (r : Int64 × z_S) (h : f_M_determinant n x1 x2 x3 x4 S = some r) : z_ML l Ω y_M_determinant b_M_determinant 11 .long 2 56 [.ref (Ω.2.2 100), .int x1, .int x2, .int x3, .int x4] (wM Ω S) r.1 (wM Ω r.2) := z_introL (by decide +kernel) (Nat.le_of_ble_eq_true rfl) rfl (fun X A hC hA hR _ hM => w_M_determinant hC hA hR hM n r x1 x2 x3 x4 S h)
def f_M_meet_54 (n : Nat) : Nat → Int32 → Int32 → Int32 → Int64 → Int32 → z_S → Option (Int32 × z_S)
  | 0, _, _, _, _, _, _ => none
  | q + 1, x1, x2, x3, x6, x8, S => (if (3 : Int32) < x8 then some ((1 : Int32), S) else bo (f_M_determinant n x1 x2 x3 x8 S) (fun v74 S74 => ck (vi x8 4) (f_M_meet_54 n q x1 x2 x3 x6 (x8 + (1 : Int32)) (sJ S74 4 (vp_updL (gJ S74 4) x8.toNatClampNeg (x6 * v74))))))
def f_M_meet_33 (n : Nat) (x1 : Int32) (x2 : Int32) (x3 : Int32) (x4 : Int64) (t0 : Int64) (S : z_S) : Option (Int32 × z_S) := f_M_meet_54 n n x1 x2 x3 t0 (1 : Int32) (sJ (sG S 0 (x4 * t0)) 4 (vp_updL (gJ (sG S 0 (x4 * t0)) 4) ((0 : Int32).toNatClampNeg) (0 : Int64)))
def f_M_meet (n : Nat) (x1 : Int32) (x2 : Int32) (x3 : Int32) (S : z_S) : Option (Int32 × z_S) := bo (f_M_determinant n x1 x2 x3 (0 : Int32) S) (fun v5 S5 => (if v5 = (0 : Int64) then some ((0 : Int32), S5) else (if (0 : Int64) ≤ v5 then f_M_meet_33 n x1 x2 x3 v5 (1 : Int64) S5 else f_M_meet_33 n x1 x2 x3 v5 (-1 : Int64) S5)))
set_option maxRecDepth 20000 in
theorem w_M_meet_54 {X : z_X} {A : Nat → Prop} {Ω : z_O} (hC : z_C X b_M_meet 9 "NodalAuctionModel" Ω) (hA : z_hA X A) (hR : z_R X (some .boolean)) (hM : z_rmOf X = z_rm 3 86) (n : Nat) (r : Int32 × z_S) : ∀ (q : Nat) (x1 : Int32) (x2 : Int32) (x3 : Int32) (x6 : Int64) (x8 : Int32) (S : z_S), f_M_meet_54 n q x1 x2 x3 x6 x8 S = some r → z_At X A (z_QI X Ω A r.1 (wM Ω r.2)) Ω 0 0 9 54 [(0, .ref (Ω.2.2 100)), (1, .int x1), (2, .int x2), (3, .int x3), (6, .long x6), (8, .int x8)] [] (wM Ω S) := by
  intro q
  induction q with
  | zero => intro x1 x2 x3 x6 x8 S h; cases h
  | succ q ih =>
    intro x1 x2 x3 x6 x8 S h
    refine z_iload 5 rfl hC d_M_meet_54 (q := 56) rfl ?_
    refine z_iconst (v := (3 : Int32)) (by decide) hC d_M_meet_56 (q := 57) rfl ?_
    refine z_icmp_gt (tgt := 85) (q := 60) hC d_M_meet_57 rfl rfl (fun hb => ?_) (fun hb => ?_)
    · have h := (if_pos hb).symm.trans h
      refine z_iconst (v := (1 : Int32)) (by decide) hC d_M_meet_85 (q := 86) rfl ?_
      cases h
      exact z_zret hC hR (by decide) rfl rfl d_M_meet_86
    · have h := (if_neg hb).symm.trans h
      refine z_aload_n rfl 0 rfl hC d_M_meet_60 (q := 61) rfl ?_
      refine gf_M_54_0 hC d_M_meet_61 (q := 64) rfl ?_
      refine z_iload 5 rfl hC d_M_meet_64 (q := 66) rfl ?_
      refine z_lload 4 rfl hC d_M_meet_66 (q := 68) rfl ?_
      refine z_aload_n rfl 0 rfl hC d_M_meet_68 (q := 69) rfl ?_
      refine z_iload_n rfl 1 rfl hC d_M_meet_69 (q := 70) rfl ?_
      refine z_iload_n rfl 2 rfl hC d_M_meet_70 (q := 71) rfl ?_
      refine z_iload_n rfl 3 rfl hC d_M_meet_71 (q := 72) rfl ?_
      refine z_iload 5 rfl hC d_M_meet_72 (q := 74) rfl ?_
      obtain ⟨v74, S74, hc74, h⟩ := bo_some h
      refine z_callVl (q0 := 0) (As := [.int x1, .int x2, .int x3, .int x8]) hC hA (c_M_determinant (z_lOf X) Ω n x1 x2 x3 x8 S (v74, S74) hc74) k_608 k_605 k_607 ks_47 k_6 h_M_determinant (by rw [hM]; exact ⟨Nat.le_of_ble_eq_true rfl, Nat.le_of_ble_eq_true rfl⟩) ⟨Nat.zero_le _, Nat.zero_le _⟩ rfl rfl rfl (Nat.le_of_ble_eq_true rfl) rfl d_M_meet_74 (q := 77) rfl ?_
      refine z_lmul hC d_M_meet_77 (q := 78) rfl ?_
      obtain ⟨hv1, h⟩ := ck_some h
      refine as_wM_15 hC hv1 d_M_meet_78 (q := 79) rfl ?_
      refine z_iinc (lv' := [(8, .int (x8 + (1 : Int32))), (0, .ref (Ω.2.2 100)), (1, .int x1), (2, .int x2), (3, .int x3), (6, .long x6)]) 5 rfl rfl (by decide) rfl hC d_M_meet_79 (q := 82) rfl ?_
      refine z_goto (tgt := 54) hC d_M_meet_82 rfl ?_
      refine z_sub [1, 2, 3, 4, 5, 0] rfl ?_
      exact ih x1 x2 x3 x6 (x8 + (1 : Int32)) (sJ S74 4 (vp_updL (gJ S74 4) x8.toNatClampNeg (x6 * v74))) h
set_option maxRecDepth 20000 in
theorem w_M_meet_33 {X : z_X} {A : Nat → Prop} {Ω : z_O} (hC : z_C X b_M_meet 9 "NodalAuctionModel" Ω) (hA : z_hA X A) (hR : z_R X (some .boolean)) (hM : z_rmOf X = z_rm 3 86) (n : Nat) (r : Int32 × z_S) (x1 : Int32) (x2 : Int32) (x3 : Int32) (x4 : Int64) (t0 : Int64) (S : z_S) (h : f_M_meet_33 n x1 x2 x3 x4 t0 S = some r) : z_At X A (z_QI X Ω A r.1 (wM Ω r.2)) Ω 0 0 9 33 [(0, .ref (Ω.2.2 100)), (1, .int x1), (2, .int x2), (3, .int x3), (4, .long x4)] [.long t0] (wM Ω S) := by
  refine z_lstore (lv' := [(6, .long t0), (0, .ref (Ω.2.2 100)), (1, .int x1), (2, .int x2), (3, .int x3), (4, .long x4)]) (by decide) rfl hC d_M_meet_33 (q := 35) rfl ?_
  refine z_aload_n rfl 1 rfl hC d_M_meet_35 (q := 36) rfl ?_
  refine z_lload 5 rfl hC d_M_meet_36 (q := 38) rfl ?_
  refine z_lload 0 rfl hC d_M_meet_38 (q := 40) rfl ?_
  refine z_lmul hC d_M_meet_40 (q := 41) rfl ?_
  refine pf_M_130_0 hC d_M_meet_41 (q := 44) rfl ?_
  refine z_aload_n rfl 1 rfl hC d_M_meet_44 (q := 45) rfl ?_
  refine gf_M_54_0 hC d_M_meet_45 (q := 48) rfl ?_
  refine z_iconst (v := (0 : Int32)) (by decide) hC d_M_meet_48 (q := 49) rfl ?_
  refine z_lconst (v := (0 : Int64)) (by decide) hC d_M_meet_49 (q := 50) rfl ?_
  refine as_wM_15 hC (by decide) d_M_meet_50 (q := 51) rfl ?_
  refine z_iconst (v := (1 : Int32)) (by decide) hC d_M_meet_51 (q := 52) rfl ?_
  refine z_istore (lv' := [(8, .int (1 : Int32)), (6, .long t0), (0, .ref (Ω.2.2 100)), (1, .int x1), (2, .int x2), (3, .int x3), (4, .long x4)]) (by decide) rfl hC d_M_meet_52 (q := 54) rfl ?_
  refine z_sub [2, 3, 4, 5, 1, 0] rfl ?_
  exact w_M_meet_54 hC hA hR hM n r n x1 x2 x3 t0 (1 : Int32) (sJ (sG S 0 (x4 * t0)) 4 (vp_updL (gJ (sG S 0 (x4 * t0)) 4) ((0 : Int32).toNatClampNeg) (0 : Int64))) h
set_option maxRecDepth 20000 in
theorem w_M_meet {X : z_X} {A : Nat → Prop} {Ω : z_O} (hC : z_C X b_M_meet 9 "NodalAuctionModel" Ω) (hA : z_hA X A) (hR : z_R X (some .boolean)) (hM : z_rmOf X = z_rm 3 86) (n : Nat) (r : Int32 × z_S) (x1 : Int32) (x2 : Int32) (x3 : Int32) (S : z_S) (h : f_M_meet n x1 x2 x3 S = some r) : z_At X A (z_QI X Ω A r.1 (wM Ω r.2)) Ω 0 0 9 0 [(0, .ref (Ω.2.2 100)), (1, .int x1), (2, .int x2), (3, .int x3)] [] (wM Ω S) := by
  refine z_aload_n rfl 0 rfl hC d_M_meet_0 (q := 1) rfl ?_
  refine z_iload_n rfl 1 rfl hC d_M_meet_1 (q := 2) rfl ?_
  refine z_iload_n rfl 2 rfl hC d_M_meet_2 (q := 3) rfl ?_
  refine z_iload_n rfl 3 rfl hC d_M_meet_3 (q := 4) rfl ?_
  refine z_iconst (v := (0 : Int32)) (by decide) hC d_M_meet_4 (q := 5) rfl ?_
  obtain ⟨v5, S5, hc5, h⟩ := bo_some h
  refine z_callVl (q0 := 0) (As := [.int x1, .int x2, .int x3, .int (0 : Int32)]) hC hA (c_M_determinant (z_lOf X) Ω n x1 x2 x3 (0 : Int32) S (v5, S5) hc5) k_608 k_605 k_607 ks_47 k_6 h_M_determinant (by rw [hM]; exact ⟨Nat.le_of_ble_eq_true rfl, Nat.le_of_ble_eq_true rfl⟩) ⟨Nat.zero_le _, Nat.zero_le _⟩ rfl rfl rfl (Nat.le_of_ble_eq_true rfl) rfl d_M_meet_5 (q := 8) rfl ?_
  refine z_lstore (lv' := [(4, .long v5), (0, .ref (Ω.2.2 100)), (1, .int x1), (2, .int x2), (3, .int x3)]) (by decide) rfl hC d_M_meet_8 (q := 10) rfl ?_
  refine z_lload 0 rfl hC d_M_meet_10 (q := 12) rfl ?_
  refine z_lconst (v := (0 : Int64)) (by decide) hC d_M_meet_12 (q := 13) rfl ?_
  refine z_lcmp_ne (pc1 := 14) (tgt := 19) (q := 17) hC d_M_meet_13 rfl d_M_meet_14 rfl rfl (fun hb => ?_) (fun hb => ?_)
  · have h := (if_neg hb).symm.trans h
    refine z_lload 0 rfl hC d_M_meet_19 (q := 21) rfl ?_
    refine z_lconst (v := (0 : Int64)) (by decide) hC d_M_meet_21 (q := 22) rfl ?_
    refine z_lcmp_ge (pc1 := 23) (tgt := 32) (q := 26) hC d_M_meet_22 rfl d_M_meet_23 rfl rfl (fun hb => ?_) (fun hb => ?_)
    · have h := (if_pos hb).symm.trans h
      refine z_lconst (v := (1 : Int64)) (by decide) hC d_M_meet_32 (q := 33) rfl ?_
      refine z_sub [1, 2, 3, 4, 0] rfl ?_
      exact w_M_meet_33 hC hA hR hM n r x1 x2 x3 v5 (1 : Int64) S5 h
    · have h := (if_neg hb).symm.trans h
      refine z_ldc2 (v := (-1 : Int64)) k_617 hC d_M_meet_26 (q := 29) rfl ?_
      refine z_goto (tgt := 33) hC d_M_meet_29 rfl ?_
      refine z_sub [1, 2, 3, 4, 0] rfl ?_
      exact w_M_meet_33 hC hA hR hM n r x1 x2 x3 v5 (-1 : Int64) S5 h
  · have h := (if_pos hb).symm.trans h
    refine z_iconst (v := (0 : Int32)) (by decide) hC d_M_meet_17 (q := 18) rfl ?_
    cases h
    exact z_zret hC hR (by decide) rfl rfl d_M_meet_18
theorem c_M_meet (l : Launch) (Ω : z_O) (n : Nat) (x1 : Int32) (x2 : Int32) (x3 : Int32) (S : z_S) (r : Int32 × z_S) (h : f_M_meet n x1 x2 x3 S = some r) : z_MI l Ω y_M_meet b_M_meet 9 .boolean 3 86 [.ref (Ω.2.2 100), .int x1, .int x2, .int x3] (wM Ω S) r.1 (wM Ω r.2) := z_introI (by decide +kernel) (Nat.le_of_ble_eq_true rfl) rfl (fun X A hC hA hR _ hM => w_M_meet hC hA hR hM n r x1 x2 x3 S h)
def f_M_flowHere (n : Nat) (x1 : Int32) (S : z_S) : Option (Int64 × z_S) := ck (vi x1 6) (ck (vi x1 6) (ck (vi (gI S 0 x1.toNatClampNeg) 4) (ck (vi x1 6) (ck (vi (gI S 1 x1.toNatClampNeg) 4) (some (((gI S 2 x1.toNatClampNeg).toInt64) * ((gJ S 4 ((gI S 0 x1.toNatClampNeg).toNatClampNeg)) - (gJ S 4 ((gI S 1 x1.toNatClampNeg).toNatClampNeg))), S))))))
set_option maxRecDepth 20000 in
theorem w_M_flowHere {X : z_X} {A : Nat → Prop} {Ω : z_O} (hC : z_C X b_M_flowHere 2 "NodalAuctionModel" Ω) (hA : z_hA X A) (hR : z_R X (some .long)) (hM : z_rmOf X = z_rm 0 0) (n : Nat) (r : Int64 × z_S) (x1 : Int32) (S : z_S) (h : f_M_flowHere n x1 S = some r) : z_At X A (z_QL X Ω A r.1 (wM Ω r.2)) Ω 0 0 2 0 [(0, .ref (Ω.2.2 100)), (1, .int x1)] [] (wM Ω S) := by
  refine z_aload_n rfl 0 rfl hC d_M_flowHere_0 (q := 1) rfl ?_
  refine gf_M_16_0 hC d_M_flowHere_1 (q := 4) rfl ?_
  refine z_iload_n rfl 1 rfl hC d_M_flowHere_4 (q := 5) rfl ?_
  obtain ⟨hv1, h⟩ := ck_some h
  refine al_wM_3 hC hv1 d_M_flowHere_5 (q := 6) rfl ?_
  refine z_i2l hC d_M_flowHere_6 (q := 7) rfl ?_
  refine z_aload_n rfl 0 rfl hC d_M_flowHere_7 (q := 8) rfl ?_
  refine gf_M_54_0 hC d_M_flowHere_8 (q := 11) rfl ?_
  refine z_aload_n rfl 0 rfl hC d_M_flowHere_11 (q := 12) rfl ?_
  refine gf_M_7_0 hC d_M_flowHere_12 (q := 15) rfl ?_
  refine z_iload_n rfl 1 rfl hC d_M_flowHere_15 (q := 16) rfl ?_
  obtain ⟨hv2, h⟩ := ck_some h
  refine al_wM_1 hC hv2 d_M_flowHere_16 (q := 17) rfl ?_
  obtain ⟨hv3, h⟩ := ck_some h
  refine al_wM_15 hC hv3 d_M_flowHere_17 (q := 18) rfl ?_
  refine z_aload_n rfl 0 rfl hC d_M_flowHere_18 (q := 19) rfl ?_
  refine gf_M_54_0 hC d_M_flowHere_19 (q := 22) rfl ?_
  refine z_aload_n rfl 0 rfl hC d_M_flowHere_22 (q := 23) rfl ?_
  refine gf_M_13_0 hC d_M_flowHere_23 (q := 26) rfl ?_
  refine z_iload_n rfl 1 rfl hC d_M_flowHere_26 (q := 27) rfl ?_
  obtain ⟨hv4, h⟩ := ck_some h
  refine al_wM_2 hC hv4 d_M_flowHere_27 (q := 28) rfl ?_
  obtain ⟨hv5, h⟩ := ck_some h
  refine al_wM_15 hC hv5 d_M_flowHere_28 (q := 29) rfl ?_
  refine z_lsub hC d_M_flowHere_29 (q := 30) rfl ?_
  refine z_lmul hC d_M_flowHere_30 (q := 31) rfl ?_
  cases h
  exact z_lret hC hR rfl rfl d_M_flowHere_31
theorem c_M_flowHere (l : Launch) (Ω : z_O) (n : Nat) (x1 : Int32) (S : z_S) (r : Int64 × z_S) (h : f_M_flowHere n x1 S = some r) : z_ML l Ω y_M_flowHere b_M_flowHere 2 .long 0 0 [.ref (Ω.2.2 100), .int x1] (wM Ω S) r.1 (wM Ω r.2) := z_introL (by decide +kernel) (Nat.le_of_ble_eq_true rfl) rfl (fun X A hC hA hR _ hM => w_M_flowHere hC hA hR hM n r x1 S h)
def f_M_brought_59 (n : Nat) (k5 : Int32 → Int64 → Int32 → z_S → Option (Int64 × z_S)) (x1 : Int32) (x4 : Int32) (t0 : Int64) (S : z_S) : Option (Int64 × z_S) := k5 x1 t0 (x4 + (1 : Int32)) S
def f_M_brought_5 (n : Nat) : Nat → Int32 → Int64 → Int32 → z_S → Option (Int64 × z_S)
  | 0, _, _, _, _ => none
  | q + 1, x1, x2, x4, S => (if (gF S 0) ≤ x4 then some (x2, S) else bo (f_M_flowHere n x4 S) (fun v17 S17 => ck (vi x4 6) ((if (gI S17 1 x4.toNatClampNeg) = x1 then f_M_brought_59 n (f_M_brought_5 n q) x1 x4 (x2 + v17) S17 else ck (vi x4 6) ((if (gI S17 0 x4.toNatClampNeg) = x1 then f_M_brought_59 n (f_M_brought_5 n q) x1 x4 (x2 - v17) S17 else f_M_brought_59 n (f_M_brought_5 n q) x1 x4 x2 S17))))))
def f_M_brought (n : Nat) (x1 : Int32) (S : z_S) : Option (Int64 × z_S) := f_M_brought_5 n n x1 (0 : Int64) (0 : Int32) S
set_option maxRecDepth 20000 in
theorem w_M_brought_59 {X : z_X} {A : Nat → Prop} {Ω : z_O} (hC : z_C X b_M_brought 7 "NodalAuctionModel" Ω) (hA : z_hA X A) (hR : z_R X (some .long)) (hM : z_rmOf X = z_rm 1 21) (n : Nat) (r : Int64 × z_S) (k5 : Int32 → Int64 → Int32 → z_S → Option (Int64 × z_S)) (hk5 : ∀ (x1 : Int32) (x2 : Int64) (x4 : Int32) (S : z_S), k5 x1 x2 x4 S = some r → z_At X A (z_QL X Ω A r.1 (wM Ω r.2)) Ω 0 0 7 5 [(0, .ref (Ω.2.2 100)), (1, .int x1), (2, .long x2), (4, .int x4)] [] (wM Ω S)) (x1 : Int32) (x4 : Int32) (t0 : Int64) (S : z_S) (h : f_M_brought_59 n k5 x1 x4 t0 S = some r) : z_At X A (z_QL X Ω A r.1 (wM Ω r.2)) Ω 0 0 7 59 [(0, .ref (Ω.2.2 100)), (1, .int x1), (4, .int x4)] [.long t0] (wM Ω S) := by
  refine z_lstore_n (lv' := [(2, .long t0), (0, .ref (Ω.2.2 100)), (1, .int x1), (4, .int x4)]) rfl (by decide) rfl hC d_M_brought_59 (q := 60) rfl ?_
  refine z_iinc (lv' := [(4, .int (x4 + (1 : Int32))), (2, .long t0), (0, .ref (Ω.2.2 100)), (1, .int x1)]) 3 rfl rfl (by decide) rfl hC d_M_brought_60 (q := 63) rfl ?_
  refine z_goto (tgt := 5) hC d_M_brought_63 rfl ?_
  refine z_sub [2, 3, 1, 0] rfl ?_
  exact hk5 x1 t0 (x4 + (1 : Int32)) S h
set_option maxRecDepth 20000 in
theorem w_M_brought_5 {X : z_X} {A : Nat → Prop} {Ω : z_O} (hC : z_C X b_M_brought 7 "NodalAuctionModel" Ω) (hA : z_hA X A) (hR : z_R X (some .long)) (hM : z_rmOf X = z_rm 1 21) (n : Nat) (r : Int64 × z_S) : ∀ (q : Nat) (x1 : Int32) (x2 : Int64) (x4 : Int32) (S : z_S), f_M_brought_5 n q x1 x2 x4 S = some r → z_At X A (z_QL X Ω A r.1 (wM Ω r.2)) Ω 0 0 7 5 [(0, .ref (Ω.2.2 100)), (1, .int x1), (2, .long x2), (4, .int x4)] [] (wM Ω S) := by
  intro q
  induction q with
  | zero => intro x1 x2 x4 S h; cases h
  | succ q ih =>
    intro x1 x2 x4 S h
    refine z_iload 3 rfl hC d_M_brought_5 (q := 7) rfl ?_
    refine z_aload_n rfl 0 rfl hC d_M_brought_7 (q := 8) rfl ?_
    refine gf_M_86_0 hC d_M_brought_8 (q := 11) rfl ?_
    refine z_icmp_ge (tgt := 66) (q := 14) hC d_M_brought_11 rfl rfl (fun hb => ?_) (fun hb => ?_)
    · have h := (if_pos hb).symm.trans h
      refine z_lload_n rfl 2 rfl hC d_M_brought_66 (q := 67) rfl ?_
      cases h
      exact z_lret hC hR rfl rfl d_M_brought_67
    · have h := (if_neg hb).symm.trans h
      refine z_aload_n rfl 0 rfl hC d_M_brought_14 (q := 15) rfl ?_
      refine z_iload 3 rfl hC d_M_brought_15 (q := 17) rfl ?_
      obtain ⟨v17, S17, hc17, h⟩ := bo_some h
      refine z_callVl (q0 := 0) (As := [.int x4]) hC hA (c_M_flowHere (z_lOf X) Ω n x4 S (v17, S17) hc17) k_625 k_622 k_624 ks_51 k_6 h_M_flowHere (by rw [hM]; exact ⟨Nat.le_of_ble_eq_true rfl, Nat.le_of_ble_eq_true rfl⟩) ⟨Nat.zero_le _, Nat.zero_le _⟩ rfl rfl rfl (Nat.le_of_ble_eq_true rfl) rfl d_M_brought_17 (q := 20) rfl ?_
      refine z_lstore (lv' := [(5, .long v17), (0, .ref (Ω.2.2 100)), (1, .int x1), (2, .long x2), (4, .int x4)]) (by decide) rfl hC d_M_brought_20 (q := 22) rfl ?_
      refine z_aload_n rfl 1 rfl hC d_M_brought_22 (q := 23) rfl ?_
      refine gf_M_13_0 hC d_M_brought_23 (q := 26) rfl ?_
      refine z_iload 4 rfl hC d_M_brought_26 (q := 28) rfl ?_
      obtain ⟨hv1, h⟩ := ck_some h
      refine al_wM_2 hC hv1 d_M_brought_28 (q := 29) rfl ?_
      refine z_iload_n rfl 2 rfl hC d_M_brought_29 (q := 30) rfl ?_
      refine z_icmp_ne (tgt := 40) (q := 33) hC d_M_brought_30 rfl rfl (fun hb => ?_) (fun hb => ?_)
      · have h := (if_neg hb).symm.trans h
        refine z_aload_n rfl 1 rfl hC d_M_brought_40 (q := 41) rfl ?_
        refine gf_M_7_0 hC d_M_brought_41 (q := 44) rfl ?_
        refine z_iload 4 rfl hC d_M_brought_44 (q := 46) rfl ?_
        obtain ⟨hv2, h⟩ := ck_some h
        refine al_wM_1 hC hv2 d_M_brought_46 (q := 47) rfl ?_
        refine z_iload_n rfl 2 rfl hC d_M_brought_47 (q := 48) rfl ?_
        refine z_icmp_ne (tgt := 58) (q := 51) hC d_M_brought_48 rfl rfl (fun hb => ?_) (fun hb => ?_)
        · have h := (if_neg hb).symm.trans h
          refine z_lload_n rfl 3 rfl hC d_M_brought_58 (q := 59) rfl ?_
          refine z_sub [1, 2, 4] rfl ?_
          exact w_M_brought_59 hC hA hR hM n r (f_M_brought_5 n q) ih x1 x4 x2 S17 h
        · have h := (if_pos hb).symm.trans h
          refine z_lload_n rfl 3 rfl hC d_M_brought_51 (q := 52) rfl ?_
          refine z_lload 0 rfl hC d_M_brought_52 (q := 54) rfl ?_
          refine z_lsub hC d_M_brought_54 (q := 55) rfl ?_
          refine z_goto (tgt := 59) hC d_M_brought_55 rfl ?_
          refine z_sub [1, 2, 4] rfl ?_
          exact w_M_brought_59 hC hA hR hM n r (f_M_brought_5 n q) ih x1 x4 (x2 - v17) S17 h
      · have h := (if_pos hb).symm.trans h
        refine z_lload_n rfl 3 rfl hC d_M_brought_33 (q := 34) rfl ?_
        refine z_lload 0 rfl hC d_M_brought_34 (q := 36) rfl ?_
        refine z_ladd hC d_M_brought_36 (q := 37) rfl ?_
        refine z_goto (tgt := 59) hC d_M_brought_37 rfl ?_
        refine z_sub [1, 2, 4] rfl ?_
        exact w_M_brought_59 hC hA hR hM n r (f_M_brought_5 n q) ih x1 x4 (x2 + v17) S17 h
set_option maxRecDepth 20000 in
theorem w_M_brought {X : z_X} {A : Nat → Prop} {Ω : z_O} (hC : z_C X b_M_brought 7 "NodalAuctionModel" Ω) (hA : z_hA X A) (hR : z_R X (some .long)) (hM : z_rmOf X = z_rm 1 21) (n : Nat) (r : Int64 × z_S) (x1 : Int32) (S : z_S) (h : f_M_brought n x1 S = some r) : z_At X A (z_QL X Ω A r.1 (wM Ω r.2)) Ω 0 0 7 0 [(0, .ref (Ω.2.2 100)), (1, .int x1)] [] (wM Ω S) := by
  refine z_lconst (v := (0 : Int64)) (by decide) hC d_M_brought_0 (q := 1) rfl ?_
  refine z_lstore_n (lv' := [(2, .long (0 : Int64)), (0, .ref (Ω.2.2 100)), (1, .int x1)]) rfl (by decide) rfl hC d_M_brought_1 (q := 2) rfl ?_
  refine z_iconst (v := (0 : Int32)) (by decide) hC d_M_brought_2 (q := 3) rfl ?_
  refine z_istore (lv' := [(4, .int (0 : Int32)), (2, .long (0 : Int64)), (0, .ref (Ω.2.2 100)), (1, .int x1)]) (by decide) rfl hC d_M_brought_3 (q := 5) rfl ?_
  refine z_sub [2, 3, 1, 0] rfl ?_
  exact w_M_brought_5 hC hA hR hM n r n x1 (0 : Int64) (0 : Int32) S h
theorem c_M_brought (l : Launch) (Ω : z_O) (n : Nat) (x1 : Int32) (S : z_S) (r : Int64 × z_S) (h : f_M_brought n x1 S = some r) : z_ML l Ω y_M_brought b_M_brought 7 .long 1 21 [.ref (Ω.2.2 100), .int x1] (wM Ω S) r.1 (wM Ω r.2) := z_introL (by decide +kernel) (Nat.le_of_ble_eq_true rfl) rfl (fun X A hC hA hR _ hM => w_M_brought hC hA hR hM n r x1 S h)
def f_M_linesHold_51 (n : Nat) (S : z_S) : Option (Int32 × z_S) := some ((0 : Int32), S)
def f_M_linesHold_2 (n : Nat) : Nat → Int32 → z_S → Option (Int32 × z_S)
  | 0, _, _ => none
  | q + 1, x1, S => (if (gF S 0) ≤ x1 then some ((1 : Int32), S) else bo (f_M_flowHere n x1 S) (fun v12 S12 => ck (vi x1 6) ((if (((gI S12 3 x1.toNatClampNeg).toInt64) * (gG S12 0)) < v12 then f_M_linesHold_51 n S12 else ck (vi x1 6) ((if (((-(gI S12 3 x1.toNatClampNeg)).toInt64) * (gG S12 0)) ≤ v12 then f_M_linesHold_2 n q (x1 + (1 : Int32)) S12 else f_M_linesHold_51 n S12))))))
def f_M_linesHold (n : Nat) (S : z_S) : Option (Int32 × z_S) := f_M_linesHold_2 n n (0 : Int32) S
set_option maxRecDepth 20000 in
theorem w_M_linesHold_51 {X : z_X} {A : Nat → Prop} {Ω : z_O} (hC : z_C X b_M_linesHold 4 "NodalAuctionModel" Ω) (hA : z_hA X A) (hR : z_R X (some .boolean)) (hM : z_rmOf X = z_rm 1 21) (n : Nat) (r : Int32 × z_S) (S : z_S) (h : f_M_linesHold_51 n S = some r) : z_At X A (z_QI X Ω A r.1 (wM Ω r.2)) Ω 0 0 4 51 [(0, .ref (Ω.2.2 100))] [] (wM Ω S) := by
  refine z_iconst (v := (0 : Int32)) (by decide) hC d_M_linesHold_51 (q := 52) rfl ?_
  cases h
  exact z_zret hC hR (by decide) rfl rfl d_M_linesHold_52
set_option maxRecDepth 20000 in
theorem w_M_linesHold_2 {X : z_X} {A : Nat → Prop} {Ω : z_O} (hC : z_C X b_M_linesHold 4 "NodalAuctionModel" Ω) (hA : z_hA X A) (hR : z_R X (some .boolean)) (hM : z_rmOf X = z_rm 1 21) (n : Nat) (r : Int32 × z_S) : ∀ (q : Nat) (x1 : Int32) (S : z_S), f_M_linesHold_2 n q x1 S = some r → z_At X A (z_QI X Ω A r.1 (wM Ω r.2)) Ω 0 0 4 2 [(0, .ref (Ω.2.2 100)), (1, .int x1)] [] (wM Ω S) := by
  intro q
  induction q with
  | zero => intro x1 S h; cases h
  | succ q ih =>
    intro x1 S h
    refine z_iload_n rfl 1 rfl hC d_M_linesHold_2 (q := 3) rfl ?_
    refine z_aload_n rfl 0 rfl hC d_M_linesHold_3 (q := 4) rfl ?_
    refine gf_M_86_0 hC d_M_linesHold_4 (q := 7) rfl ?_
    refine z_icmp_ge (tgt := 59) (q := 10) hC d_M_linesHold_7 rfl rfl (fun hb => ?_) (fun hb => ?_)
    · have h := (if_pos hb).symm.trans h
      refine z_iconst (v := (1 : Int32)) (by decide) hC d_M_linesHold_59 (q := 60) rfl ?_
      cases h
      exact z_zret hC hR (by decide) rfl rfl d_M_linesHold_60
    · have h := (if_neg hb).symm.trans h
      refine z_aload_n rfl 0 rfl hC d_M_linesHold_10 (q := 11) rfl ?_
      refine z_iload_n rfl 1 rfl hC d_M_linesHold_11 (q := 12) rfl ?_
      obtain ⟨v12, S12, hc12, h⟩ := bo_some h
      refine z_callVl (q0 := 0) (As := [.int x1]) hC hA (c_M_flowHere (z_lOf X) Ω n x1 S (v12, S12) hc12) k_625 k_622 k_624 ks_51 k_6 h_M_flowHere (by rw [hM]; exact ⟨Nat.le_of_ble_eq_true rfl, Nat.le_of_ble_eq_true rfl⟩) ⟨Nat.zero_le _, Nat.zero_le _⟩ rfl rfl rfl (Nat.le_of_ble_eq_true rfl) rfl d_M_linesHold_12 (q := 15) rfl ?_
      refine z_lstore_n (lv' := [(2, .long v12), (0, .ref (Ω.2.2 100)), (1, .int x1)]) rfl (by decide) rfl hC d_M_linesHold_15 (q := 16) rfl ?_
      refine z_lload_n rfl 0 rfl hC d_M_linesHold_16 (q := 17) rfl ?_
      refine z_aload_n rfl 1 rfl hC d_M_linesHold_17 (q := 18) rfl ?_
      refine gf_M_19_0 hC d_M_linesHold_18 (q := 21) rfl ?_
      refine z_iload_n rfl 2 rfl hC d_M_linesHold_21 (q := 22) rfl ?_
      obtain ⟨hv1, h⟩ := ck_some h
      refine al_wM_4 hC hv1 d_M_linesHold_22 (q := 23) rfl ?_
      refine z_i2l hC d_M_linesHold_23 (q := 24) rfl ?_
      refine z_aload_n rfl 1 rfl hC d_M_linesHold_24 (q := 25) rfl ?_
      refine gf_M_130_0 hC d_M_linesHold_25 (q := 28) rfl ?_
      refine z_lmul hC d_M_linesHold_28 (q := 29) rfl ?_
      refine z_lcmp_gt (pc1 := 30) (tgt := 51) (q := 33) hC d_M_linesHold_29 rfl d_M_linesHold_30 rfl rfl (fun hb => ?_) (fun hb => ?_)
      · have h := (if_pos hb).symm.trans h
        refine z_sub [1] rfl ?_
        exact w_M_linesHold_51 hC hA hR hM n r S12 h
      · have h := (if_neg hb).symm.trans h
        refine z_lload_n rfl 0 rfl hC d_M_linesHold_33 (q := 34) rfl ?_
        refine z_aload_n rfl 1 rfl hC d_M_linesHold_34 (q := 35) rfl ?_
        refine gf_M_19_0 hC d_M_linesHold_35 (q := 38) rfl ?_
        refine z_iload_n rfl 2 rfl hC d_M_linesHold_38 (q := 39) rfl ?_
        obtain ⟨hv2, h⟩ := ck_some h
        refine al_wM_4 hC hv2 d_M_linesHold_39 (q := 40) rfl ?_
        refine z_ineg hC d_M_linesHold_40 (q := 41) rfl ?_
        refine z_i2l hC d_M_linesHold_41 (q := 42) rfl ?_
        refine z_aload_n rfl 1 rfl hC d_M_linesHold_42 (q := 43) rfl ?_
        refine gf_M_130_0 hC d_M_linesHold_43 (q := 46) rfl ?_
        refine z_lmul hC d_M_linesHold_46 (q := 47) rfl ?_
        refine z_lcmp_ge (pc1 := 48) (tgt := 53) (q := 51) hC d_M_linesHold_47 rfl d_M_linesHold_48 rfl rfl (fun hb => ?_) (fun hb => ?_)
        · have h := (if_pos hb).symm.trans h
          refine z_iinc (lv' := [(1, .int (x1 + (1 : Int32))), (2, .long v12), (0, .ref (Ω.2.2 100))]) 2 rfl rfl (by decide) rfl hC d_M_linesHold_53 (q := 56) rfl ?_
          refine z_goto (tgt := 2) hC d_M_linesHold_56 rfl ?_
          refine z_sub [2, 0] rfl ?_
          exact ih (x1 + (1 : Int32)) S12 h
        · have h := (if_neg hb).symm.trans h
          refine z_sub [1] rfl ?_
          exact w_M_linesHold_51 hC hA hR hM n r S12 h
set_option maxRecDepth 20000 in
theorem w_M_linesHold {X : z_X} {A : Nat → Prop} {Ω : z_O} (hC : z_C X b_M_linesHold 4 "NodalAuctionModel" Ω) (hA : z_hA X A) (hR : z_R X (some .boolean)) (hM : z_rmOf X = z_rm 1 21) (n : Nat) (r : Int32 × z_S) (S : z_S) (h : f_M_linesHold n S = some r) : z_At X A (z_QI X Ω A r.1 (wM Ω r.2)) Ω 0 0 4 0 [(0, .ref (Ω.2.2 100))] [] (wM Ω S) := by
  refine z_iconst (v := (0 : Int32)) (by decide) hC d_M_linesHold_0 (q := 1) rfl ?_
  refine z_istore_n (lv' := [(1, .int (0 : Int32)), (0, .ref (Ω.2.2 100))]) rfl (by decide) rfl hC d_M_linesHold_1 (q := 2) rfl ?_
  refine z_sub [1, 0] rfl ?_
  exact w_M_linesHold_2 hC hA hR hM n r n (0 : Int32) S h
theorem c_M_linesHold (l : Launch) (Ω : z_O) (n : Nat) (S : z_S) (r : Int32 × z_S) (h : f_M_linesHold n S = some r) : z_MI l Ω y_M_linesHold b_M_linesHold 4 .boolean 1 21 [.ref (Ω.2.2 100)] (wM Ω S) r.1 (wM Ω r.2) := z_introI (by decide +kernel) (Nat.le_of_ble_eq_true rfl) rfl (fun X A hC hA hR _ hM => w_M_linesHold hC hA hR hM n r S h)
def f_M_use_127 (n : Nat) (k32 : Int32 → Int64 → Int32 → z_S → Option (Int32 × z_S)) (x1 : Int32) (x4 : Int64) (x6 : Int32) (S : z_S) : Option (Int32 × z_S) := k32 x1 x4 (x6 + (1 : Int32)) S
def f_M_use_126 (n : Nat) (k32 : Int32 → Int64 → Int32 → z_S → Option (Int32 × z_S)) (x1 : Int32) (x4 : Int64) (x6 : Int32) (t1 : Int32) (t2 : Int64) (S : z_S) : Option (Int32 × z_S) := ck (vi t1 8) (f_M_use_127 n k32 x1 x4 x6 (sJ S 5 (vp_updL (gJ S 5) t1.toNatClampNeg t2)))
def f_M_use_91 (n : Nat) (k32 : Int32 → Int64 → Int32 → z_S → Option (Int32 × z_S)) (x1 : Int32) (x4 : Int64) (x6 : Int32) (x7 : Int32) (x8 : Int64) (t0 : Int64) (S : z_S) : Option (Int32 × z_S) := ck (vi x7 8) ((if (gI S 4 x7.toNatClampNeg) = 0 then f_M_use_126 n k32 x1 (x4 - t0) x6 x7 (x8 - t0) S else f_M_use_126 n k32 x1 (x4 - t0) x6 x7 t0 S))
def f_M_use_76 (n : Nat) (k32 : Int32 → Int64 → Int32 → z_S → Option (Int32 × z_S)) (x1 : Int32) (x4 : Int64) (x6 : Int32) (x7 : Int32) (x8 : Int64) (S : z_S) : Option (Int32 × z_S) := (if x8 ≤ x4 then f_M_use_91 n k32 x1 x4 x6 x7 x8 x8 S else f_M_use_91 n k32 x1 x4 x6 x7 x8 x4 S)
def f_M_use_145 (n : Nat) (t0 : Int32) (S : z_S) : Option (Int32 × z_S) := ck (vz t0) (some (t0, S))
def f_M_use_32 (n : Nat) : Nat → Int32 → Int64 → Int32 → z_S → Option (Int32 × z_S)
  | 0, _, _, _, _ => none
  | q + 1, x1, x4, x6, S => (if (gF S 1) ≤ x6 then (if x4 = (0 : Int64) then f_M_use_145 n (1 : Int32) S else f_M_use_145 n (0 : Int32) S) else ck (vi x6 8) (ck (vi (gI S 8 x6.toNatClampNeg) 8) ((if (gI S 5 ((gI S 8 x6.toNatClampNeg).toNatClampNeg)) = x1 then ck (vi (gI S 8 x6.toNatClampNeg) 8) (f_M_use_76 n (f_M_use_32 n q) x1 x4 x6 (gI S 8 x6.toNatClampNeg) (((gI S 7 ((gI S 8 x6.toNatClampNeg).toNatClampNeg)).toInt64) * (gG S 0)) S) else f_M_use_127 n (f_M_use_32 n q) x1 x4 x6 S))))
def f_M_use (n : Nat) (x1 : Int32) (x2 : Int64) (S : z_S) : Option (Int32 × z_S) := bo (f_M_brought n x1 S) (fun v2 S2 => bo (f_M_offered n x1 S2) (fun v9 S9 => (if (0 : Int64) ≤ ((v2 - x2) + (v9 * (gG S9 0))) then f_M_use_32 n n x1 ((v2 - x2) + (v9 * (gG S9 0))) (0 : Int32) S9 else some ((0 : Int32), S9))))
set_option maxRecDepth 20000 in
theorem w_M_use_127 {X : z_X} {A : Nat → Prop} {Ω : z_O} (hC : z_C X b_M_use 12 "NodalAuctionModel" Ω) (hA : z_hA X A) (hR : z_R X (some .boolean)) (hM : z_rmOf X = z_rm 2 47) (n : Nat) (r : Int32 × z_S) (k32 : Int32 → Int64 → Int32 → z_S → Option (Int32 × z_S)) (hk32 : ∀ (x1 : Int32) (x4 : Int64) (x6 : Int32) (S : z_S), k32 x1 x4 x6 S = some r → z_At X A (z_QI X Ω A r.1 (wM Ω r.2)) Ω 0 0 12 32 [(0, .ref (Ω.2.2 100)), (1, .int x1), (4, .long x4), (6, .int x6)] [] (wM Ω S)) (x1 : Int32) (x4 : Int64) (x6 : Int32) (S : z_S) (h : f_M_use_127 n k32 x1 x4 x6 S = some r) : z_At X A (z_QI X Ω A r.1 (wM Ω r.2)) Ω 0 0 12 127 [(0, .ref (Ω.2.2 100)), (1, .int x1), (4, .long x4), (6, .int x6)] [] (wM Ω S) := by
  refine z_iinc (lv' := [(6, .int (x6 + (1 : Int32))), (0, .ref (Ω.2.2 100)), (1, .int x1), (4, .long x4)]) 3 rfl rfl (by decide) rfl hC d_M_use_127 (q := 130) rfl ?_
  refine z_goto (tgt := 32) hC d_M_use_130 rfl ?_
  refine z_sub [1, 2, 3, 0] rfl ?_
  exact hk32 x1 x4 (x6 + (1 : Int32)) S h
set_option maxRecDepth 20000 in
theorem w_M_use_126 {X : z_X} {A : Nat → Prop} {Ω : z_O} (hC : z_C X b_M_use 12 "NodalAuctionModel" Ω) (hA : z_hA X A) (hR : z_R X (some .boolean)) (hM : z_rmOf X = z_rm 2 47) (n : Nat) (r : Int32 × z_S) (k32 : Int32 → Int64 → Int32 → z_S → Option (Int32 × z_S)) (hk32 : ∀ (x1 : Int32) (x4 : Int64) (x6 : Int32) (S : z_S), k32 x1 x4 x6 S = some r → z_At X A (z_QI X Ω A r.1 (wM Ω r.2)) Ω 0 0 12 32 [(0, .ref (Ω.2.2 100)), (1, .int x1), (4, .long x4), (6, .int x6)] [] (wM Ω S)) (x1 : Int32) (x4 : Int64) (x6 : Int32) (t1 : Int32) (t2 : Int64) (S : z_S) (h : f_M_use_126 n k32 x1 x4 x6 t1 t2 S = some r) : z_At X A (z_QI X Ω A r.1 (wM Ω r.2)) Ω 0 0 12 126 [(0, .ref (Ω.2.2 100)), (1, .int x1), (4, .long x4), (6, .int x6)] [.long t2, .int t1, .ref (Ω.2.2 116)] (wM Ω S) := by
  obtain ⟨hv1, h⟩ := ck_some h
  refine as_wM_16 hC hv1 d_M_use_126 (q := 127) rfl ?_
  exact w_M_use_127 hC hA hR hM n r k32 hk32 x1 x4 x6 (sJ S 5 (vp_updL (gJ S 5) t1.toNatClampNeg t2)) h
set_option maxRecDepth 20000 in
theorem w_M_use_91 {X : z_X} {A : Nat → Prop} {Ω : z_O} (hC : z_C X b_M_use 12 "NodalAuctionModel" Ω) (hA : z_hA X A) (hR : z_R X (some .boolean)) (hM : z_rmOf X = z_rm 2 47) (n : Nat) (r : Int32 × z_S) (k32 : Int32 → Int64 → Int32 → z_S → Option (Int32 × z_S)) (hk32 : ∀ (x1 : Int32) (x4 : Int64) (x6 : Int32) (S : z_S), k32 x1 x4 x6 S = some r → z_At X A (z_QI X Ω A r.1 (wM Ω r.2)) Ω 0 0 12 32 [(0, .ref (Ω.2.2 100)), (1, .int x1), (4, .long x4), (6, .int x6)] [] (wM Ω S)) (x1 : Int32) (x4 : Int64) (x6 : Int32) (x7 : Int32) (x8 : Int64) (t0 : Int64) (S : z_S) (h : f_M_use_91 n k32 x1 x4 x6 x7 x8 t0 S = some r) : z_At X A (z_QI X Ω A r.1 (wM Ω r.2)) Ω 0 0 12 91 [(0, .ref (Ω.2.2 100)), (1, .int x1), (4, .long x4), (6, .int x6), (7, .int x7), (8, .long x8)] [.long t0] (wM Ω S) := by
  refine z_lstore (lv' := [(10, .long t0), (0, .ref (Ω.2.2 100)), (1, .int x1), (4, .long x4), (6, .int x6), (7, .int x7), (8, .long x8)]) (by decide) rfl hC d_M_use_91 (q := 93) rfl ?_
  refine z_lload 3 rfl hC d_M_use_93 (q := 95) rfl ?_
  refine z_lload 0 rfl hC d_M_use_95 (q := 97) rfl ?_
  refine z_lsub hC d_M_use_97 (q := 98) rfl ?_
  refine z_lstore (lv' := [(4, .long (x4 - t0)), (10, .long t0), (0, .ref (Ω.2.2 100)), (1, .int x1), (6, .int x6), (7, .int x7), (8, .long x8)]) (by decide) rfl hC d_M_use_98 (q := 100) rfl ?_
  refine z_aload_n rfl 2 rfl hC d_M_use_100 (q := 101) rfl ?_
  refine gf_M_57_0 hC d_M_use_101 (q := 104) rfl ?_
  refine z_iload 5 rfl hC d_M_use_104 (q := 106) rfl ?_
  refine z_aload_n rfl 2 rfl hC d_M_use_106 (q := 107) rfl ?_
  refine gf_M_22_0 hC d_M_use_107 (q := 110) rfl ?_
  refine z_iload 5 rfl hC d_M_use_110 (q := 112) rfl ?_
  obtain ⟨hv1, h⟩ := ck_some h
  refine al_wM_5 hC hv1 d_M_use_112 (q := 113) rfl ?_
  refine z_if_eq (tgt := 121) (q := 116) hC d_M_use_113 rfl rfl (fun hb => ?_) (fun hb => ?_)
  · have h := (if_pos hb).symm.trans h
    refine z_lload 6 rfl hC d_M_use_121 (q := 123) rfl ?_
    refine z_lload 1 rfl hC d_M_use_123 (q := 125) rfl ?_
    refine z_lsub hC d_M_use_125 (q := 126) rfl ?_
    refine z_sub [2, 3, 0, 4] rfl ?_
    exact w_M_use_126 hC hA hR hM n r k32 hk32 x1 (x4 - t0) x6 x7 (x8 - t0) S h
  · have h := (if_neg hb).symm.trans h
    refine z_lload 1 rfl hC d_M_use_116 (q := 118) rfl ?_
    refine z_goto (tgt := 126) hC d_M_use_118 rfl ?_
    refine z_sub [2, 3, 0, 4] rfl ?_
    exact w_M_use_126 hC hA hR hM n r k32 hk32 x1 (x4 - t0) x6 x7 t0 S h
set_option maxRecDepth 20000 in
theorem w_M_use_76 {X : z_X} {A : Nat → Prop} {Ω : z_O} (hC : z_C X b_M_use 12 "NodalAuctionModel" Ω) (hA : z_hA X A) (hR : z_R X (some .boolean)) (hM : z_rmOf X = z_rm 2 47) (n : Nat) (r : Int32 × z_S) (k32 : Int32 → Int64 → Int32 → z_S → Option (Int32 × z_S)) (hk32 : ∀ (x1 : Int32) (x4 : Int64) (x6 : Int32) (S : z_S), k32 x1 x4 x6 S = some r → z_At X A (z_QI X Ω A r.1 (wM Ω r.2)) Ω 0 0 12 32 [(0, .ref (Ω.2.2 100)), (1, .int x1), (4, .long x4), (6, .int x6)] [] (wM Ω S)) (x1 : Int32) (x4 : Int64) (x6 : Int32) (x7 : Int32) (x8 : Int64) (S : z_S) (h : f_M_use_76 n k32 x1 x4 x6 x7 x8 S = some r) : z_At X A (z_QI X Ω A r.1 (wM Ω r.2)) Ω 0 0 12 76 [(0, .ref (Ω.2.2 100)), (1, .int x1), (4, .long x4), (6, .int x6), (7, .int x7), (8, .long x8)] [] (wM Ω S) := by
  refine z_lload 2 rfl hC d_M_use_76 (q := 78) rfl ?_
  refine z_lload 5 rfl hC d_M_use_78 (q := 80) rfl ?_
  refine z_lcmp_ge (pc1 := 81) (tgt := 89) (q := 84) hC d_M_use_80 rfl d_M_use_81 rfl rfl (fun hb => ?_) (fun hb => ?_)
  · have h := (if_pos hb).symm.trans h
    refine z_lload 5 rfl hC d_M_use_89 (q := 91) rfl ?_
    exact w_M_use_91 hC hA hR hM n r k32 hk32 x1 x4 x6 x7 x8 x8 S h
  · have h := (if_neg hb).symm.trans h
    refine z_lload 2 rfl hC d_M_use_84 (q := 86) rfl ?_
    refine z_goto (tgt := 91) hC d_M_use_86 rfl ?_
    exact w_M_use_91 hC hA hR hM n r k32 hk32 x1 x4 x6 x7 x8 x4 S h
set_option maxRecDepth 20000 in
theorem w_M_use_145 {X : z_X} {A : Nat → Prop} {Ω : z_O} (hC : z_C X b_M_use 12 "NodalAuctionModel" Ω) (hA : z_hA X A) (hR : z_R X (some .boolean)) (hM : z_rmOf X = z_rm 2 47) (n : Nat) (r : Int32 × z_S) (t0 : Int32) (S : z_S) (h : f_M_use_145 n t0 S = some r) : z_At X A (z_QI X Ω A r.1 (wM Ω r.2)) Ω 0 0 12 145 [(0, .ref (Ω.2.2 100))] [.int t0] (wM Ω S) := by
  obtain ⟨hv1, h⟩ := ck_some h
  cases h
  exact z_zret hC hR hv1 rfl rfl d_M_use_145
set_option maxRecDepth 20000 in
theorem w_M_use_32 {X : z_X} {A : Nat → Prop} {Ω : z_O} (hC : z_C X b_M_use 12 "NodalAuctionModel" Ω) (hA : z_hA X A) (hR : z_R X (some .boolean)) (hM : z_rmOf X = z_rm 2 47) (n : Nat) (r : Int32 × z_S) : ∀ (q : Nat) (x1 : Int32) (x4 : Int64) (x6 : Int32) (S : z_S), f_M_use_32 n q x1 x4 x6 S = some r → z_At X A (z_QI X Ω A r.1 (wM Ω r.2)) Ω 0 0 12 32 [(0, .ref (Ω.2.2 100)), (1, .int x1), (4, .long x4), (6, .int x6)] [] (wM Ω S) := by
  intro q
  induction q with
  | zero => intro x1 x4 x6 S h; cases h
  | succ q ih =>
    intro x1 x4 x6 S h
    refine z_iload 3 rfl hC d_M_use_32 (q := 34) rfl ?_
    refine z_aload_n rfl 0 rfl hC d_M_use_34 (q := 35) rfl ?_
    refine gf_M_94_0 hC d_M_use_35 (q := 38) rfl ?_
    refine z_icmp_ge (tgt := 133) (q := 41) hC d_M_use_38 rfl rfl (fun hb => ?_) (fun hb => ?_)
    · have h := (if_pos hb).symm.trans h
      refine z_lload 2 rfl hC d_M_use_133 (q := 135) rfl ?_
      refine z_lconst (v := (0 : Int64)) (by decide) hC d_M_use_135 (q := 136) rfl ?_
      refine z_lcmp_ne (pc1 := 137) (tgt := 144) (q := 140) hC d_M_use_136 rfl d_M_use_137 rfl rfl (fun hb => ?_) (fun hb => ?_)
      · have h := (if_neg hb).symm.trans h
        refine z_iconst (v := (0 : Int32)) (by decide) hC d_M_use_144 (q := 145) rfl ?_
        refine z_sub [0] rfl ?_
        exact w_M_use_145 hC hA hR hM n r (0 : Int32) S h
      · have h := (if_pos hb).symm.trans h
        refine z_iconst (v := (1 : Int32)) (by decide) hC d_M_use_140 (q := 141) rfl ?_
        refine z_goto (tgt := 145) hC d_M_use_141 rfl ?_
        refine z_sub [0] rfl ?_
        exact w_M_use_145 hC hA hR hM n r (1 : Int32) S h
    · have h := (if_neg hb).symm.trans h
      refine z_aload_n rfl 0 rfl hC d_M_use_41 (q := 42) rfl ?_
      refine gf_M_35_0 hC d_M_use_42 (q := 45) rfl ?_
      refine z_iload 3 rfl hC d_M_use_45 (q := 47) rfl ?_
      obtain ⟨hv1, h⟩ := ck_some h
      refine al_wM_9 hC hv1 d_M_use_47 (q := 48) rfl ?_
      refine z_istore (lv' := [(7, .int (gI S 8 x6.toNatClampNeg)), (0, .ref (Ω.2.2 100)), (1, .int x1), (4, .long x4), (6, .int x6)]) (by decide) rfl hC d_M_use_48 (q := 50) rfl ?_
      refine z_aload_n rfl 1 rfl hC d_M_use_50 (q := 51) rfl ?_
      refine gf_M_26_0 hC d_M_use_51 (q := 54) rfl ?_
      refine z_iload 0 rfl hC d_M_use_54 (q := 56) rfl ?_
      obtain ⟨hv2, h⟩ := ck_some h
      refine al_wM_6 hC hv2 d_M_use_56 (q := 57) rfl ?_
      refine z_iload_n rfl 2 rfl hC d_M_use_57 (q := 58) rfl ?_
      refine z_icmp_ne (tgt := 127) (q := 61) hC d_M_use_58 rfl rfl (fun hb => ?_) (fun hb => ?_)
      · have h := (if_neg hb).symm.trans h
        refine z_sub [1, 2, 3, 4] rfl ?_
        exact w_M_use_127 hC hA hR hM n r (f_M_use_32 n q) ih x1 x4 x6 S h
      · have h := (if_pos hb).symm.trans h
        refine z_aload_n rfl 1 rfl hC d_M_use_61 (q := 62) rfl ?_
        refine gf_M_32_0 hC d_M_use_62 (q := 65) rfl ?_
        refine z_iload 0 rfl hC d_M_use_65 (q := 67) rfl ?_
        obtain ⟨hv3, h⟩ := ck_some h
        refine al_wM_8 hC hv3 d_M_use_67 (q := 68) rfl ?_
        refine z_i2l hC d_M_use_68 (q := 69) rfl ?_
        refine z_aload_n rfl 1 rfl hC d_M_use_69 (q := 70) rfl ?_
        refine gf_M_130_0 hC d_M_use_70 (q := 73) rfl ?_
        refine z_lmul hC d_M_use_73 (q := 74) rfl ?_
        refine z_lstore (lv' := [(8, .long (((gI S 7 ((gI S 8 x6.toNatClampNeg).toNatClampNeg)).toInt64) * (gG S 0))), (7, .int (gI S 8 x6.toNatClampNeg)), (0, .ref (Ω.2.2 100)), (1, .int x1), (4, .long x4), (6, .int x6)]) (by decide) rfl hC d_M_use_74 (q := 76) rfl ?_
        refine z_sub [2, 3, 4, 5, 1, 0] rfl ?_
        exact w_M_use_76 hC hA hR hM n r (f_M_use_32 n q) ih x1 x4 x6 (gI S 8 x6.toNatClampNeg) (((gI S 7 ((gI S 8 x6.toNatClampNeg).toNatClampNeg)).toInt64) * (gG S 0)) S h
set_option maxRecDepth 20000 in
theorem w_M_use {X : z_X} {A : Nat → Prop} {Ω : z_O} (hC : z_C X b_M_use 12 "NodalAuctionModel" Ω) (hA : z_hA X A) (hR : z_R X (some .boolean)) (hM : z_rmOf X = z_rm 2 47) (n : Nat) (r : Int32 × z_S) (x1 : Int32) (x2 : Int64) (S : z_S) (h : f_M_use n x1 x2 S = some r) : z_At X A (z_QI X Ω A r.1 (wM Ω r.2)) Ω 0 0 12 0 [(0, .ref (Ω.2.2 100)), (1, .int x1), (2, .long x2)] [] (wM Ω S) := by
  refine z_aload_n rfl 0 rfl hC d_M_use_0 (q := 1) rfl ?_
  refine z_iload_n rfl 1 rfl hC d_M_use_1 (q := 2) rfl ?_
  obtain ⟨v2, S2, hc2, h⟩ := bo_some h
  refine z_callVl (q0 := 0) (As := [.int x1]) hC hA (c_M_brought (z_lOf X) Ω n x1 S (v2, S2) hc2) k_637 k_634 k_636 ks_54 k_6 h_M_brought (by rw [hM]; exact ⟨Nat.le_of_ble_eq_true rfl, Nat.le_of_ble_eq_true rfl⟩) ⟨Nat.zero_le _, Nat.zero_le _⟩ rfl rfl rfl (Nat.le_of_ble_eq_true rfl) rfl d_M_use_2 (q := 5) rfl ?_
  refine z_lload_n rfl 2 rfl hC d_M_use_5 (q := 6) rfl ?_
  refine z_lsub hC d_M_use_6 (q := 7) rfl ?_
  refine z_aload_n rfl 0 rfl hC d_M_use_7 (q := 8) rfl ?_
  refine z_iload_n rfl 1 rfl hC d_M_use_8 (q := 9) rfl ?_
  obtain ⟨v9, S9, hc9, h⟩ := bo_some h
  refine z_callVl (q0 := 0) (As := [.int x1]) hC hA (c_M_offered (z_lOf X) Ω n x1 S2 (v9, S9) hc9) k_600 k_597 k_599 ks_45 k_6 h_M_offered (by rw [hM]; exact ⟨Nat.le_of_ble_eq_true rfl, Nat.le_of_ble_eq_true rfl⟩) ⟨Nat.zero_le _, Nat.zero_le _⟩ rfl rfl rfl (Nat.le_of_ble_eq_true rfl) rfl d_M_use_9 (q := 12) rfl ?_
  refine z_aload_n rfl 0 rfl hC d_M_use_12 (q := 13) rfl ?_
  refine gf_M_130_0 hC d_M_use_13 (q := 16) rfl ?_
  refine z_lmul hC d_M_use_16 (q := 17) rfl ?_
  refine z_ladd hC d_M_use_17 (q := 18) rfl ?_
  refine z_lstore (lv' := [(4, .long ((v2 - x2) + (v9 * (gG S9 0)))), (0, .ref (Ω.2.2 100)), (1, .int x1), (2, .long x2)]) (by decide) rfl hC d_M_use_18 (q := 20) rfl ?_
  refine z_lload 0 rfl hC d_M_use_20 (q := 22) rfl ?_
  refine z_lconst (v := (0 : Int64)) (by decide) hC d_M_use_22 (q := 23) rfl ?_
  refine z_lcmp_ge (pc1 := 24) (tgt := 29) (q := 27) hC d_M_use_23 rfl d_M_use_24 rfl rfl (fun hb => ?_) (fun hb => ?_)
  · have h := (if_pos hb).symm.trans h
    refine z_iconst (v := (0 : Int32)) (by decide) hC d_M_use_29 (q := 30) rfl ?_
    refine z_istore (lv' := [(6, .int (0 : Int32)), (4, .long ((v2 - x2) + (v9 * (gG S9 0)))), (0, .ref (Ω.2.2 100)), (1, .int x1), (2, .long x2)]) (by decide) rfl hC d_M_use_30 (q := 32) rfl ?_
    refine z_sub [2, 3, 1, 0] rfl ?_
    exact w_M_use_32 hC hA hR hM n r n x1 ((v2 - x2) + (v9 * (gG S9 0))) (0 : Int32) S9 h
  · have h := (if_neg hb).symm.trans h
    refine z_iconst (v := (0 : Int32)) (by decide) hC d_M_use_27 (q := 28) rfl ?_
    cases h
    exact z_zret hC hR (by decide) rfl rfl d_M_use_28
theorem c_M_use (l : Launch) (Ω : z_O) (n : Nat) (x1 : Int32) (x2 : Int64) (S : z_S) (r : Int32 × z_S) (h : f_M_use n x1 x2 S = some r) : z_MI l Ω y_M_use b_M_use 12 .boolean 2 47 [.ref (Ω.2.2 100), .int x1, .long x2] (wM Ω S) r.1 (wM Ω r.2) := z_introI (by decide +kernel) (Nat.le_of_ble_eq_true rfl) rfl (fun X A hC hA hR _ hM => w_M_use hC hA hR hM n r x1 x2 S h)
def f_M_useAll_22 (n : Nat) (k2 : Int32 → Int32 → z_S → Option (Int32 × z_S)) (x1 : Int32) (x2 : Int32) (t1 : Int32) (t2 : Int64) (S : z_S) : Option (Int32 × z_S) := bo (f_M_use n t1 t2 S) (fun v22 S22 => (if v22 = 0 then some ((0 : Int32), S22) else k2 x1 (x2 + (1 : Int32)) S22))
def f_M_useAll_102 (n : Nat) (k43 : Int32 → z_S → Option (Int32 × z_S)) (x2 : Int32) (t1 : Int64) (S : z_S) : Option (Int32 × z_S) := k43 (x2 + (1 : Int32)) (sG S 1 t1)
def f_M_useAll_43 (n : Nat) : Nat → Int32 → z_S → Option (Int32 × z_S)
  | 0, _, _ => none
  | q + 1, x2, S => (if (gF S 1) ≤ x2 then some ((1 : Int32), S) else ck (vi x2 8) ((if (gI S 4 x2.toNatClampNeg) = 0 then ck (vi x2 8) (ck (vi x2 8) (f_M_useAll_102 n (f_M_useAll_43 n q) x2 ((gG S 1) - (((gI S 6 x2.toNatClampNeg).toInt64) * (gJ S 5 x2.toNatClampNeg))) S)) else ck (vi x2 8) (ck (vi x2 8) (f_M_useAll_102 n (f_M_useAll_43 n q) x2 ((gG S 1) + (((gI S 6 x2.toNatClampNeg).toInt64) * (gJ S 5 x2.toNatClampNeg))) S)))))
def f_M_useAll_2 (n : Nat) : Nat → Int32 → Int32 → z_S → Option (Int32 × z_S)
  | 0, _, _, _ => none
  | q + 1, x1, x2, S => (if (4 : Int32) ≤ x2 then f_M_useAll_43 n n (0 : Int32) (sG S 1 (0 : Int64)) else (if x2 = x1 then f_M_useAll_22 n (f_M_useAll_2 n q) x1 x2 x2 (gG S 0) S else f_M_useAll_22 n (f_M_useAll_2 n q) x1 x2 x2 (0 : Int64) S))
def f_M_useAll (n : Nat) (x1 : Int32) (S : z_S) : Option (Int32 × z_S) := f_M_useAll_2 n n x1 (0 : Int32) S
set_option maxRecDepth 20000 in
theorem w_M_useAll_22 {X : z_X} {A : Nat → Prop} {Ω : z_O} (hC : z_C X b_M_useAll 3 "NodalAuctionModel" Ω) (hA : z_hA X A) (hR : z_R X (some .boolean)) (hM : z_rmOf X = z_rm 3 78) (n : Nat) (r : Int32 × z_S) (k2 : Int32 → Int32 → z_S → Option (Int32 × z_S)) (hk2 : ∀ (x1 : Int32) (x2 : Int32) (S : z_S), k2 x1 x2 S = some r → z_At X A (z_QI X Ω A r.1 (wM Ω r.2)) Ω 0 0 3 2 [(0, .ref (Ω.2.2 100)), (1, .int x1), (2, .int x2)] [] (wM Ω S)) (x1 : Int32) (x2 : Int32) (t1 : Int32) (t2 : Int64) (S : z_S) (h : f_M_useAll_22 n k2 x1 x2 t1 t2 S = some r) : z_At X A (z_QI X Ω A r.1 (wM Ω r.2)) Ω 0 0 3 22 [(0, .ref (Ω.2.2 100)), (1, .int x1), (2, .int x2)] [.long t2, .int t1, .ref (Ω.2.2 100)] (wM Ω S) := by
  obtain ⟨v22, S22, hc22, h⟩ := bo_some h
  refine z_callVi (q0 := 0) (As := [.int t1, .long t2]) hC hA (c_M_use (z_lOf X) Ω n t1 t2 S (v22, S22) hc22) k_633 k_630 k_632 ks_53 k_6 h_M_use (by rw [hM]; exact ⟨Nat.le_of_ble_eq_true rfl, Nat.le_of_ble_eq_true rfl⟩) ⟨Nat.zero_le _, Nat.zero_le _⟩ rfl rfl rfl (Nat.le_of_ble_eq_true rfl) rfl d_M_useAll_22 (q := 25) rfl ?_
  refine z_if_ne (tgt := 30) (q := 28) hC d_M_useAll_25 rfl rfl (fun hb => ?_) (fun hb => ?_)
  · have h := (if_neg hb).symm.trans h
    refine z_iinc (lv' := [(2, .int (x2 + (1 : Int32))), (0, .ref (Ω.2.2 100)), (1, .int x1)]) 2 rfl rfl (by decide) rfl hC d_M_useAll_30 (q := 33) rfl ?_
    refine z_goto (tgt := 2) hC d_M_useAll_33 rfl ?_
    refine z_sub [1, 2, 0] rfl ?_
    exact hk2 x1 (x2 + (1 : Int32)) S22 h
  · have h := (if_pos hb).symm.trans h
    refine z_iconst (v := (0 : Int32)) (by decide) hC d_M_useAll_28 (q := 29) rfl ?_
    cases h
    exact z_zret hC hR (by decide) rfl rfl d_M_useAll_29
set_option maxRecDepth 20000 in
theorem w_M_useAll_102 {X : z_X} {A : Nat → Prop} {Ω : z_O} (hC : z_C X b_M_useAll 3 "NodalAuctionModel" Ω) (hA : z_hA X A) (hR : z_R X (some .boolean)) (hM : z_rmOf X = z_rm 3 78) (n : Nat) (r : Int32 × z_S) (k43 : Int32 → z_S → Option (Int32 × z_S)) (hk43 : ∀ (x2 : Int32) (S : z_S), k43 x2 S = some r → z_At X A (z_QI X Ω A r.1 (wM Ω r.2)) Ω 0 0 3 43 [(0, .ref (Ω.2.2 100)), (2, .int x2)] [] (wM Ω S)) (x2 : Int32) (t1 : Int64) (S : z_S) (h : f_M_useAll_102 n k43 x2 t1 S = some r) : z_At X A (z_QI X Ω A r.1 (wM Ω r.2)) Ω 0 0 3 102 [(0, .ref (Ω.2.2 100)), (2, .int x2)] [.long t1, .ref (Ω.2.2 100)] (wM Ω S) := by
  refine pf_M_144_0 hC d_M_useAll_102 (q := 105) rfl ?_
  refine z_iinc (lv' := [(2, .int (x2 + (1 : Int32))), (0, .ref (Ω.2.2 100))]) 1 rfl rfl (by decide) rfl hC d_M_useAll_105 (q := 108) rfl ?_
  refine z_goto (tgt := 43) hC d_M_useAll_108 rfl ?_
  refine z_sub [1, 0] rfl ?_
  exact hk43 (x2 + (1 : Int32)) (sG S 1 t1) h
set_option maxRecDepth 20000 in
theorem w_M_useAll_43 {X : z_X} {A : Nat → Prop} {Ω : z_O} (hC : z_C X b_M_useAll 3 "NodalAuctionModel" Ω) (hA : z_hA X A) (hR : z_R X (some .boolean)) (hM : z_rmOf X = z_rm 3 78) (n : Nat) (r : Int32 × z_S) : ∀ (q : Nat) (x2 : Int32) (S : z_S), f_M_useAll_43 n q x2 S = some r → z_At X A (z_QI X Ω A r.1 (wM Ω r.2)) Ω 0 0 3 43 [(0, .ref (Ω.2.2 100)), (2, .int x2)] [] (wM Ω S) := by
  intro q
  induction q with
  | zero => intro x2 S h; cases h
  | succ q ih =>
    intro x2 S h
    refine z_iload_n rfl 1 rfl hC d_M_useAll_43 (q := 44) rfl ?_
    refine z_aload_n rfl 0 rfl hC d_M_useAll_44 (q := 45) rfl ?_
    refine gf_M_94_0 hC d_M_useAll_45 (q := 48) rfl ?_
    refine z_icmp_ge (tgt := 111) (q := 51) hC d_M_useAll_48 rfl rfl (fun hb => ?_) (fun hb => ?_)
    · have h := (if_pos hb).symm.trans h
      refine z_iconst (v := (1 : Int32)) (by decide) hC d_M_useAll_111 (q := 112) rfl ?_
      cases h
      exact z_zret hC hR (by decide) rfl rfl d_M_useAll_112
    · have h := (if_neg hb).symm.trans h
      refine z_aload_n rfl 0 rfl hC d_M_useAll_51 (q := 52) rfl ?_
      refine z_aload_n rfl 0 rfl hC d_M_useAll_52 (q := 53) rfl ?_
      refine gf_M_22_0 hC d_M_useAll_53 (q := 56) rfl ?_
      refine z_iload_n rfl 1 rfl hC d_M_useAll_56 (q := 57) rfl ?_
      obtain ⟨hv1, h⟩ := ck_some h
      refine al_wM_5 hC hv1 d_M_useAll_57 (q := 58) rfl ?_
      refine z_if_eq (tgt := 83) (q := 61) hC d_M_useAll_58 rfl rfl (fun hb => ?_) (fun hb => ?_)
      · have h := (if_pos hb).symm.trans h
        refine z_aload_n rfl 0 rfl hC d_M_useAll_83 (q := 84) rfl ?_
        refine gf_M_144_0 hC d_M_useAll_84 (q := 87) rfl ?_
        refine z_aload_n rfl 0 rfl hC d_M_useAll_87 (q := 88) rfl ?_
        refine gf_M_29_0 hC d_M_useAll_88 (q := 91) rfl ?_
        refine z_iload_n rfl 1 rfl hC d_M_useAll_91 (q := 92) rfl ?_
        obtain ⟨hv2, h⟩ := ck_some h
        refine al_wM_7 hC hv2 d_M_useAll_92 (q := 93) rfl ?_
        refine z_i2l hC d_M_useAll_93 (q := 94) rfl ?_
        refine z_aload_n rfl 0 rfl hC d_M_useAll_94 (q := 95) rfl ?_
        refine gf_M_57_0 hC d_M_useAll_95 (q := 98) rfl ?_
        refine z_iload_n rfl 1 rfl hC d_M_useAll_98 (q := 99) rfl ?_
        obtain ⟨hv3, h⟩ := ck_some h
        refine al_wM_16 hC hv3 d_M_useAll_99 (q := 100) rfl ?_
        refine z_lmul hC d_M_useAll_100 (q := 101) rfl ?_
        refine z_lsub hC d_M_useAll_101 (q := 102) rfl ?_
        exact w_M_useAll_102 hC hA hR hM n r (f_M_useAll_43 n q) ih x2 ((gG S 1) - (((gI S 6 x2.toNatClampNeg).toInt64) * (gJ S 5 x2.toNatClampNeg))) S h
      · have h := (if_neg hb).symm.trans h
        refine z_aload_n rfl 0 rfl hC d_M_useAll_61 (q := 62) rfl ?_
        refine gf_M_144_0 hC d_M_useAll_62 (q := 65) rfl ?_
        refine z_aload_n rfl 0 rfl hC d_M_useAll_65 (q := 66) rfl ?_
        refine gf_M_29_0 hC d_M_useAll_66 (q := 69) rfl ?_
        refine z_iload_n rfl 1 rfl hC d_M_useAll_69 (q := 70) rfl ?_
        obtain ⟨hv2, h⟩ := ck_some h
        refine al_wM_7 hC hv2 d_M_useAll_70 (q := 71) rfl ?_
        refine z_i2l hC d_M_useAll_71 (q := 72) rfl ?_
        refine z_aload_n rfl 0 rfl hC d_M_useAll_72 (q := 73) rfl ?_
        refine gf_M_57_0 hC d_M_useAll_73 (q := 76) rfl ?_
        refine z_iload_n rfl 1 rfl hC d_M_useAll_76 (q := 77) rfl ?_
        obtain ⟨hv3, h⟩ := ck_some h
        refine al_wM_16 hC hv3 d_M_useAll_77 (q := 78) rfl ?_
        refine z_lmul hC d_M_useAll_78 (q := 79) rfl ?_
        refine z_ladd hC d_M_useAll_79 (q := 80) rfl ?_
        refine z_goto (tgt := 102) hC d_M_useAll_80 rfl ?_
        exact w_M_useAll_102 hC hA hR hM n r (f_M_useAll_43 n q) ih x2 ((gG S 1) + (((gI S 6 x2.toNatClampNeg).toInt64) * (gJ S 5 x2.toNatClampNeg))) S h
set_option maxRecDepth 20000 in
theorem w_M_useAll_2 {X : z_X} {A : Nat → Prop} {Ω : z_O} (hC : z_C X b_M_useAll 3 "NodalAuctionModel" Ω) (hA : z_hA X A) (hR : z_R X (some .boolean)) (hM : z_rmOf X = z_rm 3 78) (n : Nat) (r : Int32 × z_S) : ∀ (q : Nat) (x1 : Int32) (x2 : Int32) (S : z_S), f_M_useAll_2 n q x1 x2 S = some r → z_At X A (z_QI X Ω A r.1 (wM Ω r.2)) Ω 0 0 3 2 [(0, .ref (Ω.2.2 100)), (1, .int x1), (2, .int x2)] [] (wM Ω S) := by
  intro q
  induction q with
  | zero => intro x1 x2 S h; cases h
  | succ q ih =>
    intro x1 x2 S h
    refine z_iload_n rfl 2 rfl hC d_M_useAll_2 (q := 3) rfl ?_
    refine z_iconst (v := (4 : Int32)) (by decide) hC d_M_useAll_3 (q := 4) rfl ?_
    refine z_icmp_ge (tgt := 36) (q := 7) hC d_M_useAll_4 rfl rfl (fun hb => ?_) (fun hb => ?_)
    · have h := (if_pos hb).symm.trans h
      refine z_aload_n rfl 0 rfl hC d_M_useAll_36 (q := 37) rfl ?_
      refine z_lconst (v := (0 : Int64)) (by decide) hC d_M_useAll_37 (q := 38) rfl ?_
      refine pf_M_144_0 hC d_M_useAll_38 (q := 41) rfl ?_
      refine z_iconst (v := (0 : Int32)) (by decide) hC d_M_useAll_41 (q := 42) rfl ?_
      refine z_istore_n (lv' := [(2, .int (0 : Int32)), (0, .ref (Ω.2.2 100)), (1, .int x1)]) rfl (by decide) rfl hC d_M_useAll_42 (q := 43) rfl ?_
      refine z_sub [1, 0] rfl ?_
      exact w_M_useAll_43 hC hA hR hM n r n (0 : Int32) (sG S 1 (0 : Int64)) h
    · have h := (if_neg hb).symm.trans h
      refine z_aload_n rfl 0 rfl hC d_M_useAll_7 (q := 8) rfl ?_
      refine z_iload_n rfl 2 rfl hC d_M_useAll_8 (q := 9) rfl ?_
      refine z_iload_n rfl 2 rfl hC d_M_useAll_9 (q := 10) rfl ?_
      refine z_iload_n rfl 1 rfl hC d_M_useAll_10 (q := 11) rfl ?_
      refine z_icmp_ne (tgt := 21) (q := 14) hC d_M_useAll_11 rfl rfl (fun hb => ?_) (fun hb => ?_)
      · have h := (if_neg hb).symm.trans h
        refine z_lconst (v := (0 : Int64)) (by decide) hC d_M_useAll_21 (q := 22) rfl ?_
        exact w_M_useAll_22 hC hA hR hM n r (f_M_useAll_2 n q) ih x1 x2 x2 (0 : Int64) S h
      · have h := (if_pos hb).symm.trans h
        refine z_aload_n rfl 0 rfl hC d_M_useAll_14 (q := 15) rfl ?_
        refine gf_M_130_0 hC d_M_useAll_15 (q := 18) rfl ?_
        refine z_goto (tgt := 22) hC d_M_useAll_18 rfl ?_
        exact w_M_useAll_22 hC hA hR hM n r (f_M_useAll_2 n q) ih x1 x2 x2 (gG S 0) S h
set_option maxRecDepth 20000 in
theorem w_M_useAll {X : z_X} {A : Nat → Prop} {Ω : z_O} (hC : z_C X b_M_useAll 3 "NodalAuctionModel" Ω) (hA : z_hA X A) (hR : z_R X (some .boolean)) (hM : z_rmOf X = z_rm 3 78) (n : Nat) (r : Int32 × z_S) (x1 : Int32) (S : z_S) (h : f_M_useAll n x1 S = some r) : z_At X A (z_QI X Ω A r.1 (wM Ω r.2)) Ω 0 0 3 0 [(0, .ref (Ω.2.2 100)), (1, .int x1)] [] (wM Ω S) := by
  refine z_iconst (v := (0 : Int32)) (by decide) hC d_M_useAll_0 (q := 1) rfl ?_
  refine z_istore_n (lv' := [(2, .int (0 : Int32)), (0, .ref (Ω.2.2 100)), (1, .int x1)]) rfl (by decide) rfl hC d_M_useAll_1 (q := 2) rfl ?_
  refine z_sub [1, 2, 0] rfl ?_
  exact w_M_useAll_2 hC hA hR hM n r n x1 (0 : Int32) S h
theorem c_M_useAll (l : Launch) (Ω : z_O) (n : Nat) (x1 : Int32) (S : z_S) (r : Int32 × z_S) (h : f_M_useAll n x1 S = some r) : z_MI l Ω y_M_useAll b_M_useAll 3 .boolean 3 78 [.ref (Ω.2.2 100), .int x1] (wM Ω S) r.1 (wM Ω r.2) := z_introI (by decide +kernel) (Nat.le_of_ble_eq_true rfl) rfl (fun X A hC hA hR _ hM => w_M_useAll hC hA hR hM n r x1 S h)
def f_M_better_90 (n : Nat) (t0 : Int32) (S : z_S) : Option (Int32 × z_S) := ck (vz t0) (some (t0, S))
def f_M_better_79 (n : Nat) (x1 : Int64) (x3 : Int64) (S : z_S) : Option (Int32 × z_S) := (if x1 ≤ x3 then f_M_better_90 n (0 : Int32) S else f_M_better_90 n (1 : Int32) S)
def f_M_better_32 (n : Nat) : Nat → Int64 → Int64 → Int32 → z_S → Option (Int32 × z_S)
  | 0, _, _, _, _ => none
  | q + 1, x1, x3, x5, S => (if (gF S 1) ≤ x5 then f_M_better_79 n x1 x3 S else (if x1 = x3 then ck (vi x5 8) (ck (vi x5 8) (f_M_better_32 n q ((gJ S 5 x5.toNatClampNeg) * (gG S 2)) ((gJ S 7 x5.toNatClampNeg) * (gG S 0)) (x5 + (1 : Int32)) S)) else f_M_better_79 n x1 x3 S))
def f_M_better (n : Nat) (S : z_S) : Option (Int32 × z_S) := (if (gF S 3) = 0 then some ((1 : Int32), S) else f_M_better_32 n n ((gG S 1) * (gG S 2)) ((gG S 3) * (gG S 0)) (0 : Int32) S)
set_option maxRecDepth 20000 in
theorem w_M_better_90 {X : z_X} {A : Nat → Prop} {Ω : z_O} (hC : z_C X b_M_better 6 "NodalAuctionModel" Ω) (hA : z_hA X A) (hR : z_R X (some .boolean)) (hM : z_rmOf X = z_rm 0 0) (n : Nat) (r : Int32 × z_S) (t0 : Int32) (S : z_S) (h : f_M_better_90 n t0 S = some r) : z_At X A (z_QI X Ω A r.1 (wM Ω r.2)) Ω 0 0 6 90 [(0, .ref (Ω.2.2 100))] [.int t0] (wM Ω S) := by
  obtain ⟨hv1, h⟩ := ck_some h
  cases h
  exact z_zret hC hR hv1 rfl rfl d_M_better_90
set_option maxRecDepth 20000 in
theorem w_M_better_79 {X : z_X} {A : Nat → Prop} {Ω : z_O} (hC : z_C X b_M_better 6 "NodalAuctionModel" Ω) (hA : z_hA X A) (hR : z_R X (some .boolean)) (hM : z_rmOf X = z_rm 0 0) (n : Nat) (r : Int32 × z_S) (x1 : Int64) (x3 : Int64) (S : z_S) (h : f_M_better_79 n x1 x3 S = some r) : z_At X A (z_QI X Ω A r.1 (wM Ω r.2)) Ω 0 0 6 79 [(0, .ref (Ω.2.2 100)), (1, .long x1), (3, .long x3)] [] (wM Ω S) := by
  refine z_lload_n rfl 1 rfl hC d_M_better_79 (q := 80) rfl ?_
  refine z_lload_n rfl 2 rfl hC d_M_better_80 (q := 81) rfl ?_
  refine z_lcmp_le (pc1 := 82) (tgt := 89) (q := 85) hC d_M_better_81 rfl d_M_better_82 rfl rfl (fun hb => ?_) (fun hb => ?_)
  · have h := (if_pos hb).symm.trans h
    refine z_iconst (v := (0 : Int32)) (by decide) hC d_M_better_89 (q := 90) rfl ?_
    refine z_sub [0] rfl ?_
    exact w_M_better_90 hC hA hR hM n r (0 : Int32) S h
  · have h := (if_neg hb).symm.trans h
    refine z_iconst (v := (1 : Int32)) (by decide) hC d_M_better_85 (q := 86) rfl ?_
    refine z_goto (tgt := 90) hC d_M_better_86 rfl ?_
    refine z_sub [0] rfl ?_
    exact w_M_better_90 hC hA hR hM n r (1 : Int32) S h
set_option maxRecDepth 20000 in
theorem w_M_better_32 {X : z_X} {A : Nat → Prop} {Ω : z_O} (hC : z_C X b_M_better 6 "NodalAuctionModel" Ω) (hA : z_hA X A) (hR : z_R X (some .boolean)) (hM : z_rmOf X = z_rm 0 0) (n : Nat) (r : Int32 × z_S) : ∀ (q : Nat) (x1 : Int64) (x3 : Int64) (x5 : Int32) (S : z_S), f_M_better_32 n q x1 x3 x5 S = some r → z_At X A (z_QI X Ω A r.1 (wM Ω r.2)) Ω 0 0 6 32 [(0, .ref (Ω.2.2 100)), (1, .long x1), (3, .long x3), (5, .int x5)] [] (wM Ω S) := by
  intro q
  induction q with
  | zero => intro x1 x3 x5 S h; cases h
  | succ q ih =>
    intro x1 x3 x5 S h
    refine z_iload 3 rfl hC d_M_better_32 (q := 34) rfl ?_
    refine z_aload_n rfl 0 rfl hC d_M_better_34 (q := 35) rfl ?_
    refine gf_M_94_0 hC d_M_better_35 (q := 38) rfl ?_
    refine z_icmp_ge (tgt := 79) (q := 41) hC d_M_better_38 rfl rfl (fun hb => ?_) (fun hb => ?_)
    · have h := (if_pos hb).symm.trans h
      refine z_sub [0, 1, 2] rfl ?_
      exact w_M_better_79 hC hA hR hM n r x1 x3 S h
    · have h := (if_neg hb).symm.trans h
      refine z_lload_n rfl 1 rfl hC d_M_better_41 (q := 42) rfl ?_
      refine z_lload_n rfl 2 rfl hC d_M_better_42 (q := 43) rfl ?_
      refine z_lcmp_ne (pc1 := 44) (tgt := 79) (q := 47) hC d_M_better_43 rfl d_M_better_44 rfl rfl (fun hb => ?_) (fun hb => ?_)
      · have h := (if_neg hb).symm.trans h
        refine z_sub [0, 1, 2] rfl ?_
        exact w_M_better_79 hC hA hR hM n r x1 x3 S h
      · have h := (if_pos hb).symm.trans h
        refine z_aload_n rfl 0 rfl hC d_M_better_47 (q := 48) rfl ?_
        refine gf_M_57_0 hC d_M_better_48 (q := 51) rfl ?_
        refine z_iload 3 rfl hC d_M_better_51 (q := 53) rfl ?_
        obtain ⟨hv1, h⟩ := ck_some h
        refine al_wM_16 hC hv1 d_M_better_53 (q := 54) rfl ?_
        refine z_aload_n rfl 0 rfl hC d_M_better_54 (q := 55) rfl ?_
        refine gf_M_150_0 hC d_M_better_55 (q := 58) rfl ?_
        refine z_lmul hC d_M_better_58 (q := 59) rfl ?_
        refine z_lstore_n (lv' := [(1, .long ((gJ S 5 x5.toNatClampNeg) * (gG S 2))), (0, .ref (Ω.2.2 100)), (3, .long x3), (5, .int x5)]) rfl (by decide) rfl hC d_M_better_59 (q := 60) rfl ?_
        refine z_aload_n rfl 1 rfl hC d_M_better_60 (q := 61) rfl ?_
        refine gf_M_63_0 hC d_M_better_61 (q := 64) rfl ?_
        refine z_iload 3 rfl hC d_M_better_64 (q := 66) rfl ?_
        obtain ⟨hv2, h⟩ := ck_some h
        refine al_wM_18 hC hv2 d_M_better_66 (q := 67) rfl ?_
        refine z_aload_n rfl 1 rfl hC d_M_better_67 (q := 68) rfl ?_
        refine gf_M_130_0 hC d_M_better_68 (q := 71) rfl ?_
        refine z_lmul hC d_M_better_71 (q := 72) rfl ?_
        refine z_lstore_n (lv' := [(3, .long ((gJ S 7 x5.toNatClampNeg) * (gG S 0))), (1, .long ((gJ S 5 x5.toNatClampNeg) * (gG S 2))), (0, .ref (Ω.2.2 100)), (5, .int x5)]) rfl (by decide) rfl hC d_M_better_72 (q := 73) rfl ?_
        refine z_iinc (lv' := [(5, .int (x5 + (1 : Int32))), (3, .long ((gJ S 7 x5.toNatClampNeg) * (gG S 0))), (1, .long ((gJ S 5 x5.toNatClampNeg) * (gG S 2))), (0, .ref (Ω.2.2 100))]) 3 rfl rfl (by decide) rfl hC d_M_better_73 (q := 76) rfl ?_
        refine z_goto (tgt := 32) hC d_M_better_76 rfl ?_
        refine z_sub [3, 2, 1, 0] rfl ?_
        exact ih ((gJ S 5 x5.toNatClampNeg) * (gG S 2)) ((gJ S 7 x5.toNatClampNeg) * (gG S 0)) (x5 + (1 : Int32)) S h
set_option maxRecDepth 20000 in
theorem w_M_better {X : z_X} {A : Nat → Prop} {Ω : z_O} (hC : z_C X b_M_better 6 "NodalAuctionModel" Ω) (hA : z_hA X A) (hR : z_R X (some .boolean)) (hM : z_rmOf X = z_rm 0 0) (n : Nat) (r : Int32 × z_S) (S : z_S) (h : f_M_better n S = some r) : z_At X A (z_QI X Ω A r.1 (wM Ω r.2)) Ω 0 0 6 0 [(0, .ref (Ω.2.2 100))] [] (wM Ω S) := by
  refine z_aload_n rfl 0 rfl hC d_M_better_0 (q := 1) rfl ?_
  refine gf_M_147_0 hC d_M_better_1 (q := 4) rfl ?_
  refine z_if_ne (tgt := 9) (q := 7) hC d_M_better_4 rfl rfl (fun hb => ?_) (fun hb => ?_)
  · have h := (if_neg hb).symm.trans h
    refine z_aload_n rfl 0 rfl hC d_M_better_9 (q := 10) rfl ?_
    refine gf_M_144_0 hC d_M_better_10 (q := 13) rfl ?_
    refine z_aload_n rfl 0 rfl hC d_M_better_13 (q := 14) rfl ?_
    refine gf_M_150_0 hC d_M_better_14 (q := 17) rfl ?_
    refine z_lmul hC d_M_better_17 (q := 18) rfl ?_
    refine z_lstore_n (lv' := [(1, .long ((gG S 1) * (gG S 2))), (0, .ref (Ω.2.2 100))]) rfl (by decide) rfl hC d_M_better_18 (q := 19) rfl ?_
    refine z_aload_n rfl 1 rfl hC d_M_better_19 (q := 20) rfl ?_
    refine gf_M_153_0 hC d_M_better_20 (q := 23) rfl ?_
    refine z_aload_n rfl 1 rfl hC d_M_better_23 (q := 24) rfl ?_
    refine gf_M_130_0 hC d_M_better_24 (q := 27) rfl ?_
    refine z_lmul hC d_M_better_27 (q := 28) rfl ?_
    refine z_lstore_n (lv' := [(3, .long ((gG S 3) * (gG S 0))), (1, .long ((gG S 1) * (gG S 2))), (0, .ref (Ω.2.2 100))]) rfl (by decide) rfl hC d_M_better_28 (q := 29) rfl ?_
    refine z_iconst (v := (0 : Int32)) (by decide) hC d_M_better_29 (q := 30) rfl ?_
    refine z_istore (lv' := [(5, .int (0 : Int32)), (3, .long ((gG S 3) * (gG S 0))), (1, .long ((gG S 1) * (gG S 2))), (0, .ref (Ω.2.2 100))]) (by decide) rfl hC d_M_better_30 (q := 32) rfl ?_
    refine z_sub [3, 2, 1, 0] rfl ?_
    exact w_M_better_32 hC hA hR hM n r n ((gG S 1) * (gG S 2)) ((gG S 3) * (gG S 0)) (0 : Int32) S h
  · have h := (if_pos hb).symm.trans h
    refine z_iconst (v := (1 : Int32)) (by decide) hC d_M_better_7 (q := 8) rfl ?_
    cases h
    exact z_zret hC hR (by decide) rfl rfl d_M_better_8
theorem c_M_better (l : Launch) (Ω : z_O) (n : Nat) (S : z_S) (r : Int32 × z_S) (h : f_M_better n S = some r) : z_MI l Ω y_M_better b_M_better 6 .boolean 0 0 [.ref (Ω.2.2 100)] (wM Ω S) r.1 (wM Ω r.2) := z_introI (by decide +kernel) (Nat.le_of_ble_eq_true rfl) rfl (fun X A hC hA hR _ hM => w_M_better hC hA hR hM n r S h)
def f_M_keep_51 (n : Nat) : Nat → Int32 → z_S → Option (Unit × z_S)
  | 0, _, _ => none
  | q + 1, x1, S => (if (4 : Int32) ≤ x1 then some ((), S) else ck (vi x1 4) (ck (vi x1 4) (f_M_keep_51 n q (x1 + (1 : Int32)) (sJ S 6 (vp_updL (gJ S 6) x1.toNatClampNeg (gJ S 4 x1.toNatClampNeg))))))
def f_M_keep_23 (n : Nat) : Nat → Int32 → z_S → Option (Unit × z_S)
  | 0, _, _ => none
  | q + 1, x1, S => (if (gF S 1) ≤ x1 then f_M_keep_51 n n (0 : Int32) S else ck (vi x1 8) (ck (vi x1 8) (f_M_keep_23 n q (x1 + (1 : Int32)) (sJ S 7 (vp_updL (gJ S 7) x1.toNatClampNeg (gJ S 5 x1.toNatClampNeg))))))
def f_M_keep (n : Nat) (S : z_S) : Option (Unit × z_S) := f_M_keep_23 n n (0 : Int32) (sG (sG (sF S 3 (1 : Int32)) 2 (gG (sF S 3 (1 : Int32)) 0)) 3 (gG (sG (sF S 3 (1 : Int32)) 2 (gG (sF S 3 (1 : Int32)) 0)) 1))
set_option maxRecDepth 20000 in
theorem w_M_keep_51 {X : z_X} {A : Nat → Prop} {Ω : z_O} (hC : z_C X b_M_keep 2 "NodalAuctionModel" Ω) (hA : z_hA X A) (hR : z_R X none) (hM : z_rmOf X = z_rm 0 0) (n : Nat) (r : Unit × z_S) : ∀ (q : Nat) (x1 : Int32) (S : z_S), f_M_keep_51 n q x1 S = some r → z_At X A (z_QV X Ω A (wM Ω r.2)) Ω 0 0 2 51 [(0, .ref (Ω.2.2 100)), (1, .int x1)] [] (wM Ω S) := by
  intro q
  induction q with
  | zero => intro x1 S h; cases h
  | succ q ih =>
    intro x1 S h
    refine z_iload_n rfl 1 rfl hC d_M_keep_51 (q := 52) rfl ?_
    refine z_iconst (v := (4 : Int32)) (by decide) hC d_M_keep_52 (q := 53) rfl ?_
    refine z_icmp_ge (tgt := 74) (q := 56) hC d_M_keep_53 rfl rfl (fun hb => ?_) (fun hb => ?_)
    · have h := (if_pos hb).symm.trans h
      cases h
      exact z_vret hC hR rfl d_M_keep_74
    · have h := (if_neg hb).symm.trans h
      refine z_aload_n rfl 0 rfl hC d_M_keep_56 (q := 57) rfl ?_
      refine gf_M_60_0 hC d_M_keep_57 (q := 60) rfl ?_
      refine z_iload_n rfl 1 rfl hC d_M_keep_60 (q := 61) rfl ?_
      refine z_aload_n rfl 0 rfl hC d_M_keep_61 (q := 62) rfl ?_
      refine gf_M_54_0 hC d_M_keep_62 (q := 65) rfl ?_
      refine z_iload_n rfl 1 rfl hC d_M_keep_65 (q := 66) rfl ?_
      obtain ⟨hv1, h⟩ := ck_some h
      refine al_wM_15 hC hv1 d_M_keep_66 (q := 67) rfl ?_
      obtain ⟨hv2, h⟩ := ck_some h
      refine as_wM_17 hC hv2 d_M_keep_67 (q := 68) rfl ?_
      refine z_iinc (lv' := [(1, .int (x1 + (1 : Int32))), (0, .ref (Ω.2.2 100))]) 1 rfl rfl (by decide) rfl hC d_M_keep_68 (q := 71) rfl ?_
      refine z_goto (tgt := 51) hC d_M_keep_71 rfl ?_
      refine z_sub [1, 0] rfl ?_
      exact ih (x1 + (1 : Int32)) (sJ S 6 (vp_updL (gJ S 6) x1.toNatClampNeg (gJ S 4 x1.toNatClampNeg))) h
set_option maxRecDepth 20000 in
theorem w_M_keep_23 {X : z_X} {A : Nat → Prop} {Ω : z_O} (hC : z_C X b_M_keep 2 "NodalAuctionModel" Ω) (hA : z_hA X A) (hR : z_R X none) (hM : z_rmOf X = z_rm 0 0) (n : Nat) (r : Unit × z_S) : ∀ (q : Nat) (x1 : Int32) (S : z_S), f_M_keep_23 n q x1 S = some r → z_At X A (z_QV X Ω A (wM Ω r.2)) Ω 0 0 2 23 [(0, .ref (Ω.2.2 100)), (1, .int x1)] [] (wM Ω S) := by
  intro q
  induction q with
  | zero => intro x1 S h; cases h
  | succ q ih =>
    intro x1 S h
    refine z_iload_n rfl 1 rfl hC d_M_keep_23 (q := 24) rfl ?_
    refine z_aload_n rfl 0 rfl hC d_M_keep_24 (q := 25) rfl ?_
    refine gf_M_94_0 hC d_M_keep_25 (q := 28) rfl ?_
    refine z_icmp_ge (tgt := 49) (q := 31) hC d_M_keep_28 rfl rfl (fun hb => ?_) (fun hb => ?_)
    · have h := (if_pos hb).symm.trans h
      refine z_iconst (v := (0 : Int32)) (by decide) hC d_M_keep_49 (q := 50) rfl ?_
      refine z_istore_n (lv' := [(1, .int (0 : Int32)), (0, .ref (Ω.2.2 100))]) rfl (by decide) rfl hC d_M_keep_50 (q := 51) rfl ?_
      refine z_sub [1, 0] rfl ?_
      exact w_M_keep_51 hC hA hR hM n r n (0 : Int32) S h
    · have h := (if_neg hb).symm.trans h
      refine z_aload_n rfl 0 rfl hC d_M_keep_31 (q := 32) rfl ?_
      refine gf_M_63_0 hC d_M_keep_32 (q := 35) rfl ?_
      refine z_iload_n rfl 1 rfl hC d_M_keep_35 (q := 36) rfl ?_
      refine z_aload_n rfl 0 rfl hC d_M_keep_36 (q := 37) rfl ?_
      refine gf_M_57_0 hC d_M_keep_37 (q := 40) rfl ?_
      refine z_iload_n rfl 1 rfl hC d_M_keep_40 (q := 41) rfl ?_
      obtain ⟨hv1, h⟩ := ck_some h
      refine al_wM_16 hC hv1 d_M_keep_41 (q := 42) rfl ?_
      obtain ⟨hv2, h⟩ := ck_some h
      refine as_wM_18 hC hv2 d_M_keep_42 (q := 43) rfl ?_
      refine z_iinc (lv' := [(1, .int (x1 + (1 : Int32))), (0, .ref (Ω.2.2 100))]) 1 rfl rfl (by decide) rfl hC d_M_keep_43 (q := 46) rfl ?_
      refine z_goto (tgt := 23) hC d_M_keep_46 rfl ?_
      refine z_sub [1, 0] rfl ?_
      exact ih (x1 + (1 : Int32)) (sJ S 7 (vp_updL (gJ S 7) x1.toNatClampNeg (gJ S 5 x1.toNatClampNeg))) h
set_option maxRecDepth 20000 in
theorem w_M_keep {X : z_X} {A : Nat → Prop} {Ω : z_O} (hC : z_C X b_M_keep 2 "NodalAuctionModel" Ω) (hA : z_hA X A) (hR : z_R X none) (hM : z_rmOf X = z_rm 0 0) (n : Nat) (r : Unit × z_S) (S : z_S) (h : f_M_keep n S = some r) : z_At X A (z_QV X Ω A (wM Ω r.2)) Ω 0 0 2 0 [(0, .ref (Ω.2.2 100))] [] (wM Ω S) := by
  refine z_aload_n rfl 0 rfl hC d_M_keep_0 (q := 1) rfl ?_
  refine z_iconst (v := (1 : Int32)) (by decide) hC d_M_keep_1 (q := 2) rfl ?_
  refine pf_M_147_0 (by decide) hC d_M_keep_2 (q := 5) rfl ?_
  refine z_aload_n rfl 0 rfl hC d_M_keep_5 (q := 6) rfl ?_
  refine z_aload_n rfl 0 rfl hC d_M_keep_6 (q := 7) rfl ?_
  refine gf_M_130_0 hC d_M_keep_7 (q := 10) rfl ?_
  refine pf_M_150_0 hC d_M_keep_10 (q := 13) rfl ?_
  refine z_aload_n rfl 0 rfl hC d_M_keep_13 (q := 14) rfl ?_
  refine z_aload_n rfl 0 rfl hC d_M_keep_14 (q := 15) rfl ?_
  refine gf_M_144_0 hC d_M_keep_15 (q := 18) rfl ?_
  refine pf_M_153_0 hC d_M_keep_18 (q := 21) rfl ?_
  refine z_iconst (v := (0 : Int32)) (by decide) hC d_M_keep_21 (q := 22) rfl ?_
  refine z_istore_n (lv' := [(1, .int (0 : Int32)), (0, .ref (Ω.2.2 100))]) rfl (by decide) rfl hC d_M_keep_22 (q := 23) rfl ?_
  refine z_sub [1, 0] rfl ?_
  exact w_M_keep_23 hC hA hR hM n r n (0 : Int32) (sG (sG (sF S 3 (1 : Int32)) 2 (gG (sF S 3 (1 : Int32)) 0)) 3 (gG (sG (sF S 3 (1 : Int32)) 2 (gG (sF S 3 (1 : Int32)) 0)) 1)) h
theorem c_M_keep (l : Launch) (Ω : z_O) (n : Nat) (S : z_S) (r : Unit × z_S) (h : f_M_keep n S = some r) : z_MV l Ω y_M_keep b_M_keep 2 0 0 [.ref (Ω.2.2 100)] (wM Ω S) (wM Ω r.2) := z_introV (by decide +kernel) (Nat.le_of_ble_eq_true rfl) rfl (fun X A hC hA hR _ hM => w_M_keep hC hA hR hM n r S h)
def f_M_search_91 (n : Nat) (k20 : Int32 → Int32 → z_S → Option (Unit × z_S)) (k32 : Int32 → Int32 → Int32 → z_S → Option (Unit × z_S)) (k45 : Int32 → Int32 → Int32 → Int32 → z_S → Option (Unit × z_S)) (x1 : Int32) (x2 : Int32) (x3 : Int32) (x4 : Int32) (S : z_S) : Option (Unit × z_S) := k45 x1 x2 x3 (x4 + (1 : Int32)) S
def f_M_search_45 (n : Nat) (k20 : Int32 → Int32 → z_S → Option (Unit × z_S)) (k32 : Int32 → Int32 → Int32 → z_S → Option (Unit × z_S)) : Nat → Int32 → Int32 → Int32 → Int32 → z_S → Option (Unit × z_S)
  | 0, _, _, _, _, _ => none
  | q + 1, x1, x2, x3, x4, S => (if (gF S 2) ≤ x4 then k32 x1 x2 (x3 + (1 : Int32)) S else bo (f_M_meet n x2 x3 x4 S) (fun v59 S59 => (if v59 = 0 then f_M_search_91 n k20 k32 (f_M_search_45 n k20 k32 q) x1 x2 x3 x4 S59 else bo (f_M_linesHold n S59) (fun v66 S66 => (if v66 = 0 then f_M_search_91 n k20 k32 (f_M_search_45 n k20 k32 q) x1 x2 x3 x4 S66 else bo (f_M_useAll n x1 S66) (fun v74 S74 => (if v74 = 0 then f_M_search_91 n k20 k32 (f_M_search_45 n k20 k32 q) x1 x2 x3 x4 S74 else bo (f_M_better n S74) (fun v81 S81 => (if v81 = 0 then f_M_search_91 n k20 k32 (f_M_search_45 n k20 k32 q) x1 x2 x3 x4 S81 else bo (f_M_keep n S81) (fun _ S88 => f_M_search_91 n k20 k32 (f_M_search_45 n k20 k32 q) x1 x2 x3 x4 S88))))))))))
def f_M_search_32 (n : Nat) (k20 : Int32 → Int32 → z_S → Option (Unit × z_S)) : Nat → Int32 → Int32 → Int32 → z_S → Option (Unit × z_S)
  | 0, _, _, _, _ => none
  | q + 1, x1, x2, x3, S => (if (gF S 2) ≤ x3 then k20 x1 (x2 + (1 : Int32)) S else f_M_search_45 n k20 (f_M_search_32 n k20 q) n x1 x2 x3 (x3 + (1 : Int32)) S)
def f_M_search_20 (n : Nat) : Nat → Int32 → Int32 → z_S → Option (Unit × z_S)
  | 0, _, _, _ => none
  | q + 1, x1, x2, S => (if (gF S 2) ≤ x2 then some ((), S) else f_M_search_32 n (f_M_search_20 n q) n x1 x2 (x2 + (1 : Int32)) S)
def f_M_search (n : Nat) (x1 : Int32) (S : z_S) : Option (Unit × z_S) := bo (f_M_arrange n (sF S 3 (0 : Int32))) (fun _ S6 => bo (f_M_linePlanes n S6) (fun _ S10 => bo (f_M_nodePlanes n x1 S10) (fun _ S15 => f_M_search_20 n n x1 (0 : Int32) S15)))
set_option maxRecDepth 20000 in
theorem w_M_search_91 {X : z_X} {A : Nat → Prop} {Ω : z_O} (hC : z_C X b_M_search 5 "NodalAuctionModel" Ω) (hA : z_hA X A) (hR : z_R X none) (hM : z_rmOf X = z_rm 4 114) (n : Nat) (r : Unit × z_S) (k20 : Int32 → Int32 → z_S → Option (Unit × z_S)) (k32 : Int32 → Int32 → Int32 → z_S → Option (Unit × z_S)) (k45 : Int32 → Int32 → Int32 → Int32 → z_S → Option (Unit × z_S)) (hk20 : ∀ (x1 : Int32) (x2 : Int32) (S : z_S), k20 x1 x2 S = some r → z_At X A (z_QV X Ω A (wM Ω r.2)) Ω 0 0 5 20 [(0, .ref (Ω.2.2 100)), (1, .int x1), (2, .int x2)] [] (wM Ω S)) (hk32 : ∀ (x1 : Int32) (x2 : Int32) (x3 : Int32) (S : z_S), k32 x1 x2 x3 S = some r → z_At X A (z_QV X Ω A (wM Ω r.2)) Ω 0 0 5 32 [(0, .ref (Ω.2.2 100)), (1, .int x1), (2, .int x2), (3, .int x3)] [] (wM Ω S)) (hk45 : ∀ (x1 : Int32) (x2 : Int32) (x3 : Int32) (x4 : Int32) (S : z_S), k45 x1 x2 x3 x4 S = some r → z_At X A (z_QV X Ω A (wM Ω r.2)) Ω 0 0 5 45 [(0, .ref (Ω.2.2 100)), (1, .int x1), (2, .int x2), (3, .int x3), (4, .int x4)] [] (wM Ω S)) (x1 : Int32) (x2 : Int32) (x3 : Int32) (x4 : Int32) (S : z_S) (h : f_M_search_91 n k20 k32 k45 x1 x2 x3 x4 S = some r) : z_At X A (z_QV X Ω A (wM Ω r.2)) Ω 0 0 5 91 [(0, .ref (Ω.2.2 100)), (1, .int x1), (2, .int x2), (3, .int x3), (4, .int x4)] [] (wM Ω S) := by
  refine z_iinc (lv' := [(4, .int (x4 + (1 : Int32))), (0, .ref (Ω.2.2 100)), (1, .int x1), (2, .int x2), (3, .int x3)]) 4 rfl rfl (by decide) rfl hC d_M_search_91 (q := 94) rfl ?_
  refine z_goto (tgt := 45) hC d_M_search_94 rfl ?_
  refine z_sub [1, 2, 3, 4, 0] rfl ?_
  exact hk45 x1 x2 x3 (x4 + (1 : Int32)) S h
set_option maxRecDepth 20000 in
theorem w_M_search_45 {X : z_X} {A : Nat → Prop} {Ω : z_O} (hC : z_C X b_M_search 5 "NodalAuctionModel" Ω) (hA : z_hA X A) (hR : z_R X none) (hM : z_rmOf X = z_rm 4 114) (n : Nat) (r : Unit × z_S) (k20 : Int32 → Int32 → z_S → Option (Unit × z_S)) (k32 : Int32 → Int32 → Int32 → z_S → Option (Unit × z_S)) (hk20 : ∀ (x1 : Int32) (x2 : Int32) (S : z_S), k20 x1 x2 S = some r → z_At X A (z_QV X Ω A (wM Ω r.2)) Ω 0 0 5 20 [(0, .ref (Ω.2.2 100)), (1, .int x1), (2, .int x2)] [] (wM Ω S)) (hk32 : ∀ (x1 : Int32) (x2 : Int32) (x3 : Int32) (S : z_S), k32 x1 x2 x3 S = some r → z_At X A (z_QV X Ω A (wM Ω r.2)) Ω 0 0 5 32 [(0, .ref (Ω.2.2 100)), (1, .int x1), (2, .int x2), (3, .int x3)] [] (wM Ω S)) : ∀ (q : Nat) (x1 : Int32) (x2 : Int32) (x3 : Int32) (x4 : Int32) (S : z_S), f_M_search_45 n k20 k32 q x1 x2 x3 x4 S = some r → z_At X A (z_QV X Ω A (wM Ω r.2)) Ω 0 0 5 45 [(0, .ref (Ω.2.2 100)), (1, .int x1), (2, .int x2), (3, .int x3), (4, .int x4)] [] (wM Ω S) := by
  intro q
  induction q with
  | zero => intro x1 x2 x3 x4 S h; cases h
  | succ q ih =>
    intro x1 x2 x3 x4 S h
    refine z_iload 4 rfl hC d_M_search_45 (q := 47) rfl ?_
    refine z_aload_n rfl 0 rfl hC d_M_search_47 (q := 48) rfl ?_
    refine gf_M_105_0 hC d_M_search_48 (q := 51) rfl ?_
    refine z_icmp_ge (tgt := 97) (q := 54) hC d_M_search_51 rfl rfl (fun hb => ?_) (fun hb => ?_)
    · have h := (if_pos hb).symm.trans h
      refine z_iinc (lv' := [(3, .int (x3 + (1 : Int32))), (0, .ref (Ω.2.2 100)), (1, .int x1), (2, .int x2), (4, .int x4)]) 3 rfl rfl (by decide) rfl hC d_M_search_97 (q := 100) rfl ?_
      refine z_goto (tgt := 32) hC d_M_search_100 rfl ?_
      refine z_sub [1, 2, 3, 0] rfl ?_
      exact hk32 x1 x2 (x3 + (1 : Int32)) S h
    · have h := (if_neg hb).symm.trans h
      refine z_aload_n rfl 0 rfl hC d_M_search_54 (q := 55) rfl ?_
      refine z_iload_n rfl 2 rfl hC d_M_search_55 (q := 56) rfl ?_
      refine z_iload_n rfl 3 rfl hC d_M_search_56 (q := 57) rfl ?_
      refine z_iload 4 rfl hC d_M_search_57 (q := 59) rfl ?_
      obtain ⟨v59, S59, hc59, h⟩ := bo_some h
      refine z_callVi (q0 := 0) (As := [.int x2, .int x3, .int x4]) hC hA (c_M_meet (z_lOf X) Ω n x2 x3 x4 S (v59, S59) hc59) k_604 k_601 k_603 ks_46 k_6 h_M_meet (by rw [hM]; exact ⟨Nat.le_of_ble_eq_true rfl, Nat.le_of_ble_eq_true rfl⟩) ⟨Nat.zero_le _, Nat.zero_le _⟩ rfl rfl rfl (Nat.le_of_ble_eq_true rfl) rfl d_M_search_59 (q := 62) rfl ?_
      refine z_if_eq (tgt := 91) (q := 65) hC d_M_search_62 rfl rfl (fun hb => ?_) (fun hb => ?_)
      · have h := (if_pos hb).symm.trans h
        exact w_M_search_91 hC hA hR hM n r k20 k32 (f_M_search_45 n k20 k32 q) hk20 hk32 ih x1 x2 x3 x4 S59 h
      · have h := (if_neg hb).symm.trans h
        refine z_aload_n rfl 0 rfl hC d_M_search_65 (q := 66) rfl ?_
        obtain ⟨v66, S66, hc66, h⟩ := bo_some h
        refine z_callVi (q0 := 0) (As := []) hC hA (c_M_linesHold (z_lOf X) Ω n S59 (v66, S66) hc66) k_621 k_618 k_620 ks_50 k_6 h_M_linesHold (by rw [hM]; exact ⟨Nat.le_of_ble_eq_true rfl, Nat.le_of_ble_eq_true rfl⟩) ⟨Nat.zero_le _, Nat.zero_le _⟩ rfl rfl rfl (Nat.le_of_ble_eq_true rfl) rfl d_M_search_66 (q := 69) rfl ?_
        refine z_if_eq (tgt := 91) (q := 72) hC d_M_search_69 rfl rfl (fun hb => ?_) (fun hb => ?_)
        · have h := (if_pos hb).symm.trans h
          exact w_M_search_91 hC hA hR hM n r k20 k32 (f_M_search_45 n k20 k32 q) hk20 hk32 ih x1 x2 x3 x4 S66 h
        · have h := (if_neg hb).symm.trans h
          refine z_aload_n rfl 0 rfl hC d_M_search_72 (q := 73) rfl ?_
          refine z_iload_n rfl 1 rfl hC d_M_search_73 (q := 74) rfl ?_
          obtain ⟨v74, S74, hc74, h⟩ := bo_some h
          refine z_callVi (q0 := 0) (As := [.int x1]) hC hA (c_M_useAll (z_lOf X) Ω n x1 S66 (v74, S74) hc74) k_629 k_626 k_628 ks_52 k_6 h_M_useAll (by rw [hM]; exact ⟨Nat.le_of_ble_eq_true rfl, Nat.le_of_ble_eq_true rfl⟩) ⟨Nat.zero_le _, Nat.zero_le _⟩ rfl rfl rfl (Nat.le_of_ble_eq_true rfl) rfl d_M_search_74 (q := 77) rfl ?_
          refine z_if_eq (tgt := 91) (q := 80) hC d_M_search_77 rfl rfl (fun hb => ?_) (fun hb => ?_)
          · have h := (if_pos hb).symm.trans h
            exact w_M_search_91 hC hA hR hM n r k20 k32 (f_M_search_45 n k20 k32 q) hk20 hk32 ih x1 x2 x3 x4 S74 h
          · have h := (if_neg hb).symm.trans h
            refine z_aload_n rfl 0 rfl hC d_M_search_80 (q := 81) rfl ?_
            obtain ⟨v81, S81, hc81, h⟩ := bo_some h
            refine z_callVi (q0 := 0) (As := []) hC hA (c_M_better (z_lOf X) Ω n S74 (v81, S81) hc81) k_641 k_638 k_640 ks_55 k_6 h_M_better (by rw [hM]; exact ⟨Nat.le_of_ble_eq_true rfl, Nat.le_of_ble_eq_true rfl⟩) ⟨Nat.zero_le _, Nat.zero_le _⟩ rfl rfl rfl (Nat.le_of_ble_eq_true rfl) rfl d_M_search_81 (q := 84) rfl ?_
            refine z_if_eq (tgt := 91) (q := 87) hC d_M_search_84 rfl rfl (fun hb => ?_) (fun hb => ?_)
            · have h := (if_pos hb).symm.trans h
              exact w_M_search_91 hC hA hR hM n r k20 k32 (f_M_search_45 n k20 k32 q) hk20 hk32 ih x1 x2 x3 x4 S81 h
            · have h := (if_neg hb).symm.trans h
              refine z_aload_n rfl 0 rfl hC d_M_search_87 (q := 88) rfl ?_
              obtain ⟨v88, S88, hc88, h⟩ := bo_some h
              refine z_callVv (q0 := 0) (As := []) hC hA (c_M_keep (z_lOf X) Ω n S81 (v88, S88) hc88) k_645 k_642 k_644 ks_56 k_6 h_M_keep (by rw [hM]; exact ⟨Nat.le_of_ble_eq_true rfl, Nat.le_of_ble_eq_true rfl⟩) ⟨Nat.zero_le _, Nat.zero_le _⟩ rfl rfl rfl (Nat.le_of_ble_eq_true rfl) rfl d_M_search_88 (q := 91) rfl ?_
              exact w_M_search_91 hC hA hR hM n r k20 k32 (f_M_search_45 n k20 k32 q) hk20 hk32 ih x1 x2 x3 x4 S88 h
set_option maxRecDepth 20000 in
theorem w_M_search_32 {X : z_X} {A : Nat → Prop} {Ω : z_O} (hC : z_C X b_M_search 5 "NodalAuctionModel" Ω) (hA : z_hA X A) (hR : z_R X none) (hM : z_rmOf X = z_rm 4 114) (n : Nat) (r : Unit × z_S) (k20 : Int32 → Int32 → z_S → Option (Unit × z_S)) (hk20 : ∀ (x1 : Int32) (x2 : Int32) (S : z_S), k20 x1 x2 S = some r → z_At X A (z_QV X Ω A (wM Ω r.2)) Ω 0 0 5 20 [(0, .ref (Ω.2.2 100)), (1, .int x1), (2, .int x2)] [] (wM Ω S)) : ∀ (q : Nat) (x1 : Int32) (x2 : Int32) (x3 : Int32) (S : z_S), f_M_search_32 n k20 q x1 x2 x3 S = some r → z_At X A (z_QV X Ω A (wM Ω r.2)) Ω 0 0 5 32 [(0, .ref (Ω.2.2 100)), (1, .int x1), (2, .int x2), (3, .int x3)] [] (wM Ω S) := by
  intro q
  induction q with
  | zero => intro x1 x2 x3 S h; cases h
  | succ q ih =>
    intro x1 x2 x3 S h
    refine z_iload_n rfl 3 rfl hC d_M_search_32 (q := 33) rfl ?_
    refine z_aload_n rfl 0 rfl hC d_M_search_33 (q := 34) rfl ?_
    refine gf_M_105_0 hC d_M_search_34 (q := 37) rfl ?_
    refine z_icmp_ge (tgt := 103) (q := 40) hC d_M_search_37 rfl rfl (fun hb => ?_) (fun hb => ?_)
    · have h := (if_pos hb).symm.trans h
      refine z_iinc (lv' := [(2, .int (x2 + (1 : Int32))), (0, .ref (Ω.2.2 100)), (1, .int x1), (3, .int x3)]) 2 rfl rfl (by decide) rfl hC d_M_search_103 (q := 106) rfl ?_
      refine z_goto (tgt := 20) hC d_M_search_106 rfl ?_
      refine z_sub [1, 2, 0] rfl ?_
      exact hk20 x1 (x2 + (1 : Int32)) S h
    · have h := (if_neg hb).symm.trans h
      refine z_iload_n rfl 3 rfl hC d_M_search_40 (q := 41) rfl ?_
      refine z_iconst (v := (1 : Int32)) (by decide) hC d_M_search_41 (q := 42) rfl ?_
      refine z_iadd hC d_M_search_42 (q := 43) rfl ?_
      refine z_istore (lv' := [(4, .int (x3 + (1 : Int32))), (0, .ref (Ω.2.2 100)), (1, .int x1), (2, .int x2), (3, .int x3)]) (by decide) rfl hC d_M_search_43 (q := 45) rfl ?_
      refine z_sub [1, 2, 3, 4, 0] rfl ?_
      exact w_M_search_45 hC hA hR hM n r k20 (f_M_search_32 n k20 q) hk20 ih n x1 x2 x3 (x3 + (1 : Int32)) S h
set_option maxRecDepth 20000 in
theorem w_M_search_20 {X : z_X} {A : Nat → Prop} {Ω : z_O} (hC : z_C X b_M_search 5 "NodalAuctionModel" Ω) (hA : z_hA X A) (hR : z_R X none) (hM : z_rmOf X = z_rm 4 114) (n : Nat) (r : Unit × z_S) : ∀ (q : Nat) (x1 : Int32) (x2 : Int32) (S : z_S), f_M_search_20 n q x1 x2 S = some r → z_At X A (z_QV X Ω A (wM Ω r.2)) Ω 0 0 5 20 [(0, .ref (Ω.2.2 100)), (1, .int x1), (2, .int x2)] [] (wM Ω S) := by
  intro q
  induction q with
  | zero => intro x1 x2 S h; cases h
  | succ q ih =>
    intro x1 x2 S h
    refine z_iload_n rfl 2 rfl hC d_M_search_20 (q := 21) rfl ?_
    refine z_aload_n rfl 0 rfl hC d_M_search_21 (q := 22) rfl ?_
    refine gf_M_105_0 hC d_M_search_22 (q := 25) rfl ?_
    refine z_icmp_ge (tgt := 109) (q := 28) hC d_M_search_25 rfl rfl (fun hb => ?_) (fun hb => ?_)
    · have h := (if_pos hb).symm.trans h
      cases h
      exact z_vret hC hR rfl d_M_search_109
    · have h := (if_neg hb).symm.trans h
      refine z_iload_n rfl 2 rfl hC d_M_search_28 (q := 29) rfl ?_
      refine z_iconst (v := (1 : Int32)) (by decide) hC d_M_search_29 (q := 30) rfl ?_
      refine z_iadd hC d_M_search_30 (q := 31) rfl ?_
      refine z_istore_n (lv' := [(3, .int (x2 + (1 : Int32))), (0, .ref (Ω.2.2 100)), (1, .int x1), (2, .int x2)]) rfl (by decide) rfl hC d_M_search_31 (q := 32) rfl ?_
      refine z_sub [1, 2, 3, 0] rfl ?_
      exact w_M_search_32 hC hA hR hM n r (f_M_search_20 n q) ih n x1 x2 (x2 + (1 : Int32)) S h
set_option maxRecDepth 20000 in
theorem w_M_search {X : z_X} {A : Nat → Prop} {Ω : z_O} (hC : z_C X b_M_search 5 "NodalAuctionModel" Ω) (hA : z_hA X A) (hR : z_R X none) (hM : z_rmOf X = z_rm 4 114) (n : Nat) (r : Unit × z_S) (x1 : Int32) (S : z_S) (h : f_M_search n x1 S = some r) : z_At X A (z_QV X Ω A (wM Ω r.2)) Ω 0 0 5 0 [(0, .ref (Ω.2.2 100)), (1, .int x1)] [] (wM Ω S) := by
  refine z_aload_n rfl 0 rfl hC d_M_search_0 (q := 1) rfl ?_
  refine z_iconst (v := (0 : Int32)) (by decide) hC d_M_search_1 (q := 2) rfl ?_
  refine pf_M_147_0 (by decide) hC d_M_search_2 (q := 5) rfl ?_
  refine z_aload_n rfl 0 rfl hC d_M_search_5 (q := 6) rfl ?_
  obtain ⟨v6, S6, hc6, h⟩ := bo_some h
  refine z_callVv (q0 := 0) (As := []) hC hA (c_M_arrange (z_lOf X) Ω n (sF S 3 (0 : Int32)) (v6, S6) hc6) k_580 k_577 k_579 ks_40 k_6 h_M_arrange (by rw [hM]; exact ⟨Nat.le_of_ble_eq_true rfl, Nat.le_of_ble_eq_true rfl⟩) ⟨Nat.zero_le _, Nat.zero_le _⟩ rfl rfl rfl (Nat.le_of_ble_eq_true rfl) rfl d_M_search_6 (q := 9) rfl ?_
  refine z_aload_n rfl 0 rfl hC d_M_search_9 (q := 10) rfl ?_
  obtain ⟨v10, S10, hc10, h⟩ := bo_some h
  refine z_callVv (q0 := 0) (As := []) hC hA (c_M_linePlanes (z_lOf X) Ω n S6 (v10, S10) hc10) k_588 k_585 k_587 ks_42 k_6 h_M_linePlanes (by rw [hM]; exact ⟨Nat.le_of_ble_eq_true rfl, Nat.le_of_ble_eq_true rfl⟩) ⟨Nat.zero_le _, Nat.zero_le _⟩ rfl rfl rfl (Nat.le_of_ble_eq_true rfl) rfl d_M_search_10 (q := 13) rfl ?_
  refine z_aload_n rfl 0 rfl hC d_M_search_13 (q := 14) rfl ?_
  refine z_iload_n rfl 1 rfl hC d_M_search_14 (q := 15) rfl ?_
  obtain ⟨v15, S15, hc15, h⟩ := bo_some h
  refine z_callVv (q0 := 0) (As := [.int x1]) hC hA (c_M_nodePlanes (z_lOf X) Ω n x1 S10 (v15, S15) hc15) k_596 k_593 k_595 ks_44 k_6 h_M_nodePlanes (by rw [hM]; exact ⟨Nat.le_of_ble_eq_true rfl, Nat.le_of_ble_eq_true rfl⟩) ⟨Nat.zero_le _, Nat.zero_le _⟩ rfl rfl rfl (Nat.le_of_ble_eq_true rfl) rfl d_M_search_15 (q := 18) rfl ?_
  refine z_iconst (v := (0 : Int32)) (by decide) hC d_M_search_18 (q := 19) rfl ?_
  refine z_istore_n (lv' := [(2, .int (0 : Int32)), (0, .ref (Ω.2.2 100)), (1, .int x1)]) rfl (by decide) rfl hC d_M_search_19 (q := 20) rfl ?_
  refine z_sub [1, 2, 0] rfl ?_
  exact w_M_search_20 hC hA hR hM n r n x1 (0 : Int32) S15 h
theorem c_M_search (l : Launch) (Ω : z_O) (n : Nat) (x1 : Int32) (S : z_S) (r : Unit × z_S) (h : f_M_search n x1 S = some r) : z_MV l Ω y_M_search b_M_search 5 4 114 [.ref (Ω.2.2 100), .int x1] (wM Ω S) (wM Ω r.2) := z_introV (by decide +kernel) (Nat.le_of_ble_eq_true rfl) rfl (fun X A hC hA hR _ hM => w_M_search hC hA hR hM n r x1 S h)
