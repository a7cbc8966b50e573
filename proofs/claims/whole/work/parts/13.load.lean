def f_P_placeRow_14 (n : Nat) (x2 : Int32) (x4 : Int32) (S : z_S) : Option (Unit × z_S) := ck (vi x2 16) (some ((), sI S 16 (upd (gI S 16) x2.toNatClampNeg x4)))
def f_P_placeRow (n : Nat) (x1 : Int32) (x2 : Int32) (x3 : Int32) (x4 : Int32) (S : z_S) : Option (Unit × z_S) := ck (vi x1 8) (ck (vi x2 16) (f_P_placeRow_14 n x2 x4 (sI (sI S 13 (upd (gI S 13) x1.toNatClampNeg x2)) 15 (upd (gI (sI S 13 (upd (gI S 13) x1.toNatClampNeg x2)) 15) x2.toNatClampNeg x3))))
set_option maxRecDepth 20000 in
theorem w_P_placeRow_14 {X : z_X} {A : Nat → Prop} {Ω : z_O} (hC : z_C X b_P_placeRow 5 "NodalAuction$Program" Ω) (hA : z_hA X A) (hR : z_R X none) (hM : z_rmOf X = z_rm 0 0) (n : Nat) (r : Unit × z_S) (x2 : Int32) (x4 : Int32) (S : z_S) (h : f_P_placeRow_14 n x2 x4 S = some r) : z_At X A (z_QV X Ω A (wN Ω r.2)) Ω 0 0 5 14 [(0, .ref (Ω.2.2 4)), (2, .int x2), (4, .int x4)] [] (wN Ω S) := by
  refine z_aload_n rfl 0 rfl hC d_P_placeRow_14 (q := 15) rfl ?_
  refine gf_P_26_4 hC d_P_placeRow_15 (q := 18) rfl ?_
  refine z_iload_n rfl 1 rfl hC d_P_placeRow_18 (q := 19) rfl ?_
  refine z_iload 2 rfl hC d_P_placeRow_19 (q := 21) rfl ?_
  obtain ⟨hv1, h⟩ := ck_some h
  refine as_wN_25 hC hv1 d_P_placeRow_21 (q := 22) rfl ?_
  cases h
  exact z_vret hC hR rfl d_P_placeRow_22
set_option maxRecDepth 20000 in
theorem w_P_placeRow {X : z_X} {A : Nat → Prop} {Ω : z_O} (hC : z_C X b_P_placeRow 5 "NodalAuction$Program" Ω) (hA : z_hA X A) (hR : z_R X none) (hM : z_rmOf X = z_rm 0 0) (n : Nat) (r : Unit × z_S) (x1 : Int32) (x2 : Int32) (x3 : Int32) (x4 : Int32) (S : z_S) (h : f_P_placeRow n x1 x2 x3 x4 S = some r) : z_At X A (z_QV X Ω A (wN Ω r.2)) Ω 0 0 5 0 [(0, .ref (Ω.2.2 4)), (1, .int x1), (2, .int x2), (3, .int x3), (4, .int x4)] [] (wN Ω S) := by
  refine z_aload_n rfl 0 rfl hC d_P_placeRow_0 (q := 1) rfl ?_
  refine gf_P_16_4 hC d_P_placeRow_1 (q := 4) rfl ?_
  refine z_iload_n rfl 1 rfl hC d_P_placeRow_4 (q := 5) rfl ?_
  refine z_iload_n rfl 2 rfl hC d_P_placeRow_5 (q := 6) rfl ?_
  obtain ⟨hv1, h⟩ := ck_some h
  refine as_wN_22 hC hv1 d_P_placeRow_6 (q := 7) rfl ?_
  refine z_aload_n rfl 0 rfl hC d_P_placeRow_7 (q := 8) rfl ?_
  refine gf_P_23_4 hC d_P_placeRow_8 (q := 11) rfl ?_
  refine z_iload_n rfl 2 rfl hC d_P_placeRow_11 (q := 12) rfl ?_
  refine z_iload_n rfl 3 rfl hC d_P_placeRow_12 (q := 13) rfl ?_
  obtain ⟨hv2, h⟩ := ck_some h
  refine as_wN_24 hC hv2 d_P_placeRow_13 (q := 14) rfl ?_
  refine z_sub [0, 2, 4] rfl ?_
  exact w_P_placeRow_14 hC hA hR hM n r x2 x4 (sI (sI S 13 (upd (gI S 13) x1.toNatClampNeg x2)) 15 (upd (gI (sI S 13 (upd (gI S 13) x1.toNatClampNeg x2)) 15) x2.toNatClampNeg x3)) h
theorem c_P_placeRow (l : Launch) (Ω : z_O) (n : Nat) (x1 : Int32) (x2 : Int32) (x3 : Int32) (x4 : Int32) (S : z_S) (r : Unit × z_S) (h : f_P_placeRow n x1 x2 x3 x4 S = some r) : z_MV l Ω y_P_placeRow b_P_placeRow 5 0 0 [.ref (Ω.2.2 4), .int x1, .int x2, .int x3, .int x4] (wN Ω S) (wN Ω r.2) := z_introV (by decide +kernel) (Nat.le_of_ble_eq_true rfl) rfl (fun X A hC hA hR _ hM => w_P_placeRow hC hA hR hM n r x1 x2 x3 x4 S h)
def f_P_placeColumn_28 (n : Nat) (x1 : Int32) (S : z_S) : Option (Unit × z_S) := ck (vi x1 8) (some ((), sI S 18 (upd (gI S 18) x1.toNatClampNeg (vp_nar .boolean (0 : Int32)))))
def f_P_placeColumn_14 (n : Nat) (x1 : Int32) (x2 : Int32) (S : z_S) : Option (Unit × z_S) := ck (vi x1 16) (ck (vi x1 16) (f_P_placeColumn_28 n x1 (sI (sI S 16 (upd (gI S 16) x1.toNatClampNeg x2)) 17 (upd (gI (sI S 16 (upd (gI S 16) x1.toNatClampNeg x2)) 17) x1.toNatClampNeg (0 : Int32)))))
def f_P_placeColumn (n : Nat) (x1 : Int32) (x2 : Int32) (S : z_S) : Option (Unit × z_S) := ck (vi x1 8) (ck (vi x1 16) (f_P_placeColumn_14 n x1 x2 (sI (sI S 14 (upd (gI S 14) x1.toNatClampNeg x1)) 15 (upd (gI (sI S 14 (upd (gI S 14) x1.toNatClampNeg x1)) 15) x1.toNatClampNeg (0 : Int32)))))
set_option maxRecDepth 20000 in
theorem w_P_placeColumn_28 {X : z_X} {A : Nat → Prop} {Ω : z_O} (hC : z_C X b_P_placeColumn 3 "NodalAuction$Program" Ω) (hA : z_hA X A) (hR : z_R X none) (hM : z_rmOf X = z_rm 0 0) (n : Nat) (r : Unit × z_S) (x1 : Int32) (S : z_S) (h : f_P_placeColumn_28 n x1 S = some r) : z_At X A (z_QV X Ω A (wN Ω r.2)) Ω 0 0 3 28 [(0, .ref (Ω.2.2 4)), (1, .int x1)] [] (wN Ω S) := by
  refine z_aload_n rfl 0 rfl hC d_P_placeColumn_28 (q := 29) rfl ?_
  refine gf_P_32_4 hC d_P_placeColumn_29 (q := 32) rfl ?_
  refine z_iload_n rfl 1 rfl hC d_P_placeColumn_32 (q := 33) rfl ?_
  refine z_iconst (v := (0 : Int32)) (by decide) hC d_P_placeColumn_33 (q := 34) rfl ?_
  obtain ⟨hv1, h⟩ := ck_some h
  refine as_wN_27 hC hv1 d_P_placeColumn_34 (q := 35) rfl ?_
  cases h
  exact z_vret hC hR rfl d_P_placeColumn_35
set_option maxRecDepth 20000 in
theorem w_P_placeColumn_14 {X : z_X} {A : Nat → Prop} {Ω : z_O} (hC : z_C X b_P_placeColumn 3 "NodalAuction$Program" Ω) (hA : z_hA X A) (hR : z_R X none) (hM : z_rmOf X = z_rm 0 0) (n : Nat) (r : Unit × z_S) (x1 : Int32) (x2 : Int32) (S : z_S) (h : f_P_placeColumn_14 n x1 x2 S = some r) : z_At X A (z_QV X Ω A (wN Ω r.2)) Ω 0 0 3 14 [(0, .ref (Ω.2.2 4)), (1, .int x1), (2, .int x2)] [] (wN Ω S) := by
  refine z_aload_n rfl 0 rfl hC d_P_placeColumn_14 (q := 15) rfl ?_
  refine gf_P_26_4 hC d_P_placeColumn_15 (q := 18) rfl ?_
  refine z_iload_n rfl 1 rfl hC d_P_placeColumn_18 (q := 19) rfl ?_
  refine z_iload_n rfl 2 rfl hC d_P_placeColumn_19 (q := 20) rfl ?_
  obtain ⟨hv1, h⟩ := ck_some h
  refine as_wN_25 hC hv1 d_P_placeColumn_20 (q := 21) rfl ?_
  refine z_aload_n rfl 0 rfl hC d_P_placeColumn_21 (q := 22) rfl ?_
  refine gf_P_29_4 hC d_P_placeColumn_22 (q := 25) rfl ?_
  refine z_iload_n rfl 1 rfl hC d_P_placeColumn_25 (q := 26) rfl ?_
  refine z_iconst (v := (0 : Int32)) (by decide) hC d_P_placeColumn_26 (q := 27) rfl ?_
  obtain ⟨hv2, h⟩ := ck_some h
  refine as_wN_26 hC hv2 d_P_placeColumn_27 (q := 28) rfl ?_
  refine z_sub [0, 1] rfl ?_
  exact w_P_placeColumn_28 hC hA hR hM n r x1 (sI (sI S 16 (upd (gI S 16) x1.toNatClampNeg x2)) 17 (upd (gI (sI S 16 (upd (gI S 16) x1.toNatClampNeg x2)) 17) x1.toNatClampNeg (0 : Int32))) h
set_option maxRecDepth 20000 in
theorem w_P_placeColumn {X : z_X} {A : Nat → Prop} {Ω : z_O} (hC : z_C X b_P_placeColumn 3 "NodalAuction$Program" Ω) (hA : z_hA X A) (hR : z_R X none) (hM : z_rmOf X = z_rm 0 0) (n : Nat) (r : Unit × z_S) (x1 : Int32) (x2 : Int32) (S : z_S) (h : f_P_placeColumn n x1 x2 S = some r) : z_At X A (z_QV X Ω A (wN Ω r.2)) Ω 0 0 3 0 [(0, .ref (Ω.2.2 4)), (1, .int x1), (2, .int x2)] [] (wN Ω S) := by
  refine z_aload_n rfl 0 rfl hC d_P_placeColumn_0 (q := 1) rfl ?_
  refine gf_P_20_4 hC d_P_placeColumn_1 (q := 4) rfl ?_
  refine z_iload_n rfl 1 rfl hC d_P_placeColumn_4 (q := 5) rfl ?_
  refine z_iload_n rfl 1 rfl hC d_P_placeColumn_5 (q := 6) rfl ?_
  obtain ⟨hv1, h⟩ := ck_some h
  refine as_wN_23 hC hv1 d_P_placeColumn_6 (q := 7) rfl ?_
  refine z_aload_n rfl 0 rfl hC d_P_placeColumn_7 (q := 8) rfl ?_
  refine gf_P_23_4 hC d_P_placeColumn_8 (q := 11) rfl ?_
  refine z_iload_n rfl 1 rfl hC d_P_placeColumn_11 (q := 12) rfl ?_
  refine z_iconst (v := (0 : Int32)) (by decide) hC d_P_placeColumn_12 (q := 13) rfl ?_
  obtain ⟨hv2, h⟩ := ck_some h
  refine as_wN_24 hC hv2 d_P_placeColumn_13 (q := 14) rfl ?_
  exact w_P_placeColumn_14 hC hA hR hM n r x1 x2 (sI (sI S 14 (upd (gI S 14) x1.toNatClampNeg x1)) 15 (upd (gI (sI S 14 (upd (gI S 14) x1.toNatClampNeg x1)) 15) x1.toNatClampNeg (0 : Int32))) h
theorem c_P_placeColumn (l : Launch) (Ω : z_O) (n : Nat) (x1 : Int32) (x2 : Int32) (S : z_S) (r : Unit × z_S) (h : f_P_placeColumn n x1 x2 S = some r) : z_MV l Ω y_P_placeColumn b_P_placeColumn 3 0 0 [.ref (Ω.2.2 4), .int x1, .int x2] (wN Ω S) (wN Ω r.2) := z_introV (by decide +kernel) (Nat.le_of_ble_eq_true rfl) rfl (fun X A hC hA hR _ hM => w_P_placeColumn hC hA hR hM n r x1 x2 S h)
def f_P_load_182 (n : Nat) (k116 : Int32 → z_S → Option (Int32 × z_S)) (k141 : Int32 → Int32 → z_S → Option (Int32 × z_S)) (x5 : Int32) (x6 : Int32) (S : z_S) : Option (Int32 × z_S) := k141 x5 (x6 + (1 : Int32)) S
def f_P_load_249 (n : Nat) (k116 : Int32 → z_S → Option (Int32 × z_S)) (x5 : Int32) (S : z_S) : Option (Int32 × z_S) := k116 (x5 + (1 : Int32)) S
def f_P_load_214 (n : Nat) (k116 : Int32 → z_S → Option (Int32 × z_S)) (x5 : Int32) (S : z_S) : Option (Int32 × z_S) := ck (vi ((gF S 0) + (1 : Int32)) 8) (ck (vi x5 8) (ck (vi x5 8) (ck (vi x5 8) (f_P_load_249 n k116 x5 (sJ S (8 + ((gF S 0) + (1 : Int32)).toNatClampNeg) (vp_updL (gJ S (8 + ((gF S 0) + (1 : Int32)).toNatClampNeg)) x5.toNatClampNeg ((((gI S 5 x5.toNatClampNeg) * (gI S 7 x5.toNatClampNeg)).toInt64) * (gG S 1))))))))
def f_P_load_141 (n : Nat) (k116 : Int32 → z_S → Option (Int32 × z_S)) : Nat → Int32 → Int32 → z_S → Option (Int32 × z_S)
  | 0, _, _, _ => none
  | q + 1, x5, x6, S => (if (gF S 0) ≤ x6 then ck (vi (gF S 0) 8) (ck (vi x5 8) (ck (vi x5 8) (f_P_load_214 n k116 x5 (sJ S (8 + (gF S 0).toNatClampNeg) (vp_updL (gJ S (8 + (gF S 0).toNatClampNeg)) x5.toNatClampNeg (((-(gI S 5 x5.toNatClampNeg)).toInt64) * (gG S 1))))))) else ck (vi x6 8) (ck (vi x5 8) (ck (vi x5 8) (bo (f_G_share n x6 (gI S 6 x5.toNatClampNeg) S) (fun v177 S177 => ck (vi x5 8) (f_P_load_182 n k116 (f_P_load_141 n k116 q) x5 x6 (sJ S177 (8 + x6.toNatClampNeg) (vp_updL (gJ S177 (8 + x6.toNatClampNeg)) x5.toNatClampNeg (((gI S 5 x5.toNatClampNeg).toInt64) * v177)))))))))
def f_P_load_116 (n : Nat) : Nat → Int32 → z_S → Option (Int32 × z_S)
  | 0, _, _ => none
  | q + 1, x5, S => (if (gF S 4) ≤ x5 then some ((1 : Int32), S) else ck (vi x5 8) (bo (f_P_placeColumn n x5 (gI S 8 x5.toNatClampNeg) S) (fun _ S135 => f_P_load_141 n (f_P_load_116 n q) n x5 (0 : Int32) S135)))
def f_P_load_45 (n : Nat) : Nat → Int32 → Int32 → z_S → Option (Int32 × z_S)
  | 0, _, _, _ => none
  | q + 1, x4, x5, S => (if (gF S 0) ≤ x5 then bo (f_P_placeRow n (gF S 0) (8 : Int32) (0 : Int32) x4 S) (fun _ S96 => bo (f_P_placeRow n ((gF S96 0) + (1 : Int32)) (15 : Int32) (0 : Int32) (0 : Int32) S96) (fun _ S110 => f_P_load_116 n n (0 : Int32) S110)) else ck (vi x5 6) (ck (vi x5 6) (bo (f_P_placeRow n x5 ((9 : Int32) + x5) (-(gI S 4 x5.toNatClampNeg)) (gI S 4 x5.toNatClampNeg) S) (fun _ S77 => f_P_load_45 n q x4 (x5 + (1 : Int32)) S77))))
def f_P_load_42 (n : Nat) (x4 : Int32) (S : z_S) : Option (Int32 × z_S) := f_P_load_45 n n x4 (0 : Int32) S
def f_P_load (n : Nat) (x3 : Int32) (x4 : Int32) (S : z_S) : Option (Int32 × z_S) := bo (f_G_ground n x3 S) (fun _ S2 => (if (0 : Int64) < (gG S2 0) then f_P_load_42 n x4 (sF (sF (sG S2 1 (gG S2 0)) 4 (gF (sG S2 1 (gG S2 0)) 1)) 3 ((gF (sF (sG S2 1 (gG S2 0)) 4 (gF (sG S2 1 (gG S2 0)) 1)) 0) + (2 : Int32))) else some ((0 : Int32), S2)))
set_option maxRecDepth 20000 in
theorem w_P_load_182 {X : z_X} {A : Nat → Prop} {Ω : z_O} (hC : z_C X b_P_load 7 "NodalAuction$Program" Ω) (hA : z_hA X A) (hR : z_R X (some .boolean)) (hM : z_rmOf X = z_rm 3 71) (n : Nat) (r : Int32 × z_S) (k116 : Int32 → z_S → Option (Int32 × z_S)) (k141 : Int32 → Int32 → z_S → Option (Int32 × z_S)) (hk116 : ∀ (x5 : Int32) (S : z_S), k116 x5 S = some r → z_At X A (z_QI X Ω A r.1 (wN Ω r.2)) Ω 0 0 7 116 [(0, .ref (Ω.2.2 4)), (1, .ref (Ω.2.2 1)), (2, .ref (Ω.2.2 2)), (5, .int x5)] [] (wN Ω S)) (hk141 : ∀ (x5 : Int32) (x6 : Int32) (S : z_S), k141 x5 x6 S = some r → z_At X A (z_QI X Ω A r.1 (wN Ω r.2)) Ω 0 0 7 141 [(0, .ref (Ω.2.2 4)), (1, .ref (Ω.2.2 1)), (2, .ref (Ω.2.2 2)), (5, .int x5), (6, .int x6)] [] (wN Ω S)) (x5 : Int32) (x6 : Int32) (S : z_S) (h : f_P_load_182 n k116 k141 x5 x6 S = some r) : z_At X A (z_QI X Ω A r.1 (wN Ω r.2)) Ω 0 0 7 182 [(0, .ref (Ω.2.2 4)), (1, .ref (Ω.2.2 1)), (2, .ref (Ω.2.2 2)), (5, .int x5), (6, .int x6)] [] (wN Ω S) := by
  refine z_iinc (lv' := [(6, .int (x6 + (1 : Int32))), (0, .ref (Ω.2.2 4)), (1, .ref (Ω.2.2 1)), (2, .ref (Ω.2.2 2)), (5, .int x5)]) 4 rfl rfl (by decide) rfl hC d_P_load_182 (q := 185) rfl ?_
  refine z_goto (tgt := 141) hC d_P_load_185 rfl ?_
  refine z_sub [1, 2, 3, 4, 0] rfl ?_
  exact hk141 x5 (x6 + (1 : Int32)) S h
set_option maxRecDepth 20000 in
theorem w_P_load_249 {X : z_X} {A : Nat → Prop} {Ω : z_O} (hC : z_C X b_P_load 7 "NodalAuction$Program" Ω) (hA : z_hA X A) (hR : z_R X (some .boolean)) (hM : z_rmOf X = z_rm 3 71) (n : Nat) (r : Int32 × z_S) (k116 : Int32 → z_S → Option (Int32 × z_S)) (hk116 : ∀ (x5 : Int32) (S : z_S), k116 x5 S = some r → z_At X A (z_QI X Ω A r.1 (wN Ω r.2)) Ω 0 0 7 116 [(0, .ref (Ω.2.2 4)), (1, .ref (Ω.2.2 1)), (2, .ref (Ω.2.2 2)), (5, .int x5)] [] (wN Ω S)) (x5 : Int32) (S : z_S) (h : f_P_load_249 n k116 x5 S = some r) : z_At X A (z_QI X Ω A r.1 (wN Ω r.2)) Ω 0 0 7 249 [(0, .ref (Ω.2.2 4)), (1, .ref (Ω.2.2 1)), (2, .ref (Ω.2.2 2)), (5, .int x5)] [] (wN Ω S) := by
  refine z_iinc (lv' := [(5, .int (x5 + (1 : Int32))), (0, .ref (Ω.2.2 4)), (1, .ref (Ω.2.2 1)), (2, .ref (Ω.2.2 2))]) 3 rfl rfl (by decide) rfl hC d_P_load_249 (q := 252) rfl ?_
  refine z_goto (tgt := 116) hC d_P_load_252 rfl ?_
  refine z_sub [1, 2, 3, 0] rfl ?_
  exact hk116 (x5 + (1 : Int32)) S h
set_option maxRecDepth 20000 in
theorem w_P_load_214 {X : z_X} {A : Nat → Prop} {Ω : z_O} (hC : z_C X b_P_load 7 "NodalAuction$Program" Ω) (hA : z_hA X A) (hR : z_R X (some .boolean)) (hM : z_rmOf X = z_rm 3 71) (n : Nat) (r : Int32 × z_S) (k116 : Int32 → z_S → Option (Int32 × z_S)) (hk116 : ∀ (x5 : Int32) (S : z_S), k116 x5 S = some r → z_At X A (z_QI X Ω A r.1 (wN Ω r.2)) Ω 0 0 7 116 [(0, .ref (Ω.2.2 4)), (1, .ref (Ω.2.2 1)), (2, .ref (Ω.2.2 2)), (5, .int x5)] [] (wN Ω S)) (x5 : Int32) (S : z_S) (h : f_P_load_214 n k116 x5 S = some r) : z_At X A (z_QI X Ω A r.1 (wN Ω r.2)) Ω 0 0 7 214 [(0, .ref (Ω.2.2 4)), (1, .ref (Ω.2.2 1)), (2, .ref (Ω.2.2 2)), (5, .int x5)] [] (wN Ω S) := by
  refine z_aload_n rfl 0 rfl hC d_P_load_214 (q := 215) rfl ?_
  refine gf_P_11_4 hC d_P_load_215 (q := 218) rfl ?_
  refine z_aload_n rfl 1 rfl hC d_P_load_218 (q := 219) rfl ?_
  refine gf_P_61_1 hC d_P_load_219 (q := 222) rfl ?_
  refine z_iconst (v := (1 : Int32)) (by decide) hC d_P_load_222 (q := 223) rfl ?_
  refine z_iadd hC d_P_load_223 (q := 224) rfl ?_
  obtain ⟨hv1, h⟩ := ck_some h
  refine ao_wN_21 hC hv1 d_P_load_224 (q := 225) rfl ?_
  refine z_iload 3 rfl hC d_P_load_225 (q := 227) rfl ?_
  refine z_aload_n rfl 2 rfl hC d_P_load_227 (q := 228) rfl ?_
  refine gf_P_76_2 hC d_P_load_228 (q := 231) rfl ?_
  refine z_iload 3 rfl hC d_P_load_231 (q := 233) rfl ?_
  obtain ⟨hv2, h⟩ := ck_some h
  refine al_wN_13 hC hv2 d_P_load_233 (q := 234) rfl ?_
  refine z_aload_n rfl 2 rfl hC d_P_load_234 (q := 235) rfl ?_
  refine gf_P_86_2 hC d_P_load_235 (q := 238) rfl ?_
  refine z_iload 3 rfl hC d_P_load_238 (q := 240) rfl ?_
  obtain ⟨hv3, h⟩ := ck_some h
  refine al_wN_15 hC hv3 d_P_load_240 (q := 241) rfl ?_
  refine z_imul hC d_P_load_241 (q := 242) rfl ?_
  refine z_i2l hC d_P_load_242 (q := 243) rfl ?_
  refine z_aload_n rfl 0 rfl hC d_P_load_243 (q := 244) rfl ?_
  refine gf_P_43_4 hC d_P_load_244 (q := 247) rfl ?_
  refine z_lmul hC d_P_load_247 (q := 248) rfl ?_
  obtain ⟨hv4, h⟩ := ck_some h
  refine sr_38 hC hv1 hv4 d_P_load_248 (q := 249) rfl ?_
  exact w_P_load_249 hC hA hR hM n r k116 hk116 x5 (sJ S (8 + ((gF S 0) + (1 : Int32)).toNatClampNeg) (vp_updL (gJ S (8 + ((gF S 0) + (1 : Int32)).toNatClampNeg)) x5.toNatClampNeg ((((gI S 5 x5.toNatClampNeg) * (gI S 7 x5.toNatClampNeg)).toInt64) * (gG S 1)))) h
set_option maxRecDepth 20000 in
theorem w_P_load_141 {X : z_X} {A : Nat → Prop} {Ω : z_O} (hC : z_C X b_P_load 7 "NodalAuction$Program" Ω) (hA : z_hA X A) (hR : z_R X (some .boolean)) (hM : z_rmOf X = z_rm 3 71) (n : Nat) (r : Int32 × z_S) (k116 : Int32 → z_S → Option (Int32 × z_S)) (hk116 : ∀ (x5 : Int32) (S : z_S), k116 x5 S = some r → z_At X A (z_QI X Ω A r.1 (wN Ω r.2)) Ω 0 0 7 116 [(0, .ref (Ω.2.2 4)), (1, .ref (Ω.2.2 1)), (2, .ref (Ω.2.2 2)), (5, .int x5)] [] (wN Ω S)) : ∀ (q : Nat) (x5 : Int32) (x6 : Int32) (S : z_S), f_P_load_141 n k116 q x5 x6 S = some r → z_At X A (z_QI X Ω A r.1 (wN Ω r.2)) Ω 0 0 7 141 [(0, .ref (Ω.2.2 4)), (1, .ref (Ω.2.2 1)), (2, .ref (Ω.2.2 2)), (5, .int x5), (6, .int x6)] [] (wN Ω S) := by
  intro q
  induction q with
  | zero => intro x5 x6 S h; cases h
  | succ q ih =>
    intro x5 x6 S h
    refine z_iload 4 rfl hC d_P_load_141 (q := 143) rfl ?_
    refine z_aload_n rfl 1 rfl hC d_P_load_143 (q := 144) rfl ?_
    refine gf_P_61_1 hC d_P_load_144 (q := 147) rfl ?_
    refine z_icmp_ge (tgt := 188) (q := 150) hC d_P_load_147 rfl rfl (fun hb => ?_) (fun hb => ?_)
    · have h := (if_pos hb).symm.trans h
      refine z_aload_n rfl 0 rfl hC d_P_load_188 (q := 189) rfl ?_
      refine gf_P_11_4 hC d_P_load_189 (q := 192) rfl ?_
      refine z_aload_n rfl 1 rfl hC d_P_load_192 (q := 193) rfl ?_
      refine gf_P_61_1 hC d_P_load_193 (q := 196) rfl ?_
      obtain ⟨hv1, h⟩ := ck_some h
      refine ao_wN_21 hC hv1 d_P_load_196 (q := 197) rfl ?_
      refine z_iload 3 rfl hC d_P_load_197 (q := 199) rfl ?_
      refine z_aload_n rfl 2 rfl hC d_P_load_199 (q := 200) rfl ?_
      refine gf_P_76_2 hC d_P_load_200 (q := 203) rfl ?_
      refine z_iload 3 rfl hC d_P_load_203 (q := 205) rfl ?_
      obtain ⟨hv2, h⟩ := ck_some h
      refine al_wN_13 hC hv2 d_P_load_205 (q := 206) rfl ?_
      refine z_ineg hC d_P_load_206 (q := 207) rfl ?_
      refine z_i2l hC d_P_load_207 (q := 208) rfl ?_
      refine z_aload_n rfl 0 rfl hC d_P_load_208 (q := 209) rfl ?_
      refine gf_P_43_4 hC d_P_load_209 (q := 212) rfl ?_
      refine z_lmul hC d_P_load_212 (q := 213) rfl ?_
      obtain ⟨hv3, h⟩ := ck_some h
      refine sr_38 hC hv1 hv3 d_P_load_213 (q := 214) rfl ?_
      refine z_sub [0, 1, 2, 3] rfl ?_
      exact w_P_load_214 hC hA hR hM n r k116 hk116 x5 (sJ S (8 + (gF S 0).toNatClampNeg) (vp_updL (gJ S (8 + (gF S 0).toNatClampNeg)) x5.toNatClampNeg (((-(gI S 5 x5.toNatClampNeg)).toInt64) * (gG S 1)))) h
    · have h := (if_neg hb).symm.trans h
      refine z_aload_n rfl 0 rfl hC d_P_load_150 (q := 151) rfl ?_
      refine gf_P_11_4 hC d_P_load_151 (q := 154) rfl ?_
      refine z_iload 4 rfl hC d_P_load_154 (q := 156) rfl ?_
      obtain ⟨hv1, h⟩ := ck_some h
      refine ao_wN_21 hC hv1 d_P_load_156 (q := 157) rfl ?_
      refine z_iload 3 rfl hC d_P_load_157 (q := 159) rfl ?_
      refine z_aload_n rfl 2 rfl hC d_P_load_159 (q := 160) rfl ?_
      refine gf_P_76_2 hC d_P_load_160 (q := 163) rfl ?_
      refine z_iload 3 rfl hC d_P_load_163 (q := 165) rfl ?_
      obtain ⟨hv2, h⟩ := ck_some h
      refine al_wN_13 hC hv2 d_P_load_165 (q := 166) rfl ?_
      refine z_i2l hC d_P_load_166 (q := 167) rfl ?_
      refine z_aload_n rfl 1 rfl hC d_P_load_167 (q := 168) rfl ?_
      refine z_iload 4 rfl hC d_P_load_168 (q := 170) rfl ?_
      refine z_aload_n rfl 2 rfl hC d_P_load_170 (q := 171) rfl ?_
      refine gf_P_79_2 hC d_P_load_171 (q := 174) rfl ?_
      refine z_iload 3 rfl hC d_P_load_174 (q := 176) rfl ?_
      obtain ⟨hv3, h⟩ := ck_some h
      refine al_wN_14 hC hv3 d_P_load_176 (q := 177) rfl ?_
      obtain ⟨v177, S177, hc177, h⟩ := bo_some h
      refine z_callVNl (q0 := 1) (As := [.int x6, .int (gI S 6 x5.toNatClampNeg)]) hC hA (c_G_share (z_lOf X) Ω n x6 (gI S 6 x5.toNatClampNeg) S (v177, S177) hc177) k_276 k_273 k_275 ks_14 k_2 h_G_share (by rw [hM]; exact ⟨Nat.le_of_ble_eq_true rfl, Nat.le_of_ble_eq_true rfl⟩) ⟨Nat.zero_le _, Nat.zero_le _⟩ rfl rfl rfl (Nat.le_of_ble_eq_true rfl) rfl d_P_load_177 (q := 180) rfl ?_
      refine z_lmul hC d_P_load_180 (q := 181) rfl ?_
      obtain ⟨hv4, h⟩ := ck_some h
      refine sr_38 hC hv1 hv4 d_P_load_181 (q := 182) rfl ?_
      exact w_P_load_182 hC hA hR hM n r k116 (f_P_load_141 n k116 q) hk116 ih x5 x6 (sJ S177 (8 + x6.toNatClampNeg) (vp_updL (gJ S177 (8 + x6.toNatClampNeg)) x5.toNatClampNeg (((gI S 5 x5.toNatClampNeg).toInt64) * v177))) h
set_option maxRecDepth 20000 in
theorem w_P_load_116 {X : z_X} {A : Nat → Prop} {Ω : z_O} (hC : z_C X b_P_load 7 "NodalAuction$Program" Ω) (hA : z_hA X A) (hR : z_R X (some .boolean)) (hM : z_rmOf X = z_rm 3 71) (n : Nat) (r : Int32 × z_S) : ∀ (q : Nat) (x5 : Int32) (S : z_S), f_P_load_116 n q x5 S = some r → z_At X A (z_QI X Ω A r.1 (wN Ω r.2)) Ω 0 0 7 116 [(0, .ref (Ω.2.2 4)), (1, .ref (Ω.2.2 1)), (2, .ref (Ω.2.2 2)), (5, .int x5)] [] (wN Ω S) := by
  intro q
  induction q with
  | zero => intro x5 S h; cases h
  | succ q ih =>
    intro x5 S h
    refine z_iload 3 rfl hC d_P_load_116 (q := 118) rfl ?_
    refine z_aload_n rfl 0 rfl hC d_P_load_118 (q := 119) rfl ?_
    refine gf_P_40_4 hC d_P_load_119 (q := 122) rfl ?_
    refine z_icmp_ge (tgt := 255) (q := 125) hC d_P_load_122 rfl rfl (fun hb => ?_) (fun hb => ?_)
    · have h := (if_pos hb).symm.trans h
      refine z_iconst (v := (1 : Int32)) (by decide) hC d_P_load_255 (q := 256) rfl ?_
      cases h
      exact z_zret hC hR (by decide) rfl rfl d_P_load_256
    · have h := (if_neg hb).symm.trans h
      refine z_aload_n rfl 0 rfl hC d_P_load_125 (q := 126) rfl ?_
      refine z_iload 3 rfl hC d_P_load_126 (q := 128) rfl ?_
      refine z_aload_n rfl 2 rfl hC d_P_load_128 (q := 129) rfl ?_
      refine gf_P_69_2 hC d_P_load_129 (q := 132) rfl ?_
      refine z_iload 3 rfl hC d_P_load_132 (q := 134) rfl ?_
      obtain ⟨hv1, h⟩ := ck_some h
      refine al_wN_16 hC hv1 d_P_load_134 (q := 135) rfl ?_
      obtain ⟨v135, S135, hc135, h⟩ := bo_some h
      refine z_callVv (q0 := 4) (As := [.int x5, .int (gI S 8 x5.toNatClampNeg)]) hC hA (c_P_placeColumn (z_lOf X) Ω n x5 (gI S 8 x5.toNatClampNeg) S (v135, S135) hc135) k_272 k_269 k_271 ks_13 k_4 h_P_placeColumn (by rw [hM]; exact ⟨Nat.le_of_ble_eq_true rfl, Nat.le_of_ble_eq_true rfl⟩) ⟨Nat.zero_le _, Nat.zero_le _⟩ rfl rfl rfl (Nat.le_of_ble_eq_true rfl) rfl d_P_load_135 (q := 138) rfl ?_
      refine z_iconst (v := (0 : Int32)) (by decide) hC d_P_load_138 (q := 139) rfl ?_
      refine z_istore (lv' := [(6, .int (0 : Int32)), (0, .ref (Ω.2.2 4)), (1, .ref (Ω.2.2 1)), (2, .ref (Ω.2.2 2)), (5, .int x5)]) (by decide) rfl hC d_P_load_139 (q := 141) rfl ?_
      refine z_sub [1, 2, 3, 4, 0] rfl ?_
      exact w_P_load_141 hC hA hR hM n r (f_P_load_116 n q) ih n x5 (0 : Int32) S135 h
set_option maxRecDepth 20000 in
theorem w_P_load_45 {X : z_X} {A : Nat → Prop} {Ω : z_O} (hC : z_C X b_P_load 7 "NodalAuction$Program" Ω) (hA : z_hA X A) (hR : z_R X (some .boolean)) (hM : z_rmOf X = z_rm 3 71) (n : Nat) (r : Int32 × z_S) : ∀ (q : Nat) (x4 : Int32) (x5 : Int32) (S : z_S), f_P_load_45 n q x4 x5 S = some r → z_At X A (z_QI X Ω A r.1 (wN Ω r.2)) Ω 0 0 7 45 [(0, .ref (Ω.2.2 4)), (1, .ref (Ω.2.2 1)), (2, .ref (Ω.2.2 2)), (4, .int x4), (5, .int x5)] [] (wN Ω S) := by
  intro q
  induction q with
  | zero => intro x4 x5 S h; cases h
  | succ q ih =>
    intro x4 x5 S h
    refine z_iload 4 rfl hC d_P_load_45 (q := 47) rfl ?_
    refine z_aload_n rfl 1 rfl hC d_P_load_47 (q := 48) rfl ?_
    refine gf_P_61_1 hC d_P_load_48 (q := 51) rfl ?_
    refine z_icmp_ge (tgt := 86) (q := 54) hC d_P_load_51 rfl rfl (fun hb => ?_) (fun hb => ?_)
    · have h := (if_pos hb).symm.trans h
      refine z_aload_n rfl 0 rfl hC d_P_load_86 (q := 87) rfl ?_
      refine z_aload_n rfl 1 rfl hC d_P_load_87 (q := 88) rfl ?_
      refine gf_P_61_1 hC d_P_load_88 (q := 91) rfl ?_
      refine z_bipush (v := (8 : Int32)) (by decide) hC d_P_load_91 (q := 93) rfl ?_
      refine z_iconst (v := (0 : Int32)) (by decide) hC d_P_load_93 (q := 94) rfl ?_
      refine z_iload 3 rfl hC d_P_load_94 (q := 96) rfl ?_
      obtain ⟨v96, S96, hc96, h⟩ := bo_some h
      refine z_callVv (q0 := 4) (As := [.int (gF S 0), .int (8 : Int32), .int (0 : Int32), .int x4]) hC hA (c_P_placeRow (z_lOf X) Ω n (gF S 0) (8 : Int32) (0 : Int32) x4 S (v96, S96) hc96) k_268 k_265 k_267 ks_12 k_4 h_P_placeRow (by rw [hM]; exact ⟨Nat.le_of_ble_eq_true rfl, Nat.le_of_ble_eq_true rfl⟩) ⟨Nat.zero_le _, Nat.zero_le _⟩ rfl rfl rfl (Nat.le_of_ble_eq_true rfl) rfl d_P_load_96 (q := 99) rfl ?_
      refine z_aload_n rfl 0 rfl hC d_P_load_99 (q := 100) rfl ?_
      refine z_aload_n rfl 1 rfl hC d_P_load_100 (q := 101) rfl ?_
      refine gf_P_61_1 hC d_P_load_101 (q := 104) rfl ?_
      refine z_iconst (v := (1 : Int32)) (by decide) hC d_P_load_104 (q := 105) rfl ?_
      refine z_iadd hC d_P_load_105 (q := 106) rfl ?_
      refine z_bipush (v := (15 : Int32)) (by decide) hC d_P_load_106 (q := 108) rfl ?_
      refine z_iconst (v := (0 : Int32)) (by decide) hC d_P_load_108 (q := 109) rfl ?_
      refine z_iconst (v := (0 : Int32)) (by decide) hC d_P_load_109 (q := 110) rfl ?_
      obtain ⟨v110, S110, hc110, h⟩ := bo_some h
      refine z_callVv (q0 := 4) (As := [.int ((gF S96 0) + (1 : Int32)), .int (15 : Int32), .int (0 : Int32), .int (0 : Int32)]) hC hA (c_P_placeRow (z_lOf X) Ω n ((gF S96 0) + (1 : Int32)) (15 : Int32) (0 : Int32) (0 : Int32) S96 (v110, S110) hc110) k_268 k_265 k_267 ks_12 k_4 h_P_placeRow (by rw [hM]; exact ⟨Nat.le_of_ble_eq_true rfl, Nat.le_of_ble_eq_true rfl⟩) ⟨Nat.zero_le _, Nat.zero_le _⟩ rfl rfl rfl (Nat.le_of_ble_eq_true rfl) rfl d_P_load_110 (q := 113) rfl ?_
      refine z_iconst (v := (0 : Int32)) (by decide) hC d_P_load_113 (q := 114) rfl ?_
      refine z_istore (lv' := [(5, .int (0 : Int32)), (0, .ref (Ω.2.2 4)), (1, .ref (Ω.2.2 1)), (2, .ref (Ω.2.2 2)), (4, .int x4)]) (by decide) rfl hC d_P_load_114 (q := 116) rfl ?_
      refine z_sub [1, 2, 3, 0] rfl ?_
      exact w_P_load_116 hC hA hR hM n r n (0 : Int32) S110 h
    · have h := (if_neg hb).symm.trans h
      refine z_aload_n rfl 0 rfl hC d_P_load_54 (q := 55) rfl ?_
      refine z_iload 4 rfl hC d_P_load_55 (q := 57) rfl ?_
      refine z_bipush (v := (9 : Int32)) (by decide) hC d_P_load_57 (q := 59) rfl ?_
      refine z_iload 4 rfl hC d_P_load_59 (q := 61) rfl ?_
      refine z_iadd hC d_P_load_61 (q := 62) rfl ?_
      refine z_aload_n rfl 1 rfl hC d_P_load_62 (q := 63) rfl ?_
      refine gf_P_62_1 hC d_P_load_63 (q := 66) rfl ?_
      refine z_iload 4 rfl hC d_P_load_66 (q := 68) rfl ?_
      obtain ⟨hv1, h⟩ := ck_some h
      refine al_wN_10 hC hv1 d_P_load_68 (q := 69) rfl ?_
      refine z_ineg hC d_P_load_69 (q := 70) rfl ?_
      refine z_aload_n rfl 1 rfl hC d_P_load_70 (q := 71) rfl ?_
      refine gf_P_62_1 hC d_P_load_71 (q := 74) rfl ?_
      refine z_iload 4 rfl hC d_P_load_74 (q := 76) rfl ?_
      obtain ⟨hv2, h⟩ := ck_some h
      refine al_wN_10 hC hv2 d_P_load_76 (q := 77) rfl ?_
      obtain ⟨v77, S77, hc77, h⟩ := bo_some h
      refine z_callVv (q0 := 4) (As := [.int x5, .int ((9 : Int32) + x5), .int (-(gI S 4 x5.toNatClampNeg)), .int (gI S 4 x5.toNatClampNeg)]) hC hA (c_P_placeRow (z_lOf X) Ω n x5 ((9 : Int32) + x5) (-(gI S 4 x5.toNatClampNeg)) (gI S 4 x5.toNatClampNeg) S (v77, S77) hc77) k_268 k_265 k_267 ks_12 k_4 h_P_placeRow (by rw [hM]; exact ⟨Nat.le_of_ble_eq_true rfl, Nat.le_of_ble_eq_true rfl⟩) ⟨Nat.zero_le _, Nat.zero_le _⟩ rfl rfl rfl (Nat.le_of_ble_eq_true rfl) rfl d_P_load_77 (q := 80) rfl ?_
      refine z_iinc (lv' := [(5, .int (x5 + (1 : Int32))), (0, .ref (Ω.2.2 4)), (1, .ref (Ω.2.2 1)), (2, .ref (Ω.2.2 2)), (4, .int x4)]) 4 rfl rfl (by decide) rfl hC d_P_load_80 (q := 83) rfl ?_
      refine z_goto (tgt := 45) hC d_P_load_83 rfl ?_
      refine z_sub [1, 2, 3, 4, 0] rfl ?_
      exact ih x4 (x5 + (1 : Int32)) S77 h
set_option maxRecDepth 20000 in
theorem w_P_load_42 {X : z_X} {A : Nat → Prop} {Ω : z_O} (hC : z_C X b_P_load 7 "NodalAuction$Program" Ω) (hA : z_hA X A) (hR : z_R X (some .boolean)) (hM : z_rmOf X = z_rm 3 71) (n : Nat) (r : Int32 × z_S) (x4 : Int32) (S : z_S) (h : f_P_load_42 n x4 S = some r) : z_At X A (z_QI X Ω A r.1 (wN Ω r.2)) Ω 0 0 7 42 [(0, .ref (Ω.2.2 4)), (1, .ref (Ω.2.2 1)), (2, .ref (Ω.2.2 2)), (4, .int x4)] [] (wN Ω S) := by
  refine z_iconst (v := (0 : Int32)) (by decide) hC d_P_load_42 (q := 43) rfl ?_
  refine z_istore (lv' := [(5, .int (0 : Int32)), (0, .ref (Ω.2.2 4)), (1, .ref (Ω.2.2 1)), (2, .ref (Ω.2.2 2)), (4, .int x4)]) (by decide) rfl hC d_P_load_43 (q := 45) rfl ?_
  refine z_sub [1, 2, 3, 4, 0] rfl ?_
  exact w_P_load_45 hC hA hR hM n r n x4 (0 : Int32) S h
set_option maxRecDepth 20000 in
theorem w_P_load {X : z_X} {A : Nat → Prop} {Ω : z_O} (hC : z_C X b_P_load 7 "NodalAuction$Program" Ω) (hA : z_hA X A) (hR : z_R X (some .boolean)) (hM : z_rmOf X = z_rm 3 71) (n : Nat) (r : Int32 × z_S) (x3 : Int32) (x4 : Int32) (S : z_S) (h : f_P_load n x3 x4 S = some r) : z_At X A (z_QI X Ω A r.1 (wN Ω r.2)) Ω 0 0 7 0 [(0, .ref (Ω.2.2 4)), (1, .ref (Ω.2.2 1)), (2, .ref (Ω.2.2 2)), (3, .int x3), (4, .int x4)] [] (wN Ω S) := by
  refine z_aload_n rfl 1 rfl hC d_P_load_0 (q := 1) rfl ?_
  refine z_iload_n rfl 3 rfl hC d_P_load_1 (q := 2) rfl ?_
  obtain ⟨v2, S2, hc2, h⟩ := bo_some h
  refine z_callVNv (q0 := 1) (As := [.int x3]) hC hA (c_G_ground (z_lOf X) Ω n x3 S (v2, S2) hc2) k_253 k_250 k_252 ks_9 k_2 h_G_ground (by rw [hM]; exact ⟨Nat.le_of_ble_eq_true rfl, Nat.le_of_ble_eq_true rfl⟩) ⟨Nat.zero_le _, Nat.zero_le _⟩ rfl rfl rfl (Nat.le_of_ble_eq_true rfl) rfl d_P_load_2 (q := 5) rfl ?_
  refine z_aload_n rfl 1 rfl hC d_P_load_5 (q := 6) rfl ?_
  refine gf_P_53_1 hC d_P_load_6 (q := 9) rfl ?_
  refine z_lconst (v := (0 : Int64)) (by decide) hC d_P_load_9 (q := 10) rfl ?_
  refine z_lcmp_gt (pc1 := 11) (tgt := 16) (q := 14) hC d_P_load_10 rfl d_P_load_11 rfl rfl (fun hb => ?_) (fun hb => ?_)
  · have h := (if_pos hb).symm.trans h
    refine z_aload_n rfl 0 rfl hC d_P_load_16 (q := 17) rfl ?_
    refine z_aload_n rfl 1 rfl hC d_P_load_17 (q := 18) rfl ?_
    refine gf_P_53_1 hC d_P_load_18 (q := 21) rfl ?_
    refine pf_P_43_4 hC d_P_load_21 (q := 24) rfl ?_
    refine z_aload_n rfl 0 rfl hC d_P_load_24 (q := 25) rfl ?_
    refine z_aload_n rfl 2 rfl hC d_P_load_25 (q := 26) rfl ?_
    refine gf_P_56_2 hC d_P_load_26 (q := 29) rfl ?_
    refine pf_P_40_4 hC d_P_load_29 (q := 32) rfl ?_
    refine z_aload_n rfl 0 rfl hC d_P_load_32 (q := 33) rfl ?_
    refine z_aload_n rfl 1 rfl hC d_P_load_33 (q := 34) rfl ?_
    refine gf_P_61_1 hC d_P_load_34 (q := 37) rfl ?_
    refine z_iconst (v := (2 : Int32)) (by decide) hC d_P_load_37 (q := 38) rfl ?_
    refine z_iadd hC d_P_load_38 (q := 39) rfl ?_
    refine pf_P_36_4 hC d_P_load_39 (q := 42) rfl ?_
    refine z_sub [0, 1, 2, 4] rfl ?_
    exact w_P_load_42 hC hA hR hM n r x4 (sF (sF (sG S2 1 (gG S2 0)) 4 (gF (sG S2 1 (gG S2 0)) 1)) 3 ((gF (sF (sG S2 1 (gG S2 0)) 4 (gF (sG S2 1 (gG S2 0)) 1)) 0) + (2 : Int32))) h
  · have h := (if_neg hb).symm.trans h
    refine z_iconst (v := (0 : Int32)) (by decide) hC d_P_load_14 (q := 15) rfl ?_
    cases h
    exact z_zret hC hR (by decide) rfl rfl d_P_load_15
theorem c_P_load (l : Launch) (Ω : z_O) (n : Nat) (x3 : Int32) (x4 : Int32) (S : z_S) (r : Int32 × z_S) (h : f_P_load n x3 x4 S = some r) : z_MI l Ω y_P_load b_P_load 7 .boolean 3 71 [.ref (Ω.2.2 4), .ref (Ω.2.2 1), .ref (Ω.2.2 2), .int x3, .int x4] (wN Ω S) r.1 (wN Ω r.2) := z_introI (by decide +kernel) (Nat.le_of_ble_eq_true rfl) rfl (fun X A hC hA hR _ hM => w_P_load hC hA hR hM n r x3 x4 S h)
def f_P_load_p_182 (n : Nat) (k116 : Int32 → z_S → Option (Int32 × z_S)) (k141 : Int32 → Int32 → z_S → Option (Int32 × z_S)) (x5 : Int32) (x6 : Int32) (S : z_S) : Option (Int32 × z_S) := k141 x5 (x6 + (1 : Int32)) S
def f_P_load_p_249 (n : Nat) (k116 : Int32 → z_S → Option (Int32 × z_S)) (x5 : Int32) (S : z_S) : Option (Int32 × z_S) := k116 (x5 + (1 : Int32)) S
def f_P_load_p_214 (n : Nat) (k116 : Int32 → z_S → Option (Int32 × z_S)) (x5 : Int32) (S : z_S) : Option (Int32 × z_S) := ck (vi ((gF S 0) + (1 : Int32)) 8) (ck (vi x5 8) (ck (vi x5 8) (ck (vi x5 8) (f_P_load_p_249 n k116 x5 (sJ S (8 + ((gF S 0) + (1 : Int32)).toNatClampNeg) (vp_updL (gJ S (8 + ((gF S 0) + (1 : Int32)).toNatClampNeg)) x5.toNatClampNeg ((((gI S 9 x5.toNatClampNeg) * (gI S 11 x5.toNatClampNeg)).toInt64) * (gG S 1))))))))
def f_P_load_p_141 (n : Nat) (k116 : Int32 → z_S → Option (Int32 × z_S)) : Nat → Int32 → Int32 → z_S → Option (Int32 × z_S)
  | 0, _, _, _ => none
  | q + 1, x5, x6, S => (if (gF S 0) ≤ x6 then ck (vi (gF S 0) 8) (ck (vi x5 8) (ck (vi x5 8) (f_P_load_p_214 n k116 x5 (sJ S (8 + (gF S 0).toNatClampNeg) (vp_updL (gJ S (8 + (gF S 0).toNatClampNeg)) x5.toNatClampNeg (((-(gI S 9 x5.toNatClampNeg)).toInt64) * (gG S 1))))))) else ck (vi x6 8) (ck (vi x5 8) (ck (vi x5 8) (bo (f_G_share n x6 (gI S 10 x5.toNatClampNeg) S) (fun v177 S177 => ck (vi x5 8) (f_P_load_p_182 n k116 (f_P_load_p_141 n k116 q) x5 x6 (sJ S177 (8 + x6.toNatClampNeg) (vp_updL (gJ S177 (8 + x6.toNatClampNeg)) x5.toNatClampNeg (((gI S 9 x5.toNatClampNeg).toInt64) * v177)))))))))
def f_P_load_p_116 (n : Nat) : Nat → Int32 → z_S → Option (Int32 × z_S)
  | 0, _, _ => none
  | q + 1, x5, S => (if (gF S 4) ≤ x5 then some ((1 : Int32), S) else ck (vi x5 8) (bo (f_P_placeColumn n x5 (gI S 12 x5.toNatClampNeg) S) (fun _ S135 => f_P_load_p_141 n (f_P_load_p_116 n q) n x5 (0 : Int32) S135)))
def f_P_load_p_45 (n : Nat) : Nat → Int32 → Int32 → z_S → Option (Int32 × z_S)
  | 0, _, _, _ => none
  | q + 1, x4, x5, S => (if (gF S 0) ≤ x5 then bo (f_P_placeRow n (gF S 0) (8 : Int32) (0 : Int32) x4 S) (fun _ S96 => bo (f_P_placeRow n ((gF S96 0) + (1 : Int32)) (15 : Int32) (0 : Int32) (0 : Int32) S96) (fun _ S110 => f_P_load_p_116 n n (0 : Int32) S110)) else ck (vi x5 6) (ck (vi x5 6) (bo (f_P_placeRow n x5 ((9 : Int32) + x5) (-(gI S 4 x5.toNatClampNeg)) (gI S 4 x5.toNatClampNeg) S) (fun _ S77 => f_P_load_p_45 n q x4 (x5 + (1 : Int32)) S77))))
def f_P_load_p_42 (n : Nat) (x4 : Int32) (S : z_S) : Option (Int32 × z_S) := f_P_load_p_45 n n x4 (0 : Int32) S
def f_P_load_p (n : Nat) (x3 : Int32) (x4 : Int32) (S : z_S) : Option (Int32 × z_S) := bo (f_G_ground n x3 S) (fun _ S2 => (if (0 : Int64) < (gG S2 0) then f_P_load_p_42 n x4 (sF (sF (sG S2 1 (gG S2 0)) 4 (gF (sG S2 1 (gG S2 0)) 2)) 3 ((gF (sF (sG S2 1 (gG S2 0)) 4 (gF (sG S2 1 (gG S2 0)) 2)) 0) + (2 : Int32))) else some ((0 : Int32), S2)))
set_option maxRecDepth 20000 in
theorem w_P_load_p_182 {X : z_X} {A : Nat → Prop} {Ω : z_O} (hC : z_C X b_P_load 7 "NodalAuction$Program" Ω) (hA : z_hA X A) (hR : z_R X (some .boolean)) (hM : z_rmOf X = z_rm 3 71) (n : Nat) (r : Int32 × z_S) (k116 : Int32 → z_S → Option (Int32 × z_S)) (k141 : Int32 → Int32 → z_S → Option (Int32 × z_S)) (hk116 : ∀ (x5 : Int32) (S : z_S), k116 x5 S = some r → z_At X A (z_QI X Ω A r.1 (wN Ω r.2)) Ω 0 0 7 116 [(0, .ref (Ω.2.2 4)), (1, .ref (Ω.2.2 1)), (2, .ref (Ω.2.2 3)), (5, .int x5)] [] (wN Ω S)) (hk141 : ∀ (x5 : Int32) (x6 : Int32) (S : z_S), k141 x5 x6 S = some r → z_At X A (z_QI X Ω A r.1 (wN Ω r.2)) Ω 0 0 7 141 [(0, .ref (Ω.2.2 4)), (1, .ref (Ω.2.2 1)), (2, .ref (Ω.2.2 3)), (5, .int x5), (6, .int x6)] [] (wN Ω S)) (x5 : Int32) (x6 : Int32) (S : z_S) (h : f_P_load_p_182 n k116 k141 x5 x6 S = some r) : z_At X A (z_QI X Ω A r.1 (wN Ω r.2)) Ω 0 0 7 182 [(0, .ref (Ω.2.2 4)), (1, .ref (Ω.2.2 1)), (2, .ref (Ω.2.2 3)), (5, .int x5), (6, .int x6)] [] (wN Ω S) := by
  refine z_iinc (lv' := [(6, .int (x6 + (1 : Int32))), (0, .ref (Ω.2.2 4)), (1, .ref (Ω.2.2 1)), (2, .ref (Ω.2.2 3)), (5, .int x5)]) 4 rfl rfl (by decide) rfl hC d_P_load_182 (q := 185) rfl ?_
  refine z_goto (tgt := 141) hC d_P_load_185 rfl ?_
  refine z_sub [1, 2, 3, 4, 0] rfl ?_
  exact hk141 x5 (x6 + (1 : Int32)) S h
set_option maxRecDepth 20000 in
theorem w_P_load_p_249 {X : z_X} {A : Nat → Prop} {Ω : z_O} (hC : z_C X b_P_load 7 "NodalAuction$Program" Ω) (hA : z_hA X A) (hR : z_R X (some .boolean)) (hM : z_rmOf X = z_rm 3 71) (n : Nat) (r : Int32 × z_S) (k116 : Int32 → z_S → Option (Int32 × z_S)) (hk116 : ∀ (x5 : Int32) (S : z_S), k116 x5 S = some r → z_At X A (z_QI X Ω A r.1 (wN Ω r.2)) Ω 0 0 7 116 [(0, .ref (Ω.2.2 4)), (1, .ref (Ω.2.2 1)), (2, .ref (Ω.2.2 3)), (5, .int x5)] [] (wN Ω S)) (x5 : Int32) (S : z_S) (h : f_P_load_p_249 n k116 x5 S = some r) : z_At X A (z_QI X Ω A r.1 (wN Ω r.2)) Ω 0 0 7 249 [(0, .ref (Ω.2.2 4)), (1, .ref (Ω.2.2 1)), (2, .ref (Ω.2.2 3)), (5, .int x5)] [] (wN Ω S) := by
  refine z_iinc (lv' := [(5, .int (x5 + (1 : Int32))), (0, .ref (Ω.2.2 4)), (1, .ref (Ω.2.2 1)), (2, .ref (Ω.2.2 3))]) 3 rfl rfl (by decide) rfl hC d_P_load_249 (q := 252) rfl ?_
  refine z_goto (tgt := 116) hC d_P_load_252 rfl ?_
  refine z_sub [1, 2, 3, 0] rfl ?_
  exact hk116 (x5 + (1 : Int32)) S h
set_option maxRecDepth 20000 in
theorem w_P_load_p_214 {X : z_X} {A : Nat → Prop} {Ω : z_O} (hC : z_C X b_P_load 7 "NodalAuction$Program" Ω) (hA : z_hA X A) (hR : z_R X (some .boolean)) (hM : z_rmOf X = z_rm 3 71) (n : Nat) (r : Int32 × z_S) (k116 : Int32 → z_S → Option (Int32 × z_S)) (hk116 : ∀ (x5 : Int32) (S : z_S), k116 x5 S = some r → z_At X A (z_QI X Ω A r.1 (wN Ω r.2)) Ω 0 0 7 116 [(0, .ref (Ω.2.2 4)), (1, .ref (Ω.2.2 1)), (2, .ref (Ω.2.2 3)), (5, .int x5)] [] (wN Ω S)) (x5 : Int32) (S : z_S) (h : f_P_load_p_214 n k116 x5 S = some r) : z_At X A (z_QI X Ω A r.1 (wN Ω r.2)) Ω 0 0 7 214 [(0, .ref (Ω.2.2 4)), (1, .ref (Ω.2.2 1)), (2, .ref (Ω.2.2 3)), (5, .int x5)] [] (wN Ω S) := by
  refine z_aload_n rfl 0 rfl hC d_P_load_214 (q := 215) rfl ?_
  refine gf_P_11_4 hC d_P_load_215 (q := 218) rfl ?_
  refine z_aload_n rfl 1 rfl hC d_P_load_218 (q := 219) rfl ?_
  refine gf_P_61_1 hC d_P_load_219 (q := 222) rfl ?_
  refine z_iconst (v := (1 : Int32)) (by decide) hC d_P_load_222 (q := 223) rfl ?_
  refine z_iadd hC d_P_load_223 (q := 224) rfl ?_
  obtain ⟨hv1, h⟩ := ck_some h
  refine ao_wN_21 hC hv1 d_P_load_224 (q := 225) rfl ?_
  refine z_iload 3 rfl hC d_P_load_225 (q := 227) rfl ?_
  refine z_aload_n rfl 2 rfl hC d_P_load_227 (q := 228) rfl ?_
  refine gf_P_76_3 hC d_P_load_228 (q := 231) rfl ?_
  refine z_iload 3 rfl hC d_P_load_231 (q := 233) rfl ?_
  obtain ⟨hv2, h⟩ := ck_some h
  refine al_wN_17 hC hv2 d_P_load_233 (q := 234) rfl ?_
  refine z_aload_n rfl 2 rfl hC d_P_load_234 (q := 235) rfl ?_
  refine gf_P_86_3 hC d_P_load_235 (q := 238) rfl ?_
  refine z_iload 3 rfl hC d_P_load_238 (q := 240) rfl ?_
  obtain ⟨hv3, h⟩ := ck_some h
  refine al_wN_19 hC hv3 d_P_load_240 (q := 241) rfl ?_
  refine z_imul hC d_P_load_241 (q := 242) rfl ?_
  refine z_i2l hC d_P_load_242 (q := 243) rfl ?_
  refine z_aload_n rfl 0 rfl hC d_P_load_243 (q := 244) rfl ?_
  refine gf_P_43_4 hC d_P_load_244 (q := 247) rfl ?_
  refine z_lmul hC d_P_load_247 (q := 248) rfl ?_
  obtain ⟨hv4, h⟩ := ck_some h
  refine sr_38 hC hv1 hv4 d_P_load_248 (q := 249) rfl ?_
  exact w_P_load_p_249 hC hA hR hM n r k116 hk116 x5 (sJ S (8 + ((gF S 0) + (1 : Int32)).toNatClampNeg) (vp_updL (gJ S (8 + ((gF S 0) + (1 : Int32)).toNatClampNeg)) x5.toNatClampNeg ((((gI S 9 x5.toNatClampNeg) * (gI S 11 x5.toNatClampNeg)).toInt64) * (gG S 1)))) h
set_option maxRecDepth 20000 in
theorem w_P_load_p_141 {X : z_X} {A : Nat → Prop} {Ω : z_O} (hC : z_C X b_P_load 7 "NodalAuction$Program" Ω) (hA : z_hA X A) (hR : z_R X (some .boolean)) (hM : z_rmOf X = z_rm 3 71) (n : Nat) (r : Int32 × z_S) (k116 : Int32 → z_S → Option (Int32 × z_S)) (hk116 : ∀ (x5 : Int32) (S : z_S), k116 x5 S = some r → z_At X A (z_QI X Ω A r.1 (wN Ω r.2)) Ω 0 0 7 116 [(0, .ref (Ω.2.2 4)), (1, .ref (Ω.2.2 1)), (2, .ref (Ω.2.2 3)), (5, .int x5)] [] (wN Ω S)) : ∀ (q : Nat) (x5 : Int32) (x6 : Int32) (S : z_S), f_P_load_p_141 n k116 q x5 x6 S = some r → z_At X A (z_QI X Ω A r.1 (wN Ω r.2)) Ω 0 0 7 141 [(0, .ref (Ω.2.2 4)), (1, .ref (Ω.2.2 1)), (2, .ref (Ω.2.2 3)), (5, .int x5), (6, .int x6)] [] (wN Ω S) := by
  intro q
  induction q with
  | zero => intro x5 x6 S h; cases h
  | succ q ih =>
    intro x5 x6 S h
    refine z_iload 4 rfl hC d_P_load_141 (q := 143) rfl ?_
    refine z_aload_n rfl 1 rfl hC d_P_load_143 (q := 144) rfl ?_
    refine gf_P_61_1 hC d_P_load_144 (q := 147) rfl ?_
    refine z_icmp_ge (tgt := 188) (q := 150) hC d_P_load_147 rfl rfl (fun hb => ?_) (fun hb => ?_)
    · have h := (if_pos hb).symm.trans h
      refine z_aload_n rfl 0 rfl hC d_P_load_188 (q := 189) rfl ?_
      refine gf_P_11_4 hC d_P_load_189 (q := 192) rfl ?_
      refine z_aload_n rfl 1 rfl hC d_P_load_192 (q := 193) rfl ?_
      refine gf_P_61_1 hC d_P_load_193 (q := 196) rfl ?_
      obtain ⟨hv1, h⟩ := ck_some h
      refine ao_wN_21 hC hv1 d_P_load_196 (q := 197) rfl ?_
      refine z_iload 3 rfl hC d_P_load_197 (q := 199) rfl ?_
      refine z_aload_n rfl 2 rfl hC d_P_load_199 (q := 200) rfl ?_
      refine gf_P_76_3 hC d_P_load_200 (q := 203) rfl ?_
      refine z_iload 3 rfl hC d_P_load_203 (q := 205) rfl ?_
      obtain ⟨hv2, h⟩ := ck_some h
      refine al_wN_17 hC hv2 d_P_load_205 (q := 206) rfl ?_
      refine z_ineg hC d_P_load_206 (q := 207) rfl ?_
      refine z_i2l hC d_P_load_207 (q := 208) rfl ?_
      refine z_aload_n rfl 0 rfl hC d_P_load_208 (q := 209) rfl ?_
      refine gf_P_43_4 hC d_P_load_209 (q := 212) rfl ?_
      refine z_lmul hC d_P_load_212 (q := 213) rfl ?_
      obtain ⟨hv3, h⟩ := ck_some h
      refine sr_38 hC hv1 hv3 d_P_load_213 (q := 214) rfl ?_
      refine z_sub [0, 1, 2, 3] rfl ?_
      exact w_P_load_p_214 hC hA hR hM n r k116 hk116 x5 (sJ S (8 + (gF S 0).toNatClampNeg) (vp_updL (gJ S (8 + (gF S 0).toNatClampNeg)) x5.toNatClampNeg (((-(gI S 9 x5.toNatClampNeg)).toInt64) * (gG S 1)))) h
    · have h := (if_neg hb).symm.trans h
      refine z_aload_n rfl 0 rfl hC d_P_load_150 (q := 151) rfl ?_
      refine gf_P_11_4 hC d_P_load_151 (q := 154) rfl ?_
      refine z_iload 4 rfl hC d_P_load_154 (q := 156) rfl ?_
      obtain ⟨hv1, h⟩ := ck_some h
      refine ao_wN_21 hC hv1 d_P_load_156 (q := 157) rfl ?_
      refine z_iload 3 rfl hC d_P_load_157 (q := 159) rfl ?_
      refine z_aload_n rfl 2 rfl hC d_P_load_159 (q := 160) rfl ?_
      refine gf_P_76_3 hC d_P_load_160 (q := 163) rfl ?_
      refine z_iload 3 rfl hC d_P_load_163 (q := 165) rfl ?_
      obtain ⟨hv2, h⟩ := ck_some h
      refine al_wN_17 hC hv2 d_P_load_165 (q := 166) rfl ?_
      refine z_i2l hC d_P_load_166 (q := 167) rfl ?_
      refine z_aload_n rfl 1 rfl hC d_P_load_167 (q := 168) rfl ?_
      refine z_iload 4 rfl hC d_P_load_168 (q := 170) rfl ?_
      refine z_aload_n rfl 2 rfl hC d_P_load_170 (q := 171) rfl ?_
      refine gf_P_79_3 hC d_P_load_171 (q := 174) rfl ?_
      refine z_iload 3 rfl hC d_P_load_174 (q := 176) rfl ?_
      obtain ⟨hv3, h⟩ := ck_some h
      refine al_wN_18 hC hv3 d_P_load_176 (q := 177) rfl ?_
      obtain ⟨v177, S177, hc177, h⟩ := bo_some h
      refine z_callVNl (q0 := 1) (As := [.int x6, .int (gI S 10 x5.toNatClampNeg)]) hC hA (c_G_share (z_lOf X) Ω n x6 (gI S 10 x5.toNatClampNeg) S (v177, S177) hc177) k_276 k_273 k_275 ks_14 k_2 h_G_share (by rw [hM]; exact ⟨Nat.le_of_ble_eq_true rfl, Nat.le_of_ble_eq_true rfl⟩) ⟨Nat.zero_le _, Nat.zero_le _⟩ rfl rfl rfl (Nat.le_of_ble_eq_true rfl) rfl d_P_load_177 (q := 180) rfl ?_
      refine z_lmul hC d_P_load_180 (q := 181) rfl ?_
      obtain ⟨hv4, h⟩ := ck_some h
      refine sr_38 hC hv1 hv4 d_P_load_181 (q := 182) rfl ?_
      exact w_P_load_p_182 hC hA hR hM n r k116 (f_P_load_p_141 n k116 q) hk116 ih x5 x6 (sJ S177 (8 + x6.toNatClampNeg) (vp_updL (gJ S177 (8 + x6.toNatClampNeg)) x5.toNatClampNeg (((gI S 9 x5.toNatClampNeg).toInt64) * v177))) h
set_option maxRecDepth 20000 in
theorem w_P_load_p_116 {X : z_X} {A : Nat → Prop} {Ω : z_O} (hC : z_C X b_P_load 7 "NodalAuction$Program" Ω) (hA : z_hA X A) (hR : z_R X (some .boolean)) (hM : z_rmOf X = z_rm 3 71) (n : Nat) (r : Int32 × z_S) : ∀ (q : Nat) (x5 : Int32) (S : z_S), f_P_load_p_116 n q x5 S = some r → z_At X A (z_QI X Ω A r.1 (wN Ω r.2)) Ω 0 0 7 116 [(0, .ref (Ω.2.2 4)), (1, .ref (Ω.2.2 1)), (2, .ref (Ω.2.2 3)), (5, .int x5)] [] (wN Ω S) := by
  intro q
  induction q with
  | zero => intro x5 S h; cases h
  | succ q ih =>
    intro x5 S h
    refine z_iload 3 rfl hC d_P_load_116 (q := 118) rfl ?_
    refine z_aload_n rfl 0 rfl hC d_P_load_118 (q := 119) rfl ?_
    refine gf_P_40_4 hC d_P_load_119 (q := 122) rfl ?_
    refine z_icmp_ge (tgt := 255) (q := 125) hC d_P_load_122 rfl rfl (fun hb => ?_) (fun hb => ?_)
    · have h := (if_pos hb).symm.trans h
      refine z_iconst (v := (1 : Int32)) (by decide) hC d_P_load_255 (q := 256) rfl ?_
      cases h
      exact z_zret hC hR (by decide) rfl rfl d_P_load_256
    · have h := (if_neg hb).symm.trans h
      refine z_aload_n rfl 0 rfl hC d_P_load_125 (q := 126) rfl ?_
      refine z_iload 3 rfl hC d_P_load_126 (q := 128) rfl ?_
      refine z_aload_n rfl 2 rfl hC d_P_load_128 (q := 129) rfl ?_
      refine gf_P_69_3 hC d_P_load_129 (q := 132) rfl ?_
      refine z_iload 3 rfl hC d_P_load_132 (q := 134) rfl ?_
      obtain ⟨hv1, h⟩ := ck_some h
      refine al_wN_20 hC hv1 d_P_load_134 (q := 135) rfl ?_
      obtain ⟨v135, S135, hc135, h⟩ := bo_some h
      refine z_callVv (q0 := 4) (As := [.int x5, .int (gI S 12 x5.toNatClampNeg)]) hC hA (c_P_placeColumn (z_lOf X) Ω n x5 (gI S 12 x5.toNatClampNeg) S (v135, S135) hc135) k_272 k_269 k_271 ks_13 k_4 h_P_placeColumn (by rw [hM]; exact ⟨Nat.le_of_ble_eq_true rfl, Nat.le_of_ble_eq_true rfl⟩) ⟨Nat.zero_le _, Nat.zero_le _⟩ rfl rfl rfl (Nat.le_of_ble_eq_true rfl) rfl d_P_load_135 (q := 138) rfl ?_
      refine z_iconst (v := (0 : Int32)) (by decide) hC d_P_load_138 (q := 139) rfl ?_
      refine z_istore (lv' := [(6, .int (0 : Int32)), (0, .ref (Ω.2.2 4)), (1, .ref (Ω.2.2 1)), (2, .ref (Ω.2.2 3)), (5, .int x5)]) (by decide) rfl hC d_P_load_139 (q := 141) rfl ?_
      refine z_sub [1, 2, 3, 4, 0] rfl ?_
      exact w_P_load_p_141 hC hA hR hM n r (f_P_load_p_116 n q) ih n x5 (0 : Int32) S135 h
set_option maxRecDepth 20000 in
theorem w_P_load_p_45 {X : z_X} {A : Nat → Prop} {Ω : z_O} (hC : z_C X b_P_load 7 "NodalAuction$Program" Ω) (hA : z_hA X A) (hR : z_R X (some .boolean)) (hM : z_rmOf X = z_rm 3 71) (n : Nat) (r : Int32 × z_S) : ∀ (q : Nat) (x4 : Int32) (x5 : Int32) (S : z_S), f_P_load_p_45 n q x4 x5 S = some r → z_At X A (z_QI X Ω A r.1 (wN Ω r.2)) Ω 0 0 7 45 [(0, .ref (Ω.2.2 4)), (1, .ref (Ω.2.2 1)), (2, .ref (Ω.2.2 3)), (4, .int x4), (5, .int x5)] [] (wN Ω S) := by
  intro q
  induction q with
  | zero => intro x4 x5 S h; cases h
  | succ q ih =>
    intro x4 x5 S h
    refine z_iload 4 rfl hC d_P_load_45 (q := 47) rfl ?_
    refine z_aload_n rfl 1 rfl hC d_P_load_47 (q := 48) rfl ?_
    refine gf_P_61_1 hC d_P_load_48 (q := 51) rfl ?_
    refine z_icmp_ge (tgt := 86) (q := 54) hC d_P_load_51 rfl rfl (fun hb => ?_) (fun hb => ?_)
    · have h := (if_pos hb).symm.trans h
      refine z_aload_n rfl 0 rfl hC d_P_load_86 (q := 87) rfl ?_
      refine z_aload_n rfl 1 rfl hC d_P_load_87 (q := 88) rfl ?_
      refine gf_P_61_1 hC d_P_load_88 (q := 91) rfl ?_
      refine z_bipush (v := (8 : Int32)) (by decide) hC d_P_load_91 (q := 93) rfl ?_
      refine z_iconst (v := (0 : Int32)) (by decide) hC d_P_load_93 (q := 94) rfl ?_
      refine z_iload 3 rfl hC d_P_load_94 (q := 96) rfl ?_
      obtain ⟨v96, S96, hc96, h⟩ := bo_some h
      refine z_callVv (q0 := 4) (As := [.int (gF S 0), .int (8 : Int32), .int (0 : Int32), .int x4]) hC hA (c_P_placeRow (z_lOf X) Ω n (gF S 0) (8 : Int32) (0 : Int32) x4 S (v96, S96) hc96) k_268 k_265 k_267 ks_12 k_4 h_P_placeRow (by rw [hM]; exact ⟨Nat.le_of_ble_eq_true rfl, Nat.le_of_ble_eq_true rfl⟩) ⟨Nat.zero_le _, Nat.zero_le _⟩ rfl rfl rfl (Nat.le_of_ble_eq_true rfl) rfl d_P_load_96 (q := 99) rfl ?_
      refine z_aload_n rfl 0 rfl hC d_P_load_99 (q := 100) rfl ?_
      refine z_aload_n rfl 1 rfl hC d_P_load_100 (q := 101) rfl ?_
      refine gf_P_61_1 hC d_P_load_101 (q := 104) rfl ?_
      refine z_iconst (v := (1 : Int32)) (by decide) hC d_P_load_104 (q := 105) rfl ?_
      refine z_iadd hC d_P_load_105 (q := 106) rfl ?_
      refine z_bipush (v := (15 : Int32)) (by decide) hC d_P_load_106 (q := 108) rfl ?_
      refine z_iconst (v := (0 : Int32)) (by decide) hC d_P_load_108 (q := 109) rfl ?_
      refine z_iconst (v := (0 : Int32)) (by decide) hC d_P_load_109 (q := 110) rfl ?_
      obtain ⟨v110, S110, hc110, h⟩ := bo_some h
      refine z_callVv (q0 := 4) (As := [.int ((gF S96 0) + (1 : Int32)), .int (15 : Int32), .int (0 : Int32), .int (0 : Int32)]) hC hA (c_P_placeRow (z_lOf X) Ω n ((gF S96 0) + (1 : Int32)) (15 : Int32) (0 : Int32) (0 : Int32) S96 (v110, S110) hc110) k_268 k_265 k_267 ks_12 k_4 h_P_placeRow (by rw [hM]; exact ⟨Nat.le_of_ble_eq_true rfl, Nat.le_of_ble_eq_true rfl⟩) ⟨Nat.zero_le _, Nat.zero_le _⟩ rfl rfl rfl (Nat.le_of_ble_eq_true rfl) rfl d_P_load_110 (q := 113) rfl ?_
      refine z_iconst (v := (0 : Int32)) (by decide) hC d_P_load_113 (q := 114) rfl ?_
      refine z_istore (lv' := [(5, .int (0 : Int32)), (0, .ref (Ω.2.2 4)), (1, .ref (Ω.2.2 1)), (2, .ref (Ω.2.2 3)), (4, .int x4)]) (by decide) rfl hC d_P_load_114 (q := 116) rfl ?_
      refine z_sub [1, 2, 3, 0] rfl ?_
      exact w_P_load_p_116 hC hA hR hM n r n (0 : Int32) S110 h
    · have h := (if_neg hb).symm.trans h
      refine z_aload_n rfl 0 rfl hC d_P_load_54 (q := 55) rfl ?_
      refine z_iload 4 rfl hC d_P_load_55 (q := 57) rfl ?_
      refine z_bipush (v := (9 : Int32)) (by decide) hC d_P_load_57 (q := 59) rfl ?_
      refine z_iload 4 rfl hC d_P_load_59 (q := 61) rfl ?_
      refine z_iadd hC d_P_load_61 (q := 62) rfl ?_
      refine z_aload_n rfl 1 rfl hC d_P_load_62 (q := 63) rfl ?_
      refine gf_P_62_1 hC d_P_load_63 (q := 66) rfl ?_
      refine z_iload 4 rfl hC d_P_load_66 (q := 68) rfl ?_
      obtain ⟨hv1, h⟩ := ck_some h
      refine al_wN_10 hC hv1 d_P_load_68 (q := 69) rfl ?_
      refine z_ineg hC d_P_load_69 (q := 70) rfl ?_
      refine z_aload_n rfl 1 rfl hC d_P_load_70 (q := 71) rfl ?_
      refine gf_P_62_1 hC d_P_load_71 (q := 74) rfl ?_
      refine z_iload 4 rfl hC d_P_load_74 (q := 76) rfl ?_
      obtain ⟨hv2, h⟩ := ck_some h
      refine al_wN_10 hC hv2 d_P_load_76 (q := 77) rfl ?_
      obtain ⟨v77, S77, hc77, h⟩ := bo_some h
      refine z_callVv (q0 := 4) (As := [.int x5, .int ((9 : Int32) + x5), .int (-(gI S 4 x5.toNatClampNeg)), .int (gI S 4 x5.toNatClampNeg)]) hC hA (c_P_placeRow (z_lOf X) Ω n x5 ((9 : Int32) + x5) (-(gI S 4 x5.toNatClampNeg)) (gI S 4 x5.toNatClampNeg) S (v77, S77) hc77) k_268 k_265 k_267 ks_12 k_4 h_P_placeRow (by rw [hM]; exact ⟨Nat.le_of_ble_eq_true rfl, Nat.le_of_ble_eq_true rfl⟩) ⟨Nat.zero_le _, Nat.zero_le _⟩ rfl rfl rfl (Nat.le_of_ble_eq_true rfl) rfl d_P_load_77 (q := 80) rfl ?_
      refine z_iinc (lv' := [(5, .int (x5 + (1 : Int32))), (0, .ref (Ω.2.2 4)), (1, .ref (Ω.2.2 1)), (2, .ref (Ω.2.2 3)), (4, .int x4)]) 4 rfl rfl (by decide) rfl hC d_P_load_80 (q := 83) rfl ?_
      refine z_goto (tgt := 45) hC d_P_load_83 rfl ?_
      refine z_sub [1, 2, 3, 4, 0] rfl ?_
      exact ih x4 (x5 + (1 : Int32)) S77 h
set_option maxRecDepth 20000 in
theorem w_P_load_p_42 {X : z_X} {A : Nat → Prop} {Ω : z_O} (hC : z_C X b_P_load 7 "NodalAuction$Program" Ω) (hA : z_hA X A) (hR : z_R X (some .boolean)) (hM : z_rmOf X = z_rm 3 71) (n : Nat) (r : Int32 × z_S) (x4 : Int32) (S : z_S) (h : f_P_load_p_42 n x4 S = some r) : z_At X A (z_QI X Ω A r.1 (wN Ω r.2)) Ω 0 0 7 42 [(0, .ref (Ω.2.2 4)), (1, .ref (Ω.2.2 1)), (2, .ref (Ω.2.2 3)), (4, .int x4)] [] (wN Ω S) := by
  refine z_iconst (v := (0 : Int32)) (by decide) hC d_P_load_42 (q := 43) rfl ?_
  refine z_istore (lv' := [(5, .int (0 : Int32)), (0, .ref (Ω.2.2 4)), (1, .ref (Ω.2.2 1)), (2, .ref (Ω.2.2 3)), (4, .int x4)]) (by decide) rfl hC d_P_load_43 (q := 45) rfl ?_
  refine z_sub [1, 2, 3, 4, 0] rfl ?_
  exact w_P_load_p_45 hC hA hR hM n r n x4 (0 : Int32) S h
set_option maxRecDepth 20000 in
theorem w_P_load_p {X : z_X} {A : Nat → Prop} {Ω : z_O} (hC : z_C X b_P_load 7 "NodalAuction$Program" Ω) (hA : z_hA X A) (hR : z_R X (some .boolean)) (hM : z_rmOf X = z_rm 3 71) (n : Nat) (r : Int32 × z_S) (x3 : Int32) (x4 : Int32) (S : z_S) (h : f_P_load_p n x3 x4 S = some r) : z_At X A (z_QI X Ω A r.1 (wN Ω r.2)) Ω 0 0 7 0 [(0, .ref (Ω.2.2 4)), (1, .ref (Ω.2.2 1)), (2, .ref (Ω.2.2 3)), (3, .int x3), (4, .int x4)] [] (wN Ω S) := by
  refine z_aload_n rfl 1 rfl hC d_P_load_0 (q := 1) rfl ?_
  refine z_iload_n rfl 3 rfl hC d_P_load_1 (q := 2) rfl ?_
  obtain ⟨v2, S2, hc2, h⟩ := bo_some h
  refine z_callVNv (q0 := 1) (As := [.int x3]) hC hA (c_G_ground (z_lOf X) Ω n x3 S (v2, S2) hc2) k_253 k_250 k_252 ks_9 k_2 h_G_ground (by rw [hM]; exact ⟨Nat.le_of_ble_eq_true rfl, Nat.le_of_ble_eq_true rfl⟩) ⟨Nat.zero_le _, Nat.zero_le _⟩ rfl rfl rfl (Nat.le_of_ble_eq_true rfl) rfl d_P_load_2 (q := 5) rfl ?_
  refine z_aload_n rfl 1 rfl hC d_P_load_5 (q := 6) rfl ?_
  refine gf_P_53_1 hC d_P_load_6 (q := 9) rfl ?_
  refine z_lconst (v := (0 : Int64)) (by decide) hC d_P_load_9 (q := 10) rfl ?_
  refine z_lcmp_gt (pc1 := 11) (tgt := 16) (q := 14) hC d_P_load_10 rfl d_P_load_11 rfl rfl (fun hb => ?_) (fun hb => ?_)
  · have h := (if_pos hb).symm.trans h
    refine z_aload_n rfl 0 rfl hC d_P_load_16 (q := 17) rfl ?_
    refine z_aload_n rfl 1 rfl hC d_P_load_17 (q := 18) rfl ?_
    refine gf_P_53_1 hC d_P_load_18 (q := 21) rfl ?_
    refine pf_P_43_4 hC d_P_load_21 (q := 24) rfl ?_
    refine z_aload_n rfl 0 rfl hC d_P_load_24 (q := 25) rfl ?_
    refine z_aload_n rfl 2 rfl hC d_P_load_25 (q := 26) rfl ?_
    refine gf_P_56_3 hC d_P_load_26 (q := 29) rfl ?_
    refine pf_P_40_4 hC d_P_load_29 (q := 32) rfl ?_
    refine z_aload_n rfl 0 rfl hC d_P_load_32 (q := 33) rfl ?_
    refine z_aload_n rfl 1 rfl hC d_P_load_33 (q := 34) rfl ?_
    refine gf_P_61_1 hC d_P_load_34 (q := 37) rfl ?_
    refine z_iconst (v := (2 : Int32)) (by decide) hC d_P_load_37 (q := 38) rfl ?_
    refine z_iadd hC d_P_load_38 (q := 39) rfl ?_
    refine pf_P_36_4 hC d_P_load_39 (q := 42) rfl ?_
    refine z_sub [0, 1, 2, 4] rfl ?_
    exact w_P_load_p_42 hC hA hR hM n r x4 (sF (sF (sG S2 1 (gG S2 0)) 4 (gF (sG S2 1 (gG S2 0)) 2)) 3 ((gF (sF (sG S2 1 (gG S2 0)) 4 (gF (sG S2 1 (gG S2 0)) 2)) 0) + (2 : Int32))) h
  · have h := (if_neg hb).symm.trans h
    refine z_iconst (v := (0 : Int32)) (by decide) hC d_P_load_14 (q := 15) rfl ?_
    cases h
    exact z_zret hC hR (by decide) rfl rfl d_P_load_15
theorem c_P_load_p (l : Launch) (Ω : z_O) (n : Nat) (x3 : Int32) (x4 : Int32) (S : z_S) (r : Int32 × z_S) (h : f_P_load_p n x3 x4 S = some r) : z_MI l Ω y_P_load b_P_load 7 .boolean 3 71 [.ref (Ω.2.2 4), .ref (Ω.2.2 1), .ref (Ω.2.2 3), .int x3, .int x4] (wN Ω S) r.1 (wN Ω r.2) := z_introI (by decide +kernel) (Nat.le_of_ble_eq_true rfl) rfl (fun X A hC hA hR _ hM => w_P_load_p hC hA hR hM n r x3 x4 S h)
