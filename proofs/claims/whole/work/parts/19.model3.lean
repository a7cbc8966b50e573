def f_M_clear_124 (n : Nat) (k79 : Int64 → Int32 → z_S → Option (Int32 × z_S)) (x1 : Int64) (x3 : Int32) (S : z_S) : Option (Int32 × z_S) := ck (vi x3 6) (bo (f_M_divisor n x1 (gJ S 9 x3.toNatClampNeg) S) (fun v131 S131 => k79 v131 (x3 + (1 : Int32)) S131))
def f_M_clear_262 (n : Nat) (k161 : Int64 → Int32 → Int32 → z_S → Option (Int32 × z_S)) (x1 : Int64) (x3 : Int32) (x4 : Int32) (t1 : Int64) (S : z_S) : Option (Int32 × z_S) := k161 x1 x3 (x4 + (1 : Int32)) (sG S 5 t1)
def f_M_clear_205 (n : Nat) (k161 : Int64 → Int32 → Int32 → z_S → Option (Int32 × z_S)) (x1 : Int64) (x4 : Int32) (t0 : Int32) (S : z_S) : Option (Int32 × z_S) := ck (vi x4 8) ((if (gI S 4 x4.toNatClampNeg) = 0 then ck (vi x4 8) (ck (vi x4 8) (f_M_clear_262 n k161 x1 t0 x4 ((gG S 5) - (((gI S 6 x4.toNatClampNeg).toInt64) * (gJ S 8 x4.toNatClampNeg))) S)) else ck (vi x4 8) (ck (vi x4 8) (f_M_clear_262 n k161 x1 t0 x4 ((gG S 5) + (((gI S 6 x4.toNatClampNeg).toInt64) * (gJ S 8 x4.toNatClampNeg))) S))))
def f_M_clear_274 (n : Nat) : Nat → Int64 → Int32 → Int32 → z_S → Option (Int32 × z_S)
  | 0, _, _, _, _ => none
  | q + 1, x1, x3, x4, S => (if (gF S 0) ≤ x4 then some (x3, S) else ck (vi x4 6) (ck (vn x1) (ck (vi x4 6) (f_M_clear_274 n q x1 x3 (x4 + (1 : Int32)) (sJ S 9 (vp_updL (gJ S 9) x4.toNatClampNeg ((gJ S 9 x4.toNatClampNeg) / x1)))))))
def f_M_clear_161 (n : Nat) : Nat → Int64 → Int32 → Int32 → z_S → Option (Int32 × z_S)
  | 0, _, _, _, _ => none
  | q + 1, x1, x3, x4, S => (if (gF S 1) ≤ x4 then f_M_clear_274 n n x1 x3 (0 : Int32) S else ck (vi x4 8) (ck (vn x1) (ck (vi x4 8) (ck (vi x4 8) ((if (gJ (sJ S 8 (vp_updL (gJ S 8) x4.toNatClampNeg ((gJ S 7 x4.toNatClampNeg) / x1))) 8 x4.toNatClampNeg) ≤ (0 : Int64) then f_M_clear_205 n (f_M_clear_161 n q) x1 x4 x3 (sJ S 8 (vp_updL (gJ S 8) x4.toNatClampNeg ((gJ S 7 x4.toNatClampNeg) / x1))) else f_M_clear_205 n (f_M_clear_161 n q) x1 x4 (x3 + (1 : Int32)) (sJ S 8 (vp_updL (gJ S 8) x4.toNatClampNeg ((gJ S 7 x4.toNatClampNeg) / x1)))))))))
def f_M_clear_79 (n : Nat) : Nat → Int64 → Int32 → z_S → Option (Int32 × z_S)
  | 0, _, _, _ => none
  | q + 1, x1, x3, S => (if (gF S 0) ≤ x3 then ck (vn x1) (f_M_clear_161 n n x1 (0 : Int32) (0 : Int32) (sG (sG S 4 ((gG S 2) / x1)) 5 (0 : Int64))) else ck (vi x3 6) (ck (vi x3 6) (ck (vi (gI S 0 x3.toNatClampNeg) 4) (ck (vi x3 6) (ck (vi (gI S 1 x3.toNatClampNeg) 4) (ck (vi x3 6) (f_M_clear_124 n (f_M_clear_79 n q) x1 x3 (sJ S 9 (vp_updL (gJ S 9) x3.toNatClampNeg (((gI S 2 x3.toNatClampNeg).toInt64) * ((gJ S 6 ((gI S 0 x3.toNatClampNeg).toNatClampNeg)) - (gJ S 6 ((gI S 1 x3.toNatClampNeg).toNatClampNeg)))))))))))))
def f_M_clear_52 (n : Nat) : Nat → Int64 → Int32 → z_S → Option (Int32 × z_S)
  | 0, _, _, _ => none
  | q + 1, x1, x3, S => (if (gF S 1) ≤ x3 then f_M_clear_79 n n x1 (0 : Int32) S else ck (vi x3 8) (bo (f_M_divisor n x1 (gJ S 7 x3.toNatClampNeg) S) (fun v67 S67 => f_M_clear_52 n q v67 (x3 + (1 : Int32)) S67)))
def f_M_clear_27 (n : Nat) : Nat → Int32 → z_S → Option (Int32 × z_S)
  | 0, _, _ => none
  | q + 1, x1, S => (if (4 : Int32) ≤ x1 then f_M_clear_52 n n (gG S 2) (0 : Int32) S else ck (vi x1 4) (f_M_clear_27 n q (x1 + (1 : Int32)) (sI S 10 (upd (gI S 10) x1.toNatClampNeg (vp_nar .boolean (0 : Int32))))))
def f_M_clear (n : Nat) (S : z_S) : Option (Int32 × z_S) := bo (f_M_connected n (sF S 4 (0 : Int32))) (fun v6 S6 => (if v6 = 0 then some ((-2147483648 : Int32), S6) else bo (f_M_search n (-1 : Int32) S6) (fun _ S17 => f_M_clear_27 n n (0 : Int32) (sF S17 4 (1 : Int32)))))
set_option maxRecDepth 20000 in
theorem w_M_clear_124 {X : z_X} {A : Nat → Prop} {Ω : z_O} (hC : z_C X b_M_clear 5 "NodalAuctionModel" Ω) (hA : z_hA X A) (hR : z_R X (some .int)) (hM : z_rmOf X = z_rm 5 138) (n : Nat) (r : Int32 × z_S) (k79 : Int64 → Int32 → z_S → Option (Int32 × z_S)) (hk79 : ∀ (x1 : Int64) (x3 : Int32) (S : z_S), k79 x1 x3 S = some r → z_At X A (z_QI X Ω A r.1 (wM Ω r.2)) Ω 0 0 5 79 [(0, .ref (Ω.2.2 100)), (1, .long x1), (3, .int x3)] [] (wM Ω S)) (x1 : Int64) (x3 : Int32) (S : z_S) (h : f_M_clear_124 n k79 x1 x3 S = some r) : z_At X A (z_QI X Ω A r.1 (wM Ω r.2)) Ω 0 0 5 124 [(0, .ref (Ω.2.2 100)), (1, .long x1), (3, .int x3)] [] (wM Ω S) := by
  refine z_lload_n rfl 1 rfl hC d_M_clear_124 (q := 125) rfl ?_
  refine z_aload_n rfl 0 rfl hC d_M_clear_125 (q := 126) rfl ?_
  refine gf_M_69_0 hC d_M_clear_126 (q := 129) rfl ?_
  refine z_iload_n rfl 2 rfl hC d_M_clear_129 (q := 130) rfl ?_
  obtain ⟨hv1, h⟩ := ck_some h
  refine al_wM_20 hC hv1 d_M_clear_130 (q := 131) rfl ?_
  obtain ⟨v131, S131, hc131, h⟩ := bo_some h
  refine z_callSl (As := [.long x1, .long (gJ S 9 x3.toNatClampNeg)]) hC hA (c_M_divisor (z_lOf X) Ω n x1 (gJ S 9 x3.toNatClampNeg) S (v131, S131) hc131) k_648 k_646 k_647 k_6 h_M_divisor (by rw [hM]; exact ⟨Nat.le_of_ble_eq_true rfl, Nat.le_of_ble_eq_true rfl⟩) ⟨Nat.zero_le _, Nat.zero_le _⟩ rfl (Nat.le_of_ble_eq_true rfl) rfl d_M_clear_131 (q := 134) rfl ?_
  refine z_lstore_n (lv' := [(1, .long v131), (0, .ref (Ω.2.2 100)), (3, .int x3)]) rfl (by decide) rfl hC d_M_clear_134 (q := 135) rfl ?_
  refine z_iinc (lv' := [(3, .int (x3 + (1 : Int32))), (1, .long v131), (0, .ref (Ω.2.2 100))]) 2 rfl rfl (by decide) rfl hC d_M_clear_135 (q := 138) rfl ?_
  refine z_goto (tgt := 79) hC d_M_clear_138 rfl ?_
  refine z_sub [2, 1, 0] rfl ?_
  exact hk79 v131 (x3 + (1 : Int32)) S131 h
set_option maxRecDepth 20000 in
theorem w_M_clear_262 {X : z_X} {A : Nat → Prop} {Ω : z_O} (hC : z_C X b_M_clear 5 "NodalAuctionModel" Ω) (hA : z_hA X A) (hR : z_R X (some .int)) (hM : z_rmOf X = z_rm 5 138) (n : Nat) (r : Int32 × z_S) (k161 : Int64 → Int32 → Int32 → z_S → Option (Int32 × z_S)) (hk161 : ∀ (x1 : Int64) (x3 : Int32) (x4 : Int32) (S : z_S), k161 x1 x3 x4 S = some r → z_At X A (z_QI X Ω A r.1 (wM Ω r.2)) Ω 0 0 5 161 [(0, .ref (Ω.2.2 100)), (1, .long x1), (3, .int x3), (4, .int x4)] [] (wM Ω S)) (x1 : Int64) (x3 : Int32) (x4 : Int32) (t1 : Int64) (S : z_S) (h : f_M_clear_262 n k161 x1 x3 x4 t1 S = some r) : z_At X A (z_QI X Ω A r.1 (wM Ω r.2)) Ω 0 0 5 262 [(0, .ref (Ω.2.2 100)), (1, .long x1), (3, .int x3), (4, .int x4)] [.long t1, .ref (Ω.2.2 100)] (wM Ω S) := by
  refine pf_M_197_0 hC d_M_clear_262 (q := 265) rfl ?_
  refine z_iinc (lv' := [(4, .int (x4 + (1 : Int32))), (0, .ref (Ω.2.2 100)), (1, .long x1), (3, .int x3)]) 3 rfl rfl (by decide) rfl hC d_M_clear_265 (q := 268) rfl ?_
  refine z_goto (tgt := 161) hC d_M_clear_268 rfl ?_
  refine z_sub [1, 2, 3, 0] rfl ?_
  exact hk161 x1 x3 (x4 + (1 : Int32)) (sG S 5 t1) h
set_option maxRecDepth 20000 in
theorem w_M_clear_205 {X : z_X} {A : Nat → Prop} {Ω : z_O} (hC : z_C X b_M_clear 5 "NodalAuctionModel" Ω) (hA : z_hA X A) (hR : z_R X (some .int)) (hM : z_rmOf X = z_rm 5 138) (n : Nat) (r : Int32 × z_S) (k161 : Int64 → Int32 → Int32 → z_S → Option (Int32 × z_S)) (hk161 : ∀ (x1 : Int64) (x3 : Int32) (x4 : Int32) (S : z_S), k161 x1 x3 x4 S = some r → z_At X A (z_QI X Ω A r.1 (wM Ω r.2)) Ω 0 0 5 161 [(0, .ref (Ω.2.2 100)), (1, .long x1), (3, .int x3), (4, .int x4)] [] (wM Ω S)) (x1 : Int64) (x4 : Int32) (t0 : Int32) (S : z_S) (h : f_M_clear_205 n k161 x1 x4 t0 S = some r) : z_At X A (z_QI X Ω A r.1 (wM Ω r.2)) Ω 0 0 5 205 [(0, .ref (Ω.2.2 100)), (1, .long x1), (4, .int x4)] [.int t0] (wM Ω S) := by
  refine z_istore_n (lv' := [(3, .int t0), (0, .ref (Ω.2.2 100)), (1, .long x1), (4, .int x4)]) rfl (by decide) rfl hC d_M_clear_205 (q := 206) rfl ?_
  refine z_aload_n rfl 1 rfl hC d_M_clear_206 (q := 207) rfl ?_
  refine z_aload_n rfl 1 rfl hC d_M_clear_207 (q := 208) rfl ?_
  refine gf_M_22_0 hC d_M_clear_208 (q := 211) rfl ?_
  refine z_iload 3 rfl hC d_M_clear_211 (q := 213) rfl ?_
  obtain ⟨hv1, h⟩ := ck_some h
  refine al_wM_5 hC hv1 d_M_clear_213 (q := 214) rfl ?_
  refine z_if_eq (tgt := 241) (q := 217) hC d_M_clear_214 rfl rfl (fun hb => ?_) (fun hb => ?_)
  · have h := (if_pos hb).symm.trans h
    refine z_aload_n rfl 1 rfl hC d_M_clear_241 (q := 242) rfl ?_
    refine gf_M_197_0 hC d_M_clear_242 (q := 245) rfl ?_
    refine z_aload_n rfl 1 rfl hC d_M_clear_245 (q := 246) rfl ?_
    refine gf_M_29_0 hC d_M_clear_246 (q := 249) rfl ?_
    refine z_iload 3 rfl hC d_M_clear_249 (q := 251) rfl ?_
    obtain ⟨hv2, h⟩ := ck_some h
    refine al_wM_7 hC hv2 d_M_clear_251 (q := 252) rfl ?_
    refine z_i2l hC d_M_clear_252 (q := 253) rfl ?_
    refine z_aload_n rfl 1 rfl hC d_M_clear_253 (q := 254) rfl ?_
    refine gf_M_66_0 hC d_M_clear_254 (q := 257) rfl ?_
    refine z_iload 3 rfl hC d_M_clear_257 (q := 259) rfl ?_
    obtain ⟨hv3, h⟩ := ck_some h
    refine al_wM_19 hC hv3 d_M_clear_259 (q := 260) rfl ?_
    refine z_lmul hC d_M_clear_260 (q := 261) rfl ?_
    refine z_lsub hC d_M_clear_261 (q := 262) rfl ?_
    refine z_sub [1, 2, 0, 3] rfl ?_
    exact w_M_clear_262 hC hA hR hM n r k161 hk161 x1 t0 x4 ((gG S 5) - (((gI S 6 x4.toNatClampNeg).toInt64) * (gJ S 8 x4.toNatClampNeg))) S h
  · have h := (if_neg hb).symm.trans h
    refine z_aload_n rfl 1 rfl hC d_M_clear_217 (q := 218) rfl ?_
    refine gf_M_197_0 hC d_M_clear_218 (q := 221) rfl ?_
    refine z_aload_n rfl 1 rfl hC d_M_clear_221 (q := 222) rfl ?_
    refine gf_M_29_0 hC d_M_clear_222 (q := 225) rfl ?_
    refine z_iload 3 rfl hC d_M_clear_225 (q := 227) rfl ?_
    obtain ⟨hv2, h⟩ := ck_some h
    refine al_wM_7 hC hv2 d_M_clear_227 (q := 228) rfl ?_
    refine z_i2l hC d_M_clear_228 (q := 229) rfl ?_
    refine z_aload_n rfl 1 rfl hC d_M_clear_229 (q := 230) rfl ?_
    refine gf_M_66_0 hC d_M_clear_230 (q := 233) rfl ?_
    refine z_iload 3 rfl hC d_M_clear_233 (q := 235) rfl ?_
    obtain ⟨hv3, h⟩ := ck_some h
    refine al_wM_19 hC hv3 d_M_clear_235 (q := 236) rfl ?_
    refine z_lmul hC d_M_clear_236 (q := 237) rfl ?_
    refine z_ladd hC d_M_clear_237 (q := 238) rfl ?_
    refine z_goto (tgt := 262) hC d_M_clear_238 rfl ?_
    refine z_sub [1, 2, 0, 3] rfl ?_
    exact w_M_clear_262 hC hA hR hM n r k161 hk161 x1 t0 x4 ((gG S 5) + (((gI S 6 x4.toNatClampNeg).toInt64) * (gJ S 8 x4.toNatClampNeg))) S h
set_option maxRecDepth 20000 in
theorem w_M_clear_274 {X : z_X} {A : Nat → Prop} {Ω : z_O} (hC : z_C X b_M_clear 5 "NodalAuctionModel" Ω) (hA : z_hA X A) (hR : z_R X (some .int)) (hM : z_rmOf X = z_rm 5 138) (n : Nat) (r : Int32 × z_S) : ∀ (q : Nat) (x1 : Int64) (x3 : Int32) (x4 : Int32) (S : z_S), f_M_clear_274 n q x1 x3 x4 S = some r → z_At X A (z_QI X Ω A r.1 (wM Ω r.2)) Ω 0 0 5 274 [(0, .ref (Ω.2.2 100)), (1, .long x1), (3, .int x3), (4, .int x4)] [] (wM Ω S) := by
  intro q
  induction q with
  | zero => intro x1 x3 x4 S h; cases h
  | succ q ih =>
    intro x1 x3 x4 S h
    refine z_iload 3 rfl hC d_M_clear_274 (q := 276) rfl ?_
    refine z_aload_n rfl 0 rfl hC d_M_clear_276 (q := 277) rfl ?_
    refine gf_M_86_0 hC d_M_clear_277 (q := 280) rfl ?_
    refine z_icmp_ge (tgt := 305) (q := 283) hC d_M_clear_280 rfl rfl (fun hb => ?_) (fun hb => ?_)
    · have h := (if_pos hb).symm.trans h
      refine z_iload_n rfl 2 rfl hC d_M_clear_305 (q := 306) rfl ?_
      cases h
      exact z_iret hC hR rfl rfl d_M_clear_306
    · have h := (if_neg hb).symm.trans h
      refine z_aload_n rfl 0 rfl hC d_M_clear_283 (q := 284) rfl ?_
      refine gf_M_69_0 hC d_M_clear_284 (q := 287) rfl ?_
      refine z_iload 3 rfl hC d_M_clear_287 (q := 289) rfl ?_
      refine z_aload_n rfl 0 rfl hC d_M_clear_289 (q := 290) rfl ?_
      refine gf_M_69_0 hC d_M_clear_290 (q := 293) rfl ?_
      refine z_iload 3 rfl hC d_M_clear_293 (q := 295) rfl ?_
      obtain ⟨hv1, h⟩ := ck_some h
      refine al_wM_20 hC hv1 d_M_clear_295 (q := 296) rfl ?_
      refine z_lload_n rfl 1 rfl hC d_M_clear_296 (q := 297) rfl ?_
      obtain ⟨hv2, h⟩ := ck_some h
      refine z_ldiv hv2 hC d_M_clear_297 (q := 298) rfl ?_
      obtain ⟨hv3, h⟩ := ck_some h
      refine as_wM_20 hC hv3 d_M_clear_298 (q := 299) rfl ?_
      refine z_iinc (lv' := [(4, .int (x4 + (1 : Int32))), (0, .ref (Ω.2.2 100)), (1, .long x1), (3, .int x3)]) 3 rfl rfl (by decide) rfl hC d_M_clear_299 (q := 302) rfl ?_
      refine z_goto (tgt := 274) hC d_M_clear_302 rfl ?_
      refine z_sub [1, 2, 3, 0] rfl ?_
      exact ih x1 x3 (x4 + (1 : Int32)) (sJ S 9 (vp_updL (gJ S 9) x4.toNatClampNeg ((gJ S 9 x4.toNatClampNeg) / x1))) h
set_option maxRecDepth 20000 in
theorem w_M_clear_161 {X : z_X} {A : Nat → Prop} {Ω : z_O} (hC : z_C X b_M_clear 5 "NodalAuctionModel" Ω) (hA : z_hA X A) (hR : z_R X (some .int)) (hM : z_rmOf X = z_rm 5 138) (n : Nat) (r : Int32 × z_S) : ∀ (q : Nat) (x1 : Int64) (x3 : Int32) (x4 : Int32) (S : z_S), f_M_clear_161 n q x1 x3 x4 S = some r → z_At X A (z_QI X Ω A r.1 (wM Ω r.2)) Ω 0 0 5 161 [(0, .ref (Ω.2.2 100)), (1, .long x1), (3, .int x3), (4, .int x4)] [] (wM Ω S) := by
  intro q
  induction q with
  | zero => intro x1 x3 x4 S h; cases h
  | succ q ih =>
    intro x1 x3 x4 S h
    refine z_iload 3 rfl hC d_M_clear_161 (q := 163) rfl ?_
    refine z_aload_n rfl 0 rfl hC d_M_clear_163 (q := 164) rfl ?_
    refine gf_M_94_0 hC d_M_clear_164 (q := 167) rfl ?_
    refine z_icmp_ge (tgt := 271) (q := 170) hC d_M_clear_167 rfl rfl (fun hb => ?_) (fun hb => ?_)
    · have h := (if_pos hb).symm.trans h
      refine z_iconst (v := (0 : Int32)) (by decide) hC d_M_clear_271 (q := 272) rfl ?_
      refine z_istore (lv' := [(4, .int (0 : Int32)), (0, .ref (Ω.2.2 100)), (1, .long x1), (3, .int x3)]) (by decide) rfl hC d_M_clear_272 (q := 274) rfl ?_
      refine z_sub [1, 2, 3, 0] rfl ?_
      exact w_M_clear_274 hC hA hR hM n r n x1 x3 (0 : Int32) S h
    · have h := (if_neg hb).symm.trans h
      refine z_aload_n rfl 0 rfl hC d_M_clear_170 (q := 171) rfl ?_
      refine gf_M_66_0 hC d_M_clear_171 (q := 174) rfl ?_
      refine z_iload 3 rfl hC d_M_clear_174 (q := 176) rfl ?_
      refine z_aload_n rfl 0 rfl hC d_M_clear_176 (q := 177) rfl ?_
      refine gf_M_63_0 hC d_M_clear_177 (q := 180) rfl ?_
      refine z_iload 3 rfl hC d_M_clear_180 (q := 182) rfl ?_
      obtain ⟨hv1, h⟩ := ck_some h
      refine al_wM_18 hC hv1 d_M_clear_182 (q := 183) rfl ?_
      refine z_lload_n rfl 1 rfl hC d_M_clear_183 (q := 184) rfl ?_
      obtain ⟨hv2, h⟩ := ck_some h
      refine z_ldiv hv2 hC d_M_clear_184 (q := 185) rfl ?_
      obtain ⟨hv3, h⟩ := ck_some h
      refine as_wM_19 hC hv3 d_M_clear_185 (q := 186) rfl ?_
      refine z_aload_n rfl 0 rfl hC d_M_clear_186 (q := 187) rfl ?_
      refine gf_M_66_0 hC d_M_clear_187 (q := 190) rfl ?_
      refine z_iload 3 rfl hC d_M_clear_190 (q := 192) rfl ?_
      obtain ⟨hv4, h⟩ := ck_some h
      refine al_wM_19 hC hv4 d_M_clear_192 (q := 193) rfl ?_
      refine z_lconst (v := (0 : Int64)) (by decide) hC d_M_clear_193 (q := 194) rfl ?_
      refine z_lcmp_le (pc1 := 195) (tgt := 204) (q := 198) hC d_M_clear_194 rfl d_M_clear_195 rfl rfl (fun hb => ?_) (fun hb => ?_)
      · have h := (if_pos hb).symm.trans h
        refine z_iload_n rfl 2 rfl hC d_M_clear_204 (q := 205) rfl ?_
        refine z_sub [0, 1, 3] rfl ?_
        exact w_M_clear_205 hC hA hR hM n r (f_M_clear_161 n q) ih x1 x4 x3 (sJ S 8 (vp_updL (gJ S 8) x4.toNatClampNeg ((gJ S 7 x4.toNatClampNeg) / x1))) h
      · have h := (if_neg hb).symm.trans h
        refine z_iload_n rfl 2 rfl hC d_M_clear_198 (q := 199) rfl ?_
        refine z_iconst (v := (1 : Int32)) (by decide) hC d_M_clear_199 (q := 200) rfl ?_
        refine z_iadd hC d_M_clear_200 (q := 201) rfl ?_
        refine z_goto (tgt := 205) hC d_M_clear_201 rfl ?_
        refine z_sub [0, 1, 3] rfl ?_
        exact w_M_clear_205 hC hA hR hM n r (f_M_clear_161 n q) ih x1 x4 (x3 + (1 : Int32)) (sJ S 8 (vp_updL (gJ S 8) x4.toNatClampNeg ((gJ S 7 x4.toNatClampNeg) / x1))) h
set_option maxRecDepth 20000 in
theorem w_M_clear_79 {X : z_X} {A : Nat → Prop} {Ω : z_O} (hC : z_C X b_M_clear 5 "NodalAuctionModel" Ω) (hA : z_hA X A) (hR : z_R X (some .int)) (hM : z_rmOf X = z_rm 5 138) (n : Nat) (r : Int32 × z_S) : ∀ (q : Nat) (x1 : Int64) (x3 : Int32) (S : z_S), f_M_clear_79 n q x1 x3 S = some r → z_At X A (z_QI X Ω A r.1 (wM Ω r.2)) Ω 0 0 5 79 [(0, .ref (Ω.2.2 100)), (1, .long x1), (3, .int x3)] [] (wM Ω S) := by
  intro q
  induction q with
  | zero => intro x1 x3 S h; cases h
  | succ q ih =>
    intro x1 x3 S h
    refine z_iload_n rfl 2 rfl hC d_M_clear_79 (q := 80) rfl ?_
    refine z_aload_n rfl 0 rfl hC d_M_clear_80 (q := 81) rfl ?_
    refine gf_M_86_0 hC d_M_clear_81 (q := 84) rfl ?_
    refine z_icmp_ge (tgt := 141) (q := 87) hC d_M_clear_84 rfl rfl (fun hb => ?_) (fun hb => ?_)
    · have h := (if_pos hb).symm.trans h
      refine z_aload_n rfl 0 rfl hC d_M_clear_141 (q := 142) rfl ?_
      refine z_aload_n rfl 0 rfl hC d_M_clear_142 (q := 143) rfl ?_
      refine gf_M_150_0 hC d_M_clear_143 (q := 146) rfl ?_
      refine z_lload_n rfl 1 rfl hC d_M_clear_146 (q := 147) rfl ?_
      obtain ⟨hv1, h⟩ := ck_some h
      refine z_ldiv hv1 hC d_M_clear_147 (q := 148) rfl ?_
      refine pf_M_194_0 hC d_M_clear_148 (q := 151) rfl ?_
      refine z_iconst (v := (0 : Int32)) (by decide) hC d_M_clear_151 (q := 152) rfl ?_
      refine z_istore_n (lv' := [(3, .int (0 : Int32)), (0, .ref (Ω.2.2 100)), (1, .long x1)]) rfl (by decide) rfl hC d_M_clear_152 (q := 153) rfl ?_
      refine z_aload_n rfl 1 rfl hC d_M_clear_153 (q := 154) rfl ?_
      refine z_lconst (v := (0 : Int64)) (by decide) hC d_M_clear_154 (q := 155) rfl ?_
      refine pf_M_197_0 hC d_M_clear_155 (q := 158) rfl ?_
      refine z_iconst (v := (0 : Int32)) (by decide) hC d_M_clear_158 (q := 159) rfl ?_
      refine z_istore (lv' := [(4, .int (0 : Int32)), (3, .int (0 : Int32)), (0, .ref (Ω.2.2 100)), (1, .long x1)]) (by decide) rfl hC d_M_clear_159 (q := 161) rfl ?_
      refine z_sub [2, 3, 1, 0] rfl ?_
      exact w_M_clear_161 hC hA hR hM n r n x1 (0 : Int32) (0 : Int32) (sG (sG S 4 ((gG S 2) / x1)) 5 (0 : Int64)) h
    · have h := (if_neg hb).symm.trans h
      refine z_aload_n rfl 0 rfl hC d_M_clear_87 (q := 88) rfl ?_
      refine gf_M_69_0 hC d_M_clear_88 (q := 91) rfl ?_
      refine z_iload_n rfl 2 rfl hC d_M_clear_91 (q := 92) rfl ?_
      refine z_aload_n rfl 0 rfl hC d_M_clear_92 (q := 93) rfl ?_
      refine gf_M_16_0 hC d_M_clear_93 (q := 96) rfl ?_
      refine z_iload_n rfl 2 rfl hC d_M_clear_96 (q := 97) rfl ?_
      obtain ⟨hv1, h⟩ := ck_some h
      refine al_wM_3 hC hv1 d_M_clear_97 (q := 98) rfl ?_
      refine z_i2l hC d_M_clear_98 (q := 99) rfl ?_
      refine z_aload_n rfl 0 rfl hC d_M_clear_99 (q := 100) rfl ?_
      refine gf_M_60_0 hC d_M_clear_100 (q := 103) rfl ?_
      refine z_aload_n rfl 0 rfl hC d_M_clear_103 (q := 104) rfl ?_
      refine gf_M_7_0 hC d_M_clear_104 (q := 107) rfl ?_
      refine z_iload_n rfl 2 rfl hC d_M_clear_107 (q := 108) rfl ?_
      obtain ⟨hv2, h⟩ := ck_some h
      refine al_wM_1 hC hv2 d_M_clear_108 (q := 109) rfl ?_
      obtain ⟨hv3, h⟩ := ck_some h
      refine al_wM_17 hC hv3 d_M_clear_109 (q := 110) rfl ?_
      refine z_aload_n rfl 0 rfl hC d_M_clear_110 (q := 111) rfl ?_
      refine gf_M_60_0 hC d_M_clear_111 (q := 114) rfl ?_
      refine z_aload_n rfl 0 rfl hC d_M_clear_114 (q := 115) rfl ?_
      refine gf_M_13_0 hC d_M_clear_115 (q := 118) rfl ?_
      refine z_iload_n rfl 2 rfl hC d_M_clear_118 (q := 119) rfl ?_
      obtain ⟨hv4, h⟩ := ck_some h
      refine al_wM_2 hC hv4 d_M_clear_119 (q := 120) rfl ?_
      obtain ⟨hv5, h⟩ := ck_some h
      refine al_wM_17 hC hv5 d_M_clear_120 (q := 121) rfl ?_
      refine z_lsub hC d_M_clear_121 (q := 122) rfl ?_
      refine z_lmul hC d_M_clear_122 (q := 123) rfl ?_
      obtain ⟨hv6, h⟩ := ck_some h
      refine as_wM_20 hC hv6 d_M_clear_123 (q := 124) rfl ?_
      exact w_M_clear_124 hC hA hR hM n r (f_M_clear_79 n q) ih x1 x3 (sJ S 9 (vp_updL (gJ S 9) x3.toNatClampNeg (((gI S 2 x3.toNatClampNeg).toInt64) * ((gJ S 6 ((gI S 0 x3.toNatClampNeg).toNatClampNeg)) - (gJ S 6 ((gI S 1 x3.toNatClampNeg).toNatClampNeg)))))) h
set_option maxRecDepth 20000 in
theorem w_M_clear_52 {X : z_X} {A : Nat → Prop} {Ω : z_O} (hC : z_C X b_M_clear 5 "NodalAuctionModel" Ω) (hA : z_hA X A) (hR : z_R X (some .int)) (hM : z_rmOf X = z_rm 5 138) (n : Nat) (r : Int32 × z_S) : ∀ (q : Nat) (x1 : Int64) (x3 : Int32) (S : z_S), f_M_clear_52 n q x1 x3 S = some r → z_At X A (z_QI X Ω A r.1 (wM Ω r.2)) Ω 0 0 5 52 [(0, .ref (Ω.2.2 100)), (1, .long x1), (3, .int x3)] [] (wM Ω S) := by
  intro q
  induction q with
  | zero => intro x1 x3 S h; cases h
  | succ q ih =>
    intro x1 x3 S h
    refine z_iload_n rfl 2 rfl hC d_M_clear_52 (q := 53) rfl ?_
    refine z_aload_n rfl 0 rfl hC d_M_clear_53 (q := 54) rfl ?_
    refine gf_M_94_0 hC d_M_clear_54 (q := 57) rfl ?_
    refine z_icmp_ge (tgt := 77) (q := 60) hC d_M_clear_57 rfl rfl (fun hb => ?_) (fun hb => ?_)
    · have h := (if_pos hb).symm.trans h
      refine z_iconst (v := (0 : Int32)) (by decide) hC d_M_clear_77 (q := 78) rfl ?_
      refine z_istore_n (lv' := [(3, .int (0 : Int32)), (0, .ref (Ω.2.2 100)), (1, .long x1)]) rfl (by decide) rfl hC d_M_clear_78 (q := 79) rfl ?_
      refine z_sub [1, 2, 0] rfl ?_
      exact w_M_clear_79 hC hA hR hM n r n x1 (0 : Int32) S h
    · have h := (if_neg hb).symm.trans h
      refine z_lload_n rfl 1 rfl hC d_M_clear_60 (q := 61) rfl ?_
      refine z_aload_n rfl 0 rfl hC d_M_clear_61 (q := 62) rfl ?_
      refine gf_M_63_0 hC d_M_clear_62 (q := 65) rfl ?_
      refine z_iload_n rfl 2 rfl hC d_M_clear_65 (q := 66) rfl ?_
      obtain ⟨hv1, h⟩ := ck_some h
      refine al_wM_18 hC hv1 d_M_clear_66 (q := 67) rfl ?_
      obtain ⟨v67, S67, hc67, h⟩ := bo_some h
      refine z_callSl (As := [.long x1, .long (gJ S 7 x3.toNatClampNeg)]) hC hA (c_M_divisor (z_lOf X) Ω n x1 (gJ S 7 x3.toNatClampNeg) S (v67, S67) hc67) k_648 k_646 k_647 k_6 h_M_divisor (by rw [hM]; exact ⟨Nat.le_of_ble_eq_true rfl, Nat.le_of_ble_eq_true rfl⟩) ⟨Nat.zero_le _, Nat.zero_le _⟩ rfl (Nat.le_of_ble_eq_true rfl) rfl d_M_clear_67 (q := 70) rfl ?_
      refine z_lstore_n (lv' := [(1, .long v67), (0, .ref (Ω.2.2 100)), (3, .int x3)]) rfl (by decide) rfl hC d_M_clear_70 (q := 71) rfl ?_
      refine z_iinc (lv' := [(3, .int (x3 + (1 : Int32))), (1, .long v67), (0, .ref (Ω.2.2 100))]) 2 rfl rfl (by decide) rfl hC d_M_clear_71 (q := 74) rfl ?_
      refine z_goto (tgt := 52) hC d_M_clear_74 rfl ?_
      refine z_sub [2, 1, 0] rfl ?_
      exact ih v67 (x3 + (1 : Int32)) S67 h
set_option maxRecDepth 20000 in
theorem w_M_clear_27 {X : z_X} {A : Nat → Prop} {Ω : z_O} (hC : z_C X b_M_clear 5 "NodalAuctionModel" Ω) (hA : z_hA X A) (hR : z_R X (some .int)) (hM : z_rmOf X = z_rm 5 138) (n : Nat) (r : Int32 × z_S) : ∀ (q : Nat) (x1 : Int32) (S : z_S), f_M_clear_27 n q x1 S = some r → z_At X A (z_QI X Ω A r.1 (wM Ω r.2)) Ω 0 0 5 27 [(0, .ref (Ω.2.2 100)), (1, .int x1)] [] (wM Ω S) := by
  intro q
  induction q with
  | zero => intro x1 S h; cases h
  | succ q ih =>
    intro x1 S h
    refine z_iload_n rfl 1 rfl hC d_M_clear_27 (q := 28) rfl ?_
    refine z_iconst (v := (4 : Int32)) (by decide) hC d_M_clear_28 (q := 29) rfl ?_
    refine z_icmp_ge (tgt := 45) (q := 32) hC d_M_clear_29 rfl rfl (fun hb => ?_) (fun hb => ?_)
    · have h := (if_pos hb).symm.trans h
      refine z_aload_n rfl 0 rfl hC d_M_clear_45 (q := 46) rfl ?_
      refine gf_M_150_0 hC d_M_clear_46 (q := 49) rfl ?_
      refine z_lstore_n (lv' := [(1, .long (gG S 2)), (0, .ref (Ω.2.2 100))]) rfl (by decide) rfl hC d_M_clear_49 (q := 50) rfl ?_
      refine z_iconst (v := (0 : Int32)) (by decide) hC d_M_clear_50 (q := 51) rfl ?_
      refine z_istore_n (lv' := [(3, .int (0 : Int32)), (1, .long (gG S 2)), (0, .ref (Ω.2.2 100))]) rfl (by decide) rfl hC d_M_clear_51 (q := 52) rfl ?_
      refine z_sub [2, 1, 0] rfl ?_
      exact w_M_clear_52 hC hA hR hM n r n (gG S 2) (0 : Int32) S h
    · have h := (if_neg hb).symm.trans h
      refine z_aload_n rfl 0 rfl hC d_M_clear_32 (q := 33) rfl ?_
      refine gf_M_72_0 hC d_M_clear_33 (q := 36) rfl ?_
      refine z_iload_n rfl 1 rfl hC d_M_clear_36 (q := 37) rfl ?_
      refine z_iconst (v := (0 : Int32)) (by decide) hC d_M_clear_37 (q := 38) rfl ?_
      obtain ⟨hv1, h⟩ := ck_some h
      refine as_wM_21 hC hv1 d_M_clear_38 (q := 39) rfl ?_
      refine z_iinc (lv' := [(1, .int (x1 + (1 : Int32))), (0, .ref (Ω.2.2 100))]) 1 rfl rfl (by decide) rfl hC d_M_clear_39 (q := 42) rfl ?_
      refine z_goto (tgt := 27) hC d_M_clear_42 rfl ?_
      refine z_sub [1, 0] rfl ?_
      exact ih (x1 + (1 : Int32)) (sI S 10 (upd (gI S 10) x1.toNatClampNeg (vp_nar .boolean (0 : Int32)))) h
set_option maxRecDepth 20000 in
theorem w_M_clear {X : z_X} {A : Nat → Prop} {Ω : z_O} (hC : z_C X b_M_clear 5 "NodalAuctionModel" Ω) (hA : z_hA X A) (hR : z_R X (some .int)) (hM : z_rmOf X = z_rm 5 138) (n : Nat) (r : Int32 × z_S) (S : z_S) (h : f_M_clear n S = some r) : z_At X A (z_QI X Ω A r.1 (wM Ω r.2)) Ω 0 0 5 0 [(0, .ref (Ω.2.2 100))] [] (wM Ω S) := by
  refine z_aload_n rfl 0 rfl hC d_M_clear_0 (q := 1) rfl ?_
  refine z_iconst (v := (0 : Int32)) (by decide) hC d_M_clear_1 (q := 2) rfl ?_
  refine pf_M_90_0 (by decide) hC d_M_clear_2 (q := 5) rfl ?_
  refine z_aload_n rfl 0 rfl hC d_M_clear_5 (q := 6) rfl ?_
  obtain ⟨v6, S6, hc6, h⟩ := bo_some h
  refine z_callVi (q0 := 0) (As := []) hC hA (c_M_connected (z_lOf X) Ω n (sF S 4 (0 : Int32)) (v6, S6) hc6) k_572 k_569 k_571 ks_38 k_6 h_M_connected (by rw [hM]; exact ⟨Nat.le_of_ble_eq_true rfl, Nat.le_of_ble_eq_true rfl⟩) ⟨Nat.zero_le _, Nat.zero_le _⟩ rfl rfl rfl (Nat.le_of_ble_eq_true rfl) rfl d_M_clear_6 (q := 9) rfl ?_
  refine z_if_ne (tgt := 15) (q := 12) hC d_M_clear_9 rfl rfl (fun hb => ?_) (fun hb => ?_)
  · have h := (if_neg hb).symm.trans h
    refine z_aload_n rfl 0 rfl hC d_M_clear_15 (q := 16) rfl ?_
    refine z_iconst (v := (-1 : Int32)) (by decide) hC d_M_clear_16 (q := 17) rfl ?_
    obtain ⟨v17, S17, hc17, h⟩ := bo_some h
    refine z_callVv (q0 := 0) (As := [.int (-1 : Int32)]) hC hA (c_M_search (z_lOf X) Ω n (-1 : Int32) S6 (v17, S17) hc17) k_576 k_573 k_575 ks_39 k_6 h_M_search (by rw [hM]; exact ⟨Nat.le_of_ble_eq_true rfl, Nat.le_of_ble_eq_true rfl⟩) ⟨Nat.zero_le _, Nat.zero_le _⟩ rfl rfl rfl (Nat.le_of_ble_eq_true rfl) rfl d_M_clear_17 (q := 20) rfl ?_
    refine z_aload_n rfl 0 rfl hC d_M_clear_20 (q := 21) rfl ?_
    refine z_iconst (v := (1 : Int32)) (by decide) hC d_M_clear_21 (q := 22) rfl ?_
    refine pf_M_90_0 (by decide) hC d_M_clear_22 (q := 25) rfl ?_
    refine z_iconst (v := (0 : Int32)) (by decide) hC d_M_clear_25 (q := 26) rfl ?_
    refine z_istore_n (lv' := [(1, .int (0 : Int32)), (0, .ref (Ω.2.2 100))]) rfl (by decide) rfl hC d_M_clear_26 (q := 27) rfl ?_
    refine z_sub [1, 0] rfl ?_
    exact w_M_clear_27 hC hA hR hM n r n (0 : Int32) (sF S17 4 (1 : Int32)) h
  · have h := (if_pos hb).symm.trans h
    refine z_ldc (v := (-2147483648 : Int32)) k_540 hC d_M_clear_12 (q := 14) rfl ?_
    cases h
    exact z_iret hC hR rfl rfl d_M_clear_14
theorem c_M_clear (l : Launch) (Ω : z_O) (n : Nat) (S : z_S) (r : Int32 × z_S) (h : f_M_clear n S = some r) : z_MI l Ω y_M_clear b_M_clear 5 .int 5 138 [.ref (Ω.2.2 100)] (wM Ω S) r.1 (wM Ω r.2) := z_introI (by decide +kernel) (Nat.le_of_ble_eq_true rfl) rfl (fun X A hC hA hR _ hM => w_M_clear hC hA hR hM n r S h)
def f_M_steps (n : Nat) (S : z_S) : Option (Int32 × z_S) := some (gF S 1, S)
set_option maxRecDepth 20000 in
theorem w_M_steps {X : z_X} {A : Nat → Prop} {Ω : z_O} (hC : z_C X b_M_steps 1 "NodalAuctionModel" Ω) (hA : z_hA X A) (hR : z_R X (some .int)) (hM : z_rmOf X = z_rm 0 0) (n : Nat) (r : Int32 × z_S) (S : z_S) (h : f_M_steps n S = some r) : z_At X A (z_QI X Ω A r.1 (wM Ω r.2)) Ω 0 0 1 0 [(0, .ref (Ω.2.2 100))] [] (wM Ω S) := by
  refine z_aload_n rfl 0 rfl hC d_M_steps_0 (q := 1) rfl ?_
  refine gf_M_94_0 hC d_M_steps_1 (q := 4) rfl ?_
  cases h
  exact z_iret hC hR rfl rfl d_M_steps_4
theorem c_M_steps (l : Launch) (Ω : z_O) (n : Nat) (S : z_S) (r : Int32 × z_S) (h : f_M_steps n S = some r) : z_MI l Ω y_M_steps b_M_steps 1 .int 0 0 [.ref (Ω.2.2 100)] (wM Ω S) r.1 (wM Ω r.2) := z_introI (by decide +kernel) (Nat.le_of_ble_eq_true rfl) rfl (fun X A hC hA hR _ hM => w_M_steps hC hA hR hM n r S h)
def f_M_lines (n : Nat) (S : z_S) : Option (Int32 × z_S) := some (gF S 0, S)
set_option maxRecDepth 20000 in
theorem w_M_lines {X : z_X} {A : Nat → Prop} {Ω : z_O} (hC : z_C X b_M_lines 1 "NodalAuctionModel" Ω) (hA : z_hA X A) (hR : z_R X (some .int)) (hM : z_rmOf X = z_rm 0 0) (n : Nat) (r : Int32 × z_S) (S : z_S) (h : f_M_lines n S = some r) : z_At X A (z_QI X Ω A r.1 (wM Ω r.2)) Ω 0 0 1 0 [(0, .ref (Ω.2.2 100))] [] (wM Ω S) := by
  refine z_aload_n rfl 0 rfl hC d_M_lines_0 (q := 1) rfl ?_
  refine gf_M_86_0 hC d_M_lines_1 (q := 4) rfl ?_
  cases h
  exact z_iret hC hR rfl rfl d_M_lines_4
theorem c_M_lines (l : Launch) (Ω : z_O) (n : Nat) (S : z_S) (r : Int32 × z_S) (h : f_M_lines n S = some r) : z_MI l Ω y_M_lines b_M_lines 1 .int 0 0 [.ref (Ω.2.2 100)] (wM Ω S) r.1 (wM Ω r.2) := z_introI (by decide +kernel) (Nat.le_of_ble_eq_true rfl) rfl (fun X A hC hA hR _ hM => w_M_lines hC hA hR hM n r S h)
def f_M_scale_16 (n : Nat) (t0 : Int32) (S : z_S) : Option (Int32 × z_S) := some (t0, S)
def f_M_scale (n : Nat) (S : z_S) : Option (Int32 × z_S) := (if (gF S 4) = 0 then f_M_scale_16 n (0 : Int32) S else f_M_scale_16 n ((gG S 4).toInt32) S)
set_option maxRecDepth 20000 in
theorem w_M_scale_16 {X : z_X} {A : Nat → Prop} {Ω : z_O} (hC : z_C X b_M_scale 1 "NodalAuctionModel" Ω) (hA : z_hA X A) (hR : z_R X (some .int)) (hM : z_rmOf X = z_rm 0 0) (n : Nat) (r : Int32 × z_S) (t0 : Int32) (S : z_S) (h : f_M_scale_16 n t0 S = some r) : z_At X A (z_QI X Ω A r.1 (wM Ω r.2)) Ω 0 0 1 16 [(0, .ref (Ω.2.2 100))] [.int t0] (wM Ω S) := by
  cases h
  exact z_iret hC hR rfl rfl d_M_scale_16
set_option maxRecDepth 20000 in
theorem w_M_scale {X : z_X} {A : Nat → Prop} {Ω : z_O} (hC : z_C X b_M_scale 1 "NodalAuctionModel" Ω) (hA : z_hA X A) (hR : z_R X (some .int)) (hM : z_rmOf X = z_rm 0 0) (n : Nat) (r : Int32 × z_S) (S : z_S) (h : f_M_scale n S = some r) : z_At X A (z_QI X Ω A r.1 (wM Ω r.2)) Ω 0 0 1 0 [(0, .ref (Ω.2.2 100))] [] (wM Ω S) := by
  refine z_aload_n rfl 0 rfl hC d_M_scale_0 (q := 1) rfl ?_
  refine gf_M_90_0 hC d_M_scale_1 (q := 4) rfl ?_
  refine z_if_eq (tgt := 15) (q := 7) hC d_M_scale_4 rfl rfl (fun hb => ?_) (fun hb => ?_)
  · have h := (if_pos hb).symm.trans h
    refine z_iconst (v := (0 : Int32)) (by decide) hC d_M_scale_15 (q := 16) rfl ?_
    exact w_M_scale_16 hC hA hR hM n r (0 : Int32) S h
  · have h := (if_neg hb).symm.trans h
    refine z_aload_n rfl 0 rfl hC d_M_scale_7 (q := 8) rfl ?_
    refine gf_M_194_0 hC d_M_scale_8 (q := 11) rfl ?_
    refine z_l2i hC d_M_scale_11 (q := 12) rfl ?_
    refine z_goto (tgt := 16) hC d_M_scale_12 rfl ?_
    exact w_M_scale_16 hC hA hR hM n r ((gG S 4).toInt32) S h
theorem c_M_scale (l : Launch) (Ω : z_O) (n : Nat) (S : z_S) (r : Int32 × z_S) (h : f_M_scale n S = some r) : z_MI l Ω y_M_scale b_M_scale 1 .int 0 0 [.ref (Ω.2.2 100)] (wM Ω S) r.1 (wM Ω r.2) := z_introI (by decide +kernel) (Nat.le_of_ble_eq_true rfl) rfl (fun X A hC hA hR _ hM => w_M_scale hC hA hR hM n r S h)
def f_M_accepted_33 (n : Nat) (t0 : Int32) (S : z_S) : Option (Int32 × z_S) := some (t0, S)
def f_M_accepted_31 (n : Nat) (S : z_S) : Option (Int32 × z_S) := f_M_accepted_33 n (-2147483648 : Int32) S
def f_M_accepted (n : Nat) (x1 : Int32) (S : z_S) : Option (Int32 × z_S) := (if (gF S 4) = 0 then f_M_accepted_31 n S else bo (f_M_within n x1 (0 : Int32) ((gF S 1) - (1 : Int32)) S) (fun v15 S15 => (if v15 = 0 then f_M_accepted_31 n S15 else ck (vi x1 8) (f_M_accepted_33 n ((gJ S15 8 x1.toNatClampNeg).toInt32) S15))))
set_option maxRecDepth 20000 in
theorem w_M_accepted_33 {X : z_X} {A : Nat → Prop} {Ω : z_O} (hC : z_C X b_M_accepted 2 "NodalAuctionModel" Ω) (hA : z_hA X A) (hR : z_R X (some .int)) (hM : z_rmOf X = z_rm 1 22) (n : Nat) (r : Int32 × z_S) (t0 : Int32) (S : z_S) (h : f_M_accepted_33 n t0 S = some r) : z_At X A (z_QI X Ω A r.1 (wM Ω r.2)) Ω 0 0 2 33 [(0, .ref (Ω.2.2 100))] [.int t0] (wM Ω S) := by
  cases h
  exact z_iret hC hR rfl rfl d_M_accepted_33
set_option maxRecDepth 20000 in
theorem w_M_accepted_31 {X : z_X} {A : Nat → Prop} {Ω : z_O} (hC : z_C X b_M_accepted 2 "NodalAuctionModel" Ω) (hA : z_hA X A) (hR : z_R X (some .int)) (hM : z_rmOf X = z_rm 1 22) (n : Nat) (r : Int32 × z_S) (S : z_S) (h : f_M_accepted_31 n S = some r) : z_At X A (z_QI X Ω A r.1 (wM Ω r.2)) Ω 0 0 2 31 [(0, .ref (Ω.2.2 100))] [] (wM Ω S) := by
  refine z_ldc (v := (-2147483648 : Int32)) k_540 hC d_M_accepted_31 (q := 33) rfl ?_
  exact w_M_accepted_33 hC hA hR hM n r (-2147483648 : Int32) S h
set_option maxRecDepth 20000 in
theorem w_M_accepted {X : z_X} {A : Nat → Prop} {Ω : z_O} (hC : z_C X b_M_accepted 2 "NodalAuctionModel" Ω) (hA : z_hA X A) (hR : z_R X (some .int)) (hM : z_rmOf X = z_rm 1 22) (n : Nat) (r : Int32 × z_S) (x1 : Int32) (S : z_S) (h : f_M_accepted n x1 S = some r) : z_At X A (z_QI X Ω A r.1 (wM Ω r.2)) Ω 0 0 2 0 [(0, .ref (Ω.2.2 100)), (1, .int x1)] [] (wM Ω S) := by
  refine z_aload_n rfl 0 rfl hC d_M_accepted_0 (q := 1) rfl ?_
  refine gf_M_90_0 hC d_M_accepted_1 (q := 4) rfl ?_
  refine z_if_eq (tgt := 31) (q := 7) hC d_M_accepted_4 rfl rfl (fun hb => ?_) (fun hb => ?_)
  · have h := (if_pos hb).symm.trans h
    refine z_sub [0] rfl ?_
    exact w_M_accepted_31 hC hA hR hM n r S h
  · have h := (if_neg hb).symm.trans h
    refine z_iload_n rfl 1 rfl hC d_M_accepted_7 (q := 8) rfl ?_
    refine z_iconst (v := (0 : Int32)) (by decide) hC d_M_accepted_8 (q := 9) rfl ?_
    refine z_aload_n rfl 0 rfl hC d_M_accepted_9 (q := 10) rfl ?_
    refine gf_M_94_0 hC d_M_accepted_10 (q := 13) rfl ?_
    refine z_iconst (v := (1 : Int32)) (by decide) hC d_M_accepted_13 (q := 14) rfl ?_
    refine z_isub hC d_M_accepted_14 (q := 15) rfl ?_
    obtain ⟨v15, S15, hc15, h⟩ := bo_some h
    refine z_callSi (As := [.int x1, .int (0 : Int32), .int ((gF S 1) - (1 : Int32))]) hC hA (c_M_within (z_lOf X) Ω n x1 (0 : Int32) ((gF S 1) - (1 : Int32)) S (v15, S15) hc15) k_539 k_537 k_538 k_6 h_M_within (by rw [hM]; exact ⟨Nat.le_of_ble_eq_true rfl, Nat.le_of_ble_eq_true rfl⟩) ⟨Nat.zero_le _, Nat.zero_le _⟩ rfl (Nat.le_of_ble_eq_true rfl) rfl d_M_accepted_15 (q := 18) rfl ?_
    refine z_if_eq (tgt := 31) (q := 21) hC d_M_accepted_18 rfl rfl (fun hb => ?_) (fun hb => ?_)
    · have h := (if_pos hb).symm.trans h
      refine z_sub [0] rfl ?_
      exact w_M_accepted_31 hC hA hR hM n r S15 h
    · have h := (if_neg hb).symm.trans h
      refine z_aload_n rfl 0 rfl hC d_M_accepted_21 (q := 22) rfl ?_
      refine gf_M_66_0 hC d_M_accepted_22 (q := 25) rfl ?_
      refine z_iload_n rfl 1 rfl hC d_M_accepted_25 (q := 26) rfl ?_
      obtain ⟨hv1, h⟩ := ck_some h
      refine al_wM_19 hC hv1 d_M_accepted_26 (q := 27) rfl ?_
      refine z_l2i hC d_M_accepted_27 (q := 28) rfl ?_
      refine z_goto (tgt := 33) hC d_M_accepted_28 rfl ?_
      refine z_sub [0] rfl ?_
      exact w_M_accepted_33 hC hA hR hM n r ((gJ S15 8 x1.toNatClampNeg).toInt32) S15 h
theorem c_M_accepted (l : Launch) (Ω : z_O) (n : Nat) (x1 : Int32) (S : z_S) (r : Int32 × z_S) (h : f_M_accepted n x1 S = some r) : z_MI l Ω y_M_accepted b_M_accepted 2 .int 1 22 [.ref (Ω.2.2 100), .int x1] (wM Ω S) r.1 (wM Ω r.2) := z_introI (by decide +kernel) (Nat.le_of_ble_eq_true rfl) rfl (fun X A hC hA hR _ hM => w_M_accepted hC hA hR hM n r x1 S h)
def f_M_flow_33 (n : Nat) (t0 : Int32) (S : z_S) : Option (Int32 × z_S) := some (t0, S)
def f_M_flow_31 (n : Nat) (S : z_S) : Option (Int32 × z_S) := f_M_flow_33 n (-2147483648 : Int32) S
def f_M_flow (n : Nat) (x1 : Int32) (S : z_S) : Option (Int32 × z_S) := (if (gF S 4) = 0 then f_M_flow_31 n S else bo (f_M_within n x1 (0 : Int32) ((gF S 0) - (1 : Int32)) S) (fun v15 S15 => (if v15 = 0 then f_M_flow_31 n S15 else ck (vi x1 6) (f_M_flow_33 n ((gJ S15 9 x1.toNatClampNeg).toInt32) S15))))
set_option maxRecDepth 20000 in
theorem w_M_flow_33 {X : z_X} {A : Nat → Prop} {Ω : z_O} (hC : z_C X b_M_flow 2 "NodalAuctionModel" Ω) (hA : z_hA X A) (hR : z_R X (some .int)) (hM : z_rmOf X = z_rm 1 22) (n : Nat) (r : Int32 × z_S) (t0 : Int32) (S : z_S) (h : f_M_flow_33 n t0 S = some r) : z_At X A (z_QI X Ω A r.1 (wM Ω r.2)) Ω 0 0 2 33 [(0, .ref (Ω.2.2 100))] [.int t0] (wM Ω S) := by
  cases h
  exact z_iret hC hR rfl rfl d_M_flow_33
set_option maxRecDepth 20000 in
theorem w_M_flow_31 {X : z_X} {A : Nat → Prop} {Ω : z_O} (hC : z_C X b_M_flow 2 "NodalAuctionModel" Ω) (hA : z_hA X A) (hR : z_R X (some .int)) (hM : z_rmOf X = z_rm 1 22) (n : Nat) (r : Int32 × z_S) (S : z_S) (h : f_M_flow_31 n S = some r) : z_At X A (z_QI X Ω A r.1 (wM Ω r.2)) Ω 0 0 2 31 [(0, .ref (Ω.2.2 100))] [] (wM Ω S) := by
  refine z_ldc (v := (-2147483648 : Int32)) k_540 hC d_M_flow_31 (q := 33) rfl ?_
  exact w_M_flow_33 hC hA hR hM n r (-2147483648 : Int32) S h
set_option maxRecDepth 20000 in
theorem w_M_flow {X : z_X} {A : Nat → Prop} {Ω : z_O} (hC : z_C X b_M_flow 2 "NodalAuctionModel" Ω) (hA : z_hA X A) (hR : z_R X (some .int)) (hM : z_rmOf X = z_rm 1 22) (n : Nat) (r : Int32 × z_S) (x1 : Int32) (S : z_S) (h : f_M_flow n x1 S = some r) : z_At X A (z_QI X Ω A r.1 (wM Ω r.2)) Ω 0 0 2 0 [(0, .ref (Ω.2.2 100)), (1, .int x1)] [] (wM Ω S) := by
  refine z_aload_n rfl 0 rfl hC d_M_flow_0 (q := 1) rfl ?_
  refine gf_M_90_0 hC d_M_flow_1 (q := 4) rfl ?_
  refine z_if_eq (tgt := 31) (q := 7) hC d_M_flow_4 rfl rfl (fun hb => ?_) (fun hb => ?_)
  · have h := (if_pos hb).symm.trans h
    refine z_sub [0] rfl ?_
    exact w_M_flow_31 hC hA hR hM n r S h
  · have h := (if_neg hb).symm.trans h
    refine z_iload_n rfl 1 rfl hC d_M_flow_7 (q := 8) rfl ?_
    refine z_iconst (v := (0 : Int32)) (by decide) hC d_M_flow_8 (q := 9) rfl ?_
    refine z_aload_n rfl 0 rfl hC d_M_flow_9 (q := 10) rfl ?_
    refine gf_M_86_0 hC d_M_flow_10 (q := 13) rfl ?_
    refine z_iconst (v := (1 : Int32)) (by decide) hC d_M_flow_13 (q := 14) rfl ?_
    refine z_isub hC d_M_flow_14 (q := 15) rfl ?_
    obtain ⟨v15, S15, hc15, h⟩ := bo_some h
    refine z_callSi (As := [.int x1, .int (0 : Int32), .int ((gF S 0) - (1 : Int32))]) hC hA (c_M_within (z_lOf X) Ω n x1 (0 : Int32) ((gF S 0) - (1 : Int32)) S (v15, S15) hc15) k_539 k_537 k_538 k_6 h_M_within (by rw [hM]; exact ⟨Nat.le_of_ble_eq_true rfl, Nat.le_of_ble_eq_true rfl⟩) ⟨Nat.zero_le _, Nat.zero_le _⟩ rfl (Nat.le_of_ble_eq_true rfl) rfl d_M_flow_15 (q := 18) rfl ?_
    refine z_if_eq (tgt := 31) (q := 21) hC d_M_flow_18 rfl rfl (fun hb => ?_) (fun hb => ?_)
    · have h := (if_pos hb).symm.trans h
      refine z_sub [0] rfl ?_
      exact w_M_flow_31 hC hA hR hM n r S15 h
    · have h := (if_neg hb).symm.trans h
      refine z_aload_n rfl 0 rfl hC d_M_flow_21 (q := 22) rfl ?_
      refine gf_M_69_0 hC d_M_flow_22 (q := 25) rfl ?_
      refine z_iload_n rfl 1 rfl hC d_M_flow_25 (q := 26) rfl ?_
      obtain ⟨hv1, h⟩ := ck_some h
      refine al_wM_20 hC hv1 d_M_flow_26 (q := 27) rfl ?_
      refine z_l2i hC d_M_flow_27 (q := 28) rfl ?_
      refine z_goto (tgt := 33) hC d_M_flow_28 rfl ?_
      refine z_sub [0] rfl ?_
      exact w_M_flow_33 hC hA hR hM n r ((gJ S15 9 x1.toNatClampNeg).toInt32) S15 h
theorem c_M_flow (l : Launch) (Ω : z_O) (n : Nat) (x1 : Int32) (S : z_S) (r : Int32 × z_S) (h : f_M_flow n x1 S = some r) : z_MI l Ω y_M_flow b_M_flow 2 .int 1 22 [.ref (Ω.2.2 100), .int x1] (wM Ω S) r.1 (wM Ω r.2) := z_introI (by decide +kernel) (Nat.le_of_ble_eq_true rfl) rfl (fun X A hC hA hR _ hM => w_M_flow hC hA hR hM n r x1 S h)
def f_M_tight_57 (n : Nat) (k4 : Int32 → Int32 → z_S → Option (Int32 × z_S)) (x2 : Int32) (t0 : Int32) (S : z_S) : Option (Int32 × z_S) := k4 t0 (x2 + (1 : Int32)) S
def f_M_tight_48 (n : Nat) (k4 : Int32 → Int32 → z_S → Option (Int32 × z_S)) (x1 : Int32) (x2 : Int32) (S : z_S) : Option (Int32 × z_S) := f_M_tight_57 n k4 x2 (x1 + ((1 : Int32) <<< (x2 &&& 31))) S
def f_M_tight_25 (n : Nat) (k4 : Int32 → Int32 → z_S → Option (Int32 × z_S)) (x1 : Int32) (x2 : Int32) (x3 : Int64) (S : z_S) : Option (Int32 × z_S) := ck (vi x2 6) ((if (gJ S 9 x2.toNatClampNeg) = x3 then f_M_tight_48 n k4 x1 x2 S else ck (vi x2 6) ((if (gJ S 9 x2.toNatClampNeg) = (-x3) then f_M_tight_48 n k4 x1 x2 S else f_M_tight_57 n k4 x2 x1 S))))
def f_M_tight_77 (n : Nat) (t0 : Int32) (S : z_S) : Option (Int32 × z_S) := some (t0, S)
def f_M_tight_4 (n : Nat) : Nat → Int32 → Int32 → z_S → Option (Int32 × z_S)
  | 0, _, _, _ => none
  | q + 1, x1, x2, S => (if (gF S 0) ≤ x2 then (if (gF S 4) = 0 then f_M_tight_77 n (-2147483648 : Int32) S else f_M_tight_77 n x1 S) else ck (vi x2 6) (f_M_tight_25 n (f_M_tight_4 n q) x1 x2 (((gI S 3 x2.toNatClampNeg).toInt64) * (gG S 4)) S))
def f_M_tight (n : Nat) (S : z_S) : Option (Int32 × z_S) := f_M_tight_4 n n (0 : Int32) (0 : Int32) S
set_option maxRecDepth 20000 in
theorem w_M_tight_57 {X : z_X} {A : Nat → Prop} {Ω : z_O} (hC : z_C X b_M_tight 5 "NodalAuctionModel" Ω) (hA : z_hA X A) (hR : z_R X (some .int)) (hM : z_rmOf X = z_rm 0 0) (n : Nat) (r : Int32 × z_S) (k4 : Int32 → Int32 → z_S → Option (Int32 × z_S)) (hk4 : ∀ (x1 : Int32) (x2 : Int32) (S : z_S), k4 x1 x2 S = some r → z_At X A (z_QI X Ω A r.1 (wM Ω r.2)) Ω 0 0 5 4 [(0, .ref (Ω.2.2 100)), (1, .int x1), (2, .int x2)] [] (wM Ω S)) (x2 : Int32) (t0 : Int32) (S : z_S) (h : f_M_tight_57 n k4 x2 t0 S = some r) : z_At X A (z_QI X Ω A r.1 (wM Ω r.2)) Ω 0 0 5 57 [(0, .ref (Ω.2.2 100)), (2, .int x2)] [.int t0] (wM Ω S) := by
  refine z_istore_n (lv' := [(1, .int t0), (0, .ref (Ω.2.2 100)), (2, .int x2)]) rfl (by decide) rfl hC d_M_tight_57 (q := 58) rfl ?_
  refine z_iinc (lv' := [(2, .int (x2 + (1 : Int32))), (1, .int t0), (0, .ref (Ω.2.2 100))]) 2 rfl rfl (by decide) rfl hC d_M_tight_58 (q := 61) rfl ?_
  refine z_goto (tgt := 4) hC d_M_tight_61 rfl ?_
  refine z_sub [2, 1, 0] rfl ?_
  exact hk4 t0 (x2 + (1 : Int32)) S h
set_option maxRecDepth 20000 in
theorem w_M_tight_48 {X : z_X} {A : Nat → Prop} {Ω : z_O} (hC : z_C X b_M_tight 5 "NodalAuctionModel" Ω) (hA : z_hA X A) (hR : z_R X (some .int)) (hM : z_rmOf X = z_rm 0 0) (n : Nat) (r : Int32 × z_S) (k4 : Int32 → Int32 → z_S → Option (Int32 × z_S)) (hk4 : ∀ (x1 : Int32) (x2 : Int32) (S : z_S), k4 x1 x2 S = some r → z_At X A (z_QI X Ω A r.1 (wM Ω r.2)) Ω 0 0 5 4 [(0, .ref (Ω.2.2 100)), (1, .int x1), (2, .int x2)] [] (wM Ω S)) (x1 : Int32) (x2 : Int32) (S : z_S) (h : f_M_tight_48 n k4 x1 x2 S = some r) : z_At X A (z_QI X Ω A r.1 (wM Ω r.2)) Ω 0 0 5 48 [(0, .ref (Ω.2.2 100)), (1, .int x1), (2, .int x2)] [] (wM Ω S) := by
  refine z_iload_n rfl 1 rfl hC d_M_tight_48 (q := 49) rfl ?_
  refine z_iconst (v := (1 : Int32)) (by decide) hC d_M_tight_49 (q := 50) rfl ?_
  refine z_iload_n rfl 2 rfl hC d_M_tight_50 (q := 51) rfl ?_
  refine z_ishl hC d_M_tight_51 (q := 52) rfl ?_
  refine z_iadd hC d_M_tight_52 (q := 53) rfl ?_
  refine z_goto (tgt := 57) hC d_M_tight_53 rfl ?_
  refine z_sub [0, 2] rfl ?_
  exact w_M_tight_57 hC hA hR hM n r k4 hk4 x2 (x1 + ((1 : Int32) <<< (x2 &&& 31))) S h
set_option maxRecDepth 20000 in
theorem w_M_tight_25 {X : z_X} {A : Nat → Prop} {Ω : z_O} (hC : z_C X b_M_tight 5 "NodalAuctionModel" Ω) (hA : z_hA X A) (hR : z_R X (some .int)) (hM : z_rmOf X = z_rm 0 0) (n : Nat) (r : Int32 × z_S) (k4 : Int32 → Int32 → z_S → Option (Int32 × z_S)) (hk4 : ∀ (x1 : Int32) (x2 : Int32) (S : z_S), k4 x1 x2 S = some r → z_At X A (z_QI X Ω A r.1 (wM Ω r.2)) Ω 0 0 5 4 [(0, .ref (Ω.2.2 100)), (1, .int x1), (2, .int x2)] [] (wM Ω S)) (x1 : Int32) (x2 : Int32) (x3 : Int64) (S : z_S) (h : f_M_tight_25 n k4 x1 x2 x3 S = some r) : z_At X A (z_QI X Ω A r.1 (wM Ω r.2)) Ω 0 0 5 25 [(0, .ref (Ω.2.2 100)), (1, .int x1), (2, .int x2), (3, .long x3)] [] (wM Ω S) := by
  refine z_aload_n rfl 0 rfl hC d_M_tight_25 (q := 26) rfl ?_
  refine gf_M_69_0 hC d_M_tight_26 (q := 29) rfl ?_
  refine z_iload_n rfl 2 rfl hC d_M_tight_29 (q := 30) rfl ?_
  obtain ⟨hv1, h⟩ := ck_some h
  refine al_wM_20 hC hv1 d_M_tight_30 (q := 31) rfl ?_
  refine z_lload_n rfl 3 rfl hC d_M_tight_31 (q := 32) rfl ?_
  refine z_lcmp_eq (pc1 := 33) (tgt := 48) (q := 36) hC d_M_tight_32 rfl d_M_tight_33 rfl rfl (fun hb => ?_) (fun hb => ?_)
  · have h := (if_pos hb).symm.trans h
    refine z_sub [0, 1, 2] rfl ?_
    exact w_M_tight_48 hC hA hR hM n r k4 hk4 x1 x2 S h
  · have h := (if_neg hb).symm.trans h
    refine z_aload_n rfl 0 rfl hC d_M_tight_36 (q := 37) rfl ?_
    refine gf_M_69_0 hC d_M_tight_37 (q := 40) rfl ?_
    refine z_iload_n rfl 2 rfl hC d_M_tight_40 (q := 41) rfl ?_
    obtain ⟨hv2, h⟩ := ck_some h
    refine al_wM_20 hC hv2 d_M_tight_41 (q := 42) rfl ?_
    refine z_lload_n rfl 3 rfl hC d_M_tight_42 (q := 43) rfl ?_
    refine z_lneg hC d_M_tight_43 (q := 44) rfl ?_
    refine z_lcmp_ne (pc1 := 45) (tgt := 56) (q := 48) hC d_M_tight_44 rfl d_M_tight_45 rfl rfl (fun hb => ?_) (fun hb => ?_)
    · have h := (if_neg hb).symm.trans h
      refine z_iload_n rfl 1 rfl hC d_M_tight_56 (q := 57) rfl ?_
      refine z_sub [0, 2] rfl ?_
      exact w_M_tight_57 hC hA hR hM n r k4 hk4 x2 x1 S h
    · have h := (if_pos hb).symm.trans h
      refine z_sub [0, 1, 2] rfl ?_
      exact w_M_tight_48 hC hA hR hM n r k4 hk4 x1 x2 S h
set_option maxRecDepth 20000 in
theorem w_M_tight_77 {X : z_X} {A : Nat → Prop} {Ω : z_O} (hC : z_C X b_M_tight 5 "NodalAuctionModel" Ω) (hA : z_hA X A) (hR : z_R X (some .int)) (hM : z_rmOf X = z_rm 0 0) (n : Nat) (r : Int32 × z_S) (t0 : Int32) (S : z_S) (h : f_M_tight_77 n t0 S = some r) : z_At X A (z_QI X Ω A r.1 (wM Ω r.2)) Ω 0 0 5 77 [(0, .ref (Ω.2.2 100))] [.int t0] (wM Ω S) := by
  cases h
  exact z_iret hC hR rfl rfl d_M_tight_77
set_option maxRecDepth 20000 in
theorem w_M_tight_4 {X : z_X} {A : Nat → Prop} {Ω : z_O} (hC : z_C X b_M_tight 5 "NodalAuctionModel" Ω) (hA : z_hA X A) (hR : z_R X (some .int)) (hM : z_rmOf X = z_rm 0 0) (n : Nat) (r : Int32 × z_S) : ∀ (q : Nat) (x1 : Int32) (x2 : Int32) (S : z_S), f_M_tight_4 n q x1 x2 S = some r → z_At X A (z_QI X Ω A r.1 (wM Ω r.2)) Ω 0 0 5 4 [(0, .ref (Ω.2.2 100)), (1, .int x1), (2, .int x2)] [] (wM Ω S) := by
  intro q
  induction q with
  | zero => intro x1 x2 S h; cases h
  | succ q ih =>
    intro x1 x2 S h
    refine z_iload_n rfl 2 rfl hC d_M_tight_4 (q := 5) rfl ?_
    refine z_aload_n rfl 0 rfl hC d_M_tight_5 (q := 6) rfl ?_
    refine gf_M_86_0 hC d_M_tight_6 (q := 9) rfl ?_
    refine z_icmp_ge (tgt := 64) (q := 12) hC d_M_tight_9 rfl rfl (fun hb => ?_) (fun hb => ?_)
    · have h := (if_pos hb).symm.trans h
      refine z_aload_n rfl 0 rfl hC d_M_tight_64 (q := 65) rfl ?_
      refine gf_M_90_0 hC d_M_tight_65 (q := 68) rfl ?_
      refine z_if_eq (tgt := 75) (q := 71) hC d_M_tight_68 rfl rfl (fun hb => ?_) (fun hb => ?_)
      · have h := (if_pos hb).symm.trans h
        refine z_ldc (v := (-2147483648 : Int32)) k_540 hC d_M_tight_75 (q := 77) rfl ?_
        refine z_sub [0] rfl ?_
        exact w_M_tight_77 hC hA hR hM n r (-2147483648 : Int32) S h
      · have h := (if_neg hb).symm.trans h
        refine z_iload_n rfl 1 rfl hC d_M_tight_71 (q := 72) rfl ?_
        refine z_goto (tgt := 77) hC d_M_tight_72 rfl ?_
        refine z_sub [0] rfl ?_
        exact w_M_tight_77 hC hA hR hM n r x1 S h
    · have h := (if_neg hb).symm.trans h
      refine z_aload_n rfl 0 rfl hC d_M_tight_12 (q := 13) rfl ?_
      refine gf_M_19_0 hC d_M_tight_13 (q := 16) rfl ?_
      refine z_iload_n rfl 2 rfl hC d_M_tight_16 (q := 17) rfl ?_
      obtain ⟨hv1, h⟩ := ck_some h
      refine al_wM_4 hC hv1 d_M_tight_17 (q := 18) rfl ?_
      refine z_i2l hC d_M_tight_18 (q := 19) rfl ?_
      refine z_aload_n rfl 0 rfl hC d_M_tight_19 (q := 20) rfl ?_
      refine gf_M_194_0 hC d_M_tight_20 (q := 23) rfl ?_
      refine z_lmul hC d_M_tight_23 (q := 24) rfl ?_
      refine z_lstore_n (lv' := [(3, .long (((gI S 3 x2.toNatClampNeg).toInt64) * (gG S 4))), (0, .ref (Ω.2.2 100)), (1, .int x1), (2, .int x2)]) rfl (by decide) rfl hC d_M_tight_24 (q := 25) rfl ?_
      refine z_sub [1, 2, 3, 0] rfl ?_
      exact w_M_tight_25 hC hA hR hM n r (f_M_tight_4 n q) ih x1 x2 (((gI S 3 x2.toNatClampNeg).toInt64) * (gG S 4)) S h
set_option maxRecDepth 20000 in
theorem w_M_tight {X : z_X} {A : Nat → Prop} {Ω : z_O} (hC : z_C X b_M_tight 5 "NodalAuctionModel" Ω) (hA : z_hA X A) (hR : z_R X (some .int)) (hM : z_rmOf X = z_rm 0 0) (n : Nat) (r : Int32 × z_S) (S : z_S) (h : f_M_tight n S = some r) : z_At X A (z_QI X Ω A r.1 (wM Ω r.2)) Ω 0 0 5 0 [(0, .ref (Ω.2.2 100))] [] (wM Ω S) := by
  refine z_iconst (v := (0 : Int32)) (by decide) hC d_M_tight_0 (q := 1) rfl ?_
  refine z_istore_n (lv' := [(1, .int (0 : Int32)), (0, .ref (Ω.2.2 100))]) rfl (by decide) rfl hC d_M_tight_1 (q := 2) rfl ?_
  refine z_iconst (v := (0 : Int32)) (by decide) hC d_M_tight_2 (q := 3) rfl ?_
  refine z_istore_n (lv' := [(2, .int (0 : Int32)), (1, .int (0 : Int32)), (0, .ref (Ω.2.2 100))]) rfl (by decide) rfl hC d_M_tight_3 (q := 4) rfl ?_
  refine z_sub [2, 1, 0] rfl ?_
  exact w_M_tight_4 hC hA hR hM n r n (0 : Int32) (0 : Int32) S h
theorem c_M_tight (l : Launch) (Ω : z_O) (n : Nat) (S : z_S) (r : Int32 × z_S) (h : f_M_tight n S = some r) : z_MI l Ω y_M_tight b_M_tight 5 .int 0 0 [.ref (Ω.2.2 100)] (wM Ω S) r.1 (wM Ω r.2) := z_introI (by decide +kernel) (Nat.le_of_ble_eq_true rfl) rfl (fun X A hC hA hR _ hM => w_M_tight hC hA hR hM n r S h)
def f_M_welfare_17 (n : Nat) (t0 : Int64) (S : z_S) : Option (Int64 × z_S) := some (t0, S)
def f_M_welfare (n : Nat) (S : z_S) : Option (Int64 × z_S) := (if (gF S 4) = 0 then f_M_welfare_17 n (-1 : Int64) S else f_M_welfare_17 n (gG S 5) S)
set_option maxRecDepth 20000 in
theorem w_M_welfare_17 {X : z_X} {A : Nat → Prop} {Ω : z_O} (hC : z_C X b_M_welfare 1 "NodalAuctionModel" Ω) (hA : z_hA X A) (hR : z_R X (some .long)) (hM : z_rmOf X = z_rm 0 0) (n : Nat) (r : Int64 × z_S) (t0 : Int64) (S : z_S) (h : f_M_welfare_17 n t0 S = some r) : z_At X A (z_QL X Ω A r.1 (wM Ω r.2)) Ω 0 0 1 17 [(0, .ref (Ω.2.2 100))] [.long t0] (wM Ω S) := by
  cases h
  exact z_lret hC hR rfl rfl d_M_welfare_17
set_option maxRecDepth 20000 in
theorem w_M_welfare {X : z_X} {A : Nat → Prop} {Ω : z_O} (hC : z_C X b_M_welfare 1 "NodalAuctionModel" Ω) (hA : z_hA X A) (hR : z_R X (some .long)) (hM : z_rmOf X = z_rm 0 0) (n : Nat) (r : Int64 × z_S) (S : z_S) (h : f_M_welfare n S = some r) : z_At X A (z_QL X Ω A r.1 (wM Ω r.2)) Ω 0 0 1 0 [(0, .ref (Ω.2.2 100))] [] (wM Ω S) := by
  refine z_aload_n rfl 0 rfl hC d_M_welfare_0 (q := 1) rfl ?_
  refine gf_M_90_0 hC d_M_welfare_1 (q := 4) rfl ?_
  refine z_if_eq (tgt := 14) (q := 7) hC d_M_welfare_4 rfl rfl (fun hb => ?_) (fun hb => ?_)
  · have h := (if_pos hb).symm.trans h
    refine z_ldc2 (v := (-1 : Int64)) k_617 hC d_M_welfare_14 (q := 17) rfl ?_
    exact w_M_welfare_17 hC hA hR hM n r (-1 : Int64) S h
  · have h := (if_neg hb).symm.trans h
    refine z_aload_n rfl 0 rfl hC d_M_welfare_7 (q := 8) rfl ?_
    refine gf_M_197_0 hC d_M_welfare_8 (q := 11) rfl ?_
    refine z_goto (tgt := 17) hC d_M_welfare_11 rfl ?_
    exact w_M_welfare_17 hC hA hR hM n r (gG S 5) S h
theorem c_M_welfare (l : Launch) (Ω : z_O) (n : Nat) (S : z_S) (r : Int64 × z_S) (h : f_M_welfare n S = some r) : z_ML l Ω y_M_welfare b_M_welfare 1 .long 0 0 [.ref (Ω.2.2 100)] (wM Ω S) r.1 (wM Ω r.2) := z_introL (by decide +kernel) (Nat.le_of_ble_eq_true rfl) rfl (fun X A hC hA hR _ hM => w_M_welfare hC hA hR hM n r S h)
def f_M_extra_16 (n : Nat) (S : z_S) : Option (Int32 × z_S) := some ((0 : Int32), S)
def f_M_extra_122 (n : Nat) (S : z_S) : Option (Int32 × z_S) := some ((1 : Int32), S)
def f_M_extra_82 (n : Nat) (x1 : Int32) (x2 : Int64) (S : z_S) : Option (Int32 × z_S) := bo (f_M_divisor n x2 ((gG S 4) * (gG S 2)) S) (fun v96 S96 => ck (vn v96) (ck (vi x1 4) (ck (vn v96) (ck (vi x1 4) (f_M_extra_122 n (sJ (sJ S96 10 (vp_updL (gJ S96 10) x1.toNatClampNeg (x2 / v96))) 11 (vp_updL (gJ (sJ S96 10 (vp_updL (gJ S96 10) x1.toNatClampNeg (x2 / v96))) 11) x1.toNatClampNeg (((gG S 4) * (gG S 2)) / v96))))))))
def f_M_extra_43 (n : Nat) (x1 : Int32) (S : z_S) : Option (Int32 × z_S) := ck (vi x1 4) (bo (f_M_search n x1 (sJ S 11 (vp_updL (gJ S 11) x1.toNatClampNeg (0 : Int64)))) (fun _ S52 => (if (gF S52 3) = 0 then f_M_extra_122 n S52 else f_M_extra_82 n x1 (((gG S52 5) * (gG S52 2)) - ((gG S52 3) * (gG S52 4))) S52)))
def f_M_extra (n : Nat) (x1 : Int32) (S : z_S) : Option (Int32 × z_S) := (if (gF S 4) = 0 then f_M_extra_16 n S else bo (f_M_within n x1 (0 : Int32) (3 : Int32) S) (fun v10 S10 => (if v10 = 0 then f_M_extra_16 n S10 else ck (vi x1 4) ((if (gI S10 10 x1.toNatClampNeg) = 0 then ck (vi x1 4) (ck (vi x1 4) (f_M_extra_43 n x1 (sJ (sI S10 10 (upd (gI S10 10) x1.toNatClampNeg (vp_nar .boolean (1 : Int32)))) 10 (vp_updL (gJ (sI S10 10 (upd (gI S10 10) x1.toNatClampNeg (vp_nar .boolean (1 : Int32)))) 10) x1.toNatClampNeg (0 : Int64))))) else some ((1 : Int32), S10))))))
set_option maxRecDepth 20000 in
theorem w_M_extra_16 {X : z_X} {A : Nat → Prop} {Ω : z_O} (hC : z_C X b_M_extra 8 "NodalAuctionModel" Ω) (hA : z_hA X A) (hR : z_R X (some .boolean)) (hM : z_rmOf X = z_rm 5 138) (n : Nat) (r : Int32 × z_S) (S : z_S) (h : f_M_extra_16 n S = some r) : z_At X A (z_QI X Ω A r.1 (wM Ω r.2)) Ω 0 0 8 16 [(0, .ref (Ω.2.2 100))] [] (wM Ω S) := by
  refine z_iconst (v := (0 : Int32)) (by decide) hC d_M_extra_16 (q := 17) rfl ?_
  cases h
  exact z_zret hC hR (by decide) rfl rfl d_M_extra_17
set_option maxRecDepth 20000 in
theorem w_M_extra_122 {X : z_X} {A : Nat → Prop} {Ω : z_O} (hC : z_C X b_M_extra 8 "NodalAuctionModel" Ω) (hA : z_hA X A) (hR : z_R X (some .boolean)) (hM : z_rmOf X = z_rm 5 138) (n : Nat) (r : Int32 × z_S) (S : z_S) (h : f_M_extra_122 n S = some r) : z_At X A (z_QI X Ω A r.1 (wM Ω r.2)) Ω 0 0 8 122 [(0, .ref (Ω.2.2 100))] [] (wM Ω S) := by
  refine z_iconst (v := (1 : Int32)) (by decide) hC d_M_extra_122 (q := 123) rfl ?_
  cases h
  exact z_zret hC hR (by decide) rfl rfl d_M_extra_123
set_option maxRecDepth 20000 in
theorem w_M_extra_82 {X : z_X} {A : Nat → Prop} {Ω : z_O} (hC : z_C X b_M_extra 8 "NodalAuctionModel" Ω) (hA : z_hA X A) (hR : z_R X (some .boolean)) (hM : z_rmOf X = z_rm 5 138) (n : Nat) (r : Int32 × z_S) (x1 : Int32) (x2 : Int64) (S : z_S) (h : f_M_extra_82 n x1 x2 S = some r) : z_At X A (z_QI X Ω A r.1 (wM Ω r.2)) Ω 0 0 8 82 [(0, .ref (Ω.2.2 100)), (1, .int x1), (2, .long x2)] [] (wM Ω S) := by
  refine z_aload_n rfl 0 rfl hC d_M_extra_82 (q := 83) rfl ?_
  refine gf_M_194_0 hC d_M_extra_83 (q := 86) rfl ?_
  refine z_aload_n rfl 0 rfl hC d_M_extra_86 (q := 87) rfl ?_
  refine gf_M_150_0 hC d_M_extra_87 (q := 90) rfl ?_
  refine z_lmul hC d_M_extra_90 (q := 91) rfl ?_
  refine z_lstore (lv' := [(4, .long ((gG S 4) * (gG S 2))), (0, .ref (Ω.2.2 100)), (1, .int x1), (2, .long x2)]) (by decide) rfl hC d_M_extra_91 (q := 93) rfl ?_
  refine z_lload_n rfl 3 rfl hC d_M_extra_93 (q := 94) rfl ?_
  refine z_lload 0 rfl hC d_M_extra_94 (q := 96) rfl ?_
  obtain ⟨v96, S96, hc96, h⟩ := bo_some h
  refine z_callSl (As := [.long x2, .long ((gG S 4) * (gG S 2))]) hC hA (c_M_divisor (z_lOf X) Ω n x2 ((gG S 4) * (gG S 2)) S (v96, S96) hc96) k_648 k_646 k_647 k_6 h_M_divisor (by rw [hM]; exact ⟨Nat.le_of_ble_eq_true rfl, Nat.le_of_ble_eq_true rfl⟩) ⟨Nat.zero_le _, Nat.zero_le _⟩ rfl (Nat.le_of_ble_eq_true rfl) rfl d_M_extra_96 (q := 99) rfl ?_
  refine z_lstore (lv' := [(6, .long v96), (4, .long ((gG S 4) * (gG S 2))), (0, .ref (Ω.2.2 100)), (1, .int x1), (2, .long x2)]) (by decide) rfl hC d_M_extra_99 (q := 101) rfl ?_
  refine z_aload_n rfl 2 rfl hC d_M_extra_101 (q := 102) rfl ?_
  refine gf_M_75_0 hC d_M_extra_102 (q := 105) rfl ?_
  refine z_iload_n rfl 3 rfl hC d_M_extra_105 (q := 106) rfl ?_
  refine z_lload_n rfl 4 rfl hC d_M_extra_106 (q := 107) rfl ?_
  refine z_lload 0 rfl hC d_M_extra_107 (q := 109) rfl ?_
  obtain ⟨hv1, h⟩ := ck_some h
  refine z_ldiv hv1 hC d_M_extra_109 (q := 110) rfl ?_
  obtain ⟨hv2, h⟩ := ck_some h
  refine as_wM_22 hC hv2 d_M_extra_110 (q := 111) rfl ?_
  refine z_aload_n rfl 2 rfl hC d_M_extra_111 (q := 112) rfl ?_
  refine gf_M_78_0 hC d_M_extra_112 (q := 115) rfl ?_
  refine z_iload_n rfl 3 rfl hC d_M_extra_115 (q := 116) rfl ?_
  refine z_lload 1 rfl hC d_M_extra_116 (q := 118) rfl ?_
  refine z_lload 0 rfl hC d_M_extra_118 (q := 120) rfl ?_
  obtain ⟨hv3, h⟩ := ck_some h
  refine z_ldiv hv3 hC d_M_extra_120 (q := 121) rfl ?_
  obtain ⟨hv4, h⟩ := ck_some h
  refine as_wM_23 hC hv4 d_M_extra_121 (q := 122) rfl ?_
  refine z_sub [2] rfl ?_
  exact w_M_extra_122 hC hA hR hM n r (sJ (sJ S96 10 (vp_updL (gJ S96 10) x1.toNatClampNeg (x2 / v96))) 11 (vp_updL (gJ (sJ S96 10 (vp_updL (gJ S96 10) x1.toNatClampNeg (x2 / v96))) 11) x1.toNatClampNeg (((gG S 4) * (gG S 2)) / v96))) h
set_option maxRecDepth 20000 in
theorem w_M_extra_43 {X : z_X} {A : Nat → Prop} {Ω : z_O} (hC : z_C X b_M_extra 8 "NodalAuctionModel" Ω) (hA : z_hA X A) (hR : z_R X (some .boolean)) (hM : z_rmOf X = z_rm 5 138) (n : Nat) (r : Int32 × z_S) (x1 : Int32) (S : z_S) (h : f_M_extra_43 n x1 S = some r) : z_At X A (z_QI X Ω A r.1 (wM Ω r.2)) Ω 0 0 8 43 [(0, .ref (Ω.2.2 100)), (1, .int x1)] [] (wM Ω S) := by
  refine z_aload_n rfl 0 rfl hC d_M_extra_43 (q := 44) rfl ?_
  refine gf_M_78_0 hC d_M_extra_44 (q := 47) rfl ?_
  refine z_iload_n rfl 1 rfl hC d_M_extra_47 (q := 48) rfl ?_
  refine z_lconst (v := (0 : Int64)) (by decide) hC d_M_extra_48 (q := 49) rfl ?_
  obtain ⟨hv1, h⟩ := ck_some h
  refine as_wM_23 hC hv1 d_M_extra_49 (q := 50) rfl ?_
  refine z_aload_n rfl 0 rfl hC d_M_extra_50 (q := 51) rfl ?_
  refine z_iload_n rfl 1 rfl hC d_M_extra_51 (q := 52) rfl ?_
  obtain ⟨v52, S52, hc52, h⟩ := bo_some h
  refine z_callVv (q0 := 0) (As := [.int x1]) hC hA (c_M_search (z_lOf X) Ω n x1 (sJ S 11 (vp_updL (gJ S 11) x1.toNatClampNeg (0 : Int64))) (v52, S52) hc52) k_576 k_573 k_575 ks_39 k_6 h_M_search (by rw [hM]; exact ⟨Nat.le_of_ble_eq_true rfl, Nat.le_of_ble_eq_true rfl⟩) ⟨Nat.zero_le _, Nat.zero_le _⟩ rfl rfl rfl (Nat.le_of_ble_eq_true rfl) rfl d_M_extra_52 (q := 55) rfl ?_
  refine z_aload_n rfl 0 rfl hC d_M_extra_55 (q := 56) rfl ?_
  refine gf_M_147_0 hC d_M_extra_56 (q := 59) rfl ?_
  refine z_if_eq (tgt := 122) (q := 62) hC d_M_extra_59 rfl rfl (fun hb => ?_) (fun hb => ?_)
  · have h := (if_pos hb).symm.trans h
    refine z_sub [0] rfl ?_
    exact w_M_extra_122 hC hA hR hM n r S52 h
  · have h := (if_neg hb).symm.trans h
    refine z_aload_n rfl 0 rfl hC d_M_extra_62 (q := 63) rfl ?_
    refine gf_M_197_0 hC d_M_extra_63 (q := 66) rfl ?_
    refine z_aload_n rfl 0 rfl hC d_M_extra_66 (q := 67) rfl ?_
    refine gf_M_150_0 hC d_M_extra_67 (q := 70) rfl ?_
    refine z_lmul hC d_M_extra_70 (q := 71) rfl ?_
    refine z_aload_n rfl 0 rfl hC d_M_extra_71 (q := 72) rfl ?_
    refine gf_M_153_0 hC d_M_extra_72 (q := 75) rfl ?_
    refine z_aload_n rfl 0 rfl hC d_M_extra_75 (q := 76) rfl ?_
    refine gf_M_194_0 hC d_M_extra_76 (q := 79) rfl ?_
    refine z_lmul hC d_M_extra_79 (q := 80) rfl ?_
    refine z_lsub hC d_M_extra_80 (q := 81) rfl ?_
    refine z_lstore_n (lv' := [(2, .long (((gG S52 5) * (gG S52 2)) - ((gG S52 3) * (gG S52 4)))), (0, .ref (Ω.2.2 100)), (1, .int x1)]) rfl (by decide) rfl hC d_M_extra_81 (q := 82) rfl ?_
    refine z_sub [1, 2, 0] rfl ?_
    exact w_M_extra_82 hC hA hR hM n r x1 (((gG S52 5) * (gG S52 2)) - ((gG S52 3) * (gG S52 4))) S52 h
set_option maxRecDepth 20000 in
theorem w_M_extra {X : z_X} {A : Nat → Prop} {Ω : z_O} (hC : z_C X b_M_extra 8 "NodalAuctionModel" Ω) (hA : z_hA X A) (hR : z_R X (some .boolean)) (hM : z_rmOf X = z_rm 5 138) (n : Nat) (r : Int32 × z_S) (x1 : Int32) (S : z_S) (h : f_M_extra n x1 S = some r) : z_At X A (z_QI X Ω A r.1 (wM Ω r.2)) Ω 0 0 8 0 [(0, .ref (Ω.2.2 100)), (1, .int x1)] [] (wM Ω S) := by
  refine z_aload_n rfl 0 rfl hC d_M_extra_0 (q := 1) rfl ?_
  refine gf_M_90_0 hC d_M_extra_1 (q := 4) rfl ?_
  refine z_if_eq (tgt := 16) (q := 7) hC d_M_extra_4 rfl rfl (fun hb => ?_) (fun hb => ?_)
  · have h := (if_pos hb).symm.trans h
    refine z_sub [0] rfl ?_
    exact w_M_extra_16 hC hA hR hM n r S h
  · have h := (if_neg hb).symm.trans h
    refine z_iload_n rfl 1 rfl hC d_M_extra_7 (q := 8) rfl ?_
    refine z_iconst (v := (0 : Int32)) (by decide) hC d_M_extra_8 (q := 9) rfl ?_
    refine z_iconst (v := (3 : Int32)) (by decide) hC d_M_extra_9 (q := 10) rfl ?_
    obtain ⟨v10, S10, hc10, h⟩ := bo_some h
    refine z_callSi (As := [.int x1, .int (0 : Int32), .int (3 : Int32)]) hC hA (c_M_within (z_lOf X) Ω n x1 (0 : Int32) (3 : Int32) S (v10, S10) hc10) k_539 k_537 k_538 k_6 h_M_within (by rw [hM]; exact ⟨Nat.le_of_ble_eq_true rfl, Nat.le_of_ble_eq_true rfl⟩) ⟨Nat.zero_le _, Nat.zero_le _⟩ rfl (Nat.le_of_ble_eq_true rfl) rfl d_M_extra_10 (q := 13) rfl ?_
    refine z_if_ne (tgt := 18) (q := 16) hC d_M_extra_13 rfl rfl (fun hb => ?_) (fun hb => ?_)
    · have h := (if_neg hb).symm.trans h
      refine z_aload_n rfl 0 rfl hC d_M_extra_18 (q := 19) rfl ?_
      refine gf_M_72_0 hC d_M_extra_19 (q := 22) rfl ?_
      refine z_iload_n rfl 1 rfl hC d_M_extra_22 (q := 23) rfl ?_
      obtain ⟨hv1, h⟩ := ck_some h
      refine al_wM_21 hC hv1 d_M_extra_23 (q := 24) rfl ?_
      refine z_if_eq (tgt := 29) (q := 27) hC d_M_extra_24 rfl rfl (fun hb => ?_) (fun hb => ?_)
      · have h := (if_pos hb).symm.trans h
        refine z_aload_n rfl 0 rfl hC d_M_extra_29 (q := 30) rfl ?_
        refine gf_M_72_0 hC d_M_extra_30 (q := 33) rfl ?_
        refine z_iload_n rfl 1 rfl hC d_M_extra_33 (q := 34) rfl ?_
        refine z_iconst (v := (1 : Int32)) (by decide) hC d_M_extra_34 (q := 35) rfl ?_
        obtain ⟨hv2, h⟩ := ck_some h
        refine as_wM_21 hC hv2 d_M_extra_35 (q := 36) rfl ?_
        refine z_aload_n rfl 0 rfl hC d_M_extra_36 (q := 37) rfl ?_
        refine gf_M_75_0 hC d_M_extra_37 (q := 40) rfl ?_
        refine z_iload_n rfl 1 rfl hC d_M_extra_40 (q := 41) rfl ?_
        refine z_lconst (v := (0 : Int64)) (by decide) hC d_M_extra_41 (q := 42) rfl ?_
        obtain ⟨hv3, h⟩ := ck_some h
        refine as_wM_22 hC hv3 d_M_extra_42 (q := 43) rfl ?_
        exact w_M_extra_43 hC hA hR hM n r x1 (sJ (sI S10 10 (upd (gI S10 10) x1.toNatClampNeg (vp_nar .boolean (1 : Int32)))) 10 (vp_updL (gJ (sI S10 10 (upd (gI S10 10) x1.toNatClampNeg (vp_nar .boolean (1 : Int32)))) 10) x1.toNatClampNeg (0 : Int64))) h
      · have h := (if_neg hb).symm.trans h
        refine z_iconst (v := (1 : Int32)) (by decide) hC d_M_extra_27 (q := 28) rfl ?_
        cases h
        exact z_zret hC hR (by decide) rfl rfl d_M_extra_28
    · have h := (if_pos hb).symm.trans h
      refine z_sub [0] rfl ?_
      exact w_M_extra_16 hC hA hR hM n r S10 h
theorem c_M_extra (l : Launch) (Ω : z_O) (n : Nat) (x1 : Int32) (S : z_S) (r : Int32 × z_S) (h : f_M_extra n x1 S = some r) : z_MI l Ω y_M_extra b_M_extra 8 .boolean 5 138 [.ref (Ω.2.2 100), .int x1] (wM Ω S) r.1 (wM Ω r.2) := z_introI (by decide +kernel) (Nat.le_of_ble_eq_true rfl) rfl (fun X A hC hA hR _ hM => w_M_extra hC hA hR hM n r x1 S h)
def f_M_extraTop_18 (n : Nat) (t0 : Int64) (S : z_S) : Option (Int64 × z_S) := some (t0, S)
def f_M_extraTop (n : Nat) (x1 : Int32) (S : z_S) : Option (Int64 × z_S) := bo (f_M_extra n x1 S) (fun v2 S2 => (if v2 = 0 then f_M_extraTop_18 n (0 : Int64) S2 else ck (vi x1 4) (f_M_extraTop_18 n (gJ S2 10 x1.toNatClampNeg) S2)))
set_option maxRecDepth 20000 in
theorem w_M_extraTop_18 {X : z_X} {A : Nat → Prop} {Ω : z_O} (hC : z_C X b_M_extraTop 2 "NodalAuctionModel" Ω) (hA : z_hA X A) (hR : z_R X (some .long)) (hM : z_rmOf X = z_rm 6 165) (n : Nat) (r : Int64 × z_S) (t0 : Int64) (S : z_S) (h : f_M_extraTop_18 n t0 S = some r) : z_At X A (z_QL X Ω A r.1 (wM Ω r.2)) Ω 0 0 2 18 [(0, .ref (Ω.2.2 100))] [.long t0] (wM Ω S) := by
  cases h
  exact z_lret hC hR rfl rfl d_M_extraTop_18
set_option maxRecDepth 20000 in
theorem w_M_extraTop {X : z_X} {A : Nat → Prop} {Ω : z_O} (hC : z_C X b_M_extraTop 2 "NodalAuctionModel" Ω) (hA : z_hA X A) (hR : z_R X (some .long)) (hM : z_rmOf X = z_rm 6 165) (n : Nat) (r : Int64 × z_S) (x1 : Int32) (S : z_S) (h : f_M_extraTop n x1 S = some r) : z_At X A (z_QL X Ω A r.1 (wM Ω r.2)) Ω 0 0 2 0 [(0, .ref (Ω.2.2 100)), (1, .int x1)] [] (wM Ω S) := by
  refine z_aload_n rfl 0 rfl hC d_M_extraTop_0 (q := 1) rfl ?_
  refine z_iload_n rfl 1 rfl hC d_M_extraTop_1 (q := 2) rfl ?_
  obtain ⟨v2, S2, hc2, h⟩ := bo_some h
  refine z_callVi (q0 := 0) (As := [.int x1]) hC hA (c_M_extra (z_lOf X) Ω n x1 S (v2, S2) hc2) k_685 k_682 k_684 ks_57 k_6 h_M_extra (by rw [hM]; exact ⟨Nat.le_of_ble_eq_true rfl, Nat.le_of_ble_eq_true rfl⟩) ⟨Nat.zero_le _, Nat.zero_le _⟩ rfl rfl rfl (Nat.le_of_ble_eq_true rfl) rfl d_M_extraTop_2 (q := 5) rfl ?_
  refine z_if_eq (tgt := 17) (q := 8) hC d_M_extraTop_5 rfl rfl (fun hb => ?_) (fun hb => ?_)
  · have h := (if_pos hb).symm.trans h
    refine z_lconst (v := (0 : Int64)) (by decide) hC d_M_extraTop_17 (q := 18) rfl ?_
    refine z_sub [0] rfl ?_
    exact w_M_extraTop_18 hC hA hR hM n r (0 : Int64) S2 h
  · have h := (if_neg hb).symm.trans h
    refine z_aload_n rfl 0 rfl hC d_M_extraTop_8 (q := 9) rfl ?_
    refine gf_M_75_0 hC d_M_extraTop_9 (q := 12) rfl ?_
    refine z_iload_n rfl 1 rfl hC d_M_extraTop_12 (q := 13) rfl ?_
    obtain ⟨hv1, h⟩ := ck_some h
    refine al_wM_22 hC hv1 d_M_extraTop_13 (q := 14) rfl ?_
    refine z_goto (tgt := 18) hC d_M_extraTop_14 rfl ?_
    refine z_sub [0] rfl ?_
    exact w_M_extraTop_18 hC hA hR hM n r (gJ S2 10 x1.toNatClampNeg) S2 h
theorem c_M_extraTop (l : Launch) (Ω : z_O) (n : Nat) (x1 : Int32) (S : z_S) (r : Int64 × z_S) (h : f_M_extraTop n x1 S = some r) : z_ML l Ω y_M_extraTop b_M_extraTop 2 .long 6 165 [.ref (Ω.2.2 100), .int x1] (wM Ω S) r.1 (wM Ω r.2) := z_introL (by decide +kernel) (Nat.le_of_ble_eq_true rfl) rfl (fun X A hC hA hR _ hM => w_M_extraTop hC hA hR hM n r x1 S h)
def f_M_extraBottom_19 (n : Nat) (t0 : Int32) (S : z_S) : Option (Int32 × z_S) := some (t0, S)
def f_M_extraBottom (n : Nat) (x1 : Int32) (S : z_S) : Option (Int32 × z_S) := bo (f_M_extra n x1 S) (fun v2 S2 => (if v2 = 0 then f_M_extraBottom_19 n (0 : Int32) S2 else ck (vi x1 4) (f_M_extraBottom_19 n ((gJ S2 11 x1.toNatClampNeg).toInt32) S2)))
set_option maxRecDepth 20000 in
theorem w_M_extraBottom_19 {X : z_X} {A : Nat → Prop} {Ω : z_O} (hC : z_C X b_M_extraBottom 2 "NodalAuctionModel" Ω) (hA : z_hA X A) (hR : z_R X (some .int)) (hM : z_rmOf X = z_rm 6 165) (n : Nat) (r : Int32 × z_S) (t0 : Int32) (S : z_S) (h : f_M_extraBottom_19 n t0 S = some r) : z_At X A (z_QI X Ω A r.1 (wM Ω r.2)) Ω 0 0 2 19 [(0, .ref (Ω.2.2 100))] [.int t0] (wM Ω S) := by
  cases h
  exact z_iret hC hR rfl rfl d_M_extraBottom_19
set_option maxRecDepth 20000 in
theorem w_M_extraBottom {X : z_X} {A : Nat → Prop} {Ω : z_O} (hC : z_C X b_M_extraBottom 2 "NodalAuctionModel" Ω) (hA : z_hA X A) (hR : z_R X (some .int)) (hM : z_rmOf X = z_rm 6 165) (n : Nat) (r : Int32 × z_S) (x1 : Int32) (S : z_S) (h : f_M_extraBottom n x1 S = some r) : z_At X A (z_QI X Ω A r.1 (wM Ω r.2)) Ω 0 0 2 0 [(0, .ref (Ω.2.2 100)), (1, .int x1)] [] (wM Ω S) := by
  refine z_aload_n rfl 0 rfl hC d_M_extraBottom_0 (q := 1) rfl ?_
  refine z_iload_n rfl 1 rfl hC d_M_extraBottom_1 (q := 2) rfl ?_
  obtain ⟨v2, S2, hc2, h⟩ := bo_some h
  refine z_callVi (q0 := 0) (As := [.int x1]) hC hA (c_M_extra (z_lOf X) Ω n x1 S (v2, S2) hc2) k_685 k_682 k_684 ks_57 k_6 h_M_extra (by rw [hM]; exact ⟨Nat.le_of_ble_eq_true rfl, Nat.le_of_ble_eq_true rfl⟩) ⟨Nat.zero_le _, Nat.zero_le _⟩ rfl rfl rfl (Nat.le_of_ble_eq_true rfl) rfl d_M_extraBottom_2 (q := 5) rfl ?_
  refine z_if_eq (tgt := 18) (q := 8) hC d_M_extraBottom_5 rfl rfl (fun hb => ?_) (fun hb => ?_)
  · have h := (if_pos hb).symm.trans h
    refine z_iconst (v := (0 : Int32)) (by decide) hC d_M_extraBottom_18 (q := 19) rfl ?_
    refine z_sub [0] rfl ?_
    exact w_M_extraBottom_19 hC hA hR hM n r (0 : Int32) S2 h
  · have h := (if_neg hb).symm.trans h
    refine z_aload_n rfl 0 rfl hC d_M_extraBottom_8 (q := 9) rfl ?_
    refine gf_M_78_0 hC d_M_extraBottom_9 (q := 12) rfl ?_
    refine z_iload_n rfl 1 rfl hC d_M_extraBottom_12 (q := 13) rfl ?_
    obtain ⟨hv1, h⟩ := ck_some h
    refine al_wM_23 hC hv1 d_M_extraBottom_13 (q := 14) rfl ?_
    refine z_l2i hC d_M_extraBottom_14 (q := 15) rfl ?_
    refine z_goto (tgt := 19) hC d_M_extraBottom_15 rfl ?_
    refine z_sub [0] rfl ?_
    exact w_M_extraBottom_19 hC hA hR hM n r ((gJ S2 11 x1.toNatClampNeg).toInt32) S2 h
theorem c_M_extraBottom (l : Launch) (Ω : z_O) (n : Nat) (x1 : Int32) (S : z_S) (r : Int32 × z_S) (h : f_M_extraBottom n x1 S = some r) : z_MI l Ω y_M_extraBottom b_M_extraBottom 2 .int 6 165 [.ref (Ω.2.2 100), .int x1] (wM Ω S) r.1 (wM Ω r.2) := z_introI (by decide +kernel) (Nat.le_of_ble_eq_true rfl) rfl (fun X A hC hA hR _ hM => w_M_extraBottom hC hA hR hM n r x1 S h)
def f_M_bad_65 (n : Nat) (t0 : Int32) (S : z_S) : Option (Int32 × z_S) := ck (vz t0) (some (t0, S))
def f_M_bad_60 (n : Nat) (S : z_S) : Option (Int32 × z_S) := f_M_bad_65 n (1 : Int32) S
def f_M_bad (n : Nat) (x1 : Int32) (x2 : Int32) (x3 : Int32) (x4 : Int32) (S : z_S) : Option (Int32 × z_S) := (if (gF S 4) = 0 then f_M_bad_60 n S else bo (f_M_within n x1 (-2000 : Int32) (2000 : Int32) S) (fun v14 S14 => (if v14 = 0 then f_M_bad_60 n S14 else bo (f_M_within n x2 (-2000 : Int32) (2000 : Int32) S14) (fun v27 S27 => (if v27 = 0 then f_M_bad_60 n S27 else bo (f_M_within n x3 (-2000 : Int32) (2000 : Int32) S27) (fun v40 S40 => (if v40 = 0 then f_M_bad_60 n S40 else bo (f_M_within n x4 (-2000 : Int32) (2000 : Int32) S40) (fun v54 S54 => (if v54 = 0 then f_M_bad_60 n S54 else f_M_bad_65 n (0 : Int32) S54)))))))))
set_option maxRecDepth 20000 in
theorem w_M_bad_65 {X : z_X} {A : Nat → Prop} {Ω : z_O} (hC : z_C X b_M_bad 5 "NodalAuctionModel" Ω) (hA : z_hA X A) (hR : z_R X (some .boolean)) (hM : z_rmOf X = z_rm 1 22) (n : Nat) (r : Int32 × z_S) (t0 : Int32) (S : z_S) (h : f_M_bad_65 n t0 S = some r) : z_At X A (z_QI X Ω A r.1 (wM Ω r.2)) Ω 0 0 5 65 [(0, .ref (Ω.2.2 100))] [.int t0] (wM Ω S) := by
  obtain ⟨hv1, h⟩ := ck_some h
  cases h
  exact z_zret hC hR hv1 rfl rfl d_M_bad_65
set_option maxRecDepth 20000 in
theorem w_M_bad_60 {X : z_X} {A : Nat → Prop} {Ω : z_O} (hC : z_C X b_M_bad 5 "NodalAuctionModel" Ω) (hA : z_hA X A) (hR : z_R X (some .boolean)) (hM : z_rmOf X = z_rm 1 22) (n : Nat) (r : Int32 × z_S) (S : z_S) (h : f_M_bad_60 n S = some r) : z_At X A (z_QI X Ω A r.1 (wM Ω r.2)) Ω 0 0 5 60 [(0, .ref (Ω.2.2 100))] [] (wM Ω S) := by
  refine z_iconst (v := (1 : Int32)) (by decide) hC d_M_bad_60 (q := 61) rfl ?_
  refine z_goto (tgt := 65) hC d_M_bad_61 rfl ?_
  exact w_M_bad_65 hC hA hR hM n r (1 : Int32) S h
set_option maxRecDepth 20000 in
theorem w_M_bad {X : z_X} {A : Nat → Prop} {Ω : z_O} (hC : z_C X b_M_bad 5 "NodalAuctionModel" Ω) (hA : z_hA X A) (hR : z_R X (some .boolean)) (hM : z_rmOf X = z_rm 1 22) (n : Nat) (r : Int32 × z_S) (x1 : Int32) (x2 : Int32) (x3 : Int32) (x4 : Int32) (S : z_S) (h : f_M_bad n x1 x2 x3 x4 S = some r) : z_At X A (z_QI X Ω A r.1 (wM Ω r.2)) Ω 0 0 5 0 [(0, .ref (Ω.2.2 100)), (1, .int x1), (2, .int x2), (3, .int x3), (4, .int x4)] [] (wM Ω S) := by
  refine z_aload_n rfl 0 rfl hC d_M_bad_0 (q := 1) rfl ?_
  refine gf_M_90_0 hC d_M_bad_1 (q := 4) rfl ?_
  refine z_if_eq (tgt := 60) (q := 7) hC d_M_bad_4 rfl rfl (fun hb => ?_) (fun hb => ?_)
  · have h := (if_pos hb).symm.trans h
    refine z_sub [0] rfl ?_
    exact w_M_bad_60 hC hA hR hM n r S h
  · have h := (if_neg hb).symm.trans h
    refine z_iload_n rfl 1 rfl hC d_M_bad_7 (q := 8) rfl ?_
    refine z_sipush (v := (-2000 : Int32)) (by decide) hC d_M_bad_8 (q := 11) rfl ?_
    refine z_sipush (v := (2000 : Int32)) (by decide) hC d_M_bad_11 (q := 14) rfl ?_
    obtain ⟨v14, S14, hc14, h⟩ := bo_some h
    refine z_callSi (As := [.int x1, .int (-2000 : Int32), .int (2000 : Int32)]) hC hA (c_M_within (z_lOf X) Ω n x1 (-2000 : Int32) (2000 : Int32) S (v14, S14) hc14) k_539 k_537 k_538 k_6 h_M_within (by rw [hM]; exact ⟨Nat.le_of_ble_eq_true rfl, Nat.le_of_ble_eq_true rfl⟩) ⟨Nat.zero_le _, Nat.zero_le _⟩ rfl (Nat.le_of_ble_eq_true rfl) rfl d_M_bad_14 (q := 17) rfl ?_
    refine z_if_eq (tgt := 60) (q := 20) hC d_M_bad_17 rfl rfl (fun hb => ?_) (fun hb => ?_)
    · have h := (if_pos hb).symm.trans h
      refine z_sub [0] rfl ?_
      exact w_M_bad_60 hC hA hR hM n r S14 h
    · have h := (if_neg hb).symm.trans h
      refine z_iload_n rfl 2 rfl hC d_M_bad_20 (q := 21) rfl ?_
      refine z_sipush (v := (-2000 : Int32)) (by decide) hC d_M_bad_21 (q := 24) rfl ?_
      refine z_sipush (v := (2000 : Int32)) (by decide) hC d_M_bad_24 (q := 27) rfl ?_
      obtain ⟨v27, S27, hc27, h⟩ := bo_some h
      refine z_callSi (As := [.int x2, .int (-2000 : Int32), .int (2000 : Int32)]) hC hA (c_M_within (z_lOf X) Ω n x2 (-2000 : Int32) (2000 : Int32) S14 (v27, S27) hc27) k_539 k_537 k_538 k_6 h_M_within (by rw [hM]; exact ⟨Nat.le_of_ble_eq_true rfl, Nat.le_of_ble_eq_true rfl⟩) ⟨Nat.zero_le _, Nat.zero_le _⟩ rfl (Nat.le_of_ble_eq_true rfl) rfl d_M_bad_27 (q := 30) rfl ?_
      refine z_if_eq (tgt := 60) (q := 33) hC d_M_bad_30 rfl rfl (fun hb => ?_) (fun hb => ?_)
      · have h := (if_pos hb).symm.trans h
        refine z_sub [0] rfl ?_
        exact w_M_bad_60 hC hA hR hM n r S27 h
      · have h := (if_neg hb).symm.trans h
        refine z_iload_n rfl 3 rfl hC d_M_bad_33 (q := 34) rfl ?_
        refine z_sipush (v := (-2000 : Int32)) (by decide) hC d_M_bad_34 (q := 37) rfl ?_
        refine z_sipush (v := (2000 : Int32)) (by decide) hC d_M_bad_37 (q := 40) rfl ?_
        obtain ⟨v40, S40, hc40, h⟩ := bo_some h
        refine z_callSi (As := [.int x3, .int (-2000 : Int32), .int (2000 : Int32)]) hC hA (c_M_within (z_lOf X) Ω n x3 (-2000 : Int32) (2000 : Int32) S27 (v40, S40) hc40) k_539 k_537 k_538 k_6 h_M_within (by rw [hM]; exact ⟨Nat.le_of_ble_eq_true rfl, Nat.le_of_ble_eq_true rfl⟩) ⟨Nat.zero_le _, Nat.zero_le _⟩ rfl (Nat.le_of_ble_eq_true rfl) rfl d_M_bad_40 (q := 43) rfl ?_
        refine z_if_eq (tgt := 60) (q := 46) hC d_M_bad_43 rfl rfl (fun hb => ?_) (fun hb => ?_)
        · have h := (if_pos hb).symm.trans h
          refine z_sub [0] rfl ?_
          exact w_M_bad_60 hC hA hR hM n r S40 h
        · have h := (if_neg hb).symm.trans h
          refine z_iload 4 rfl hC d_M_bad_46 (q := 48) rfl ?_
          refine z_sipush (v := (-2000 : Int32)) (by decide) hC d_M_bad_48 (q := 51) rfl ?_
          refine z_sipush (v := (2000 : Int32)) (by decide) hC d_M_bad_51 (q := 54) rfl ?_
          obtain ⟨v54, S54, hc54, h⟩ := bo_some h
          refine z_callSi (As := [.int x4, .int (-2000 : Int32), .int (2000 : Int32)]) hC hA (c_M_within (z_lOf X) Ω n x4 (-2000 : Int32) (2000 : Int32) S40 (v54, S54) hc54) k_539 k_537 k_538 k_6 h_M_within (by rw [hM]; exact ⟨Nat.le_of_ble_eq_true rfl, Nat.le_of_ble_eq_true rfl⟩) ⟨Nat.zero_le _, Nat.zero_le _⟩ rfl (Nat.le_of_ble_eq_true rfl) rfl d_M_bad_54 (q := 57) rfl ?_
          refine z_if_ne (tgt := 64) (q := 60) hC d_M_bad_57 rfl rfl (fun hb => ?_) (fun hb => ?_)
          · have h := (if_neg hb).symm.trans h
            refine z_iconst (v := (0 : Int32)) (by decide) hC d_M_bad_64 (q := 65) rfl ?_
            refine z_sub [0] rfl ?_
            exact w_M_bad_65 hC hA hR hM n r (0 : Int32) S54 h
          · have h := (if_pos hb).symm.trans h
            refine z_sub [0] rfl ?_
            exact w_M_bad_60 hC hA hR hM n r S54 h
theorem c_M_bad (l : Launch) (Ω : z_O) (n : Nat) (x1 : Int32) (x2 : Int32) (x3 : Int32) (x4 : Int32) (S : z_S) (r : Int32 × z_S) (h : f_M_bad n x1 x2 x3 x4 S = some r) : z_MI l Ω y_M_bad b_M_bad 5 .boolean 1 22 [.ref (Ω.2.2 100), .int x1, .int x2, .int x3, .int x4] (wM Ω S) r.1 (wM Ω r.2) := z_introI (by decide +kernel) (Nat.le_of_ble_eq_true rfl) rfl (fun X A hC hA hR _ hM => w_M_bad hC hA hR hM n r x1 x2 x3 x4 S h)
def f_M_rent_77 (n : Nat) (k20 : Int32 → Int32 → Int32 → Int32 → Int64 → Int32 → z_S → Option (Int64 × z_S)) (x1 : Int32) (x2 : Int32) (x3 : Int32) (x4 : Int32) (x7 : Int32) (t0 : Int64) (S : z_S) : Option (Int64 × z_S) := k20 x1 x2 x3 x4 t0 (x7 + (1 : Int32)) S
def f_M_rent_20 (n : Nat) : Nat → Int32 → Int32 → Int32 → Int32 → Int64 → Int32 → z_S → Option (Int64 × z_S)
  | 0, _, _, _, _, _, _, _ => none
  | q + 1, x1, x2, x3, x4, x5, x7, S => (if (gF S 1) ≤ x7 then some (x5, S) else ck (vi x7 8) (bo (f_M_priceOf n (gI S 5 x7.toNatClampNeg) x1 x2 x3 x4 S) (fun v41 S41 => ck (vi x7 8) (ck (vi x7 8) ((if (gI S41 4 x7.toNatClampNeg) = 0 then f_M_rent_77 n (f_M_rent_20 n q) x1 x2 x3 x4 x7 (x5 - (v41 * (gJ S41 8 x7.toNatClampNeg))) S41 else f_M_rent_77 n (f_M_rent_20 n q) x1 x2 x3 x4 x7 (x5 + (v41 * (gJ S41 8 x7.toNatClampNeg))) S41))))))
def f_M_rent (n : Nat) (x1 : Int32) (x2 : Int32) (x3 : Int32) (x4 : Int32) (S : z_S) : Option (Int64 × z_S) := bo (f_M_bad n x1 x2 x3 x4 S) (fun v6 S6 => (if v6 = 0 then f_M_rent_20 n n x1 x2 x3 x4 (0 : Int64) (0 : Int32) S6 else some ((0 : Int64), S6)))
set_option maxRecDepth 20000 in
theorem w_M_rent_77 {X : z_X} {A : Nat → Prop} {Ω : z_O} (hC : z_C X b_M_rent 10 "NodalAuctionModel" Ω) (hA : z_hA X A) (hR : z_R X (some .long)) (hM : z_rmOf X = z_rm 2 46) (n : Nat) (r : Int64 × z_S) (k20 : Int32 → Int32 → Int32 → Int32 → Int64 → Int32 → z_S → Option (Int64 × z_S)) (hk20 : ∀ (x1 : Int32) (x2 : Int32) (x3 : Int32) (x4 : Int32) (x5 : Int64) (x7 : Int32) (S : z_S), k20 x1 x2 x3 x4 x5 x7 S = some r → z_At X A (z_QL X Ω A r.1 (wM Ω r.2)) Ω 0 0 10 20 [(0, .ref (Ω.2.2 100)), (1, .int x1), (2, .int x2), (3, .int x3), (4, .int x4), (5, .long x5), (7, .int x7)] [] (wM Ω S)) (x1 : Int32) (x2 : Int32) (x3 : Int32) (x4 : Int32) (x7 : Int32) (t0 : Int64) (S : z_S) (h : f_M_rent_77 n k20 x1 x2 x3 x4 x7 t0 S = some r) : z_At X A (z_QL X Ω A r.1 (wM Ω r.2)) Ω 0 0 10 77 [(0, .ref (Ω.2.2 100)), (1, .int x1), (2, .int x2), (3, .int x3), (4, .int x4), (7, .int x7)] [.long t0] (wM Ω S) := by
  refine z_lstore (lv' := [(5, .long t0), (0, .ref (Ω.2.2 100)), (1, .int x1), (2, .int x2), (3, .int x3), (4, .int x4), (7, .int x7)]) (by decide) rfl hC d_M_rent_77 (q := 79) rfl ?_
  refine z_iinc (lv' := [(7, .int (x7 + (1 : Int32))), (5, .long t0), (0, .ref (Ω.2.2 100)), (1, .int x1), (2, .int x2), (3, .int x3), (4, .int x4)]) 6 rfl rfl (by decide) rfl hC d_M_rent_79 (q := 82) rfl ?_
  refine z_goto (tgt := 20) hC d_M_rent_82 rfl ?_
  refine z_sub [2, 3, 4, 5, 6, 1, 0] rfl ?_
  exact hk20 x1 x2 x3 x4 t0 (x7 + (1 : Int32)) S h
set_option maxRecDepth 20000 in
theorem w_M_rent_20 {X : z_X} {A : Nat → Prop} {Ω : z_O} (hC : z_C X b_M_rent 10 "NodalAuctionModel" Ω) (hA : z_hA X A) (hR : z_R X (some .long)) (hM : z_rmOf X = z_rm 2 46) (n : Nat) (r : Int64 × z_S) : ∀ (q : Nat) (x1 : Int32) (x2 : Int32) (x3 : Int32) (x4 : Int32) (x5 : Int64) (x7 : Int32) (S : z_S), f_M_rent_20 n q x1 x2 x3 x4 x5 x7 S = some r → z_At X A (z_QL X Ω A r.1 (wM Ω r.2)) Ω 0 0 10 20 [(0, .ref (Ω.2.2 100)), (1, .int x1), (2, .int x2), (3, .int x3), (4, .int x4), (5, .long x5), (7, .int x7)] [] (wM Ω S) := by
  intro q
  induction q with
  | zero => intro x1 x2 x3 x4 x5 x7 S h; cases h
  | succ q ih =>
    intro x1 x2 x3 x4 x5 x7 S h
    refine z_iload 6 rfl hC d_M_rent_20 (q := 22) rfl ?_
    refine z_aload_n rfl 0 rfl hC d_M_rent_22 (q := 23) rfl ?_
    refine gf_M_94_0 hC d_M_rent_23 (q := 26) rfl ?_
    refine z_icmp_ge (tgt := 85) (q := 29) hC d_M_rent_26 rfl rfl (fun hb => ?_) (fun hb => ?_)
    · have h := (if_pos hb).symm.trans h
      refine z_lload 5 rfl hC d_M_rent_85 (q := 87) rfl ?_
      cases h
      exact z_lret hC hR rfl rfl d_M_rent_87
    · have h := (if_neg hb).symm.trans h
      refine z_aload_n rfl 0 rfl hC d_M_rent_29 (q := 30) rfl ?_
      refine gf_M_26_0 hC d_M_rent_30 (q := 33) rfl ?_
      refine z_iload 6 rfl hC d_M_rent_33 (q := 35) rfl ?_
      obtain ⟨hv1, h⟩ := ck_some h
      refine al_wM_6 hC hv1 d_M_rent_35 (q := 36) rfl ?_
      refine z_iload_n rfl 1 rfl hC d_M_rent_36 (q := 37) rfl ?_
      refine z_iload_n rfl 2 rfl hC d_M_rent_37 (q := 38) rfl ?_
      refine z_iload_n rfl 3 rfl hC d_M_rent_38 (q := 39) rfl ?_
      refine z_iload 4 rfl hC d_M_rent_39 (q := 41) rfl ?_
      obtain ⟨v41, S41, hc41, h⟩ := bo_some h
      refine z_callSl (As := [.int (gI S 5 x7.toNatClampNeg), .int x1, .int x2, .int x3, .int x4]) hC hA (c_M_priceOf (z_lOf X) Ω n (gI S 5 x7.toNatClampNeg) x1 x2 x3 x4 S (v41, S41) hc41) k_700 k_698 k_699 k_6 h_M_priceOf (by rw [hM]; exact ⟨Nat.le_of_ble_eq_true rfl, Nat.le_of_ble_eq_true rfl⟩) ⟨Nat.zero_le _, Nat.zero_le _⟩ rfl (Nat.le_of_ble_eq_true rfl) rfl d_M_rent_41 (q := 44) rfl ?_
      refine z_aload_n rfl 0 rfl hC d_M_rent_44 (q := 45) rfl ?_
      refine gf_M_66_0 hC d_M_rent_45 (q := 48) rfl ?_
      refine z_iload 6 rfl hC d_M_rent_48 (q := 50) rfl ?_
      obtain ⟨hv2, h⟩ := ck_some h
      refine al_wM_19 hC hv2 d_M_rent_50 (q := 51) rfl ?_
      refine z_lmul hC d_M_rent_51 (q := 52) rfl ?_
      refine z_lstore (lv' := [(8, .long (v41 * (gJ S41 8 x7.toNatClampNeg))), (0, .ref (Ω.2.2 100)), (1, .int x1), (2, .int x2), (3, .int x3), (4, .int x4), (5, .long x5), (7, .int x7)]) (by decide) rfl hC d_M_rent_52 (q := 54) rfl ?_
      refine z_aload_n rfl 1 rfl hC d_M_rent_54 (q := 55) rfl ?_
      refine gf_M_22_0 hC d_M_rent_55 (q := 58) rfl ?_
      refine z_iload 7 rfl hC d_M_rent_58 (q := 60) rfl ?_
      obtain ⟨hv3, h⟩ := ck_some h
      refine al_wM_5 hC hv3 d_M_rent_60 (q := 61) rfl ?_
      refine z_if_eq (tgt := 72) (q := 64) hC d_M_rent_61 rfl rfl (fun hb => ?_) (fun hb => ?_)
      · have h := (if_pos hb).symm.trans h
        refine z_lload 6 rfl hC d_M_rent_72 (q := 74) rfl ?_
        refine z_lload 0 rfl hC d_M_rent_74 (q := 76) rfl ?_
        refine z_lsub hC d_M_rent_76 (q := 77) rfl ?_
        refine z_sub [1, 2, 3, 4, 5, 7] rfl ?_
        exact w_M_rent_77 hC hA hR hM n r (f_M_rent_20 n q) ih x1 x2 x3 x4 x7 (x5 - (v41 * (gJ S41 8 x7.toNatClampNeg))) S41 h
      · have h := (if_neg hb).symm.trans h
        refine z_lload 6 rfl hC d_M_rent_64 (q := 66) rfl ?_
        refine z_lload 0 rfl hC d_M_rent_66 (q := 68) rfl ?_
        refine z_ladd hC d_M_rent_68 (q := 69) rfl ?_
        refine z_goto (tgt := 77) hC d_M_rent_69 rfl ?_
        refine z_sub [1, 2, 3, 4, 5, 7] rfl ?_
        exact w_M_rent_77 hC hA hR hM n r (f_M_rent_20 n q) ih x1 x2 x3 x4 x7 (x5 + (v41 * (gJ S41 8 x7.toNatClampNeg))) S41 h
set_option maxRecDepth 20000 in
theorem w_M_rent {X : z_X} {A : Nat → Prop} {Ω : z_O} (hC : z_C X b_M_rent 10 "NodalAuctionModel" Ω) (hA : z_hA X A) (hR : z_R X (some .long)) (hM : z_rmOf X = z_rm 2 46) (n : Nat) (r : Int64 × z_S) (x1 : Int32) (x2 : Int32) (x3 : Int32) (x4 : Int32) (S : z_S) (h : f_M_rent n x1 x2 x3 x4 S = some r) : z_At X A (z_QL X Ω A r.1 (wM Ω r.2)) Ω 0 0 10 0 [(0, .ref (Ω.2.2 100)), (1, .int x1), (2, .int x2), (3, .int x3), (4, .int x4)] [] (wM Ω S) := by
  refine z_aload_n rfl 0 rfl hC d_M_rent_0 (q := 1) rfl ?_
  refine z_iload_n rfl 1 rfl hC d_M_rent_1 (q := 2) rfl ?_
  refine z_iload_n rfl 2 rfl hC d_M_rent_2 (q := 3) rfl ?_
  refine z_iload_n rfl 3 rfl hC d_M_rent_3 (q := 4) rfl ?_
  refine z_iload 4 rfl hC d_M_rent_4 (q := 6) rfl ?_
  obtain ⟨v6, S6, hc6, h⟩ := bo_some h
  refine z_callVi (q0 := 0) (As := [.int x1, .int x2, .int x3, .int x4]) hC hA (c_M_bad (z_lOf X) Ω n x1 x2 x3 x4 S (v6, S6) hc6) k_697 k_694 k_696 ks_58 k_6 h_M_bad (by rw [hM]; exact ⟨Nat.le_of_ble_eq_true rfl, Nat.le_of_ble_eq_true rfl⟩) ⟨Nat.zero_le _, Nat.zero_le _⟩ rfl rfl rfl (Nat.le_of_ble_eq_true rfl) rfl d_M_rent_6 (q := 9) rfl ?_
  refine z_if_eq (tgt := 14) (q := 12) hC d_M_rent_9 rfl rfl (fun hb => ?_) (fun hb => ?_)
  · have h := (if_pos hb).symm.trans h
    refine z_lconst (v := (0 : Int64)) (by decide) hC d_M_rent_14 (q := 15) rfl ?_
    refine z_lstore (lv' := [(5, .long (0 : Int64)), (0, .ref (Ω.2.2 100)), (1, .int x1), (2, .int x2), (3, .int x3), (4, .int x4)]) (by decide) rfl hC d_M_rent_15 (q := 17) rfl ?_
    refine z_iconst (v := (0 : Int32)) (by decide) hC d_M_rent_17 (q := 18) rfl ?_
    refine z_istore (lv' := [(7, .int (0 : Int32)), (5, .long (0 : Int64)), (0, .ref (Ω.2.2 100)), (1, .int x1), (2, .int x2), (3, .int x3), (4, .int x4)]) (by decide) rfl hC d_M_rent_18 (q := 20) rfl ?_
    refine z_sub [2, 3, 4, 5, 6, 1, 0] rfl ?_
    exact w_M_rent_20 hC hA hR hM n r n x1 x2 x3 x4 (0 : Int64) (0 : Int32) S6 h
  · have h := (if_neg hb).symm.trans h
    refine z_lconst (v := (0 : Int64)) (by decide) hC d_M_rent_12 (q := 13) rfl ?_
    cases h
    exact z_lret hC hR rfl rfl d_M_rent_13
theorem c_M_rent (l : Launch) (Ω : z_O) (n : Nat) (x1 : Int32) (x2 : Int32) (x3 : Int32) (x4 : Int32) (S : z_S) (r : Int64 × z_S) (h : f_M_rent n x1 x2 x3 x4 S = some r) : z_ML l Ω y_M_rent b_M_rent 10 .long 2 46 [.ref (Ω.2.2 100), .int x1, .int x2, .int x3, .int x4] (wM Ω S) r.1 (wM Ω r.2) := z_introL (by decide +kernel) (Nat.le_of_ble_eq_true rfl) rfl (fun X A hC hA hR _ hM => w_M_rent hC hA hR hM n r x1 x2 x3 x4 S h)
def f_M_carriesMore_137 (n : Nat) (k18 : Int32 → Int32 → Int32 → Int32 → Int64 → Int32 → z_S → Option (Int32 × z_S)) (k33 : Int32 → Int32 → Int32 → Int32 → Int64 → Int32 → Int32 → z_S → Option (Int32 × z_S)) (k48 : Int32 → Int32 → Int32 → Int32 → Int64 → Int32 → Int32 → Int32 → z_S → Option (Int32 × z_S)) (x1 : Int32) (x2 : Int32) (x3 : Int32) (x4 : Int32) (x5 : Int64) (x7 : Int32) (x8 : Int32) (x9 : Int32) (S : z_S) : Option (Int32 × z_S) := k48 x1 x2 x3 x4 x5 x7 x8 (x9 + (1 : Int32)) S
def f_M_carriesMore_83 (n : Nat) (k18 : Int32 → Int32 → Int32 → Int32 → Int64 → Int32 → z_S → Option (Int32 × z_S)) (k33 : Int32 → Int32 → Int32 → Int32 → Int64 → Int32 → Int32 → z_S → Option (Int32 × z_S)) (k48 : Int32 → Int32 → Int32 → Int32 → Int64 → Int32 → Int32 → Int32 → z_S → Option (Int32 × z_S)) : Nat → Int32 → Int32 → Int32 → Int32 → Int64 → Int32 → Int32 → Int32 → Int64 → Int32 → z_S → Option (Int32 × z_S)
  | 0, _, _, _, _, _, _, _, _, _, _, _ => none
  | q + 1, x1, x2, x3, x4, x5, x7, x8, x9, x10, x12, S => (if (4 : Int32) ≤ x12 then (if (x10 * (gG S 4)) ≤ (x5 * (gG S 0)) then f_M_carriesMore_137 n k18 k33 k48 x1 x2 x3 x4 x5 x7 x8 x9 S else some ((1 : Int32), S)) else bo (f_M_priceOf n x12 x1 x2 x3 x4 S) (fun v98 S98 => bo (f_M_brought n x12 S98) (fun v104 S104 => f_M_carriesMore_83 n k18 k33 k48 q x1 x2 x3 x4 x5 x7 x8 x9 (x10 + (v98 * v104)) (x12 + (1 : Int32)) S104)))
def f_M_carriesMore_48 (n : Nat) (k18 : Int32 → Int32 → Int32 → Int32 → Int64 → Int32 → z_S → Option (Int32 × z_S)) (k33 : Int32 → Int32 → Int32 → Int32 → Int64 → Int32 → Int32 → z_S → Option (Int32 × z_S)) : Nat → Int32 → Int32 → Int32 → Int32 → Int64 → Int32 → Int32 → Int32 → z_S → Option (Int32 × z_S)
  | 0, _, _, _, _, _, _, _, _, _ => none
  | q + 1, x1, x2, x3, x4, x5, x7, x8, x9, S => (if (gF S 2) ≤ x9 then k33 x1 x2 x3 x4 x5 x7 (x8 + (1 : Int32)) S else bo (f_M_meet n x7 x8 x9 S) (fun v64 S64 => (if v64 = 0 then f_M_carriesMore_137 n k18 k33 (f_M_carriesMore_48 n k18 k33 q) x1 x2 x3 x4 x5 x7 x8 x9 S64 else bo (f_M_linesHold n S64) (fun v71 S71 => (if v71 = 0 then f_M_carriesMore_137 n k18 k33 (f_M_carriesMore_48 n k18 k33 q) x1 x2 x3 x4 x5 x7 x8 x9 S71 else f_M_carriesMore_83 n k18 k33 (f_M_carriesMore_48 n k18 k33 q) n x1 x2 x3 x4 x5 x7 x8 x9 (0 : Int64) (0 : Int32) S71)))))
def f_M_carriesMore_33 (n : Nat) (k18 : Int32 → Int32 → Int32 → Int32 → Int64 → Int32 → z_S → Option (Int32 × z_S)) : Nat → Int32 → Int32 → Int32 → Int32 → Int64 → Int32 → Int32 → z_S → Option (Int32 × z_S)
  | 0, _, _, _, _, _, _, _, _ => none
  | q + 1, x1, x2, x3, x4, x5, x7, x8, S => (if (gF S 2) ≤ x8 then k18 x1 x2 x3 x4 x5 (x7 + (1 : Int32)) S else f_M_carriesMore_48 n k18 (f_M_carriesMore_33 n k18 q) n x1 x2 x3 x4 x5 x7 x8 (x8 + (1 : Int32)) S)
def f_M_carriesMore_18 (n : Nat) : Nat → Int32 → Int32 → Int32 → Int32 → Int64 → Int32 → z_S → Option (Int32 × z_S)
  | 0, _, _, _, _, _, _, _ => none
  | q + 1, x1, x2, x3, x4, x5, x7, S => (if (gF S 2) ≤ x7 then some ((0 : Int32), S) else f_M_carriesMore_33 n (f_M_carriesMore_18 n q) n x1 x2 x3 x4 x5 x7 (x7 + (1 : Int32)) S)
def f_M_carriesMore (n : Nat) (x1 : Int32) (x2 : Int32) (x3 : Int32) (x4 : Int32) (S : z_S) : Option (Int32 × z_S) := bo (f_M_rent n x1 x2 x3 x4 S) (fun v6 S6 => bo (f_M_linePlanes n S6) (fun _ S12 => f_M_carriesMore_18 n n x1 x2 x3 x4 v6 (0 : Int32) S12))
set_option maxRecDepth 20000 in
theorem w_M_carriesMore_137 {X : z_X} {A : Nat → Prop} {Ω : z_O} (hC : z_C X b_M_carriesMore 13 "NodalAuctionModel" Ω) (hA : z_hA X A) (hR : z_R X (some .boolean)) (hM : z_rmOf X = z_rm 4 114) (n : Nat) (r : Int32 × z_S) (k18 : Int32 → Int32 → Int32 → Int32 → Int64 → Int32 → z_S → Option (Int32 × z_S)) (k33 : Int32 → Int32 → Int32 → Int32 → Int64 → Int32 → Int32 → z_S → Option (Int32 × z_S)) (k48 : Int32 → Int32 → Int32 → Int32 → Int64 → Int32 → Int32 → Int32 → z_S → Option (Int32 × z_S)) (hk18 : ∀ (x1 : Int32) (x2 : Int32) (x3 : Int32) (x4 : Int32) (x5 : Int64) (x7 : Int32) (S : z_S), k18 x1 x2 x3 x4 x5 x7 S = some r → z_At X A (z_QI X Ω A r.1 (wM Ω r.2)) Ω 0 0 13 18 [(0, .ref (Ω.2.2 100)), (1, .int x1), (2, .int x2), (3, .int x3), (4, .int x4), (5, .long x5), (7, .int x7)] [] (wM Ω S)) (hk33 : ∀ (x1 : Int32) (x2 : Int32) (x3 : Int32) (x4 : Int32) (x5 : Int64) (x7 : Int32) (x8 : Int32) (S : z_S), k33 x1 x2 x3 x4 x5 x7 x8 S = some r → z_At X A (z_QI X Ω A r.1 (wM Ω r.2)) Ω 0 0 13 33 [(0, .ref (Ω.2.2 100)), (1, .int x1), (2, .int x2), (3, .int x3), (4, .int x4), (5, .long x5), (7, .int x7), (8, .int x8)] [] (wM Ω S)) (hk48 : ∀ (x1 : Int32) (x2 : Int32) (x3 : Int32) (x4 : Int32) (x5 : Int64) (x7 : Int32) (x8 : Int32) (x9 : Int32) (S : z_S), k48 x1 x2 x3 x4 x5 x7 x8 x9 S = some r → z_At X A (z_QI X Ω A r.1 (wM Ω r.2)) Ω 0 0 13 48 [(0, .ref (Ω.2.2 100)), (1, .int x1), (2, .int x2), (3, .int x3), (4, .int x4), (5, .long x5), (7, .int x7), (8, .int x8), (9, .int x9)] [] (wM Ω S)) (x1 : Int32) (x2 : Int32) (x3 : Int32) (x4 : Int32) (x5 : Int64) (x7 : Int32) (x8 : Int32) (x9 : Int32) (S : z_S) (h : f_M_carriesMore_137 n k18 k33 k48 x1 x2 x3 x4 x5 x7 x8 x9 S = some r) : z_At X A (z_QI X Ω A r.1 (wM Ω r.2)) Ω 0 0 13 137 [(0, .ref (Ω.2.2 100)), (1, .int x1), (2, .int x2), (3, .int x3), (4, .int x4), (5, .long x5), (7, .int x7), (8, .int x8), (9, .int x9)] [] (wM Ω S) := by
  refine z_iinc (lv' := [(9, .int (x9 + (1 : Int32))), (0, .ref (Ω.2.2 100)), (1, .int x1), (2, .int x2), (3, .int x3), (4, .int x4), (5, .long x5), (7, .int x7), (8, .int x8)]) 8 rfl rfl (by decide) rfl hC d_M_carriesMore_137 (q := 140) rfl ?_
  refine z_goto (tgt := 48) hC d_M_carriesMore_140 rfl ?_
  refine z_sub [1, 2, 3, 4, 5, 6, 7, 8, 0] rfl ?_
  exact hk48 x1 x2 x3 x4 x5 x7 x8 (x9 + (1 : Int32)) S h
set_option maxRecDepth 20000 in
theorem w_M_carriesMore_83 {X : z_X} {A : Nat → Prop} {Ω : z_O} (hC : z_C X b_M_carriesMore 13 "NodalAuctionModel" Ω) (hA : z_hA X A) (hR : z_R X (some .boolean)) (hM : z_rmOf X = z_rm 4 114) (n : Nat) (r : Int32 × z_S) (k18 : Int32 → Int32 → Int32 → Int32 → Int64 → Int32 → z_S → Option (Int32 × z_S)) (k33 : Int32 → Int32 → Int32 → Int32 → Int64 → Int32 → Int32 → z_S → Option (Int32 × z_S)) (k48 : Int32 → Int32 → Int32 → Int32 → Int64 → Int32 → Int32 → Int32 → z_S → Option (Int32 × z_S)) (hk18 : ∀ (x1 : Int32) (x2 : Int32) (x3 : Int32) (x4 : Int32) (x5 : Int64) (x7 : Int32) (S : z_S), k18 x1 x2 x3 x4 x5 x7 S = some r → z_At X A (z_QI X Ω A r.1 (wM Ω r.2)) Ω 0 0 13 18 [(0, .ref (Ω.2.2 100)), (1, .int x1), (2, .int x2), (3, .int x3), (4, .int x4), (5, .long x5), (7, .int x7)] [] (wM Ω S)) (hk33 : ∀ (x1 : Int32) (x2 : Int32) (x3 : Int32) (x4 : Int32) (x5 : Int64) (x7 : Int32) (x8 : Int32) (S : z_S), k33 x1 x2 x3 x4 x5 x7 x8 S = some r → z_At X A (z_QI X Ω A r.1 (wM Ω r.2)) Ω 0 0 13 33 [(0, .ref (Ω.2.2 100)), (1, .int x1), (2, .int x2), (3, .int x3), (4, .int x4), (5, .long x5), (7, .int x7), (8, .int x8)] [] (wM Ω S)) (hk48 : ∀ (x1 : Int32) (x2 : Int32) (x3 : Int32) (x4 : Int32) (x5 : Int64) (x7 : Int32) (x8 : Int32) (x9 : Int32) (S : z_S), k48 x1 x2 x3 x4 x5 x7 x8 x9 S = some r → z_At X A (z_QI X Ω A r.1 (wM Ω r.2)) Ω 0 0 13 48 [(0, .ref (Ω.2.2 100)), (1, .int x1), (2, .int x2), (3, .int x3), (4, .int x4), (5, .long x5), (7, .int x7), (8, .int x8), (9, .int x9)] [] (wM Ω S)) : ∀ (q : Nat) (x1 : Int32) (x2 : Int32) (x3 : Int32) (x4 : Int32) (x5 : Int64) (x7 : Int32) (x8 : Int32) (x9 : Int32) (x10 : Int64) (x12 : Int32) (S : z_S), f_M_carriesMore_83 n k18 k33 k48 q x1 x2 x3 x4 x5 x7 x8 x9 x10 x12 S = some r → z_At X A (z_QI X Ω A r.1 (wM Ω r.2)) Ω 0 0 13 83 [(0, .ref (Ω.2.2 100)), (1, .int x1), (2, .int x2), (3, .int x3), (4, .int x4), (5, .long x5), (7, .int x7), (8, .int x8), (9, .int x9), (10, .long x10), (12, .int x12)] [] (wM Ω S) := by
  intro q
  induction q with
  | zero => intro x1 x2 x3 x4 x5 x7 x8 x9 x10 x12 S h; cases h
  | succ q ih =>
    intro x1 x2 x3 x4 x5 x7 x8 x9 x10 x12 S h
    refine z_iload 10 rfl hC d_M_carriesMore_83 (q := 85) rfl ?_
    refine z_iconst (v := (4 : Int32)) (by decide) hC d_M_carriesMore_85 (q := 86) rfl ?_
    refine z_icmp_ge (tgt := 117) (q := 89) hC d_M_carriesMore_86 rfl rfl (fun hb => ?_) (fun hb => ?_)
    · have h := (if_pos hb).symm.trans h
      refine z_lload 9 rfl hC d_M_carriesMore_117 (q := 119) rfl ?_
      refine z_aload_n rfl 0 rfl hC d_M_carriesMore_119 (q := 120) rfl ?_
      refine gf_M_194_0 hC d_M_carriesMore_120 (q := 123) rfl ?_
      refine z_lmul hC d_M_carriesMore_123 (q := 124) rfl ?_
      refine z_lload 5 rfl hC d_M_carriesMore_124 (q := 126) rfl ?_
      refine z_aload_n rfl 0 rfl hC d_M_carriesMore_126 (q := 127) rfl ?_
      refine gf_M_130_0 hC d_M_carriesMore_127 (q := 130) rfl ?_
      refine z_lmul hC d_M_carriesMore_130 (q := 131) rfl ?_
      refine z_lcmp_le (pc1 := 132) (tgt := 137) (q := 135) hC d_M_carriesMore_131 rfl d_M_carriesMore_132 rfl rfl (fun hb => ?_) (fun hb => ?_)
      · have h := (if_pos hb).symm.trans h
        refine z_sub [0, 1, 2, 3, 4, 5, 6, 7, 8] rfl ?_
        exact w_M_carriesMore_137 hC hA hR hM n r k18 k33 k48 hk18 hk33 hk48 x1 x2 x3 x4 x5 x7 x8 x9 S h
      · have h := (if_neg hb).symm.trans h
        refine z_iconst (v := (1 : Int32)) (by decide) hC d_M_carriesMore_135 (q := 136) rfl ?_
        cases h
        exact z_zret hC hR (by decide) rfl rfl d_M_carriesMore_136
    · have h := (if_neg hb).symm.trans h
      refine z_lload 9 rfl hC d_M_carriesMore_89 (q := 91) rfl ?_
      refine z_iload 10 rfl hC d_M_carriesMore_91 (q := 93) rfl ?_
      refine z_iload_n rfl 1 rfl hC d_M_carriesMore_93 (q := 94) rfl ?_
      refine z_iload_n rfl 2 rfl hC d_M_carriesMore_94 (q := 95) rfl ?_
      refine z_iload_n rfl 3 rfl hC d_M_carriesMore_95 (q := 96) rfl ?_
      refine z_iload 4 rfl hC d_M_carriesMore_96 (q := 98) rfl ?_
      obtain ⟨v98, S98, hc98, h⟩ := bo_some h
      refine z_callSl (As := [.int x12, .int x1, .int x2, .int x3, .int x4]) hC hA (c_M_priceOf (z_lOf X) Ω n x12 x1 x2 x3 x4 S (v98, S98) hc98) k_700 k_698 k_699 k_6 h_M_priceOf (by rw [hM]; exact ⟨Nat.le_of_ble_eq_true rfl, Nat.le_of_ble_eq_true rfl⟩) ⟨Nat.zero_le _, Nat.zero_le _⟩ rfl (Nat.le_of_ble_eq_true rfl) rfl d_M_carriesMore_98 (q := 101) rfl ?_
      refine z_aload_n rfl 0 rfl hC d_M_carriesMore_101 (q := 102) rfl ?_
      refine z_iload 10 rfl hC d_M_carriesMore_102 (q := 104) rfl ?_
      obtain ⟨v104, S104, hc104, h⟩ := bo_some h
      refine z_callVl (q0 := 0) (As := [.int x12]) hC hA (c_M_brought (z_lOf X) Ω n x12 S98 (v104, S104) hc104) k_637 k_634 k_636 ks_54 k_6 h_M_brought (by rw [hM]; exact ⟨Nat.le_of_ble_eq_true rfl, Nat.le_of_ble_eq_true rfl⟩) ⟨Nat.zero_le _, Nat.zero_le _⟩ rfl rfl rfl (Nat.le_of_ble_eq_true rfl) rfl d_M_carriesMore_104 (q := 107) rfl ?_
      refine z_lmul hC d_M_carriesMore_107 (q := 108) rfl ?_
      refine z_ladd hC d_M_carriesMore_108 (q := 109) rfl ?_
      refine z_lstore (lv' := [(10, .long (x10 + (v98 * v104))), (0, .ref (Ω.2.2 100)), (1, .int x1), (2, .int x2), (3, .int x3), (4, .int x4), (5, .long x5), (7, .int x7), (8, .int x8), (9, .int x9), (12, .int x12)]) (by decide) rfl hC d_M_carriesMore_109 (q := 111) rfl ?_
      refine z_iinc (lv' := [(12, .int (x12 + (1 : Int32))), (10, .long (x10 + (v98 * v104))), (0, .ref (Ω.2.2 100)), (1, .int x1), (2, .int x2), (3, .int x3), (4, .int x4), (5, .long x5), (7, .int x7), (8, .int x8), (9, .int x9)]) 10 rfl rfl (by decide) rfl hC d_M_carriesMore_111 (q := 114) rfl ?_
      refine z_goto (tgt := 83) hC d_M_carriesMore_114 rfl ?_
      refine z_sub [2, 3, 4, 5, 6, 7, 8, 9, 10, 1, 0] rfl ?_
      exact ih x1 x2 x3 x4 x5 x7 x8 x9 (x10 + (v98 * v104)) (x12 + (1 : Int32)) S104 h
set_option maxRecDepth 20000 in
theorem w_M_carriesMore_48 {X : z_X} {A : Nat → Prop} {Ω : z_O} (hC : z_C X b_M_carriesMore 13 "NodalAuctionModel" Ω) (hA : z_hA X A) (hR : z_R X (some .boolean)) (hM : z_rmOf X = z_rm 4 114) (n : Nat) (r : Int32 × z_S) (k18 : Int32 → Int32 → Int32 → Int32 → Int64 → Int32 → z_S → Option (Int32 × z_S)) (k33 : Int32 → Int32 → Int32 → Int32 → Int64 → Int32 → Int32 → z_S → Option (Int32 × z_S)) (hk18 : ∀ (x1 : Int32) (x2 : Int32) (x3 : Int32) (x4 : Int32) (x5 : Int64) (x7 : Int32) (S : z_S), k18 x1 x2 x3 x4 x5 x7 S = some r → z_At X A (z_QI X Ω A r.1 (wM Ω r.2)) Ω 0 0 13 18 [(0, .ref (Ω.2.2 100)), (1, .int x1), (2, .int x2), (3, .int x3), (4, .int x4), (5, .long x5), (7, .int x7)] [] (wM Ω S)) (hk33 : ∀ (x1 : Int32) (x2 : Int32) (x3 : Int32) (x4 : Int32) (x5 : Int64) (x7 : Int32) (x8 : Int32) (S : z_S), k33 x1 x2 x3 x4 x5 x7 x8 S = some r → z_At X A (z_QI X Ω A r.1 (wM Ω r.2)) Ω 0 0 13 33 [(0, .ref (Ω.2.2 100)), (1, .int x1), (2, .int x2), (3, .int x3), (4, .int x4), (5, .long x5), (7, .int x7), (8, .int x8)] [] (wM Ω S)) : ∀ (q : Nat) (x1 : Int32) (x2 : Int32) (x3 : Int32) (x4 : Int32) (x5 : Int64) (x7 : Int32) (x8 : Int32) (x9 : Int32) (S : z_S), f_M_carriesMore_48 n k18 k33 q x1 x2 x3 x4 x5 x7 x8 x9 S = some r → z_At X A (z_QI X Ω A r.1 (wM Ω r.2)) Ω 0 0 13 48 [(0, .ref (Ω.2.2 100)), (1, .int x1), (2, .int x2), (3, .int x3), (4, .int x4), (5, .long x5), (7, .int x7), (8, .int x8), (9, .int x9)] [] (wM Ω S) := by
  intro q
  induction q with
  | zero => intro x1 x2 x3 x4 x5 x7 x8 x9 S h; cases h
  | succ q ih =>
    intro x1 x2 x3 x4 x5 x7 x8 x9 S h
    refine z_iload 8 rfl hC d_M_carriesMore_48 (q := 50) rfl ?_
    refine z_aload_n rfl 0 rfl hC d_M_carriesMore_50 (q := 51) rfl ?_
    refine gf_M_105_0 hC d_M_carriesMore_51 (q := 54) rfl ?_
    refine z_icmp_ge (tgt := 143) (q := 57) hC d_M_carriesMore_54 rfl rfl (fun hb => ?_) (fun hb => ?_)
    · have h := (if_pos hb).symm.trans h
      refine z_iinc (lv' := [(8, .int (x8 + (1 : Int32))), (0, .ref (Ω.2.2 100)), (1, .int x1), (2, .int x2), (3, .int x3), (4, .int x4), (5, .long x5), (7, .int x7), (9, .int x9)]) 7 rfl rfl (by decide) rfl hC d_M_carriesMore_143 (q := 146) rfl ?_
      refine z_goto (tgt := 33) hC d_M_carriesMore_146 rfl ?_
      refine z_sub [1, 2, 3, 4, 5, 6, 7, 0] rfl ?_
      exact hk33 x1 x2 x3 x4 x5 x7 (x8 + (1 : Int32)) S h
    · have h := (if_neg hb).symm.trans h
      refine z_aload_n rfl 0 rfl hC d_M_carriesMore_57 (q := 58) rfl ?_
      refine z_iload 6 rfl hC d_M_carriesMore_58 (q := 60) rfl ?_
      refine z_iload 7 rfl hC d_M_carriesMore_60 (q := 62) rfl ?_
      refine z_iload 8 rfl hC d_M_carriesMore_62 (q := 64) rfl ?_
      obtain ⟨v64, S64, hc64, h⟩ := bo_some h
      refine z_callVi (q0 := 0) (As := [.int x7, .int x8, .int x9]) hC hA (c_M_meet (z_lOf X) Ω n x7 x8 x9 S (v64, S64) hc64) k_604 k_601 k_603 ks_46 k_6 h_M_meet (by rw [hM]; exact ⟨Nat.le_of_ble_eq_true rfl, Nat.le_of_ble_eq_true rfl⟩) ⟨Nat.zero_le _, Nat.zero_le _⟩ rfl rfl rfl (Nat.le_of_ble_eq_true rfl) rfl d_M_carriesMore_64 (q := 67) rfl ?_
      refine z_if_eq (tgt := 137) (q := 70) hC d_M_carriesMore_67 rfl rfl (fun hb => ?_) (fun hb => ?_)
      · have h := (if_pos hb).symm.trans h
        exact w_M_carriesMore_137 hC hA hR hM n r k18 k33 (f_M_carriesMore_48 n k18 k33 q) hk18 hk33 ih x1 x2 x3 x4 x5 x7 x8 x9 S64 h
      · have h := (if_neg hb).symm.trans h
        refine z_aload_n rfl 0 rfl hC d_M_carriesMore_70 (q := 71) rfl ?_
        obtain ⟨v71, S71, hc71, h⟩ := bo_some h
        refine z_callVi (q0 := 0) (As := []) hC hA (c_M_linesHold (z_lOf X) Ω n S64 (v71, S71) hc71) k_621 k_618 k_620 ks_50 k_6 h_M_linesHold (by rw [hM]; exact ⟨Nat.le_of_ble_eq_true rfl, Nat.le_of_ble_eq_true rfl⟩) ⟨Nat.zero_le _, Nat.zero_le _⟩ rfl rfl rfl (Nat.le_of_ble_eq_true rfl) rfl d_M_carriesMore_71 (q := 74) rfl ?_
        refine z_if_eq (tgt := 137) (q := 77) hC d_M_carriesMore_74 rfl rfl (fun hb => ?_) (fun hb => ?_)
        · have h := (if_pos hb).symm.trans h
          exact w_M_carriesMore_137 hC hA hR hM n r k18 k33 (f_M_carriesMore_48 n k18 k33 q) hk18 hk33 ih x1 x2 x3 x4 x5 x7 x8 x9 S71 h
        · have h := (if_neg hb).symm.trans h
          refine z_lconst (v := (0 : Int64)) (by decide) hC d_M_carriesMore_77 (q := 78) rfl ?_
          refine z_lstore (lv' := [(10, .long (0 : Int64)), (0, .ref (Ω.2.2 100)), (1, .int x1), (2, .int x2), (3, .int x3), (4, .int x4), (5, .long x5), (7, .int x7), (8, .int x8), (9, .int x9)]) (by decide) rfl hC d_M_carriesMore_78 (q := 80) rfl ?_
          refine z_iconst (v := (0 : Int32)) (by decide) hC d_M_carriesMore_80 (q := 81) rfl ?_
          refine z_istore (lv' := [(12, .int (0 : Int32)), (10, .long (0 : Int64)), (0, .ref (Ω.2.2 100)), (1, .int x1), (2, .int x2), (3, .int x3), (4, .int x4), (5, .long x5), (7, .int x7), (8, .int x8), (9, .int x9)]) (by decide) rfl hC d_M_carriesMore_81 (q := 83) rfl ?_
          refine z_sub [2, 3, 4, 5, 6, 7, 8, 9, 10, 1, 0] rfl ?_
          exact w_M_carriesMore_83 hC hA hR hM n r k18 k33 (f_M_carriesMore_48 n k18 k33 q) hk18 hk33 ih n x1 x2 x3 x4 x5 x7 x8 x9 (0 : Int64) (0 : Int32) S71 h
set_option maxRecDepth 20000 in
theorem w_M_carriesMore_33 {X : z_X} {A : Nat → Prop} {Ω : z_O} (hC : z_C X b_M_carriesMore 13 "NodalAuctionModel" Ω) (hA : z_hA X A) (hR : z_R X (some .boolean)) (hM : z_rmOf X = z_rm 4 114) (n : Nat) (r : Int32 × z_S) (k18 : Int32 → Int32 → Int32 → Int32 → Int64 → Int32 → z_S → Option (Int32 × z_S)) (hk18 : ∀ (x1 : Int32) (x2 : Int32) (x3 : Int32) (x4 : Int32) (x5 : Int64) (x7 : Int32) (S : z_S), k18 x1 x2 x3 x4 x5 x7 S = some r → z_At X A (z_QI X Ω A r.1 (wM Ω r.2)) Ω 0 0 13 18 [(0, .ref (Ω.2.2 100)), (1, .int x1), (2, .int x2), (3, .int x3), (4, .int x4), (5, .long x5), (7, .int x7)] [] (wM Ω S)) : ∀ (q : Nat) (x1 : Int32) (x2 : Int32) (x3 : Int32) (x4 : Int32) (x5 : Int64) (x7 : Int32) (x8 : Int32) (S : z_S), f_M_carriesMore_33 n k18 q x1 x2 x3 x4 x5 x7 x8 S = some r → z_At X A (z_QI X Ω A r.1 (wM Ω r.2)) Ω 0 0 13 33 [(0, .ref (Ω.2.2 100)), (1, .int x1), (2, .int x2), (3, .int x3), (4, .int x4), (5, .long x5), (7, .int x7), (8, .int x8)] [] (wM Ω S) := by
  intro q
  induction q with
  | zero => intro x1 x2 x3 x4 x5 x7 x8 S h; cases h
  | succ q ih =>
    intro x1 x2 x3 x4 x5 x7 x8 S h
    refine z_iload 7 rfl hC d_M_carriesMore_33 (q := 35) rfl ?_
    refine z_aload_n rfl 0 rfl hC d_M_carriesMore_35 (q := 36) rfl ?_
    refine gf_M_105_0 hC d_M_carriesMore_36 (q := 39) rfl ?_
    refine z_icmp_ge (tgt := 149) (q := 42) hC d_M_carriesMore_39 rfl rfl (fun hb => ?_) (fun hb => ?_)
    · have h := (if_pos hb).symm.trans h
      refine z_iinc (lv' := [(7, .int (x7 + (1 : Int32))), (0, .ref (Ω.2.2 100)), (1, .int x1), (2, .int x2), (3, .int x3), (4, .int x4), (5, .long x5), (8, .int x8)]) 6 rfl rfl (by decide) rfl hC d_M_carriesMore_149 (q := 152) rfl ?_
      refine z_goto (tgt := 18) hC d_M_carriesMore_152 rfl ?_
      refine z_sub [1, 2, 3, 4, 5, 6, 0] rfl ?_
      exact hk18 x1 x2 x3 x4 x5 (x7 + (1 : Int32)) S h
    · have h := (if_neg hb).symm.trans h
      refine z_iload 7 rfl hC d_M_carriesMore_42 (q := 44) rfl ?_
      refine z_iconst (v := (1 : Int32)) (by decide) hC d_M_carriesMore_44 (q := 45) rfl ?_
      refine z_iadd hC d_M_carriesMore_45 (q := 46) rfl ?_
      refine z_istore (lv' := [(9, .int (x8 + (1 : Int32))), (0, .ref (Ω.2.2 100)), (1, .int x1), (2, .int x2), (3, .int x3), (4, .int x4), (5, .long x5), (7, .int x7), (8, .int x8)]) (by decide) rfl hC d_M_carriesMore_46 (q := 48) rfl ?_
      refine z_sub [1, 2, 3, 4, 5, 6, 7, 8, 0] rfl ?_
      exact w_M_carriesMore_48 hC hA hR hM n r k18 (f_M_carriesMore_33 n k18 q) hk18 ih n x1 x2 x3 x4 x5 x7 x8 (x8 + (1 : Int32)) S h
set_option maxRecDepth 20000 in
theorem w_M_carriesMore_18 {X : z_X} {A : Nat → Prop} {Ω : z_O} (hC : z_C X b_M_carriesMore 13 "NodalAuctionModel" Ω) (hA : z_hA X A) (hR : z_R X (some .boolean)) (hM : z_rmOf X = z_rm 4 114) (n : Nat) (r : Int32 × z_S) : ∀ (q : Nat) (x1 : Int32) (x2 : Int32) (x3 : Int32) (x4 : Int32) (x5 : Int64) (x7 : Int32) (S : z_S), f_M_carriesMore_18 n q x1 x2 x3 x4 x5 x7 S = some r → z_At X A (z_QI X Ω A r.1 (wM Ω r.2)) Ω 0 0 13 18 [(0, .ref (Ω.2.2 100)), (1, .int x1), (2, .int x2), (3, .int x3), (4, .int x4), (5, .long x5), (7, .int x7)] [] (wM Ω S) := by
  intro q
  induction q with
  | zero => intro x1 x2 x3 x4 x5 x7 S h; cases h
  | succ q ih =>
    intro x1 x2 x3 x4 x5 x7 S h
    refine z_iload 6 rfl hC d_M_carriesMore_18 (q := 20) rfl ?_
    refine z_aload_n rfl 0 rfl hC d_M_carriesMore_20 (q := 21) rfl ?_
    refine gf_M_105_0 hC d_M_carriesMore_21 (q := 24) rfl ?_
    refine z_icmp_ge (tgt := 155) (q := 27) hC d_M_carriesMore_24 rfl rfl (fun hb => ?_) (fun hb => ?_)
    · have h := (if_pos hb).symm.trans h
      refine z_iconst (v := (0 : Int32)) (by decide) hC d_M_carriesMore_155 (q := 156) rfl ?_
      cases h
      exact z_zret hC hR (by decide) rfl rfl d_M_carriesMore_156
    · have h := (if_neg hb).symm.trans h
      refine z_iload 6 rfl hC d_M_carriesMore_27 (q := 29) rfl ?_
      refine z_iconst (v := (1 : Int32)) (by decide) hC d_M_carriesMore_29 (q := 30) rfl ?_
      refine z_iadd hC d_M_carriesMore_30 (q := 31) rfl ?_
      refine z_istore (lv' := [(8, .int (x7 + (1 : Int32))), (0, .ref (Ω.2.2 100)), (1, .int x1), (2, .int x2), (3, .int x3), (4, .int x4), (5, .long x5), (7, .int x7)]) (by decide) rfl hC d_M_carriesMore_31 (q := 33) rfl ?_
      refine z_sub [1, 2, 3, 4, 5, 6, 7, 0] rfl ?_
      exact w_M_carriesMore_33 hC hA hR hM n r (f_M_carriesMore_18 n q) ih n x1 x2 x3 x4 x5 x7 (x7 + (1 : Int32)) S h
set_option maxRecDepth 20000 in
theorem w_M_carriesMore {X : z_X} {A : Nat → Prop} {Ω : z_O} (hC : z_C X b_M_carriesMore 13 "NodalAuctionModel" Ω) (hA : z_hA X A) (hR : z_R X (some .boolean)) (hM : z_rmOf X = z_rm 4 114) (n : Nat) (r : Int32 × z_S) (x1 : Int32) (x2 : Int32) (x3 : Int32) (x4 : Int32) (S : z_S) (h : f_M_carriesMore n x1 x2 x3 x4 S = some r) : z_At X A (z_QI X Ω A r.1 (wM Ω r.2)) Ω 0 0 13 0 [(0, .ref (Ω.2.2 100)), (1, .int x1), (2, .int x2), (3, .int x3), (4, .int x4)] [] (wM Ω S) := by
  refine z_aload_n rfl 0 rfl hC d_M_carriesMore_0 (q := 1) rfl ?_
  refine z_iload_n rfl 1 rfl hC d_M_carriesMore_1 (q := 2) rfl ?_
  refine z_iload_n rfl 2 rfl hC d_M_carriesMore_2 (q := 3) rfl ?_
  refine z_iload_n rfl 3 rfl hC d_M_carriesMore_3 (q := 4) rfl ?_
  refine z_iload 4 rfl hC d_M_carriesMore_4 (q := 6) rfl ?_
  obtain ⟨v6, S6, hc6, h⟩ := bo_some h
  refine z_callVl (q0 := 0) (As := [.int x1, .int x2, .int x3, .int x4]) hC hA (c_M_rent (z_lOf X) Ω n x1 x2 x3 x4 S (v6, S6) hc6) k_708 k_705 k_706 k_707 k_6 h_M_rent (by rw [hM]; exact ⟨Nat.le_of_ble_eq_true rfl, Nat.le_of_ble_eq_true rfl⟩) ⟨Nat.zero_le _, Nat.zero_le _⟩ rfl rfl rfl (Nat.le_of_ble_eq_true rfl) rfl d_M_carriesMore_6 (q := 9) rfl ?_
  refine z_lstore (lv' := [(5, .long v6), (0, .ref (Ω.2.2 100)), (1, .int x1), (2, .int x2), (3, .int x3), (4, .int x4)]) (by decide) rfl hC d_M_carriesMore_9 (q := 11) rfl ?_
  refine z_aload_n rfl 1 rfl hC d_M_carriesMore_11 (q := 12) rfl ?_
  obtain ⟨v12, S12, hc12, h⟩ := bo_some h
  refine z_callVv (q0 := 0) (As := []) hC hA (c_M_linePlanes (z_lOf X) Ω n S6 (v12, S12) hc12) k_588 k_585 k_587 ks_42 k_6 h_M_linePlanes (by rw [hM]; exact ⟨Nat.le_of_ble_eq_true rfl, Nat.le_of_ble_eq_true rfl⟩) ⟨Nat.zero_le _, Nat.zero_le _⟩ rfl rfl rfl (Nat.le_of_ble_eq_true rfl) rfl d_M_carriesMore_12 (q := 15) rfl ?_
  refine z_iconst (v := (0 : Int32)) (by decide) hC d_M_carriesMore_15 (q := 16) rfl ?_
  refine z_istore (lv' := [(7, .int (0 : Int32)), (5, .long v6), (0, .ref (Ω.2.2 100)), (1, .int x1), (2, .int x2), (3, .int x3), (4, .int x4)]) (by decide) rfl hC d_M_carriesMore_16 (q := 18) rfl ?_
  refine z_sub [2, 3, 4, 5, 6, 1, 0] rfl ?_
  exact w_M_carriesMore_18 hC hA hR hM n r n x1 x2 x3 x4 v6 (0 : Int32) S12 h
theorem c_M_carriesMore (l : Launch) (Ω : z_O) (n : Nat) (x1 : Int32) (x2 : Int32) (x3 : Int32) (x4 : Int32) (S : z_S) (r : Int32 × z_S) (h : f_M_carriesMore n x1 x2 x3 x4 S = some r) : z_MI l Ω y_M_carriesMore b_M_carriesMore 13 .boolean 4 114 [.ref (Ω.2.2 100), .int x1, .int x2, .int x3, .int x4] (wM Ω S) r.1 (wM Ω r.2) := z_introI (by decide +kernel) (Nat.le_of_ble_eq_true rfl) rfl (fun X A hC hA hR _ hM => w_M_carriesMore hC hA hR hM n r x1 x2 x3 x4 S h)
def f_M_check_150 (n : Nat) (k23 : Int32 → Int32 → Int32 → Int32 → Int32 → Int32 → Int32 → z_S → Option (Int32 × z_S)) (x1 : Int32) (x2 : Int32) (x3 : Int32) (x4 : Int32) (x5 : Int32) (x7 : Int32) (t0 : Int32) (S : z_S) : Option (Int32 × z_S) := k23 x1 x2 x3 x4 x5 t0 (x7 + (1 : Int32)) S
def f_M_check_148 (n : Nat) (k23 : Int32 → Int32 → Int32 → Int32 → Int32 → Int32 → Int32 → z_S → Option (Int32 × z_S)) (x1 : Int32) (x2 : Int32) (x3 : Int32) (x4 : Int32) (x5 : Int32) (x6 : Int32) (x7 : Int32) (S : z_S) : Option (Int32 × z_S) := f_M_check_150 n k23 x1 x2 x3 x4 x5 x7 x6 S
def f_M_check_111 (n : Nat) (k23 : Int32 → Int32 → Int32 → Int32 → Int32 → Int32 → Int32 → z_S → Option (Int32 × z_S)) (x1 : Int32) (x2 : Int32) (x3 : Int32) (x4 : Int32) (x6 : Int32) (x7 : Int32) (x10 : Int64) (t0 : Int32) (S : z_S) : Option (Int32 × z_S) := ck (vi x7 8) (ck (vi x7 8) ((if (((gI S 7 x7.toNatClampNeg).toInt64) * (gG S 4)) ≤ (gJ S 8 x7.toNatClampNeg) then f_M_check_148 n k23 x1 x2 x3 x4 t0 x6 x7 S else (if x10 ≤ (0 : Int64) then f_M_check_148 n k23 x1 x2 x3 x4 t0 x6 x7 S else f_M_check_150 n k23 x1 x2 x3 x4 t0 x7 (2 : Int32) S))))
def f_M_check_109 (n : Nat) (k23 : Int32 → Int32 → Int32 → Int32 → Int32 → Int32 → Int32 → z_S → Option (Int32 × z_S)) (x1 : Int32) (x2 : Int32) (x3 : Int32) (x4 : Int32) (x5 : Int32) (x6 : Int32) (x7 : Int32) (x10 : Int64) (S : z_S) : Option (Int32 × z_S) := f_M_check_111 n k23 x1 x2 x3 x4 x6 x7 x10 x5 S
def f_M_check_84 (n : Nat) (k23 : Int32 → Int32 → Int32 → Int32 → Int32 → Int32 → Int32 → z_S → Option (Int32 × z_S)) (x1 : Int32) (x2 : Int32) (x3 : Int32) (x4 : Int32) (x5 : Int32) (x6 : Int32) (x7 : Int32) (t0 : Int64) (S : z_S) : Option (Int32 × z_S) := ck (vi x7 8) ((if (gJ S 8 x7.toNatClampNeg) ≤ (0 : Int64) then f_M_check_109 n k23 x1 x2 x3 x4 x5 x6 x7 t0 S else (if (0 : Int64) ≤ t0 then f_M_check_109 n k23 x1 x2 x3 x4 x5 x6 x7 t0 S else f_M_check_111 n k23 x1 x2 x3 x4 x6 x7 t0 (1 : Int32) S)))
def f_M_check_180 (n : Nat) (t0 : Int32) (t1 : Int32) (S : z_S) : Option (Int32 × z_S) := some (t0 + t1, S)
def f_M_check_23 (n : Nat) : Nat → Int32 → Int32 → Int32 → Int32 → Int32 → Int32 → Int32 → z_S → Option (Int32 × z_S)
  | 0, _, _, _, _, _, _, _, _ => none
  | q + 1, x1, x2, x3, x4, x5, x6, x7, S => (if (gF S 1) ≤ x7 then bo (f_M_carriesMore n x1 x2 x3 x4 S) (fun v169 S169 => (if v169 = 0 then f_M_check_180 n (x5 + x6) (0 : Int32) S169 else f_M_check_180 n (x5 + x6) (4 : Int32) S169)) else ck (vi x7 8) (bo (f_M_priceOf n (gI S 5 x7.toNatClampNeg) x1 x2 x3 x4 S) (fun v44 S44 => ck (vi x7 8) ((if (gI S44 4 x7.toNatClampNeg) = 0 then ck (vi x7 8) (f_M_check_84 n (f_M_check_23 n q) x1 x2 x3 x4 x5 x6 x7 (v44 - ((gI S44 6 x7.toNatClampNeg).toInt64)) S44) else ck (vi x7 8) (f_M_check_84 n (f_M_check_23 n q) x1 x2 x3 x4 x5 x6 x7 (((gI S44 6 x7.toNatClampNeg).toInt64) - v44) S44))))))
def f_M_check (n : Nat) (x1 : Int32) (x2 : Int32) (x3 : Int32) (x4 : Int32) (S : z_S) : Option (Int32 × z_S) := bo (f_M_bad n x1 x2 x3 x4 S) (fun v6 S6 => (if v6 = 0 then f_M_check_23 n n x1 x2 x3 x4 (0 : Int32) (0 : Int32) (0 : Int32) S6 else some ((-1 : Int32), S6)))
set_option maxRecDepth 20000 in
theorem w_M_check_150 {X : z_X} {A : Nat → Prop} {Ω : z_O} (hC : z_C X b_M_check 12 "NodalAuctionModel" Ω) (hA : z_hA X A) (hR : z_R X (some .int)) (hM : z_rmOf X = z_rm 5 146) (n : Nat) (r : Int32 × z_S) (k23 : Int32 → Int32 → Int32 → Int32 → Int32 → Int32 → Int32 → z_S → Option (Int32 × z_S)) (hk23 : ∀ (x1 : Int32) (x2 : Int32) (x3 : Int32) (x4 : Int32) (x5 : Int32) (x6 : Int32) (x7 : Int32) (S : z_S), k23 x1 x2 x3 x4 x5 x6 x7 S = some r → z_At X A (z_QI X Ω A r.1 (wM Ω r.2)) Ω 0 0 12 23 [(0, .ref (Ω.2.2 100)), (1, .int x1), (2, .int x2), (3, .int x3), (4, .int x4), (5, .int x5), (6, .int x6), (7, .int x7)] [] (wM Ω S)) (x1 : Int32) (x2 : Int32) (x3 : Int32) (x4 : Int32) (x5 : Int32) (x7 : Int32) (t0 : Int32) (S : z_S) (h : f_M_check_150 n k23 x1 x2 x3 x4 x5 x7 t0 S = some r) : z_At X A (z_QI X Ω A r.1 (wM Ω r.2)) Ω 0 0 12 150 [(0, .ref (Ω.2.2 100)), (1, .int x1), (2, .int x2), (3, .int x3), (4, .int x4), (5, .int x5), (7, .int x7)] [.int t0] (wM Ω S) := by
  refine z_istore (lv' := [(6, .int t0), (0, .ref (Ω.2.2 100)), (1, .int x1), (2, .int x2), (3, .int x3), (4, .int x4), (5, .int x5), (7, .int x7)]) (by decide) rfl hC d_M_check_150 (q := 152) rfl ?_
  refine z_iinc (lv' := [(7, .int (x7 + (1 : Int32))), (6, .int t0), (0, .ref (Ω.2.2 100)), (1, .int x1), (2, .int x2), (3, .int x3), (4, .int x4), (5, .int x5)]) 7 rfl rfl (by decide) rfl hC d_M_check_152 (q := 155) rfl ?_
  refine z_goto (tgt := 23) hC d_M_check_155 rfl ?_
  refine z_sub [2, 3, 4, 5, 6, 7, 1, 0] rfl ?_
  exact hk23 x1 x2 x3 x4 x5 t0 (x7 + (1 : Int32)) S h
set_option maxRecDepth 20000 in
theorem w_M_check_148 {X : z_X} {A : Nat → Prop} {Ω : z_O} (hC : z_C X b_M_check 12 "NodalAuctionModel" Ω) (hA : z_hA X A) (hR : z_R X (some .int)) (hM : z_rmOf X = z_rm 5 146) (n : Nat) (r : Int32 × z_S) (k23 : Int32 → Int32 → Int32 → Int32 → Int32 → Int32 → Int32 → z_S → Option (Int32 × z_S)) (hk23 : ∀ (x1 : Int32) (x2 : Int32) (x3 : Int32) (x4 : Int32) (x5 : Int32) (x6 : Int32) (x7 : Int32) (S : z_S), k23 x1 x2 x3 x4 x5 x6 x7 S = some r → z_At X A (z_QI X Ω A r.1 (wM Ω r.2)) Ω 0 0 12 23 [(0, .ref (Ω.2.2 100)), (1, .int x1), (2, .int x2), (3, .int x3), (4, .int x4), (5, .int x5), (6, .int x6), (7, .int x7)] [] (wM Ω S)) (x1 : Int32) (x2 : Int32) (x3 : Int32) (x4 : Int32) (x5 : Int32) (x6 : Int32) (x7 : Int32) (S : z_S) (h : f_M_check_148 n k23 x1 x2 x3 x4 x5 x6 x7 S = some r) : z_At X A (z_QI X Ω A r.1 (wM Ω r.2)) Ω 0 0 12 148 [(0, .ref (Ω.2.2 100)), (1, .int x1), (2, .int x2), (3, .int x3), (4, .int x4), (5, .int x5), (6, .int x6), (7, .int x7)] [] (wM Ω S) := by
  refine z_iload 6 rfl hC d_M_check_148 (q := 150) rfl ?_
  refine z_sub [0, 1, 2, 3, 4, 5, 7] rfl ?_
  exact w_M_check_150 hC hA hR hM n r k23 hk23 x1 x2 x3 x4 x5 x7 x6 S h
set_option maxRecDepth 20000 in
theorem w_M_check_111 {X : z_X} {A : Nat → Prop} {Ω : z_O} (hC : z_C X b_M_check 12 "NodalAuctionModel" Ω) (hA : z_hA X A) (hR : z_R X (some .int)) (hM : z_rmOf X = z_rm 5 146) (n : Nat) (r : Int32 × z_S) (k23 : Int32 → Int32 → Int32 → Int32 → Int32 → Int32 → Int32 → z_S → Option (Int32 × z_S)) (hk23 : ∀ (x1 : Int32) (x2 : Int32) (x3 : Int32) (x4 : Int32) (x5 : Int32) (x6 : Int32) (x7 : Int32) (S : z_S), k23 x1 x2 x3 x4 x5 x6 x7 S = some r → z_At X A (z_QI X Ω A r.1 (wM Ω r.2)) Ω 0 0 12 23 [(0, .ref (Ω.2.2 100)), (1, .int x1), (2, .int x2), (3, .int x3), (4, .int x4), (5, .int x5), (6, .int x6), (7, .int x7)] [] (wM Ω S)) (x1 : Int32) (x2 : Int32) (x3 : Int32) (x4 : Int32) (x6 : Int32) (x7 : Int32) (x10 : Int64) (t0 : Int32) (S : z_S) (h : f_M_check_111 n k23 x1 x2 x3 x4 x6 x7 x10 t0 S = some r) : z_At X A (z_QI X Ω A r.1 (wM Ω r.2)) Ω 0 0 12 111 [(0, .ref (Ω.2.2 100)), (1, .int x1), (2, .int x2), (3, .int x3), (4, .int x4), (6, .int x6), (7, .int x7), (10, .long x10)] [.int t0] (wM Ω S) := by
  refine z_istore (lv' := [(5, .int t0), (0, .ref (Ω.2.2 100)), (1, .int x1), (2, .int x2), (3, .int x3), (4, .int x4), (6, .int x6), (7, .int x7), (10, .long x10)]) (by decide) rfl hC d_M_check_111 (q := 113) rfl ?_
  refine z_aload_n rfl 1 rfl hC d_M_check_113 (q := 114) rfl ?_
  refine gf_M_66_0 hC d_M_check_114 (q := 117) rfl ?_
  refine z_iload 7 rfl hC d_M_check_117 (q := 119) rfl ?_
  obtain ⟨hv1, h⟩ := ck_some h
  refine al_wM_19 hC hv1 d_M_check_119 (q := 120) rfl ?_
  refine z_aload_n rfl 1 rfl hC d_M_check_120 (q := 121) rfl ?_
  refine gf_M_32_0 hC d_M_check_121 (q := 124) rfl ?_
  refine z_iload 7 rfl hC d_M_check_124 (q := 126) rfl ?_
  obtain ⟨hv2, h⟩ := ck_some h
  refine al_wM_8 hC hv2 d_M_check_126 (q := 127) rfl ?_
  refine z_i2l hC d_M_check_127 (q := 128) rfl ?_
  refine z_aload_n rfl 1 rfl hC d_M_check_128 (q := 129) rfl ?_
  refine gf_M_194_0 hC d_M_check_129 (q := 132) rfl ?_
  refine z_lmul hC d_M_check_132 (q := 133) rfl ?_
  refine z_lcmp_ge (pc1 := 134) (tgt := 148) (q := 137) hC d_M_check_133 rfl d_M_check_134 rfl rfl (fun hb => ?_) (fun hb => ?_)
  · have h := (if_pos hb).symm.trans h
    refine z_sub [1, 2, 3, 4, 5, 0, 6, 7] rfl ?_
    exact w_M_check_148 hC hA hR hM n r k23 hk23 x1 x2 x3 x4 t0 x6 x7 S h
  · have h := (if_neg hb).symm.trans h
    refine z_lload 8 rfl hC d_M_check_137 (q := 139) rfl ?_
    refine z_lconst (v := (0 : Int64)) (by decide) hC d_M_check_139 (q := 140) rfl ?_
    refine z_lcmp_le (pc1 := 141) (tgt := 148) (q := 144) hC d_M_check_140 rfl d_M_check_141 rfl rfl (fun hb => ?_) (fun hb => ?_)
    · have h := (if_pos hb).symm.trans h
      refine z_sub [1, 2, 3, 4, 5, 0, 6, 7] rfl ?_
      exact w_M_check_148 hC hA hR hM n r k23 hk23 x1 x2 x3 x4 t0 x6 x7 S h
    · have h := (if_neg hb).symm.trans h
      refine z_iconst (v := (2 : Int32)) (by decide) hC d_M_check_144 (q := 145) rfl ?_
      refine z_goto (tgt := 150) hC d_M_check_145 rfl ?_
      refine z_sub [1, 2, 3, 4, 5, 0, 7] rfl ?_
      exact w_M_check_150 hC hA hR hM n r k23 hk23 x1 x2 x3 x4 t0 x7 (2 : Int32) S h
set_option maxRecDepth 20000 in
theorem w_M_check_109 {X : z_X} {A : Nat → Prop} {Ω : z_O} (hC : z_C X b_M_check 12 "NodalAuctionModel" Ω) (hA : z_hA X A) (hR : z_R X (some .int)) (hM : z_rmOf X = z_rm 5 146) (n : Nat) (r : Int32 × z_S) (k23 : Int32 → Int32 → Int32 → Int32 → Int32 → Int32 → Int32 → z_S → Option (Int32 × z_S)) (hk23 : ∀ (x1 : Int32) (x2 : Int32) (x3 : Int32) (x4 : Int32) (x5 : Int32) (x6 : Int32) (x7 : Int32) (S : z_S), k23 x1 x2 x3 x4 x5 x6 x7 S = some r → z_At X A (z_QI X Ω A r.1 (wM Ω r.2)) Ω 0 0 12 23 [(0, .ref (Ω.2.2 100)), (1, .int x1), (2, .int x2), (3, .int x3), (4, .int x4), (5, .int x5), (6, .int x6), (7, .int x7)] [] (wM Ω S)) (x1 : Int32) (x2 : Int32) (x3 : Int32) (x4 : Int32) (x5 : Int32) (x6 : Int32) (x7 : Int32) (x10 : Int64) (S : z_S) (h : f_M_check_109 n k23 x1 x2 x3 x4 x5 x6 x7 x10 S = some r) : z_At X A (z_QI X Ω A r.1 (wM Ω r.2)) Ω 0 0 12 109 [(0, .ref (Ω.2.2 100)), (1, .int x1), (2, .int x2), (3, .int x3), (4, .int x4), (5, .int x5), (6, .int x6), (7, .int x7), (10, .long x10)] [] (wM Ω S) := by
  refine z_iload 5 rfl hC d_M_check_109 (q := 111) rfl ?_
  refine z_sub [0, 1, 2, 3, 4, 6, 7, 8] rfl ?_
  exact w_M_check_111 hC hA hR hM n r k23 hk23 x1 x2 x3 x4 x6 x7 x10 x5 S h
set_option maxRecDepth 20000 in
theorem w_M_check_84 {X : z_X} {A : Nat → Prop} {Ω : z_O} (hC : z_C X b_M_check 12 "NodalAuctionModel" Ω) (hA : z_hA X A) (hR : z_R X (some .int)) (hM : z_rmOf X = z_rm 5 146) (n : Nat) (r : Int32 × z_S) (k23 : Int32 → Int32 → Int32 → Int32 → Int32 → Int32 → Int32 → z_S → Option (Int32 × z_S)) (hk23 : ∀ (x1 : Int32) (x2 : Int32) (x3 : Int32) (x4 : Int32) (x5 : Int32) (x6 : Int32) (x7 : Int32) (S : z_S), k23 x1 x2 x3 x4 x5 x6 x7 S = some r → z_At X A (z_QI X Ω A r.1 (wM Ω r.2)) Ω 0 0 12 23 [(0, .ref (Ω.2.2 100)), (1, .int x1), (2, .int x2), (3, .int x3), (4, .int x4), (5, .int x5), (6, .int x6), (7, .int x7)] [] (wM Ω S)) (x1 : Int32) (x2 : Int32) (x3 : Int32) (x4 : Int32) (x5 : Int32) (x6 : Int32) (x7 : Int32) (t0 : Int64) (S : z_S) (h : f_M_check_84 n k23 x1 x2 x3 x4 x5 x6 x7 t0 S = some r) : z_At X A (z_QI X Ω A r.1 (wM Ω r.2)) Ω 0 0 12 84 [(0, .ref (Ω.2.2 100)), (1, .int x1), (2, .int x2), (3, .int x3), (4, .int x4), (5, .int x5), (6, .int x6), (7, .int x7)] [.long t0] (wM Ω S) := by
  refine z_lstore (lv' := [(10, .long t0), (0, .ref (Ω.2.2 100)), (1, .int x1), (2, .int x2), (3, .int x3), (4, .int x4), (5, .int x5), (6, .int x6), (7, .int x7)]) (by decide) rfl hC d_M_check_84 (q := 86) rfl ?_
  refine z_aload_n rfl 1 rfl hC d_M_check_86 (q := 87) rfl ?_
  refine gf_M_66_0 hC d_M_check_87 (q := 90) rfl ?_
  refine z_iload 8 rfl hC d_M_check_90 (q := 92) rfl ?_
  obtain ⟨hv1, h⟩ := ck_some h
  refine al_wM_19 hC hv1 d_M_check_92 (q := 93) rfl ?_
  refine z_lconst (v := (0 : Int64)) (by decide) hC d_M_check_93 (q := 94) rfl ?_
  refine z_lcmp_le (pc1 := 95) (tgt := 109) (q := 98) hC d_M_check_94 rfl d_M_check_95 rfl rfl (fun hb => ?_) (fun hb => ?_)
  · have h := (if_pos hb).symm.trans h
    refine z_sub [1, 2, 3, 4, 5, 6, 7, 8, 0] rfl ?_
    exact w_M_check_109 hC hA hR hM n r k23 hk23 x1 x2 x3 x4 x5 x6 x7 t0 S h
  · have h := (if_neg hb).symm.trans h
    refine z_lload 0 rfl hC d_M_check_98 (q := 100) rfl ?_
    refine z_lconst (v := (0 : Int64)) (by decide) hC d_M_check_100 (q := 101) rfl ?_
    refine z_lcmp_ge (pc1 := 102) (tgt := 109) (q := 105) hC d_M_check_101 rfl d_M_check_102 rfl rfl (fun hb => ?_) (fun hb => ?_)
    · have h := (if_pos hb).symm.trans h
      refine z_sub [1, 2, 3, 4, 5, 6, 7, 8, 0] rfl ?_
      exact w_M_check_109 hC hA hR hM n r k23 hk23 x1 x2 x3 x4 x5 x6 x7 t0 S h
    · have h := (if_neg hb).symm.trans h
      refine z_iconst (v := (1 : Int32)) (by decide) hC d_M_check_105 (q := 106) rfl ?_
      refine z_goto (tgt := 111) hC d_M_check_106 rfl ?_
      refine z_sub [1, 2, 3, 4, 5, 7, 8, 0] rfl ?_
      exact w_M_check_111 hC hA hR hM n r k23 hk23 x1 x2 x3 x4 x6 x7 t0 (1 : Int32) S h
set_option maxRecDepth 20000 in
theorem w_M_check_180 {X : z_X} {A : Nat → Prop} {Ω : z_O} (hC : z_C X b_M_check 12 "NodalAuctionModel" Ω) (hA : z_hA X A) (hR : z_R X (some .int)) (hM : z_rmOf X = z_rm 5 146) (n : Nat) (r : Int32 × z_S) (t0 : Int32) (t1 : Int32) (S : z_S) (h : f_M_check_180 n t0 t1 S = some r) : z_At X A (z_QI X Ω A r.1 (wM Ω r.2)) Ω 0 0 12 180 [(0, .ref (Ω.2.2 100))] [.int t1, .int t0] (wM Ω S) := by
  refine z_iadd hC d_M_check_180 (q := 181) rfl ?_
  cases h
  exact z_iret hC hR rfl rfl d_M_check_181
set_option maxRecDepth 20000 in
theorem w_M_check_23 {X : z_X} {A : Nat → Prop} {Ω : z_O} (hC : z_C X b_M_check 12 "NodalAuctionModel" Ω) (hA : z_hA X A) (hR : z_R X (some .int)) (hM : z_rmOf X = z_rm 5 146) (n : Nat) (r : Int32 × z_S) : ∀ (q : Nat) (x1 : Int32) (x2 : Int32) (x3 : Int32) (x4 : Int32) (x5 : Int32) (x6 : Int32) (x7 : Int32) (S : z_S), f_M_check_23 n q x1 x2 x3 x4 x5 x6 x7 S = some r → z_At X A (z_QI X Ω A r.1 (wM Ω r.2)) Ω 0 0 12 23 [(0, .ref (Ω.2.2 100)), (1, .int x1), (2, .int x2), (3, .int x3), (4, .int x4), (5, .int x5), (6, .int x6), (7, .int x7)] [] (wM Ω S) := by
  intro q
  induction q with
  | zero => intro x1 x2 x3 x4 x5 x6 x7 S h; cases h
  | succ q ih =>
    intro x1 x2 x3 x4 x5 x6 x7 S h
    refine z_iload 7 rfl hC d_M_check_23 (q := 25) rfl ?_
    refine z_aload_n rfl 0 rfl hC d_M_check_25 (q := 26) rfl ?_
    refine gf_M_94_0 hC d_M_check_26 (q := 29) rfl ?_
    refine z_icmp_ge (tgt := 158) (q := 32) hC d_M_check_29 rfl rfl (fun hb => ?_) (fun hb => ?_)
    · have h := (if_pos hb).symm.trans h
      refine z_iload 5 rfl hC d_M_check_158 (q := 160) rfl ?_
      refine z_iload 6 rfl hC d_M_check_160 (q := 162) rfl ?_
      refine z_iadd hC d_M_check_162 (q := 163) rfl ?_
      refine z_aload_n rfl 0 rfl hC d_M_check_163 (q := 164) rfl ?_
      refine z_iload_n rfl 1 rfl hC d_M_check_164 (q := 165) rfl ?_
      refine z_iload_n rfl 2 rfl hC d_M_check_165 (q := 166) rfl ?_
      refine z_iload_n rfl 3 rfl hC d_M_check_166 (q := 167) rfl ?_
      refine z_iload 4 rfl hC d_M_check_167 (q := 169) rfl ?_
      obtain ⟨v169, S169, hc169, h⟩ := bo_some h
      refine z_callVi (q0 := 0) (As := [.int x1, .int x2, .int x3, .int x4]) hC hA (c_M_carriesMore (z_lOf X) Ω n x1 x2 x3 x4 S (v169, S169) hc169) k_704 k_701 k_703 ks_59 k_6 h_M_carriesMore (by rw [hM]; exact ⟨Nat.le_of_ble_eq_true rfl, Nat.le_of_ble_eq_true rfl⟩) ⟨Nat.zero_le _, Nat.zero_le _⟩ rfl rfl rfl (Nat.le_of_ble_eq_true rfl) rfl d_M_check_169 (q := 172) rfl ?_
      refine z_if_eq (tgt := 179) (q := 175) hC d_M_check_172 rfl rfl (fun hb => ?_) (fun hb => ?_)
      · have h := (if_pos hb).symm.trans h
        refine z_iconst (v := (0 : Int32)) (by decide) hC d_M_check_179 (q := 180) rfl ?_
        refine z_sub [0] rfl ?_
        exact w_M_check_180 hC hA hR hM n r (x5 + x6) (0 : Int32) S169 h
      · have h := (if_neg hb).symm.trans h
        refine z_iconst (v := (4 : Int32)) (by decide) hC d_M_check_175 (q := 176) rfl ?_
        refine z_goto (tgt := 180) hC d_M_check_176 rfl ?_
        refine z_sub [0] rfl ?_
        exact w_M_check_180 hC hA hR hM n r (x5 + x6) (4 : Int32) S169 h
    · have h := (if_neg hb).symm.trans h
      refine z_aload_n rfl 0 rfl hC d_M_check_32 (q := 33) rfl ?_
      refine gf_M_26_0 hC d_M_check_33 (q := 36) rfl ?_
      refine z_iload 7 rfl hC d_M_check_36 (q := 38) rfl ?_
      obtain ⟨hv1, h⟩ := ck_some h
      refine al_wM_6 hC hv1 d_M_check_38 (q := 39) rfl ?_
      refine z_iload_n rfl 1 rfl hC d_M_check_39 (q := 40) rfl ?_
      refine z_iload_n rfl 2 rfl hC d_M_check_40 (q := 41) rfl ?_
      refine z_iload_n rfl 3 rfl hC d_M_check_41 (q := 42) rfl ?_
      refine z_iload 4 rfl hC d_M_check_42 (q := 44) rfl ?_
      obtain ⟨v44, S44, hc44, h⟩ := bo_some h
      refine z_callSl (As := [.int (gI S 5 x7.toNatClampNeg), .int x1, .int x2, .int x3, .int x4]) hC hA (c_M_priceOf (z_lOf X) Ω n (gI S 5 x7.toNatClampNeg) x1 x2 x3 x4 S (v44, S44) hc44) k_700 k_698 k_699 k_6 h_M_priceOf (by rw [hM]; exact ⟨Nat.le_of_ble_eq_true rfl, Nat.le_of_ble_eq_true rfl⟩) ⟨Nat.zero_le _, Nat.zero_le _⟩ rfl (Nat.le_of_ble_eq_true rfl) rfl d_M_check_44 (q := 47) rfl ?_
      refine z_lstore (lv' := [(8, .long v44), (0, .ref (Ω.2.2 100)), (1, .int x1), (2, .int x2), (3, .int x3), (4, .int x4), (5, .int x5), (6, .int x6), (7, .int x7)]) (by decide) rfl hC d_M_check_47 (q := 49) rfl ?_
      refine z_aload_n rfl 1 rfl hC d_M_check_49 (q := 50) rfl ?_
      refine gf_M_22_0 hC d_M_check_50 (q := 53) rfl ?_
      refine z_iload 8 rfl hC d_M_check_53 (q := 55) rfl ?_
      obtain ⟨hv2, h⟩ := ck_some h
      refine al_wM_5 hC hv2 d_M_check_55 (q := 56) rfl ?_
      refine z_if_eq (tgt := 73) (q := 59) hC d_M_check_56 rfl rfl (fun hb => ?_) (fun hb => ?_)
      · have h := (if_pos hb).symm.trans h
        refine z_lload 0 rfl hC d_M_check_73 (q := 75) rfl ?_
        refine z_aload_n rfl 1 rfl hC d_M_check_75 (q := 76) rfl ?_
        refine gf_M_29_0 hC d_M_check_76 (q := 79) rfl ?_
        refine z_iload 8 rfl hC d_M_check_79 (q := 81) rfl ?_
        obtain ⟨hv3, h⟩ := ck_some h
        refine al_wM_7 hC hv3 d_M_check_81 (q := 82) rfl ?_
        refine z_i2l hC d_M_check_82 (q := 83) rfl ?_
        refine z_lsub hC d_M_check_83 (q := 84) rfl ?_
        refine z_sub [1, 2, 3, 4, 5, 6, 7, 8] rfl ?_
        exact w_M_check_84 hC hA hR hM n r (f_M_check_23 n q) ih x1 x2 x3 x4 x5 x6 x7 (v44 - ((gI S44 6 x7.toNatClampNeg).toInt64)) S44 h
      · have h := (if_neg hb).symm.trans h
        refine z_aload_n rfl 1 rfl hC d_M_check_59 (q := 60) rfl ?_
        refine gf_M_29_0 hC d_M_check_60 (q := 63) rfl ?_
        refine z_iload 8 rfl hC d_M_check_63 (q := 65) rfl ?_
        obtain ⟨hv3, h⟩ := ck_some h
        refine al_wM_7 hC hv3 d_M_check_65 (q := 66) rfl ?_
        refine z_i2l hC d_M_check_66 (q := 67) rfl ?_
        refine z_lload 0 rfl hC d_M_check_67 (q := 69) rfl ?_
        refine z_lsub hC d_M_check_69 (q := 70) rfl ?_
        refine z_goto (tgt := 84) hC d_M_check_70 rfl ?_
        refine z_sub [1, 2, 3, 4, 5, 6, 7, 8] rfl ?_
        exact w_M_check_84 hC hA hR hM n r (f_M_check_23 n q) ih x1 x2 x3 x4 x5 x6 x7 (((gI S44 6 x7.toNatClampNeg).toInt64) - v44) S44 h
set_option maxRecDepth 20000 in
theorem w_M_check {X : z_X} {A : Nat → Prop} {Ω : z_O} (hC : z_C X b_M_check 12 "NodalAuctionModel" Ω) (hA : z_hA X A) (hR : z_R X (some .int)) (hM : z_rmOf X = z_rm 5 146) (n : Nat) (r : Int32 × z_S) (x1 : Int32) (x2 : Int32) (x3 : Int32) (x4 : Int32) (S : z_S) (h : f_M_check n x1 x2 x3 x4 S = some r) : z_At X A (z_QI X Ω A r.1 (wM Ω r.2)) Ω 0 0 12 0 [(0, .ref (Ω.2.2 100)), (1, .int x1), (2, .int x2), (3, .int x3), (4, .int x4)] [] (wM Ω S) := by
  refine z_aload_n rfl 0 rfl hC d_M_check_0 (q := 1) rfl ?_
  refine z_iload_n rfl 1 rfl hC d_M_check_1 (q := 2) rfl ?_
  refine z_iload_n rfl 2 rfl hC d_M_check_2 (q := 3) rfl ?_
  refine z_iload_n rfl 3 rfl hC d_M_check_3 (q := 4) rfl ?_
  refine z_iload 4 rfl hC d_M_check_4 (q := 6) rfl ?_
  obtain ⟨v6, S6, hc6, h⟩ := bo_some h
  refine z_callVi (q0 := 0) (As := [.int x1, .int x2, .int x3, .int x4]) hC hA (c_M_bad (z_lOf X) Ω n x1 x2 x3 x4 S (v6, S6) hc6) k_697 k_694 k_696 ks_58 k_6 h_M_bad (by rw [hM]; exact ⟨Nat.le_of_ble_eq_true rfl, Nat.le_of_ble_eq_true rfl⟩) ⟨Nat.zero_le _, Nat.zero_le _⟩ rfl rfl rfl (Nat.le_of_ble_eq_true rfl) rfl d_M_check_6 (q := 9) rfl ?_
  refine z_if_eq (tgt := 14) (q := 12) hC d_M_check_9 rfl rfl (fun hb => ?_) (fun hb => ?_)
  · have h := (if_pos hb).symm.trans h
    refine z_iconst (v := (0 : Int32)) (by decide) hC d_M_check_14 (q := 15) rfl ?_
    refine z_istore (lv' := [(5, .int (0 : Int32)), (0, .ref (Ω.2.2 100)), (1, .int x1), (2, .int x2), (3, .int x3), (4, .int x4)]) (by decide) rfl hC d_M_check_15 (q := 17) rfl ?_
    refine z_iconst (v := (0 : Int32)) (by decide) hC d_M_check_17 (q := 18) rfl ?_
    refine z_istore (lv' := [(6, .int (0 : Int32)), (5, .int (0 : Int32)), (0, .ref (Ω.2.2 100)), (1, .int x1), (2, .int x2), (3, .int x3), (4, .int x4)]) (by decide) rfl hC d_M_check_18 (q := 20) rfl ?_
    refine z_iconst (v := (0 : Int32)) (by decide) hC d_M_check_20 (q := 21) rfl ?_
    refine z_istore (lv' := [(7, .int (0 : Int32)), (6, .int (0 : Int32)), (5, .int (0 : Int32)), (0, .ref (Ω.2.2 100)), (1, .int x1), (2, .int x2), (3, .int x3), (4, .int x4)]) (by decide) rfl hC d_M_check_21 (q := 23) rfl ?_
    refine z_sub [3, 4, 5, 6, 7, 2, 1, 0] rfl ?_
    exact w_M_check_23 hC hA hR hM n r n x1 x2 x3 x4 (0 : Int32) (0 : Int32) (0 : Int32) S6 h
  · have h := (if_neg hb).symm.trans h
    refine z_iconst (v := (-1 : Int32)) (by decide) hC d_M_check_12 (q := 13) rfl ?_
    cases h
    exact z_iret hC hR rfl rfl d_M_check_13
theorem c_M_check (l : Launch) (Ω : z_O) (n : Nat) (x1 : Int32) (x2 : Int32) (x3 : Int32) (x4 : Int32) (S : z_S) (r : Int32 × z_S) (h : f_M_check n x1 x2 x3 x4 S = some r) : z_MI l Ω y_M_check b_M_check 12 .int 5 146 [.ref (Ω.2.2 100), .int x1, .int x2, .int x3, .int x4] (wM Ω S) r.1 (wM Ω r.2) := z_introI (by decide +kernel) (Nat.le_of_ble_eq_true rfl) rfl (fun X A hC hA hR _ hM => w_M_check hC hA hR hM n r x1 x2 x3 x4 S h)
