section
/-- a private method of a class that the tables say can be made, by its rows of tables_1 -/
def lw_okq (q : MethodName × Nat) : Prop := (q.1.cls ≠ "java/lang/invoke/MethodHandle" ∧ q.1.cls ≠ "java/lang/invoke/VarHandle") ∧ Cond.instantiable q.1.cls q.2 ∈ tables_1 ∧ Cond.privateMethod q.1 ∈ tables_1 ∧ Cond.instanceMethod q.1 ∈ tables_1
theorem lw_p0 : lw_okq (⟨"NodalAuction$Grid", "joins", "(II)Z"⟩, 8) := ⟨⟨by decide +kernel, by decide +kernel⟩, List.mem_of_getElem? (i := 17) (by decide +kernel), List.mem_of_getElem? (i := 188) (by decide +kernel), List.mem_of_getElem? (i := 189) (by decide +kernel)⟩
theorem lw_p1 : lw_okq (⟨"NodalAuction$Grid", "add", "(IIII)I"⟩, 8) := ⟨⟨by decide +kernel, by decide +kernel⟩, List.mem_of_getElem? (i := 17) (by decide +kernel), List.mem_of_getElem? (i := 193) (by decide +kernel), List.mem_of_getElem? (i := 194) (by decide +kernel)⟩
theorem lw_p2 : lw_okq (⟨"NodalAuction$Grid", "has", "(I)Z"⟩, 8) := ⟨⟨by decide +kernel, by decide +kernel⟩, List.mem_of_getElem? (i := 17) (by decide +kernel), List.mem_of_getElem? (i := 202) (by decide +kernel), List.mem_of_getElem? (i := 203) (by decide +kernel)⟩
theorem lw_p3 : lw_okq (⟨"NodalAuction$Grid", "remove", "(I)V"⟩, 8) := ⟨⟨by decide +kernel, by decide +kernel⟩, List.mem_of_getElem? (i := 17) (by decide +kernel), List.mem_of_getElem? (i := 210) (by decide +kernel), List.mem_of_getElem? (i := 211) (by decide +kernel)⟩
theorem lw_p4 : lw_okq (⟨"NodalAuction", "addStep", "(IIII)I"⟩, 6) := ⟨⟨by decide +kernel, by decide +kernel⟩, List.mem_of_getElem? (i := 9) (by decide +kernel), List.mem_of_getElem? (i := 218) (by decide +kernel), List.mem_of_getElem? (i := 219) (by decide +kernel)⟩
theorem lw_p5 : lw_okq (⟨"NodalAuction$Book", "add", "(IIII)I"⟩, 5) := ⟨⟨by decide +kernel, by decide +kernel⟩, List.mem_of_getElem? (i := 58) (by decide +kernel), List.mem_of_getElem? (i := 222) (by decide +kernel), List.mem_of_getElem? (i := 223) (by decide +kernel)⟩
theorem lw_p6 : lw_okq (⟨"NodalAuction$Book", "has", "(I)Z"⟩, 5) := ⟨⟨by decide +kernel, by decide +kernel⟩, List.mem_of_getElem? (i := 58) (by decide +kernel), List.mem_of_getElem? (i := 235) (by decide +kernel), List.mem_of_getElem? (i := 236) (by decide +kernel)⟩
theorem lw_p7 : lw_okq (⟨"NodalAuction$Book", "remove", "(I)V"⟩, 5) := ⟨⟨by decide +kernel, by decide +kernel⟩, List.mem_of_getElem? (i := 58) (by decide +kernel), List.mem_of_getElem? (i := 239) (by decide +kernel), List.mem_of_getElem? (i := 240) (by decide +kernel)⟩
theorem lw_p8 : lw_okq (⟨"NodalAuction$Program", "load", "(LNodalAuction$Grid;LNodalAuction$Book;II)Z"⟩, 10) := ⟨⟨by decide +kernel, by decide +kernel⟩, List.mem_of_getElem? (i := 91) (by decide +kernel), List.mem_of_getElem? (i := 247) (by decide +kernel), List.mem_of_getElem? (i := 248) (by decide +kernel)⟩
theorem lw_p9 : lw_okq (⟨"NodalAuction$Grid", "ground", "(I)V"⟩, 8) := ⟨⟨by decide +kernel, by decide +kernel⟩, List.mem_of_getElem? (i := 17) (by decide +kernel), List.mem_of_getElem? (i := 251) (by decide +kernel), List.mem_of_getElem? (i := 252) (by decide +kernel)⟩
theorem lw_p10 : lw_okq (⟨"NodalAuction$Grid", "weighNodes", "()V"⟩, 8) := ⟨⟨by decide +kernel, by decide +kernel⟩, List.mem_of_getElem? (i := 17) (by decide +kernel), List.mem_of_getElem? (i := 255) (by decide +kernel), List.mem_of_getElem? (i := 256) (by decide +kernel)⟩
theorem lw_p11 : lw_okq (⟨"NodalAuction$Grid", "cofactor", "(III)J"⟩, 8) := ⟨⟨by decide +kernel, by decide +kernel⟩, List.mem_of_getElem? (i := 17) (by decide +kernel), List.mem_of_getElem? (i := 262) (by decide +kernel), List.mem_of_getElem? (i := 263) (by decide +kernel)⟩
theorem lw_p12 : lw_okq (⟨"NodalAuction$Program", "placeRow", "(IIII)V"⟩, 10) := ⟨⟨by decide +kernel, by decide +kernel⟩, List.mem_of_getElem? (i := 91) (by decide +kernel), List.mem_of_getElem? (i := 266) (by decide +kernel), List.mem_of_getElem? (i := 267) (by decide +kernel)⟩
theorem lw_p13 : lw_okq (⟨"NodalAuction$Program", "placeColumn", "(II)V"⟩, 10) := ⟨⟨by decide +kernel, by decide +kernel⟩, List.mem_of_getElem? (i := 91) (by decide +kernel), List.mem_of_getElem? (i := 270) (by decide +kernel), List.mem_of_getElem? (i := 271) (by decide +kernel)⟩
theorem lw_p14 : lw_okq (⟨"NodalAuction$Grid", "share", "(II)J"⟩, 8) := ⟨⟨by decide +kernel, by decide +kernel⟩, List.mem_of_getElem? (i := 17) (by decide +kernel), List.mem_of_getElem? (i := 274) (by decide +kernel), List.mem_of_getElem? (i := 275) (by decide +kernel)⟩
theorem lw_p15 : lw_okq (⟨"NodalAuction$Program", "maximise", "(I)V"⟩, 10) := ⟨⟨by decide +kernel, by decide +kernel⟩, List.mem_of_getElem? (i := 91) (by decide +kernel), List.mem_of_getElem? (i := 278) (by decide +kernel), List.mem_of_getElem? (i := 279) (by decide +kernel)⟩
def lw_privs_1 : List (MethodName × Nat) := [(⟨"NodalAuction$Grid", "joins", "(II)Z"⟩, 8), (⟨"NodalAuction$Grid", "add", "(IIII)I"⟩, 8), (⟨"NodalAuction$Grid", "has", "(I)Z"⟩, 8), (⟨"NodalAuction$Grid", "remove", "(I)V"⟩, 8), (⟨"NodalAuction", "addStep", "(IIII)I"⟩, 6), (⟨"NodalAuction$Book", "add", "(IIII)I"⟩, 5), (⟨"NodalAuction$Book", "has", "(I)Z"⟩, 5), (⟨"NodalAuction$Book", "remove", "(I)V"⟩, 5), (⟨"NodalAuction$Program", "load", "(LNodalAuction$Grid;LNodalAuction$Book;II)Z"⟩, 10), (⟨"NodalAuction$Grid", "ground", "(I)V"⟩, 8), (⟨"NodalAuction$Grid", "weighNodes", "()V"⟩, 8), (⟨"NodalAuction$Grid", "cofactor", "(III)J"⟩, 8), (⟨"NodalAuction$Program", "placeRow", "(IIII)V"⟩, 10), (⟨"NodalAuction$Program", "placeColumn", "(II)V"⟩, 10), (⟨"NodalAuction$Grid", "share", "(II)J"⟩, 8), (⟨"NodalAuction$Program", "maximise", "(I)V"⟩, 10)]
theorem lw_r1 : ∀ q ∈ lw_privs_1, lw_okq q := List.forall_mem_cons.mpr ⟨lw_p0, List.forall_mem_cons.mpr ⟨lw_p1, List.forall_mem_cons.mpr ⟨lw_p2, List.forall_mem_cons.mpr ⟨lw_p3, List.forall_mem_cons.mpr ⟨lw_p4, List.forall_mem_cons.mpr ⟨lw_p5, List.forall_mem_cons.mpr ⟨lw_p6, List.forall_mem_cons.mpr ⟨lw_p7, List.forall_mem_cons.mpr ⟨lw_p8, List.forall_mem_cons.mpr ⟨lw_p9, List.forall_mem_cons.mpr ⟨lw_p10, List.forall_mem_cons.mpr ⟨lw_p11, List.forall_mem_cons.mpr ⟨lw_p12, List.forall_mem_cons.mpr ⟨lw_p13, List.forall_mem_cons.mpr ⟨lw_p14, List.forall_mem_cons.mpr ⟨lw_p15, fun _ h => absurd h List.not_mem_nil⟩⟩⟩⟩⟩⟩⟩⟩⟩⟩⟩⟩⟩⟩⟩⟩
theorem lw_p16 : lw_okq (⟨"NodalAuction$Program", "rowOf", "(I)I"⟩, 10) := ⟨⟨by decide +kernel, by decide +kernel⟩, List.mem_of_getElem? (i := 91) (by decide +kernel), List.mem_of_getElem? (i := 283) (by decide +kernel), List.mem_of_getElem? (i := 284) (by decide +kernel)⟩
theorem lw_p17 : lw_okq (⟨"NodalAuction$Program", "firstGain", "(II)I"⟩, 10) := ⟨⟨by decide +kernel, by decide +kernel⟩, List.mem_of_getElem? (i := 91) (by decide +kernel), List.mem_of_getElem? (i := 287) (by decide +kernel), List.mem_of_getElem? (i := 288) (by decide +kernel)⟩
theorem lw_p18 : lw_okq (⟨"NodalAuction$Program", "gain", "(III)J"⟩, 10) := ⟨⟨by decide +kernel, by decide +kernel⟩, List.mem_of_getElem? (i := 91) (by decide +kernel), List.mem_of_getElem? (i := 291) (by decide +kernel), List.mem_of_getElem? (i := 292) (by decide +kernel)⟩
theorem lw_p19 : lw_okq (⟨"NodalAuction$Program", "canMove", "(IJ)Z"⟩, 10) := ⟨⟨by decide +kernel, by decide +kernel⟩, List.mem_of_getElem? (i := 91) (by decide +kernel), List.mem_of_getElem? (i := 295) (by decide +kernel), List.mem_of_getElem? (i := 296) (by decide +kernel)⟩
theorem lw_p20 : lw_okq (⟨"NodalAuction$Program", "advance", "(IZ)V"⟩, 10) := ⟨⟨by decide +kernel, by decide +kernel⟩, List.mem_of_getElem? (i := 91) (by decide +kernel), List.mem_of_getElem? (i := 299) (by decide +kernel), List.mem_of_getElem? (i := 300) (by decide +kernel)⟩
theorem lw_p21 : lw_okq (⟨"NodalAuction$Program", "roomOf", "(IZ)J"⟩, 10) := ⟨⟨by decide +kernel, by decide +kernel⟩, List.mem_of_getElem? (i := 91) (by decide +kernel), List.mem_of_getElem? (i := 303) (by decide +kernel), List.mem_of_getElem? (i := 304) (by decide +kernel)⟩
theorem lw_p22 : lw_okq (⟨"NodalAuction$Program", "rowTop", "(I)J"⟩, 10) := ⟨⟨by decide +kernel, by decide +kernel⟩, List.mem_of_getElem? (i := 91) (by decide +kernel), List.mem_of_getElem? (i := 307) (by decide +kernel), List.mem_of_getElem? (i := 308) (by decide +kernel)⟩
theorem lw_p23 : lw_okq (⟨"NodalAuction$Program", "pivot", "(II)V"⟩, 10) := ⟨⟨by decide +kernel, by decide +kernel⟩, List.mem_of_getElem? (i := 91) (by decide +kernel), List.mem_of_getElem? (i := 314) (by decide +kernel), List.mem_of_getElem? (i := 315) (by decide +kernel)⟩
theorem lw_p24 : lw_okq (⟨"NodalAuction$Program", "replaceRow", "(III)V"⟩, 10) := ⟨⟨by decide +kernel, by decide +kernel⟩, List.mem_of_getElem? (i := 91) (by decide +kernel), List.mem_of_getElem? (i := 319) (by decide +kernel), List.mem_of_getElem? (i := 320) (by decide +kernel)⟩
theorem lw_p25 : lw_okq (⟨"NodalAuction$Outcome", "take", "(LNodalAuction$Program;LNodalAuction$Grid;LNodalAuction$Book;)V"⟩, 5) := ⟨⟨by decide +kernel, by decide +kernel⟩, List.mem_of_getElem? (i := 132) (by decide +kernel), List.mem_of_getElem? (i := 323) (by decide +kernel), List.mem_of_getElem? (i := 324) (by decide +kernel)⟩
theorem lw_p26 : lw_okq (⟨"NodalAuction$Program", "top", "(I)J"⟩, 10) := ⟨⟨by decide +kernel, by decide +kernel⟩, List.mem_of_getElem? (i := 91) (by decide +kernel), List.mem_of_getElem? (i := 327) (by decide +kernel), List.mem_of_getElem? (i := 328) (by decide +kernel)⟩
theorem lw_p27 : lw_okq (⟨"NodalAuction$Outcome", "taken", "(I)I"⟩, 5) := ⟨⟨by decide +kernel, by decide +kernel⟩, List.mem_of_getElem? (i := 132) (by decide +kernel), List.mem_of_getElem? (i := 335) (by decide +kernel), List.mem_of_getElem? (i := 336) (by decide +kernel)⟩
theorem lw_p28 : lw_okq (⟨"NodalAuction", "addOneAt", "(I)Z"⟩, 6) := ⟨⟨by decide +kernel, by decide +kernel⟩, List.mem_of_getElem? (i := 9) (by decide +kernel), List.mem_of_getElem? (i := 375) (by decide +kernel), List.mem_of_getElem? (i := 376) (by decide +kernel)⟩
theorem lw_p29 : lw_okq (⟨"NodalAuction", "costTop", "()J"⟩, 6) := ⟨⟨by decide +kernel, by decide +kernel⟩, List.mem_of_getElem? (i := 9) (by decide +kernel), List.mem_of_getElem? (i := 380) (by decide +kernel), List.mem_of_getElem? (i := 381) (by decide +kernel)⟩
theorem lw_p30 : lw_okq (⟨"NodalAuction", "costBottom", "()J"⟩, 6) := ⟨⟨by decide +kernel, by decide +kernel⟩, List.mem_of_getElem? (i := 9) (by decide +kernel), List.mem_of_getElem? (i := 384) (by decide +kernel), List.mem_of_getElem? (i := 385) (by decide +kernel)⟩
theorem lw_p31 : lw_okq (⟨"NodalAuction", "takePrices", "(IIII)Z"⟩, 6) := ⟨⟨by decide +kernel, by decide +kernel⟩, List.mem_of_getElem? (i := 9) (by decide +kernel), List.mem_of_getElem? (i := 397) (by decide +kernel), List.mem_of_getElem? (i := 398) (by decide +kernel)⟩
def lw_privs_2 : List (MethodName × Nat) := [(⟨"NodalAuction$Program", "rowOf", "(I)I"⟩, 10), (⟨"NodalAuction$Program", "firstGain", "(II)I"⟩, 10), (⟨"NodalAuction$Program", "gain", "(III)J"⟩, 10), (⟨"NodalAuction$Program", "canMove", "(IJ)Z"⟩, 10), (⟨"NodalAuction$Program", "advance", "(IZ)V"⟩, 10), (⟨"NodalAuction$Program", "roomOf", "(IZ)J"⟩, 10), (⟨"NodalAuction$Program", "rowTop", "(I)J"⟩, 10), (⟨"NodalAuction$Program", "pivot", "(II)V"⟩, 10), (⟨"NodalAuction$Program", "replaceRow", "(III)V"⟩, 10), (⟨"NodalAuction$Outcome", "take", "(LNodalAuction$Program;LNodalAuction$Grid;LNodalAuction$Book;)V"⟩, 5), (⟨"NodalAuction$Program", "top", "(I)J"⟩, 10), (⟨"NodalAuction$Outcome", "taken", "(I)I"⟩, 5), (⟨"NodalAuction", "addOneAt", "(I)Z"⟩, 6), (⟨"NodalAuction", "costTop", "()J"⟩, 6), (⟨"NodalAuction", "costBottom", "()J"⟩, 6), (⟨"NodalAuction", "takePrices", "(IIII)Z"⟩, 6)]
theorem lw_r2 : ∀ q ∈ lw_privs_2, lw_okq q := List.forall_mem_cons.mpr ⟨lw_p16, List.forall_mem_cons.mpr ⟨lw_p17, List.forall_mem_cons.mpr ⟨lw_p18, List.forall_mem_cons.mpr ⟨lw_p19, List.forall_mem_cons.mpr ⟨lw_p20, List.forall_mem_cons.mpr ⟨lw_p21, List.forall_mem_cons.mpr ⟨lw_p22, List.forall_mem_cons.mpr ⟨lw_p23, List.forall_mem_cons.mpr ⟨lw_p24, List.forall_mem_cons.mpr ⟨lw_p25, List.forall_mem_cons.mpr ⟨lw_p26, List.forall_mem_cons.mpr ⟨lw_p27, List.forall_mem_cons.mpr ⟨lw_p28, List.forall_mem_cons.mpr ⟨lw_p29, List.forall_mem_cons.mpr ⟨lw_p30, List.forall_mem_cons.mpr ⟨lw_p31, fun _ h => absurd h List.not_mem_nil⟩⟩⟩⟩⟩⟩⟩⟩⟩⟩⟩⟩⟩⟩⟩⟩
theorem lw_p32 : lw_okq (⟨"NodalAuction", "someStepLoses", "()Z"⟩, 6) := ⟨⟨by decide +kernel, by decide +kernel⟩, List.mem_of_getElem? (i := 9) (by decide +kernel), List.mem_of_getElem? (i := 401) (by decide +kernel), List.mem_of_getElem? (i := 402) (by decide +kernel)⟩
theorem lw_p33 : lw_okq (⟨"NodalAuction", "margin", "(I)I"⟩, 6) := ⟨⟨by decide +kernel, by decide +kernel⟩, List.mem_of_getElem? (i := 9) (by decide +kernel), List.mem_of_getElem? (i := 405) (by decide +kernel), List.mem_of_getElem? (i := 406) (by decide +kernel)⟩
theorem lw_p34 : lw_okq (⟨"NodalAuction", "someStepWouldGain", "()Z"⟩, 6) := ⟨⟨by decide +kernel, by decide +kernel⟩, List.mem_of_getElem? (i := 9) (by decide +kernel), List.mem_of_getElem? (i := 409) (by decide +kernel), List.mem_of_getElem? (i := 410) (by decide +kernel)⟩
theorem lw_p35 : lw_okq (⟨"NodalAuction", "gridCarriesMore", "()Z"⟩, 6) := ⟨⟨by decide +kernel, by decide +kernel⟩, List.mem_of_getElem? (i := 9) (by decide +kernel), List.mem_of_getElem? (i := 413) (by decide +kernel), List.mem_of_getElem? (i := 414) (by decide +kernel)⟩
theorem lw_p36 : lw_okq (⟨"NodalAuction", "intakeWorth", "()J"⟩, 6) := ⟨⟨by decide +kernel, by decide +kernel⟩, List.mem_of_getElem? (i := 9) (by decide +kernel), List.mem_of_getElem? (i := 417) (by decide +kernel), List.mem_of_getElem? (i := 418) (by decide +kernel)⟩
theorem lw_p37 : lw_okq (⟨"NodalAuctionModel", "step", "(ZIII)I"⟩, 34) := ⟨⟨by decide +kernel, by decide +kernel⟩, List.mem_of_getElem? (i := 425) (by decide +kernel), List.mem_of_getElem? (i := 554) (by decide +kernel), List.mem_of_getElem? (i := 555) (by decide +kernel)⟩
theorem lw_p38 : lw_okq (⟨"NodalAuctionModel", "connected", "()Z"⟩, 34) := ⟨⟨by decide +kernel, by decide +kernel⟩, List.mem_of_getElem? (i := 425) (by decide +kernel), List.mem_of_getElem? (i := 570) (by decide +kernel), List.mem_of_getElem? (i := 571) (by decide +kernel)⟩
theorem lw_p39 : lw_okq (⟨"NodalAuctionModel", "search", "(I)V"⟩, 34) := ⟨⟨by decide +kernel, by decide +kernel⟩, List.mem_of_getElem? (i := 425) (by decide +kernel), List.mem_of_getElem? (i := 574) (by decide +kernel), List.mem_of_getElem? (i := 575) (by decide +kernel)⟩
theorem lw_p40 : lw_okq (⟨"NodalAuctionModel", "arrange", "()V"⟩, 34) := ⟨⟨by decide +kernel, by decide +kernel⟩, List.mem_of_getElem? (i := 425) (by decide +kernel), List.mem_of_getElem? (i := 578) (by decide +kernel), List.mem_of_getElem? (i := 579) (by decide +kernel)⟩
theorem lw_p41 : lw_okq (⟨"NodalAuctionModel", "before", "(II)Z"⟩, 34) := ⟨⟨by decide +kernel, by decide +kernel⟩, List.mem_of_getElem? (i := 425) (by decide +kernel), List.mem_of_getElem? (i := 582) (by decide +kernel), List.mem_of_getElem? (i := 583) (by decide +kernel)⟩
theorem lw_p42 : lw_okq (⟨"NodalAuctionModel", "linePlanes", "()V"⟩, 34) := ⟨⟨by decide +kernel, by decide +kernel⟩, List.mem_of_getElem? (i := 425) (by decide +kernel), List.mem_of_getElem? (i := 586) (by decide +kernel), List.mem_of_getElem? (i := 587) (by decide +kernel)⟩
theorem lw_p43 : lw_okq (⟨"NodalAuctionModel", "plane", "(J)V"⟩, 34) := ⟨⟨by decide +kernel, by decide +kernel⟩, List.mem_of_getElem? (i := 425) (by decide +kernel), List.mem_of_getElem? (i := 590) (by decide +kernel), List.mem_of_getElem? (i := 591) (by decide +kernel)⟩
theorem lw_p44 : lw_okq (⟨"NodalAuctionModel", "nodePlanes", "(I)V"⟩, 34) := ⟨⟨by decide +kernel, by decide +kernel⟩, List.mem_of_getElem? (i := 425) (by decide +kernel), List.mem_of_getElem? (i := 594) (by decide +kernel), List.mem_of_getElem? (i := 595) (by decide +kernel)⟩
theorem lw_p45 : lw_okq (⟨"NodalAuctionModel", "offered", "(I)J"⟩, 34) := ⟨⟨by decide +kernel, by decide +kernel⟩, List.mem_of_getElem? (i := 425) (by decide +kernel), List.mem_of_getElem? (i := 598) (by decide +kernel), List.mem_of_getElem? (i := 599) (by decide +kernel)⟩
theorem lw_p46 : lw_okq (⟨"NodalAuctionModel", "meet", "(III)Z"⟩, 34) := ⟨⟨by decide +kernel, by decide +kernel⟩, List.mem_of_getElem? (i := 425) (by decide +kernel), List.mem_of_getElem? (i := 602) (by decide +kernel), List.mem_of_getElem? (i := 603) (by decide +kernel)⟩
theorem lw_p47 : lw_okq (⟨"NodalAuctionModel", "determinant", "(IIII)J"⟩, 34) := ⟨⟨by decide +kernel, by decide +kernel⟩, List.mem_of_getElem? (i := 425) (by decide +kernel), List.mem_of_getElem? (i := 606) (by decide +kernel), List.mem_of_getElem? (i := 607) (by decide +kernel)⟩
def lw_privs_3 : List (MethodName × Nat) := [(⟨"NodalAuction", "someStepLoses", "()Z"⟩, 6), (⟨"NodalAuction", "margin", "(I)I"⟩, 6), (⟨"NodalAuction", "someStepWouldGain", "()Z"⟩, 6), (⟨"NodalAuction", "gridCarriesMore", "()Z"⟩, 6), (⟨"NodalAuction", "intakeWorth", "()J"⟩, 6), (⟨"NodalAuctionModel", "step", "(ZIII)I"⟩, 34), (⟨"NodalAuctionModel", "connected", "()Z"⟩, 34), (⟨"NodalAuctionModel", "search", "(I)V"⟩, 34), (⟨"NodalAuctionModel", "arrange", "()V"⟩, 34), (⟨"NodalAuctionModel", "before", "(II)Z"⟩, 34), (⟨"NodalAuctionModel", "linePlanes", "()V"⟩, 34), (⟨"NodalAuctionModel", "plane", "(J)V"⟩, 34), (⟨"NodalAuctionModel", "nodePlanes", "(I)V"⟩, 34), (⟨"NodalAuctionModel", "offered", "(I)J"⟩, 34), (⟨"NodalAuctionModel", "meet", "(III)Z"⟩, 34), (⟨"NodalAuctionModel", "determinant", "(IIII)J"⟩, 34)]
theorem lw_r3 : ∀ q ∈ lw_privs_3, lw_okq q := List.forall_mem_cons.mpr ⟨lw_p32, List.forall_mem_cons.mpr ⟨lw_p33, List.forall_mem_cons.mpr ⟨lw_p34, List.forall_mem_cons.mpr ⟨lw_p35, List.forall_mem_cons.mpr ⟨lw_p36, List.forall_mem_cons.mpr ⟨lw_p37, List.forall_mem_cons.mpr ⟨lw_p38, List.forall_mem_cons.mpr ⟨lw_p39, List.forall_mem_cons.mpr ⟨lw_p40, List.forall_mem_cons.mpr ⟨lw_p41, List.forall_mem_cons.mpr ⟨lw_p42, List.forall_mem_cons.mpr ⟨lw_p43, List.forall_mem_cons.mpr ⟨lw_p44, List.forall_mem_cons.mpr ⟨lw_p45, List.forall_mem_cons.mpr ⟨lw_p46, List.forall_mem_cons.mpr ⟨lw_p47, fun _ h => absurd h List.not_mem_nil⟩⟩⟩⟩⟩⟩⟩⟩⟩⟩⟩⟩⟩⟩⟩⟩
theorem lw_p48 : lw_okq (⟨"NodalAuctionModel", "cell", "(III)J"⟩, 34) := ⟨⟨by decide +kernel, by decide +kernel⟩, List.mem_of_getElem? (i := 425) (by decide +kernel), List.mem_of_getElem? (i := 610) (by decide +kernel), List.mem_of_getElem? (i := 611) (by decide +kernel)⟩
theorem lw_p49 : lw_okq (⟨"NodalAuctionModel", "minor", "(IIIII)J"⟩, 34) := ⟨⟨by decide +kernel, by decide +kernel⟩, List.mem_of_getElem? (i := 425) (by decide +kernel), List.mem_of_getElem? (i := 614) (by decide +kernel), List.mem_of_getElem? (i := 615) (by decide +kernel)⟩
theorem lw_p50 : lw_okq (⟨"NodalAuctionModel", "linesHold", "()Z"⟩, 34) := ⟨⟨by decide +kernel, by decide +kernel⟩, List.mem_of_getElem? (i := 425) (by decide +kernel), List.mem_of_getElem? (i := 619) (by decide +kernel), List.mem_of_getElem? (i := 620) (by decide +kernel)⟩
theorem lw_p51 : lw_okq (⟨"NodalAuctionModel", "flowHere", "(I)J"⟩, 34) := ⟨⟨by decide +kernel, by decide +kernel⟩, List.mem_of_getElem? (i := 425) (by decide +kernel), List.mem_of_getElem? (i := 623) (by decide +kernel), List.mem_of_getElem? (i := 624) (by decide +kernel)⟩
theorem lw_p52 : lw_okq (⟨"NodalAuctionModel", "useAll", "(I)Z"⟩, 34) := ⟨⟨by decide +kernel, by decide +kernel⟩, List.mem_of_getElem? (i := 425) (by decide +kernel), List.mem_of_getElem? (i := 627) (by decide +kernel), List.mem_of_getElem? (i := 628) (by decide +kernel)⟩
theorem lw_p53 : lw_okq (⟨"NodalAuctionModel", "use", "(IJ)Z"⟩, 34) := ⟨⟨by decide +kernel, by decide +kernel⟩, List.mem_of_getElem? (i := 425) (by decide +kernel), List.mem_of_getElem? (i := 631) (by decide +kernel), List.mem_of_getElem? (i := 632) (by decide +kernel)⟩
theorem lw_p54 : lw_okq (⟨"NodalAuctionModel", "brought", "(I)J"⟩, 34) := ⟨⟨by decide +kernel, by decide +kernel⟩, List.mem_of_getElem? (i := 425) (by decide +kernel), List.mem_of_getElem? (i := 635) (by decide +kernel), List.mem_of_getElem? (i := 636) (by decide +kernel)⟩
theorem lw_p55 : lw_okq (⟨"NodalAuctionModel", "better", "()Z"⟩, 34) := ⟨⟨by decide +kernel, by decide +kernel⟩, List.mem_of_getElem? (i := 425) (by decide +kernel), List.mem_of_getElem? (i := 639) (by decide +kernel), List.mem_of_getElem? (i := 640) (by decide +kernel)⟩
theorem lw_p56 : lw_okq (⟨"NodalAuctionModel", "keep", "()V"⟩, 34) := ⟨⟨by decide +kernel, by decide +kernel⟩, List.mem_of_getElem? (i := 425) (by decide +kernel), List.mem_of_getElem? (i := 643) (by decide +kernel), List.mem_of_getElem? (i := 644) (by decide +kernel)⟩
theorem lw_p57 : lw_okq (⟨"NodalAuctionModel", "extra", "(I)Z"⟩, 34) := ⟨⟨by decide +kernel, by decide +kernel⟩, List.mem_of_getElem? (i := 425) (by decide +kernel), List.mem_of_getElem? (i := 683) (by decide +kernel), List.mem_of_getElem? (i := 684) (by decide +kernel)⟩
theorem lw_p58 : lw_okq (⟨"NodalAuctionModel", "bad", "(IIII)Z"⟩, 34) := ⟨⟨by decide +kernel, by decide +kernel⟩, List.mem_of_getElem? (i := 425) (by decide +kernel), List.mem_of_getElem? (i := 695) (by decide +kernel), List.mem_of_getElem? (i := 696) (by decide +kernel)⟩
theorem lw_p59 : lw_okq (⟨"NodalAuctionModel", "carriesMore", "(IIII)Z"⟩, 34) := ⟨⟨by decide +kernel, by decide +kernel⟩, List.mem_of_getElem? (i := 425) (by decide +kernel), List.mem_of_getElem? (i := 702) (by decide +kernel), List.mem_of_getElem? (i := 703) (by decide +kernel)⟩
def lw_privs_4 : List (MethodName × Nat) := [(⟨"NodalAuctionModel", "cell", "(III)J"⟩, 34), (⟨"NodalAuctionModel", "minor", "(IIIII)J"⟩, 34), (⟨"NodalAuctionModel", "linesHold", "()Z"⟩, 34), (⟨"NodalAuctionModel", "flowHere", "(I)J"⟩, 34), (⟨"NodalAuctionModel", "useAll", "(I)Z"⟩, 34), (⟨"NodalAuctionModel", "use", "(IJ)Z"⟩, 34), (⟨"NodalAuctionModel", "brought", "(I)J"⟩, 34), (⟨"NodalAuctionModel", "better", "()Z"⟩, 34), (⟨"NodalAuctionModel", "keep", "()V"⟩, 34), (⟨"NodalAuctionModel", "extra", "(I)Z"⟩, 34), (⟨"NodalAuctionModel", "bad", "(IIII)Z"⟩, 34), (⟨"NodalAuctionModel", "carriesMore", "(IIII)Z"⟩, 34)]
theorem lw_r4 : ∀ q ∈ lw_privs_4, lw_okq q := List.forall_mem_cons.mpr ⟨lw_p48, List.forall_mem_cons.mpr ⟨lw_p49, List.forall_mem_cons.mpr ⟨lw_p50, List.forall_mem_cons.mpr ⟨lw_p51, List.forall_mem_cons.mpr ⟨lw_p52, List.forall_mem_cons.mpr ⟨lw_p53, List.forall_mem_cons.mpr ⟨lw_p54, List.forall_mem_cons.mpr ⟨lw_p55, List.forall_mem_cons.mpr ⟨lw_p56, List.forall_mem_cons.mpr ⟨lw_p57, List.forall_mem_cons.mpr ⟨lw_p58, List.forall_mem_cons.mpr ⟨lw_p59, fun _ h => absurd h List.not_mem_nil⟩⟩⟩⟩⟩⟩⟩⟩⟩⟩⟩⟩
def lw_privs : List (MethodName × Nat) := lw_privs_1 ++ (lw_privs_2 ++ (lw_privs_3 ++ (lw_privs_4)))
def lw_tbl : List Cond := k2_sels lw_privs ++ tables_1
theorem lw_privs_ok : ∀ q ∈ lw_privs, lw_okq q := by
  show ∀ q ∈ lw_privs_1 ++ (lw_privs_2 ++ (lw_privs_3 ++ (lw_privs_4))), lw_okq q
  exact List.forall_mem_append.mpr ⟨lw_r1, List.forall_mem_append.mpr ⟨lw_r2, List.forall_mem_append.mpr ⟨lw_r3, lw_r4⟩⟩⟩
-- names
def R_N : String := "NodalAuction"
def T_N : u_T := fun k => match k with
  | 0 => ("NodalAuction", "grid", "LNodalAuction$Grid;", true)
  | 1 => ("NodalAuction", "book", "LNodalAuction$Book;", true)
  | 2 => ("NodalAuction", "probe", "LNodalAuction$Book;", true)
  | 3 => ("NodalAuction", "program", "LNodalAuction$Program;", true)
  | 4 => ("NodalAuction", "outcome", "LNodalAuction$Outcome;", true)
  | _ => ("NodalAuction", "asked", "[I", true)
def t_N : Nat → FieldType := fun k => match k with
  | 0 => .object "NodalAuction$Grid"
  | 1 => .object "NodalAuction$Book"
  | 2 => .object "NodalAuction$Book"
  | 3 => .object "NodalAuction$Program"
  | 4 => .object "NodalAuction$Outcome"
  | _ => .array .int
theorem n_N : ∀ a, a < 6 → ∀ b, b < 6 → a ≠ b → (T_N a).2.1 ≠ (T_N b).2.1 := by decide +kernel
theorem t_N_ok : ∀ k, k < 6 → parseFieldDescriptor (T_N k).2.2.1 = some (t_N k) := by decide +kernel
def R_B : String := "NodalAuction$Book"
def T_B : u_T := fun k => match k with
  | 0 => ("NodalAuction$Book", "side", "[I", true)
  | 1 => ("NodalAuction$Book", "node", "[I", true)
  | 2 => ("NodalAuction$Book", "price", "[I", true)
  | 3 => ("NodalAuction$Book", "quantity", "[I", true)
  | _ => ("NodalAuction$Book", "count", "I", false)
def t_B : Nat → FieldType := fun k => match k with
  | 0 => .array .int
  | 1 => .array .int
  | 2 => .array .int
  | 3 => .array .int
  | _ => .int
theorem n_B : ∀ a, a < 5 → ∀ b, b < 5 → a ≠ b → (T_B a).2.1 ≠ (T_B b).2.1 := by decide +kernel
theorem t_B_ok : ∀ k, k < 5 → parseFieldDescriptor (T_B k).2.2.1 = some (t_B k) := by decide +kernel
def R_G : String := "NodalAuction$Grid"
def T_G : u_T := fun k => match k with
  | 0 => ("NodalAuction$Grid", "first", "[I", true)
  | 1 => ("NodalAuction$Grid", "second", "[I", true)
  | 2 => ("NodalAuction$Grid", "force", "[I", true)
  | 3 => ("NodalAuction$Grid", "most", "[I", true)
  | 4 => ("NodalAuction$Grid", "count", "I", false)
  | 5 => ("NodalAuction$Grid", "laplacian", "[[J", true)
  | 6 => ("NodalAuction$Grid", "adjugate", "[[J", true)
  | _ => ("NodalAuction$Grid", "trees", "J", false)
def t_G : Nat → FieldType := fun k => match k with
  | 0 => .array .int
  | 1 => .array .int
  | 2 => .array .int
  | 3 => .array .int
  | 4 => .int
  | 5 => .array (.array .long)
  | 6 => .array (.array .long)
  | _ => .long
theorem n_G : ∀ a, a < 8 → ∀ b, b < 8 → a ≠ b → (T_G a).2.1 ≠ (T_G b).2.1 := by decide +kernel
theorem t_G_ok : ∀ k, k < 8 → parseFieldDescriptor (T_G k).2.2.1 = some (t_G k) := by decide +kernel
def R_O : String := "NodalAuction$Outcome"
def T_O : u_T := fun k => match k with
  | 0 => ("NodalAuction$Outcome", "amounts", "[I", true)
  | 1 => ("NodalAuction$Outcome", "flows", "[I", true)
  | 2 => ("NodalAuction$Outcome", "present", "Z", false)
  | 3 => ("NodalAuction$Outcome", "unit", "I", false)
  | _ => ("NodalAuction$Outcome", "worth", "J", false)
def t_O : Nat → FieldType := fun k => match k with
  | 0 => .array .int
  | 1 => .array .int
  | 2 => .boolean
  | 3 => .int
  | _ => .long
theorem n_O : ∀ a, a < 5 → ∀ b, b < 5 → a ≠ b → (T_O a).2.1 ≠ (T_O b).2.1 := by decide +kernel
theorem t_O_ok : ∀ k, k < 5 → parseFieldDescriptor (T_O k).2.2.1 = some (t_O k) := by decide +kernel
def R_P : String := "NodalAuction$Program"
def T_P : u_T := fun k => match k with
  | 0 => ("NodalAuction$Program", "cell", "[[J", true)
  | 1 => ("NodalAuction$Program", "rowVariable", "[I", true)
  | 2 => ("NodalAuction$Program", "columnVariable", "[I", true)
  | 3 => ("NodalAuction$Program", "least", "[I", true)
  | 4 => ("NodalAuction$Program", "greatest", "[I", true)
  | 5 => ("NodalAuction$Program", "place", "[I", true)
  | 6 => ("NodalAuction$Program", "frozen", "[Z", true)
  | 7 => ("NodalAuction$Program", "rows", "I", false)
  | 8 => ("NodalAuction$Program", "columns", "I", false)
  | _ => ("NodalAuction$Program", "bottom", "J", false)
def t_P : Nat → FieldType := fun k => match k with
  | 0 => .array (.array .long)
  | 1 => .array .int
  | 2 => .array .int
  | 3 => .array .int
  | 4 => .array .int
  | 5 => .array .int
  | 6 => .array .boolean
  | 7 => .int
  | 8 => .int
  | _ => .long
theorem n_P : ∀ a, a < 10 → ∀ b, b < 10 → a ≠ b → (T_P a).2.1 ≠ (T_P b).2.1 := by decide +kernel
theorem t_P_ok : ∀ k, k < 10 → parseFieldDescriptor (T_P k).2.2.1 = some (t_P k) := by decide +kernel
def R_M : String := "NodalAuctionModel"
def T_M : u_T := fun k => match k with
  | 0 => ("NodalAuctionModel", "lineCount", "I", false)
  | 1 => ("NodalAuctionModel", "first", "[I", false)
  | 2 => ("NodalAuctionModel", "second", "[I", false)
  | 3 => ("NodalAuctionModel", "strength", "[I", false)
  | 4 => ("NodalAuctionModel", "most", "[I", false)
  | 5 => ("NodalAuctionModel", "stepCount", "I", false)
  | 6 => ("NodalAuctionModel", "isBid", "[Z", false)
  | 7 => ("NodalAuctionModel", "place", "[I", false)
  | 8 => ("NodalAuctionModel", "price", "[I", false)
  | 9 => ("NodalAuctionModel", "quantity", "[I", false)
  | 10 => ("NodalAuctionModel", "turn", "[I", false)
  | 11 => ("NodalAuctionModel", "planes", "I", false)
  | 12 => ("NodalAuctionModel", "planeA", "[J", false)
  | 13 => ("NodalAuctionModel", "planeB", "[J", false)
  | 14 => ("NodalAuctionModel", "planeC", "[J", false)
  | 15 => ("NodalAuctionModel", "planeD", "[J", false)
  | 16 => ("NodalAuctionModel", "part", "[I", false)
  | 17 => ("NodalAuctionModel", "bottom", "J", false)
  | 18 => ("NodalAuctionModel", "height", "[J", false)
  | 19 => ("NodalAuctionModel", "amount", "[J", false)
  | 20 => ("NodalAuctionModel", "gain", "J", false)
  | 21 => ("NodalAuctionModel", "some", "Z", false)
  | 22 => ("NodalAuctionModel", "bestBottom", "J", false)
  | 23 => ("NodalAuctionModel", "bestHeight", "[J", false)
  | 24 => ("NodalAuctionModel", "bestAmount", "[J", false)
  | 25 => ("NodalAuctionModel", "bestGain", "J", false)
  | 26 => ("NodalAuctionModel", "there", "Z", false)
  | 27 => ("NodalAuctionModel", "factor", "J", false)
  | 28 => ("NodalAuctionModel", "taken", "[J", false)
  | 29 => ("NodalAuctionModel", "carried", "[J", false)
  | 30 => ("NodalAuctionModel", "worth", "J", false)
  | 31 => ("NodalAuctionModel", "asked", "[Z", false)
  | 32 => ("NodalAuctionModel", "fractionTop", "[J", false)
  | _ => ("NodalAuctionModel", "fractionBottom", "[J", false)
def t_M : Nat → FieldType := fun k => match k with
  | 0 => .int
  | 1 => .array .int
  | 2 => .array .int
  | 3 => .array .int
  | 4 => .array .int
  | 5 => .int
  | 6 => .array .boolean
  | 7 => .array .int
  | 8 => .array .int
  | 9 => .array .int
  | 10 => .array .int
  | 11 => .int
  | 12 => .array .long
  | 13 => .array .long
  | 14 => .array .long
  | 15 => .array .long
  | 16 => .array .int
  | 17 => .long
  | 18 => .array .long
  | 19 => .array .long
  | 20 => .long
  | 21 => .boolean
  | 22 => .long
  | 23 => .array .long
  | 24 => .array .long
  | 25 => .long
  | 26 => .boolean
  | 27 => .long
  | 28 => .array .long
  | 29 => .array .long
  | 30 => .long
  | 31 => .array .boolean
  | 32 => .array .long
  | _ => .array .long
theorem n_M : ∀ a, a < 34 → ∀ b, b < 34 → a ≠ b → (T_M a).2.1 ≠ (T_M b).2.1 := by decide +kernel
theorem t_M_ok : ∀ k, k < 34 → parseFieldDescriptor (T_M k).2.2.1 = some (t_M k) := by decide +kernel
def R_L : String := "NodalAuctionLaw"
abbrev z_cl : List vw_C := [(R_N, T_N, 6), (R_G, T_G, 8), (R_B, T_B, 5), (R_P, T_P, 10), (R_O, T_O, 5), (R_M, T_M, 34)]
abbrev b_N_init : ByteArray := prog_1_method_1_code
abbrev y_N_init : MethodName := ⟨"NodalAuction", "<init>", "()V"⟩
theorem h_N_init : y_N_init.cls ≠ "java/lang/invoke/MethodHandle" ∧ y_N_init.cls ≠ "java/lang/invoke/VarHandle" ∧ (parseMethodDescriptor y_N_init.desc).map (fun d => d.parameters.length) = some 0 := by decide +kernel
abbrev b_N_line : ByteArray := prog_1_method_2_code
abbrev y_N_line : MethodName := ⟨"NodalAuction", "line", "(IIII)I"⟩
theorem h_N_line : y_N_line.cls ≠ "java/lang/invoke/MethodHandle" ∧ y_N_line.cls ≠ "java/lang/invoke/VarHandle" ∧ (parseMethodDescriptor y_N_line.desc).map (fun d => d.parameters.length) = some 4 := by decide +kernel
abbrev b_N_limit : ByteArray := prog_1_method_3_code
abbrev y_N_limit : MethodName := ⟨"NodalAuction", "limit", "(II)Z"⟩
theorem h_N_limit : y_N_limit.cls ≠ "java/lang/invoke/MethodHandle" ∧ y_N_limit.cls ≠ "java/lang/invoke/VarHandle" ∧ (parseMethodDescriptor y_N_limit.desc).map (fun d => d.parameters.length) = some 2 := by decide +kernel
abbrev b_N_cut : ByteArray := prog_1_method_4_code
abbrev y_N_cut : MethodName := ⟨"NodalAuction", "cut", "(I)Z"⟩
theorem h_N_cut : y_N_cut.cls ≠ "java/lang/invoke/MethodHandle" ∧ y_N_cut.cls ≠ "java/lang/invoke/VarHandle" ∧ (parseMethodDescriptor y_N_cut.desc).map (fun d => d.parameters.length) = some 1 := by decide +kernel
abbrev b_N_bid : ByteArray := prog_1_method_5_code
abbrev y_N_bid : MethodName := ⟨"NodalAuction", "bid", "(III)I"⟩
theorem h_N_bid : y_N_bid.cls ≠ "java/lang/invoke/MethodHandle" ∧ y_N_bid.cls ≠ "java/lang/invoke/VarHandle" ∧ (parseMethodDescriptor y_N_bid.desc).map (fun d => d.parameters.length) = some 3 := by decide +kernel
abbrev b_N_offer : ByteArray := prog_1_method_6_code
abbrev y_N_offer : MethodName := ⟨"NodalAuction", "offer", "(III)I"⟩
theorem h_N_offer : y_N_offer.cls ≠ "java/lang/invoke/MethodHandle" ∧ y_N_offer.cls ≠ "java/lang/invoke/VarHandle" ∧ (parseMethodDescriptor y_N_offer.desc).map (fun d => d.parameters.length) = some 3 := by decide +kernel
abbrev b_N_cancel : ByteArray := prog_1_method_7_code
abbrev y_N_cancel : MethodName := ⟨"NodalAuction", "cancel", "(I)Z"⟩
theorem h_N_cancel : y_N_cancel.cls ≠ "java/lang/invoke/MethodHandle" ∧ y_N_cancel.cls ≠ "java/lang/invoke/VarHandle" ∧ (parseMethodDescriptor y_N_cancel.desc).map (fun d => d.parameters.length) = some 1 := by decide +kernel
abbrev b_N_clear : ByteArray := prog_1_method_8_code
abbrev y_N_clear : MethodName := ⟨"NodalAuction", "clear", "()I"⟩
theorem h_N_clear : y_N_clear.cls ≠ "java/lang/invoke/MethodHandle" ∧ y_N_clear.cls ≠ "java/lang/invoke/VarHandle" ∧ (parseMethodDescriptor y_N_clear.desc).map (fun d => d.parameters.length) = some 0 := by decide +kernel
abbrev b_N_steps : ByteArray := prog_1_method_9_code
abbrev y_N_steps : MethodName := ⟨"NodalAuction", "steps", "()I"⟩
theorem h_N_steps : y_N_steps.cls ≠ "java/lang/invoke/MethodHandle" ∧ y_N_steps.cls ≠ "java/lang/invoke/VarHandle" ∧ (parseMethodDescriptor y_N_steps.desc).map (fun d => d.parameters.length) = some 0 := by decide +kernel
abbrev b_N_lines : ByteArray := prog_1_method_10_code
abbrev y_N_lines : MethodName := ⟨"NodalAuction", "lines", "()I"⟩
theorem h_N_lines : y_N_lines.cls ≠ "java/lang/invoke/MethodHandle" ∧ y_N_lines.cls ≠ "java/lang/invoke/VarHandle" ∧ (parseMethodDescriptor y_N_lines.desc).map (fun d => d.parameters.length) = some 0 := by decide +kernel
abbrev b_N_scale : ByteArray := prog_1_method_11_code
abbrev y_N_scale : MethodName := ⟨"NodalAuction", "scale", "()I"⟩
theorem h_N_scale : y_N_scale.cls ≠ "java/lang/invoke/MethodHandle" ∧ y_N_scale.cls ≠ "java/lang/invoke/VarHandle" ∧ (parseMethodDescriptor y_N_scale.desc).map (fun d => d.parameters.length) = some 0 := by decide +kernel
abbrev b_N_accepted : ByteArray := prog_1_method_12_code
abbrev y_N_accepted : MethodName := ⟨"NodalAuction", "accepted", "(I)I"⟩
theorem h_N_accepted : y_N_accepted.cls ≠ "java/lang/invoke/MethodHandle" ∧ y_N_accepted.cls ≠ "java/lang/invoke/VarHandle" ∧ (parseMethodDescriptor y_N_accepted.desc).map (fun d => d.parameters.length) = some 1 := by decide +kernel
abbrev b_N_flow : ByteArray := prog_1_method_13_code
abbrev y_N_flow : MethodName := ⟨"NodalAuction", "flow", "(I)I"⟩
theorem h_N_flow : y_N_flow.cls ≠ "java/lang/invoke/MethodHandle" ∧ y_N_flow.cls ≠ "java/lang/invoke/VarHandle" ∧ (parseMethodDescriptor y_N_flow.desc).map (fun d => d.parameters.length) = some 1 := by decide +kernel
abbrev b_N_tight : ByteArray := prog_1_method_14_code
abbrev y_N_tight : MethodName := ⟨"NodalAuction", "tight", "()I"⟩
theorem h_N_tight : y_N_tight.cls ≠ "java/lang/invoke/MethodHandle" ∧ y_N_tight.cls ≠ "java/lang/invoke/VarHandle" ∧ (parseMethodDescriptor y_N_tight.desc).map (fun d => d.parameters.length) = some 0 := by decide +kernel
abbrev b_N_welfare : ByteArray := prog_1_method_15_code
abbrev y_N_welfare : MethodName := ⟨"NodalAuction", "welfare", "()J"⟩
theorem h_N_welfare : y_N_welfare.cls ≠ "java/lang/invoke/MethodHandle" ∧ y_N_welfare.cls ≠ "java/lang/invoke/VarHandle" ∧ (parseMethodDescriptor y_N_welfare.desc).map (fun d => d.parameters.length) = some 0 := by decide +kernel
abbrev b_N_extraTop : ByteArray := prog_1_method_16_code
abbrev y_N_extraTop : MethodName := ⟨"NodalAuction", "extraTop", "(I)J"⟩
theorem h_N_extraTop : y_N_extraTop.cls ≠ "java/lang/invoke/MethodHandle" ∧ y_N_extraTop.cls ≠ "java/lang/invoke/VarHandle" ∧ (parseMethodDescriptor y_N_extraTop.desc).map (fun d => d.parameters.length) = some 1 := by decide +kernel
abbrev b_N_extraBottom : ByteArray := prog_1_method_17_code
abbrev y_N_extraBottom : MethodName := ⟨"NodalAuction", "extraBottom", "(I)I"⟩
theorem h_N_extraBottom : y_N_extraBottom.cls ≠ "java/lang/invoke/MethodHandle" ∧ y_N_extraBottom.cls ≠ "java/lang/invoke/VarHandle" ∧ (parseMethodDescriptor y_N_extraBottom.desc).map (fun d => d.parameters.length) = some 1 := by decide +kernel
abbrev b_N_check : ByteArray := prog_1_method_18_code
abbrev y_N_check : MethodName := ⟨"NodalAuction", "check", "(IIII)I"⟩
theorem h_N_check : y_N_check.cls ≠ "java/lang/invoke/MethodHandle" ∧ y_N_check.cls ≠ "java/lang/invoke/VarHandle" ∧ (parseMethodDescriptor y_N_check.desc).map (fun d => d.parameters.length) = some 4 := by decide +kernel
abbrev b_N_rent : ByteArray := prog_1_method_19_code
abbrev y_N_rent : MethodName := ⟨"NodalAuction", "rent", "(IIII)J"⟩
theorem h_N_rent : y_N_rent.cls ≠ "java/lang/invoke/MethodHandle" ∧ y_N_rent.cls ≠ "java/lang/invoke/VarHandle" ∧ (parseMethodDescriptor y_N_rent.desc).map (fun d => d.parameters.length) = some 4 := by decide +kernel
abbrev b_N_within : ByteArray := prog_1_method_20_code
abbrev y_N_within : MethodName := ⟨"NodalAuction", "within", "(III)Z"⟩
theorem h_N_within : y_N_within.cls ≠ "java/lang/invoke/MethodHandle" ∧ y_N_within.cls ≠ "java/lang/invoke/VarHandle" ∧ (parseMethodDescriptor y_N_within.desc).map (fun d => d.parameters.length) = some 3 := by decide +kernel
abbrev b_N_isNode : ByteArray := prog_1_method_21_code
abbrev y_N_isNode : MethodName := ⟨"NodalAuction", "isNode", "(I)Z"⟩
theorem h_N_isNode : y_N_isNode.cls ≠ "java/lang/invoke/MethodHandle" ∧ y_N_isNode.cls ≠ "java/lang/invoke/VarHandle" ∧ (parseMethodDescriptor y_N_isNode.desc).map (fun d => d.parameters.length) = some 1 := by decide +kernel
abbrev b_N_commonDivisor : ByteArray := prog_1_method_22_code
abbrev y_N_commonDivisor : MethodName := ⟨"NodalAuction", "commonDivisor", "(JJ)J"⟩
theorem h_N_commonDivisor : y_N_commonDivisor.cls ≠ "java/lang/invoke/MethodHandle" ∧ y_N_commonDivisor.cls ≠ "java/lang/invoke/VarHandle" ∧ (parseMethodDescriptor y_N_commonDivisor.desc).map (fun d => d.parameters.length) = some 2 := by decide +kernel
abbrev b_N_addStep : ByteArray := prog_1_method_23_code
abbrev y_N_addStep : MethodName := ⟨"NodalAuction", "addStep", "(IIII)I"⟩
theorem h_N_addStep : y_N_addStep.cls ≠ "java/lang/invoke/MethodHandle" ∧ y_N_addStep.cls ≠ "java/lang/invoke/VarHandle" ∧ (parseMethodDescriptor y_N_addStep.desc).map (fun d => d.parameters.length) = some 4 := by decide +kernel
abbrev b_N_addOneAt : ByteArray := prog_1_method_24_code
abbrev y_N_addOneAt : MethodName := ⟨"NodalAuction", "addOneAt", "(I)Z"⟩
theorem h_N_addOneAt : y_N_addOneAt.cls ≠ "java/lang/invoke/MethodHandle" ∧ y_N_addOneAt.cls ≠ "java/lang/invoke/VarHandle" ∧ (parseMethodDescriptor y_N_addOneAt.desc).map (fun d => d.parameters.length) = some 1 := by decide +kernel
abbrev b_N_costTop : ByteArray := prog_1_method_25_code
abbrev y_N_costTop : MethodName := ⟨"NodalAuction", "costTop", "()J"⟩
theorem h_N_costTop : y_N_costTop.cls ≠ "java/lang/invoke/MethodHandle" ∧ y_N_costTop.cls ≠ "java/lang/invoke/VarHandle" ∧ (parseMethodDescriptor y_N_costTop.desc).map (fun d => d.parameters.length) = some 0 := by decide +kernel
abbrev b_N_costBottom : ByteArray := prog_1_method_26_code
abbrev y_N_costBottom : MethodName := ⟨"NodalAuction", "costBottom", "()J"⟩
theorem h_N_costBottom : y_N_costBottom.cls ≠ "java/lang/invoke/MethodHandle" ∧ y_N_costBottom.cls ≠ "java/lang/invoke/VarHandle" ∧ (parseMethodDescriptor y_N_costBottom.desc).map (fun d => d.parameters.length) = some 0 := by decide +kernel
abbrev b_N_takePrices : ByteArray := prog_1_method_27_code
abbrev y_N_takePrices : MethodName := ⟨"NodalAuction", "takePrices", "(IIII)Z"⟩
theorem h_N_takePrices : y_N_takePrices.cls ≠ "java/lang/invoke/MethodHandle" ∧ y_N_takePrices.cls ≠ "java/lang/invoke/VarHandle" ∧ (parseMethodDescriptor y_N_takePrices.desc).map (fun d => d.parameters.length) = some 4 := by decide +kernel
abbrev b_N_margin : ByteArray := prog_1_method_28_code
abbrev y_N_margin : MethodName := ⟨"NodalAuction", "margin", "(I)I"⟩
theorem h_N_margin : y_N_margin.cls ≠ "java/lang/invoke/MethodHandle" ∧ y_N_margin.cls ≠ "java/lang/invoke/VarHandle" ∧ (parseMethodDescriptor y_N_margin.desc).map (fun d => d.parameters.length) = some 1 := by decide +kernel
abbrev b_N_someStepLoses : ByteArray := prog_1_method_29_code
abbrev y_N_someStepLoses : MethodName := ⟨"NodalAuction", "someStepLoses", "()Z"⟩
theorem h_N_someStepLoses : y_N_someStepLoses.cls ≠ "java/lang/invoke/MethodHandle" ∧ y_N_someStepLoses.cls ≠ "java/lang/invoke/VarHandle" ∧ (parseMethodDescriptor y_N_someStepLoses.desc).map (fun d => d.parameters.length) = some 0 := by decide +kernel
abbrev b_N_someStepWouldGain : ByteArray := prog_1_method_30_code
abbrev y_N_someStepWouldGain : MethodName := ⟨"NodalAuction", "someStepWouldGain", "()Z"⟩
theorem h_N_someStepWouldGain : y_N_someStepWouldGain.cls ≠ "java/lang/invoke/MethodHandle" ∧ y_N_someStepWouldGain.cls ≠ "java/lang/invoke/VarHandle" ∧ (parseMethodDescriptor y_N_someStepWouldGain.desc).map (fun d => d.parameters.length) = some 0 := by decide +kernel
abbrev b_N_gridCarriesMore : ByteArray := prog_1_method_31_code
abbrev y_N_gridCarriesMore : MethodName := ⟨"NodalAuction", "gridCarriesMore", "()Z"⟩
theorem h_N_gridCarriesMore : y_N_gridCarriesMore.cls ≠ "java/lang/invoke/MethodHandle" ∧ y_N_gridCarriesMore.cls ≠ "java/lang/invoke/VarHandle" ∧ (parseMethodDescriptor y_N_gridCarriesMore.desc).map (fun d => d.parameters.length) = some 0 := by decide +kernel
abbrev b_N_intakeWorth : ByteArray := prog_1_method_32_code
abbrev y_N_intakeWorth : MethodName := ⟨"NodalAuction", "intakeWorth", "()J"⟩
theorem h_N_intakeWorth : y_N_intakeWorth.cls ≠ "java/lang/invoke/MethodHandle" ∧ y_N_intakeWorth.cls ≠ "java/lang/invoke/VarHandle" ∧ (parseMethodDescriptor y_N_intakeWorth.desc).map (fun d => d.parameters.length) = some 0 := by decide +kernel
abbrev b_M_init : ByteArray := prog_7_method_1_code
abbrev y_M_init : MethodName := ⟨"NodalAuctionModel", "<init>", "()V"⟩
theorem h_M_init : y_M_init.cls ≠ "java/lang/invoke/MethodHandle" ∧ y_M_init.cls ≠ "java/lang/invoke/VarHandle" ∧ (parseMethodDescriptor y_M_init.desc).map (fun d => d.parameters.length) = some 0 := by decide +kernel
abbrev b_M_within : ByteArray := prog_7_method_2_code
abbrev y_M_within : MethodName := ⟨"NodalAuctionModel", "within", "(III)Z"⟩
theorem h_M_within : y_M_within.cls ≠ "java/lang/invoke/MethodHandle" ∧ y_M_within.cls ≠ "java/lang/invoke/VarHandle" ∧ (parseMethodDescriptor y_M_within.desc).map (fun d => d.parameters.length) = some 3 := by decide +kernel
abbrev b_M_line : ByteArray := prog_7_method_3_code
abbrev y_M_line : MethodName := ⟨"NodalAuctionModel", "line", "(IIII)I"⟩
theorem h_M_line : y_M_line.cls ≠ "java/lang/invoke/MethodHandle" ∧ y_M_line.cls ≠ "java/lang/invoke/VarHandle" ∧ (parseMethodDescriptor y_M_line.desc).map (fun d => d.parameters.length) = some 4 := by decide +kernel
abbrev b_M_limit : ByteArray := prog_7_method_4_code
abbrev y_M_limit : MethodName := ⟨"NodalAuctionModel", "limit", "(II)Z"⟩
theorem h_M_limit : y_M_limit.cls ≠ "java/lang/invoke/MethodHandle" ∧ y_M_limit.cls ≠ "java/lang/invoke/VarHandle" ∧ (parseMethodDescriptor y_M_limit.desc).map (fun d => d.parameters.length) = some 2 := by decide +kernel
abbrev b_M_cut : ByteArray := prog_7_method_5_code
abbrev y_M_cut : MethodName := ⟨"NodalAuctionModel", "cut", "(I)Z"⟩
theorem h_M_cut : y_M_cut.cls ≠ "java/lang/invoke/MethodHandle" ∧ y_M_cut.cls ≠ "java/lang/invoke/VarHandle" ∧ (parseMethodDescriptor y_M_cut.desc).map (fun d => d.parameters.length) = some 1 := by decide +kernel
abbrev b_M_step : ByteArray := prog_7_method_6_code
abbrev y_M_step : MethodName := ⟨"NodalAuctionModel", "step", "(ZIII)I"⟩
theorem h_M_step : y_M_step.cls ≠ "java/lang/invoke/MethodHandle" ∧ y_M_step.cls ≠ "java/lang/invoke/VarHandle" ∧ (parseMethodDescriptor y_M_step.desc).map (fun d => d.parameters.length) = some 4 := by decide +kernel
abbrev b_M_bid : ByteArray := prog_7_method_7_code
abbrev y_M_bid : MethodName := ⟨"NodalAuctionModel", "bid", "(III)I"⟩
theorem h_M_bid : y_M_bid.cls ≠ "java/lang/invoke/MethodHandle" ∧ y_M_bid.cls ≠ "java/lang/invoke/VarHandle" ∧ (parseMethodDescriptor y_M_bid.desc).map (fun d => d.parameters.length) = some 3 := by decide +kernel
abbrev b_M_offer : ByteArray := prog_7_method_8_code
abbrev y_M_offer : MethodName := ⟨"NodalAuctionModel", "offer", "(III)I"⟩
theorem h_M_offer : y_M_offer.cls ≠ "java/lang/invoke/MethodHandle" ∧ y_M_offer.cls ≠ "java/lang/invoke/VarHandle" ∧ (parseMethodDescriptor y_M_offer.desc).map (fun d => d.parameters.length) = some 3 := by decide +kernel
abbrev b_M_cancel : ByteArray := prog_7_method_9_code
abbrev y_M_cancel : MethodName := ⟨"NodalAuctionModel", "cancel", "(I)Z"⟩
theorem h_M_cancel : y_M_cancel.cls ≠ "java/lang/invoke/MethodHandle" ∧ y_M_cancel.cls ≠ "java/lang/invoke/VarHandle" ∧ (parseMethodDescriptor y_M_cancel.desc).map (fun d => d.parameters.length) = some 1 := by decide +kernel
abbrev b_M_connected : ByteArray := prog_7_method_10_code
abbrev y_M_connected : MethodName := ⟨"NodalAuctionModel", "connected", "()Z"⟩
theorem h_M_connected : y_M_connected.cls ≠ "java/lang/invoke/MethodHandle" ∧ y_M_connected.cls ≠ "java/lang/invoke/VarHandle" ∧ (parseMethodDescriptor y_M_connected.desc).map (fun d => d.parameters.length) = some 0 := by decide +kernel
abbrev b_M_before : ByteArray := prog_7_method_11_code
abbrev y_M_before : MethodName := ⟨"NodalAuctionModel", "before", "(II)Z"⟩
theorem h_M_before : y_M_before.cls ≠ "java/lang/invoke/MethodHandle" ∧ y_M_before.cls ≠ "java/lang/invoke/VarHandle" ∧ (parseMethodDescriptor y_M_before.desc).map (fun d => d.parameters.length) = some 2 := by decide +kernel
abbrev b_M_arrange : ByteArray := prog_7_method_12_code
abbrev y_M_arrange : MethodName := ⟨"NodalAuctionModel", "arrange", "()V"⟩
theorem h_M_arrange : y_M_arrange.cls ≠ "java/lang/invoke/MethodHandle" ∧ y_M_arrange.cls ≠ "java/lang/invoke/VarHandle" ∧ (parseMethodDescriptor y_M_arrange.desc).map (fun d => d.parameters.length) = some 0 := by decide +kernel
abbrev b_M_plane : ByteArray := prog_7_method_13_code
abbrev y_M_plane : MethodName := ⟨"NodalAuctionModel", "plane", "(J)V"⟩
theorem h_M_plane : y_M_plane.cls ≠ "java/lang/invoke/MethodHandle" ∧ y_M_plane.cls ≠ "java/lang/invoke/VarHandle" ∧ (parseMethodDescriptor y_M_plane.desc).map (fun d => d.parameters.length) = some 1 := by decide +kernel
abbrev b_M_linePlanes : ByteArray := prog_7_method_14_code
abbrev y_M_linePlanes : MethodName := ⟨"NodalAuctionModel", "linePlanes", "()V"⟩
theorem h_M_linePlanes : y_M_linePlanes.cls ≠ "java/lang/invoke/MethodHandle" ∧ y_M_linePlanes.cls ≠ "java/lang/invoke/VarHandle" ∧ (parseMethodDescriptor y_M_linePlanes.desc).map (fun d => d.parameters.length) = some 0 := by decide +kernel
abbrev b_M_offered : ByteArray := prog_7_method_15_code
abbrev y_M_offered : MethodName := ⟨"NodalAuctionModel", "offered", "(I)J"⟩
theorem h_M_offered : y_M_offered.cls ≠ "java/lang/invoke/MethodHandle" ∧ y_M_offered.cls ≠ "java/lang/invoke/VarHandle" ∧ (parseMethodDescriptor y_M_offered.desc).map (fun d => d.parameters.length) = some 1 := by decide +kernel
abbrev b_M_nodePlanes : ByteArray := prog_7_method_16_code
abbrev y_M_nodePlanes : MethodName := ⟨"NodalAuctionModel", "nodePlanes", "(I)V"⟩
theorem h_M_nodePlanes : y_M_nodePlanes.cls ≠ "java/lang/invoke/MethodHandle" ∧ y_M_nodePlanes.cls ≠ "java/lang/invoke/VarHandle" ∧ (parseMethodDescriptor y_M_nodePlanes.desc).map (fun d => d.parameters.length) = some 1 := by decide +kernel
abbrev b_M_cell : ByteArray := prog_7_method_17_code
abbrev y_M_cell : MethodName := ⟨"NodalAuctionModel", "cell", "(III)J"⟩
theorem h_M_cell : y_M_cell.cls ≠ "java/lang/invoke/MethodHandle" ∧ y_M_cell.cls ≠ "java/lang/invoke/VarHandle" ∧ (parseMethodDescriptor y_M_cell.desc).map (fun d => d.parameters.length) = some 3 := by decide +kernel
abbrev b_M_minor : ByteArray := prog_7_method_18_code
abbrev y_M_minor : MethodName := ⟨"NodalAuctionModel", "minor", "(IIIII)J"⟩
theorem h_M_minor : y_M_minor.cls ≠ "java/lang/invoke/MethodHandle" ∧ y_M_minor.cls ≠ "java/lang/invoke/VarHandle" ∧ (parseMethodDescriptor y_M_minor.desc).map (fun d => d.parameters.length) = some 5 := by decide +kernel
abbrev b_M_determinant : ByteArray := prog_7_method_19_code
abbrev y_M_determinant : MethodName := ⟨"NodalAuctionModel", "determinant", "(IIII)J"⟩
theorem h_M_determinant : y_M_determinant.cls ≠ "java/lang/invoke/MethodHandle" ∧ y_M_determinant.cls ≠ "java/lang/invoke/VarHandle" ∧ (parseMethodDescriptor y_M_determinant.desc).map (fun d => d.parameters.length) = some 4 := by decide +kernel
abbrev b_M_meet : ByteArray := prog_7_method_20_code
abbrev y_M_meet : MethodName := ⟨"NodalAuctionModel", "meet", "(III)Z"⟩
theorem h_M_meet : y_M_meet.cls ≠ "java/lang/invoke/MethodHandle" ∧ y_M_meet.cls ≠ "java/lang/invoke/VarHandle" ∧ (parseMethodDescriptor y_M_meet.desc).map (fun d => d.parameters.length) = some 3 := by decide +kernel
abbrev b_M_flowHere : ByteArray := prog_7_method_21_code
abbrev y_M_flowHere : MethodName := ⟨"NodalAuctionModel", "flowHere", "(I)J"⟩
theorem h_M_flowHere : y_M_flowHere.cls ≠ "java/lang/invoke/MethodHandle" ∧ y_M_flowHere.cls ≠ "java/lang/invoke/VarHandle" ∧ (parseMethodDescriptor y_M_flowHere.desc).map (fun d => d.parameters.length) = some 1 := by decide +kernel
abbrev b_M_brought : ByteArray := prog_7_method_22_code
abbrev y_M_brought : MethodName := ⟨"NodalAuctionModel", "brought", "(I)J"⟩
theorem h_M_brought : y_M_brought.cls ≠ "java/lang/invoke/MethodHandle" ∧ y_M_brought.cls ≠ "java/lang/invoke/VarHandle" ∧ (parseMethodDescriptor y_M_brought.desc).map (fun d => d.parameters.length) = some 1 := by decide +kernel
abbrev b_M_linesHold : ByteArray := prog_7_method_23_code
abbrev y_M_linesHold : MethodName := ⟨"NodalAuctionModel", "linesHold", "()Z"⟩
theorem h_M_linesHold : y_M_linesHold.cls ≠ "java/lang/invoke/MethodHandle" ∧ y_M_linesHold.cls ≠ "java/lang/invoke/VarHandle" ∧ (parseMethodDescriptor y_M_linesHold.desc).map (fun d => d.parameters.length) = some 0 := by decide +kernel
abbrev b_M_use : ByteArray := prog_7_method_24_code
abbrev y_M_use : MethodName := ⟨"NodalAuctionModel", "use", "(IJ)Z"⟩
theorem h_M_use : y_M_use.cls ≠ "java/lang/invoke/MethodHandle" ∧ y_M_use.cls ≠ "java/lang/invoke/VarHandle" ∧ (parseMethodDescriptor y_M_use.desc).map (fun d => d.parameters.length) = some 2 := by decide +kernel
abbrev b_M_useAll : ByteArray := prog_7_method_25_code
abbrev y_M_useAll : MethodName := ⟨"NodalAuctionModel", "useAll", "(I)Z"⟩
theorem h_M_useAll : y_M_useAll.cls ≠ "java/lang/invoke/MethodHandle" ∧ y_M_useAll.cls ≠ "java/lang/invoke/VarHandle" ∧ (parseMethodDescriptor y_M_useAll.desc).map (fun d => d.parameters.length) = some 1 := by decide +kernel
abbrev b_M_better : ByteArray := prog_7_method_26_code
abbrev y_M_better : MethodName := ⟨"NodalAuctionModel", "better", "()Z"⟩
theorem h_M_better : y_M_better.cls ≠ "java/lang/invoke/MethodHandle" ∧ y_M_better.cls ≠ "java/lang/invoke/VarHandle" ∧ (parseMethodDescriptor y_M_better.desc).map (fun d => d.parameters.length) = some 0 := by decide +kernel
abbrev b_M_keep : ByteArray := prog_7_method_27_code
abbrev y_M_keep : MethodName := ⟨"NodalAuctionModel", "keep", "()V"⟩
theorem h_M_keep : y_M_keep.cls ≠ "java/lang/invoke/MethodHandle" ∧ y_M_keep.cls ≠ "java/lang/invoke/VarHandle" ∧ (parseMethodDescriptor y_M_keep.desc).map (fun d => d.parameters.length) = some 0 := by decide +kernel
abbrev b_M_search : ByteArray := prog_7_method_28_code
abbrev y_M_search : MethodName := ⟨"NodalAuctionModel", "search", "(I)V"⟩
theorem h_M_search : y_M_search.cls ≠ "java/lang/invoke/MethodHandle" ∧ y_M_search.cls ≠ "java/lang/invoke/VarHandle" ∧ (parseMethodDescriptor y_M_search.desc).map (fun d => d.parameters.length) = some 1 := by decide +kernel
abbrev b_M_divisor : ByteArray := prog_7_method_29_code
abbrev y_M_divisor : MethodName := ⟨"NodalAuctionModel", "divisor", "(JJ)J"⟩
theorem h_M_divisor : y_M_divisor.cls ≠ "java/lang/invoke/MethodHandle" ∧ y_M_divisor.cls ≠ "java/lang/invoke/VarHandle" ∧ (parseMethodDescriptor y_M_divisor.desc).map (fun d => d.parameters.length) = some 2 := by decide +kernel
abbrev b_M_clear : ByteArray := prog_7_method_30_code
abbrev y_M_clear : MethodName := ⟨"NodalAuctionModel", "clear", "()I"⟩
theorem h_M_clear : y_M_clear.cls ≠ "java/lang/invoke/MethodHandle" ∧ y_M_clear.cls ≠ "java/lang/invoke/VarHandle" ∧ (parseMethodDescriptor y_M_clear.desc).map (fun d => d.parameters.length) = some 0 := by decide +kernel
abbrev b_M_steps : ByteArray := prog_7_method_31_code
abbrev y_M_steps : MethodName := ⟨"NodalAuctionModel", "steps", "()I"⟩
theorem h_M_steps : y_M_steps.cls ≠ "java/lang/invoke/MethodHandle" ∧ y_M_steps.cls ≠ "java/lang/invoke/VarHandle" ∧ (parseMethodDescriptor y_M_steps.desc).map (fun d => d.parameters.length) = some 0 := by decide +kernel
abbrev b_M_lines : ByteArray := prog_7_method_32_code
abbrev y_M_lines : MethodName := ⟨"NodalAuctionModel", "lines", "()I"⟩
theorem h_M_lines : y_M_lines.cls ≠ "java/lang/invoke/MethodHandle" ∧ y_M_lines.cls ≠ "java/lang/invoke/VarHandle" ∧ (parseMethodDescriptor y_M_lines.desc).map (fun d => d.parameters.length) = some 0 := by decide +kernel
abbrev b_M_scale : ByteArray := prog_7_method_33_code
abbrev y_M_scale : MethodName := ⟨"NodalAuctionModel", "scale", "()I"⟩
theorem h_M_scale : y_M_scale.cls ≠ "java/lang/invoke/MethodHandle" ∧ y_M_scale.cls ≠ "java/lang/invoke/VarHandle" ∧ (parseMethodDescriptor y_M_scale.desc).map (fun d => d.parameters.length) = some 0 := by decide +kernel
abbrev b_M_accepted : ByteArray := prog_7_method_34_code
abbrev y_M_accepted : MethodName := ⟨"NodalAuctionModel", "accepted", "(I)I"⟩
theorem h_M_accepted : y_M_accepted.cls ≠ "java/lang/invoke/MethodHandle" ∧ y_M_accepted.cls ≠ "java/lang/invoke/VarHandle" ∧ (parseMethodDescriptor y_M_accepted.desc).map (fun d => d.parameters.length) = some 1 := by decide +kernel
abbrev b_M_flow : ByteArray := prog_7_method_35_code
abbrev y_M_flow : MethodName := ⟨"NodalAuctionModel", "flow", "(I)I"⟩
theorem h_M_flow : y_M_flow.cls ≠ "java/lang/invoke/MethodHandle" ∧ y_M_flow.cls ≠ "java/lang/invoke/VarHandle" ∧ (parseMethodDescriptor y_M_flow.desc).map (fun d => d.parameters.length) = some 1 := by decide +kernel
abbrev b_M_tight : ByteArray := prog_7_method_36_code
abbrev y_M_tight : MethodName := ⟨"NodalAuctionModel", "tight", "()I"⟩
theorem h_M_tight : y_M_tight.cls ≠ "java/lang/invoke/MethodHandle" ∧ y_M_tight.cls ≠ "java/lang/invoke/VarHandle" ∧ (parseMethodDescriptor y_M_tight.desc).map (fun d => d.parameters.length) = some 0 := by decide +kernel
abbrev b_M_welfare : ByteArray := prog_7_method_37_code
abbrev y_M_welfare : MethodName := ⟨"NodalAuctionModel", "welfare", "()J"⟩
theorem h_M_welfare : y_M_welfare.cls ≠ "java/lang/invoke/MethodHandle" ∧ y_M_welfare.cls ≠ "java/lang/invoke/VarHandle" ∧ (parseMethodDescriptor y_M_welfare.desc).map (fun d => d.parameters.length) = some 0 := by decide +kernel
abbrev b_M_extra : ByteArray := prog_7_method_38_code
abbrev y_M_extra : MethodName := ⟨"NodalAuctionModel", "extra", "(I)Z"⟩
theorem h_M_extra : y_M_extra.cls ≠ "java/lang/invoke/MethodHandle" ∧ y_M_extra.cls ≠ "java/lang/invoke/VarHandle" ∧ (parseMethodDescriptor y_M_extra.desc).map (fun d => d.parameters.length) = some 1 := by decide +kernel
abbrev b_M_extraTop : ByteArray := prog_7_method_39_code
abbrev y_M_extraTop : MethodName := ⟨"NodalAuctionModel", "extraTop", "(I)J"⟩
theorem h_M_extraTop : y_M_extraTop.cls ≠ "java/lang/invoke/MethodHandle" ∧ y_M_extraTop.cls ≠ "java/lang/invoke/VarHandle" ∧ (parseMethodDescriptor y_M_extraTop.desc).map (fun d => d.parameters.length) = some 1 := by decide +kernel
abbrev b_M_extraBottom : ByteArray := prog_7_method_40_code
abbrev y_M_extraBottom : MethodName := ⟨"NodalAuctionModel", "extraBottom", "(I)I"⟩
theorem h_M_extraBottom : y_M_extraBottom.cls ≠ "java/lang/invoke/MethodHandle" ∧ y_M_extraBottom.cls ≠ "java/lang/invoke/VarHandle" ∧ (parseMethodDescriptor y_M_extraBottom.desc).map (fun d => d.parameters.length) = some 1 := by decide +kernel
abbrev b_M_priceOf : ByteArray := prog_7_method_41_code
abbrev y_M_priceOf : MethodName := ⟨"NodalAuctionModel", "priceOf", "(IIIII)J"⟩
theorem h_M_priceOf : y_M_priceOf.cls ≠ "java/lang/invoke/MethodHandle" ∧ y_M_priceOf.cls ≠ "java/lang/invoke/VarHandle" ∧ (parseMethodDescriptor y_M_priceOf.desc).map (fun d => d.parameters.length) = some 5 := by decide +kernel
abbrev b_M_bad : ByteArray := prog_7_method_42_code
abbrev y_M_bad : MethodName := ⟨"NodalAuctionModel", "bad", "(IIII)Z"⟩
theorem h_M_bad : y_M_bad.cls ≠ "java/lang/invoke/MethodHandle" ∧ y_M_bad.cls ≠ "java/lang/invoke/VarHandle" ∧ (parseMethodDescriptor y_M_bad.desc).map (fun d => d.parameters.length) = some 4 := by decide +kernel
abbrev b_M_check : ByteArray := prog_7_method_43_code
abbrev y_M_check : MethodName := ⟨"NodalAuctionModel", "check", "(IIII)I"⟩
theorem h_M_check : y_M_check.cls ≠ "java/lang/invoke/MethodHandle" ∧ y_M_check.cls ≠ "java/lang/invoke/VarHandle" ∧ (parseMethodDescriptor y_M_check.desc).map (fun d => d.parameters.length) = some 4 := by decide +kernel
abbrev b_M_carriesMore : ByteArray := prog_7_method_44_code
abbrev y_M_carriesMore : MethodName := ⟨"NodalAuctionModel", "carriesMore", "(IIII)Z"⟩
theorem h_M_carriesMore : y_M_carriesMore.cls ≠ "java/lang/invoke/MethodHandle" ∧ y_M_carriesMore.cls ≠ "java/lang/invoke/VarHandle" ∧ (parseMethodDescriptor y_M_carriesMore.desc).map (fun d => d.parameters.length) = some 4 := by decide +kernel
abbrev b_M_rent : ByteArray := prog_7_method_45_code
abbrev y_M_rent : MethodName := ⟨"NodalAuctionModel", "rent", "(IIII)J"⟩
theorem h_M_rent : y_M_rent.cls ≠ "java/lang/invoke/MethodHandle" ∧ y_M_rent.cls ≠ "java/lang/invoke/VarHandle" ∧ (parseMethodDescriptor y_M_rent.desc).map (fun d => d.parameters.length) = some 4 := by decide +kernel
abbrev b_B_init : ByteArray := prog_2_method_1_code
abbrev y_B_init : MethodName := ⟨"NodalAuction$Book", "<init>", "()V"⟩
theorem h_B_init : y_B_init.cls ≠ "java/lang/invoke/MethodHandle" ∧ y_B_init.cls ≠ "java/lang/invoke/VarHandle" ∧ (parseMethodDescriptor y_B_init.desc).map (fun d => d.parameters.length) = some 0 := by decide +kernel
abbrev b_B_has : ByteArray := prog_2_method_2_code
abbrev y_B_has : MethodName := ⟨"NodalAuction$Book", "has", "(I)Z"⟩
theorem h_B_has : y_B_has.cls ≠ "java/lang/invoke/MethodHandle" ∧ y_B_has.cls ≠ "java/lang/invoke/VarHandle" ∧ (parseMethodDescriptor y_B_has.desc).map (fun d => d.parameters.length) = some 1 := by decide +kernel
abbrev b_B_add : ByteArray := prog_2_method_3_code
abbrev y_B_add : MethodName := ⟨"NodalAuction$Book", "add", "(IIII)I"⟩
theorem h_B_add : y_B_add.cls ≠ "java/lang/invoke/MethodHandle" ∧ y_B_add.cls ≠ "java/lang/invoke/VarHandle" ∧ (parseMethodDescriptor y_B_add.desc).map (fun d => d.parameters.length) = some 4 := by decide +kernel
abbrev b_B_remove : ByteArray := prog_2_method_4_code
abbrev y_B_remove : MethodName := ⟨"NodalAuction$Book", "remove", "(I)V"⟩
theorem h_B_remove : y_B_remove.cls ≠ "java/lang/invoke/MethodHandle" ∧ y_B_remove.cls ≠ "java/lang/invoke/VarHandle" ∧ (parseMethodDescriptor y_B_remove.desc).map (fun d => d.parameters.length) = some 1 := by decide +kernel
abbrev b_G_init : ByteArray := prog_3_method_1_code
abbrev y_G_init : MethodName := ⟨"NodalAuction$Grid", "<init>", "()V"⟩
theorem h_G_init : y_G_init.cls ≠ "java/lang/invoke/MethodHandle" ∧ y_G_init.cls ≠ "java/lang/invoke/VarHandle" ∧ (parseMethodDescriptor y_G_init.desc).map (fun d => d.parameters.length) = some 0 := by decide +kernel
abbrev b_G_has : ByteArray := prog_3_method_2_code
abbrev y_G_has : MethodName := ⟨"NodalAuction$Grid", "has", "(I)Z"⟩
theorem h_G_has : y_G_has.cls ≠ "java/lang/invoke/MethodHandle" ∧ y_G_has.cls ≠ "java/lang/invoke/VarHandle" ∧ (parseMethodDescriptor y_G_has.desc).map (fun d => d.parameters.length) = some 1 := by decide +kernel
abbrev b_G_joins : ByteArray := prog_3_method_3_code
abbrev y_G_joins : MethodName := ⟨"NodalAuction$Grid", "joins", "(II)Z"⟩
theorem h_G_joins : y_G_joins.cls ≠ "java/lang/invoke/MethodHandle" ∧ y_G_joins.cls ≠ "java/lang/invoke/VarHandle" ∧ (parseMethodDescriptor y_G_joins.desc).map (fun d => d.parameters.length) = some 2 := by decide +kernel
abbrev b_G_add : ByteArray := prog_3_method_4_code
abbrev y_G_add : MethodName := ⟨"NodalAuction$Grid", "add", "(IIII)I"⟩
theorem h_G_add : y_G_add.cls ≠ "java/lang/invoke/MethodHandle" ∧ y_G_add.cls ≠ "java/lang/invoke/VarHandle" ∧ (parseMethodDescriptor y_G_add.desc).map (fun d => d.parameters.length) = some 4 := by decide +kernel
abbrev b_G_remove : ByteArray := prog_3_method_5_code
abbrev y_G_remove : MethodName := ⟨"NodalAuction$Grid", "remove", "(I)V"⟩
theorem h_G_remove : y_G_remove.cls ≠ "java/lang/invoke/MethodHandle" ∧ y_G_remove.cls ≠ "java/lang/invoke/VarHandle" ∧ (parseMethodDescriptor y_G_remove.desc).map (fun d => d.parameters.length) = some 1 := by decide +kernel
abbrev b_G_ground : ByteArray := prog_3_method_6_code
abbrev y_G_ground : MethodName := ⟨"NodalAuction$Grid", "ground", "(I)V"⟩
theorem h_G_ground : y_G_ground.cls ≠ "java/lang/invoke/MethodHandle" ∧ y_G_ground.cls ≠ "java/lang/invoke/VarHandle" ∧ (parseMethodDescriptor y_G_ground.desc).map (fun d => d.parameters.length) = some 1 := by decide +kernel
abbrev b_G_weighNodes : ByteArray := prog_3_method_7_code
abbrev y_G_weighNodes : MethodName := ⟨"NodalAuction$Grid", "weighNodes", "()V"⟩
theorem h_G_weighNodes : y_G_weighNodes.cls ≠ "java/lang/invoke/MethodHandle" ∧ y_G_weighNodes.cls ≠ "java/lang/invoke/VarHandle" ∧ (parseMethodDescriptor y_G_weighNodes.desc).map (fun d => d.parameters.length) = some 0 := by decide +kernel
abbrev b_G_beside : ByteArray := prog_3_method_8_code
abbrev y_G_beside : MethodName := ⟨"NodalAuction$Grid", "beside", "(II)I"⟩
theorem h_G_beside : y_G_beside.cls ≠ "java/lang/invoke/MethodHandle" ∧ y_G_beside.cls ≠ "java/lang/invoke/VarHandle" ∧ (parseMethodDescriptor y_G_beside.desc).map (fun d => d.parameters.length) = some 2 := by decide +kernel
abbrev b_G_cofactor : ByteArray := prog_3_method_9_code
abbrev y_G_cofactor : MethodName := ⟨"NodalAuction$Grid", "cofactor", "(III)J"⟩
theorem h_G_cofactor : y_G_cofactor.cls ≠ "java/lang/invoke/MethodHandle" ∧ y_G_cofactor.cls ≠ "java/lang/invoke/VarHandle" ∧ (parseMethodDescriptor y_G_cofactor.desc).map (fun d => d.parameters.length) = some 3 := by decide +kernel
abbrev b_G_share : ByteArray := prog_3_method_10_code
abbrev y_G_share : MethodName := ⟨"NodalAuction$Grid", "share", "(II)J"⟩
theorem h_G_share : y_G_share.cls ≠ "java/lang/invoke/MethodHandle" ∧ y_G_share.cls ≠ "java/lang/invoke/VarHandle" ∧ (parseMethodDescriptor y_G_share.desc).map (fun d => d.parameters.length) = some 2 := by decide +kernel
abbrev b_O_init : ByteArray := prog_4_method_1_code
abbrev y_O_init : MethodName := ⟨"NodalAuction$Outcome", "<init>", "()V"⟩
theorem h_O_init : y_O_init.cls ≠ "java/lang/invoke/MethodHandle" ∧ y_O_init.cls ≠ "java/lang/invoke/VarHandle" ∧ (parseMethodDescriptor y_O_init.desc).map (fun d => d.parameters.length) = some 0 := by decide +kernel
abbrev b_O_take : ByteArray := prog_4_method_2_code
abbrev y_O_take : MethodName := ⟨"NodalAuction$Outcome", "take", "(LNodalAuction$Program;LNodalAuction$Grid;LNodalAuction$Book;)V"⟩
theorem h_O_take : y_O_take.cls ≠ "java/lang/invoke/MethodHandle" ∧ y_O_take.cls ≠ "java/lang/invoke/VarHandle" ∧ (parseMethodDescriptor y_O_take.desc).map (fun d => d.parameters.length) = some 3 := by decide +kernel
abbrev b_O_taken : ByteArray := prog_4_method_3_code
abbrev y_O_taken : MethodName := ⟨"NodalAuction$Outcome", "taken", "(I)I"⟩
theorem h_O_taken : y_O_taken.cls ≠ "java/lang/invoke/MethodHandle" ∧ y_O_taken.cls ≠ "java/lang/invoke/VarHandle" ∧ (parseMethodDescriptor y_O_taken.desc).map (fun d => d.parameters.length) = some 1 := by decide +kernel
abbrev b_P_init : ByteArray := prog_5_method_1_code
abbrev y_P_init : MethodName := ⟨"NodalAuction$Program", "<init>", "()V"⟩
theorem h_P_init : y_P_init.cls ≠ "java/lang/invoke/MethodHandle" ∧ y_P_init.cls ≠ "java/lang/invoke/VarHandle" ∧ (parseMethodDescriptor y_P_init.desc).map (fun d => d.parameters.length) = some 0 := by decide +kernel
abbrev b_P_load : ByteArray := prog_5_method_2_code
abbrev y_P_load : MethodName := ⟨"NodalAuction$Program", "load", "(LNodalAuction$Grid;LNodalAuction$Book;II)Z"⟩
theorem h_P_load : y_P_load.cls ≠ "java/lang/invoke/MethodHandle" ∧ y_P_load.cls ≠ "java/lang/invoke/VarHandle" ∧ (parseMethodDescriptor y_P_load.desc).map (fun d => d.parameters.length) = some 4 := by decide +kernel
abbrev b_P_placeRow : ByteArray := prog_5_method_3_code
abbrev y_P_placeRow : MethodName := ⟨"NodalAuction$Program", "placeRow", "(IIII)V"⟩
theorem h_P_placeRow : y_P_placeRow.cls ≠ "java/lang/invoke/MethodHandle" ∧ y_P_placeRow.cls ≠ "java/lang/invoke/VarHandle" ∧ (parseMethodDescriptor y_P_placeRow.desc).map (fun d => d.parameters.length) = some 4 := by decide +kernel
abbrev b_P_placeColumn : ByteArray := prog_5_method_4_code
abbrev y_P_placeColumn : MethodName := ⟨"NodalAuction$Program", "placeColumn", "(II)V"⟩
theorem h_P_placeColumn : y_P_placeColumn.cls ≠ "java/lang/invoke/MethodHandle" ∧ y_P_placeColumn.cls ≠ "java/lang/invoke/VarHandle" ∧ (parseMethodDescriptor y_P_placeColumn.desc).map (fun d => d.parameters.length) = some 2 := by decide +kernel
abbrev b_P_maximise : ByteArray := prog_5_method_5_code
abbrev y_P_maximise : MethodName := ⟨"NodalAuction$Program", "maximise", "(I)V"⟩
theorem h_P_maximise : y_P_maximise.cls ≠ "java/lang/invoke/MethodHandle" ∧ y_P_maximise.cls ≠ "java/lang/invoke/VarHandle" ∧ (parseMethodDescriptor y_P_maximise.desc).map (fun d => d.parameters.length) = some 1 := by decide +kernel
abbrev b_P_top : ByteArray := prog_5_method_6_code
abbrev y_P_top : MethodName := ⟨"NodalAuction$Program", "top", "(I)J"⟩
theorem h_P_top : y_P_top.cls ≠ "java/lang/invoke/MethodHandle" ∧ y_P_top.cls ≠ "java/lang/invoke/VarHandle" ∧ (parseMethodDescriptor y_P_top.desc).map (fun d => d.parameters.length) = some 1 := by decide +kernel
abbrev b_P_rowTop : ByteArray := prog_5_method_7_code
abbrev y_P_rowTop : MethodName := ⟨"NodalAuction$Program", "rowTop", "(I)J"⟩
theorem h_P_rowTop : y_P_rowTop.cls ≠ "java/lang/invoke/MethodHandle" ∧ y_P_rowTop.cls ≠ "java/lang/invoke/VarHandle" ∧ (parseMethodDescriptor y_P_rowTop.desc).map (fun d => d.parameters.length) = some 1 := by decide +kernel
abbrev b_P_rowOf : ByteArray := prog_5_method_8_code
abbrev y_P_rowOf : MethodName := ⟨"NodalAuction$Program", "rowOf", "(I)I"⟩
theorem h_P_rowOf : y_P_rowOf.cls ≠ "java/lang/invoke/MethodHandle" ∧ y_P_rowOf.cls ≠ "java/lang/invoke/VarHandle" ∧ (parseMethodDescriptor y_P_rowOf.desc).map (fun d => d.parameters.length) = some 1 := by decide +kernel
abbrev b_P_gain : ByteArray := prog_5_method_9_code
abbrev y_P_gain : MethodName := ⟨"NodalAuction$Program", "gain", "(III)J"⟩
theorem h_P_gain : y_P_gain.cls ≠ "java/lang/invoke/MethodHandle" ∧ y_P_gain.cls ≠ "java/lang/invoke/VarHandle" ∧ (parseMethodDescriptor y_P_gain.desc).map (fun d => d.parameters.length) = some 3 := by decide +kernel
abbrev b_P_firstGain : ByteArray := prog_5_method_10_code
abbrev y_P_firstGain : MethodName := ⟨"NodalAuction$Program", "firstGain", "(II)I"⟩
theorem h_P_firstGain : y_P_firstGain.cls ≠ "java/lang/invoke/MethodHandle" ∧ y_P_firstGain.cls ≠ "java/lang/invoke/VarHandle" ∧ (parseMethodDescriptor y_P_firstGain.desc).map (fun d => d.parameters.length) = some 2 := by decide +kernel
abbrev b_P_canMove : ByteArray := prog_5_method_11_code
abbrev y_P_canMove : MethodName := ⟨"NodalAuction$Program", "canMove", "(IJ)Z"⟩
theorem h_P_canMove : y_P_canMove.cls ≠ "java/lang/invoke/MethodHandle" ∧ y_P_canMove.cls ≠ "java/lang/invoke/VarHandle" ∧ (parseMethodDescriptor y_P_canMove.desc).map (fun d => d.parameters.length) = some 2 := by decide +kernel
abbrev b_P_advance : ByteArray := prog_5_method_12_code
abbrev y_P_advance : MethodName := ⟨"NodalAuction$Program", "advance", "(IZ)V"⟩
theorem h_P_advance : y_P_advance.cls ≠ "java/lang/invoke/MethodHandle" ∧ y_P_advance.cls ≠ "java/lang/invoke/VarHandle" ∧ (parseMethodDescriptor y_P_advance.desc).map (fun d => d.parameters.length) = some 2 := by decide +kernel
abbrev b_P_roomOf : ByteArray := prog_5_method_13_code
abbrev y_P_roomOf : MethodName := ⟨"NodalAuction$Program", "roomOf", "(IZ)J"⟩
theorem h_P_roomOf : y_P_roomOf.cls ≠ "java/lang/invoke/MethodHandle" ∧ y_P_roomOf.cls ≠ "java/lang/invoke/VarHandle" ∧ (parseMethodDescriptor y_P_roomOf.desc).map (fun d => d.parameters.length) = some 2 := by decide +kernel
abbrev b_P_pivot : ByteArray := prog_5_method_14_code
abbrev y_P_pivot : MethodName := ⟨"NodalAuction$Program", "pivot", "(II)V"⟩
theorem h_P_pivot : y_P_pivot.cls ≠ "java/lang/invoke/MethodHandle" ∧ y_P_pivot.cls ≠ "java/lang/invoke/VarHandle" ∧ (parseMethodDescriptor y_P_pivot.desc).map (fun d => d.parameters.length) = some 2 := by decide +kernel
abbrev b_P_replaceRow : ByteArray := prog_5_method_15_code
abbrev y_P_replaceRow : MethodName := ⟨"NodalAuction$Program", "replaceRow", "(III)V"⟩
theorem h_P_replaceRow : y_P_replaceRow.cls ≠ "java/lang/invoke/MethodHandle" ∧ y_P_replaceRow.cls ≠ "java/lang/invoke/VarHandle" ∧ (parseMethodDescriptor y_P_replaceRow.desc).map (fun d => d.parameters.length) = some 3 := by decide +kernel
-- the words that stay good, and those of nest mates
def z_isNest : Cond → Bool
  | .methodLinkNest .. => true
  | .fieldLinkNest .. => true
  | _ => false
def z_good : List Cond := lw_tbl.filter goodWord
def z_nest : List Cond := tables_1.filter z_isNest
theorem z_in {w : Cond} (i : Nat) (h : tables_1[i]? = some w) (g : goodWord w = true) : w ∈ z_good := List.mem_filter.mpr ⟨List.mem_append_right _ (List.mem_of_getElem? h), g⟩
theorem z_inS {w : Cond} (i : Nat) (h : (k2_sels lw_privs)[i]? = some w) (g : goodWord w = true) : w ∈ z_good := List.mem_filter.mpr ⟨List.mem_append_left _ (List.mem_of_getElem? h), g⟩
theorem z_inN {w : Cond} (i : Nat) (h : tables_1[i]? = some w) (g : z_isNest w = true) : w ∈ z_nest := List.mem_filter.mpr ⟨List.mem_of_getElem? h, g⟩
theorem k_0 : (Jvm.Cond.initialized "NodalAuctionLaw") ∈ z_good := z_in 0 (by rfl) rfl
theorem k_1 : (Jvm.Cond.initialized "NodalAuction") ∈ z_good := z_in 1 (by rfl) rfl
theorem k_2 : (Jvm.Cond.initialized "NodalAuction$Grid") ∈ z_good := z_in 2 (by rfl) rfl
theorem k_3 : (Jvm.Cond.initialized "NodalAuction$Book") ∈ z_good := z_in 3 (by rfl) rfl
theorem k_4 : (Jvm.Cond.initialized "NodalAuction$Program") ∈ z_good := z_in 4 (by rfl) rfl
theorem k_5 : (Jvm.Cond.initialized "NodalAuction$Outcome") ∈ z_good := z_in 5 (by rfl) rfl
theorem k_6 : (Jvm.Cond.initialized "NodalAuctionModel") ∈ z_good := z_in 6 (by rfl) rfl
theorem k_7 : (Jvm.Cond.initialized "java/lang/Math") ∈ z_good := z_in 7 (by rfl) rfl
theorem k_8 : (Jvm.Cond.classLink "NodalAuctionLaw" (7 : Nat) "NodalAuction") ∈ z_good := z_in 8 (by rfl) rfl
theorem k_9 : (Jvm.Cond.instantiable "NodalAuction" (6 : Nat)) ∈ z_good := z_in 9 (by rfl) rfl
theorem k_10 : (Jvm.Cond.methodLink "NodalAuctionLaw" (9 : Nat) ({ cls := "NodalAuction", name := "<init>", desc := "()V" } : Jvm.MethodName)) ∈ z_good := z_in 10 (by rfl) rfl
theorem k_11 : (Jvm.Cond.instanceMethod ({ cls := "NodalAuction", name := "<init>", desc := "()V" } : Jvm.MethodName)) ∈ z_good := z_in 11 (by rfl) rfl
theorem k_12 : (Jvm.Cond.code ({ cls := "NodalAuction", name := "<init>", desc := "()V" } : Jvm.MethodName) prog_1_method_1_code (1 : Nat) (Option.none : Option Jvm.ClassFile.FieldType)) ∈ z_good := z_in 12 (by rfl) rfl
theorem k_13 : (Jvm.Cond.methodLink "NodalAuction" (3 : Nat) ({ cls := "java/lang/Object", name := "<init>", desc := "()V" } : Jvm.MethodName)) ∈ z_good := z_in 13 (by rfl) rfl
theorem k_14 : (Jvm.Cond.instanceMethod ({ cls := "java/lang/Object", name := "<init>", desc := "()V" } : Jvm.MethodName)) ∈ z_good := z_in 14 (by rfl) rfl
theorem k_15 : (Jvm.Cond.code ({ cls := "java/lang/Object", name := "<init>", desc := "()V" } : Jvm.MethodName) object_method_1_code (1 : Nat) (Option.none : Option Jvm.ClassFile.FieldType)) ∈ z_good := z_in 15 (by rfl) rfl
theorem k_16 : (Jvm.Cond.classLink "NodalAuction" (9 : Nat) "NodalAuction$Grid") ∈ z_good := z_in 16 (by rfl) rfl
theorem k_17 : (Jvm.Cond.instantiable "NodalAuction$Grid" (8 : Nat)) ∈ z_good := z_in 17 (by rfl) rfl
theorem k_18 : (Jvm.Cond.methodLinkNest "NodalAuction" (11 : Nat) ({ cls := "NodalAuction$Grid", name := "<init>", desc := "()V" } : Jvm.MethodName) "NodalAuction") ∈ z_nest := z_inN 18 (by rfl) rfl
theorem k_19 : (Jvm.Cond.instanceMethod ({ cls := "NodalAuction$Grid", name := "<init>", desc := "()V" } : Jvm.MethodName)) ∈ z_good := z_in 19 (by rfl) rfl
theorem k_20 : (Jvm.Cond.code ({ cls := "NodalAuction$Grid", name := "<init>", desc := "()V" } : Jvm.MethodName) prog_3_method_1_code (1 : Nat) (Option.none : Option Jvm.ClassFile.FieldType)) ∈ z_good := z_in 20 (by rfl) rfl
theorem k_21 : (Jvm.Cond.methodLink "NodalAuction$Grid" (3 : Nat) ({ cls := "java/lang/Object", name := "<init>", desc := "()V" } : Jvm.MethodName)) ∈ z_good := z_in 21 (by rfl) rfl
theorem k_22 : (Jvm.Cond.classLink "NodalAuction$Grid" (28 : Nat) "[[J") ∈ z_good := z_in 22 (by rfl) rfl
theorem k_24 : (Jvm.Cond.fieldLink "NodalAuction$Grid" (9 : Nat) "NodalAuction$Grid" "first" "[I") ∈ z_good := z_in 24 (by rfl) rfl
theorem k_25 : (Jvm.Cond.fieldLink "NodalAuction$Grid" (15 : Nat) "NodalAuction$Grid" "second" "[I") ∈ z_good := z_in 25 (by rfl) rfl
theorem k_26 : (Jvm.Cond.fieldLink "NodalAuction$Grid" (18 : Nat) "NodalAuction$Grid" "force" "[I") ∈ z_good := z_in 26 (by rfl) rfl
theorem k_27 : (Jvm.Cond.fieldLink "NodalAuction$Grid" (21 : Nat) "NodalAuction$Grid" "most" "[I") ∈ z_good := z_in 27 (by rfl) rfl
theorem k_28 : (Jvm.Cond.fieldLinkNest "NodalAuction$Program" (62 : Nat) "NodalAuction$Grid" "most" "[I" "NodalAuction") ∈ z_nest := z_inN 28 (by rfl) rfl
theorem k_29 : (Jvm.Cond.fieldLinkNest "NodalAuction" (72 : Nat) "NodalAuction$Grid" "most" "[I" "NodalAuction") ∈ z_nest := z_inN 29 (by rfl) rfl
theorem k_30 : (Jvm.Cond.fieldLink "NodalAuction$Grid" (24 : Nat) "NodalAuction$Grid" "count" "I") ∈ z_good := z_in 30 (by rfl) rfl
theorem k_31 : (Jvm.Cond.fieldLinkNest "NodalAuction$Program" (61 : Nat) "NodalAuction$Grid" "count" "I" "NodalAuction") ∈ z_nest := z_inN 31 (by rfl) rfl
theorem k_32 : (Jvm.Cond.fieldLinkNest "NodalAuction$Outcome" (48 : Nat) "NodalAuction$Grid" "count" "I" "NodalAuction") ∈ z_nest := z_inN 32 (by rfl) rfl
theorem k_33 : (Jvm.Cond.fieldLinkNest "NodalAuction" (57 : Nat) "NodalAuction$Grid" "count" "I" "NodalAuction") ∈ z_nest := z_inN 33 (by rfl) rfl
theorem k_34 : (Jvm.Cond.fieldLink "NodalAuction$Grid" (30 : Nat) "NodalAuction$Grid" "laplacian" "[[J") ∈ z_good := z_in 34 (by rfl) rfl
theorem k_35 : (Jvm.Cond.fieldLink "NodalAuction$Grid" (33 : Nat) "NodalAuction$Grid" "adjugate" "[[J") ∈ z_good := z_in 35 (by rfl) rfl
theorem k_36 : (Jvm.Cond.fieldLink "NodalAuction$Grid" (36 : Nat) "NodalAuction$Grid" "trees" "J") ∈ z_good := z_in 36 (by rfl) rfl
theorem k_37 : (Jvm.Cond.fieldLinkNest "NodalAuction$Program" (53 : Nat) "NodalAuction$Grid" "trees" "J" "NodalAuction") ∈ z_nest := z_inN 37 (by rfl) rfl
theorem k_38 : (Jvm.Cond.laysFinal "NodalAuction$Grid" "NodalAuction$Grid" "first" "[I") ∈ z_good := z_in 38 (by rfl) rfl
theorem k_40 : (Jvm.Cond.laysFinal "NodalAuction$Grid" "NodalAuction$Grid" "second" "[I") ∈ z_good := z_in 40 (by rfl) rfl
theorem k_42 : (Jvm.Cond.laysFinal "NodalAuction$Grid" "NodalAuction$Grid" "force" "[I") ∈ z_good := z_in 42 (by rfl) rfl
theorem k_44 : (Jvm.Cond.laysFinal "NodalAuction$Grid" "NodalAuction$Grid" "most" "[I") ∈ z_good := z_in 44 (by rfl) rfl
theorem k_46 : (Jvm.Cond.lays "NodalAuction$Grid" "NodalAuction$Grid" "count" "I") ∈ z_good := z_in 46 (by rfl) rfl
theorem k_48 : (Jvm.Cond.laysFinal "NodalAuction$Grid" "NodalAuction$Grid" "laplacian" "[[J") ∈ z_good := z_in 48 (by rfl) rfl
theorem k_50 : (Jvm.Cond.laysFinal "NodalAuction$Grid" "NodalAuction$Grid" "adjugate" "[[J") ∈ z_good := z_in 50 (by rfl) rfl
theorem k_52 : (Jvm.Cond.lays "NodalAuction$Grid" "NodalAuction$Grid" "trees" "J") ∈ z_good := z_in 52 (by rfl) rfl
theorem k_55 : (Jvm.Cond.arrayClass Jvm.ClassFile.FieldType.int) ∈ z_good := z_in 55 (by rfl) rfl
theorem k_56 : (Jvm.Cond.arrayClass Jvm.ClassFile.FieldType.long) ∈ z_good := z_in 56 (by rfl) rfl
theorem k_57 : (Jvm.Cond.classLink "NodalAuction" (16 : Nat) "NodalAuction$Book") ∈ z_good := z_in 57 (by rfl) rfl
theorem k_58 : (Jvm.Cond.instantiable "NodalAuction$Book" (5 : Nat)) ∈ z_good := z_in 58 (by rfl) rfl
theorem k_59 : (Jvm.Cond.methodLinkNest "NodalAuction" (18 : Nat) ({ cls := "NodalAuction$Book", name := "<init>", desc := "()V" } : Jvm.MethodName) "NodalAuction") ∈ z_nest := z_inN 59 (by rfl) rfl
theorem k_60 : (Jvm.Cond.instanceMethod ({ cls := "NodalAuction$Book", name := "<init>", desc := "()V" } : Jvm.MethodName)) ∈ z_good := z_in 60 (by rfl) rfl
theorem k_61 : (Jvm.Cond.code ({ cls := "NodalAuction$Book", name := "<init>", desc := "()V" } : Jvm.MethodName) prog_2_method_1_code (1 : Nat) (Option.none : Option Jvm.ClassFile.FieldType)) ∈ z_good := z_in 61 (by rfl) rfl
theorem k_62 : (Jvm.Cond.methodLink "NodalAuction$Book" (3 : Nat) ({ cls := "java/lang/Object", name := "<init>", desc := "()V" } : Jvm.MethodName)) ∈ z_good := z_in 62 (by rfl) rfl
theorem k_63 : (Jvm.Cond.fieldLink "NodalAuction$Book" (9 : Nat) "NodalAuction$Book" "side" "[I") ∈ z_good := z_in 63 (by rfl) rfl
theorem k_64 : (Jvm.Cond.fieldLinkNest "NodalAuction$Program" (76 : Nat) "NodalAuction$Book" "side" "[I" "NodalAuction") ∈ z_nest := z_inN 64 (by rfl) rfl
theorem k_65 : (Jvm.Cond.fieldLinkNest "NodalAuction" (162 : Nat) "NodalAuction$Book" "side" "[I" "NodalAuction") ∈ z_nest := z_inN 65 (by rfl) rfl
theorem k_66 : (Jvm.Cond.fieldLink "NodalAuction$Book" (15 : Nat) "NodalAuction$Book" "node" "[I") ∈ z_good := z_in 66 (by rfl) rfl
theorem k_67 : (Jvm.Cond.fieldLinkNest "NodalAuction$Program" (79 : Nat) "NodalAuction$Book" "node" "[I" "NodalAuction") ∈ z_nest := z_inN 67 (by rfl) rfl
theorem k_68 : (Jvm.Cond.fieldLinkNest "NodalAuction" (168 : Nat) "NodalAuction$Book" "node" "[I" "NodalAuction") ∈ z_nest := z_inN 68 (by rfl) rfl
theorem k_69 : (Jvm.Cond.fieldLink "NodalAuction$Book" (18 : Nat) "NodalAuction$Book" "price" "[I") ∈ z_good := z_in 69 (by rfl) rfl
theorem k_70 : (Jvm.Cond.fieldLinkNest "NodalAuction$Program" (86 : Nat) "NodalAuction$Book" "price" "[I" "NodalAuction") ∈ z_nest := z_inN 70 (by rfl) rfl
theorem k_71 : (Jvm.Cond.fieldLinkNest "NodalAuction" (165 : Nat) "NodalAuction$Book" "price" "[I" "NodalAuction") ∈ z_nest := z_inN 71 (by rfl) rfl
theorem k_72 : (Jvm.Cond.fieldLink "NodalAuction$Book" (21 : Nat) "NodalAuction$Book" "quantity" "[I") ∈ z_good := z_in 72 (by rfl) rfl
theorem k_73 : (Jvm.Cond.fieldLinkNest "NodalAuction$Program" (69 : Nat) "NodalAuction$Book" "quantity" "[I" "NodalAuction") ∈ z_nest := z_inN 73 (by rfl) rfl
theorem k_74 : (Jvm.Cond.fieldLinkNest "NodalAuction" (174 : Nat) "NodalAuction$Book" "quantity" "[I" "NodalAuction") ∈ z_nest := z_inN 74 (by rfl) rfl
theorem k_75 : (Jvm.Cond.fieldLink "NodalAuction$Book" (24 : Nat) "NodalAuction$Book" "count" "I") ∈ z_good := z_in 75 (by rfl) rfl
theorem k_76 : (Jvm.Cond.fieldLinkNest "NodalAuction$Outcome" (35 : Nat) "NodalAuction$Book" "count" "I" "NodalAuction") ∈ z_nest := z_inN 76 (by rfl) rfl
theorem k_77 : (Jvm.Cond.fieldLinkNest "NodalAuction$Program" (56 : Nat) "NodalAuction$Book" "count" "I" "NodalAuction") ∈ z_nest := z_inN 77 (by rfl) rfl
theorem k_78 : (Jvm.Cond.fieldLinkNest "NodalAuction" (91 : Nat) "NodalAuction$Book" "count" "I" "NodalAuction") ∈ z_nest := z_inN 78 (by rfl) rfl
theorem k_79 : (Jvm.Cond.laysFinal "NodalAuction$Book" "NodalAuction$Book" "side" "[I") ∈ z_good := z_in 79 (by rfl) rfl
theorem k_81 : (Jvm.Cond.laysFinal "NodalAuction$Book" "NodalAuction$Book" "node" "[I") ∈ z_good := z_in 81 (by rfl) rfl
theorem k_83 : (Jvm.Cond.laysFinal "NodalAuction$Book" "NodalAuction$Book" "price" "[I") ∈ z_good := z_in 83 (by rfl) rfl
theorem k_85 : (Jvm.Cond.laysFinal "NodalAuction$Book" "NodalAuction$Book" "quantity" "[I") ∈ z_good := z_in 85 (by rfl) rfl
theorem k_87 : (Jvm.Cond.lays "NodalAuction$Book" "NodalAuction$Book" "count" "I") ∈ z_good := z_in 87 (by rfl) rfl
theorem k_90 : (Jvm.Cond.classLink "NodalAuction" (26 : Nat) "NodalAuction$Program") ∈ z_good := z_in 90 (by rfl) rfl
theorem k_91 : (Jvm.Cond.instantiable "NodalAuction$Program" (10 : Nat)) ∈ z_good := z_in 91 (by rfl) rfl
theorem k_92 : (Jvm.Cond.methodLinkNest "NodalAuction" (28 : Nat) ({ cls := "NodalAuction$Program", name := "<init>", desc := "()V" } : Jvm.MethodName) "NodalAuction") ∈ z_nest := z_inN 92 (by rfl) rfl
theorem k_93 : (Jvm.Cond.instanceMethod ({ cls := "NodalAuction$Program", name := "<init>", desc := "()V" } : Jvm.MethodName)) ∈ z_good := z_in 93 (by rfl) rfl
theorem k_94 : (Jvm.Cond.code ({ cls := "NodalAuction$Program", name := "<init>", desc := "()V" } : Jvm.MethodName) prog_5_method_1_code (1 : Nat) (Option.none : Option Jvm.ClassFile.FieldType)) ∈ z_good := z_in 94 (by rfl) rfl
theorem k_95 : (Jvm.Cond.methodLink "NodalAuction$Program" (3 : Nat) ({ cls := "java/lang/Object", name := "<init>", desc := "()V" } : Jvm.MethodName)) ∈ z_good := z_in 95 (by rfl) rfl
theorem k_96 : (Jvm.Cond.classLink "NodalAuction$Program" (9 : Nat) "[[J") ∈ z_good := z_in 96 (by rfl) rfl
theorem k_97 : (Jvm.Cond.fieldLink "NodalAuction$Program" (11 : Nat) "NodalAuction$Program" "cell" "[[J") ∈ z_good := z_in 97 (by rfl) rfl
theorem k_98 : (Jvm.Cond.fieldLink "NodalAuction$Program" (16 : Nat) "NodalAuction$Program" "rowVariable" "[I") ∈ z_good := z_in 98 (by rfl) rfl
theorem k_99 : (Jvm.Cond.fieldLink "NodalAuction$Program" (20 : Nat) "NodalAuction$Program" "columnVariable" "[I") ∈ z_good := z_in 99 (by rfl) rfl
theorem k_100 : (Jvm.Cond.fieldLink "NodalAuction$Program" (23 : Nat) "NodalAuction$Program" "least" "[I") ∈ z_good := z_in 100 (by rfl) rfl
theorem k_101 : (Jvm.Cond.fieldLink "NodalAuction$Program" (26 : Nat) "NodalAuction$Program" "greatest" "[I") ∈ z_good := z_in 101 (by rfl) rfl
theorem k_102 : (Jvm.Cond.fieldLink "NodalAuction$Program" (29 : Nat) "NodalAuction$Program" "place" "[I") ∈ z_good := z_in 102 (by rfl) rfl
theorem k_103 : (Jvm.Cond.fieldLink "NodalAuction$Program" (32 : Nat) "NodalAuction$Program" "frozen" "[Z") ∈ z_good := z_in 103 (by rfl) rfl
theorem k_104 : (Jvm.Cond.fieldLink "NodalAuction$Program" (36 : Nat) "NodalAuction$Program" "rows" "I") ∈ z_good := z_in 104 (by rfl) rfl
theorem k_105 : (Jvm.Cond.fieldLink "NodalAuction$Program" (40 : Nat) "NodalAuction$Program" "columns" "I") ∈ z_good := z_in 105 (by rfl) rfl
theorem k_106 : (Jvm.Cond.fieldLink "NodalAuction$Program" (43 : Nat) "NodalAuction$Program" "bottom" "J") ∈ z_good := z_in 106 (by rfl) rfl
theorem k_107 : (Jvm.Cond.fieldLinkNest "NodalAuction$Outcome" (30 : Nat) "NodalAuction$Program" "bottom" "J" "NodalAuction") ∈ z_nest := z_inN 107 (by rfl) rfl
theorem k_108 : (Jvm.Cond.fieldLinkNest "NodalAuction" (159 : Nat) "NodalAuction$Program" "bottom" "J" "NodalAuction") ∈ z_nest := z_inN 108 (by rfl) rfl
theorem k_109 : (Jvm.Cond.laysFinal "NodalAuction$Program" "NodalAuction$Program" "cell" "[[J") ∈ z_good := z_in 109 (by rfl) rfl
theorem k_111 : (Jvm.Cond.laysFinal "NodalAuction$Program" "NodalAuction$Program" "rowVariable" "[I") ∈ z_good := z_in 111 (by rfl) rfl
theorem k_113 : (Jvm.Cond.laysFinal "NodalAuction$Program" "NodalAuction$Program" "columnVariable" "[I") ∈ z_good := z_in 113 (by rfl) rfl
theorem k_115 : (Jvm.Cond.laysFinal "NodalAuction$Program" "NodalAuction$Program" "least" "[I") ∈ z_good := z_in 115 (by rfl) rfl
theorem k_117 : (Jvm.Cond.laysFinal "NodalAuction$Program" "NodalAuction$Program" "greatest" "[I") ∈ z_good := z_in 117 (by rfl) rfl
theorem k_119 : (Jvm.Cond.laysFinal "NodalAuction$Program" "NodalAuction$Program" "place" "[I") ∈ z_good := z_in 119 (by rfl) rfl
theorem k_121 : (Jvm.Cond.laysFinal "NodalAuction$Program" "NodalAuction$Program" "frozen" "[Z") ∈ z_good := z_in 121 (by rfl) rfl
theorem k_123 : (Jvm.Cond.lays "NodalAuction$Program" "NodalAuction$Program" "rows" "I") ∈ z_good := z_in 123 (by rfl) rfl
theorem k_125 : (Jvm.Cond.lays "NodalAuction$Program" "NodalAuction$Program" "columns" "I") ∈ z_good := z_in 125 (by rfl) rfl
theorem k_127 : (Jvm.Cond.lays "NodalAuction$Program" "NodalAuction$Program" "bottom" "J") ∈ z_good := z_in 127 (by rfl) rfl
theorem k_130 : (Jvm.Cond.arrayClass Jvm.ClassFile.FieldType.boolean) ∈ z_good := z_in 130 (by rfl) rfl
theorem k_131 : (Jvm.Cond.classLink "NodalAuction" (33 : Nat) "NodalAuction$Outcome") ∈ z_good := z_in 131 (by rfl) rfl
theorem k_132 : (Jvm.Cond.instantiable "NodalAuction$Outcome" (5 : Nat)) ∈ z_good := z_in 132 (by rfl) rfl
theorem k_133 : (Jvm.Cond.methodLinkNest "NodalAuction" (35 : Nat) ({ cls := "NodalAuction$Outcome", name := "<init>", desc := "()V" } : Jvm.MethodName) "NodalAuction") ∈ z_nest := z_inN 133 (by rfl) rfl
theorem k_134 : (Jvm.Cond.instanceMethod ({ cls := "NodalAuction$Outcome", name := "<init>", desc := "()V" } : Jvm.MethodName)) ∈ z_good := z_in 134 (by rfl) rfl
theorem k_135 : (Jvm.Cond.code ({ cls := "NodalAuction$Outcome", name := "<init>", desc := "()V" } : Jvm.MethodName) prog_4_method_1_code (1 : Nat) (Option.none : Option Jvm.ClassFile.FieldType)) ∈ z_good := z_in 135 (by rfl) rfl
theorem k_136 : (Jvm.Cond.methodLink "NodalAuction$Outcome" (3 : Nat) ({ cls := "java/lang/Object", name := "<init>", desc := "()V" } : Jvm.MethodName)) ∈ z_good := z_in 136 (by rfl) rfl
theorem k_137 : (Jvm.Cond.fieldLink "NodalAuction$Outcome" (9 : Nat) "NodalAuction$Outcome" "amounts" "[I") ∈ z_good := z_in 137 (by rfl) rfl
theorem k_138 : (Jvm.Cond.fieldLinkNest "NodalAuction" (103 : Nat) "NodalAuction$Outcome" "amounts" "[I" "NodalAuction") ∈ z_nest := z_inN 138 (by rfl) rfl
theorem k_139 : (Jvm.Cond.fieldLink "NodalAuction$Outcome" (15 : Nat) "NodalAuction$Outcome" "flows" "[I") ∈ z_good := z_in 139 (by rfl) rfl
theorem k_140 : (Jvm.Cond.fieldLinkNest "NodalAuction" (106 : Nat) "NodalAuction$Outcome" "flows" "[I" "NodalAuction") ∈ z_nest := z_inN 140 (by rfl) rfl
theorem k_141 : (Jvm.Cond.fieldLink "NodalAuction$Outcome" (18 : Nat) "NodalAuction$Outcome" "present" "Z") ∈ z_good := z_in 141 (by rfl) rfl
theorem k_142 : (Jvm.Cond.fieldLinkNest "NodalAuction" (61 : Nat) "NodalAuction$Outcome" "present" "Z" "NodalAuction") ∈ z_nest := z_inN 142 (by rfl) rfl
theorem k_143 : (Jvm.Cond.fieldLink "NodalAuction$Outcome" (22 : Nat) "NodalAuction$Outcome" "unit" "I") ∈ z_good := z_in 143 (by rfl) rfl
theorem k_144 : (Jvm.Cond.fieldLinkNest "NodalAuction" (100 : Nat) "NodalAuction$Outcome" "unit" "I" "NodalAuction") ∈ z_nest := z_inN 144 (by rfl) rfl
theorem k_145 : (Jvm.Cond.fieldLink "NodalAuction$Outcome" (26 : Nat) "NodalAuction$Outcome" "worth" "J") ∈ z_good := z_in 145 (by rfl) rfl
theorem k_146 : (Jvm.Cond.fieldLinkNest "NodalAuction" (114 : Nat) "NodalAuction$Outcome" "worth" "J" "NodalAuction") ∈ z_nest := z_inN 146 (by rfl) rfl
theorem k_147 : (Jvm.Cond.laysFinal "NodalAuction$Outcome" "NodalAuction$Outcome" "amounts" "[I") ∈ z_good := z_in 147 (by rfl) rfl
theorem k_149 : (Jvm.Cond.laysFinal "NodalAuction$Outcome" "NodalAuction$Outcome" "flows" "[I") ∈ z_good := z_in 149 (by rfl) rfl
theorem k_151 : (Jvm.Cond.lays "NodalAuction$Outcome" "NodalAuction$Outcome" "present" "Z") ∈ z_good := z_in 151 (by rfl) rfl
theorem k_153 : (Jvm.Cond.lays "NodalAuction$Outcome" "NodalAuction$Outcome" "unit" "I") ∈ z_good := z_in 153 (by rfl) rfl
theorem k_155 : (Jvm.Cond.lays "NodalAuction$Outcome" "NodalAuction$Outcome" "worth" "J") ∈ z_good := z_in 155 (by rfl) rfl
theorem k_158 : (Jvm.Cond.fieldLink "NodalAuction" (12 : Nat) "NodalAuction" "grid" "LNodalAuction$Grid;") ∈ z_good := z_in 158 (by rfl) rfl
theorem k_159 : (Jvm.Cond.fieldLink "NodalAuction" (19 : Nat) "NodalAuction" "book" "LNodalAuction$Book;") ∈ z_good := z_in 159 (by rfl) rfl
theorem k_160 : (Jvm.Cond.fieldLink "NodalAuction" (23 : Nat) "NodalAuction" "probe" "LNodalAuction$Book;") ∈ z_good := z_in 160 (by rfl) rfl
theorem k_161 : (Jvm.Cond.fieldLink "NodalAuction" (29 : Nat) "NodalAuction" "program" "LNodalAuction$Program;") ∈ z_good := z_in 161 (by rfl) rfl
theorem k_162 : (Jvm.Cond.fieldLink "NodalAuction" (36 : Nat) "NodalAuction" "outcome" "LNodalAuction$Outcome;") ∈ z_good := z_in 162 (by rfl) rfl
theorem k_163 : (Jvm.Cond.fieldLink "NodalAuction" (40 : Nat) "NodalAuction" "asked" "[I") ∈ z_good := z_in 163 (by rfl) rfl
theorem k_164 : (Jvm.Cond.laysFinal "NodalAuction" "NodalAuction" "grid" "LNodalAuction$Grid;") ∈ z_good := z_in 164 (by rfl) rfl
theorem k_166 : (Jvm.Cond.laysFinal "NodalAuction" "NodalAuction" "book" "LNodalAuction$Book;") ∈ z_good := z_in 166 (by rfl) rfl
theorem k_168 : (Jvm.Cond.laysFinal "NodalAuction" "NodalAuction" "probe" "LNodalAuction$Book;") ∈ z_good := z_in 168 (by rfl) rfl
theorem k_170 : (Jvm.Cond.laysFinal "NodalAuction" "NodalAuction" "program" "LNodalAuction$Program;") ∈ z_good := z_in 170 (by rfl) rfl
theorem k_172 : (Jvm.Cond.laysFinal "NodalAuction" "NodalAuction" "outcome" "LNodalAuction$Outcome;") ∈ z_good := z_in 172 (by rfl) rfl
theorem k_174 : (Jvm.Cond.laysFinal "NodalAuction" "NodalAuction" "asked" "[I") ∈ z_good := z_in 174 (by rfl) rfl
theorem k_177 : (Jvm.Cond.methodLink "NodalAuctionLaw" (13 : Nat) ({ cls := "NodalAuction", name := "line", desc := "(IIII)I" } : Jvm.MethodName)) ∈ z_good := z_in 177 (by rfl) rfl
theorem k_178 : (Jvm.Cond.instanceMethod ({ cls := "NodalAuction", name := "line", desc := "(IIII)I" } : Jvm.MethodName)) ∈ z_good := z_in 178 (by rfl) rfl
theorem k_179 : (Jvm.Cond.selects "NodalAuction" ({ cls := "NodalAuction", name := "line", desc := "(IIII)I" } : Jvm.MethodName) ({ cls := "NodalAuction", name := "line", desc := "(IIII)I" } : Jvm.MethodName)) ∈ z_good := z_in 179 (by rfl) rfl
theorem k_180 : (Jvm.Cond.code ({ cls := "NodalAuction", name := "line", desc := "(IIII)I" } : Jvm.MethodName) prog_1_method_2_code (5 : Nat) (Option.some Jvm.ClassFile.FieldType.int)) ∈ z_good := z_in 180 (by rfl) rfl
theorem k_181 : (Jvm.Cond.methodLink "NodalAuction" (44 : Nat) ({ cls := "NodalAuction", name := "isNode", desc := "(I)Z" } : Jvm.MethodName)) ∈ z_good := z_in 181 (by rfl) rfl
theorem k_182 : (Jvm.Cond.static ({ cls := "NodalAuction", name := "isNode", desc := "(I)Z" } : Jvm.MethodName)) ∈ z_good := z_in 182 (by rfl) rfl
theorem k_183 : (Jvm.Cond.code ({ cls := "NodalAuction", name := "isNode", desc := "(I)Z" } : Jvm.MethodName) prog_1_method_21_code (1 : Nat) (Option.some Jvm.ClassFile.FieldType.boolean)) ∈ z_good := z_in 183 (by rfl) rfl
theorem k_184 : (Jvm.Cond.methodLink "NodalAuction" (53 : Nat) ({ cls := "NodalAuction", name := "within", desc := "(III)Z" } : Jvm.MethodName)) ∈ z_good := z_in 184 (by rfl) rfl
theorem k_185 : (Jvm.Cond.static ({ cls := "NodalAuction", name := "within", desc := "(III)Z" } : Jvm.MethodName)) ∈ z_good := z_in 185 (by rfl) rfl
theorem k_186 : (Jvm.Cond.code ({ cls := "NodalAuction", name := "within", desc := "(III)Z" } : Jvm.MethodName) prog_1_method_20_code (3 : Nat) (Option.some Jvm.ClassFile.FieldType.boolean)) ∈ z_good := z_in 186 (by rfl) rfl
theorem k_187 : (Jvm.Cond.methodLinkNest "NodalAuction" (48 : Nat) ({ cls := "NodalAuction$Grid", name := "joins", desc := "(II)Z" } : Jvm.MethodName) "NodalAuction") ∈ z_nest := z_inN 187 (by rfl) rfl
theorem k_189 : (Jvm.Cond.instanceMethod ({ cls := "NodalAuction$Grid", name := "joins", desc := "(II)Z" } : Jvm.MethodName)) ∈ z_good := z_in 189 (by rfl) rfl
theorem k_190 : (Jvm.Cond.code ({ cls := "NodalAuction$Grid", name := "joins", desc := "(II)Z" } : Jvm.MethodName) prog_3_method_3_code (4 : Nat) (Option.some Jvm.ClassFile.FieldType.boolean)) ∈ z_good := z_in 190 (by rfl) rfl
theorem k_191 : (Jvm.Cond.constant "NodalAuction" (52 : Nat) (-2147483648 : Int32)) ∈ z_good := z_in 191 (by rfl) rfl
theorem k_192 : (Jvm.Cond.methodLinkNest "NodalAuction" (65 : Nat) ({ cls := "NodalAuction$Grid", name := "add", desc := "(IIII)I" } : Jvm.MethodName) "NodalAuction") ∈ z_nest := z_inN 192 (by rfl) rfl
theorem k_194 : (Jvm.Cond.instanceMethod ({ cls := "NodalAuction$Grid", name := "add", desc := "(IIII)I" } : Jvm.MethodName)) ∈ z_good := z_in 194 (by rfl) rfl
theorem k_195 : (Jvm.Cond.code ({ cls := "NodalAuction$Grid", name := "add", desc := "(IIII)I" } : Jvm.MethodName) prog_3_method_4_code (5 : Nat) (Option.some Jvm.ClassFile.FieldType.int)) ∈ z_good := z_in 195 (by rfl) rfl
theorem k_196 : (Jvm.Cond.constant "NodalAuction$Grid" (40 : Nat) (-2147483648 : Int32)) ∈ z_good := z_in 196 (by rfl) rfl
theorem k_197 : (Jvm.Cond.methodLink "NodalAuctionLaw" (18 : Nat) ({ cls := "NodalAuction", name := "limit", desc := "(II)Z" } : Jvm.MethodName)) ∈ z_good := z_in 197 (by rfl) rfl
theorem k_198 : (Jvm.Cond.instanceMethod ({ cls := "NodalAuction", name := "limit", desc := "(II)Z" } : Jvm.MethodName)) ∈ z_good := z_in 198 (by rfl) rfl
theorem k_199 : (Jvm.Cond.selects "NodalAuction" ({ cls := "NodalAuction", name := "limit", desc := "(II)Z" } : Jvm.MethodName) ({ cls := "NodalAuction", name := "limit", desc := "(II)Z" } : Jvm.MethodName)) ∈ z_good := z_in 199 (by rfl) rfl
theorem k_200 : (Jvm.Cond.code ({ cls := "NodalAuction", name := "limit", desc := "(II)Z" } : Jvm.MethodName) prog_1_method_3_code (3 : Nat) (Option.some Jvm.ClassFile.FieldType.boolean)) ∈ z_good := z_in 200 (by rfl) rfl
theorem k_201 : (Jvm.Cond.methodLinkNest "NodalAuction" (69 : Nat) ({ cls := "NodalAuction$Grid", name := "has", desc := "(I)Z" } : Jvm.MethodName) "NodalAuction") ∈ z_nest := z_inN 201 (by rfl) rfl
theorem k_203 : (Jvm.Cond.instanceMethod ({ cls := "NodalAuction$Grid", name := "has", desc := "(I)Z" } : Jvm.MethodName)) ∈ z_good := z_in 203 (by rfl) rfl
theorem k_204 : (Jvm.Cond.code ({ cls := "NodalAuction$Grid", name := "has", desc := "(I)Z" } : Jvm.MethodName) prog_3_method_2_code (2 : Nat) (Option.some Jvm.ClassFile.FieldType.boolean)) ∈ z_good := z_in 204 (by rfl) rfl
theorem k_205 : (Jvm.Cond.methodLink "NodalAuctionLaw" (23 : Nat) ({ cls := "NodalAuction", name := "cut", desc := "(I)Z" } : Jvm.MethodName)) ∈ z_good := z_in 205 (by rfl) rfl
theorem k_206 : (Jvm.Cond.instanceMethod ({ cls := "NodalAuction", name := "cut", desc := "(I)Z" } : Jvm.MethodName)) ∈ z_good := z_in 206 (by rfl) rfl
theorem k_207 : (Jvm.Cond.selects "NodalAuction" ({ cls := "NodalAuction", name := "cut", desc := "(I)Z" } : Jvm.MethodName) ({ cls := "NodalAuction", name := "cut", desc := "(I)Z" } : Jvm.MethodName)) ∈ z_good := z_in 207 (by rfl) rfl
theorem k_208 : (Jvm.Cond.code ({ cls := "NodalAuction", name := "cut", desc := "(I)Z" } : Jvm.MethodName) prog_1_method_4_code (2 : Nat) (Option.some Jvm.ClassFile.FieldType.boolean)) ∈ z_good := z_in 208 (by rfl) rfl
theorem k_209 : (Jvm.Cond.methodLinkNest "NodalAuction" (75 : Nat) ({ cls := "NodalAuction$Grid", name := "remove", desc := "(I)V" } : Jvm.MethodName) "NodalAuction") ∈ z_nest := z_inN 209 (by rfl) rfl
theorem k_211 : (Jvm.Cond.instanceMethod ({ cls := "NodalAuction$Grid", name := "remove", desc := "(I)V" } : Jvm.MethodName)) ∈ z_good := z_in 211 (by rfl) rfl
theorem k_212 : (Jvm.Cond.code ({ cls := "NodalAuction$Grid", name := "remove", desc := "(I)V" } : Jvm.MethodName) prog_3_method_5_code (3 : Nat) (Option.none : Option Jvm.ClassFile.FieldType)) ∈ z_good := z_in 212 (by rfl) rfl
theorem k_213 : (Jvm.Cond.methodLink "NodalAuctionLaw" (28 : Nat) ({ cls := "NodalAuction", name := "bid", desc := "(III)I" } : Jvm.MethodName)) ∈ z_good := z_in 213 (by rfl) rfl
theorem k_214 : (Jvm.Cond.instanceMethod ({ cls := "NodalAuction", name := "bid", desc := "(III)I" } : Jvm.MethodName)) ∈ z_good := z_in 214 (by rfl) rfl
theorem k_215 : (Jvm.Cond.selects "NodalAuction" ({ cls := "NodalAuction", name := "bid", desc := "(III)I" } : Jvm.MethodName) ({ cls := "NodalAuction", name := "bid", desc := "(III)I" } : Jvm.MethodName)) ∈ z_good := z_in 215 (by rfl) rfl
theorem k_216 : (Jvm.Cond.code ({ cls := "NodalAuction", name := "bid", desc := "(III)I" } : Jvm.MethodName) prog_1_method_5_code (4 : Nat) (Option.some Jvm.ClassFile.FieldType.int)) ∈ z_good := z_in 216 (by rfl) rfl
theorem k_217 : (Jvm.Cond.methodLink "NodalAuction" (79 : Nat) ({ cls := "NodalAuction", name := "addStep", desc := "(IIII)I" } : Jvm.MethodName)) ∈ z_good := z_in 217 (by rfl) rfl
theorem k_219 : (Jvm.Cond.instanceMethod ({ cls := "NodalAuction", name := "addStep", desc := "(IIII)I" } : Jvm.MethodName)) ∈ z_good := z_in 219 (by rfl) rfl
theorem k_220 : (Jvm.Cond.code ({ cls := "NodalAuction", name := "addStep", desc := "(IIII)I" } : Jvm.MethodName) prog_1_method_23_code (5 : Nat) (Option.some Jvm.ClassFile.FieldType.int)) ∈ z_good := z_in 220 (by rfl) rfl
theorem k_221 : (Jvm.Cond.methodLinkNest "NodalAuction" (154 : Nat) ({ cls := "NodalAuction$Book", name := "add", desc := "(IIII)I" } : Jvm.MethodName) "NodalAuction") ∈ z_nest := z_inN 221 (by rfl) rfl
theorem k_223 : (Jvm.Cond.instanceMethod ({ cls := "NodalAuction$Book", name := "add", desc := "(IIII)I" } : Jvm.MethodName)) ∈ z_good := z_in 223 (by rfl) rfl
theorem k_224 : (Jvm.Cond.code ({ cls := "NodalAuction$Book", name := "add", desc := "(IIII)I" } : Jvm.MethodName) prog_2_method_3_code (5 : Nat) (Option.some Jvm.ClassFile.FieldType.int)) ∈ z_good := z_in 224 (by rfl) rfl
theorem k_225 : (Jvm.Cond.constant "NodalAuction$Book" (28 : Nat) (-2147483648 : Int32)) ∈ z_good := z_in 225 (by rfl) rfl
theorem k_226 : (Jvm.Cond.methodLink "NodalAuctionLaw" (33 : Nat) ({ cls := "NodalAuction", name := "offer", desc := "(III)I" } : Jvm.MethodName)) ∈ z_good := z_in 226 (by rfl) rfl
theorem k_227 : (Jvm.Cond.instanceMethod ({ cls := "NodalAuction", name := "offer", desc := "(III)I" } : Jvm.MethodName)) ∈ z_good := z_in 227 (by rfl) rfl
theorem k_228 : (Jvm.Cond.selects "NodalAuction" ({ cls := "NodalAuction", name := "offer", desc := "(III)I" } : Jvm.MethodName) ({ cls := "NodalAuction", name := "offer", desc := "(III)I" } : Jvm.MethodName)) ∈ z_good := z_in 228 (by rfl) rfl
theorem k_229 : (Jvm.Cond.code ({ cls := "NodalAuction", name := "offer", desc := "(III)I" } : Jvm.MethodName) prog_1_method_6_code (4 : Nat) (Option.some Jvm.ClassFile.FieldType.int)) ∈ z_good := z_in 229 (by rfl) rfl
theorem k_230 : (Jvm.Cond.methodLink "NodalAuctionLaw" (37 : Nat) ({ cls := "NodalAuction", name := "cancel", desc := "(I)Z" } : Jvm.MethodName)) ∈ z_good := z_in 230 (by rfl) rfl
theorem k_231 : (Jvm.Cond.instanceMethod ({ cls := "NodalAuction", name := "cancel", desc := "(I)Z" } : Jvm.MethodName)) ∈ z_good := z_in 231 (by rfl) rfl
theorem k_232 : (Jvm.Cond.selects "NodalAuction" ({ cls := "NodalAuction", name := "cancel", desc := "(I)Z" } : Jvm.MethodName) ({ cls := "NodalAuction", name := "cancel", desc := "(I)Z" } : Jvm.MethodName)) ∈ z_good := z_in 232 (by rfl) rfl
theorem k_233 : (Jvm.Cond.code ({ cls := "NodalAuction", name := "cancel", desc := "(I)Z" } : Jvm.MethodName) prog_1_method_7_code (2 : Nat) (Option.some Jvm.ClassFile.FieldType.boolean)) ∈ z_good := z_in 233 (by rfl) rfl
theorem k_234 : (Jvm.Cond.methodLinkNest "NodalAuction" (82 : Nat) ({ cls := "NodalAuction$Book", name := "has", desc := "(I)Z" } : Jvm.MethodName) "NodalAuction") ∈ z_nest := z_inN 234 (by rfl) rfl
theorem k_236 : (Jvm.Cond.instanceMethod ({ cls := "NodalAuction$Book", name := "has", desc := "(I)Z" } : Jvm.MethodName)) ∈ z_good := z_in 236 (by rfl) rfl
theorem k_237 : (Jvm.Cond.code ({ cls := "NodalAuction$Book", name := "has", desc := "(I)Z" } : Jvm.MethodName) prog_2_method_2_code (2 : Nat) (Option.some Jvm.ClassFile.FieldType.boolean)) ∈ z_good := z_in 237 (by rfl) rfl
theorem k_238 : (Jvm.Cond.methodLinkNest "NodalAuction" (83 : Nat) ({ cls := "NodalAuction$Book", name := "remove", desc := "(I)V" } : Jvm.MethodName) "NodalAuction") ∈ z_nest := z_inN 238 (by rfl) rfl
theorem k_240 : (Jvm.Cond.instanceMethod ({ cls := "NodalAuction$Book", name := "remove", desc := "(I)V" } : Jvm.MethodName)) ∈ z_good := z_in 240 (by rfl) rfl
theorem k_241 : (Jvm.Cond.code ({ cls := "NodalAuction$Book", name := "remove", desc := "(I)V" } : Jvm.MethodName) prog_2_method_4_code (3 : Nat) (Option.none : Option Jvm.ClassFile.FieldType)) ∈ z_good := z_in 241 (by rfl) rfl
theorem k_242 : (Jvm.Cond.methodLink "NodalAuctionLaw" (41 : Nat) ({ cls := "NodalAuction", name := "clear", desc := "()I" } : Jvm.MethodName)) ∈ z_good := z_in 242 (by rfl) rfl
theorem k_243 : (Jvm.Cond.instanceMethod ({ cls := "NodalAuction", name := "clear", desc := "()I" } : Jvm.MethodName)) ∈ z_good := z_in 243 (by rfl) rfl
theorem k_244 : (Jvm.Cond.selects "NodalAuction" ({ cls := "NodalAuction", name := "clear", desc := "()I" } : Jvm.MethodName) ({ cls := "NodalAuction", name := "clear", desc := "()I" } : Jvm.MethodName)) ∈ z_good := z_in 244 (by rfl) rfl
theorem k_245 : (Jvm.Cond.code ({ cls := "NodalAuction", name := "clear", desc := "()I" } : Jvm.MethodName) prog_1_method_8_code (2 : Nat) (Option.some Jvm.ClassFile.FieldType.int)) ∈ z_good := z_in 245 (by rfl) rfl
theorem k_246 : (Jvm.Cond.methodLinkNest "NodalAuction" (84 : Nat) ({ cls := "NodalAuction$Program", name := "load", desc := "(LNodalAuction$Grid;LNodalAuction$Book;II)Z" } : Jvm.MethodName) "NodalAuction") ∈ z_nest := z_inN 246 (by rfl) rfl
theorem k_248 : (Jvm.Cond.instanceMethod ({ cls := "NodalAuction$Program", name := "load", desc := "(LNodalAuction$Grid;LNodalAuction$Book;II)Z" } : Jvm.MethodName)) ∈ z_good := z_in 248 (by rfl) rfl
theorem k_249 : (Jvm.Cond.code ({ cls := "NodalAuction$Program", name := "load", desc := "(LNodalAuction$Grid;LNodalAuction$Book;II)Z" } : Jvm.MethodName) prog_5_method_2_code (7 : Nat) (Option.some Jvm.ClassFile.FieldType.boolean)) ∈ z_good := z_in 249 (by rfl) rfl
theorem k_250 : (Jvm.Cond.methodLinkNest "NodalAuction$Program" (47 : Nat) ({ cls := "NodalAuction$Grid", name := "ground", desc := "(I)V" } : Jvm.MethodName) "NodalAuction") ∈ z_nest := z_inN 250 (by rfl) rfl
theorem k_252 : (Jvm.Cond.instanceMethod ({ cls := "NodalAuction$Grid", name := "ground", desc := "(I)V" } : Jvm.MethodName)) ∈ z_good := z_in 252 (by rfl) rfl
theorem k_253 : (Jvm.Cond.code ({ cls := "NodalAuction$Grid", name := "ground", desc := "(I)V" } : Jvm.MethodName) prog_3_method_6_code (4 : Nat) (Option.none : Option Jvm.ClassFile.FieldType)) ∈ z_good := z_in 253 (by rfl) rfl
theorem k_254 : (Jvm.Cond.methodLink "NodalAuction$Grid" (41 : Nat) ({ cls := "NodalAuction$Grid", name := "weighNodes", desc := "()V" } : Jvm.MethodName)) ∈ z_good := z_in 254 (by rfl) rfl
theorem k_256 : (Jvm.Cond.instanceMethod ({ cls := "NodalAuction$Grid", name := "weighNodes", desc := "()V" } : Jvm.MethodName)) ∈ z_good := z_in 256 (by rfl) rfl
theorem k_257 : (Jvm.Cond.code ({ cls := "NodalAuction$Grid", name := "weighNodes", desc := "()V" } : Jvm.MethodName) prog_3_method_7_code (4 : Nat) (Option.none : Option Jvm.ClassFile.FieldType)) ∈ z_good := z_in 257 (by rfl) rfl
theorem k_258 : (Jvm.Cond.methodLink "NodalAuction$Grid" (44 : Nat) ({ cls := "NodalAuction$Grid", name := "beside", desc := "(II)I" } : Jvm.MethodName)) ∈ z_good := z_in 258 (by rfl) rfl
theorem k_259 : (Jvm.Cond.static ({ cls := "NodalAuction$Grid", name := "beside", desc := "(II)I" } : Jvm.MethodName)) ∈ z_good := z_in 259 (by rfl) rfl
theorem k_260 : (Jvm.Cond.code ({ cls := "NodalAuction$Grid", name := "beside", desc := "(II)I" } : Jvm.MethodName) prog_3_method_8_code (2 : Nat) (Option.some Jvm.ClassFile.FieldType.int)) ∈ z_good := z_in 260 (by rfl) rfl
theorem k_261 : (Jvm.Cond.methodLink "NodalAuction$Grid" (48 : Nat) ({ cls := "NodalAuction$Grid", name := "cofactor", desc := "(III)J" } : Jvm.MethodName)) ∈ z_good := z_in 261 (by rfl) rfl
theorem k_263 : (Jvm.Cond.instanceMethod ({ cls := "NodalAuction$Grid", name := "cofactor", desc := "(III)J" } : Jvm.MethodName)) ∈ z_good := z_in 263 (by rfl) rfl
theorem k_264 : (Jvm.Cond.code ({ cls := "NodalAuction$Grid", name := "cofactor", desc := "(III)J" } : Jvm.MethodName) prog_3_method_9_code (8 : Nat) (Option.some Jvm.ClassFile.FieldType.long)) ∈ z_good := z_in 264 (by rfl) rfl
theorem k_265 : (Jvm.Cond.methodLink "NodalAuction$Program" (65 : Nat) ({ cls := "NodalAuction$Program", name := "placeRow", desc := "(IIII)V" } : Jvm.MethodName)) ∈ z_good := z_in 265 (by rfl) rfl
theorem k_267 : (Jvm.Cond.instanceMethod ({ cls := "NodalAuction$Program", name := "placeRow", desc := "(IIII)V" } : Jvm.MethodName)) ∈ z_good := z_in 267 (by rfl) rfl
theorem k_268 : (Jvm.Cond.code ({ cls := "NodalAuction$Program", name := "placeRow", desc := "(IIII)V" } : Jvm.MethodName) prog_5_method_3_code (5 : Nat) (Option.none : Option Jvm.ClassFile.FieldType)) ∈ z_good := z_in 268 (by rfl) rfl
theorem k_269 : (Jvm.Cond.methodLink "NodalAuction$Program" (72 : Nat) ({ cls := "NodalAuction$Program", name := "placeColumn", desc := "(II)V" } : Jvm.MethodName)) ∈ z_good := z_in 269 (by rfl) rfl
theorem k_271 : (Jvm.Cond.instanceMethod ({ cls := "NodalAuction$Program", name := "placeColumn", desc := "(II)V" } : Jvm.MethodName)) ∈ z_good := z_in 271 (by rfl) rfl
theorem k_272 : (Jvm.Cond.code ({ cls := "NodalAuction$Program", name := "placeColumn", desc := "(II)V" } : Jvm.MethodName) prog_5_method_4_code (3 : Nat) (Option.none : Option Jvm.ClassFile.FieldType)) ∈ z_good := z_in 272 (by rfl) rfl
theorem k_273 : (Jvm.Cond.methodLinkNest "NodalAuction$Program" (82 : Nat) ({ cls := "NodalAuction$Grid", name := "share", desc := "(II)J" } : Jvm.MethodName) "NodalAuction") ∈ z_nest := z_inN 273 (by rfl) rfl
theorem k_275 : (Jvm.Cond.instanceMethod ({ cls := "NodalAuction$Grid", name := "share", desc := "(II)J" } : Jvm.MethodName)) ∈ z_good := z_in 275 (by rfl) rfl
theorem k_276 : (Jvm.Cond.code ({ cls := "NodalAuction$Grid", name := "share", desc := "(II)J" } : Jvm.MethodName) prog_3_method_10_code (3 : Nat) (Option.some Jvm.ClassFile.FieldType.long)) ∈ z_good := z_in 276 (by rfl) rfl
theorem k_277 : (Jvm.Cond.methodLinkNest "NodalAuction" (88 : Nat) ({ cls := "NodalAuction$Program", name := "maximise", desc := "(I)V" } : Jvm.MethodName) "NodalAuction") ∈ z_nest := z_inN 277 (by rfl) rfl
theorem k_279 : (Jvm.Cond.instanceMethod ({ cls := "NodalAuction$Program", name := "maximise", desc := "(I)V" } : Jvm.MethodName)) ∈ z_good := z_in 279 (by rfl) rfl
theorem k_280 : (Jvm.Cond.code ({ cls := "NodalAuction$Program", name := "maximise", desc := "(I)V" } : Jvm.MethodName) prog_5_method_5_code (5 : Nat) (Option.none : Option Jvm.ClassFile.FieldType)) ∈ z_good := z_in 280 (by rfl) rfl
theorem k_281 : (Jvm.Cond.constant "NodalAuction$Program" (89 : Nat) (1000000 : Int32)) ∈ z_good := z_in 281 (by rfl) rfl
theorem k_282 : (Jvm.Cond.methodLink "NodalAuction$Program" (90 : Nat) ({ cls := "NodalAuction$Program", name := "rowOf", desc := "(I)I" } : Jvm.MethodName)) ∈ z_good := z_in 282 (by rfl) rfl
theorem k_284 : (Jvm.Cond.instanceMethod ({ cls := "NodalAuction$Program", name := "rowOf", desc := "(I)I" } : Jvm.MethodName)) ∈ z_good := z_in 284 (by rfl) rfl
theorem k_285 : (Jvm.Cond.code ({ cls := "NodalAuction$Program", name := "rowOf", desc := "(I)I" } : Jvm.MethodName) prog_5_method_8_code (3 : Nat) (Option.some Jvm.ClassFile.FieldType.int)) ∈ z_good := z_in 285 (by rfl) rfl
theorem k_286 : (Jvm.Cond.methodLink "NodalAuction$Program" (94 : Nat) ({ cls := "NodalAuction$Program", name := "firstGain", desc := "(II)I" } : Jvm.MethodName)) ∈ z_good := z_in 286 (by rfl) rfl
theorem k_288 : (Jvm.Cond.instanceMethod ({ cls := "NodalAuction$Program", name := "firstGain", desc := "(II)I" } : Jvm.MethodName)) ∈ z_good := z_in 288 (by rfl) rfl
theorem k_289 : (Jvm.Cond.code ({ cls := "NodalAuction$Program", name := "firstGain", desc := "(II)I" } : Jvm.MethodName) prog_5_method_10_code (6 : Nat) (Option.some Jvm.ClassFile.FieldType.int)) ∈ z_good := z_in 289 (by rfl) rfl
theorem k_290 : (Jvm.Cond.methodLink "NodalAuction$Program" (98 : Nat) ({ cls := "NodalAuction$Program", name := "gain", desc := "(III)J" } : Jvm.MethodName)) ∈ z_good := z_in 290 (by rfl) rfl
theorem k_292 : (Jvm.Cond.instanceMethod ({ cls := "NodalAuction$Program", name := "gain", desc := "(III)J" } : Jvm.MethodName)) ∈ z_good := z_in 292 (by rfl) rfl
theorem k_293 : (Jvm.Cond.code ({ cls := "NodalAuction$Program", name := "gain", desc := "(III)J" } : Jvm.MethodName) prog_5_method_9_code (4 : Nat) (Option.some Jvm.ClassFile.FieldType.long)) ∈ z_good := z_in 293 (by rfl) rfl
theorem k_294 : (Jvm.Cond.methodLink "NodalAuction$Program" (110 : Nat) ({ cls := "NodalAuction$Program", name := "canMove", desc := "(IJ)Z" } : Jvm.MethodName)) ∈ z_good := z_in 294 (by rfl) rfl
theorem k_296 : (Jvm.Cond.instanceMethod ({ cls := "NodalAuction$Program", name := "canMove", desc := "(IJ)Z" } : Jvm.MethodName)) ∈ z_good := z_in 296 (by rfl) rfl
theorem k_297 : (Jvm.Cond.code ({ cls := "NodalAuction$Program", name := "canMove", desc := "(IJ)Z" } : Jvm.MethodName) prog_5_method_11_code (4 : Nat) (Option.some Jvm.ClassFile.FieldType.boolean)) ∈ z_good := z_in 297 (by rfl) rfl
theorem k_298 : (Jvm.Cond.methodLink "NodalAuction$Program" (102 : Nat) ({ cls := "NodalAuction$Program", name := "advance", desc := "(IZ)V" } : Jvm.MethodName)) ∈ z_good := z_in 298 (by rfl) rfl
theorem k_300 : (Jvm.Cond.instanceMethod ({ cls := "NodalAuction$Program", name := "advance", desc := "(IZ)V" } : Jvm.MethodName)) ∈ z_good := z_in 300 (by rfl) rfl
set_option maxRecDepth 20000 in
theorem k_301 : (Jvm.Cond.code ({ cls := "NodalAuction$Program", name := "advance", desc := "(IZ)V" } : Jvm.MethodName) prog_5_method_12_code (19 : Nat) (Option.none : Option Jvm.ClassFile.FieldType)) ∈ z_good := z_in 301 (by rfl) rfl
set_option maxRecDepth 20000 in
theorem k_302 : (Jvm.Cond.methodLink "NodalAuction$Program" (114 : Nat) ({ cls := "NodalAuction$Program", name := "roomOf", desc := "(IZ)J" } : Jvm.MethodName)) ∈ z_good := z_in 302 (by rfl) rfl
set_option maxRecDepth 20000 in
theorem k_304 : (Jvm.Cond.instanceMethod ({ cls := "NodalAuction$Program", name := "roomOf", desc := "(IZ)J" } : Jvm.MethodName)) ∈ z_good := z_in 304 (by rfl) rfl
set_option maxRecDepth 20000 in
theorem k_305 : (Jvm.Cond.code ({ cls := "NodalAuction$Program", name := "roomOf", desc := "(IZ)J" } : Jvm.MethodName) prog_5_method_13_code (6 : Nat) (Option.some Jvm.ClassFile.FieldType.long)) ∈ z_good := z_in 305 (by rfl) rfl
set_option maxRecDepth 20000 in
theorem k_306 : (Jvm.Cond.methodLink "NodalAuction$Program" (106 : Nat) ({ cls := "NodalAuction$Program", name := "rowTop", desc := "(I)J" } : Jvm.MethodName)) ∈ z_good := z_in 306 (by rfl) rfl
set_option maxRecDepth 20000 in
theorem k_308 : (Jvm.Cond.instanceMethod ({ cls := "NodalAuction$Program", name := "rowTop", desc := "(I)J" } : Jvm.MethodName)) ∈ z_good := z_in 308 (by rfl) rfl
set_option maxRecDepth 20000 in
theorem k_309 : (Jvm.Cond.code ({ cls := "NodalAuction$Program", name := "rowTop", desc := "(I)J" } : Jvm.MethodName) prog_5_method_7_code (5 : Nat) (Option.some Jvm.ClassFile.FieldType.long)) ∈ z_good := z_in 309 (by rfl) rfl
set_option maxRecDepth 20000 in
theorem k_310 : (Jvm.Cond.methodLink "NodalAuction$Program" (118 : Nat) ({ cls := "java/lang/Math", name := "abs", desc := "(J)J" } : Jvm.MethodName)) ∈ z_good := z_in 310 (by rfl) rfl
set_option maxRecDepth 20000 in
theorem k_311 : (Jvm.Cond.static ({ cls := "java/lang/Math", name := "abs", desc := "(J)J" } : Jvm.MethodName)) ∈ z_good := z_in 311 (by rfl) rfl
set_option maxRecDepth 20000 in
theorem k_312 : (Jvm.Cond.code ({ cls := "java/lang/Math", name := "abs", desc := "(J)J" } : Jvm.MethodName) prog_8_method_61_code (2 : Nat) (Option.some Jvm.ClassFile.FieldType.long)) ∈ z_good := z_in 312 (by rfl) rfl
set_option maxRecDepth 20000 in
theorem k_313 : (Jvm.Cond.methodLink "NodalAuction$Program" (124 : Nat) ({ cls := "NodalAuction$Program", name := "pivot", desc := "(II)V" } : Jvm.MethodName)) ∈ z_good := z_in 313 (by rfl) rfl
set_option maxRecDepth 20000 in
theorem k_315 : (Jvm.Cond.instanceMethod ({ cls := "NodalAuction$Program", name := "pivot", desc := "(II)V" } : Jvm.MethodName)) ∈ z_good := z_in 315 (by rfl) rfl
set_option maxRecDepth 20000 in
theorem k_316 : (Jvm.Cond.code ({ cls := "NodalAuction$Program", name := "pivot", desc := "(II)V" } : Jvm.MethodName) prog_5_method_14_code (8 : Nat) (Option.none : Option Jvm.ClassFile.FieldType)) ∈ z_good := z_in 316 (by rfl) rfl
set_option maxRecDepth 20000 in
theorem k_317 : (Jvm.Cond.constantLong "NodalAuction$Program" (127 : Nat) (-1 : Int64)) ∈ z_good := z_in 317 (by rfl) rfl
set_option maxRecDepth 20000 in
theorem k_318 : (Jvm.Cond.methodLink "NodalAuction$Program" (129 : Nat) ({ cls := "NodalAuction$Program", name := "replaceRow", desc := "(III)V" } : Jvm.MethodName)) ∈ z_good := z_in 318 (by rfl) rfl
set_option maxRecDepth 20000 in
theorem k_320 : (Jvm.Cond.instanceMethod ({ cls := "NodalAuction$Program", name := "replaceRow", desc := "(III)V" } : Jvm.MethodName)) ∈ z_good := z_in 320 (by rfl) rfl
set_option maxRecDepth 20000 in
theorem k_321 : (Jvm.Cond.code ({ cls := "NodalAuction$Program", name := "replaceRow", desc := "(III)V" } : Jvm.MethodName) prog_5_method_15_code (11 : Nat) (Option.none : Option Jvm.ClassFile.FieldType)) ∈ z_good := z_in 321 (by rfl) rfl
theorem k_322 : (Jvm.Cond.methodLinkNest "NodalAuction" (92 : Nat) ({ cls := "NodalAuction$Outcome", name := "take", desc := "(LNodalAuction$Program;LNodalAuction$Grid;LNodalAuction$Book;)V" } : Jvm.MethodName) "NodalAuction") ∈ z_nest := z_inN 322 (by rfl) rfl
set_option maxRecDepth 20000 in
theorem k_324 : (Jvm.Cond.instanceMethod ({ cls := "NodalAuction$Outcome", name := "take", desc := "(LNodalAuction$Program;LNodalAuction$Grid;LNodalAuction$Book;)V" } : Jvm.MethodName)) ∈ z_good := z_in 324 (by rfl) rfl
set_option maxRecDepth 20000 in
theorem k_325 : (Jvm.Cond.code ({ cls := "NodalAuction$Outcome", name := "take", desc := "(LNodalAuction$Program;LNodalAuction$Grid;LNodalAuction$Book;)V" } : Jvm.MethodName) prog_4_method_2_code (7 : Nat) (Option.none : Option Jvm.ClassFile.FieldType)) ∈ z_good := z_in 325 (by rfl) rfl
theorem k_326 : (Jvm.Cond.methodLinkNest "NodalAuction$Outcome" (40 : Nat) ({ cls := "NodalAuction$Program", name := "top", desc := "(I)J" } : Jvm.MethodName) "NodalAuction") ∈ z_nest := z_inN 326 (by rfl) rfl
set_option maxRecDepth 20000 in
theorem k_328 : (Jvm.Cond.instanceMethod ({ cls := "NodalAuction$Program", name := "top", desc := "(I)J" } : Jvm.MethodName)) ∈ z_good := z_in 328 (by rfl) rfl
set_option maxRecDepth 20000 in
theorem k_329 : (Jvm.Cond.code ({ cls := "NodalAuction$Program", name := "top", desc := "(I)J" } : Jvm.MethodName) prog_5_method_6_code (3 : Nat) (Option.some Jvm.ClassFile.FieldType.long)) ∈ z_good := z_in 329 (by rfl) rfl
theorem k_330 : (Jvm.Cond.methodLinkNest "NodalAuction$Outcome" (44 : Nat) ({ cls := "NodalAuction", name := "commonDivisor", desc := "(JJ)J" } : Jvm.MethodName) "NodalAuction") ∈ z_nest := z_inN 330 (by rfl) rfl
set_option maxRecDepth 20000 in
theorem k_331 : (Jvm.Cond.static ({ cls := "NodalAuction", name := "commonDivisor", desc := "(JJ)J" } : Jvm.MethodName)) ∈ z_good := z_in 331 (by rfl) rfl
set_option maxRecDepth 20000 in
theorem k_332 : (Jvm.Cond.code ({ cls := "NodalAuction", name := "commonDivisor", desc := "(JJ)J" } : Jvm.MethodName) prog_1_method_22_code (11 : Nat) (Option.some Jvm.ClassFile.FieldType.long)) ∈ z_good := z_in 332 (by rfl) rfl
set_option maxRecDepth 20000 in
theorem k_333 : (Jvm.Cond.methodLink "NodalAuction" (151 : Nat) ({ cls := "java/lang/Math", name := "abs", desc := "(J)J" } : Jvm.MethodName)) ∈ z_good := z_in 333 (by rfl) rfl
theorem k_334 : (Jvm.Cond.methodLinkNest "NodalAuction" (96 : Nat) ({ cls := "NodalAuction$Outcome", name := "taken", desc := "(I)I" } : Jvm.MethodName) "NodalAuction") ∈ z_nest := z_inN 334 (by rfl) rfl
set_option maxRecDepth 20000 in
theorem k_336 : (Jvm.Cond.instanceMethod ({ cls := "NodalAuction$Outcome", name := "taken", desc := "(I)I" } : Jvm.MethodName)) ∈ z_good := z_in 336 (by rfl) rfl
set_option maxRecDepth 20000 in
theorem k_337 : (Jvm.Cond.code ({ cls := "NodalAuction$Outcome", name := "taken", desc := "(I)I" } : Jvm.MethodName) prog_4_method_3_code (4 : Nat) (Option.some Jvm.ClassFile.FieldType.int)) ∈ z_good := z_in 337 (by rfl) rfl
set_option maxRecDepth 20000 in
theorem k_338 : (Jvm.Cond.methodLink "NodalAuctionLaw" (46 : Nat) ({ cls := "NodalAuction", name := "steps", desc := "()I" } : Jvm.MethodName)) ∈ z_good := z_in 338 (by rfl) rfl
set_option maxRecDepth 20000 in
theorem k_339 : (Jvm.Cond.instanceMethod ({ cls := "NodalAuction", name := "steps", desc := "()I" } : Jvm.MethodName)) ∈ z_good := z_in 339 (by rfl) rfl
set_option maxRecDepth 20000 in
theorem k_340 : (Jvm.Cond.selects "NodalAuction" ({ cls := "NodalAuction", name := "steps", desc := "()I" } : Jvm.MethodName) ({ cls := "NodalAuction", name := "steps", desc := "()I" } : Jvm.MethodName)) ∈ z_good := z_in 340 (by rfl) rfl
set_option maxRecDepth 20000 in
theorem k_341 : (Jvm.Cond.code ({ cls := "NodalAuction", name := "steps", desc := "()I" } : Jvm.MethodName) prog_1_method_9_code (1 : Nat) (Option.some Jvm.ClassFile.FieldType.int)) ∈ z_good := z_in 341 (by rfl) rfl
set_option maxRecDepth 20000 in
theorem k_342 : (Jvm.Cond.methodLink "NodalAuctionLaw" (50 : Nat) ({ cls := "NodalAuction", name := "lines", desc := "()I" } : Jvm.MethodName)) ∈ z_good := z_in 342 (by rfl) rfl
set_option maxRecDepth 20000 in
theorem k_343 : (Jvm.Cond.instanceMethod ({ cls := "NodalAuction", name := "lines", desc := "()I" } : Jvm.MethodName)) ∈ z_good := z_in 343 (by rfl) rfl
set_option maxRecDepth 20000 in
theorem k_344 : (Jvm.Cond.selects "NodalAuction" ({ cls := "NodalAuction", name := "lines", desc := "()I" } : Jvm.MethodName) ({ cls := "NodalAuction", name := "lines", desc := "()I" } : Jvm.MethodName)) ∈ z_good := z_in 344 (by rfl) rfl
set_option maxRecDepth 20000 in
theorem k_345 : (Jvm.Cond.code ({ cls := "NodalAuction", name := "lines", desc := "()I" } : Jvm.MethodName) prog_1_method_10_code (1 : Nat) (Option.some Jvm.ClassFile.FieldType.int)) ∈ z_good := z_in 345 (by rfl) rfl
set_option maxRecDepth 20000 in
theorem k_346 : (Jvm.Cond.methodLink "NodalAuctionLaw" (54 : Nat) ({ cls := "NodalAuction", name := "scale", desc := "()I" } : Jvm.MethodName)) ∈ z_good := z_in 346 (by rfl) rfl
set_option maxRecDepth 20000 in
theorem k_347 : (Jvm.Cond.instanceMethod ({ cls := "NodalAuction", name := "scale", desc := "()I" } : Jvm.MethodName)) ∈ z_good := z_in 347 (by rfl) rfl
set_option maxRecDepth 20000 in
theorem k_348 : (Jvm.Cond.selects "NodalAuction" ({ cls := "NodalAuction", name := "scale", desc := "()I" } : Jvm.MethodName) ({ cls := "NodalAuction", name := "scale", desc := "()I" } : Jvm.MethodName)) ∈ z_good := z_in 348 (by rfl) rfl
set_option maxRecDepth 20000 in
theorem k_349 : (Jvm.Cond.code ({ cls := "NodalAuction", name := "scale", desc := "()I" } : Jvm.MethodName) prog_1_method_11_code (1 : Nat) (Option.some Jvm.ClassFile.FieldType.int)) ∈ z_good := z_in 349 (by rfl) rfl
set_option maxRecDepth 20000 in
theorem k_350 : (Jvm.Cond.methodLink "NodalAuctionLaw" (58 : Nat) ({ cls := "NodalAuction", name := "accepted", desc := "(I)I" } : Jvm.MethodName)) ∈ z_good := z_in 350 (by rfl) rfl
set_option maxRecDepth 20000 in
theorem k_351 : (Jvm.Cond.instanceMethod ({ cls := "NodalAuction", name := "accepted", desc := "(I)I" } : Jvm.MethodName)) ∈ z_good := z_in 351 (by rfl) rfl
set_option maxRecDepth 20000 in
theorem k_352 : (Jvm.Cond.selects "NodalAuction" ({ cls := "NodalAuction", name := "accepted", desc := "(I)I" } : Jvm.MethodName) ({ cls := "NodalAuction", name := "accepted", desc := "(I)I" } : Jvm.MethodName)) ∈ z_good := z_in 352 (by rfl) rfl
set_option maxRecDepth 20000 in
theorem k_353 : (Jvm.Cond.code ({ cls := "NodalAuction", name := "accepted", desc := "(I)I" } : Jvm.MethodName) prog_1_method_12_code (2 : Nat) (Option.some Jvm.ClassFile.FieldType.int)) ∈ z_good := z_in 353 (by rfl) rfl
set_option maxRecDepth 20000 in
theorem k_354 : (Jvm.Cond.methodLink "NodalAuctionLaw" (63 : Nat) ({ cls := "NodalAuction", name := "flow", desc := "(I)I" } : Jvm.MethodName)) ∈ z_good := z_in 354 (by rfl) rfl
set_option maxRecDepth 20000 in
theorem k_355 : (Jvm.Cond.instanceMethod ({ cls := "NodalAuction", name := "flow", desc := "(I)I" } : Jvm.MethodName)) ∈ z_good := z_in 355 (by rfl) rfl
set_option maxRecDepth 20000 in
theorem k_356 : (Jvm.Cond.selects "NodalAuction" ({ cls := "NodalAuction", name := "flow", desc := "(I)I" } : Jvm.MethodName) ({ cls := "NodalAuction", name := "flow", desc := "(I)I" } : Jvm.MethodName)) ∈ z_good := z_in 356 (by rfl) rfl
set_option maxRecDepth 20000 in
theorem k_357 : (Jvm.Cond.code ({ cls := "NodalAuction", name := "flow", desc := "(I)I" } : Jvm.MethodName) prog_1_method_13_code (2 : Nat) (Option.some Jvm.ClassFile.FieldType.int)) ∈ z_good := z_in 357 (by rfl) rfl
set_option maxRecDepth 20000 in
theorem k_358 : (Jvm.Cond.methodLink "NodalAuctionLaw" (67 : Nat) ({ cls := "NodalAuction", name := "tight", desc := "()I" } : Jvm.MethodName)) ∈ z_good := z_in 358 (by rfl) rfl
set_option maxRecDepth 20000 in
theorem k_359 : (Jvm.Cond.instanceMethod ({ cls := "NodalAuction", name := "tight", desc := "()I" } : Jvm.MethodName)) ∈ z_good := z_in 359 (by rfl) rfl
set_option maxRecDepth 20000 in
theorem k_360 : (Jvm.Cond.selects "NodalAuction" ({ cls := "NodalAuction", name := "tight", desc := "()I" } : Jvm.MethodName) ({ cls := "NodalAuction", name := "tight", desc := "()I" } : Jvm.MethodName)) ∈ z_good := z_in 360 (by rfl) rfl
set_option maxRecDepth 20000 in
theorem k_361 : (Jvm.Cond.code ({ cls := "NodalAuction", name := "tight", desc := "()I" } : Jvm.MethodName) prog_1_method_14_code (3 : Nat) (Option.some Jvm.ClassFile.FieldType.int)) ∈ z_good := z_in 361 (by rfl) rfl
set_option maxRecDepth 20000 in
theorem k_362 : (Jvm.Cond.methodLink "NodalAuction" (109 : Nat) ({ cls := "java/lang/Math", name := "abs", desc := "(I)I" } : Jvm.MethodName)) ∈ z_good := z_in 362 (by rfl) rfl
set_option maxRecDepth 20000 in
theorem k_363 : (Jvm.Cond.static ({ cls := "java/lang/Math", name := "abs", desc := "(I)I" } : Jvm.MethodName)) ∈ z_good := z_in 363 (by rfl) rfl
set_option maxRecDepth 20000 in
theorem k_364 : (Jvm.Cond.code ({ cls := "java/lang/Math", name := "abs", desc := "(I)I" } : Jvm.MethodName) prog_8_method_59_code (1 : Nat) (Option.some Jvm.ClassFile.FieldType.int)) ∈ z_good := z_in 364 (by rfl) rfl
set_option maxRecDepth 20000 in
theorem k_365 : (Jvm.Cond.methodLink "NodalAuctionLaw" (71 : Nat) ({ cls := "NodalAuction", name := "welfare", desc := "()J" } : Jvm.MethodName)) ∈ z_good := z_in 365 (by rfl) rfl
set_option maxRecDepth 20000 in
theorem k_366 : (Jvm.Cond.instanceMethod ({ cls := "NodalAuction", name := "welfare", desc := "()J" } : Jvm.MethodName)) ∈ z_good := z_in 366 (by rfl) rfl
set_option maxRecDepth 20000 in
theorem k_367 : (Jvm.Cond.selects "NodalAuction" ({ cls := "NodalAuction", name := "welfare", desc := "()J" } : Jvm.MethodName) ({ cls := "NodalAuction", name := "welfare", desc := "()J" } : Jvm.MethodName)) ∈ z_good := z_in 367 (by rfl) rfl
set_option maxRecDepth 20000 in
theorem k_368 : (Jvm.Cond.code ({ cls := "NodalAuction", name := "welfare", desc := "()J" } : Jvm.MethodName) prog_1_method_15_code (1 : Nat) (Option.some Jvm.ClassFile.FieldType.long)) ∈ z_good := z_in 368 (by rfl) rfl
set_option maxRecDepth 20000 in
theorem k_369 : (Jvm.Cond.constantLong "NodalAuction" (118 : Nat) (-1 : Int64)) ∈ z_good := z_in 369 (by rfl) rfl
set_option maxRecDepth 20000 in
theorem k_370 : (Jvm.Cond.methodLink "NodalAuctionLaw" (76 : Nat) ({ cls := "NodalAuction", name := "extraTop", desc := "(I)J" } : Jvm.MethodName)) ∈ z_good := z_in 370 (by rfl) rfl
set_option maxRecDepth 20000 in
theorem k_371 : (Jvm.Cond.instanceMethod ({ cls := "NodalAuction", name := "extraTop", desc := "(I)J" } : Jvm.MethodName)) ∈ z_good := z_in 371 (by rfl) rfl
set_option maxRecDepth 20000 in
theorem k_372 : (Jvm.Cond.selects "NodalAuction" ({ cls := "NodalAuction", name := "extraTop", desc := "(I)J" } : Jvm.MethodName) ({ cls := "NodalAuction", name := "extraTop", desc := "(I)J" } : Jvm.MethodName)) ∈ z_good := z_in 372 (by rfl) rfl
set_option maxRecDepth 20000 in
theorem k_373 : (Jvm.Cond.code ({ cls := "NodalAuction", name := "extraTop", desc := "(I)J" } : Jvm.MethodName) prog_1_method_16_code (4 : Nat) (Option.some Jvm.ClassFile.FieldType.long)) ∈ z_good := z_in 373 (by rfl) rfl
set_option maxRecDepth 20000 in
theorem k_374 : (Jvm.Cond.methodLink "NodalAuction" (120 : Nat) ({ cls := "NodalAuction", name := "addOneAt", desc := "(I)Z" } : Jvm.MethodName)) ∈ z_good := z_in 374 (by rfl) rfl
set_option maxRecDepth 20000 in
theorem k_376 : (Jvm.Cond.instanceMethod ({ cls := "NodalAuction", name := "addOneAt", desc := "(I)Z" } : Jvm.MethodName)) ∈ z_good := z_in 376 (by rfl) rfl
set_option maxRecDepth 20000 in
theorem k_377 : (Jvm.Cond.code ({ cls := "NodalAuction", name := "addOneAt", desc := "(I)Z" } : Jvm.MethodName) prog_1_method_24_code (2 : Nat) (Option.some Jvm.ClassFile.FieldType.boolean)) ∈ z_good := z_in 377 (by rfl) rfl
theorem k_378 : (Jvm.Cond.methodLinkNest "NodalAuction" (155 : Nat) ({ cls := "NodalAuction$Program", name := "top", desc := "(I)J" } : Jvm.MethodName) "NodalAuction") ∈ z_nest := z_inN 378 (by rfl) rfl
set_option maxRecDepth 20000 in
theorem k_379 : (Jvm.Cond.methodLink "NodalAuction" (123 : Nat) ({ cls := "NodalAuction", name := "costTop", desc := "()J" } : Jvm.MethodName)) ∈ z_good := z_in 379 (by rfl) rfl
set_option maxRecDepth 20000 in
theorem k_381 : (Jvm.Cond.instanceMethod ({ cls := "NodalAuction", name := "costTop", desc := "()J" } : Jvm.MethodName)) ∈ z_good := z_in 381 (by rfl) rfl
set_option maxRecDepth 20000 in
theorem k_382 : (Jvm.Cond.code ({ cls := "NodalAuction", name := "costTop", desc := "()J" } : Jvm.MethodName) prog_1_method_25_code (1 : Nat) (Option.some Jvm.ClassFile.FieldType.long)) ∈ z_good := z_in 382 (by rfl) rfl
set_option maxRecDepth 20000 in
theorem k_383 : (Jvm.Cond.methodLink "NodalAuction" (127 : Nat) ({ cls := "NodalAuction", name := "costBottom", desc := "()J" } : Jvm.MethodName)) ∈ z_good := z_in 383 (by rfl) rfl
set_option maxRecDepth 20000 in
theorem k_385 : (Jvm.Cond.instanceMethod ({ cls := "NodalAuction", name := "costBottom", desc := "()J" } : Jvm.MethodName)) ∈ z_good := z_in 385 (by rfl) rfl
set_option maxRecDepth 20000 in
theorem k_386 : (Jvm.Cond.code ({ cls := "NodalAuction", name := "costBottom", desc := "()J" } : Jvm.MethodName) prog_1_method_26_code (1 : Nat) (Option.some Jvm.ClassFile.FieldType.long)) ∈ z_good := z_in 386 (by rfl) rfl
set_option maxRecDepth 20000 in
theorem k_387 : (Jvm.Cond.methodLink "NodalAuction" (130 : Nat) ({ cls := "NodalAuction", name := "commonDivisor", desc := "(JJ)J" } : Jvm.MethodName)) ∈ z_good := z_in 387 (by rfl) rfl
set_option maxRecDepth 20000 in
theorem k_388 : (Jvm.Cond.methodLink "NodalAuctionLaw" (81 : Nat) ({ cls := "NodalAuction", name := "extraBottom", desc := "(I)I" } : Jvm.MethodName)) ∈ z_good := z_in 388 (by rfl) rfl
set_option maxRecDepth 20000 in
theorem k_389 : (Jvm.Cond.instanceMethod ({ cls := "NodalAuction", name := "extraBottom", desc := "(I)I" } : Jvm.MethodName)) ∈ z_good := z_in 389 (by rfl) rfl
set_option maxRecDepth 20000 in
theorem k_390 : (Jvm.Cond.selects "NodalAuction" ({ cls := "NodalAuction", name := "extraBottom", desc := "(I)I" } : Jvm.MethodName) ({ cls := "NodalAuction", name := "extraBottom", desc := "(I)I" } : Jvm.MethodName)) ∈ z_good := z_in 390 (by rfl) rfl
set_option maxRecDepth 20000 in
theorem k_391 : (Jvm.Cond.code ({ cls := "NodalAuction", name := "extraBottom", desc := "(I)I" } : Jvm.MethodName) prog_1_method_17_code (4 : Nat) (Option.some Jvm.ClassFile.FieldType.int)) ∈ z_good := z_in 391 (by rfl) rfl
set_option maxRecDepth 20000 in
theorem k_392 : (Jvm.Cond.methodLink "NodalAuctionLaw" (85 : Nat) ({ cls := "NodalAuction", name := "check", desc := "(IIII)I" } : Jvm.MethodName)) ∈ z_good := z_in 392 (by rfl) rfl
set_option maxRecDepth 20000 in
theorem k_393 : (Jvm.Cond.instanceMethod ({ cls := "NodalAuction", name := "check", desc := "(IIII)I" } : Jvm.MethodName)) ∈ z_good := z_in 393 (by rfl) rfl
set_option maxRecDepth 20000 in
theorem k_394 : (Jvm.Cond.selects "NodalAuction" ({ cls := "NodalAuction", name := "check", desc := "(IIII)I" } : Jvm.MethodName) ({ cls := "NodalAuction", name := "check", desc := "(IIII)I" } : Jvm.MethodName)) ∈ z_good := z_in 394 (by rfl) rfl
set_option maxRecDepth 20000 in
theorem k_395 : (Jvm.Cond.code ({ cls := "NodalAuction", name := "check", desc := "(IIII)I" } : Jvm.MethodName) prog_1_method_18_code (6 : Nat) (Option.some Jvm.ClassFile.FieldType.int)) ∈ z_good := z_in 395 (by rfl) rfl
set_option maxRecDepth 20000 in
theorem k_396 : (Jvm.Cond.methodLink "NodalAuction" (134 : Nat) ({ cls := "NodalAuction", name := "takePrices", desc := "(IIII)Z" } : Jvm.MethodName)) ∈ z_good := z_in 396 (by rfl) rfl
set_option maxRecDepth 20000 in
theorem k_398 : (Jvm.Cond.instanceMethod ({ cls := "NodalAuction", name := "takePrices", desc := "(IIII)Z" } : Jvm.MethodName)) ∈ z_good := z_in 398 (by rfl) rfl
set_option maxRecDepth 20000 in
theorem k_399 : (Jvm.Cond.code ({ cls := "NodalAuction", name := "takePrices", desc := "(IIII)Z" } : Jvm.MethodName) prog_1_method_27_code (6 : Nat) (Option.some Jvm.ClassFile.FieldType.boolean)) ∈ z_good := z_in 399 (by rfl) rfl
set_option maxRecDepth 20000 in
theorem k_400 : (Jvm.Cond.methodLink "NodalAuction" (138 : Nat) ({ cls := "NodalAuction", name := "someStepLoses", desc := "()Z" } : Jvm.MethodName)) ∈ z_good := z_in 400 (by rfl) rfl
set_option maxRecDepth 20000 in
theorem k_402 : (Jvm.Cond.instanceMethod ({ cls := "NodalAuction", name := "someStepLoses", desc := "()Z" } : Jvm.MethodName)) ∈ z_good := z_in 402 (by rfl) rfl
set_option maxRecDepth 20000 in
theorem k_403 : (Jvm.Cond.code ({ cls := "NodalAuction", name := "someStepLoses", desc := "()Z" } : Jvm.MethodName) prog_1_method_29_code (2 : Nat) (Option.some Jvm.ClassFile.FieldType.boolean)) ∈ z_good := z_in 403 (by rfl) rfl
set_option maxRecDepth 20000 in
theorem k_404 : (Jvm.Cond.methodLink "NodalAuction" (171 : Nat) ({ cls := "NodalAuction", name := "margin", desc := "(I)I" } : Jvm.MethodName)) ∈ z_good := z_in 404 (by rfl) rfl
set_option maxRecDepth 20000 in
theorem k_406 : (Jvm.Cond.instanceMethod ({ cls := "NodalAuction", name := "margin", desc := "(I)I" } : Jvm.MethodName)) ∈ z_good := z_in 406 (by rfl) rfl
set_option maxRecDepth 20000 in
theorem k_407 : (Jvm.Cond.code ({ cls := "NodalAuction", name := "margin", desc := "(I)I" } : Jvm.MethodName) prog_1_method_28_code (2 : Nat) (Option.some Jvm.ClassFile.FieldType.int)) ∈ z_good := z_in 407 (by rfl) rfl
set_option maxRecDepth 20000 in
theorem k_408 : (Jvm.Cond.methodLink "NodalAuction" (142 : Nat) ({ cls := "NodalAuction", name := "someStepWouldGain", desc := "()Z" } : Jvm.MethodName)) ∈ z_good := z_in 408 (by rfl) rfl
set_option maxRecDepth 20000 in
theorem k_410 : (Jvm.Cond.instanceMethod ({ cls := "NodalAuction", name := "someStepWouldGain", desc := "()Z" } : Jvm.MethodName)) ∈ z_good := z_in 410 (by rfl) rfl
set_option maxRecDepth 20000 in
theorem k_411 : (Jvm.Cond.code ({ cls := "NodalAuction", name := "someStepWouldGain", desc := "()Z" } : Jvm.MethodName) prog_1_method_30_code (2 : Nat) (Option.some Jvm.ClassFile.FieldType.boolean)) ∈ z_good := z_in 411 (by rfl) rfl
set_option maxRecDepth 20000 in
theorem k_412 : (Jvm.Cond.methodLink "NodalAuction" (145 : Nat) ({ cls := "NodalAuction", name := "gridCarriesMore", desc := "()Z" } : Jvm.MethodName)) ∈ z_good := z_in 412 (by rfl) rfl
set_option maxRecDepth 20000 in
theorem k_414 : (Jvm.Cond.instanceMethod ({ cls := "NodalAuction", name := "gridCarriesMore", desc := "()Z" } : Jvm.MethodName)) ∈ z_good := z_in 414 (by rfl) rfl
set_option maxRecDepth 20000 in
theorem k_415 : (Jvm.Cond.code ({ cls := "NodalAuction", name := "gridCarriesMore", desc := "()Z" } : Jvm.MethodName) prog_1_method_31_code (2 : Nat) (Option.some Jvm.ClassFile.FieldType.boolean)) ∈ z_good := z_in 415 (by rfl) rfl
set_option maxRecDepth 20000 in
theorem k_416 : (Jvm.Cond.methodLink "NodalAuction" (148 : Nat) ({ cls := "NodalAuction", name := "intakeWorth", desc := "()J" } : Jvm.MethodName)) ∈ z_good := z_in 416 (by rfl) rfl
set_option maxRecDepth 20000 in
theorem k_418 : (Jvm.Cond.instanceMethod ({ cls := "NodalAuction", name := "intakeWorth", desc := "()J" } : Jvm.MethodName)) ∈ z_good := z_in 418 (by rfl) rfl
set_option maxRecDepth 20000 in
theorem k_419 : (Jvm.Cond.code ({ cls := "NodalAuction", name := "intakeWorth", desc := "()J" } : Jvm.MethodName) prog_1_method_32_code (4 : Nat) (Option.some Jvm.ClassFile.FieldType.long)) ∈ z_good := z_in 419 (by rfl) rfl
set_option maxRecDepth 20000 in
theorem k_420 : (Jvm.Cond.methodLink "NodalAuctionLaw" (89 : Nat) ({ cls := "NodalAuction", name := "rent", desc := "(IIII)J" } : Jvm.MethodName)) ∈ z_good := z_in 420 (by rfl) rfl
set_option maxRecDepth 20000 in
theorem k_421 : (Jvm.Cond.instanceMethod ({ cls := "NodalAuction", name := "rent", desc := "(IIII)J" } : Jvm.MethodName)) ∈ z_good := z_in 421 (by rfl) rfl
set_option maxRecDepth 20000 in
theorem k_422 : (Jvm.Cond.selects "NodalAuction" ({ cls := "NodalAuction", name := "rent", desc := "(IIII)J" } : Jvm.MethodName) ({ cls := "NodalAuction", name := "rent", desc := "(IIII)J" } : Jvm.MethodName)) ∈ z_good := z_in 422 (by rfl) rfl
set_option maxRecDepth 20000 in
theorem k_423 : (Jvm.Cond.code ({ cls := "NodalAuction", name := "rent", desc := "(IIII)J" } : Jvm.MethodName) prog_1_method_19_code (5 : Nat) (Option.some Jvm.ClassFile.FieldType.long)) ∈ z_good := z_in 423 (by rfl) rfl
set_option maxRecDepth 20000 in
theorem k_424 : (Jvm.Cond.classLink "NodalAuctionLaw" (10 : Nat) "NodalAuctionModel") ∈ z_good := z_in 424 (by rfl) rfl
set_option maxRecDepth 20000 in
theorem k_425 : (Jvm.Cond.instantiable "NodalAuctionModel" (34 : Nat)) ∈ z_good := z_in 425 (by rfl) rfl
set_option maxRecDepth 20000 in
theorem k_426 : (Jvm.Cond.methodLink "NodalAuctionLaw" (12 : Nat) ({ cls := "NodalAuctionModel", name := "<init>", desc := "()V" } : Jvm.MethodName)) ∈ z_good := z_in 426 (by rfl) rfl
set_option maxRecDepth 20000 in
theorem k_427 : (Jvm.Cond.instanceMethod ({ cls := "NodalAuctionModel", name := "<init>", desc := "()V" } : Jvm.MethodName)) ∈ z_good := z_in 427 (by rfl) rfl
set_option maxRecDepth 20000 in
theorem k_428 : (Jvm.Cond.code ({ cls := "NodalAuctionModel", name := "<init>", desc := "()V" } : Jvm.MethodName) prog_7_method_1_code (1 : Nat) (Option.none : Option Jvm.ClassFile.FieldType)) ∈ z_good := z_in 428 (by rfl) rfl
set_option maxRecDepth 20000 in
theorem k_429 : (Jvm.Cond.methodLink "NodalAuctionModel" (1 : Nat) ({ cls := "java/lang/Object", name := "<init>", desc := "()V" } : Jvm.MethodName)) ∈ z_good := z_in 429 (by rfl) rfl
set_option maxRecDepth 20000 in
theorem k_430 : (Jvm.Cond.fieldLink "NodalAuctionModel" (86 : Nat) "NodalAuctionModel" "lineCount" "I") ∈ z_good := z_in 430 (by rfl) rfl
set_option maxRecDepth 20000 in
theorem k_431 : (Jvm.Cond.fieldLink "NodalAuctionModel" (7 : Nat) "NodalAuctionModel" "first" "[I") ∈ z_good := z_in 431 (by rfl) rfl
set_option maxRecDepth 20000 in
theorem k_432 : (Jvm.Cond.fieldLink "NodalAuctionModel" (13 : Nat) "NodalAuctionModel" "second" "[I") ∈ z_good := z_in 432 (by rfl) rfl
set_option maxRecDepth 20000 in
theorem k_433 : (Jvm.Cond.fieldLink "NodalAuctionModel" (16 : Nat) "NodalAuctionModel" "strength" "[I") ∈ z_good := z_in 433 (by rfl) rfl
set_option maxRecDepth 20000 in
theorem k_434 : (Jvm.Cond.fieldLink "NodalAuctionModel" (19 : Nat) "NodalAuctionModel" "most" "[I") ∈ z_good := z_in 434 (by rfl) rfl
set_option maxRecDepth 20000 in
theorem k_435 : (Jvm.Cond.fieldLink "NodalAuctionModel" (94 : Nat) "NodalAuctionModel" "stepCount" "I") ∈ z_good := z_in 435 (by rfl) rfl
set_option maxRecDepth 20000 in
theorem k_436 : (Jvm.Cond.fieldLink "NodalAuctionModel" (22 : Nat) "NodalAuctionModel" "isBid" "[Z") ∈ z_good := z_in 436 (by rfl) rfl
set_option maxRecDepth 20000 in
theorem k_437 : (Jvm.Cond.fieldLink "NodalAuctionModel" (26 : Nat) "NodalAuctionModel" "place" "[I") ∈ z_good := z_in 437 (by rfl) rfl
set_option maxRecDepth 20000 in
theorem k_438 : (Jvm.Cond.fieldLink "NodalAuctionModel" (29 : Nat) "NodalAuctionModel" "price" "[I") ∈ z_good := z_in 438 (by rfl) rfl
set_option maxRecDepth 20000 in
theorem k_439 : (Jvm.Cond.fieldLink "NodalAuctionModel" (32 : Nat) "NodalAuctionModel" "quantity" "[I") ∈ z_good := z_in 439 (by rfl) rfl
set_option maxRecDepth 20000 in
theorem k_440 : (Jvm.Cond.fieldLink "NodalAuctionModel" (35 : Nat) "NodalAuctionModel" "turn" "[I") ∈ z_good := z_in 440 (by rfl) rfl
set_option maxRecDepth 20000 in
theorem k_441 : (Jvm.Cond.fieldLink "NodalAuctionModel" (105 : Nat) "NodalAuctionModel" "planes" "I") ∈ z_good := z_in 441 (by rfl) rfl
set_option maxRecDepth 20000 in
theorem k_442 : (Jvm.Cond.fieldLink "NodalAuctionModel" (38 : Nat) "NodalAuctionModel" "planeA" "[J") ∈ z_good := z_in 442 (by rfl) rfl
set_option maxRecDepth 20000 in
theorem k_443 : (Jvm.Cond.fieldLink "NodalAuctionModel" (42 : Nat) "NodalAuctionModel" "planeB" "[J") ∈ z_good := z_in 443 (by rfl) rfl
set_option maxRecDepth 20000 in
theorem k_444 : (Jvm.Cond.fieldLink "NodalAuctionModel" (45 : Nat) "NodalAuctionModel" "planeC" "[J") ∈ z_good := z_in 444 (by rfl) rfl
set_option maxRecDepth 20000 in
theorem k_445 : (Jvm.Cond.fieldLink "NodalAuctionModel" (48 : Nat) "NodalAuctionModel" "planeD" "[J") ∈ z_good := z_in 445 (by rfl) rfl
set_option maxRecDepth 20000 in
theorem k_446 : (Jvm.Cond.fieldLink "NodalAuctionModel" (51 : Nat) "NodalAuctionModel" "part" "[I") ∈ z_good := z_in 446 (by rfl) rfl
set_option maxRecDepth 20000 in
theorem k_447 : (Jvm.Cond.fieldLink "NodalAuctionModel" (130 : Nat) "NodalAuctionModel" "bottom" "J") ∈ z_good := z_in 447 (by rfl) rfl
set_option maxRecDepth 20000 in
theorem k_448 : (Jvm.Cond.fieldLink "NodalAuctionModel" (54 : Nat) "NodalAuctionModel" "height" "[J") ∈ z_good := z_in 448 (by rfl) rfl
set_option maxRecDepth 20000 in
theorem k_449 : (Jvm.Cond.fieldLink "NodalAuctionModel" (57 : Nat) "NodalAuctionModel" "amount" "[J") ∈ z_good := z_in 449 (by rfl) rfl
set_option maxRecDepth 20000 in
theorem k_450 : (Jvm.Cond.fieldLink "NodalAuctionModel" (144 : Nat) "NodalAuctionModel" "gain" "J") ∈ z_good := z_in 450 (by rfl) rfl
set_option maxRecDepth 20000 in
theorem k_451 : (Jvm.Cond.fieldLink "NodalAuctionModel" (147 : Nat) "NodalAuctionModel" "some" "Z") ∈ z_good := z_in 451 (by rfl) rfl
set_option maxRecDepth 20000 in
theorem k_452 : (Jvm.Cond.fieldLink "NodalAuctionModel" (150 : Nat) "NodalAuctionModel" "bestBottom" "J") ∈ z_good := z_in 452 (by rfl) rfl
set_option maxRecDepth 20000 in
theorem k_453 : (Jvm.Cond.fieldLink "NodalAuctionModel" (60 : Nat) "NodalAuctionModel" "bestHeight" "[J") ∈ z_good := z_in 453 (by rfl) rfl
set_option maxRecDepth 20000 in
theorem k_454 : (Jvm.Cond.fieldLink "NodalAuctionModel" (63 : Nat) "NodalAuctionModel" "bestAmount" "[J") ∈ z_good := z_in 454 (by rfl) rfl
set_option maxRecDepth 20000 in
theorem k_455 : (Jvm.Cond.fieldLink "NodalAuctionModel" (153 : Nat) "NodalAuctionModel" "bestGain" "J") ∈ z_good := z_in 455 (by rfl) rfl
set_option maxRecDepth 20000 in
theorem k_456 : (Jvm.Cond.fieldLink "NodalAuctionModel" (90 : Nat) "NodalAuctionModel" "there" "Z") ∈ z_good := z_in 456 (by rfl) rfl
set_option maxRecDepth 20000 in
theorem k_457 : (Jvm.Cond.fieldLink "NodalAuctionModel" (194 : Nat) "NodalAuctionModel" "factor" "J") ∈ z_good := z_in 457 (by rfl) rfl
set_option maxRecDepth 20000 in
theorem k_458 : (Jvm.Cond.fieldLink "NodalAuctionModel" (66 : Nat) "NodalAuctionModel" "taken" "[J") ∈ z_good := z_in 458 (by rfl) rfl
set_option maxRecDepth 20000 in
theorem k_459 : (Jvm.Cond.fieldLink "NodalAuctionModel" (69 : Nat) "NodalAuctionModel" "carried" "[J") ∈ z_good := z_in 459 (by rfl) rfl
set_option maxRecDepth 20000 in
theorem k_460 : (Jvm.Cond.fieldLink "NodalAuctionModel" (197 : Nat) "NodalAuctionModel" "worth" "J") ∈ z_good := z_in 460 (by rfl) rfl
set_option maxRecDepth 20000 in
theorem k_461 : (Jvm.Cond.fieldLink "NodalAuctionModel" (72 : Nat) "NodalAuctionModel" "asked" "[Z") ∈ z_good := z_in 461 (by rfl) rfl
set_option maxRecDepth 20000 in
theorem k_462 : (Jvm.Cond.fieldLink "NodalAuctionModel" (75 : Nat) "NodalAuctionModel" "fractionTop" "[J") ∈ z_good := z_in 462 (by rfl) rfl
set_option maxRecDepth 20000 in
theorem k_463 : (Jvm.Cond.fieldLink "NodalAuctionModel" (78 : Nat) "NodalAuctionModel" "fractionBottom" "[J") ∈ z_good := z_in 463 (by rfl) rfl
set_option maxRecDepth 20000 in
theorem k_464 : (Jvm.Cond.lays "NodalAuctionModel" "NodalAuctionModel" "lineCount" "I") ∈ z_good := z_in 464 (by rfl) rfl
set_option maxRecDepth 20000 in
theorem k_466 : (Jvm.Cond.lays "NodalAuctionModel" "NodalAuctionModel" "first" "[I") ∈ z_good := z_in 466 (by rfl) rfl
set_option maxRecDepth 20000 in
theorem k_468 : (Jvm.Cond.lays "NodalAuctionModel" "NodalAuctionModel" "second" "[I") ∈ z_good := z_in 468 (by rfl) rfl
set_option maxRecDepth 20000 in
theorem k_470 : (Jvm.Cond.lays "NodalAuctionModel" "NodalAuctionModel" "strength" "[I") ∈ z_good := z_in 470 (by rfl) rfl
set_option maxRecDepth 20000 in
theorem k_472 : (Jvm.Cond.lays "NodalAuctionModel" "NodalAuctionModel" "most" "[I") ∈ z_good := z_in 472 (by rfl) rfl
set_option maxRecDepth 20000 in
theorem k_474 : (Jvm.Cond.lays "NodalAuctionModel" "NodalAuctionModel" "stepCount" "I") ∈ z_good := z_in 474 (by rfl) rfl
set_option maxRecDepth 20000 in
theorem k_476 : (Jvm.Cond.lays "NodalAuctionModel" "NodalAuctionModel" "isBid" "[Z") ∈ z_good := z_in 476 (by rfl) rfl
set_option maxRecDepth 20000 in
theorem k_478 : (Jvm.Cond.lays "NodalAuctionModel" "NodalAuctionModel" "place" "[I") ∈ z_good := z_in 478 (by rfl) rfl
set_option maxRecDepth 20000 in
theorem k_480 : (Jvm.Cond.lays "NodalAuctionModel" "NodalAuctionModel" "price" "[I") ∈ z_good := z_in 480 (by rfl) rfl
set_option maxRecDepth 20000 in
theorem k_482 : (Jvm.Cond.lays "NodalAuctionModel" "NodalAuctionModel" "quantity" "[I") ∈ z_good := z_in 482 (by rfl) rfl
set_option maxRecDepth 20000 in
theorem k_484 : (Jvm.Cond.lays "NodalAuctionModel" "NodalAuctionModel" "turn" "[I") ∈ z_good := z_in 484 (by rfl) rfl
set_option maxRecDepth 20000 in
theorem k_486 : (Jvm.Cond.lays "NodalAuctionModel" "NodalAuctionModel" "planes" "I") ∈ z_good := z_in 486 (by rfl) rfl
set_option maxRecDepth 20000 in
theorem k_488 : (Jvm.Cond.lays "NodalAuctionModel" "NodalAuctionModel" "planeA" "[J") ∈ z_good := z_in 488 (by rfl) rfl
set_option maxRecDepth 20000 in
theorem k_490 : (Jvm.Cond.lays "NodalAuctionModel" "NodalAuctionModel" "planeB" "[J") ∈ z_good := z_in 490 (by rfl) rfl
set_option maxRecDepth 20000 in
theorem k_492 : (Jvm.Cond.lays "NodalAuctionModel" "NodalAuctionModel" "planeC" "[J") ∈ z_good := z_in 492 (by rfl) rfl
set_option maxRecDepth 20000 in
theorem k_494 : (Jvm.Cond.lays "NodalAuctionModel" "NodalAuctionModel" "planeD" "[J") ∈ z_good := z_in 494 (by rfl) rfl
set_option maxRecDepth 20000 in
theorem k_496 : (Jvm.Cond.lays "NodalAuctionModel" "NodalAuctionModel" "part" "[I") ∈ z_good := z_in 496 (by rfl) rfl
set_option maxRecDepth 20000 in
theorem k_498 : (Jvm.Cond.lays "NodalAuctionModel" "NodalAuctionModel" "bottom" "J") ∈ z_good := z_in 498 (by rfl) rfl
set_option maxRecDepth 20000 in
theorem k_500 : (Jvm.Cond.lays "NodalAuctionModel" "NodalAuctionModel" "height" "[J") ∈ z_good := z_in 500 (by rfl) rfl
set_option maxRecDepth 20000 in
theorem k_502 : (Jvm.Cond.lays "NodalAuctionModel" "NodalAuctionModel" "amount" "[J") ∈ z_good := z_in 502 (by rfl) rfl
set_option maxRecDepth 20000 in
theorem k_504 : (Jvm.Cond.lays "NodalAuctionModel" "NodalAuctionModel" "gain" "J") ∈ z_good := z_in 504 (by rfl) rfl
set_option maxRecDepth 20000 in
theorem k_506 : (Jvm.Cond.lays "NodalAuctionModel" "NodalAuctionModel" "some" "Z") ∈ z_good := z_in 506 (by rfl) rfl
set_option maxRecDepth 20000 in
theorem k_508 : (Jvm.Cond.lays "NodalAuctionModel" "NodalAuctionModel" "bestBottom" "J") ∈ z_good := z_in 508 (by rfl) rfl
set_option maxRecDepth 20000 in
theorem k_510 : (Jvm.Cond.lays "NodalAuctionModel" "NodalAuctionModel" "bestHeight" "[J") ∈ z_good := z_in 510 (by rfl) rfl
set_option maxRecDepth 20000 in
theorem k_512 : (Jvm.Cond.lays "NodalAuctionModel" "NodalAuctionModel" "bestAmount" "[J") ∈ z_good := z_in 512 (by rfl) rfl
set_option maxRecDepth 20000 in
theorem k_514 : (Jvm.Cond.lays "NodalAuctionModel" "NodalAuctionModel" "bestGain" "J") ∈ z_good := z_in 514 (by rfl) rfl
set_option maxRecDepth 20000 in
theorem k_516 : (Jvm.Cond.lays "NodalAuctionModel" "NodalAuctionModel" "there" "Z") ∈ z_good := z_in 516 (by rfl) rfl
set_option maxRecDepth 20000 in
theorem k_518 : (Jvm.Cond.lays "NodalAuctionModel" "NodalAuctionModel" "factor" "J") ∈ z_good := z_in 518 (by rfl) rfl
set_option maxRecDepth 20000 in
theorem k_520 : (Jvm.Cond.lays "NodalAuctionModel" "NodalAuctionModel" "taken" "[J") ∈ z_good := z_in 520 (by rfl) rfl
set_option maxRecDepth 20000 in
theorem k_522 : (Jvm.Cond.lays "NodalAuctionModel" "NodalAuctionModel" "carried" "[J") ∈ z_good := z_in 522 (by rfl) rfl
set_option maxRecDepth 20000 in
theorem k_524 : (Jvm.Cond.lays "NodalAuctionModel" "NodalAuctionModel" "worth" "J") ∈ z_good := z_in 524 (by rfl) rfl
set_option maxRecDepth 20000 in
theorem k_526 : (Jvm.Cond.lays "NodalAuctionModel" "NodalAuctionModel" "asked" "[Z") ∈ z_good := z_in 526 (by rfl) rfl
set_option maxRecDepth 20000 in
theorem k_528 : (Jvm.Cond.lays "NodalAuctionModel" "NodalAuctionModel" "fractionTop" "[J") ∈ z_good := z_in 528 (by rfl) rfl
set_option maxRecDepth 20000 in
theorem k_530 : (Jvm.Cond.lays "NodalAuctionModel" "NodalAuctionModel" "fractionBottom" "[J") ∈ z_good := z_in 530 (by rfl) rfl
set_option maxRecDepth 20000 in
theorem k_533 : (Jvm.Cond.methodLink "NodalAuctionLaw" (17 : Nat) ({ cls := "NodalAuctionModel", name := "line", desc := "(IIII)I" } : Jvm.MethodName)) ∈ z_good := z_in 533 (by rfl) rfl
set_option maxRecDepth 20000 in
theorem k_534 : (Jvm.Cond.instanceMethod ({ cls := "NodalAuctionModel", name := "line", desc := "(IIII)I" } : Jvm.MethodName)) ∈ z_good := z_in 534 (by rfl) rfl
set_option maxRecDepth 20000 in
theorem k_535 : (Jvm.Cond.selects "NodalAuctionModel" ({ cls := "NodalAuctionModel", name := "line", desc := "(IIII)I" } : Jvm.MethodName) ({ cls := "NodalAuctionModel", name := "line", desc := "(IIII)I" } : Jvm.MethodName)) ∈ z_good := z_in 535 (by rfl) rfl
set_option maxRecDepth 20000 in
theorem k_536 : (Jvm.Cond.code ({ cls := "NodalAuctionModel", name := "line", desc := "(IIII)I" } : Jvm.MethodName) prog_7_method_3_code (6 : Nat) (Option.some Jvm.ClassFile.FieldType.int)) ∈ z_good := z_in 536 (by rfl) rfl
set_option maxRecDepth 20000 in
theorem k_537 : (Jvm.Cond.methodLink "NodalAuctionModel" (81 : Nat) ({ cls := "NodalAuctionModel", name := "within", desc := "(III)Z" } : Jvm.MethodName)) ∈ z_good := z_in 537 (by rfl) rfl
set_option maxRecDepth 20000 in
theorem k_538 : (Jvm.Cond.static ({ cls := "NodalAuctionModel", name := "within", desc := "(III)Z" } : Jvm.MethodName)) ∈ z_good := z_in 538 (by rfl) rfl
set_option maxRecDepth 20000 in
theorem k_539 : (Jvm.Cond.code ({ cls := "NodalAuctionModel", name := "within", desc := "(III)Z" } : Jvm.MethodName) prog_7_method_2_code (3 : Nat) (Option.some Jvm.ClassFile.FieldType.boolean)) ∈ z_good := z_in 539 (by rfl) rfl
set_option maxRecDepth 20000 in
theorem k_540 : (Jvm.Cond.constant "NodalAuctionModel" (85 : Nat) (-2147483648 : Int32)) ∈ z_good := z_in 540 (by rfl) rfl
set_option maxRecDepth 20000 in
theorem k_541 : (Jvm.Cond.methodLink "NodalAuctionLaw" (22 : Nat) ({ cls := "NodalAuctionModel", name := "limit", desc := "(II)Z" } : Jvm.MethodName)) ∈ z_good := z_in 541 (by rfl) rfl
set_option maxRecDepth 20000 in
theorem k_542 : (Jvm.Cond.instanceMethod ({ cls := "NodalAuctionModel", name := "limit", desc := "(II)Z" } : Jvm.MethodName)) ∈ z_good := z_in 542 (by rfl) rfl
set_option maxRecDepth 20000 in
theorem k_543 : (Jvm.Cond.selects "NodalAuctionModel" ({ cls := "NodalAuctionModel", name := "limit", desc := "(II)Z" } : Jvm.MethodName) ({ cls := "NodalAuctionModel", name := "limit", desc := "(II)Z" } : Jvm.MethodName)) ∈ z_good := z_in 543 (by rfl) rfl
set_option maxRecDepth 20000 in
theorem k_544 : (Jvm.Cond.code ({ cls := "NodalAuctionModel", name := "limit", desc := "(II)Z" } : Jvm.MethodName) prog_7_method_4_code (3 : Nat) (Option.some Jvm.ClassFile.FieldType.boolean)) ∈ z_good := z_in 544 (by rfl) rfl
set_option maxRecDepth 20000 in
theorem k_545 : (Jvm.Cond.methodLink "NodalAuctionLaw" (27 : Nat) ({ cls := "NodalAuctionModel", name := "cut", desc := "(I)Z" } : Jvm.MethodName)) ∈ z_good := z_in 545 (by rfl) rfl
set_option maxRecDepth 20000 in
theorem k_546 : (Jvm.Cond.instanceMethod ({ cls := "NodalAuctionModel", name := "cut", desc := "(I)Z" } : Jvm.MethodName)) ∈ z_good := z_in 546 (by rfl) rfl
set_option maxRecDepth 20000 in
theorem k_547 : (Jvm.Cond.selects "NodalAuctionModel" ({ cls := "NodalAuctionModel", name := "cut", desc := "(I)Z" } : Jvm.MethodName) ({ cls := "NodalAuctionModel", name := "cut", desc := "(I)Z" } : Jvm.MethodName)) ∈ z_good := z_in 547 (by rfl) rfl
set_option maxRecDepth 20000 in
theorem k_548 : (Jvm.Cond.code ({ cls := "NodalAuctionModel", name := "cut", desc := "(I)Z" } : Jvm.MethodName) prog_7_method_5_code (3 : Nat) (Option.some Jvm.ClassFile.FieldType.boolean)) ∈ z_good := z_in 548 (by rfl) rfl
set_option maxRecDepth 20000 in
theorem k_549 : (Jvm.Cond.methodLink "NodalAuctionLaw" (32 : Nat) ({ cls := "NodalAuctionModel", name := "bid", desc := "(III)I" } : Jvm.MethodName)) ∈ z_good := z_in 549 (by rfl) rfl
set_option maxRecDepth 20000 in
theorem k_550 : (Jvm.Cond.instanceMethod ({ cls := "NodalAuctionModel", name := "bid", desc := "(III)I" } : Jvm.MethodName)) ∈ z_good := z_in 550 (by rfl) rfl
set_option maxRecDepth 20000 in
theorem k_551 : (Jvm.Cond.selects "NodalAuctionModel" ({ cls := "NodalAuctionModel", name := "bid", desc := "(III)I" } : Jvm.MethodName) ({ cls := "NodalAuctionModel", name := "bid", desc := "(III)I" } : Jvm.MethodName)) ∈ z_good := z_in 551 (by rfl) rfl
set_option maxRecDepth 20000 in
theorem k_552 : (Jvm.Cond.code ({ cls := "NodalAuctionModel", name := "bid", desc := "(III)I" } : Jvm.MethodName) prog_7_method_7_code (4 : Nat) (Option.some Jvm.ClassFile.FieldType.int)) ∈ z_good := z_in 552 (by rfl) rfl
set_option maxRecDepth 20000 in
theorem k_553 : (Jvm.Cond.methodLink "NodalAuctionModel" (97 : Nat) ({ cls := "NodalAuctionModel", name := "step", desc := "(ZIII)I" } : Jvm.MethodName)) ∈ z_good := z_in 553 (by rfl) rfl
set_option maxRecDepth 20000 in
theorem k_555 : (Jvm.Cond.instanceMethod ({ cls := "NodalAuctionModel", name := "step", desc := "(ZIII)I" } : Jvm.MethodName)) ∈ z_good := z_in 555 (by rfl) rfl
set_option maxRecDepth 20000 in
theorem k_556 : (Jvm.Cond.code ({ cls := "NodalAuctionModel", name := "step", desc := "(ZIII)I" } : Jvm.MethodName) prog_7_method_6_code (5 : Nat) (Option.some Jvm.ClassFile.FieldType.int)) ∈ z_good := z_in 556 (by rfl) rfl
set_option maxRecDepth 20000 in
theorem k_557 : (Jvm.Cond.methodLink "NodalAuctionLaw" (36 : Nat) ({ cls := "NodalAuctionModel", name := "offer", desc := "(III)I" } : Jvm.MethodName)) ∈ z_good := z_in 557 (by rfl) rfl
set_option maxRecDepth 20000 in
theorem k_558 : (Jvm.Cond.instanceMethod ({ cls := "NodalAuctionModel", name := "offer", desc := "(III)I" } : Jvm.MethodName)) ∈ z_good := z_in 558 (by rfl) rfl
set_option maxRecDepth 20000 in
theorem k_559 : (Jvm.Cond.selects "NodalAuctionModel" ({ cls := "NodalAuctionModel", name := "offer", desc := "(III)I" } : Jvm.MethodName) ({ cls := "NodalAuctionModel", name := "offer", desc := "(III)I" } : Jvm.MethodName)) ∈ z_good := z_in 559 (by rfl) rfl
set_option maxRecDepth 20000 in
theorem k_560 : (Jvm.Cond.code ({ cls := "NodalAuctionModel", name := "offer", desc := "(III)I" } : Jvm.MethodName) prog_7_method_8_code (4 : Nat) (Option.some Jvm.ClassFile.FieldType.int)) ∈ z_good := z_in 560 (by rfl) rfl
set_option maxRecDepth 20000 in
theorem k_561 : (Jvm.Cond.methodLink "NodalAuctionLaw" (40 : Nat) ({ cls := "NodalAuctionModel", name := "cancel", desc := "(I)Z" } : Jvm.MethodName)) ∈ z_good := z_in 561 (by rfl) rfl
set_option maxRecDepth 20000 in
theorem k_562 : (Jvm.Cond.instanceMethod ({ cls := "NodalAuctionModel", name := "cancel", desc := "(I)Z" } : Jvm.MethodName)) ∈ z_good := z_in 562 (by rfl) rfl
set_option maxRecDepth 20000 in
theorem k_563 : (Jvm.Cond.selects "NodalAuctionModel" ({ cls := "NodalAuctionModel", name := "cancel", desc := "(I)Z" } : Jvm.MethodName) ({ cls := "NodalAuctionModel", name := "cancel", desc := "(I)Z" } : Jvm.MethodName)) ∈ z_good := z_in 563 (by rfl) rfl
set_option maxRecDepth 20000 in
theorem k_564 : (Jvm.Cond.code ({ cls := "NodalAuctionModel", name := "cancel", desc := "(I)Z" } : Jvm.MethodName) prog_7_method_9_code (3 : Nat) (Option.some Jvm.ClassFile.FieldType.boolean)) ∈ z_good := z_in 564 (by rfl) rfl
set_option maxRecDepth 20000 in
theorem k_565 : (Jvm.Cond.methodLink "NodalAuctionLaw" (45 : Nat) ({ cls := "NodalAuctionModel", name := "clear", desc := "()I" } : Jvm.MethodName)) ∈ z_good := z_in 565 (by rfl) rfl
set_option maxRecDepth 20000 in
theorem k_566 : (Jvm.Cond.instanceMethod ({ cls := "NodalAuctionModel", name := "clear", desc := "()I" } : Jvm.MethodName)) ∈ z_good := z_in 566 (by rfl) rfl
set_option maxRecDepth 20000 in
theorem k_567 : (Jvm.Cond.selects "NodalAuctionModel" ({ cls := "NodalAuctionModel", name := "clear", desc := "()I" } : Jvm.MethodName) ({ cls := "NodalAuctionModel", name := "clear", desc := "()I" } : Jvm.MethodName)) ∈ z_good := z_in 567 (by rfl) rfl
set_option maxRecDepth 20000 in
theorem k_568 : (Jvm.Cond.code ({ cls := "NodalAuctionModel", name := "clear", desc := "()I" } : Jvm.MethodName) prog_7_method_30_code (5 : Nat) (Option.some Jvm.ClassFile.FieldType.int)) ∈ z_good := z_in 568 (by rfl) rfl
set_option maxRecDepth 20000 in
theorem k_569 : (Jvm.Cond.methodLink "NodalAuctionModel" (184 : Nat) ({ cls := "NodalAuctionModel", name := "connected", desc := "()Z" } : Jvm.MethodName)) ∈ z_good := z_in 569 (by rfl) rfl
set_option maxRecDepth 20000 in
theorem k_571 : (Jvm.Cond.instanceMethod ({ cls := "NodalAuctionModel", name := "connected", desc := "()Z" } : Jvm.MethodName)) ∈ z_good := z_in 571 (by rfl) rfl
set_option maxRecDepth 20000 in
theorem k_572 : (Jvm.Cond.code ({ cls := "NodalAuctionModel", name := "connected", desc := "()Z" } : Jvm.MethodName) prog_7_method_10_code (5 : Nat) (Option.some Jvm.ClassFile.FieldType.boolean)) ∈ z_good := z_in 572 (by rfl) rfl
set_option maxRecDepth 20000 in
theorem k_573 : (Jvm.Cond.methodLink "NodalAuctionModel" (187 : Nat) ({ cls := "NodalAuctionModel", name := "search", desc := "(I)V" } : Jvm.MethodName)) ∈ z_good := z_in 573 (by rfl) rfl
set_option maxRecDepth 20000 in
theorem k_575 : (Jvm.Cond.instanceMethod ({ cls := "NodalAuctionModel", name := "search", desc := "(I)V" } : Jvm.MethodName)) ∈ z_good := z_in 575 (by rfl) rfl
set_option maxRecDepth 20000 in
theorem k_576 : (Jvm.Cond.code ({ cls := "NodalAuctionModel", name := "search", desc := "(I)V" } : Jvm.MethodName) prog_7_method_28_code (5 : Nat) (Option.none : Option Jvm.ClassFile.FieldType)) ∈ z_good := z_in 576 (by rfl) rfl
set_option maxRecDepth 20000 in
theorem k_577 : (Jvm.Cond.methodLink "NodalAuctionModel" (156 : Nat) ({ cls := "NodalAuctionModel", name := "arrange", desc := "()V" } : Jvm.MethodName)) ∈ z_good := z_in 577 (by rfl) rfl
set_option maxRecDepth 20000 in
theorem k_579 : (Jvm.Cond.instanceMethod ({ cls := "NodalAuctionModel", name := "arrange", desc := "()V" } : Jvm.MethodName)) ∈ z_good := z_in 579 (by rfl) rfl
set_option maxRecDepth 20000 in
theorem k_580 : (Jvm.Cond.code ({ cls := "NodalAuctionModel", name := "arrange", desc := "()V" } : Jvm.MethodName) prog_7_method_12_code (4 : Nat) (Option.none : Option Jvm.ClassFile.FieldType)) ∈ z_good := z_in 580 (by rfl) rfl
set_option maxRecDepth 20000 in
theorem k_581 : (Jvm.Cond.methodLink "NodalAuctionModel" (101 : Nat) ({ cls := "NodalAuctionModel", name := "before", desc := "(II)Z" } : Jvm.MethodName)) ∈ z_good := z_in 581 (by rfl) rfl
set_option maxRecDepth 20000 in
theorem k_583 : (Jvm.Cond.instanceMethod ({ cls := "NodalAuctionModel", name := "before", desc := "(II)Z" } : Jvm.MethodName)) ∈ z_good := z_in 583 (by rfl) rfl
set_option maxRecDepth 20000 in
theorem k_584 : (Jvm.Cond.code ({ cls := "NodalAuctionModel", name := "before", desc := "(II)Z" } : Jvm.MethodName) prog_7_method_11_code (3 : Nat) (Option.some Jvm.ClassFile.FieldType.boolean)) ∈ z_good := z_in 584 (by rfl) rfl
set_option maxRecDepth 20000 in
theorem k_585 : (Jvm.Cond.methodLink "NodalAuctionModel" (159 : Nat) ({ cls := "NodalAuctionModel", name := "linePlanes", desc := "()V" } : Jvm.MethodName)) ∈ z_good := z_in 585 (by rfl) rfl
set_option maxRecDepth 20000 in
theorem k_587 : (Jvm.Cond.instanceMethod ({ cls := "NodalAuctionModel", name := "linePlanes", desc := "()V" } : Jvm.MethodName)) ∈ z_good := z_in 587 (by rfl) rfl
set_option maxRecDepth 20000 in
theorem k_588 : (Jvm.Cond.code ({ cls := "NodalAuctionModel", name := "linePlanes", desc := "()V" } : Jvm.MethodName) prog_7_method_14_code (3 : Nat) (Option.none : Option Jvm.ClassFile.FieldType)) ∈ z_good := z_in 588 (by rfl) rfl
set_option maxRecDepth 20000 in
theorem k_589 : (Jvm.Cond.methodLink "NodalAuctionModel" (108 : Nat) ({ cls := "NodalAuctionModel", name := "plane", desc := "(J)V" } : Jvm.MethodName)) ∈ z_good := z_in 589 (by rfl) rfl
set_option maxRecDepth 20000 in
theorem k_591 : (Jvm.Cond.instanceMethod ({ cls := "NodalAuctionModel", name := "plane", desc := "(J)V" } : Jvm.MethodName)) ∈ z_good := z_in 591 (by rfl) rfl
set_option maxRecDepth 20000 in
theorem k_592 : (Jvm.Cond.code ({ cls := "NodalAuctionModel", name := "plane", desc := "(J)V" } : Jvm.MethodName) prog_7_method_13_code (3 : Nat) (Option.none : Option Jvm.ClassFile.FieldType)) ∈ z_good := z_in 592 (by rfl) rfl
set_option maxRecDepth 20000 in
theorem k_593 : (Jvm.Cond.methodLink "NodalAuctionModel" (162 : Nat) ({ cls := "NodalAuctionModel", name := "nodePlanes", desc := "(I)V" } : Jvm.MethodName)) ∈ z_good := z_in 593 (by rfl) rfl
set_option maxRecDepth 20000 in
theorem k_595 : (Jvm.Cond.instanceMethod ({ cls := "NodalAuctionModel", name := "nodePlanes", desc := "(I)V" } : Jvm.MethodName)) ∈ z_good := z_in 595 (by rfl) rfl
set_option maxRecDepth 20000 in
theorem k_596 : (Jvm.Cond.code ({ cls := "NodalAuctionModel", name := "nodePlanes", desc := "(I)V" } : Jvm.MethodName) prog_7_method_16_code (6 : Nat) (Option.none : Option Jvm.ClassFile.FieldType)) ∈ z_good := z_in 596 (by rfl) rfl
set_option maxRecDepth 20000 in
theorem k_597 : (Jvm.Cond.methodLink "NodalAuctionModel" (112 : Nat) ({ cls := "NodalAuctionModel", name := "offered", desc := "(I)J" } : Jvm.MethodName)) ∈ z_good := z_in 597 (by rfl) rfl
set_option maxRecDepth 20000 in
theorem k_599 : (Jvm.Cond.instanceMethod ({ cls := "NodalAuctionModel", name := "offered", desc := "(I)J" } : Jvm.MethodName)) ∈ z_good := z_in 599 (by rfl) rfl
set_option maxRecDepth 20000 in
theorem k_600 : (Jvm.Cond.code ({ cls := "NodalAuctionModel", name := "offered", desc := "(I)J" } : Jvm.MethodName) prog_7_method_15_code (5 : Nat) (Option.some Jvm.ClassFile.FieldType.long)) ∈ z_good := z_in 600 (by rfl) rfl
set_option maxRecDepth 20000 in
theorem k_601 : (Jvm.Cond.methodLink "NodalAuctionModel" (166 : Nat) ({ cls := "NodalAuctionModel", name := "meet", desc := "(III)Z" } : Jvm.MethodName)) ∈ z_good := z_in 601 (by rfl) rfl
set_option maxRecDepth 20000 in
theorem k_603 : (Jvm.Cond.instanceMethod ({ cls := "NodalAuctionModel", name := "meet", desc := "(III)Z" } : Jvm.MethodName)) ∈ z_good := z_in 603 (by rfl) rfl
set_option maxRecDepth 20000 in
theorem k_604 : (Jvm.Cond.code ({ cls := "NodalAuctionModel", name := "meet", desc := "(III)Z" } : Jvm.MethodName) prog_7_method_20_code (9 : Nat) (Option.some Jvm.ClassFile.FieldType.boolean)) ∈ z_good := z_in 604 (by rfl) rfl
set_option maxRecDepth 20000 in
theorem k_605 : (Jvm.Cond.methodLink "NodalAuctionModel" (124 : Nat) ({ cls := "NodalAuctionModel", name := "determinant", desc := "(IIII)J" } : Jvm.MethodName)) ∈ z_good := z_in 605 (by rfl) rfl
set_option maxRecDepth 20000 in
theorem k_607 : (Jvm.Cond.instanceMethod ({ cls := "NodalAuctionModel", name := "determinant", desc := "(IIII)J" } : Jvm.MethodName)) ∈ z_good := z_in 607 (by rfl) rfl
set_option maxRecDepth 20000 in
theorem k_608 : (Jvm.Cond.code ({ cls := "NodalAuctionModel", name := "determinant", desc := "(IIII)J" } : Jvm.MethodName) prog_7_method_19_code (11 : Nat) (Option.some Jvm.ClassFile.FieldType.long)) ∈ z_good := z_in 608 (by rfl) rfl
set_option maxRecDepth 20000 in
theorem k_609 : (Jvm.Cond.methodLink "NodalAuctionModel" (116 : Nat) ({ cls := "NodalAuctionModel", name := "cell", desc := "(III)J" } : Jvm.MethodName)) ∈ z_good := z_in 609 (by rfl) rfl
set_option maxRecDepth 20000 in
theorem k_611 : (Jvm.Cond.instanceMethod ({ cls := "NodalAuctionModel", name := "cell", desc := "(III)J" } : Jvm.MethodName)) ∈ z_good := z_in 611 (by rfl) rfl
set_option maxRecDepth 20000 in
theorem k_612 : (Jvm.Cond.code ({ cls := "NodalAuctionModel", name := "cell", desc := "(III)J" } : Jvm.MethodName) prog_7_method_17_code (4 : Nat) (Option.some Jvm.ClassFile.FieldType.long)) ∈ z_good := z_in 612 (by rfl) rfl
set_option maxRecDepth 20000 in
theorem k_613 : (Jvm.Cond.methodLink "NodalAuctionModel" (120 : Nat) ({ cls := "NodalAuctionModel", name := "minor", desc := "(IIIII)J" } : Jvm.MethodName)) ∈ z_good := z_in 613 (by rfl) rfl
set_option maxRecDepth 20000 in
theorem k_615 : (Jvm.Cond.instanceMethod ({ cls := "NodalAuctionModel", name := "minor", desc := "(IIIII)J" } : Jvm.MethodName)) ∈ z_good := z_in 615 (by rfl) rfl
set_option maxRecDepth 20000 in
theorem k_616 : (Jvm.Cond.code ({ cls := "NodalAuctionModel", name := "minor", desc := "(IIIII)J" } : Jvm.MethodName) prog_7_method_18_code (14 : Nat) (Option.some Jvm.ClassFile.FieldType.long)) ∈ z_good := z_in 616 (by rfl) rfl
set_option maxRecDepth 20000 in
theorem k_617 : (Jvm.Cond.constantLong "NodalAuctionModel" (128 : Nat) (-1 : Int64)) ∈ z_good := z_in 617 (by rfl) rfl
set_option maxRecDepth 20000 in
theorem k_618 : (Jvm.Cond.methodLink "NodalAuctionModel" (169 : Nat) ({ cls := "NodalAuctionModel", name := "linesHold", desc := "()Z" } : Jvm.MethodName)) ∈ z_good := z_in 618 (by rfl) rfl
set_option maxRecDepth 20000 in
theorem k_620 : (Jvm.Cond.instanceMethod ({ cls := "NodalAuctionModel", name := "linesHold", desc := "()Z" } : Jvm.MethodName)) ∈ z_good := z_in 620 (by rfl) rfl
set_option maxRecDepth 20000 in
theorem k_621 : (Jvm.Cond.code ({ cls := "NodalAuctionModel", name := "linesHold", desc := "()Z" } : Jvm.MethodName) prog_7_method_23_code (4 : Nat) (Option.some Jvm.ClassFile.FieldType.boolean)) ∈ z_good := z_in 621 (by rfl) rfl
set_option maxRecDepth 20000 in
theorem k_622 : (Jvm.Cond.methodLink "NodalAuctionModel" (134 : Nat) ({ cls := "NodalAuctionModel", name := "flowHere", desc := "(I)J" } : Jvm.MethodName)) ∈ z_good := z_in 622 (by rfl) rfl
set_option maxRecDepth 20000 in
theorem k_624 : (Jvm.Cond.instanceMethod ({ cls := "NodalAuctionModel", name := "flowHere", desc := "(I)J" } : Jvm.MethodName)) ∈ z_good := z_in 624 (by rfl) rfl
set_option maxRecDepth 20000 in
theorem k_625 : (Jvm.Cond.code ({ cls := "NodalAuctionModel", name := "flowHere", desc := "(I)J" } : Jvm.MethodName) prog_7_method_21_code (2 : Nat) (Option.some Jvm.ClassFile.FieldType.long)) ∈ z_good := z_in 625 (by rfl) rfl
set_option maxRecDepth 20000 in
theorem k_626 : (Jvm.Cond.methodLink "NodalAuctionModel" (173 : Nat) ({ cls := "NodalAuctionModel", name := "useAll", desc := "(I)Z" } : Jvm.MethodName)) ∈ z_good := z_in 626 (by rfl) rfl
set_option maxRecDepth 20000 in
theorem k_628 : (Jvm.Cond.instanceMethod ({ cls := "NodalAuctionModel", name := "useAll", desc := "(I)Z" } : Jvm.MethodName)) ∈ z_good := z_in 628 (by rfl) rfl
set_option maxRecDepth 20000 in
theorem k_629 : (Jvm.Cond.code ({ cls := "NodalAuctionModel", name := "useAll", desc := "(I)Z" } : Jvm.MethodName) prog_7_method_25_code (3 : Nat) (Option.some Jvm.ClassFile.FieldType.boolean)) ∈ z_good := z_in 629 (by rfl) rfl
set_option maxRecDepth 20000 in
theorem k_630 : (Jvm.Cond.methodLink "NodalAuctionModel" (140 : Nat) ({ cls := "NodalAuctionModel", name := "use", desc := "(IJ)Z" } : Jvm.MethodName)) ∈ z_good := z_in 630 (by rfl) rfl
set_option maxRecDepth 20000 in
theorem k_632 : (Jvm.Cond.instanceMethod ({ cls := "NodalAuctionModel", name := "use", desc := "(IJ)Z" } : Jvm.MethodName)) ∈ z_good := z_in 632 (by rfl) rfl
set_option maxRecDepth 20000 in
theorem k_633 : (Jvm.Cond.code ({ cls := "NodalAuctionModel", name := "use", desc := "(IJ)Z" } : Jvm.MethodName) prog_7_method_24_code (12 : Nat) (Option.some Jvm.ClassFile.FieldType.boolean)) ∈ z_good := z_in 633 (by rfl) rfl
set_option maxRecDepth 20000 in
theorem k_634 : (Jvm.Cond.methodLink "NodalAuctionModel" (137 : Nat) ({ cls := "NodalAuctionModel", name := "brought", desc := "(I)J" } : Jvm.MethodName)) ∈ z_good := z_in 634 (by rfl) rfl
set_option maxRecDepth 20000 in
theorem k_636 : (Jvm.Cond.instanceMethod ({ cls := "NodalAuctionModel", name := "brought", desc := "(I)J" } : Jvm.MethodName)) ∈ z_good := z_in 636 (by rfl) rfl
set_option maxRecDepth 20000 in
theorem k_637 : (Jvm.Cond.code ({ cls := "NodalAuctionModel", name := "brought", desc := "(I)J" } : Jvm.MethodName) prog_7_method_22_code (7 : Nat) (Option.some Jvm.ClassFile.FieldType.long)) ∈ z_good := z_in 637 (by rfl) rfl
set_option maxRecDepth 20000 in
theorem k_638 : (Jvm.Cond.methodLink "NodalAuctionModel" (177 : Nat) ({ cls := "NodalAuctionModel", name := "better", desc := "()Z" } : Jvm.MethodName)) ∈ z_good := z_in 638 (by rfl) rfl
set_option maxRecDepth 20000 in
theorem k_640 : (Jvm.Cond.instanceMethod ({ cls := "NodalAuctionModel", name := "better", desc := "()Z" } : Jvm.MethodName)) ∈ z_good := z_in 640 (by rfl) rfl
set_option maxRecDepth 20000 in
theorem k_641 : (Jvm.Cond.code ({ cls := "NodalAuctionModel", name := "better", desc := "()Z" } : Jvm.MethodName) prog_7_method_26_code (6 : Nat) (Option.some Jvm.ClassFile.FieldType.boolean)) ∈ z_good := z_in 641 (by rfl) rfl
set_option maxRecDepth 20000 in
theorem k_642 : (Jvm.Cond.methodLink "NodalAuctionModel" (180 : Nat) ({ cls := "NodalAuctionModel", name := "keep", desc := "()V" } : Jvm.MethodName)) ∈ z_good := z_in 642 (by rfl) rfl
set_option maxRecDepth 20000 in
theorem k_644 : (Jvm.Cond.instanceMethod ({ cls := "NodalAuctionModel", name := "keep", desc := "()V" } : Jvm.MethodName)) ∈ z_good := z_in 644 (by rfl) rfl
set_option maxRecDepth 20000 in
theorem k_645 : (Jvm.Cond.code ({ cls := "NodalAuctionModel", name := "keep", desc := "()V" } : Jvm.MethodName) prog_7_method_27_code (2 : Nat) (Option.none : Option Jvm.ClassFile.FieldType)) ∈ z_good := z_in 645 (by rfl) rfl
set_option maxRecDepth 20000 in
theorem k_646 : (Jvm.Cond.methodLink "NodalAuctionModel" (190 : Nat) ({ cls := "NodalAuctionModel", name := "divisor", desc := "(JJ)J" } : Jvm.MethodName)) ∈ z_good := z_in 646 (by rfl) rfl
set_option maxRecDepth 20000 in
theorem k_647 : (Jvm.Cond.static ({ cls := "NodalAuctionModel", name := "divisor", desc := "(JJ)J" } : Jvm.MethodName)) ∈ z_good := z_in 647 (by rfl) rfl
set_option maxRecDepth 20000 in
theorem k_648 : (Jvm.Cond.code ({ cls := "NodalAuctionModel", name := "divisor", desc := "(JJ)J" } : Jvm.MethodName) prog_7_method_29_code (11 : Nat) (Option.some Jvm.ClassFile.FieldType.long)) ∈ z_good := z_in 648 (by rfl) rfl
set_option maxRecDepth 20000 in
theorem k_649 : (Jvm.Cond.constant "NodalAuctionModel" (183 : Nat) (1000000 : Int32)) ∈ z_good := z_in 649 (by rfl) rfl
set_option maxRecDepth 20000 in
theorem k_650 : (Jvm.Cond.methodLink "NodalAuctionLaw" (49 : Nat) ({ cls := "NodalAuctionModel", name := "steps", desc := "()I" } : Jvm.MethodName)) ∈ z_good := z_in 650 (by rfl) rfl
set_option maxRecDepth 20000 in
theorem k_651 : (Jvm.Cond.instanceMethod ({ cls := "NodalAuctionModel", name := "steps", desc := "()I" } : Jvm.MethodName)) ∈ z_good := z_in 651 (by rfl) rfl
set_option maxRecDepth 20000 in
theorem k_652 : (Jvm.Cond.selects "NodalAuctionModel" ({ cls := "NodalAuctionModel", name := "steps", desc := "()I" } : Jvm.MethodName) ({ cls := "NodalAuctionModel", name := "steps", desc := "()I" } : Jvm.MethodName)) ∈ z_good := z_in 652 (by rfl) rfl
set_option maxRecDepth 20000 in
theorem k_653 : (Jvm.Cond.code ({ cls := "NodalAuctionModel", name := "steps", desc := "()I" } : Jvm.MethodName) prog_7_method_31_code (1 : Nat) (Option.some Jvm.ClassFile.FieldType.int)) ∈ z_good := z_in 653 (by rfl) rfl
set_option maxRecDepth 20000 in
theorem k_654 : (Jvm.Cond.methodLink "NodalAuctionLaw" (53 : Nat) ({ cls := "NodalAuctionModel", name := "lines", desc := "()I" } : Jvm.MethodName)) ∈ z_good := z_in 654 (by rfl) rfl
set_option maxRecDepth 20000 in
theorem k_655 : (Jvm.Cond.instanceMethod ({ cls := "NodalAuctionModel", name := "lines", desc := "()I" } : Jvm.MethodName)) ∈ z_good := z_in 655 (by rfl) rfl
set_option maxRecDepth 20000 in
theorem k_656 : (Jvm.Cond.selects "NodalAuctionModel" ({ cls := "NodalAuctionModel", name := "lines", desc := "()I" } : Jvm.MethodName) ({ cls := "NodalAuctionModel", name := "lines", desc := "()I" } : Jvm.MethodName)) ∈ z_good := z_in 656 (by rfl) rfl
set_option maxRecDepth 20000 in
theorem k_657 : (Jvm.Cond.code ({ cls := "NodalAuctionModel", name := "lines", desc := "()I" } : Jvm.MethodName) prog_7_method_32_code (1 : Nat) (Option.some Jvm.ClassFile.FieldType.int)) ∈ z_good := z_in 657 (by rfl) rfl
set_option maxRecDepth 20000 in
theorem k_658 : (Jvm.Cond.methodLink "NodalAuctionLaw" (57 : Nat) ({ cls := "NodalAuctionModel", name := "scale", desc := "()I" } : Jvm.MethodName)) ∈ z_good := z_in 658 (by rfl) rfl
set_option maxRecDepth 20000 in
theorem k_659 : (Jvm.Cond.instanceMethod ({ cls := "NodalAuctionModel", name := "scale", desc := "()I" } : Jvm.MethodName)) ∈ z_good := z_in 659 (by rfl) rfl
set_option maxRecDepth 20000 in
theorem k_660 : (Jvm.Cond.selects "NodalAuctionModel" ({ cls := "NodalAuctionModel", name := "scale", desc := "()I" } : Jvm.MethodName) ({ cls := "NodalAuctionModel", name := "scale", desc := "()I" } : Jvm.MethodName)) ∈ z_good := z_in 660 (by rfl) rfl
set_option maxRecDepth 20000 in
theorem k_661 : (Jvm.Cond.code ({ cls := "NodalAuctionModel", name := "scale", desc := "()I" } : Jvm.MethodName) prog_7_method_33_code (1 : Nat) (Option.some Jvm.ClassFile.FieldType.int)) ∈ z_good := z_in 661 (by rfl) rfl
set_option maxRecDepth 20000 in
theorem k_662 : (Jvm.Cond.methodLink "NodalAuctionLaw" (62 : Nat) ({ cls := "NodalAuctionModel", name := "accepted", desc := "(I)I" } : Jvm.MethodName)) ∈ z_good := z_in 662 (by rfl) rfl
set_option maxRecDepth 20000 in
theorem k_663 : (Jvm.Cond.instanceMethod ({ cls := "NodalAuctionModel", name := "accepted", desc := "(I)I" } : Jvm.MethodName)) ∈ z_good := z_in 663 (by rfl) rfl
set_option maxRecDepth 20000 in
theorem k_664 : (Jvm.Cond.selects "NodalAuctionModel" ({ cls := "NodalAuctionModel", name := "accepted", desc := "(I)I" } : Jvm.MethodName) ({ cls := "NodalAuctionModel", name := "accepted", desc := "(I)I" } : Jvm.MethodName)) ∈ z_good := z_in 664 (by rfl) rfl
set_option maxRecDepth 20000 in
theorem k_665 : (Jvm.Cond.code ({ cls := "NodalAuctionModel", name := "accepted", desc := "(I)I" } : Jvm.MethodName) prog_7_method_34_code (2 : Nat) (Option.some Jvm.ClassFile.FieldType.int)) ∈ z_good := z_in 665 (by rfl) rfl
set_option maxRecDepth 20000 in
theorem k_666 : (Jvm.Cond.methodLink "NodalAuctionLaw" (66 : Nat) ({ cls := "NodalAuctionModel", name := "flow", desc := "(I)I" } : Jvm.MethodName)) ∈ z_good := z_in 666 (by rfl) rfl
set_option maxRecDepth 20000 in
theorem k_667 : (Jvm.Cond.instanceMethod ({ cls := "NodalAuctionModel", name := "flow", desc := "(I)I" } : Jvm.MethodName)) ∈ z_good := z_in 667 (by rfl) rfl
set_option maxRecDepth 20000 in
theorem k_668 : (Jvm.Cond.selects "NodalAuctionModel" ({ cls := "NodalAuctionModel", name := "flow", desc := "(I)I" } : Jvm.MethodName) ({ cls := "NodalAuctionModel", name := "flow", desc := "(I)I" } : Jvm.MethodName)) ∈ z_good := z_in 668 (by rfl) rfl
set_option maxRecDepth 20000 in
theorem k_669 : (Jvm.Cond.code ({ cls := "NodalAuctionModel", name := "flow", desc := "(I)I" } : Jvm.MethodName) prog_7_method_35_code (2 : Nat) (Option.some Jvm.ClassFile.FieldType.int)) ∈ z_good := z_in 669 (by rfl) rfl
set_option maxRecDepth 20000 in
theorem k_670 : (Jvm.Cond.methodLink "NodalAuctionLaw" (70 : Nat) ({ cls := "NodalAuctionModel", name := "tight", desc := "()I" } : Jvm.MethodName)) ∈ z_good := z_in 670 (by rfl) rfl
set_option maxRecDepth 20000 in
theorem k_671 : (Jvm.Cond.instanceMethod ({ cls := "NodalAuctionModel", name := "tight", desc := "()I" } : Jvm.MethodName)) ∈ z_good := z_in 671 (by rfl) rfl
set_option maxRecDepth 20000 in
theorem k_672 : (Jvm.Cond.selects "NodalAuctionModel" ({ cls := "NodalAuctionModel", name := "tight", desc := "()I" } : Jvm.MethodName) ({ cls := "NodalAuctionModel", name := "tight", desc := "()I" } : Jvm.MethodName)) ∈ z_good := z_in 672 (by rfl) rfl
set_option maxRecDepth 20000 in
theorem k_673 : (Jvm.Cond.code ({ cls := "NodalAuctionModel", name := "tight", desc := "()I" } : Jvm.MethodName) prog_7_method_36_code (5 : Nat) (Option.some Jvm.ClassFile.FieldType.int)) ∈ z_good := z_in 673 (by rfl) rfl
set_option maxRecDepth 20000 in
theorem k_674 : (Jvm.Cond.methodLink "NodalAuctionLaw" (75 : Nat) ({ cls := "NodalAuctionModel", name := "welfare", desc := "()J" } : Jvm.MethodName)) ∈ z_good := z_in 674 (by rfl) rfl
set_option maxRecDepth 20000 in
theorem k_675 : (Jvm.Cond.instanceMethod ({ cls := "NodalAuctionModel", name := "welfare", desc := "()J" } : Jvm.MethodName)) ∈ z_good := z_in 675 (by rfl) rfl
set_option maxRecDepth 20000 in
theorem k_676 : (Jvm.Cond.selects "NodalAuctionModel" ({ cls := "NodalAuctionModel", name := "welfare", desc := "()J" } : Jvm.MethodName) ({ cls := "NodalAuctionModel", name := "welfare", desc := "()J" } : Jvm.MethodName)) ∈ z_good := z_in 676 (by rfl) rfl
set_option maxRecDepth 20000 in
theorem k_677 : (Jvm.Cond.code ({ cls := "NodalAuctionModel", name := "welfare", desc := "()J" } : Jvm.MethodName) prog_7_method_37_code (1 : Nat) (Option.some Jvm.ClassFile.FieldType.long)) ∈ z_good := z_in 677 (by rfl) rfl
set_option maxRecDepth 20000 in
theorem k_678 : (Jvm.Cond.methodLink "NodalAuctionLaw" (80 : Nat) ({ cls := "NodalAuctionModel", name := "extraTop", desc := "(I)J" } : Jvm.MethodName)) ∈ z_good := z_in 678 (by rfl) rfl
set_option maxRecDepth 20000 in
theorem k_679 : (Jvm.Cond.instanceMethod ({ cls := "NodalAuctionModel", name := "extraTop", desc := "(I)J" } : Jvm.MethodName)) ∈ z_good := z_in 679 (by rfl) rfl
set_option maxRecDepth 20000 in
theorem k_680 : (Jvm.Cond.selects "NodalAuctionModel" ({ cls := "NodalAuctionModel", name := "extraTop", desc := "(I)J" } : Jvm.MethodName) ({ cls := "NodalAuctionModel", name := "extraTop", desc := "(I)J" } : Jvm.MethodName)) ∈ z_good := z_in 680 (by rfl) rfl
set_option maxRecDepth 20000 in
theorem k_681 : (Jvm.Cond.code ({ cls := "NodalAuctionModel", name := "extraTop", desc := "(I)J" } : Jvm.MethodName) prog_7_method_39_code (2 : Nat) (Option.some Jvm.ClassFile.FieldType.long)) ∈ z_good := z_in 681 (by rfl) rfl
set_option maxRecDepth 20000 in
theorem k_682 : (Jvm.Cond.methodLink "NodalAuctionModel" (200 : Nat) ({ cls := "NodalAuctionModel", name := "extra", desc := "(I)Z" } : Jvm.MethodName)) ∈ z_good := z_in 682 (by rfl) rfl
set_option maxRecDepth 20000 in
theorem k_684 : (Jvm.Cond.instanceMethod ({ cls := "NodalAuctionModel", name := "extra", desc := "(I)Z" } : Jvm.MethodName)) ∈ z_good := z_in 684 (by rfl) rfl
set_option maxRecDepth 20000 in
theorem k_685 : (Jvm.Cond.code ({ cls := "NodalAuctionModel", name := "extra", desc := "(I)Z" } : Jvm.MethodName) prog_7_method_38_code (8 : Nat) (Option.some Jvm.ClassFile.FieldType.boolean)) ∈ z_good := z_in 685 (by rfl) rfl
set_option maxRecDepth 20000 in
theorem k_686 : (Jvm.Cond.methodLink "NodalAuctionLaw" (84 : Nat) ({ cls := "NodalAuctionModel", name := "extraBottom", desc := "(I)I" } : Jvm.MethodName)) ∈ z_good := z_in 686 (by rfl) rfl
set_option maxRecDepth 20000 in
theorem k_687 : (Jvm.Cond.instanceMethod ({ cls := "NodalAuctionModel", name := "extraBottom", desc := "(I)I" } : Jvm.MethodName)) ∈ z_good := z_in 687 (by rfl) rfl
set_option maxRecDepth 20000 in
theorem k_688 : (Jvm.Cond.selects "NodalAuctionModel" ({ cls := "NodalAuctionModel", name := "extraBottom", desc := "(I)I" } : Jvm.MethodName) ({ cls := "NodalAuctionModel", name := "extraBottom", desc := "(I)I" } : Jvm.MethodName)) ∈ z_good := z_in 688 (by rfl) rfl
set_option maxRecDepth 20000 in
theorem k_689 : (Jvm.Cond.code ({ cls := "NodalAuctionModel", name := "extraBottom", desc := "(I)I" } : Jvm.MethodName) prog_7_method_40_code (2 : Nat) (Option.some Jvm.ClassFile.FieldType.int)) ∈ z_good := z_in 689 (by rfl) rfl
set_option maxRecDepth 20000 in
theorem k_690 : (Jvm.Cond.methodLink "NodalAuctionLaw" (88 : Nat) ({ cls := "NodalAuctionModel", name := "check", desc := "(IIII)I" } : Jvm.MethodName)) ∈ z_good := z_in 690 (by rfl) rfl
set_option maxRecDepth 20000 in
theorem k_691 : (Jvm.Cond.instanceMethod ({ cls := "NodalAuctionModel", name := "check", desc := "(IIII)I" } : Jvm.MethodName)) ∈ z_good := z_in 691 (by rfl) rfl
set_option maxRecDepth 20000 in
theorem k_692 : (Jvm.Cond.selects "NodalAuctionModel" ({ cls := "NodalAuctionModel", name := "check", desc := "(IIII)I" } : Jvm.MethodName) ({ cls := "NodalAuctionModel", name := "check", desc := "(IIII)I" } : Jvm.MethodName)) ∈ z_good := z_in 692 (by rfl) rfl
set_option maxRecDepth 20000 in
theorem k_693 : (Jvm.Cond.code ({ cls := "NodalAuctionModel", name := "check", desc := "(IIII)I" } : Jvm.MethodName) prog_7_method_43_code (12 : Nat) (Option.some Jvm.ClassFile.FieldType.int)) ∈ z_good := z_in 693 (by rfl) rfl
set_option maxRecDepth 20000 in
theorem k_694 : (Jvm.Cond.methodLink "NodalAuctionModel" (203 : Nat) ({ cls := "NodalAuctionModel", name := "bad", desc := "(IIII)Z" } : Jvm.MethodName)) ∈ z_good := z_in 694 (by rfl) rfl
set_option maxRecDepth 20000 in
theorem k_696 : (Jvm.Cond.instanceMethod ({ cls := "NodalAuctionModel", name := "bad", desc := "(IIII)Z" } : Jvm.MethodName)) ∈ z_good := z_in 696 (by rfl) rfl
set_option maxRecDepth 20000 in
theorem k_697 : (Jvm.Cond.code ({ cls := "NodalAuctionModel", name := "bad", desc := "(IIII)Z" } : Jvm.MethodName) prog_7_method_42_code (5 : Nat) (Option.some Jvm.ClassFile.FieldType.boolean)) ∈ z_good := z_in 697 (by rfl) rfl
set_option maxRecDepth 20000 in
theorem k_698 : (Jvm.Cond.methodLink "NodalAuctionModel" (207 : Nat) ({ cls := "NodalAuctionModel", name := "priceOf", desc := "(IIIII)J" } : Jvm.MethodName)) ∈ z_good := z_in 698 (by rfl) rfl
set_option maxRecDepth 20000 in
theorem k_699 : (Jvm.Cond.static ({ cls := "NodalAuctionModel", name := "priceOf", desc := "(IIIII)J" } : Jvm.MethodName)) ∈ z_good := z_in 699 (by rfl) rfl
set_option maxRecDepth 20000 in
theorem k_700 : (Jvm.Cond.code ({ cls := "NodalAuctionModel", name := "priceOf", desc := "(IIIII)J" } : Jvm.MethodName) prog_7_method_41_code (5 : Nat) (Option.some Jvm.ClassFile.FieldType.long)) ∈ z_good := z_in 700 (by rfl) rfl
set_option maxRecDepth 20000 in
theorem k_701 : (Jvm.Cond.methodLink "NodalAuctionModel" (210 : Nat) ({ cls := "NodalAuctionModel", name := "carriesMore", desc := "(IIII)Z" } : Jvm.MethodName)) ∈ z_good := z_in 701 (by rfl) rfl
set_option maxRecDepth 20000 in
theorem k_703 : (Jvm.Cond.instanceMethod ({ cls := "NodalAuctionModel", name := "carriesMore", desc := "(IIII)Z" } : Jvm.MethodName)) ∈ z_good := z_in 703 (by rfl) rfl
set_option maxRecDepth 20000 in
theorem k_704 : (Jvm.Cond.code ({ cls := "NodalAuctionModel", name := "carriesMore", desc := "(IIII)Z" } : Jvm.MethodName) prog_7_method_44_code (13 : Nat) (Option.some Jvm.ClassFile.FieldType.boolean)) ∈ z_good := z_in 704 (by rfl) rfl
set_option maxRecDepth 20000 in
theorem k_705 : (Jvm.Cond.methodLink "NodalAuctionModel" (213 : Nat) ({ cls := "NodalAuctionModel", name := "rent", desc := "(IIII)J" } : Jvm.MethodName)) ∈ z_good := z_in 705 (by rfl) rfl
set_option maxRecDepth 20000 in
theorem k_706 : (Jvm.Cond.instanceMethod ({ cls := "NodalAuctionModel", name := "rent", desc := "(IIII)J" } : Jvm.MethodName)) ∈ z_good := z_in 706 (by rfl) rfl
set_option maxRecDepth 20000 in
theorem k_707 : (Jvm.Cond.selects "NodalAuctionModel" ({ cls := "NodalAuctionModel", name := "rent", desc := "(IIII)J" } : Jvm.MethodName) ({ cls := "NodalAuctionModel", name := "rent", desc := "(IIII)J" } : Jvm.MethodName)) ∈ z_good := z_in 707 (by rfl) rfl
set_option maxRecDepth 20000 in
theorem k_708 : (Jvm.Cond.code ({ cls := "NodalAuctionModel", name := "rent", desc := "(IIII)J" } : Jvm.MethodName) prog_7_method_45_code (10 : Nat) (Option.some Jvm.ClassFile.FieldType.long)) ∈ z_good := z_in 708 (by rfl) rfl
set_option maxRecDepth 20000 in
theorem k_709 : (Jvm.Cond.methodLink "NodalAuctionLaw" (93 : Nat) ({ cls := "NodalAuctionModel", name := "rent", desc := "(IIII)J" } : Jvm.MethodName)) ∈ z_good := z_in 709 (by rfl) rfl
set_option maxRecDepth 20000 in
theorem ks_0 : Cond.selects "NodalAuction$Grid" (⟨"NodalAuction$Grid", "joins", "(II)Z"⟩ : MethodName) ⟨"NodalAuction$Grid", "joins", "(II)Z"⟩ ∈ z_good := z_inS 0 (by rfl) rfl
set_option maxRecDepth 20000 in
theorem ks_1 : Cond.selects "NodalAuction$Grid" (⟨"NodalAuction$Grid", "add", "(IIII)I"⟩ : MethodName) ⟨"NodalAuction$Grid", "add", "(IIII)I"⟩ ∈ z_good := z_inS 1 (by rfl) rfl
set_option maxRecDepth 20000 in
theorem ks_2 : Cond.selects "NodalAuction$Grid" (⟨"NodalAuction$Grid", "has", "(I)Z"⟩ : MethodName) ⟨"NodalAuction$Grid", "has", "(I)Z"⟩ ∈ z_good := z_inS 2 (by rfl) rfl
set_option maxRecDepth 20000 in
theorem ks_3 : Cond.selects "NodalAuction$Grid" (⟨"NodalAuction$Grid", "remove", "(I)V"⟩ : MethodName) ⟨"NodalAuction$Grid", "remove", "(I)V"⟩ ∈ z_good := z_inS 3 (by rfl) rfl
set_option maxRecDepth 20000 in
theorem ks_4 : Cond.selects "NodalAuction" (⟨"NodalAuction", "addStep", "(IIII)I"⟩ : MethodName) ⟨"NodalAuction", "addStep", "(IIII)I"⟩ ∈ z_good := z_inS 4 (by rfl) rfl
set_option maxRecDepth 20000 in
theorem ks_5 : Cond.selects "NodalAuction$Book" (⟨"NodalAuction$Book", "add", "(IIII)I"⟩ : MethodName) ⟨"NodalAuction$Book", "add", "(IIII)I"⟩ ∈ z_good := z_inS 5 (by rfl) rfl
set_option maxRecDepth 20000 in
theorem ks_6 : Cond.selects "NodalAuction$Book" (⟨"NodalAuction$Book", "has", "(I)Z"⟩ : MethodName) ⟨"NodalAuction$Book", "has", "(I)Z"⟩ ∈ z_good := z_inS 6 (by rfl) rfl
set_option maxRecDepth 20000 in
theorem ks_7 : Cond.selects "NodalAuction$Book" (⟨"NodalAuction$Book", "remove", "(I)V"⟩ : MethodName) ⟨"NodalAuction$Book", "remove", "(I)V"⟩ ∈ z_good := z_inS 7 (by rfl) rfl
set_option maxRecDepth 20000 in
theorem ks_8 : Cond.selects "NodalAuction$Program" (⟨"NodalAuction$Program", "load", "(LNodalAuction$Grid;LNodalAuction$Book;II)Z"⟩ : MethodName) ⟨"NodalAuction$Program", "load", "(LNodalAuction$Grid;LNodalAuction$Book;II)Z"⟩ ∈ z_good := z_inS 8 (by rfl) rfl
set_option maxRecDepth 20000 in
theorem ks_9 : Cond.selects "NodalAuction$Grid" (⟨"NodalAuction$Grid", "ground", "(I)V"⟩ : MethodName) ⟨"NodalAuction$Grid", "ground", "(I)V"⟩ ∈ z_good := z_inS 9 (by rfl) rfl
set_option maxRecDepth 20000 in
theorem ks_10 : Cond.selects "NodalAuction$Grid" (⟨"NodalAuction$Grid", "weighNodes", "()V"⟩ : MethodName) ⟨"NodalAuction$Grid", "weighNodes", "()V"⟩ ∈ z_good := z_inS 10 (by rfl) rfl
set_option maxRecDepth 20000 in
theorem ks_11 : Cond.selects "NodalAuction$Grid" (⟨"NodalAuction$Grid", "cofactor", "(III)J"⟩ : MethodName) ⟨"NodalAuction$Grid", "cofactor", "(III)J"⟩ ∈ z_good := z_inS 11 (by rfl) rfl
set_option maxRecDepth 20000 in
theorem ks_12 : Cond.selects "NodalAuction$Program" (⟨"NodalAuction$Program", "placeRow", "(IIII)V"⟩ : MethodName) ⟨"NodalAuction$Program", "placeRow", "(IIII)V"⟩ ∈ z_good := z_inS 12 (by rfl) rfl
set_option maxRecDepth 20000 in
theorem ks_13 : Cond.selects "NodalAuction$Program" (⟨"NodalAuction$Program", "placeColumn", "(II)V"⟩ : MethodName) ⟨"NodalAuction$Program", "placeColumn", "(II)V"⟩ ∈ z_good := z_inS 13 (by rfl) rfl
set_option maxRecDepth 20000 in
theorem ks_14 : Cond.selects "NodalAuction$Grid" (⟨"NodalAuction$Grid", "share", "(II)J"⟩ : MethodName) ⟨"NodalAuction$Grid", "share", "(II)J"⟩ ∈ z_good := z_inS 14 (by rfl) rfl
set_option maxRecDepth 20000 in
theorem ks_15 : Cond.selects "NodalAuction$Program" (⟨"NodalAuction$Program", "maximise", "(I)V"⟩ : MethodName) ⟨"NodalAuction$Program", "maximise", "(I)V"⟩ ∈ z_good := z_inS 15 (by rfl) rfl
set_option maxRecDepth 20000 in
theorem ks_16 : Cond.selects "NodalAuction$Program" (⟨"NodalAuction$Program", "rowOf", "(I)I"⟩ : MethodName) ⟨"NodalAuction$Program", "rowOf", "(I)I"⟩ ∈ z_good := z_inS 16 (by rfl) rfl
set_option maxRecDepth 20000 in
theorem ks_17 : Cond.selects "NodalAuction$Program" (⟨"NodalAuction$Program", "firstGain", "(II)I"⟩ : MethodName) ⟨"NodalAuction$Program", "firstGain", "(II)I"⟩ ∈ z_good := z_inS 17 (by rfl) rfl
set_option maxRecDepth 20000 in
theorem ks_18 : Cond.selects "NodalAuction$Program" (⟨"NodalAuction$Program", "gain", "(III)J"⟩ : MethodName) ⟨"NodalAuction$Program", "gain", "(III)J"⟩ ∈ z_good := z_inS 18 (by rfl) rfl
set_option maxRecDepth 20000 in
theorem ks_19 : Cond.selects "NodalAuction$Program" (⟨"NodalAuction$Program", "canMove", "(IJ)Z"⟩ : MethodName) ⟨"NodalAuction$Program", "canMove", "(IJ)Z"⟩ ∈ z_good := z_inS 19 (by rfl) rfl
set_option maxRecDepth 20000 in
theorem ks_20 : Cond.selects "NodalAuction$Program" (⟨"NodalAuction$Program", "advance", "(IZ)V"⟩ : MethodName) ⟨"NodalAuction$Program", "advance", "(IZ)V"⟩ ∈ z_good := z_inS 20 (by rfl) rfl
set_option maxRecDepth 20000 in
theorem ks_21 : Cond.selects "NodalAuction$Program" (⟨"NodalAuction$Program", "roomOf", "(IZ)J"⟩ : MethodName) ⟨"NodalAuction$Program", "roomOf", "(IZ)J"⟩ ∈ z_good := z_inS 21 (by rfl) rfl
set_option maxRecDepth 20000 in
theorem ks_22 : Cond.selects "NodalAuction$Program" (⟨"NodalAuction$Program", "rowTop", "(I)J"⟩ : MethodName) ⟨"NodalAuction$Program", "rowTop", "(I)J"⟩ ∈ z_good := z_inS 22 (by rfl) rfl
set_option maxRecDepth 20000 in
theorem ks_23 : Cond.selects "NodalAuction$Program" (⟨"NodalAuction$Program", "pivot", "(II)V"⟩ : MethodName) ⟨"NodalAuction$Program", "pivot", "(II)V"⟩ ∈ z_good := z_inS 23 (by rfl) rfl
set_option maxRecDepth 20000 in
theorem ks_24 : Cond.selects "NodalAuction$Program" (⟨"NodalAuction$Program", "replaceRow", "(III)V"⟩ : MethodName) ⟨"NodalAuction$Program", "replaceRow", "(III)V"⟩ ∈ z_good := z_inS 24 (by rfl) rfl
set_option maxRecDepth 20000 in
theorem ks_25 : Cond.selects "NodalAuction$Outcome" (⟨"NodalAuction$Outcome", "take", "(LNodalAuction$Program;LNodalAuction$Grid;LNodalAuction$Book;)V"⟩ : MethodName) ⟨"NodalAuction$Outcome", "take", "(LNodalAuction$Program;LNodalAuction$Grid;LNodalAuction$Book;)V"⟩ ∈ z_good := z_inS 25 (by rfl) rfl
set_option maxRecDepth 20000 in
theorem ks_26 : Cond.selects "NodalAuction$Program" (⟨"NodalAuction$Program", "top", "(I)J"⟩ : MethodName) ⟨"NodalAuction$Program", "top", "(I)J"⟩ ∈ z_good := z_inS 26 (by rfl) rfl
set_option maxRecDepth 20000 in
theorem ks_27 : Cond.selects "NodalAuction$Outcome" (⟨"NodalAuction$Outcome", "taken", "(I)I"⟩ : MethodName) ⟨"NodalAuction$Outcome", "taken", "(I)I"⟩ ∈ z_good := z_inS 27 (by rfl) rfl
set_option maxRecDepth 20000 in
theorem ks_28 : Cond.selects "NodalAuction" (⟨"NodalAuction", "addOneAt", "(I)Z"⟩ : MethodName) ⟨"NodalAuction", "addOneAt", "(I)Z"⟩ ∈ z_good := z_inS 28 (by rfl) rfl
set_option maxRecDepth 20000 in
theorem ks_29 : Cond.selects "NodalAuction" (⟨"NodalAuction", "costTop", "()J"⟩ : MethodName) ⟨"NodalAuction", "costTop", "()J"⟩ ∈ z_good := z_inS 29 (by rfl) rfl
set_option maxRecDepth 20000 in
theorem ks_30 : Cond.selects "NodalAuction" (⟨"NodalAuction", "costBottom", "()J"⟩ : MethodName) ⟨"NodalAuction", "costBottom", "()J"⟩ ∈ z_good := z_inS 30 (by rfl) rfl
set_option maxRecDepth 20000 in
theorem ks_31 : Cond.selects "NodalAuction" (⟨"NodalAuction", "takePrices", "(IIII)Z"⟩ : MethodName) ⟨"NodalAuction", "takePrices", "(IIII)Z"⟩ ∈ z_good := z_inS 31 (by rfl) rfl
set_option maxRecDepth 20000 in
theorem ks_32 : Cond.selects "NodalAuction" (⟨"NodalAuction", "someStepLoses", "()Z"⟩ : MethodName) ⟨"NodalAuction", "someStepLoses", "()Z"⟩ ∈ z_good := z_inS 32 (by rfl) rfl
set_option maxRecDepth 20000 in
theorem ks_33 : Cond.selects "NodalAuction" (⟨"NodalAuction", "margin", "(I)I"⟩ : MethodName) ⟨"NodalAuction", "margin", "(I)I"⟩ ∈ z_good := z_inS 33 (by rfl) rfl
set_option maxRecDepth 20000 in
theorem ks_34 : Cond.selects "NodalAuction" (⟨"NodalAuction", "someStepWouldGain", "()Z"⟩ : MethodName) ⟨"NodalAuction", "someStepWouldGain", "()Z"⟩ ∈ z_good := z_inS 34 (by rfl) rfl
set_option maxRecDepth 20000 in
theorem ks_35 : Cond.selects "NodalAuction" (⟨"NodalAuction", "gridCarriesMore", "()Z"⟩ : MethodName) ⟨"NodalAuction", "gridCarriesMore", "()Z"⟩ ∈ z_good := z_inS 35 (by rfl) rfl
set_option maxRecDepth 20000 in
theorem ks_36 : Cond.selects "NodalAuction" (⟨"NodalAuction", "intakeWorth", "()J"⟩ : MethodName) ⟨"NodalAuction", "intakeWorth", "()J"⟩ ∈ z_good := z_inS 36 (by rfl) rfl
set_option maxRecDepth 20000 in
theorem ks_37 : Cond.selects "NodalAuctionModel" (⟨"NodalAuctionModel", "step", "(ZIII)I"⟩ : MethodName) ⟨"NodalAuctionModel", "step", "(ZIII)I"⟩ ∈ z_good := z_inS 37 (by rfl) rfl
set_option maxRecDepth 20000 in
theorem ks_38 : Cond.selects "NodalAuctionModel" (⟨"NodalAuctionModel", "connected", "()Z"⟩ : MethodName) ⟨"NodalAuctionModel", "connected", "()Z"⟩ ∈ z_good := z_inS 38 (by rfl) rfl
set_option maxRecDepth 20000 in
theorem ks_39 : Cond.selects "NodalAuctionModel" (⟨"NodalAuctionModel", "search", "(I)V"⟩ : MethodName) ⟨"NodalAuctionModel", "search", "(I)V"⟩ ∈ z_good := z_inS 39 (by rfl) rfl
set_option maxRecDepth 20000 in
theorem ks_40 : Cond.selects "NodalAuctionModel" (⟨"NodalAuctionModel", "arrange", "()V"⟩ : MethodName) ⟨"NodalAuctionModel", "arrange", "()V"⟩ ∈ z_good := z_inS 40 (by rfl) rfl
set_option maxRecDepth 20000 in
theorem ks_41 : Cond.selects "NodalAuctionModel" (⟨"NodalAuctionModel", "before", "(II)Z"⟩ : MethodName) ⟨"NodalAuctionModel", "before", "(II)Z"⟩ ∈ z_good := z_inS 41 (by rfl) rfl
set_option maxRecDepth 20000 in
theorem ks_42 : Cond.selects "NodalAuctionModel" (⟨"NodalAuctionModel", "linePlanes", "()V"⟩ : MethodName) ⟨"NodalAuctionModel", "linePlanes", "()V"⟩ ∈ z_good := z_inS 42 (by rfl) rfl
set_option maxRecDepth 20000 in
theorem ks_43 : Cond.selects "NodalAuctionModel" (⟨"NodalAuctionModel", "plane", "(J)V"⟩ : MethodName) ⟨"NodalAuctionModel", "plane", "(J)V"⟩ ∈ z_good := z_inS 43 (by rfl) rfl
set_option maxRecDepth 20000 in
theorem ks_44 : Cond.selects "NodalAuctionModel" (⟨"NodalAuctionModel", "nodePlanes", "(I)V"⟩ : MethodName) ⟨"NodalAuctionModel", "nodePlanes", "(I)V"⟩ ∈ z_good := z_inS 44 (by rfl) rfl
set_option maxRecDepth 20000 in
theorem ks_45 : Cond.selects "NodalAuctionModel" (⟨"NodalAuctionModel", "offered", "(I)J"⟩ : MethodName) ⟨"NodalAuctionModel", "offered", "(I)J"⟩ ∈ z_good := z_inS 45 (by rfl) rfl
set_option maxRecDepth 20000 in
theorem ks_46 : Cond.selects "NodalAuctionModel" (⟨"NodalAuctionModel", "meet", "(III)Z"⟩ : MethodName) ⟨"NodalAuctionModel", "meet", "(III)Z"⟩ ∈ z_good := z_inS 46 (by rfl) rfl
set_option maxRecDepth 20000 in
theorem ks_47 : Cond.selects "NodalAuctionModel" (⟨"NodalAuctionModel", "determinant", "(IIII)J"⟩ : MethodName) ⟨"NodalAuctionModel", "determinant", "(IIII)J"⟩ ∈ z_good := z_inS 47 (by rfl) rfl
set_option maxRecDepth 20000 in
theorem ks_48 : Cond.selects "NodalAuctionModel" (⟨"NodalAuctionModel", "cell", "(III)J"⟩ : MethodName) ⟨"NodalAuctionModel", "cell", "(III)J"⟩ ∈ z_good := z_inS 48 (by rfl) rfl
set_option maxRecDepth 20000 in
theorem ks_49 : Cond.selects "NodalAuctionModel" (⟨"NodalAuctionModel", "minor", "(IIIII)J"⟩ : MethodName) ⟨"NodalAuctionModel", "minor", "(IIIII)J"⟩ ∈ z_good := z_inS 49 (by rfl) rfl
set_option maxRecDepth 20000 in
theorem ks_50 : Cond.selects "NodalAuctionModel" (⟨"NodalAuctionModel", "linesHold", "()Z"⟩ : MethodName) ⟨"NodalAuctionModel", "linesHold", "()Z"⟩ ∈ z_good := z_inS 50 (by rfl) rfl
set_option maxRecDepth 20000 in
theorem ks_51 : Cond.selects "NodalAuctionModel" (⟨"NodalAuctionModel", "flowHere", "(I)J"⟩ : MethodName) ⟨"NodalAuctionModel", "flowHere", "(I)J"⟩ ∈ z_good := z_inS 51 (by rfl) rfl
set_option maxRecDepth 20000 in
theorem ks_52 : Cond.selects "NodalAuctionModel" (⟨"NodalAuctionModel", "useAll", "(I)Z"⟩ : MethodName) ⟨"NodalAuctionModel", "useAll", "(I)Z"⟩ ∈ z_good := z_inS 52 (by rfl) rfl
set_option maxRecDepth 20000 in
theorem ks_53 : Cond.selects "NodalAuctionModel" (⟨"NodalAuctionModel", "use", "(IJ)Z"⟩ : MethodName) ⟨"NodalAuctionModel", "use", "(IJ)Z"⟩ ∈ z_good := z_inS 53 (by rfl) rfl
set_option maxRecDepth 20000 in
theorem ks_54 : Cond.selects "NodalAuctionModel" (⟨"NodalAuctionModel", "brought", "(I)J"⟩ : MethodName) ⟨"NodalAuctionModel", "brought", "(I)J"⟩ ∈ z_good := z_inS 54 (by rfl) rfl
set_option maxRecDepth 20000 in
theorem ks_55 : Cond.selects "NodalAuctionModel" (⟨"NodalAuctionModel", "better", "()Z"⟩ : MethodName) ⟨"NodalAuctionModel", "better", "()Z"⟩ ∈ z_good := z_inS 55 (by rfl) rfl
set_option maxRecDepth 20000 in
theorem ks_56 : Cond.selects "NodalAuctionModel" (⟨"NodalAuctionModel", "keep", "()V"⟩ : MethodName) ⟨"NodalAuctionModel", "keep", "()V"⟩ ∈ z_good := z_inS 56 (by rfl) rfl
set_option maxRecDepth 20000 in
theorem ks_57 : Cond.selects "NodalAuctionModel" (⟨"NodalAuctionModel", "extra", "(I)Z"⟩ : MethodName) ⟨"NodalAuctionModel", "extra", "(I)Z"⟩ ∈ z_good := z_inS 57 (by rfl) rfl
set_option maxRecDepth 20000 in
theorem ks_58 : Cond.selects "NodalAuctionModel" (⟨"NodalAuctionModel", "bad", "(IIII)Z"⟩ : MethodName) ⟨"NodalAuctionModel", "bad", "(IIII)Z"⟩ ∈ z_good := z_inS 58 (by rfl) rfl
set_option maxRecDepth 20000 in
theorem ks_59 : Cond.selects "NodalAuctionModel" (⟨"NodalAuctionModel", "carriesMore", "(IIII)Z"⟩ : MethodName) ⟨"NodalAuctionModel", "carriesMore", "(IIII)Z"⟩ ∈ z_good := z_inS 59 (by rfl) rfl
theorem u_N : ∀ w ∈ u_ws R_N T_N 6, w ∈ z_good := fun w h => by
  have h : w ∈ [Cond.laysFinal "NodalAuction" "NodalAuction" "grid" "LNodalAuction$Grid;", Cond.laysFinal "NodalAuction" "NodalAuction" "book" "LNodalAuction$Book;", Cond.laysFinal "NodalAuction" "NodalAuction" "probe" "LNodalAuction$Book;", Cond.laysFinal "NodalAuction" "NodalAuction" "program" "LNodalAuction$Program;", Cond.laysFinal "NodalAuction" "NodalAuction" "outcome" "LNodalAuction$Outcome;", Cond.laysFinal "NodalAuction" "NodalAuction" "asked" "[I"] := h
  simp only [List.mem_cons, List.not_mem_nil, or_false] at h
  rcases h with rfl | rfl | rfl | rfl | rfl | rfl
  · exact k_164
  · exact k_166
  · exact k_168
  · exact k_170
  · exact k_172
  · exact k_174
theorem u_B : ∀ w ∈ u_ws R_B T_B 5, w ∈ z_good := fun w h => by
  have h : w ∈ [Cond.laysFinal "NodalAuction$Book" "NodalAuction$Book" "side" "[I", Cond.laysFinal "NodalAuction$Book" "NodalAuction$Book" "node" "[I", Cond.laysFinal "NodalAuction$Book" "NodalAuction$Book" "price" "[I", Cond.laysFinal "NodalAuction$Book" "NodalAuction$Book" "quantity" "[I", Cond.lays "NodalAuction$Book" "NodalAuction$Book" "count" "I"] := h
  simp only [List.mem_cons, List.not_mem_nil, or_false] at h
  rcases h with rfl | rfl | rfl | rfl | rfl
  · exact k_79
  · exact k_81
  · exact k_83
  · exact k_85
  · exact k_87
theorem u_G : ∀ w ∈ u_ws R_G T_G 8, w ∈ z_good := fun w h => by
  have h : w ∈ [Cond.laysFinal "NodalAuction$Grid" "NodalAuction$Grid" "first" "[I", Cond.laysFinal "NodalAuction$Grid" "NodalAuction$Grid" "second" "[I", Cond.laysFinal "NodalAuction$Grid" "NodalAuction$Grid" "force" "[I", Cond.laysFinal "NodalAuction$Grid" "NodalAuction$Grid" "most" "[I", Cond.lays "NodalAuction$Grid" "NodalAuction$Grid" "count" "I", Cond.laysFinal "NodalAuction$Grid" "NodalAuction$Grid" "laplacian" "[[J", Cond.laysFinal "NodalAuction$Grid" "NodalAuction$Grid" "adjugate" "[[J", Cond.lays "NodalAuction$Grid" "NodalAuction$Grid" "trees" "J"] := h
  simp only [List.mem_cons, List.not_mem_nil, or_false] at h
  rcases h with rfl | rfl | rfl | rfl | rfl | rfl | rfl | rfl
  · exact k_38
  · exact k_40
  · exact k_42
  · exact k_44
  · exact k_46
  · exact k_48
  · exact k_50
  · exact k_52
theorem u_O : ∀ w ∈ u_ws R_O T_O 5, w ∈ z_good := fun w h => by
  have h : w ∈ [Cond.laysFinal "NodalAuction$Outcome" "NodalAuction$Outcome" "amounts" "[I", Cond.laysFinal "NodalAuction$Outcome" "NodalAuction$Outcome" "flows" "[I", Cond.lays "NodalAuction$Outcome" "NodalAuction$Outcome" "present" "Z", Cond.lays "NodalAuction$Outcome" "NodalAuction$Outcome" "unit" "I", Cond.lays "NodalAuction$Outcome" "NodalAuction$Outcome" "worth" "J"] := h
  simp only [List.mem_cons, List.not_mem_nil, or_false] at h
  rcases h with rfl | rfl | rfl | rfl | rfl
  · exact k_147
  · exact k_149
  · exact k_151
  · exact k_153
  · exact k_155
theorem u_P : ∀ w ∈ u_ws R_P T_P 10, w ∈ z_good := fun w h => by
  have h : w ∈ [Cond.laysFinal "NodalAuction$Program" "NodalAuction$Program" "cell" "[[J", Cond.laysFinal "NodalAuction$Program" "NodalAuction$Program" "rowVariable" "[I", Cond.laysFinal "NodalAuction$Program" "NodalAuction$Program" "columnVariable" "[I", Cond.laysFinal "NodalAuction$Program" "NodalAuction$Program" "least" "[I", Cond.laysFinal "NodalAuction$Program" "NodalAuction$Program" "greatest" "[I", Cond.laysFinal "NodalAuction$Program" "NodalAuction$Program" "place" "[I", Cond.laysFinal "NodalAuction$Program" "NodalAuction$Program" "frozen" "[Z", Cond.lays "NodalAuction$Program" "NodalAuction$Program" "rows" "I", Cond.lays "NodalAuction$Program" "NodalAuction$Program" "columns" "I", Cond.lays "NodalAuction$Program" "NodalAuction$Program" "bottom" "J"] := h
  simp only [List.mem_cons, List.not_mem_nil, or_false] at h
  rcases h with rfl | rfl | rfl | rfl | rfl | rfl | rfl | rfl | rfl | rfl
  · exact k_109
  · exact k_111
  · exact k_113
  · exact k_115
  · exact k_117
  · exact k_119
  · exact k_121
  · exact k_123
  · exact k_125
  · exact k_127
theorem u_M : ∀ w ∈ u_ws R_M T_M 34, w ∈ z_good := fun w h => by
  have h : w ∈ [Cond.lays "NodalAuctionModel" "NodalAuctionModel" "lineCount" "I", Cond.lays "NodalAuctionModel" "NodalAuctionModel" "first" "[I", Cond.lays "NodalAuctionModel" "NodalAuctionModel" "second" "[I", Cond.lays "NodalAuctionModel" "NodalAuctionModel" "strength" "[I", Cond.lays "NodalAuctionModel" "NodalAuctionModel" "most" "[I", Cond.lays "NodalAuctionModel" "NodalAuctionModel" "stepCount" "I", Cond.lays "NodalAuctionModel" "NodalAuctionModel" "isBid" "[Z", Cond.lays "NodalAuctionModel" "NodalAuctionModel" "place" "[I", Cond.lays "NodalAuctionModel" "NodalAuctionModel" "price" "[I", Cond.lays "NodalAuctionModel" "NodalAuctionModel" "quantity" "[I", Cond.lays "NodalAuctionModel" "NodalAuctionModel" "turn" "[I", Cond.lays "NodalAuctionModel" "NodalAuctionModel" "planes" "I", Cond.lays "NodalAuctionModel" "NodalAuctionModel" "planeA" "[J", Cond.lays "NodalAuctionModel" "NodalAuctionModel" "planeB" "[J", Cond.lays "NodalAuctionModel" "NodalAuctionModel" "planeC" "[J", Cond.lays "NodalAuctionModel" "NodalAuctionModel" "planeD" "[J", Cond.lays "NodalAuctionModel" "NodalAuctionModel" "part" "[I", Cond.lays "NodalAuctionModel" "NodalAuctionModel" "bottom" "J", Cond.lays "NodalAuctionModel" "NodalAuctionModel" "height" "[J", Cond.lays "NodalAuctionModel" "NodalAuctionModel" "amount" "[J", Cond.lays "NodalAuctionModel" "NodalAuctionModel" "gain" "J", Cond.lays "NodalAuctionModel" "NodalAuctionModel" "some" "Z", Cond.lays "NodalAuctionModel" "NodalAuctionModel" "bestBottom" "J", Cond.lays "NodalAuctionModel" "NodalAuctionModel" "bestHeight" "[J", Cond.lays "NodalAuctionModel" "NodalAuctionModel" "bestAmount" "[J", Cond.lays "NodalAuctionModel" "NodalAuctionModel" "bestGain" "J", Cond.lays "NodalAuctionModel" "NodalAuctionModel" "there" "Z", Cond.lays "NodalAuctionModel" "NodalAuctionModel" "factor" "J", Cond.lays "NodalAuctionModel" "NodalAuctionModel" "taken" "[J", Cond.lays "NodalAuctionModel" "NodalAuctionModel" "carried" "[J", Cond.lays "NodalAuctionModel" "NodalAuctionModel" "worth" "J", Cond.lays "NodalAuctionModel" "NodalAuctionModel" "asked" "[Z", Cond.lays "NodalAuctionModel" "NodalAuctionModel" "fractionTop" "[J", Cond.lays "NodalAuctionModel" "NodalAuctionModel" "fractionBottom" "[J"] := h
  simp only [List.mem_cons, List.not_mem_nil, or_false] at h
  rcases h with rfl | rfl | rfl | rfl | rfl | rfl | rfl | rfl | rfl | rfl | rfl | rfl | rfl | rfl | rfl | rfl | rfl | rfl | rfl | rfl | rfl | rfl | rfl | rfl | rfl | rfl | rfl | rfl | rfl | rfl | rfl | rfl | rfl | rfl
  · exact k_464
  · exact k_466
  · exact k_468
  · exact k_470
  · exact k_472
  · exact k_474
  · exact k_476
  · exact k_478
  · exact k_480
  · exact k_482
  · exact k_484
  · exact k_486
  · exact k_488
  · exact k_490
  · exact k_492
  · exact k_494
  · exact k_496
  · exact k_498
  · exact k_500
  · exact k_502
  · exact k_504
  · exact k_506
  · exact k_508
  · exact k_510
  · exact k_512
  · exact k_514
  · exact k_516
  · exact k_518
  · exact k_520
  · exact k_522
  · exact k_524
  · exact k_526
  · exact k_528
  · exact k_530
end
section
/-! the context of a walk, rows of one instruction each at its level; X: the machine's fixed things; Ω: the classes' numbers, the array classes, the cells' addresses -/
abbrev z_X : Type := Program × Launch × Env × Room × State × MethodId × Array Value × List Frame × Method × Code
abbrev z_O : Type := va_G × (ClassId × ClassId × ClassId × ClassId) × (Nat → Nat)
abbrev z_S : Type := (Nat → Int32) × (Nat → Int64) × (Nat → Nat → Int32) × (Nat → Nat → Int64)
def z_tys (Ω : z_O) : List (ClassId × FieldType) := [(Ω.2.1.1, .int), (Ω.2.1.2.1, .long), (Ω.2.1.2.2.1, .boolean), (Ω.2.1.2.2.2, .array .long)]
def zu {α : Type} (f : Nat → α) (k : Nat) (v : α) : Nat → α := fun j => if j = k then v else f j
def gF (S : z_S) (k : Nat) : Int32 := S.1 k
def gG (S : z_S) (k : Nat) : Int64 := S.2.1 k
def gI (S : z_S) (k : Nat) : Nat → Int32 := S.2.2.1 k
def gJ (S : z_S) (k : Nat) : Nat → Int64 := S.2.2.2 k
def sF (S : z_S) (k : Nat) (v : Int32) : z_S := (zu S.1 k v, S.2.1, S.2.2.1, S.2.2.2)
def sG (S : z_S) (k : Nat) (v : Int64) : z_S := (S.1, zu S.2.1 k v, S.2.2.1, S.2.2.2)
def sI (S : z_S) (k : Nat) (v : Nat → Int32) : z_S := (S.1, S.2.1, zu S.2.2.1 k v, S.2.2.2)
def sJ (S : z_S) (k : Nat) (v : Nat → Int64) : z_S := (S.1, S.2.1, S.2.2.1, zu S.2.2.2 k v)
/-- an index in range, as a truth value; a check; a call -/
def vi (i : Int32) (n : Nat) : Bool := decide (0 ≤ i.toInt ∧ i.toInt < n)
def vz (v : Int32) : Bool := v == 0 || v == 1
def vn (y : Int64) : Bool := !(y == 0)
def vm (y : Int32) : Bool := !(y == 0)
def ck {α : Type} (b : Bool) (x : Option α) : Option α := if b = true then x else none
def bo {α β : Type} (x : Option (α × z_S)) (k : α → z_S → Option β) : Option β := match x with
  | some (v, S) => k v S
  | none => none
theorem vi_in {i : Int32} {n : Nat} (h : vi i n = true) : vp_in i n := vp_in_iff.mpr (of_decide_eq_true h)
theorem vi_lt {i : Int32} {n : Nat} (h : vi i n = true) : i.toNatClampNeg < n := Nat.not_le.mp fun q => vi_in h (Or.inr q)
theorem vz_or {v : Int32} (h : vz v = true) : v = 0 ∨ v = 1 := by
  simpa [vz, Bool.or_eq_true, beq_iff_eq] using h
theorem vz_n {v : Int32} (h : vz v = true) : narrow .boolean (.int v) = .int v := by
  rcases vz_or h with h | h <;> subst h <;> rfl
theorem vz_f {v : Int32} (h : vz v = true) : fits .boolean (.int v) = true := by
  rcases vz_or h with h | h <;> subst h <;> rfl
theorem vn_ne {y : Int64} (h : vn y = true) : ¬ y = 0 := by
  simpa [vn] using h
theorem vm_ne {y : Int32} (h : vm y = true) : ¬ y = 0 := by
  simpa [vm] using h
theorem ck_some {α : Type} {b : Bool} {x : Option α} {r : α} (h : ck b x = some r) : b = true ∧ x = some r := by
  unfold ck at h
  by_cases hb : b = true
  · rw [if_pos hb] at h; exact ⟨hb, h⟩
  · rw [if_neg hb] at h; cases h
theorem bo_some {α β : Type} {x : Option (α × z_S)} {k : α → z_S → Option β} {r : β} (h : bo x k = some r) : ∃ (v : α) (S : z_S), x = some (v, S) ∧ k v S = some r := by
  cases x with
  | none => cases h
  | some q => obtain ⟨v, S⟩ := q; exact ⟨v, S, rfl, h⟩
theorem z_goodIn {ws : List Cond} (h : ∀ w ∈ ws, w ∈ z_good) : GoodIn z_good ws := fun w hw => ⟨h w hw, good_of_word (List.mem_filter.mp (h w hw)).2⟩
theorem z_goodC {c : Cond} (h : c ∈ z_good) : GoodIn z_good (c :: z_good) := z_goodIn fun w hw => (List.mem_cons.mp hw).elim (fun e => e ▸ h) id
theorem z_nestW {s U : State} (hW : s.WarmedH U.vm) (h : ∀ w ∈ z_nest, va_Nw w s) : ∀ w ∈ z_nest, va_Nw w U := by
  intro w hw
  have h1 := (List.mem_filter.mp hw).2
  have h2 := h w hw
  cases w <;> first | exact va_Nw.warmM hW h2 | exact va_Nw.warmF hW h2 | (simp [z_isNest] at h1; done)
def z_C (X : z_X) (cc : ByteArray) (nL : Nat) (own : String) (Ω : z_O) : Prop := match X with
  | (p, _, _, _, s, m, args, _, _, c) => p.tables.exec = Jvm.exec ∧ c.code = cc ∧ c.maxLocals = nL ∧ s.vm.findClass own = some m.cls ∧ (∀ w ∈ z_good, w.before args s = true) ∧ va_K Ω.1 z_cl (z_tys Ω) s ∧ ∀ w ∈ z_nest, va_Nw w s
def z_R (X : z_X) (ret : Option FieldType) : Prop := match X with
  | (_, _, _, _, _, _, _, _, meth, _) => meth.sig.returnType = ret ∧ meth.locks = false
def z_At (X : z_X) (A : Nat → Prop) (Q : State → Prop) (Ω : z_O) (k n nL pc : Nat) (lv : List (Nat × Value)) (st : List Value) (w : va_W) : Prop := match X with
  | (p, l, e, R, s, m, args, below, meth, c) => ∀ (H : Heap) (locs : List Loc) (ls : Array Slot), va_P Ω.1 z_cl w H → va_D A w → va_S A s.heap H locs → lv_has ls nL lv → W p l e R s m args below meth c H locs k n Q (F0 m pc ls st)
def z_Pre (Ω : z_O) (w : va_W) (sz : Nat) (U : State) : Prop := U.heap.size = sz ∧ va_P Ω.1 z_cl w U.heap ∧ va_K Ω.1 z_cl (z_tys Ω) U ∧ va_D (fun _ => True) w ∧ ∀ x ∈ z_nest, va_Nw x U
def z_rm (fr lo : Nat) : Room := { frames := fr, cells := 0, slots := 0, locals := lo }
def z_Bq (Ω : z_O) (w' : va_W) (A : Nat → Prop) (_ : Unit) (t : State) : Prop := va_P Ω.1 z_cl w' t.heap ∧ va_D A w'
def z_MI (l : Launch) (Ω : z_O) (y : MethodName) (cc : ByteArray) (maxL : Nat) (rt : FieldType) (fr lo : Nat) (av : List Value) (w : va_W) (r : Int32) (w' : va_W) : Prop :=
  ∀ sz : Nat, Met l y (.code y cc maxL (some rt) :: z_good) (z_rm fr lo) (va_Pc av (z_Pre Ω w sz)) (va_Qi (fun x (_ : Unit) => x = r) (z_Bq Ω w' (va_A w sz)) (va_A w sz)) 0 0 (va_A w sz)
def z_ML (l : Launch) (Ω : z_O) (y : MethodName) (cc : ByteArray) (maxL : Nat) (rt : FieldType) (fr lo : Nat) (av : List Value) (w : va_W) (r : Int64) (w' : va_W) : Prop :=
  ∀ sz : Nat, Met l y (.code y cc maxL (some rt) :: z_good) (z_rm fr lo) (va_Pc av (z_Pre Ω w sz)) (va_Ql (fun x (_ : Unit) => x = r) (z_Bq Ω w' (va_A w sz)) (va_A w sz)) 0 0 (va_A w sz)
def z_MV (l : Launch) (Ω : z_O) (y : MethodName) (cc : ByteArray) (maxL : Nat) (fr lo : Nat) (av : List Value) (w w' : va_W) : Prop :=
  ∀ sz : Nat, Met l y (.code y cc maxL none :: z_good) (z_rm fr lo) (va_Pc av (z_Pre Ω w sz)) (va_Qv (fun (_ : Unit) => True) (z_Bq Ω w' (va_A w sz)) (va_A w sz)) 0 0 (va_A w sz)
def z_QI (X : z_X) (Ω : z_O) (A : Nat → Prop) (r : Int32) (w' : va_W) : State → Prop := match X with
  | (_, _, _, _, s, _, args, below, _, _) => MQ below (va_Qi (fun x (_ : Unit) => x = r) (z_Bq Ω w' A) A) args s 0 0 A
def z_QL (X : z_X) (Ω : z_O) (A : Nat → Prop) (r : Int64) (w' : va_W) : State → Prop := match X with
  | (_, _, _, _, s, _, args, below, _, _) => MQ below (va_Ql (fun x (_ : Unit) => x = r) (z_Bq Ω w' A) A) args s 0 0 A
def z_QV (X : z_X) (Ω : z_O) (A : Nat → Prop) (w' : va_W) : State → Prop := match X with
  | (_, _, _, _, s, _, args, below, _, _) => MQ below (va_Qv (fun (_ : Unit) => True) (z_Bq Ω w' A) A) args s 0 0 A
def z_rmOf (X : z_X) : Room := X.2.2.2.1
def z_lOf (X : z_X) : Launch := X.2.1
section ZROWS
variable {X : z_X} {A : Nat → Prop} {Q : State → Prop} {Ω : z_O} {k n nL pc q tgt tgt2 : Nat} {lv lv' : List (Nat × Value)} {st : List Value} {w : va_W} {cc : ByteArray} {own : String}
theorem z_iadd {x y : Int32} (hC : z_C X cc nL own Ω) (d : decode cc pc = .ok (.iadd, 1)) (hq : pc + 1 = q) (kk : z_At X A Q Ω k n nL q lv (.int (x + y) :: st) w) : z_At X A Q Ω k n nL pc lv (.int y :: .int x :: st) w := by
  subst hq
  obtain ⟨p, l, e, R, s, m, args, below, meth, c⟩ := X
  obtain ⟨hx, hb, hml, hown, hts, hK, hN⟩ := hC
  intro H locs ls hP hD hS hl
  exact lv_iadd hx hb d (kk H locs ls hP hD hS hl)
theorem z_isub {x y : Int32} (hC : z_C X cc nL own Ω) (d : decode cc pc = .ok (.isub, 1)) (hq : pc + 1 = q) (kk : z_At X A Q Ω k n nL q lv (.int (x - y) :: st) w) : z_At X A Q Ω k n nL pc lv (.int y :: .int x :: st) w := by
  subst hq
  obtain ⟨p, l, e, R, s, m, args, below, meth, c⟩ := X
  obtain ⟨hx, hb, hml, hown, hts, hK, hN⟩ := hC
  intro H locs ls hP hD hS hl
  exact lv_isub hx hb d (kk H locs ls hP hD hS hl)
theorem z_imul {x y : Int32} (hC : z_C X cc nL own Ω) (d : decode cc pc = .ok (.imul, 1)) (hq : pc + 1 = q) (kk : z_At X A Q Ω k n nL q lv (.int (x * y) :: st) w) : z_At X A Q Ω k n nL pc lv (.int y :: .int x :: st) w := by
  subst hq
  obtain ⟨p, l, e, R, s, m, args, below, meth, c⟩ := X
  obtain ⟨hx, hb, hml, hown, hts, hK, hN⟩ := hC
  intro H locs ls hP hD hS hl
  exact lv_imul hx hb d (kk H locs ls hP hD hS hl)
theorem z_iand {x y : Int32} (hC : z_C X cc nL own Ω) (d : decode cc pc = .ok (.iand, 1)) (hq : pc + 1 = q) (kk : z_At X A Q Ω k n nL q lv (.int (x &&& y) :: st) w) : z_At X A Q Ω k n nL pc lv (.int y :: .int x :: st) w := by
  subst hq
  obtain ⟨p, l, e, R, s, m, args, below, meth, c⟩ := X
  obtain ⟨hx, hb, hml, hown, hts, hK, hN⟩ := hC
  intro H locs ls hP hD hS hl
  exact lv_iand hx hb d (kk H locs ls hP hD hS hl)
theorem z_ior {x y : Int32} (hC : z_C X cc nL own Ω) (d : decode cc pc = .ok (.ior, 1)) (hq : pc + 1 = q) (kk : z_At X A Q Ω k n nL q lv (.int (x ||| y) :: st) w) : z_At X A Q Ω k n nL pc lv (.int y :: .int x :: st) w := by
  subst hq
  obtain ⟨p, l, e, R, s, m, args, below, meth, c⟩ := X
  obtain ⟨hx, hb, hml, hown, hts, hK, hN⟩ := hC
  intro H locs ls hP hD hS hl
  exact lv_ior hx hb d (kk H locs ls hP hD hS hl)
theorem z_ixor {x y : Int32} (hC : z_C X cc nL own Ω) (d : decode cc pc = .ok (.ixor, 1)) (hq : pc + 1 = q) (kk : z_At X A Q Ω k n nL q lv (.int (x ^^^ y) :: st) w) : z_At X A Q Ω k n nL pc lv (.int y :: .int x :: st) w := by
  subst hq
  obtain ⟨p, l, e, R, s, m, args, below, meth, c⟩ := X
  obtain ⟨hx, hb, hml, hown, hts, hK, hN⟩ := hC
  intro H locs ls hP hD hS hl
  exact lv_ixor hx hb d (kk H locs ls hP hD hS hl)
theorem z_ishl {x y : Int32} (hC : z_C X cc nL own Ω) (d : decode cc pc = .ok (.ishl, 1)) (hq : pc + 1 = q) (kk : z_At X A Q Ω k n nL q lv (.int (x <<< (y &&& 31)) :: st) w) : z_At X A Q Ω k n nL pc lv (.int y :: .int x :: st) w := by
  subst hq
  obtain ⟨p, l, e, R, s, m, args, below, meth, c⟩ := X
  obtain ⟨hx, hb, hml, hown, hts, hK, hN⟩ := hC
  intro H locs ls hP hD hS hl
  exact lv_ishl hx hb d (kk H locs ls hP hD hS hl)
theorem z_ladd {x y : Int64} (hC : z_C X cc nL own Ω) (d : decode cc pc = .ok (.ladd, 1)) (hq : pc + 1 = q) (kk : z_At X A Q Ω k n nL q lv (.long (x + y) :: st) w) : z_At X A Q Ω k n nL pc lv (.long y :: .long x :: st) w := by
  subst hq
  obtain ⟨p, l, e, R, s, m, args, below, meth, c⟩ := X
  obtain ⟨hx, hb, hml, hown, hts, hK, hN⟩ := hC
  intro H locs ls hP hD hS hl
  exact lv_ladd hx hb d (kk H locs ls hP hD hS hl)
theorem z_lsub {x y : Int64} (hC : z_C X cc nL own Ω) (d : decode cc pc = .ok (.lsub, 1)) (hq : pc + 1 = q) (kk : z_At X A Q Ω k n nL q lv (.long (x - y) :: st) w) : z_At X A Q Ω k n nL pc lv (.long y :: .long x :: st) w := by
  subst hq
  obtain ⟨p, l, e, R, s, m, args, below, meth, c⟩ := X
  obtain ⟨hx, hb, hml, hown, hts, hK, hN⟩ := hC
  intro H locs ls hP hD hS hl
  exact lv_lsub hx hb d (kk H locs ls hP hD hS hl)
theorem z_lmul {x y : Int64} (hC : z_C X cc nL own Ω) (d : decode cc pc = .ok (.lmul, 1)) (hq : pc + 1 = q) (kk : z_At X A Q Ω k n nL q lv (.long (x * y) :: st) w) : z_At X A Q Ω k n nL pc lv (.long y :: .long x :: st) w := by
  subst hq
  obtain ⟨p, l, e, R, s, m, args, below, meth, c⟩ := X
  obtain ⟨hx, hb, hml, hown, hts, hK, hN⟩ := hC
  intro H locs ls hP hD hS hl
  exact lv_lmul hx hb d (kk H locs ls hP hD hS hl)
theorem z_ldiv {x y : Int64} (hne : vn y = true) (hC : z_C X cc nL own Ω) (d : decode cc pc = .ok (.ldiv, 1)) (hq : pc + 1 = q) (kk : z_At X A Q Ω k n nL q lv (.long (x / y) :: st) w) : z_At X A Q Ω k n nL pc lv (.long y :: .long x :: st) w := by
  subst hq
  obtain ⟨p, l, e, R, s, m, args, below, meth, c⟩ := X
  obtain ⟨hx, hb, hml, hown, hts, hK, hN⟩ := hC
  intro H locs ls hP hD hS hl
  exact lv_ldiv hx hb d (vn_ne hne) (kk H locs ls hP hD hS hl)
theorem z_lrem {x y : Int64} (hne : vn y = true) (hC : z_C X cc nL own Ω) (d : decode cc pc = .ok (.lrem, 1)) (hq : pc + 1 = q) (kk : z_At X A Q Ω k n nL q lv (.long (x - x / y * y) :: st) w) : z_At X A Q Ω k n nL pc lv (.long y :: .long x :: st) w := by
  subst hq
  obtain ⟨p, l, e, R, s, m, args, below, meth, c⟩ := X
  obtain ⟨hx, hb, hml, hown, hts, hK, hN⟩ := hC
  intro H locs ls hP hD hS hl
  exact lv_lrem hx hb d (vn_ne hne) (kk H locs ls hP hD hS hl)
theorem z_idiv {x y : Int32} (hne : vm y = true) (hC : z_C X cc nL own Ω) (d : decode cc pc = .ok (.idiv, 1)) (hq : pc + 1 = q) (kk : z_At X A Q Ω k n nL q lv (.int (x / y) :: st) w) : z_At X A Q Ω k n nL pc lv (.int y :: .int x :: st) w := by
  subst hq
  obtain ⟨p, l, e, R, s, m, args, below, meth, c⟩ := X
  obtain ⟨hx, hb, hml, hown, hts, hK, hN⟩ := hC
  intro H locs ls hP hD hS hl
  exact lv_idiv hx hb d (vm_ne hne) (kk H locs ls hP hD hS hl)
theorem z_irem {x y : Int32} (hne : vm y = true) (hC : z_C X cc nL own Ω) (d : decode cc pc = .ok (.irem, 1)) (hq : pc + 1 = q) (kk : z_At X A Q Ω k n nL q lv (.int (x - x / y * y) :: st) w) : z_At X A Q Ω k n nL pc lv (.int y :: .int x :: st) w := by
  subst hq
  obtain ⟨p, l, e, R, s, m, args, below, meth, c⟩ := X
  obtain ⟨hx, hb, hml, hown, hts, hK, hN⟩ := hC
  intro H locs ls hP hD hS hl
  exact lv_irem hx hb d (vm_ne hne) (kk H locs ls hP hD hS hl)
theorem z_ineg {x : Int32} (hC : z_C X cc nL own Ω) (d : decode cc pc = .ok (.ineg, 1)) (hq : pc + 1 = q) (kk : z_At X A Q Ω k n nL q lv (.int (-x) :: st) w) : z_At X A Q Ω k n nL pc lv (.int x :: st) w := by
  subst hq
  obtain ⟨p, l, e, R, s, m, args, below, meth, c⟩ := X
  obtain ⟨hx, hb, hml, hown, hts, hK, hN⟩ := hC
  intro H locs ls hP hD hS hl
  exact lv_ineg hx hb d (kk H locs ls hP hD hS hl)
theorem z_lneg {x : Int64} (hC : z_C X cc nL own Ω) (d : decode cc pc = .ok (.lneg, 1)) (hq : pc + 1 = q) (kk : z_At X A Q Ω k n nL q lv (.long (-x) :: st) w) : z_At X A Q Ω k n nL pc lv (.long x :: st) w := by
  subst hq
  obtain ⟨p, l, e, R, s, m, args, below, meth, c⟩ := X
  obtain ⟨hx, hb, hml, hown, hts, hK, hN⟩ := hC
  intro H locs ls hP hD hS hl
  exact lv_lneg hx hb d (kk H locs ls hP hD hS hl)
theorem z_i2l {x : Int32} (hC : z_C X cc nL own Ω) (d : decode cc pc = .ok (.i2l, 1)) (hq : pc + 1 = q) (kk : z_At X A Q Ω k n nL q lv (.long x.toInt64 :: st) w) : z_At X A Q Ω k n nL pc lv (.int x :: st) w := by
  subst hq
  obtain ⟨p, l, e, R, s, m, args, below, meth, c⟩ := X
  obtain ⟨hx, hb, hml, hown, hts, hK, hN⟩ := hC
  intro H locs ls hP hD hS hl
  exact lv_i2l hx hb d rfl (kk H locs ls hP hD hS hl)
theorem z_l2i {x : Int64} (hC : z_C X cc nL own Ω) (d : decode cc pc = .ok (.l2i, 1)) (hq : pc + 1 = q) (kk : z_At X A Q Ω k n nL q lv (.int x.toInt32 :: st) w) : z_At X A Q Ω k n nL pc lv (.long x :: st) w := by
  subst hq
  obtain ⟨p, l, e, R, s, m, args, below, meth, c⟩ := X
  obtain ⟨hx, hb, hml, hown, hts, hK, hN⟩ := hC
  intro H locs ls hP hD hS hl
  exact lv_l2i hx hb d rfl (kk H locs ls hP hD hS hl)
theorem z_iconst {z : Int} {v : Int32} (hv : Int32.ofInt z = v) (hC : z_C X cc nL own Ω) (d : decode cc pc = .ok (.iconst z, 1)) (hq : pc + 1 = q) (kk : z_At X A Q Ω k n nL q lv (.int v :: st) w) : z_At X A Q Ω k n nL pc lv (st) w := by
  subst hq
  obtain ⟨p, l, e, R, s, m, args, below, meth, c⟩ := X
  obtain ⟨hx, hb, hml, hown, hts, hK, hN⟩ := hC
  intro H locs ls hP hD hS hl
  exact lv_iconst hx hb d hv (kk H locs ls hP hD hS hl)
theorem z_bipush {z : Int} {v : Int32} (hv : (Int8.ofInt z).toInt32 = v) (hC : z_C X cc nL own Ω) (d : decode cc pc = .ok (.bipush z, 2)) (hq : pc + 2 = q) (kk : z_At X A Q Ω k n nL q lv (.int v :: st) w) : z_At X A Q Ω k n nL pc lv (st) w := by
  subst hq
  obtain ⟨p, l, e, R, s, m, args, below, meth, c⟩ := X
  obtain ⟨hx, hb, hml, hown, hts, hK, hN⟩ := hC
  intro H locs ls hP hD hS hl
  exact lv_bipush hx hb d hv (kk H locs ls hP hD hS hl)
theorem z_sipush {z : Int} {v : Int32} (hv : (Int16.ofInt z).toInt32 = v) (hC : z_C X cc nL own Ω) (d : decode cc pc = .ok (.sipush z, 3)) (hq : pc + 3 = q) (kk : z_At X A Q Ω k n nL q lv (.int v :: st) w) : z_At X A Q Ω k n nL pc lv (st) w := by
  subst hq
  obtain ⟨p, l, e, R, s, m, args, below, meth, c⟩ := X
  obtain ⟨hx, hb, hml, hown, hts, hK, hN⟩ := hC
  intro H locs ls hP hD hS hl
  exact lv_sipush hx hb d hv (kk H locs ls hP hD hS hl)
theorem z_lconst {z : Fin 2} {v : Int64} (hv : Int64.ofNat (z : Nat) = v) (hC : z_C X cc nL own Ω) (d : decode cc pc = .ok (.lconst z, 1)) (hq : pc + 1 = q) (kk : z_At X A Q Ω k n nL q lv (.long v :: st) w) : z_At X A Q Ω k n nL pc lv (st) w := by
  subst hq
  obtain ⟨p, l, e, R, s, m, args, below, meth, c⟩ := X
  obtain ⟨hx, hb, hml, hown, hts, hK, hN⟩ := hC
  intro H locs ls hP hD hS hl
  exact lv_lconst hx hb d hv (kk H locs ls hP hD hS hl)
theorem z_ldc {ix : Nat} {v : Int32} (hc : Cond.constant own ix v ∈ z_good) (hC : z_C X cc nL own Ω) (d : decode cc pc = .ok (.ldc ix, 2)) (hq : pc + 2 = q) (kk : z_At X A Q Ω k n nL q lv (.int v :: st) w) : z_At X A Q Ω k n nL pc lv (st) w := by
  subst hq
  obtain ⟨p, l, e, R, s, m, args, below, meth, c⟩ := X
  obtain ⟨hx, hb, hml, hown, hts, hK, hN⟩ := hC
  intro H locs ls hP hD hS hl
  exact lv_ldc hx hb hown (hts _ hc) d (kk H locs ls hP hD hS hl)
theorem z_ldc2 {ix : Nat} {v : Int64} (hc : Cond.constantLong own ix v ∈ z_good) (hC : z_C X cc nL own Ω) (d : decode cc pc = .ok (.ldc2_w ix, 3)) (hq : pc + 3 = q) (kk : z_At X A Q Ω k n nL q lv (.long v :: st) w) : z_At X A Q Ω k n nL pc lv (st) w := by
  subst hq
  obtain ⟨p, l, e, R, s, m, args, below, meth, c⟩ := X
  obtain ⟨hx, hb, hml, hown, hts, hK, hN⟩ := hC
  intro H locs ls hP hD hS hl
  exact lv_ldc2 hx hb hown (hts _ hc) d (kk H locs ls hP hD hS hl)
theorem z_iload_n {j : Fin 4} {i : Nat} {x : Int32} (hi : (j : Nat) = i) (g : Nat) (hg : lv[g]? = some (i, .int x)) (hC : z_C X cc nL own Ω) (d : decode cc pc = .ok (.iload_n j, 1)) (hq : pc + 1 = q) (kk : z_At X A Q Ω k n nL q lv (.int x :: st) w) : z_At X A Q Ω k n nL pc lv (st) w := by
  subst hq
  obtain ⟨p, l, e, R, s, m, args, below, meth, c⟩ := X
  obtain ⟨hx, hb, hml, hown, hts, hK, hN⟩ := hC
  intro H locs ls hP hD hS hl
  exact lv_iload_n hx hb d hi (lv_at hl g hg) (kk H locs ls hP hD hS hl)
theorem z_iload {i : Nat} {x : Int32} (g : Nat) (hg : lv[g]? = some (i, .int x)) (hC : z_C X cc nL own Ω) (d : decode cc pc = .ok (.iload i, 2)) (hq : pc + 2 = q) (kk : z_At X A Q Ω k n nL q lv (.int x :: st) w) : z_At X A Q Ω k n nL pc lv (st) w := by
  subst hq
  obtain ⟨p, l, e, R, s, m, args, below, meth, c⟩ := X
  obtain ⟨hx, hb, hml, hown, hts, hK, hN⟩ := hC
  intro H locs ls hP hD hS hl
  exact lv_iload hx hb d (lv_at hl g hg) (kk H locs ls hP hD hS hl)
theorem z_lload_n {j : Fin 4} {i : Nat} {x : Int64} (hi : (j : Nat) = i) (g : Nat) (hg : lv[g]? = some (i, .long x)) (hC : z_C X cc nL own Ω) (d : decode cc pc = .ok (.lload_n j, 1)) (hq : pc + 1 = q) (kk : z_At X A Q Ω k n nL q lv (.long x :: st) w) : z_At X A Q Ω k n nL pc lv (st) w := by
  subst hq
  obtain ⟨p, l, e, R, s, m, args, below, meth, c⟩ := X
  obtain ⟨hx, hb, hml, hown, hts, hK, hN⟩ := hC
  intro H locs ls hP hD hS hl
  exact lv_lload_n hx hb d hi (lv_at hl g hg) (kk H locs ls hP hD hS hl)
theorem z_lload {i : Nat} {x : Int64} (g : Nat) (hg : lv[g]? = some (i, .long x)) (hC : z_C X cc nL own Ω) (d : decode cc pc = .ok (.lload i, 2)) (hq : pc + 2 = q) (kk : z_At X A Q Ω k n nL q lv (.long x :: st) w) : z_At X A Q Ω k n nL pc lv (st) w := by
  subst hq
  obtain ⟨p, l, e, R, s, m, args, below, meth, c⟩ := X
  obtain ⟨hx, hb, hml, hown, hts, hK, hN⟩ := hC
  intro H locs ls hP hD hS hl
  exact lv_lload hx hb d (lv_at hl g hg) (kk H locs ls hP hD hS hl)
theorem z_aload_n {j : Fin 4} {i : Nat} {x : Nat} (hi : (j : Nat) = i) (g : Nat) (hg : lv[g]? = some (i, .ref x)) (hC : z_C X cc nL own Ω) (d : decode cc pc = .ok (.aload_n j, 1)) (hq : pc + 1 = q) (kk : z_At X A Q Ω k n nL q lv (.ref x :: st) w) : z_At X A Q Ω k n nL pc lv (st) w := by
  subst hq
  obtain ⟨p, l, e, R, s, m, args, below, meth, c⟩ := X
  obtain ⟨hx, hb, hml, hown, hts, hK, hN⟩ := hC
  intro H locs ls hP hD hS hl
  exact lv_aload_n hx hb d hi (lv_at hl g hg) (kk H locs ls hP hD hS hl)
theorem z_aload {i : Nat} {x : Nat} (g : Nat) (hg : lv[g]? = some (i, .ref x)) (hC : z_C X cc nL own Ω) (d : decode cc pc = .ok (.aload i, 2)) (hq : pc + 2 = q) (kk : z_At X A Q Ω k n nL q lv (.ref x :: st) w) : z_At X A Q Ω k n nL pc lv (st) w := by
  subst hq
  obtain ⟨p, l, e, R, s, m, args, below, meth, c⟩ := X
  obtain ⟨hx, hb, hml, hown, hts, hK, hN⟩ := hC
  intro H locs ls hP hD hS hl
  exact lv_aload hx hb d (lv_at hl g hg) (kk H locs ls hP hD hS hl)
theorem z_istore_n {j : Fin 4} {i : Nat} {x : Int32} (hi : (j : Nat) = i) (hn : i < nL) (hf : (i, Value.int x) :: lv.filter (fun q => !(q.1 == i) && !(q.1 + 1 == i && q.2.category == 2)) = lv') (hC : z_C X cc nL own Ω) (d : decode cc pc = .ok (.istore_n j, 1)) (hq : pc + 1 = q) (kk : z_At X A Q Ω k n nL q lv' (st) w) : z_At X A Q Ω k n nL pc lv (.int x :: st) w := by
  subst hq
  obtain ⟨p, l, e, R, s, m, args, below, meth, c⟩ := X
  obtain ⟨hx, hb, hml, hown, hts, hK, hN⟩ := hC
  intro H locs ls hP hD hS hl
  exact lv_istore_n hx hb d hi hl hn hf (fun ls' h' => kk H locs ls' hP hD hS h')
theorem z_istore {i : Nat} {x : Int32} (hn : i < nL) (hf : (i, Value.int x) :: lv.filter (fun q => !(q.1 == i) && !(q.1 + 1 == i && q.2.category == 2)) = lv') (hC : z_C X cc nL own Ω) (d : decode cc pc = .ok (.istore i, 2)) (hq : pc + 2 = q) (kk : z_At X A Q Ω k n nL q lv' (st) w) : z_At X A Q Ω k n nL pc lv (.int x :: st) w := by
  subst hq
  obtain ⟨p, l, e, R, s, m, args, below, meth, c⟩ := X
  obtain ⟨hx, hb, hml, hown, hts, hK, hN⟩ := hC
  intro H locs ls hP hD hS hl
  exact lv_istore hx hb d hl hn hf (fun ls' h' => kk H locs ls' hP hD hS h')
theorem z_lstore_n {j : Fin 4} {i : Nat} {x : Int64} (hi : (j : Nat) = i) (hn : i + 1 < nL) (hf : (i, Value.long x) :: lv.filter (fun q => !(q.1 == i) && (!(q.1 == i + 1) && !(q.1 + 1 == i && q.2.category == 2))) = lv') (hC : z_C X cc nL own Ω) (d : decode cc pc = .ok (.lstore_n j, 1)) (hq : pc + 1 = q) (kk : z_At X A Q Ω k n nL q lv' (st) w) : z_At X A Q Ω k n nL pc lv (.long x :: st) w := by
  subst hq
  obtain ⟨p, l, e, R, s, m, args, below, meth, c⟩ := X
  obtain ⟨hx, hb, hml, hown, hts, hK, hN⟩ := hC
  intro H locs ls hP hD hS hl
  exact lv_lstore_n hx hb d hi hl hn hf (fun ls' h' => kk H locs ls' hP hD hS h')
theorem z_lstore {i : Nat} {x : Int64} (hn : i + 1 < nL) (hf : (i, Value.long x) :: lv.filter (fun q => !(q.1 == i) && (!(q.1 == i + 1) && !(q.1 + 1 == i && q.2.category == 2))) = lv') (hC : z_C X cc nL own Ω) (d : decode cc pc = .ok (.lstore i, 2)) (hq : pc + 2 = q) (kk : z_At X A Q Ω k n nL q lv' (st) w) : z_At X A Q Ω k n nL pc lv (.long x :: st) w := by
  subst hq
  obtain ⟨p, l, e, R, s, m, args, below, meth, c⟩ := X
  obtain ⟨hx, hb, hml, hown, hts, hK, hN⟩ := hC
  intro H locs ls hP hD hS hl
  exact lv_lstore hx hb d hl hn hf (fun ls' h' => kk H locs ls' hP hD hS h')
theorem z_astore_n {j : Fin 4} {i : Nat} {x : Nat} (hi : (j : Nat) = i) (hn : i < nL) (hf : (i, Value.ref x) :: lv.filter (fun q => !(q.1 == i) && !(q.1 + 1 == i && q.2.category == 2)) = lv') (hC : z_C X cc nL own Ω) (d : decode cc pc = .ok (.astore_n j, 1)) (hq : pc + 1 = q) (kk : z_At X A Q Ω k n nL q lv' (st) w) : z_At X A Q Ω k n nL pc lv (.ref x :: st) w := by
  subst hq
  obtain ⟨p, l, e, R, s, m, args, below, meth, c⟩ := X
  obtain ⟨hx, hb, hml, hown, hts, hK, hN⟩ := hC
  intro H locs ls hP hD hS hl
  exact lv_astore_n hx hb d hi hl hn hf (fun ls' h' => kk H locs ls' hP hD hS h')
theorem z_astore {i : Nat} {x : Nat} (hn : i < nL) (hf : (i, Value.ref x) :: lv.filter (fun q => !(q.1 == i) && !(q.1 + 1 == i && q.2.category == 2)) = lv') (hC : z_C X cc nL own Ω) (d : decode cc pc = .ok (.astore i, 2)) (hq : pc + 2 = q) (kk : z_At X A Q Ω k n nL q lv' (st) w) : z_At X A Q Ω k n nL pc lv (.ref x :: st) w := by
  subst hq
  obtain ⟨p, l, e, R, s, m, args, below, meth, c⟩ := X
  obtain ⟨hx, hb, hml, hown, hts, hK, hN⟩ := hC
  intro H locs ls hP hD hS hl
  exact lv_astore hx hb d hl hn hf (fun ls' h' => kk H locs ls' hP hD hS h')
theorem z_iinc {i : Nat} {z : Int} {x v : Int32} (g : Nat) (hg : lv[g]? = some (i, .int x)) (hv : x + Int32.ofInt z = v) (hn : i < nL) (hf : (i, Value.int v) :: lv.filter (fun q => !(q.1 == i) && !(q.1 + 1 == i && q.2.category == 2)) = lv') (hC : z_C X cc nL own Ω) (d : decode cc pc = .ok (.iinc i z, 3)) (hq : pc + 3 = q) (kk : z_At X A Q Ω k n nL q lv' (st) w) : z_At X A Q Ω k n nL pc lv (st) w := by
  subst hq
  obtain ⟨p, l, e, R, s, m, args, below, meth, c⟩ := X
  obtain ⟨hx, hb, hml, hown, hts, hK, hN⟩ := hC
  intro H locs ls hP hD hS hl
  exact lv_iinc hx hb d hl hg hv hn hf (fun ls' h' => kk H locs ls' hP hD hS h')
theorem z_dup {va : Value} (hva : va.category = 1) (hC : z_C X cc nL own Ω) (d : decode cc pc = .ok (.dup, 1)) (hq : pc + 1 = q) (kk : z_At X A Q Ω k n nL q lv (va :: va :: st) w) : z_At X A Q Ω k n nL pc lv (va :: st) w := by
  subst hq
  obtain ⟨p, l, e, R, s, m, args, below, meth, c⟩ := X
  obtain ⟨hx, hb, hml, hown, hts, hK, hN⟩ := hC
  intro H locs ls hP hD hS hl
  exact lv_dup hx hb d hva (kk H locs ls hP hD hS hl)
theorem z_pop {va : Value} (hva : va.category = 1) (hC : z_C X cc nL own Ω) (d : decode cc pc = .ok (.pop, 1)) (hq : pc + 1 = q) (kk : z_At X A Q Ω k n nL q lv (st) w) : z_At X A Q Ω k n nL pc lv (va :: st) w := by
  subst hq
  obtain ⟨p, l, e, R, s, m, args, below, meth, c⟩ := X
  obtain ⟨hx, hb, hml, hown, hts, hK, hN⟩ := hC
  intro H locs ls hP hD hS hl
  exact lv_pop hx hb d hva (kk H locs ls hP hD hS hl)
theorem z_dup2_11 {va vb : Value} (hva : va.category = 1) (hvb : vb.category = 1) (hC : z_C X cc nL own Ω) (d : decode cc pc = .ok (.dup2, 1)) (hq : pc + 1 = q) (kk : z_At X A Q Ω k n nL q lv (va :: vb :: va :: vb :: st) w) : z_At X A Q Ω k n nL pc lv (va :: vb :: st) w := by
  subst hq
  obtain ⟨p, l, e, R, s, m, args, below, meth, c⟩ := X
  obtain ⟨hx, hb, hml, hown, hts, hK, hN⟩ := hC
  intro H locs ls hP hD hS hl
  exact lv_dup2_11 hx hb d hva hvb (kk H locs ls hP hD hS hl)
theorem z_if_eq {x : Int32} {off : Int} (hC : z_C X cc nL own Ω) (d : decode cc pc = .ok (.ifCond .eq off, 3)) (ht : (pc : Int) + off = (tgt : Int)) (hq : pc + 3 = q) (kt : x = 0 → z_At X A Q Ω k n nL tgt lv st w) (kf : ¬ x = 0 → z_At X A Q Ω k n nL q lv st w) : z_At X A Q Ω k n nL pc lv (.int x :: st) w := by
  subst hq
  obtain ⟨p, l, e, R, s, m, args, below, meth, c⟩ := X
  obtain ⟨hx, hb, hml, hown, hts, hK, hN⟩ := hC
  intro H locs ls hP hD hS hl
  exact lv_if_eq hx hb d ht (fun h => kt h H locs ls hP hD hS hl) (fun h => kf h H locs ls hP hD hS hl)
theorem z_icmp_eq {x y : Int32} {off : Int} (hC : z_C X cc nL own Ω) (d : decode cc pc = .ok (.if_icmp .eq off, 3)) (ht : (pc : Int) + off = (tgt : Int)) (hq : pc + 3 = q) (kt : x = y → z_At X A Q Ω k n nL tgt lv st w) (kf : ¬ x = y → z_At X A Q Ω k n nL q lv st w) : z_At X A Q Ω k n nL pc lv (.int y :: .int x :: st) w := by
  subst hq
  obtain ⟨p, l, e, R, s, m, args, below, meth, c⟩ := X
  obtain ⟨hx, hb, hml, hown, hts, hK, hN⟩ := hC
  intro H locs ls hP hD hS hl
  exact lv_icmp_eq hx hb d ht (fun h => kt h H locs ls hP hD hS hl) (fun h => kf h H locs ls hP hD hS hl)
theorem z_lcmp_eq {x y : Int64} {off : Int} {pc1 : Nat} (hC : z_C X cc nL own Ω) (d1 : decode cc pc = .ok (.lcmp, 1)) (hp : pc + 1 = pc1) (d : decode cc pc1 = .ok (.ifCond .eq off, 3)) (ht : (pc1 : Int) + off = (tgt : Int)) (hq : pc1 + 3 = q) (kt : x = y → z_At X A Q Ω k n nL tgt lv st w) (kf : ¬ x = y → z_At X A Q Ω k n nL q lv st w) : z_At X A Q Ω k n nL pc lv (.long y :: .long x :: st) w := by
  subst hp
  subst hq
  obtain ⟨p, l, e, R, s, m, args, below, meth, c⟩ := X
  obtain ⟨hx, hb, hml, hown, hts, hK, hN⟩ := hC
  intro H locs ls hP hD hS hl
  exact W.lcmp hx hb d1 (lv_if_eq hx hb d ht (fun h => kt ((lg_cmp_eq x y).mp h) H locs ls hP hD hS hl) (fun h => kf (fun g => h ((lg_cmp_eq x y).mpr g)) H locs ls hP hD hS hl))
theorem z_if_ne {x : Int32} {off : Int} (hC : z_C X cc nL own Ω) (d : decode cc pc = .ok (.ifCond .ne off, 3)) (ht : (pc : Int) + off = (tgt : Int)) (hq : pc + 3 = q) (kt : ¬ x = 0 → z_At X A Q Ω k n nL tgt lv st w) (kf : x = 0 → z_At X A Q Ω k n nL q lv st w) : z_At X A Q Ω k n nL pc lv (.int x :: st) w := by
  subst hq
  obtain ⟨p, l, e, R, s, m, args, below, meth, c⟩ := X
  obtain ⟨hx, hb, hml, hown, hts, hK, hN⟩ := hC
  intro H locs ls hP hD hS hl
  exact lv_if_ne hx hb d ht (fun h => kt h H locs ls hP hD hS hl) (fun h => kf h H locs ls hP hD hS hl)
theorem z_icmp_ne {x y : Int32} {off : Int} (hC : z_C X cc nL own Ω) (d : decode cc pc = .ok (.if_icmp .ne off, 3)) (ht : (pc : Int) + off = (tgt : Int)) (hq : pc + 3 = q) (kt : ¬ x = y → z_At X A Q Ω k n nL tgt lv st w) (kf : x = y → z_At X A Q Ω k n nL q lv st w) : z_At X A Q Ω k n nL pc lv (.int y :: .int x :: st) w := by
  subst hq
  obtain ⟨p, l, e, R, s, m, args, below, meth, c⟩ := X
  obtain ⟨hx, hb, hml, hown, hts, hK, hN⟩ := hC
  intro H locs ls hP hD hS hl
  exact lv_icmp_ne hx hb d ht (fun h => kt h H locs ls hP hD hS hl) (fun h => kf h H locs ls hP hD hS hl)
theorem z_lcmp_ne {x y : Int64} {off : Int} {pc1 : Nat} (hC : z_C X cc nL own Ω) (d1 : decode cc pc = .ok (.lcmp, 1)) (hp : pc + 1 = pc1) (d : decode cc pc1 = .ok (.ifCond .ne off, 3)) (ht : (pc1 : Int) + off = (tgt : Int)) (hq : pc1 + 3 = q) (kt : ¬ x = y → z_At X A Q Ω k n nL tgt lv st w) (kf : x = y → z_At X A Q Ω k n nL q lv st w) : z_At X A Q Ω k n nL pc lv (.long y :: .long x :: st) w := by
  subst hp
  subst hq
  obtain ⟨p, l, e, R, s, m, args, below, meth, c⟩ := X
  obtain ⟨hx, hb, hml, hown, hts, hK, hN⟩ := hC
  intro H locs ls hP hD hS hl
  exact W.lcmp hx hb d1 (lv_if_ne hx hb d ht (fun h => kt (fun g => h ((lg_cmp_eq x y).mpr g)) H locs ls hP hD hS hl) (fun h => kf ((lg_cmp_eq x y).mp h) H locs ls hP hD hS hl))
theorem z_if_lt {x : Int32} {off : Int} (hC : z_C X cc nL own Ω) (d : decode cc pc = .ok (.ifCond .lt off, 3)) (ht : (pc : Int) + off = (tgt : Int)) (hq : pc + 3 = q) (kt : x < 0 → z_At X A Q Ω k n nL tgt lv st w) (kf : ¬ x < 0 → z_At X A Q Ω k n nL q lv st w) : z_At X A Q Ω k n nL pc lv (.int x :: st) w := by
  subst hq
  obtain ⟨p, l, e, R, s, m, args, below, meth, c⟩ := X
  obtain ⟨hx, hb, hml, hown, hts, hK, hN⟩ := hC
  intro H locs ls hP hD hS hl
  exact lv_if_lt hx hb d ht (fun h => kt h H locs ls hP hD hS hl) (fun h => kf h H locs ls hP hD hS hl)
theorem z_icmp_lt {x y : Int32} {off : Int} (hC : z_C X cc nL own Ω) (d : decode cc pc = .ok (.if_icmp .lt off, 3)) (ht : (pc : Int) + off = (tgt : Int)) (hq : pc + 3 = q) (kt : x < y → z_At X A Q Ω k n nL tgt lv st w) (kf : ¬ x < y → z_At X A Q Ω k n nL q lv st w) : z_At X A Q Ω k n nL pc lv (.int y :: .int x :: st) w := by
  subst hq
  obtain ⟨p, l, e, R, s, m, args, below, meth, c⟩ := X
  obtain ⟨hx, hb, hml, hown, hts, hK, hN⟩ := hC
  intro H locs ls hP hD hS hl
  exact lv_icmp_lt hx hb d ht (fun h => kt h H locs ls hP hD hS hl) (fun h => kf h H locs ls hP hD hS hl)
theorem z_lcmp_lt {x y : Int64} {off : Int} {pc1 : Nat} (hC : z_C X cc nL own Ω) (d1 : decode cc pc = .ok (.lcmp, 1)) (hp : pc + 1 = pc1) (d : decode cc pc1 = .ok (.ifCond .lt off, 3)) (ht : (pc1 : Int) + off = (tgt : Int)) (hq : pc1 + 3 = q) (kt : x < y → z_At X A Q Ω k n nL tgt lv st w) (kf : ¬ x < y → z_At X A Q Ω k n nL q lv st w) : z_At X A Q Ω k n nL pc lv (.long y :: .long x :: st) w := by
  subst hp
  subst hq
  obtain ⟨p, l, e, R, s, m, args, below, meth, c⟩ := X
  obtain ⟨hx, hb, hml, hown, hts, hK, hN⟩ := hC
  intro H locs ls hP hD hS hl
  exact W.lcmp hx hb d1 (lv_if_lt hx hb d ht (fun h => kt ((lg_cmp_lt x y).mp h) H locs ls hP hD hS hl) (fun h => kf (fun g => h ((lg_cmp_lt x y).mpr g)) H locs ls hP hD hS hl))
theorem z_if_ge {x : Int32} {off : Int} (hC : z_C X cc nL own Ω) (d : decode cc pc = .ok (.ifCond .ge off, 3)) (ht : (pc : Int) + off = (tgt : Int)) (hq : pc + 3 = q) (kt : 0 ≤ x → z_At X A Q Ω k n nL tgt lv st w) (kf : ¬ 0 ≤ x → z_At X A Q Ω k n nL q lv st w) : z_At X A Q Ω k n nL pc lv (.int x :: st) w := by
  subst hq
  obtain ⟨p, l, e, R, s, m, args, below, meth, c⟩ := X
  obtain ⟨hx, hb, hml, hown, hts, hK, hN⟩ := hC
  intro H locs ls hP hD hS hl
  exact lv_if_ge hx hb d ht (fun h => kt h H locs ls hP hD hS hl) (fun h => kf h H locs ls hP hD hS hl)
theorem z_icmp_ge {x y : Int32} {off : Int} (hC : z_C X cc nL own Ω) (d : decode cc pc = .ok (.if_icmp .ge off, 3)) (ht : (pc : Int) + off = (tgt : Int)) (hq : pc + 3 = q) (kt : y ≤ x → z_At X A Q Ω k n nL tgt lv st w) (kf : ¬ y ≤ x → z_At X A Q Ω k n nL q lv st w) : z_At X A Q Ω k n nL pc lv (.int y :: .int x :: st) w := by
  subst hq
  obtain ⟨p, l, e, R, s, m, args, below, meth, c⟩ := X
  obtain ⟨hx, hb, hml, hown, hts, hK, hN⟩ := hC
  intro H locs ls hP hD hS hl
  exact lv_icmp_ge hx hb d ht (fun h => kt h H locs ls hP hD hS hl) (fun h => kf h H locs ls hP hD hS hl)
theorem z_lcmp_ge {x y : Int64} {off : Int} {pc1 : Nat} (hC : z_C X cc nL own Ω) (d1 : decode cc pc = .ok (.lcmp, 1)) (hp : pc + 1 = pc1) (d : decode cc pc1 = .ok (.ifCond .ge off, 3)) (ht : (pc1 : Int) + off = (tgt : Int)) (hq : pc1 + 3 = q) (kt : y ≤ x → z_At X A Q Ω k n nL tgt lv st w) (kf : ¬ y ≤ x → z_At X A Q Ω k n nL q lv st w) : z_At X A Q Ω k n nL pc lv (.long y :: .long x :: st) w := by
  subst hp
  subst hq
  obtain ⟨p, l, e, R, s, m, args, below, meth, c⟩ := X
  obtain ⟨hx, hb, hml, hown, hts, hK, hN⟩ := hC
  intro H locs ls hP hD hS hl
  exact W.lcmp hx hb d1 (lv_if_ge hx hb d ht (fun h => kt ((lg_cmp_ge x y).mp h) H locs ls hP hD hS hl) (fun h => kf (fun g => h ((lg_cmp_ge x y).mpr g)) H locs ls hP hD hS hl))
theorem z_if_gt {x : Int32} {off : Int} (hC : z_C X cc nL own Ω) (d : decode cc pc = .ok (.ifCond .gt off, 3)) (ht : (pc : Int) + off = (tgt : Int)) (hq : pc + 3 = q) (kt : 0 < x → z_At X A Q Ω k n nL tgt lv st w) (kf : ¬ 0 < x → z_At X A Q Ω k n nL q lv st w) : z_At X A Q Ω k n nL pc lv (.int x :: st) w := by
  subst hq
  obtain ⟨p, l, e, R, s, m, args, below, meth, c⟩ := X
  obtain ⟨hx, hb, hml, hown, hts, hK, hN⟩ := hC
  intro H locs ls hP hD hS hl
  exact lv_if_gt hx hb d ht (fun h => kt h H locs ls hP hD hS hl) (fun h => kf h H locs ls hP hD hS hl)
theorem z_icmp_gt {x y : Int32} {off : Int} (hC : z_C X cc nL own Ω) (d : decode cc pc = .ok (.if_icmp .gt off, 3)) (ht : (pc : Int) + off = (tgt : Int)) (hq : pc + 3 = q) (kt : y < x → z_At X A Q Ω k n nL tgt lv st w) (kf : ¬ y < x → z_At X A Q Ω k n nL q lv st w) : z_At X A Q Ω k n nL pc lv (.int y :: .int x :: st) w := by
  subst hq
  obtain ⟨p, l, e, R, s, m, args, below, meth, c⟩ := X
  obtain ⟨hx, hb, hml, hown, hts, hK, hN⟩ := hC
  intro H locs ls hP hD hS hl
  exact lv_icmp_gt hx hb d ht (fun h => kt h H locs ls hP hD hS hl) (fun h => kf h H locs ls hP hD hS hl)
theorem z_lcmp_gt {x y : Int64} {off : Int} {pc1 : Nat} (hC : z_C X cc nL own Ω) (d1 : decode cc pc = .ok (.lcmp, 1)) (hp : pc + 1 = pc1) (d : decode cc pc1 = .ok (.ifCond .gt off, 3)) (ht : (pc1 : Int) + off = (tgt : Int)) (hq : pc1 + 3 = q) (kt : y < x → z_At X A Q Ω k n nL tgt lv st w) (kf : ¬ y < x → z_At X A Q Ω k n nL q lv st w) : z_At X A Q Ω k n nL pc lv (.long y :: .long x :: st) w := by
  subst hp
  subst hq
  obtain ⟨p, l, e, R, s, m, args, below, meth, c⟩ := X
  obtain ⟨hx, hb, hml, hown, hts, hK, hN⟩ := hC
  intro H locs ls hP hD hS hl
  exact W.lcmp hx hb d1 (lv_if_gt hx hb d ht (fun h => kt ((lg_cmp_gt x y).mp h) H locs ls hP hD hS hl) (fun h => kf (fun g => h ((lg_cmp_gt x y).mpr g)) H locs ls hP hD hS hl))
theorem z_if_le {x : Int32} {off : Int} (hC : z_C X cc nL own Ω) (d : decode cc pc = .ok (.ifCond .le off, 3)) (ht : (pc : Int) + off = (tgt : Int)) (hq : pc + 3 = q) (kt : x ≤ 0 → z_At X A Q Ω k n nL tgt lv st w) (kf : ¬ x ≤ 0 → z_At X A Q Ω k n nL q lv st w) : z_At X A Q Ω k n nL pc lv (.int x :: st) w := by
  subst hq
  obtain ⟨p, l, e, R, s, m, args, below, meth, c⟩ := X
  obtain ⟨hx, hb, hml, hown, hts, hK, hN⟩ := hC
  intro H locs ls hP hD hS hl
  exact lv_if_le hx hb d ht (fun h => kt h H locs ls hP hD hS hl) (fun h => kf h H locs ls hP hD hS hl)
theorem z_icmp_le {x y : Int32} {off : Int} (hC : z_C X cc nL own Ω) (d : decode cc pc = .ok (.if_icmp .le off, 3)) (ht : (pc : Int) + off = (tgt : Int)) (hq : pc + 3 = q) (kt : x ≤ y → z_At X A Q Ω k n nL tgt lv st w) (kf : ¬ x ≤ y → z_At X A Q Ω k n nL q lv st w) : z_At X A Q Ω k n nL pc lv (.int y :: .int x :: st) w := by
  subst hq
  obtain ⟨p, l, e, R, s, m, args, below, meth, c⟩ := X
  obtain ⟨hx, hb, hml, hown, hts, hK, hN⟩ := hC
  intro H locs ls hP hD hS hl
  exact lv_icmp_le hx hb d ht (fun h => kt h H locs ls hP hD hS hl) (fun h => kf h H locs ls hP hD hS hl)
theorem z_lcmp_le {x y : Int64} {off : Int} {pc1 : Nat} (hC : z_C X cc nL own Ω) (d1 : decode cc pc = .ok (.lcmp, 1)) (hp : pc + 1 = pc1) (d : decode cc pc1 = .ok (.ifCond .le off, 3)) (ht : (pc1 : Int) + off = (tgt : Int)) (hq : pc1 + 3 = q) (kt : x ≤ y → z_At X A Q Ω k n nL tgt lv st w) (kf : ¬ x ≤ y → z_At X A Q Ω k n nL q lv st w) : z_At X A Q Ω k n nL pc lv (.long y :: .long x :: st) w := by
  subst hp
  subst hq
  obtain ⟨p, l, e, R, s, m, args, below, meth, c⟩ := X
  obtain ⟨hx, hb, hml, hown, hts, hK, hN⟩ := hC
  intro H locs ls hP hD hS hl
  exact W.lcmp hx hb d1 (lv_if_le hx hb d ht (fun h => kt ((lg_cmp_le x y).mp h) H locs ls hP hD hS hl) (fun h => kf (fun g => h ((lg_cmp_le x y).mpr g)) H locs ls hP hD hS hl))
theorem z_goto {off : Int} (hC : z_C X cc nL own Ω) (d : decode cc pc = .ok (.goto off, 3)) (ht : (pc : Int) + off = (tgt : Int)) (kk : z_At X A Q Ω k n nL tgt lv st w) : z_At X A Q Ω k n nL pc lv st w := by
  obtain ⟨p, l, e, R, s, m, args, below, meth, c⟩ := X
  obtain ⟨hx, hb, hml, hown, hts, hK, hN⟩ := hC
  intro H locs ls hP hD hS hl
  exact lv_goto hx hb d ht (kk H locs ls hP hD hS hl)
theorem z_sub (ks : List Nat) (h : lv_pick lv ks = lv') (kk : z_At X A Q Ω k n nL pc lv' st w) : z_At X A Q Ω k n nL pc lv st w := by
  obtain ⟨p, l, e, R, s, m, args, below, meth, c⟩ := X
  intro H locs ls hP hD hS hl
  exact kk H locs ls hP hD hS (lv_sub hl ks h)
theorem z_world {w' : va_W} (h : w = w') (kk : z_At X A Q Ω k n nL pc lv st w') : z_At X A Q Ω k n nL pc lv st w := h ▸ kk
theorem z_get {C : String} {T : u_T} {N ci ix b g : Nat} {fs : List Value} {v : Value} (hC : z_C X cc nL own Ω) (hin : ∀ x ∈ u_ws C T N, x ∈ z_good) (q0 : Nat) (he : w[q0]? = some (b, .inr (ci, fs))) (hc : z_cl[ci]? = some (C, T, N)) (hg : g < N) (hl0 : Cond.fieldLink own ix (T g).1 (T g).2.1 (T g).2.2.1 ∈ z_good) (hv : fs[g]? = some v) (d : decode cc pc = .ok (.getfield ix, 3)) (hq : pc + 3 = q) (kk : z_At X A Q Ω k n nL q lv (v :: st) w) : z_At X A Q Ω k n nL pc lv (.ref b :: st) w := by
  subst hq
  obtain ⟨p, l, e, R, s, m, args, below, meth, c⟩ := X
  obtain ⟨hx, hb, hml, hown, hts, hK, hN⟩ := hC
  intro H locs ls hP hD hS hl
  exact va_get hx hb hts hin hown hK hP q0 he hc g hg (hts _ hl0) (fun _ h => h) hv d (kk H locs ls hP hD hS hl)
theorem z_getN {C host : String} {T : u_T} {N ci ix b g : Nat} {fs : List Value} {v : Value} (hC : z_C X cc nL own Ω) (hin : ∀ x ∈ u_ws C T N, x ∈ z_good) (q0 : Nat) (he : w[q0]? = some (b, .inr (ci, fs))) (hc : z_cl[ci]? = some (C, T, N)) (hg : g < N) (hl0 : Cond.fieldLinkNest own ix (T g).1 (T g).2.1 (T g).2.2.1 host ∈ z_nest) (hv : fs[g]? = some v) (d : decode cc pc = .ok (.getfield ix, 3)) (hq : pc + 3 = q) (kk : z_At X A Q Ω k n nL q lv (v :: st) w) : z_At X A Q Ω k n nL pc lv (.ref b :: st) w := by
  subst hq
  obtain ⟨p, l, e, R, s, m, args, below, meth, c⟩ := X
  obtain ⟨hx, hb, hml, hown, hts, hK, hN⟩ := hC
  intro H locs ls hP hD hS hl
  exact va_getN hx hb hts hin hown hK hP q0 he hc g hg (va_Nw.use rfl (hN _ hl0)) (fun _ h => h) hv d (kk H locs ls hP hD hS hl)
theorem z_put {C : String} {T : u_T} {N ci ix b g : Nat} {fs : List Value} {v : Value} {ty : FieldType} {w' : va_W} (hC : z_C X cc nL own Ω) (hin : ∀ x ∈ u_ws C T N, x ∈ z_good) (ty0 : Nat → FieldType) (hty : ∀ k, k < N → parseFieldDescriptor (T k).2.2.1 = some (ty0 k)) (hnm : ∀ a, a < N → ∀ b, b < N → a ≠ b → (T a).2.1 ≠ (T b).2.1) (q0 : Nat) (he : w[q0]? = some (b, .inr (ci, fs))) (hc : z_cl[ci]? = some (C, T, N)) (hg : g < N) (hl0 : Cond.fieldLink own ix (T g).1 (T g).2.1 (T g).2.2.1 ∈ z_good) (hfin : (T g).2.2.2 = false) (hd : parseFieldDescriptor (T g).2.2.1 = some ty) (hn : narrow ty v = v) (hfit : fits ty v = true) (hle : g < fs.length) (hw : w.set q0 (b, .inr (ci, fs.set g v)) = w') (d : decode cc pc = .ok (.putfield ix, 3)) (hq : pc + 3 = q) (kk : z_At X A Q Ω k n nL q lv st w') : z_At X A Q Ω k n nL pc lv (v :: .ref b :: st) w := by
  subst hq
  subst hw
  obtain ⟨p, l, e, R, s, m, args, below, meth, c⟩ := X
  obtain ⟨hx, hb, hml, hown, hts, hK, hN⟩ := hC
  intro H locs ls hP hD hS hl
  exact va_put hx hb hts hin ty0 hty hnm hown hK hP hD hS q0 he hc g hg (hts _ hl0) (fun _ h => h) hfin hd hn hfit hle d (fun H1 locs1 hP1 hD1 hS1 => kk H1 locs1 ls hP1 hD1 hS1 hl)
theorem z_putN {C host : String} {T : u_T} {N ci ix b g : Nat} {fs : List Value} {v : Value} {ty : FieldType} {w' : va_W} (hC : z_C X cc nL own Ω) (hin : ∀ x ∈ u_ws C T N, x ∈ z_good) (ty0 : Nat → FieldType) (hty : ∀ k, k < N → parseFieldDescriptor (T k).2.2.1 = some (ty0 k)) (hnm : ∀ a, a < N → ∀ b, b < N → a ≠ b → (T a).2.1 ≠ (T b).2.1) (q0 : Nat) (he : w[q0]? = some (b, .inr (ci, fs))) (hc : z_cl[ci]? = some (C, T, N)) (hg : g < N) (hl0 : Cond.fieldLinkNest own ix (T g).1 (T g).2.1 (T g).2.2.1 host ∈ z_nest) (hfin : (T g).2.2.2 = false) (hd : parseFieldDescriptor (T g).2.2.1 = some ty) (hn : narrow ty v = v) (hfit : fits ty v = true) (hle : g < fs.length) (hw : w.set q0 (b, .inr (ci, fs.set g v)) = w') (d : decode cc pc = .ok (.putfield ix, 3)) (hq : pc + 3 = q) (kk : z_At X A Q Ω k n nL q lv st w') : z_At X A Q Ω k n nL pc lv (v :: .ref b :: st) w := by
  subst hq
  subst hw
  obtain ⟨p, l, e, R, s, m, args, below, meth, c⟩ := X
  obtain ⟨hx, hb, hml, hown, hts, hK, hN⟩ := hC
  intro H locs ls hP hD hS hl
  exact va_putN hx hb hts hin ty0 hty hnm hown hK hP hD hS q0 he hc g hg (va_Nw.use rfl (hN _ hl0)) (fun _ h => h) hfin hd hn hfit hle d (fun H1 locs1 hP1 hD1 hS1 => kk H1 locs1 ls hP1 hD1 hS1 hl)
theorem z_iald {N b : Nat} {f : Nat → Int32} {i : Int32} (hC : z_C X cc nL own Ω) (q0 : Nat) (he : w[q0]? = some (b, .inl (Ω.2.1.1, N, .inl f))) (hi : vi i N = true) (d : decode cc pc = .ok (.iaload, 1)) (hq : pc + 1 = q) (kk : z_At X A Q Ω k n nL q lv (.int (f i.toNatClampNeg) :: st) w) : z_At X A Q Ω k n nL pc lv (.int i :: .ref b :: st) w := by
  subst hq
  obtain ⟨p, l, e, R, s, m, args, below, meth, c⟩ := X
  obtain ⟨hx, hb, hml, hown, hts, hK, hN⟩ := hC
  intro H locs ls hP hD hS hl
  exact va_iald hx hb hK hP q0 0 he rfl (vi_in hi) d (kk H locs ls hP hD hS hl)
theorem z_zald {N b : Nat} {f : Nat → Int32} {i : Int32} (hC : z_C X cc nL own Ω) (q0 : Nat) (he : w[q0]? = some (b, .inl (Ω.2.1.2.2.1, N, .inl f))) (hi : vi i N = true) (d : decode cc pc = .ok (.baload, 1)) (hq : pc + 1 = q) (kk : z_At X A Q Ω k n nL q lv (.int (f i.toNatClampNeg) :: st) w) : z_At X A Q Ω k n nL pc lv (.int i :: .ref b :: st) w := by
  subst hq
  obtain ⟨p, l, e, R, s, m, args, below, meth, c⟩ := X
  obtain ⟨hx, hb, hml, hown, hts, hK, hN⟩ := hC
  intro H locs ls hP hD hS hl
  exact va_zald hx hb hK hP q0 2 he rfl (vi_in hi) d (kk H locs ls hP hD hS hl)
theorem z_lald {N b : Nat} {f : Nat → Int64} {i : Int32} (hC : z_C X cc nL own Ω) (q0 : Nat) (he : w[q0]? = some (b, .inl (Ω.2.1.2.1, N, .inr (.inl f)))) (hi : vi i N = true) (d : decode cc pc = .ok (.laload, 1)) (hq : pc + 1 = q) (kk : z_At X A Q Ω k n nL q lv (.long (f i.toNatClampNeg) :: st) w) : z_At X A Q Ω k n nL pc lv (.int i :: .ref b :: st) w := by
  subst hq
  obtain ⟨p, l, e, R, s, m, args, below, meth, c⟩ := X
  obtain ⟨hx, hb, hml, hown, hts, hK, hN⟩ := hC
  intro H locs ls hP hD hS hl
  exact va_lald hx hb hK hP q0 1 he rfl (vi_in hi) d (kk H locs ls hP hD hS hl)
theorem z_iast {N b : Nat} {f : Nat → Int32} {i : Int32} {x : Int32} {w' : va_W} (hC : z_C X cc nL own Ω) (q0 : Nat) (he : w[q0]? = some (b, .inl (Ω.2.1.1, N, .inl f))) (hi : vi i N = true) (hw : w.set q0 (b, .inl (Ω.2.1.1, N, .inl (upd f i.toNatClampNeg x))) = w') (d : decode cc pc = .ok (.iastore, 1)) (hq : pc + 1 = q) (kk : z_At X A Q Ω k n nL q lv st w') : z_At X A Q Ω k n nL pc lv (.int x :: .int i :: .ref b :: st) w := by
  subst hq
  subst hw
  obtain ⟨p, l, e, R, s, m, args, below, meth, c⟩ := X
  obtain ⟨hx, hb, hml, hown, hts, hK, hN⟩ := hC
  intro H locs ls hP hD hS hl
  exact va_iast hx hb hK hP hD hS q0 0 he rfl (vi_in hi) d (fun H1 locs1 hP1 hD1 hS1 => kk H1 locs1 ls hP1 hD1 hS1 hl)
theorem z_zast {N b : Nat} {f : Nat → Int32} {i : Int32} {x : Int32} {w' : va_W} (hC : z_C X cc nL own Ω) (q0 : Nat) (he : w[q0]? = some (b, .inl (Ω.2.1.2.2.1, N, .inl f))) (hi : vi i N = true) (hw : w.set q0 (b, .inl (Ω.2.1.2.2.1, N, .inl (upd f i.toNatClampNeg (vp_nar .boolean x)))) = w') (d : decode cc pc = .ok (.bastore, 1)) (hq : pc + 1 = q) (kk : z_At X A Q Ω k n nL q lv st w') : z_At X A Q Ω k n nL pc lv (.int x :: .int i :: .ref b :: st) w := by
  subst hq
  subst hw
  obtain ⟨p, l, e, R, s, m, args, below, meth, c⟩ := X
  obtain ⟨hx, hb, hml, hown, hts, hK, hN⟩ := hC
  intro H locs ls hP hD hS hl
  exact va_zast hx hb hK hP hD hS q0 2 he rfl (vi_in hi) d (fun H1 locs1 hP1 hD1 hS1 => kk H1 locs1 ls hP1 hD1 hS1 hl)
theorem z_last {N b : Nat} {f : Nat → Int64} {i : Int32} {x : Int64} {w' : va_W} (hC : z_C X cc nL own Ω) (q0 : Nat) (he : w[q0]? = some (b, .inl (Ω.2.1.2.1, N, .inr (.inl f)))) (hi : vi i N = true) (hw : w.set q0 (b, .inl (Ω.2.1.2.1, N, .inr (.inl (vp_updL f i.toNatClampNeg x)))) = w') (d : decode cc pc = .ok (.lastore, 1)) (hq : pc + 1 = q) (kk : z_At X A Q Ω k n nL q lv st w') : z_At X A Q Ω k n nL pc lv (.long x :: .int i :: .ref b :: st) w := by
  subst hq
  subst hw
  obtain ⟨p, l, e, R, s, m, args, below, meth, c⟩ := X
  obtain ⟨hx, hb, hml, hown, hts, hK, hN⟩ := hC
  intro H locs ls hP hD hS hl
  exact va_last hx hb hK hP hD hS q0 1 he rfl (vi_in hi) d (fun H1 locs1 hP1 hD1 hS1 => kk H1 locs1 ls hP1 hD1 hS1 hl)
theorem z_aald {N b : Nat} {f : Nat → Option Nat} {i : Int32} {y : Nat} (hC : z_C X cc nL own Ω) (q0 : Nat) (he : w[q0]? = some (b, .inl (Ω.2.1.2.2.2, N, .inr (.inr (.inr (.inr f)))))) (hi : vi i N = true) (hy : f i.toNatClampNeg = some y) (d : decode cc pc = .ok (.aaload, 1)) (hq : pc + 1 = q) (kk : z_At X A Q Ω k n nL q lv (.ref y :: st) w) : z_At X A Q Ω k n nL pc lv (.int i :: .ref b :: st) w := by
  subst hq
  obtain ⟨p, l, e, R, s, m, args, below, meth, c⟩ := X
  obtain ⟨hx, hb, hml, hown, hts, hK, hN⟩ := hC
  intro H locs ls hP hD hS hl
  exact W.aald (v := .ref y) (ty := .array .long) hx hb (hP q0 _ he) ((hK.2 3 _ rfl).1 N (fun j => va_rf (f j))) rfl (fun q => by cases q) (by show ¬ (i < 0 ∨ (arrV _ _ _).slots.size ≤ _); rw [arrV_size]; exact vi_in hi) (by show (arrV _ _ _).slots[_]? = _; rw [arrV_read _ _ (vi_lt hi), hy]; rfl) rfl rfl d (kk H locs ls hP hD hS hl)
theorem z_iret {r v : Int32} {w' : va_W} (hC : z_C X cc nL own Ω) (hR : z_R X (some .int)) (hv : v = r) (hw : w = w') (d : decode cc pc = .ok (.ireturn, 1)) : z_At X A (z_QI X Ω A r w') Ω 0 0 nL pc lv [.int v] w := by
  subst hv
  subst hw
  obtain ⟨p, l, e, R, s, m, args, below, meth, c⟩ := X
  obtain ⟨hx, hb, hml, hown, hts, hK, hN⟩ := hC
  obtain ⟨hr, hlk⟩ := hR
  intro H locs ls hP hD hS hl
  exact W.iret hx hb hr (fun t ht hW => ⟨⟨v, (), rfl, rfl, by rw [← ht] at hP; exact hP, hD⟩, hS.F ht⟩) hS.2.2 d hlk
theorem z_zret {r v : Int32} {w' : va_W} (hC : z_C X cc nL own Ω) (hR : z_R X (some .boolean)) (hz : vz v = true) (hv : v = r) (hw : w = w') (d : decode cc pc = .ok (.ireturn, 1)) : z_At X A (z_QI X Ω A r w') Ω 0 0 nL pc lv [.int v] w := by
  subst hv
  subst hw
  obtain ⟨p, l, e, R, s, m, args, below, meth, c⟩ := X
  obtain ⟨hx, hb, hml, hown, hts, hK, hN⟩ := hC
  obtain ⟨hr, hlk⟩ := hR
  intro H locs ls hP hD hS hl
  exact W.zret hx hb hr (vz_n hz) (fun t ht hW => ⟨⟨v, (), rfl, rfl, by rw [← ht] at hP; exact hP, hD⟩, hS.F ht⟩) hS.2.2 d hlk
theorem z_lret {r v : Int64} {w' : va_W} (hC : z_C X cc nL own Ω) (hR : z_R X (some .long)) (hv : v = r) (hw : w = w') (d : decode cc pc = .ok (.lreturn, 1)) : z_At X A (z_QL X Ω A r w') Ω 0 0 nL pc lv [.long v] w := by
  subst hv
  subst hw
  obtain ⟨p, l, e, R, s, m, args, below, meth, c⟩ := X
  obtain ⟨hx, hb, hml, hown, hts, hK, hN⟩ := hC
  obtain ⟨hr, hlk⟩ := hR
  intro H locs ls hP hD hS hl
  exact W.lret hx hb hr (fun t ht hW => ⟨⟨v, (), rfl, rfl, by rw [← ht] at hP; exact hP, hD⟩, hS.F ht⟩) hS.2.2 d hlk
theorem z_vret {w' : va_W} (hC : z_C X cc nL own Ω) (hR : z_R X none) (hw : w = w') (d : decode cc pc = .ok (.return_, 1)) : z_At X A (z_QV X Ω A w') Ω 0 0 nL pc lv [] w := by
  subst hw
  obtain ⟨p, l, e, R, s, m, args, below, meth, c⟩ := X
  obtain ⟨hx, hb, hml, hown, hts, hK, hN⟩ := hC
  obtain ⟨hr, hlk⟩ := hR
  intro H locs ls hP hD hS hl
  exact W.vret hx hb hr (fun t ht hW => ⟨⟨(), rfl, trivial, by rw [← ht] at hP; exact hP, hD⟩, hS.F ht⟩) hS.2.2 d hlk
theorem z_iabs {ix : Nat} {x : Int32} (hC : z_C X cc nL own Ω) (h1 : Cond.methodLink own ix Lib.Math.abs.name ∈ z_good) (h2 : Cond.static Lib.Math.abs.name ∈ z_good) (h3 : Cond.initialized "java/lang/Math" ∈ z_good) (h4 : Cond.code Lib.Math.abs.name Lib.Math.abs.code 1 (some .int) ∈ z_good) (hf : 1 ≤ (z_rmOf X).frames) (hlo : (st.map fun v => v.category).sum + 13 ≤ (z_rmOf X).locals) (hkn : k ≤ (z_rmOf X).cells ∧ n ≤ (z_rmOf X).slots) (d : decode cc pc = .ok (.invokestatic ix, 3)) (hq : pc + 3 = q) (kk : z_At X A Q Ω k n nL q lv (.int (if 0 ≤ x then x else 0 - x) :: st) w) : z_At X A Q Ω k n nL pc lv (.int x :: st) w := by
  subst hq
  obtain ⟨p, l, e, R, s, m, args, below, meth, c⟩ := X
  obtain ⟨hx, hb, hml, hown, hts, hK, hN⟩ := hC
  intro H locs ls hP hD hS hl
  exact va_mabs hx hb (hml.trans hl.1.symm) hown (hts _ h1) (hts _ h2) (hts _ h3) (hts _ h4) hf hlo hkn.1 hkn.2 d (kk H locs ls hP hD hS hl)
theorem z_labs {ix : Nat} {x : Int64} (hC : z_C X cc nL own Ω) (h1 : Cond.methodLink own ix Lib.MathLoose.abs_long.x ∈ z_good) (h2 : Cond.static Lib.MathLoose.abs_long.x ∈ z_good) (h3 : Cond.initialized "java/lang/Math" ∈ z_good) (h4 : Cond.code Lib.MathLoose.abs_long.x Lib.MathLoose.abs_long.code 2 (some .long) ∈ z_good) (hf : 1 ≤ (z_rmOf X).frames) (hlo : (st.map fun v => v.category).sum + 13 ≤ (z_rmOf X).locals) (hkn : k ≤ (z_rmOf X).cells ∧ n ≤ (z_rmOf X).slots) (d : decode cc pc = .ok (.invokestatic ix, 3)) (hq : pc + 3 = q) (kk : z_At X A Q Ω k n nL q lv (.long (if 0 < x then x else -x) :: st) w) : z_At X A Q Ω k n nL pc lv (.long x :: st) w := by
  subst hq
  obtain ⟨p, l, e, R, s, m, args, below, meth, c⟩ := X
  obtain ⟨hx, hb, hml, hown, hts, hK, hN⟩ := hC
  intro H locs ls hP hD hS hl
  exact va_mabs_long hx hb (hml.trans hl.1.symm) hown (hts _ h1) (hts _ h2) (hts _ h3) (hts _ h4) hf hlo hkn.1 hkn.2 d (kk H locs ls hP hD hS hl)
theorem z_blind (w : va_W) (sz : Nat) (av : List Value) : FrameBlind (va_Pc av (z_Pre Ω w sz)) := fun a U g mk q => by
  obtain ⟨q0, q1, qP, qK, qD, qN⟩ := q
  exact ⟨q0, q1, qP, va_K.moved (u := U) (U := U.calling g mk a) (Vm.Alike.refl U.vm) qK, qD, fun x hx => va_Nw.same (by have h1 := (List.mem_filter.mp hx).2; cases x <;> first | rfl | (simp [z_isNest] at h1; done)) (rfl : U.vm = (U.calling g mk a).vm) (qN x hx)⟩
theorem z_wFree {H0 H : Heap} {locs : List Loc} (hD : va_D A w) (hS : va_S A H0 H locs) (hA : ∀ q, H0.size ≤ q → A q) : ∀ q, va_A w H.size q → A q := by
  intro q h
  rcases h with ⟨k, e, h⟩ | h
  · exact hD.2 k (q, e) h
  · exact hA q (Nat.le_trans hS.1 h)
def z_hA (X : z_X) (A : Nat → Prop) : Prop := ∀ q, X.2.2.2.2.1.heap.size ≤ q → A q
theorem z_callVi {y : MethodName} {bytes : ByteArray} {maxL fr lo N ix b : Nat} {host : String} {r : Int32} {rt : FieldType} {As sk : List Value} {w' : va_W} {q0 ci : Nat} {fs : List Value} {T : u_T} {NN : Nat} (hC : z_C X cc nL own Ω) (hA : z_hA X A) (hM : z_MI (z_lOf X) Ω y bytes maxL rt fr lo (.ref b :: As) w r w') (hco : Cond.code y bytes maxL (some rt) ∈ z_good) (hlk : Cond.methodLink own ix y ∈ z_good) (hi : Cond.instanceMethod y ∈ z_good) (hs : Cond.selects y.cls y y ∈ z_good) (hini : Cond.initialized y.cls ∈ z_good) (hd : y.cls ≠ "java/lang/invoke/MethodHandle" ∧ y.cls ≠ "java/lang/invoke/VarHandle" ∧ (parseMethodDescriptor y.desc).map (fun d => d.parameters.length) = some N) (hR : fr + 1 ≤ (z_rmOf X).frames ∧ 8 + (maxL + 11) + lo ≤ (z_rmOf X).locals) (hkn : k ≤ (z_rmOf X).cells ∧ n ≤ (z_rmOf X).slots) (hn : As.length = N) (he : w[q0]? = some (b, .inr (ci, fs))) (hc : z_cl[ci]? = some (y.cls, T, NN)) (hsk : (st.map fun v => v.category).sum ≤ 8) (hst : sk = As.reverse ++ .ref b :: st) (d : decode cc pc = .ok (.invokevirtual ix, 3)) (hq : pc + 3 = q) (kk : z_At X A Q Ω k n nL q lv (.int r :: st) w') : z_At X A Q Ω k n nL pc lv sk w := by
  subst hq
  subst hst
  obtain ⟨p, l, e, R, s, m, args, below, meth, c⟩ := X
  obtain ⟨hx, hb, hml, hown, hts, hK, hN⟩ := hC
  intro H locs ls hP hD hS hl
  have hF := z_wFree hD hS hA
  refine va_calli (va_runV (C := y.cls) (As := As) (rest := st) ⟨hx, hb, hml, hown, hts⟩ (hM H.size) ⟨callB_of N hts (z_goodC hco) rfl rfl rfl (hts _ hini) (hts _ hlk) hd hR, hts _ hi, hts _ hs⟩ ⟨z_blind w H.size _, va_recv hK hP hc he, fun U hU hW => ⟨rfl, by rw [hU], by rw [hU]; exact hP, va_K.moved hW.alike hK, hD.weaken (fun _ _ _ _ => trivial), z_nestW hW hN⟩⟩ rfl hn hl.1 rfl (lv_room hsk) d ⟨hkn.1, hkn.2⟩) hS (fun q _ h => hF q h) hF (fun r1 u t H1 locs1 ht hvm hp hB hz1 hk1 hS1 => ?_)
  obtain ⟨hP1, hD1⟩ := hB
  rw [ht] at hP1
  subst hp
  exact kk H1 locs1 ls hP1 (hD1.weaken (fun _ q _ h => hF q.1 h)) hS1 hl
theorem z_callSi {y : MethodName} {bytes : ByteArray} {maxL fr lo N ix : Nat} {host : String} {r : Int32} {rt : FieldType} {As sk : List Value} {w' : va_W} (hC : z_C X cc nL own Ω) (hA : z_hA X A) (hM : z_MI (z_lOf X) Ω y bytes maxL rt fr lo As w r w') (hco : Cond.code y bytes maxL (some rt) ∈ z_good) (hlk : Cond.methodLink own ix y ∈ z_good) (hi : Cond.static y ∈ z_good) (hini : Cond.initialized y.cls ∈ z_good) (hd : y.cls ≠ "java/lang/invoke/MethodHandle" ∧ y.cls ≠ "java/lang/invoke/VarHandle" ∧ (parseMethodDescriptor y.desc).map (fun d => d.parameters.length) = some N) (hR : fr + 1 ≤ (z_rmOf X).frames ∧ 8 + (maxL + 11) + lo ≤ (z_rmOf X).locals) (hkn : k ≤ (z_rmOf X).cells ∧ n ≤ (z_rmOf X).slots) (hn : As.length = N) (hsk : (st.map fun v => v.category).sum ≤ 8) (hst : sk = As.reverse ++ st) (d : decode cc pc = .ok (.invokestatic ix, 3)) (hq : pc + 3 = q) (kk : z_At X A Q Ω k n nL q lv (.int r :: st) w') : z_At X A Q Ω k n nL pc lv sk w := by
  subst hq
  subst hst
  obtain ⟨p, l, e, R, s, m, args, below, meth, c⟩ := X
  obtain ⟨hx, hb, hml, hown, hts, hK, hN⟩ := hC
  intro H locs ls hP hD hS hl
  have hF := z_wFree hD hS hA
  refine va_calli (va_runS (As := As) (rest := st) ⟨hx, hb, hml, hown, hts⟩ (hM H.size) ⟨callB_of N hts (z_goodC hco) rfl rfl rfl (hts _ hini) (hts _ hlk) hd hR, hts _ hi⟩ ⟨z_blind w H.size _, fun U hU hW => ⟨rfl, by rw [hU], by rw [hU]; exact hP, va_K.moved hW.alike hK, hD.weaken (fun _ _ _ _ => trivial), z_nestW hW hN⟩⟩ rfl hn hl.1 rfl (lv_room hsk) d ⟨hkn.1, hkn.2⟩) hS (fun q _ h => hF q h) hF (fun r1 u t H1 locs1 ht hvm hp hB hz1 hk1 hS1 => ?_)
  obtain ⟨hP1, hD1⟩ := hB
  rw [ht] at hP1
  subst hp
  exact kk H1 locs1 ls hP1 (hD1.weaken (fun _ q _ h => hF q.1 h)) hS1 hl
theorem z_callVNi {y : MethodName} {bytes : ByteArray} {maxL fr lo N ix b : Nat} {host : String} {r : Int32} {rt : FieldType} {As sk : List Value} {w' : va_W} {q0 ci : Nat} {fs : List Value} {T : u_T} {NN : Nat} (hC : z_C X cc nL own Ω) (hA : z_hA X A) (hM : z_MI (z_lOf X) Ω y bytes maxL rt fr lo (.ref b :: As) w r w') (hco : Cond.code y bytes maxL (some rt) ∈ z_good) (hlk : Cond.methodLinkNest own ix y host ∈ z_nest) (hi : Cond.instanceMethod y ∈ z_good) (hs : Cond.selects y.cls y y ∈ z_good) (hini : Cond.initialized y.cls ∈ z_good) (hd : y.cls ≠ "java/lang/invoke/MethodHandle" ∧ y.cls ≠ "java/lang/invoke/VarHandle" ∧ (parseMethodDescriptor y.desc).map (fun d => d.parameters.length) = some N) (hR : fr + 1 ≤ (z_rmOf X).frames ∧ 8 + (maxL + 11) + lo ≤ (z_rmOf X).locals) (hkn : k ≤ (z_rmOf X).cells ∧ n ≤ (z_rmOf X).slots) (hn : As.length = N) (he : w[q0]? = some (b, .inr (ci, fs))) (hc : z_cl[ci]? = some (y.cls, T, NN)) (hsk : (st.map fun v => v.category).sum ≤ 8) (hst : sk = As.reverse ++ .ref b :: st) (d : decode cc pc = .ok (.invokevirtual ix, 3)) (hq : pc + 3 = q) (kk : z_At X A Q Ω k n nL q lv (.int r :: st) w') : z_At X A Q Ω k n nL pc lv sk w := by
  subst hq
  subst hst
  obtain ⟨p, l, e, R, s, m, args, below, meth, c⟩ := X
  obtain ⟨hx, hb, hml, hown, hts, hK, hN⟩ := hC
  intro H locs ls hP hD hS hl
  have hF := z_wFree hD hS hA
  refine va_calli (va_runVN (C := y.cls) (As := As) (rest := st) ⟨hx, hb, hml, hown, hts⟩ (hM H.size) ⟨va_cnB N hts (z_goodC hco) rfl rfl rfl (hN _ hlk) (hts _ hini) hd hR, hts _ hi, hts _ hs⟩ ⟨z_blind w H.size _, va_recv hK hP hc he, fun U hU hW => ⟨rfl, by rw [hU], by rw [hU]; exact hP, va_K.moved hW.alike hK, hD.weaken (fun _ _ _ _ => trivial), z_nestW hW hN⟩⟩ rfl hn hl.1 rfl (lv_room hsk) d ⟨hkn.1, hkn.2⟩) hS (fun q _ h => hF q h) hF (fun r1 u t H1 locs1 ht hvm hp hB hz1 hk1 hS1 => ?_)
  obtain ⟨hP1, hD1⟩ := hB
  rw [ht] at hP1
  subst hp
  exact kk H1 locs1 ls hP1 (hD1.weaken (fun _ q _ h => hF q.1 h)) hS1 hl
theorem z_callSNi {y : MethodName} {bytes : ByteArray} {maxL fr lo N ix : Nat} {host : String} {r : Int32} {rt : FieldType} {As sk : List Value} {w' : va_W} (hC : z_C X cc nL own Ω) (hA : z_hA X A) (hM : z_MI (z_lOf X) Ω y bytes maxL rt fr lo As w r w') (hco : Cond.code y bytes maxL (some rt) ∈ z_good) (hlk : Cond.methodLinkNest own ix y host ∈ z_nest) (hi : Cond.static y ∈ z_good) (hini : Cond.initialized y.cls ∈ z_good) (hd : y.cls ≠ "java/lang/invoke/MethodHandle" ∧ y.cls ≠ "java/lang/invoke/VarHandle" ∧ (parseMethodDescriptor y.desc).map (fun d => d.parameters.length) = some N) (hR : fr + 1 ≤ (z_rmOf X).frames ∧ 8 + (maxL + 11) + lo ≤ (z_rmOf X).locals) (hkn : k ≤ (z_rmOf X).cells ∧ n ≤ (z_rmOf X).slots) (hn : As.length = N) (hsk : (st.map fun v => v.category).sum ≤ 8) (hst : sk = As.reverse ++ st) (d : decode cc pc = .ok (.invokestatic ix, 3)) (hq : pc + 3 = q) (kk : z_At X A Q Ω k n nL q lv (.int r :: st) w') : z_At X A Q Ω k n nL pc lv sk w := by
  subst hq
  subst hst
  obtain ⟨p, l, e, R, s, m, args, below, meth, c⟩ := X
  obtain ⟨hx, hb, hml, hown, hts, hK, hN⟩ := hC
  intro H locs ls hP hD hS hl
  have hF := z_wFree hD hS hA
  refine va_calli (va_runSN (As := As) (rest := st) ⟨hx, hb, hml, hown, hts⟩ (hM H.size) ⟨va_cnB N hts (z_goodC hco) rfl rfl rfl (hN _ hlk) (hts _ hini) hd hR, hts _ hi, trivial⟩ ⟨z_blind w H.size _, fun U hU hW => ⟨rfl, by rw [hU], by rw [hU]; exact hP, va_K.moved hW.alike hK, hD.weaken (fun _ _ _ _ => trivial), z_nestW hW hN⟩⟩ rfl hn hl.1 rfl (lv_room hsk) d ⟨hkn.1, hkn.2⟩) hS (fun q _ h => hF q h) hF (fun r1 u t H1 locs1 ht hvm hp hB hz1 hk1 hS1 => ?_)
  obtain ⟨hP1, hD1⟩ := hB
  rw [ht] at hP1
  subst hp
  exact kk H1 locs1 ls hP1 (hD1.weaken (fun _ q _ h => hF q.1 h)) hS1 hl
theorem z_callVl {y : MethodName} {bytes : ByteArray} {maxL fr lo N ix b : Nat} {host : String} {r : Int64} {rt : FieldType} {As sk : List Value} {w' : va_W} {q0 ci : Nat} {fs : List Value} {T : u_T} {NN : Nat} (hC : z_C X cc nL own Ω) (hA : z_hA X A) (hM : z_ML (z_lOf X) Ω y bytes maxL rt fr lo (.ref b :: As) w r w') (hco : Cond.code y bytes maxL (some rt) ∈ z_good) (hlk : Cond.methodLink own ix y ∈ z_good) (hi : Cond.instanceMethod y ∈ z_good) (hs : Cond.selects y.cls y y ∈ z_good) (hini : Cond.initialized y.cls ∈ z_good) (hd : y.cls ≠ "java/lang/invoke/MethodHandle" ∧ y.cls ≠ "java/lang/invoke/VarHandle" ∧ (parseMethodDescriptor y.desc).map (fun d => d.parameters.length) = some N) (hR : fr + 1 ≤ (z_rmOf X).frames ∧ 8 + (maxL + 11) + lo ≤ (z_rmOf X).locals) (hkn : k ≤ (z_rmOf X).cells ∧ n ≤ (z_rmOf X).slots) (hn : As.length = N) (he : w[q0]? = some (b, .inr (ci, fs))) (hc : z_cl[ci]? = some (y.cls, T, NN)) (hsk : (st.map fun v => v.category).sum ≤ 8) (hst : sk = As.reverse ++ .ref b :: st) (d : decode cc pc = .ok (.invokevirtual ix, 3)) (hq : pc + 3 = q) (kk : z_At X A Q Ω k n nL q lv (.long r :: st) w') : z_At X A Q Ω k n nL pc lv sk w := by
  subst hq
  subst hst
  obtain ⟨p, l, e, R, s, m, args, below, meth, c⟩ := X
  obtain ⟨hx, hb, hml, hown, hts, hK, hN⟩ := hC
  intro H locs ls hP hD hS hl
  have hF := z_wFree hD hS hA
  refine va_calll (va_runV (C := y.cls) (As := As) (rest := st) ⟨hx, hb, hml, hown, hts⟩ (hM H.size) ⟨callB_of N hts (z_goodC hco) rfl rfl rfl (hts _ hini) (hts _ hlk) hd hR, hts _ hi, hts _ hs⟩ ⟨z_blind w H.size _, va_recv hK hP hc he, fun U hU hW => ⟨rfl, by rw [hU], by rw [hU]; exact hP, va_K.moved hW.alike hK, hD.weaken (fun _ _ _ _ => trivial), z_nestW hW hN⟩⟩ rfl hn hl.1 rfl (lv_room hsk) d ⟨hkn.1, hkn.2⟩) hS (fun q _ h => hF q h) hF (fun r1 u t H1 locs1 ht hvm hp hB hz1 hk1 hS1 => ?_)
  obtain ⟨hP1, hD1⟩ := hB
  rw [ht] at hP1
  subst hp
  exact kk H1 locs1 ls hP1 (hD1.weaken (fun _ q _ h => hF q.1 h)) hS1 hl
theorem z_callSl {y : MethodName} {bytes : ByteArray} {maxL fr lo N ix : Nat} {host : String} {r : Int64} {rt : FieldType} {As sk : List Value} {w' : va_W} (hC : z_C X cc nL own Ω) (hA : z_hA X A) (hM : z_ML (z_lOf X) Ω y bytes maxL rt fr lo As w r w') (hco : Cond.code y bytes maxL (some rt) ∈ z_good) (hlk : Cond.methodLink own ix y ∈ z_good) (hi : Cond.static y ∈ z_good) (hini : Cond.initialized y.cls ∈ z_good) (hd : y.cls ≠ "java/lang/invoke/MethodHandle" ∧ y.cls ≠ "java/lang/invoke/VarHandle" ∧ (parseMethodDescriptor y.desc).map (fun d => d.parameters.length) = some N) (hR : fr + 1 ≤ (z_rmOf X).frames ∧ 8 + (maxL + 11) + lo ≤ (z_rmOf X).locals) (hkn : k ≤ (z_rmOf X).cells ∧ n ≤ (z_rmOf X).slots) (hn : As.length = N) (hsk : (st.map fun v => v.category).sum ≤ 8) (hst : sk = As.reverse ++ st) (d : decode cc pc = .ok (.invokestatic ix, 3)) (hq : pc + 3 = q) (kk : z_At X A Q Ω k n nL q lv (.long r :: st) w') : z_At X A Q Ω k n nL pc lv sk w := by
  subst hq
  subst hst
  obtain ⟨p, l, e, R, s, m, args, below, meth, c⟩ := X
  obtain ⟨hx, hb, hml, hown, hts, hK, hN⟩ := hC
  intro H locs ls hP hD hS hl
  have hF := z_wFree hD hS hA
  refine va_calll (va_runS (As := As) (rest := st) ⟨hx, hb, hml, hown, hts⟩ (hM H.size) ⟨callB_of N hts (z_goodC hco) rfl rfl rfl (hts _ hini) (hts _ hlk) hd hR, hts _ hi⟩ ⟨z_blind w H.size _, fun U hU hW => ⟨rfl, by rw [hU], by rw [hU]; exact hP, va_K.moved hW.alike hK, hD.weaken (fun _ _ _ _ => trivial), z_nestW hW hN⟩⟩ rfl hn hl.1 rfl (lv_room hsk) d ⟨hkn.1, hkn.2⟩) hS (fun q _ h => hF q h) hF (fun r1 u t H1 locs1 ht hvm hp hB hz1 hk1 hS1 => ?_)
  obtain ⟨hP1, hD1⟩ := hB
  rw [ht] at hP1
  subst hp
  exact kk H1 locs1 ls hP1 (hD1.weaken (fun _ q _ h => hF q.1 h)) hS1 hl
theorem z_callVNl {y : MethodName} {bytes : ByteArray} {maxL fr lo N ix b : Nat} {host : String} {r : Int64} {rt : FieldType} {As sk : List Value} {w' : va_W} {q0 ci : Nat} {fs : List Value} {T : u_T} {NN : Nat} (hC : z_C X cc nL own Ω) (hA : z_hA X A) (hM : z_ML (z_lOf X) Ω y bytes maxL rt fr lo (.ref b :: As) w r w') (hco : Cond.code y bytes maxL (some rt) ∈ z_good) (hlk : Cond.methodLinkNest own ix y host ∈ z_nest) (hi : Cond.instanceMethod y ∈ z_good) (hs : Cond.selects y.cls y y ∈ z_good) (hini : Cond.initialized y.cls ∈ z_good) (hd : y.cls ≠ "java/lang/invoke/MethodHandle" ∧ y.cls ≠ "java/lang/invoke/VarHandle" ∧ (parseMethodDescriptor y.desc).map (fun d => d.parameters.length) = some N) (hR : fr + 1 ≤ (z_rmOf X).frames ∧ 8 + (maxL + 11) + lo ≤ (z_rmOf X).locals) (hkn : k ≤ (z_rmOf X).cells ∧ n ≤ (z_rmOf X).slots) (hn : As.length = N) (he : w[q0]? = some (b, .inr (ci, fs))) (hc : z_cl[ci]? = some (y.cls, T, NN)) (hsk : (st.map fun v => v.category).sum ≤ 8) (hst : sk = As.reverse ++ .ref b :: st) (d : decode cc pc = .ok (.invokevirtual ix, 3)) (hq : pc + 3 = q) (kk : z_At X A Q Ω k n nL q lv (.long r :: st) w') : z_At X A Q Ω k n nL pc lv sk w := by
  subst hq
  subst hst
  obtain ⟨p, l, e, R, s, m, args, below, meth, c⟩ := X
  obtain ⟨hx, hb, hml, hown, hts, hK, hN⟩ := hC
  intro H locs ls hP hD hS hl
  have hF := z_wFree hD hS hA
  refine va_calll (va_runVN (C := y.cls) (As := As) (rest := st) ⟨hx, hb, hml, hown, hts⟩ (hM H.size) ⟨va_cnB N hts (z_goodC hco) rfl rfl rfl (hN _ hlk) (hts _ hini) hd hR, hts _ hi, hts _ hs⟩ ⟨z_blind w H.size _, va_recv hK hP hc he, fun U hU hW => ⟨rfl, by rw [hU], by rw [hU]; exact hP, va_K.moved hW.alike hK, hD.weaken (fun _ _ _ _ => trivial), z_nestW hW hN⟩⟩ rfl hn hl.1 rfl (lv_room hsk) d ⟨hkn.1, hkn.2⟩) hS (fun q _ h => hF q h) hF (fun r1 u t H1 locs1 ht hvm hp hB hz1 hk1 hS1 => ?_)
  obtain ⟨hP1, hD1⟩ := hB
  rw [ht] at hP1
  subst hp
  exact kk H1 locs1 ls hP1 (hD1.weaken (fun _ q _ h => hF q.1 h)) hS1 hl
theorem z_callSNl {y : MethodName} {bytes : ByteArray} {maxL fr lo N ix : Nat} {host : String} {r : Int64} {rt : FieldType} {As sk : List Value} {w' : va_W} (hC : z_C X cc nL own Ω) (hA : z_hA X A) (hM : z_ML (z_lOf X) Ω y bytes maxL rt fr lo As w r w') (hco : Cond.code y bytes maxL (some rt) ∈ z_good) (hlk : Cond.methodLinkNest own ix y host ∈ z_nest) (hi : Cond.static y ∈ z_good) (hini : Cond.initialized y.cls ∈ z_good) (hd : y.cls ≠ "java/lang/invoke/MethodHandle" ∧ y.cls ≠ "java/lang/invoke/VarHandle" ∧ (parseMethodDescriptor y.desc).map (fun d => d.parameters.length) = some N) (hR : fr + 1 ≤ (z_rmOf X).frames ∧ 8 + (maxL + 11) + lo ≤ (z_rmOf X).locals) (hkn : k ≤ (z_rmOf X).cells ∧ n ≤ (z_rmOf X).slots) (hn : As.length = N) (hsk : (st.map fun v => v.category).sum ≤ 8) (hst : sk = As.reverse ++ st) (d : decode cc pc = .ok (.invokestatic ix, 3)) (hq : pc + 3 = q) (kk : z_At X A Q Ω k n nL q lv (.long r :: st) w') : z_At X A Q Ω k n nL pc lv sk w := by
  subst hq
  subst hst
  obtain ⟨p, l, e, R, s, m, args, below, meth, c⟩ := X
  obtain ⟨hx, hb, hml, hown, hts, hK, hN⟩ := hC
  intro H locs ls hP hD hS hl
  have hF := z_wFree hD hS hA
  refine va_calll (va_runSN (As := As) (rest := st) ⟨hx, hb, hml, hown, hts⟩ (hM H.size) ⟨va_cnB N hts (z_goodC hco) rfl rfl rfl (hN _ hlk) (hts _ hini) hd hR, hts _ hi, trivial⟩ ⟨z_blind w H.size _, fun U hU hW => ⟨rfl, by rw [hU], by rw [hU]; exact hP, va_K.moved hW.alike hK, hD.weaken (fun _ _ _ _ => trivial), z_nestW hW hN⟩⟩ rfl hn hl.1 rfl (lv_room hsk) d ⟨hkn.1, hkn.2⟩) hS (fun q _ h => hF q h) hF (fun r1 u t H1 locs1 ht hvm hp hB hz1 hk1 hS1 => ?_)
  obtain ⟨hP1, hD1⟩ := hB
  rw [ht] at hP1
  subst hp
  exact kk H1 locs1 ls hP1 (hD1.weaken (fun _ q _ h => hF q.1 h)) hS1 hl
theorem z_callVv {y : MethodName} {bytes : ByteArray} {maxL fr lo N ix b : Nat} {host : String} {As sk : List Value} {w' : va_W} {q0 ci : Nat} {fs : List Value} {T : u_T} {NN : Nat} (hC : z_C X cc nL own Ω) (hA : z_hA X A) (hM : z_MV (z_lOf X) Ω y bytes maxL fr lo (.ref b :: As) w w') (hco : Cond.code y bytes maxL none ∈ z_good) (hlk : Cond.methodLink own ix y ∈ z_good) (hi : Cond.instanceMethod y ∈ z_good) (hs : Cond.selects y.cls y y ∈ z_good) (hini : Cond.initialized y.cls ∈ z_good) (hd : y.cls ≠ "java/lang/invoke/MethodHandle" ∧ y.cls ≠ "java/lang/invoke/VarHandle" ∧ (parseMethodDescriptor y.desc).map (fun d => d.parameters.length) = some N) (hR : fr + 1 ≤ (z_rmOf X).frames ∧ 8 + (maxL + 11) + lo ≤ (z_rmOf X).locals) (hkn : k ≤ (z_rmOf X).cells ∧ n ≤ (z_rmOf X).slots) (hn : As.length = N) (he : w[q0]? = some (b, .inr (ci, fs))) (hc : z_cl[ci]? = some (y.cls, T, NN)) (hsk : (st.map fun v => v.category).sum ≤ 8) (hst : sk = As.reverse ++ .ref b :: st) (d : decode cc pc = .ok (.invokevirtual ix, 3)) (hq : pc + 3 = q) (kk : z_At X A Q Ω k n nL q lv st w') : z_At X A Q Ω k n nL pc lv sk w := by
  subst hq
  subst hst
  obtain ⟨p, l, e, R, s, m, args, below, meth, c⟩ := X
  obtain ⟨hx, hb, hml, hown, hts, hK, hN⟩ := hC
  intro H locs ls hP hD hS hl
  have hF := z_wFree hD hS hA
  refine va_callv (va_runV (C := y.cls) (As := As) (rest := st) ⟨hx, hb, hml, hown, hts⟩ (hM H.size) ⟨callB_of N hts (z_goodC hco) rfl rfl rfl (hts _ hini) (hts _ hlk) hd hR, hts _ hi, hts _ hs⟩ ⟨z_blind w H.size _, va_recv hK hP hc he, fun U hU hW => ⟨rfl, by rw [hU], by rw [hU]; exact hP, va_K.moved hW.alike hK, hD.weaken (fun _ _ _ _ => trivial), z_nestW hW hN⟩⟩ rfl hn hl.1 rfl (lv_room hsk) d ⟨hkn.1, hkn.2⟩) hS (fun q _ h => hF q h) hF (fun u t H1 locs1 ht hvm hp hB hz1 hk1 hS1 => ?_)
  obtain ⟨hP1, hD1⟩ := hB
  rw [ht] at hP1
  exact kk H1 locs1 ls hP1 (hD1.weaken (fun _ q _ h => hF q.1 h)) hS1 hl
theorem z_callSv {y : MethodName} {bytes : ByteArray} {maxL fr lo N ix : Nat} {host : String} {As sk : List Value} {w' : va_W} (hC : z_C X cc nL own Ω) (hA : z_hA X A) (hM : z_MV (z_lOf X) Ω y bytes maxL fr lo As w w') (hco : Cond.code y bytes maxL none ∈ z_good) (hlk : Cond.methodLink own ix y ∈ z_good) (hi : Cond.static y ∈ z_good) (hini : Cond.initialized y.cls ∈ z_good) (hd : y.cls ≠ "java/lang/invoke/MethodHandle" ∧ y.cls ≠ "java/lang/invoke/VarHandle" ∧ (parseMethodDescriptor y.desc).map (fun d => d.parameters.length) = some N) (hR : fr + 1 ≤ (z_rmOf X).frames ∧ 8 + (maxL + 11) + lo ≤ (z_rmOf X).locals) (hkn : k ≤ (z_rmOf X).cells ∧ n ≤ (z_rmOf X).slots) (hn : As.length = N) (hsk : (st.map fun v => v.category).sum ≤ 8) (hst : sk = As.reverse ++ st) (d : decode cc pc = .ok (.invokestatic ix, 3)) (hq : pc + 3 = q) (kk : z_At X A Q Ω k n nL q lv st w') : z_At X A Q Ω k n nL pc lv sk w := by
  subst hq
  subst hst
  obtain ⟨p, l, e, R, s, m, args, below, meth, c⟩ := X
  obtain ⟨hx, hb, hml, hown, hts, hK, hN⟩ := hC
  intro H locs ls hP hD hS hl
  have hF := z_wFree hD hS hA
  refine va_callv (va_runS (As := As) (rest := st) ⟨hx, hb, hml, hown, hts⟩ (hM H.size) ⟨callB_of N hts (z_goodC hco) rfl rfl rfl (hts _ hini) (hts _ hlk) hd hR, hts _ hi⟩ ⟨z_blind w H.size _, fun U hU hW => ⟨rfl, by rw [hU], by rw [hU]; exact hP, va_K.moved hW.alike hK, hD.weaken (fun _ _ _ _ => trivial), z_nestW hW hN⟩⟩ rfl hn hl.1 rfl (lv_room hsk) d ⟨hkn.1, hkn.2⟩) hS (fun q _ h => hF q h) hF (fun u t H1 locs1 ht hvm hp hB hz1 hk1 hS1 => ?_)
  obtain ⟨hP1, hD1⟩ := hB
  rw [ht] at hP1
  exact kk H1 locs1 ls hP1 (hD1.weaken (fun _ q _ h => hF q.1 h)) hS1 hl
theorem z_callVNv {y : MethodName} {bytes : ByteArray} {maxL fr lo N ix b : Nat} {host : String} {As sk : List Value} {w' : va_W} {q0 ci : Nat} {fs : List Value} {T : u_T} {NN : Nat} (hC : z_C X cc nL own Ω) (hA : z_hA X A) (hM : z_MV (z_lOf X) Ω y bytes maxL fr lo (.ref b :: As) w w') (hco : Cond.code y bytes maxL none ∈ z_good) (hlk : Cond.methodLinkNest own ix y host ∈ z_nest) (hi : Cond.instanceMethod y ∈ z_good) (hs : Cond.selects y.cls y y ∈ z_good) (hini : Cond.initialized y.cls ∈ z_good) (hd : y.cls ≠ "java/lang/invoke/MethodHandle" ∧ y.cls ≠ "java/lang/invoke/VarHandle" ∧ (parseMethodDescriptor y.desc).map (fun d => d.parameters.length) = some N) (hR : fr + 1 ≤ (z_rmOf X).frames ∧ 8 + (maxL + 11) + lo ≤ (z_rmOf X).locals) (hkn : k ≤ (z_rmOf X).cells ∧ n ≤ (z_rmOf X).slots) (hn : As.length = N) (he : w[q0]? = some (b, .inr (ci, fs))) (hc : z_cl[ci]? = some (y.cls, T, NN)) (hsk : (st.map fun v => v.category).sum ≤ 8) (hst : sk = As.reverse ++ .ref b :: st) (d : decode cc pc = .ok (.invokevirtual ix, 3)) (hq : pc + 3 = q) (kk : z_At X A Q Ω k n nL q lv st w') : z_At X A Q Ω k n nL pc lv sk w := by
  subst hq
  subst hst
  obtain ⟨p, l, e, R, s, m, args, below, meth, c⟩ := X
  obtain ⟨hx, hb, hml, hown, hts, hK, hN⟩ := hC
  intro H locs ls hP hD hS hl
  have hF := z_wFree hD hS hA
  refine va_callv (va_runVN (C := y.cls) (As := As) (rest := st) ⟨hx, hb, hml, hown, hts⟩ (hM H.size) ⟨va_cnB N hts (z_goodC hco) rfl rfl rfl (hN _ hlk) (hts _ hini) hd hR, hts _ hi, hts _ hs⟩ ⟨z_blind w H.size _, va_recv hK hP hc he, fun U hU hW => ⟨rfl, by rw [hU], by rw [hU]; exact hP, va_K.moved hW.alike hK, hD.weaken (fun _ _ _ _ => trivial), z_nestW hW hN⟩⟩ rfl hn hl.1 rfl (lv_room hsk) d ⟨hkn.1, hkn.2⟩) hS (fun q _ h => hF q h) hF (fun u t H1 locs1 ht hvm hp hB hz1 hk1 hS1 => ?_)
  obtain ⟨hP1, hD1⟩ := hB
  rw [ht] at hP1
  exact kk H1 locs1 ls hP1 (hD1.weaken (fun _ q _ h => hF q.1 h)) hS1 hl
theorem z_callSNv {y : MethodName} {bytes : ByteArray} {maxL fr lo N ix : Nat} {host : String} {As sk : List Value} {w' : va_W} (hC : z_C X cc nL own Ω) (hA : z_hA X A) (hM : z_MV (z_lOf X) Ω y bytes maxL fr lo As w w') (hco : Cond.code y bytes maxL none ∈ z_good) (hlk : Cond.methodLinkNest own ix y host ∈ z_nest) (hi : Cond.static y ∈ z_good) (hini : Cond.initialized y.cls ∈ z_good) (hd : y.cls ≠ "java/lang/invoke/MethodHandle" ∧ y.cls ≠ "java/lang/invoke/VarHandle" ∧ (parseMethodDescriptor y.desc).map (fun d => d.parameters.length) = some N) (hR : fr + 1 ≤ (z_rmOf X).frames ∧ 8 + (maxL + 11) + lo ≤ (z_rmOf X).locals) (hkn : k ≤ (z_rmOf X).cells ∧ n ≤ (z_rmOf X).slots) (hn : As.length = N) (hsk : (st.map fun v => v.category).sum ≤ 8) (hst : sk = As.reverse ++ st) (d : decode cc pc = .ok (.invokestatic ix, 3)) (hq : pc + 3 = q) (kk : z_At X A Q Ω k n nL q lv st w') : z_At X A Q Ω k n nL pc lv sk w := by
  subst hq
  subst hst
  obtain ⟨p, l, e, R, s, m, args, below, meth, c⟩ := X
  obtain ⟨hx, hb, hml, hown, hts, hK, hN⟩ := hC
  intro H locs ls hP hD hS hl
  have hF := z_wFree hD hS hA
  refine va_callv (va_runSN (As := As) (rest := st) ⟨hx, hb, hml, hown, hts⟩ (hM H.size) ⟨va_cnB N hts (z_goodC hco) rfl rfl rfl (hN _ hlk) (hts _ hini) hd hR, hts _ hi, trivial⟩ ⟨z_blind w H.size _, fun U hU hW => ⟨rfl, by rw [hU], by rw [hU]; exact hP, va_K.moved hW.alike hK, hD.weaken (fun _ _ _ _ => trivial), z_nestW hW hN⟩⟩ rfl hn hl.1 rfl (lv_room hsk) d ⟨hkn.1, hkn.2⟩) hS (fun q _ h => hF q h) hF (fun u t H1 locs1 ht hvm hp hB hz1 hk1 hS1 => ?_)
  obtain ⟨hP1, hD1⟩ := hB
  rw [ht] at hP1
  exact kk H1 locs1 ls hP1 (hD1.weaken (fun _ q _ h => hF q.1 h)) hS1 hl
end ZROWS
theorem z_introI {l : Launch} {Ω : z_O} {y : MethodName} {cc : ByteArray} {maxL fr lo : Nat} {r : Int32} {rt : FieldType} {av : List Value} {w w' : va_W} {lv : List (Nat × Value)} (hy : plainName y.cls = true) (hlen : (lg_sl av).length ≤ maxL) (hlv : lv_args 0 av = lv)
    (body : ∀ (X : z_X) (A : Nat → Prop), z_C X cc maxL y.cls Ω → z_hA X A → z_R X (some rt) → z_lOf X = l → z_rmOf X = z_rm fr lo → z_At X A (z_QI X Ω A r w') Ω 0 0 maxL 0 lv [] w) : z_MI l Ω y cc maxL rt fr lo av w r w' := by
  intro sz
  refine Met.ofW (cc := cc) (maxL := maxL) (ret := (some rt)) hy rfl ?_
  intro p e s m args below meth c s₁ B hml hv
  obtain ⟨rfl, hsz, hP, hK, hD0, hN⟩ := hv
  have hx := B.exec
  have hb := B.bytes
  have hr := B.returns
  have hts := atoms_spec (ws := .code y cc maxL (some rt) :: z_good) B.pre
  have hown : s.vm.findClass y.cls = some m.cls := findClass_of_methodNamed B.named
  have hlocks := B.notSynchronized
  subst hsz
  have hD := hD0.self (sz := s.heap.size)
  have hl := lv_entry av (n := maxL) hlen
  rw [hlv] at hl
  rw [lg_entry_eq]
  exact body (p, l, e, z_rm fr lo, s, m, av.toArray, below, meth, c) (va_A w s.heap.size) ⟨hx, hb, hml, hown, fun w hw => hts w (List.mem_cons_of_mem _ hw), hK, hN⟩ (fun q h => Or.inr h) ⟨hr, hlocks⟩ rfl rfl s.heap [] _ hP hD va_S.rf hl
theorem z_introL {l : Launch} {Ω : z_O} {y : MethodName} {cc : ByteArray} {maxL fr lo : Nat} {r : Int64} {rt : FieldType} {av : List Value} {w w' : va_W} {lv : List (Nat × Value)} (hy : plainName y.cls = true) (hlen : (lg_sl av).length ≤ maxL) (hlv : lv_args 0 av = lv)
    (body : ∀ (X : z_X) (A : Nat → Prop), z_C X cc maxL y.cls Ω → z_hA X A → z_R X (some rt) → z_lOf X = l → z_rmOf X = z_rm fr lo → z_At X A (z_QL X Ω A r w') Ω 0 0 maxL 0 lv [] w) : z_ML l Ω y cc maxL rt fr lo av w r w' := by
  intro sz
  refine Met.ofW (cc := cc) (maxL := maxL) (ret := (some rt)) hy rfl ?_
  intro p e s m args below meth c s₁ B hml hv
  obtain ⟨rfl, hsz, hP, hK, hD0, hN⟩ := hv
  have hx := B.exec
  have hb := B.bytes
  have hr := B.returns
  have hts := atoms_spec (ws := .code y cc maxL (some rt) :: z_good) B.pre
  have hown : s.vm.findClass y.cls = some m.cls := findClass_of_methodNamed B.named
  have hlocks := B.notSynchronized
  subst hsz
  have hD := hD0.self (sz := s.heap.size)
  have hl := lv_entry av (n := maxL) hlen
  rw [hlv] at hl
  rw [lg_entry_eq]
  exact body (p, l, e, z_rm fr lo, s, m, av.toArray, below, meth, c) (va_A w s.heap.size) ⟨hx, hb, hml, hown, fun w hw => hts w (List.mem_cons_of_mem _ hw), hK, hN⟩ (fun q h => Or.inr h) ⟨hr, hlocks⟩ rfl rfl s.heap [] _ hP hD va_S.rf hl
theorem z_introV {l : Launch} {Ω : z_O} {y : MethodName} {cc : ByteArray} {maxL fr lo : Nat} {av : List Value} {w w' : va_W} {lv : List (Nat × Value)} (hy : plainName y.cls = true) (hlen : (lg_sl av).length ≤ maxL) (hlv : lv_args 0 av = lv)
    (body : ∀ (X : z_X) (A : Nat → Prop), z_C X cc maxL y.cls Ω → z_hA X A → z_R X none → z_lOf X = l → z_rmOf X = z_rm fr lo → z_At X A (z_QV X Ω A w') Ω 0 0 maxL 0 lv [] w) : z_MV l Ω y cc maxL fr lo av w w' := by
  intro sz
  refine Met.ofW (cc := cc) (maxL := maxL) (ret := none) hy rfl ?_
  intro p e s m args below meth c s₁ B hml hv
  obtain ⟨rfl, hsz, hP, hK, hD0, hN⟩ := hv
  have hx := B.exec
  have hb := B.bytes
  have hr := B.returns
  have hts := atoms_spec (ws := .code y cc maxL none :: z_good) B.pre
  have hown : s.vm.findClass y.cls = some m.cls := findClass_of_methodNamed B.named
  have hlocks := B.notSynchronized
  subst hsz
  have hD := hD0.self (sz := s.heap.size)
  have hl := lv_entry av (n := maxL) hlen
  rw [hlv] at hl
  rw [lg_entry_eq]
  exact body (p, l, e, z_rm fr lo, s, m, av.toArray, below, meth, c) (va_A w s.heap.size) ⟨hx, hb, hml, hown, fun w hw => hts w (List.mem_cons_of_mem _ hw), hK, hN⟩ (fun q h => Or.inr h) ⟨hr, hlocks⟩ rfl rfl s.heap [] _ hP hD va_S.rf hl
end
section
/-! the worlds: the class with its nested objects (wN), the reference (wM); a row for each field link and each array -/
def wN (Ω : z_O) (S : z_S) : va_W := [(Ω.2.2 0, .inr (0, [.ref (Ω.2.2 1), .ref (Ω.2.2 2), .ref (Ω.2.2 3), .ref (Ω.2.2 4), .ref (Ω.2.2 5), .ref (Ω.2.2 6)])),
  (Ω.2.2 1, .inr (1, [.ref (Ω.2.2 7), .ref (Ω.2.2 8), .ref (Ω.2.2 9), .ref (Ω.2.2 10), .int (gF S 0), .ref (Ω.2.2 11), .ref (Ω.2.2 12), .long (gG S 0)])),
  (Ω.2.2 2, .inr (2, [.ref (Ω.2.2 13), .ref (Ω.2.2 14), .ref (Ω.2.2 15), .ref (Ω.2.2 16), .int (gF S 1)])),
  (Ω.2.2 3, .inr (2, [.ref (Ω.2.2 17), .ref (Ω.2.2 18), .ref (Ω.2.2 19), .ref (Ω.2.2 20), .int (gF S 2)])),
  (Ω.2.2 4, .inr (3, [.ref (Ω.2.2 21), .ref (Ω.2.2 22), .ref (Ω.2.2 23), .ref (Ω.2.2 24), .ref (Ω.2.2 25), .ref (Ω.2.2 26), .ref (Ω.2.2 27), .int (gF S 3), .int (gF S 4), .long (gG S 1)])),
  (Ω.2.2 5, .inr (4, [.ref (Ω.2.2 28), .ref (Ω.2.2 29), .int (gF S 5), .int (gF S 6), .long (gG S 2)])),
  (Ω.2.2 6, .inl (Ω.2.1.1, 4, .inl (gI S 0))),
  (Ω.2.2 7, .inl (Ω.2.1.1, 6, .inl (gI S 1))),
  (Ω.2.2 8, .inl (Ω.2.1.1, 6, .inl (gI S 2))),
  (Ω.2.2 9, .inl (Ω.2.1.1, 6, .inl (gI S 3))),
  (Ω.2.2 10, .inl (Ω.2.1.1, 6, .inl (gI S 4))),
  (Ω.2.2 11, .inl (Ω.2.1.2.2.2, 4, .inr (.inr (.inr (.inr (fun j => if j < 4 then some (Ω.2.2 (30 + j)) else none)))))),
  (Ω.2.2 12, .inl (Ω.2.1.2.2.2, 4, .inr (.inr (.inr (.inr (fun j => if j < 4 then some (Ω.2.2 (34 + j)) else none)))))),
  (Ω.2.2 13, .inl (Ω.2.1.1, 8, .inl (gI S 5))),
  (Ω.2.2 14, .inl (Ω.2.1.1, 8, .inl (gI S 6))),
  (Ω.2.2 15, .inl (Ω.2.1.1, 8, .inl (gI S 7))),
  (Ω.2.2 16, .inl (Ω.2.1.1, 8, .inl (gI S 8))),
  (Ω.2.2 17, .inl (Ω.2.1.1, 8, .inl (gI S 9))),
  (Ω.2.2 18, .inl (Ω.2.1.1, 8, .inl (gI S 10))),
  (Ω.2.2 19, .inl (Ω.2.1.1, 8, .inl (gI S 11))),
  (Ω.2.2 20, .inl (Ω.2.1.1, 8, .inl (gI S 12))),
  (Ω.2.2 21, .inl (Ω.2.1.2.2.2, 8, .inr (.inr (.inr (.inr (fun j => if j < 8 then some (Ω.2.2 (38 + j)) else none)))))),
  (Ω.2.2 22, .inl (Ω.2.1.1, 8, .inl (gI S 13))),
  (Ω.2.2 23, .inl (Ω.2.1.1, 8, .inl (gI S 14))),
  (Ω.2.2 24, .inl (Ω.2.1.1, 16, .inl (gI S 15))),
  (Ω.2.2 25, .inl (Ω.2.1.1, 16, .inl (gI S 16))),
  (Ω.2.2 26, .inl (Ω.2.1.1, 16, .inl (gI S 17))),
  (Ω.2.2 27, .inl (Ω.2.1.2.2.1, 8, .inl (gI S 18))),
  (Ω.2.2 28, .inl (Ω.2.1.1, 8, .inl (gI S 19))),
  (Ω.2.2 29, .inl (Ω.2.1.1, 6, .inl (gI S 20))),
  (Ω.2.2 30, .inl (Ω.2.1.2.1, 4, .inr (.inl (gJ S 0)))),
  (Ω.2.2 31, .inl (Ω.2.1.2.1, 4, .inr (.inl (gJ S 1)))),
  (Ω.2.2 32, .inl (Ω.2.1.2.1, 4, .inr (.inl (gJ S 2)))),
  (Ω.2.2 33, .inl (Ω.2.1.2.1, 4, .inr (.inl (gJ S 3)))),
  (Ω.2.2 34, .inl (Ω.2.1.2.1, 4, .inr (.inl (gJ S 4)))),
  (Ω.2.2 35, .inl (Ω.2.1.2.1, 4, .inr (.inl (gJ S 5)))),
  (Ω.2.2 36, .inl (Ω.2.1.2.1, 4, .inr (.inl (gJ S 6)))),
  (Ω.2.2 37, .inl (Ω.2.1.2.1, 4, .inr (.inl (gJ S 7)))),
  (Ω.2.2 38, .inl (Ω.2.1.2.1, 8, .inr (.inl (gJ S 8)))),
  (Ω.2.2 39, .inl (Ω.2.1.2.1, 8, .inr (.inl (gJ S 9)))),
  (Ω.2.2 40, .inl (Ω.2.1.2.1, 8, .inr (.inl (gJ S 10)))),
  (Ω.2.2 41, .inl (Ω.2.1.2.1, 8, .inr (.inl (gJ S 11)))),
  (Ω.2.2 42, .inl (Ω.2.1.2.1, 8, .inr (.inl (gJ S 12)))),
  (Ω.2.2 43, .inl (Ω.2.1.2.1, 8, .inr (.inl (gJ S 13)))),
  (Ω.2.2 44, .inl (Ω.2.1.2.1, 8, .inr (.inl (gJ S 14)))),
  (Ω.2.2 45, .inl (Ω.2.1.2.1, 8, .inr (.inl (gJ S 15))))]
def wM (Ω : z_O) (S : z_S) : va_W := [(Ω.2.2 100, .inr (5, [.int (gF S 0), .ref (Ω.2.2 101), .ref (Ω.2.2 102), .ref (Ω.2.2 103), .ref (Ω.2.2 104), .int (gF S 1), .ref (Ω.2.2 105), .ref (Ω.2.2 106), .ref (Ω.2.2 107), .ref (Ω.2.2 108), .ref (Ω.2.2 109), .int (gF S 2), .ref (Ω.2.2 110), .ref (Ω.2.2 111), .ref (Ω.2.2 112), .ref (Ω.2.2 113), .ref (Ω.2.2 114), .long (gG S 0), .ref (Ω.2.2 115), .ref (Ω.2.2 116), .long (gG S 1), .int (gF S 3), .long (gG S 2), .ref (Ω.2.2 117), .ref (Ω.2.2 118), .long (gG S 3), .int (gF S 4), .long (gG S 4), .ref (Ω.2.2 119), .ref (Ω.2.2 120), .long (gG S 5), .ref (Ω.2.2 121), .ref (Ω.2.2 122), .ref (Ω.2.2 123)])),
  (Ω.2.2 101, .inl (Ω.2.1.1, 6, .inl (gI S 0))),
  (Ω.2.2 102, .inl (Ω.2.1.1, 6, .inl (gI S 1))),
  (Ω.2.2 103, .inl (Ω.2.1.1, 6, .inl (gI S 2))),
  (Ω.2.2 104, .inl (Ω.2.1.1, 6, .inl (gI S 3))),
  (Ω.2.2 105, .inl (Ω.2.1.2.2.1, 8, .inl (gI S 4))),
  (Ω.2.2 106, .inl (Ω.2.1.1, 8, .inl (gI S 5))),
  (Ω.2.2 107, .inl (Ω.2.1.1, 8, .inl (gI S 6))),
  (Ω.2.2 108, .inl (Ω.2.1.1, 8, .inl (gI S 7))),
  (Ω.2.2 109, .inl (Ω.2.1.1, 8, .inl (gI S 8))),
  (Ω.2.2 110, .inl (Ω.2.1.2.1, 24, .inr (.inl (gJ S 0)))),
  (Ω.2.2 111, .inl (Ω.2.1.2.1, 24, .inr (.inl (gJ S 1)))),
  (Ω.2.2 112, .inl (Ω.2.1.2.1, 24, .inr (.inl (gJ S 2)))),
  (Ω.2.2 113, .inl (Ω.2.1.2.1, 24, .inr (.inl (gJ S 3)))),
  (Ω.2.2 114, .inl (Ω.2.1.1, 4, .inl (gI S 9))),
  (Ω.2.2 115, .inl (Ω.2.1.2.1, 4, .inr (.inl (gJ S 4)))),
  (Ω.2.2 116, .inl (Ω.2.1.2.1, 8, .inr (.inl (gJ S 5)))),
  (Ω.2.2 117, .inl (Ω.2.1.2.1, 4, .inr (.inl (gJ S 6)))),
  (Ω.2.2 118, .inl (Ω.2.1.2.1, 8, .inr (.inl (gJ S 7)))),
  (Ω.2.2 119, .inl (Ω.2.1.2.1, 8, .inr (.inl (gJ S 8)))),
  (Ω.2.2 120, .inl (Ω.2.1.2.1, 6, .inr (.inl (gJ S 9)))),
  (Ω.2.2 121, .inl (Ω.2.1.2.2.1, 4, .inl (gI S 10))),
  (Ω.2.2 122, .inl (Ω.2.1.2.1, 4, .inr (.inl (gJ S 10)))),
  (Ω.2.2 123, .inl (Ω.2.1.2.1, 4, .inr (.inl (gJ S 11))))]
theorem gf_B_9_2 {X : z_X} {A : Nat → Prop} {Q : State → Prop} {Ω : z_O} {k n nL pc q : Nat} {lv : List (Nat × Value)} {st : List Value} {cc : ByteArray} {S : z_S} (hC : z_C X cc nL "NodalAuction$Book" Ω) (d : decode cc pc = .ok (.getfield 9, 3)) (hq : pc + 3 = q) (kk : z_At X A Q Ω k n nL q lv (.ref (Ω.2.2 13) :: st) (wN Ω S)) : z_At X A Q Ω k n nL pc lv (.ref (Ω.2.2 2) :: st) (wN Ω S) := z_get (g := 0) hC u_B 2 rfl rfl (by decide) k_63 rfl d hq kk
theorem gf_B_9_3 {X : z_X} {A : Nat → Prop} {Q : State → Prop} {Ω : z_O} {k n nL pc q : Nat} {lv : List (Nat × Value)} {st : List Value} {cc : ByteArray} {S : z_S} (hC : z_C X cc nL "NodalAuction$Book" Ω) (d : decode cc pc = .ok (.getfield 9, 3)) (hq : pc + 3 = q) (kk : z_At X A Q Ω k n nL q lv (.ref (Ω.2.2 17) :: st) (wN Ω S)) : z_At X A Q Ω k n nL pc lv (.ref (Ω.2.2 3) :: st) (wN Ω S) := z_get (g := 0) hC u_B 3 rfl rfl (by decide) k_63 rfl d hq kk
theorem gf_B_15_2 {X : z_X} {A : Nat → Prop} {Q : State → Prop} {Ω : z_O} {k n nL pc q : Nat} {lv : List (Nat × Value)} {st : List Value} {cc : ByteArray} {S : z_S} (hC : z_C X cc nL "NodalAuction$Book" Ω) (d : decode cc pc = .ok (.getfield 15, 3)) (hq : pc + 3 = q) (kk : z_At X A Q Ω k n nL q lv (.ref (Ω.2.2 14) :: st) (wN Ω S)) : z_At X A Q Ω k n nL pc lv (.ref (Ω.2.2 2) :: st) (wN Ω S) := z_get (g := 1) hC u_B 2 rfl rfl (by decide) k_66 rfl d hq kk
theorem gf_B_15_3 {X : z_X} {A : Nat → Prop} {Q : State → Prop} {Ω : z_O} {k n nL pc q : Nat} {lv : List (Nat × Value)} {st : List Value} {cc : ByteArray} {S : z_S} (hC : z_C X cc nL "NodalAuction$Book" Ω) (d : decode cc pc = .ok (.getfield 15, 3)) (hq : pc + 3 = q) (kk : z_At X A Q Ω k n nL q lv (.ref (Ω.2.2 18) :: st) (wN Ω S)) : z_At X A Q Ω k n nL pc lv (.ref (Ω.2.2 3) :: st) (wN Ω S) := z_get (g := 1) hC u_B 3 rfl rfl (by decide) k_66 rfl d hq kk
theorem gf_B_18_2 {X : z_X} {A : Nat → Prop} {Q : State → Prop} {Ω : z_O} {k n nL pc q : Nat} {lv : List (Nat × Value)} {st : List Value} {cc : ByteArray} {S : z_S} (hC : z_C X cc nL "NodalAuction$Book" Ω) (d : decode cc pc = .ok (.getfield 18, 3)) (hq : pc + 3 = q) (kk : z_At X A Q Ω k n nL q lv (.ref (Ω.2.2 15) :: st) (wN Ω S)) : z_At X A Q Ω k n nL pc lv (.ref (Ω.2.2 2) :: st) (wN Ω S) := z_get (g := 2) hC u_B 2 rfl rfl (by decide) k_69 rfl d hq kk
theorem gf_B_18_3 {X : z_X} {A : Nat → Prop} {Q : State → Prop} {Ω : z_O} {k n nL pc q : Nat} {lv : List (Nat × Value)} {st : List Value} {cc : ByteArray} {S : z_S} (hC : z_C X cc nL "NodalAuction$Book" Ω) (d : decode cc pc = .ok (.getfield 18, 3)) (hq : pc + 3 = q) (kk : z_At X A Q Ω k n nL q lv (.ref (Ω.2.2 19) :: st) (wN Ω S)) : z_At X A Q Ω k n nL pc lv (.ref (Ω.2.2 3) :: st) (wN Ω S) := z_get (g := 2) hC u_B 3 rfl rfl (by decide) k_69 rfl d hq kk
theorem gf_B_21_2 {X : z_X} {A : Nat → Prop} {Q : State → Prop} {Ω : z_O} {k n nL pc q : Nat} {lv : List (Nat × Value)} {st : List Value} {cc : ByteArray} {S : z_S} (hC : z_C X cc nL "NodalAuction$Book" Ω) (d : decode cc pc = .ok (.getfield 21, 3)) (hq : pc + 3 = q) (kk : z_At X A Q Ω k n nL q lv (.ref (Ω.2.2 16) :: st) (wN Ω S)) : z_At X A Q Ω k n nL pc lv (.ref (Ω.2.2 2) :: st) (wN Ω S) := z_get (g := 3) hC u_B 2 rfl rfl (by decide) k_72 rfl d hq kk
theorem gf_B_21_3 {X : z_X} {A : Nat → Prop} {Q : State → Prop} {Ω : z_O} {k n nL pc q : Nat} {lv : List (Nat × Value)} {st : List Value} {cc : ByteArray} {S : z_S} (hC : z_C X cc nL "NodalAuction$Book" Ω) (d : decode cc pc = .ok (.getfield 21, 3)) (hq : pc + 3 = q) (kk : z_At X A Q Ω k n nL q lv (.ref (Ω.2.2 20) :: st) (wN Ω S)) : z_At X A Q Ω k n nL pc lv (.ref (Ω.2.2 3) :: st) (wN Ω S) := z_get (g := 3) hC u_B 3 rfl rfl (by decide) k_72 rfl d hq kk
theorem gf_B_24_2 {X : z_X} {A : Nat → Prop} {Q : State → Prop} {Ω : z_O} {k n nL pc q : Nat} {lv : List (Nat × Value)} {st : List Value} {cc : ByteArray} {S : z_S} (hC : z_C X cc nL "NodalAuction$Book" Ω) (d : decode cc pc = .ok (.getfield 24, 3)) (hq : pc + 3 = q) (kk : z_At X A Q Ω k n nL q lv (.int (gF S 1) :: st) (wN Ω S)) : z_At X A Q Ω k n nL pc lv (.ref (Ω.2.2 2) :: st) (wN Ω S) := z_get (g := 4) hC u_B 2 rfl rfl (by decide) k_75 rfl d hq kk
theorem pf_B_24_2 {X : z_X} {A : Nat → Prop} {Q : State → Prop} {Ω : z_O} {k n nL pc q : Nat} {lv : List (Nat × Value)} {st : List Value} {cc : ByteArray} {S : z_S} {v : Int32} (hC : z_C X cc nL "NodalAuction$Book" Ω) (d : decode cc pc = .ok (.putfield 24, 3)) (hq : pc + 3 = q) (kk : z_At X A Q Ω k n nL q lv st (wN Ω (sF S 1 v))) : z_At X A Q Ω k n nL pc lv (.int v :: .ref (Ω.2.2 2) :: st) (wN Ω S) := z_put (g := 4) (ty := .int) hC u_B t_B t_B_ok n_B 2 rfl rfl (by decide) k_75 rfl (by decide +kernel) rfl rfl (Nat.le_of_ble_eq_true rfl) rfl d hq kk
theorem gf_B_24_3 {X : z_X} {A : Nat → Prop} {Q : State → Prop} {Ω : z_O} {k n nL pc q : Nat} {lv : List (Nat × Value)} {st : List Value} {cc : ByteArray} {S : z_S} (hC : z_C X cc nL "NodalAuction$Book" Ω) (d : decode cc pc = .ok (.getfield 24, 3)) (hq : pc + 3 = q) (kk : z_At X A Q Ω k n nL q lv (.int (gF S 2) :: st) (wN Ω S)) : z_At X A Q Ω k n nL pc lv (.ref (Ω.2.2 3) :: st) (wN Ω S) := z_get (g := 4) hC u_B 3 rfl rfl (by decide) k_75 rfl d hq kk
theorem pf_B_24_3 {X : z_X} {A : Nat → Prop} {Q : State → Prop} {Ω : z_O} {k n nL pc q : Nat} {lv : List (Nat × Value)} {st : List Value} {cc : ByteArray} {S : z_S} {v : Int32} (hC : z_C X cc nL "NodalAuction$Book" Ω) (d : decode cc pc = .ok (.putfield 24, 3)) (hq : pc + 3 = q) (kk : z_At X A Q Ω k n nL q lv st (wN Ω (sF S 2 v))) : z_At X A Q Ω k n nL pc lv (.int v :: .ref (Ω.2.2 3) :: st) (wN Ω S) := z_put (g := 4) (ty := .int) hC u_B t_B t_B_ok n_B 3 rfl rfl (by decide) k_75 rfl (by decide +kernel) rfl rfl (Nat.le_of_ble_eq_true rfl) rfl d hq kk
theorem gf_G_9_1 {X : z_X} {A : Nat → Prop} {Q : State → Prop} {Ω : z_O} {k n nL pc q : Nat} {lv : List (Nat × Value)} {st : List Value} {cc : ByteArray} {S : z_S} (hC : z_C X cc nL "NodalAuction$Grid" Ω) (d : decode cc pc = .ok (.getfield 9, 3)) (hq : pc + 3 = q) (kk : z_At X A Q Ω k n nL q lv (.ref (Ω.2.2 7) :: st) (wN Ω S)) : z_At X A Q Ω k n nL pc lv (.ref (Ω.2.2 1) :: st) (wN Ω S) := z_get (g := 0) hC u_G 1 rfl rfl (by decide) k_24 rfl d hq kk
theorem gf_G_15_1 {X : z_X} {A : Nat → Prop} {Q : State → Prop} {Ω : z_O} {k n nL pc q : Nat} {lv : List (Nat × Value)} {st : List Value} {cc : ByteArray} {S : z_S} (hC : z_C X cc nL "NodalAuction$Grid" Ω) (d : decode cc pc = .ok (.getfield 15, 3)) (hq : pc + 3 = q) (kk : z_At X A Q Ω k n nL q lv (.ref (Ω.2.2 8) :: st) (wN Ω S)) : z_At X A Q Ω k n nL pc lv (.ref (Ω.2.2 1) :: st) (wN Ω S) := z_get (g := 1) hC u_G 1 rfl rfl (by decide) k_25 rfl d hq kk
theorem gf_G_18_1 {X : z_X} {A : Nat → Prop} {Q : State → Prop} {Ω : z_O} {k n nL pc q : Nat} {lv : List (Nat × Value)} {st : List Value} {cc : ByteArray} {S : z_S} (hC : z_C X cc nL "NodalAuction$Grid" Ω) (d : decode cc pc = .ok (.getfield 18, 3)) (hq : pc + 3 = q) (kk : z_At X A Q Ω k n nL q lv (.ref (Ω.2.2 9) :: st) (wN Ω S)) : z_At X A Q Ω k n nL pc lv (.ref (Ω.2.2 1) :: st) (wN Ω S) := z_get (g := 2) hC u_G 1 rfl rfl (by decide) k_26 rfl d hq kk
theorem gf_G_21_1 {X : z_X} {A : Nat → Prop} {Q : State → Prop} {Ω : z_O} {k n nL pc q : Nat} {lv : List (Nat × Value)} {st : List Value} {cc : ByteArray} {S : z_S} (hC : z_C X cc nL "NodalAuction$Grid" Ω) (d : decode cc pc = .ok (.getfield 21, 3)) (hq : pc + 3 = q) (kk : z_At X A Q Ω k n nL q lv (.ref (Ω.2.2 10) :: st) (wN Ω S)) : z_At X A Q Ω k n nL pc lv (.ref (Ω.2.2 1) :: st) (wN Ω S) := z_get (g := 3) hC u_G 1 rfl rfl (by decide) k_27 rfl d hq kk
theorem gf_G_24_1 {X : z_X} {A : Nat → Prop} {Q : State → Prop} {Ω : z_O} {k n nL pc q : Nat} {lv : List (Nat × Value)} {st : List Value} {cc : ByteArray} {S : z_S} (hC : z_C X cc nL "NodalAuction$Grid" Ω) (d : decode cc pc = .ok (.getfield 24, 3)) (hq : pc + 3 = q) (kk : z_At X A Q Ω k n nL q lv (.int (gF S 0) :: st) (wN Ω S)) : z_At X A Q Ω k n nL pc lv (.ref (Ω.2.2 1) :: st) (wN Ω S) := z_get (g := 4) hC u_G 1 rfl rfl (by decide) k_30 rfl d hq kk
theorem pf_G_24_1 {X : z_X} {A : Nat → Prop} {Q : State → Prop} {Ω : z_O} {k n nL pc q : Nat} {lv : List (Nat × Value)} {st : List Value} {cc : ByteArray} {S : z_S} {v : Int32} (hC : z_C X cc nL "NodalAuction$Grid" Ω) (d : decode cc pc = .ok (.putfield 24, 3)) (hq : pc + 3 = q) (kk : z_At X A Q Ω k n nL q lv st (wN Ω (sF S 0 v))) : z_At X A Q Ω k n nL pc lv (.int v :: .ref (Ω.2.2 1) :: st) (wN Ω S) := z_put (g := 4) (ty := .int) hC u_G t_G t_G_ok n_G 1 rfl rfl (by decide) k_30 rfl (by decide +kernel) rfl rfl (Nat.le_of_ble_eq_true rfl) rfl d hq kk
theorem gf_G_30_1 {X : z_X} {A : Nat → Prop} {Q : State → Prop} {Ω : z_O} {k n nL pc q : Nat} {lv : List (Nat × Value)} {st : List Value} {cc : ByteArray} {S : z_S} (hC : z_C X cc nL "NodalAuction$Grid" Ω) (d : decode cc pc = .ok (.getfield 30, 3)) (hq : pc + 3 = q) (kk : z_At X A Q Ω k n nL q lv (.ref (Ω.2.2 11) :: st) (wN Ω S)) : z_At X A Q Ω k n nL pc lv (.ref (Ω.2.2 1) :: st) (wN Ω S) := z_get (g := 5) hC u_G 1 rfl rfl (by decide) k_34 rfl d hq kk
theorem gf_G_33_1 {X : z_X} {A : Nat → Prop} {Q : State → Prop} {Ω : z_O} {k n nL pc q : Nat} {lv : List (Nat × Value)} {st : List Value} {cc : ByteArray} {S : z_S} (hC : z_C X cc nL "NodalAuction$Grid" Ω) (d : decode cc pc = .ok (.getfield 33, 3)) (hq : pc + 3 = q) (kk : z_At X A Q Ω k n nL q lv (.ref (Ω.2.2 12) :: st) (wN Ω S)) : z_At X A Q Ω k n nL pc lv (.ref (Ω.2.2 1) :: st) (wN Ω S) := z_get (g := 6) hC u_G 1 rfl rfl (by decide) k_35 rfl d hq kk
theorem gf_G_36_1 {X : z_X} {A : Nat → Prop} {Q : State → Prop} {Ω : z_O} {k n nL pc q : Nat} {lv : List (Nat × Value)} {st : List Value} {cc : ByteArray} {S : z_S} (hC : z_C X cc nL "NodalAuction$Grid" Ω) (d : decode cc pc = .ok (.getfield 36, 3)) (hq : pc + 3 = q) (kk : z_At X A Q Ω k n nL q lv (.long (gG S 0) :: st) (wN Ω S)) : z_At X A Q Ω k n nL pc lv (.ref (Ω.2.2 1) :: st) (wN Ω S) := z_get (g := 7) hC u_G 1 rfl rfl (by decide) k_36 rfl d hq kk
theorem pf_G_36_1 {X : z_X} {A : Nat → Prop} {Q : State → Prop} {Ω : z_O} {k n nL pc q : Nat} {lv : List (Nat × Value)} {st : List Value} {cc : ByteArray} {S : z_S} {v : Int64} (hC : z_C X cc nL "NodalAuction$Grid" Ω) (d : decode cc pc = .ok (.putfield 36, 3)) (hq : pc + 3 = q) (kk : z_At X A Q Ω k n nL q lv st (wN Ω (sG S 0 v))) : z_At X A Q Ω k n nL pc lv (.long v :: .ref (Ω.2.2 1) :: st) (wN Ω S) := z_put (g := 7) (ty := .long) hC u_G t_G t_G_ok n_G 1 rfl rfl (by decide) k_36 rfl (by decide +kernel) rfl rfl (Nat.le_of_ble_eq_true rfl) rfl d hq kk
theorem gf_M_7_0 {X : z_X} {A : Nat → Prop} {Q : State → Prop} {Ω : z_O} {k n nL pc q : Nat} {lv : List (Nat × Value)} {st : List Value} {cc : ByteArray} {S : z_S} (hC : z_C X cc nL "NodalAuctionModel" Ω) (d : decode cc pc = .ok (.getfield 7, 3)) (hq : pc + 3 = q) (kk : z_At X A Q Ω k n nL q lv (.ref (Ω.2.2 101) :: st) (wM Ω S)) : z_At X A Q Ω k n nL pc lv (.ref (Ω.2.2 100) :: st) (wM Ω S) := z_get (g := 1) hC u_M 0 rfl rfl (by decide) k_431 rfl d hq kk
theorem gf_M_13_0 {X : z_X} {A : Nat → Prop} {Q : State → Prop} {Ω : z_O} {k n nL pc q : Nat} {lv : List (Nat × Value)} {st : List Value} {cc : ByteArray} {S : z_S} (hC : z_C X cc nL "NodalAuctionModel" Ω) (d : decode cc pc = .ok (.getfield 13, 3)) (hq : pc + 3 = q) (kk : z_At X A Q Ω k n nL q lv (.ref (Ω.2.2 102) :: st) (wM Ω S)) : z_At X A Q Ω k n nL pc lv (.ref (Ω.2.2 100) :: st) (wM Ω S) := z_get (g := 2) hC u_M 0 rfl rfl (by decide) k_432 rfl d hq kk
theorem gf_M_16_0 {X : z_X} {A : Nat → Prop} {Q : State → Prop} {Ω : z_O} {k n nL pc q : Nat} {lv : List (Nat × Value)} {st : List Value} {cc : ByteArray} {S : z_S} (hC : z_C X cc nL "NodalAuctionModel" Ω) (d : decode cc pc = .ok (.getfield 16, 3)) (hq : pc + 3 = q) (kk : z_At X A Q Ω k n nL q lv (.ref (Ω.2.2 103) :: st) (wM Ω S)) : z_At X A Q Ω k n nL pc lv (.ref (Ω.2.2 100) :: st) (wM Ω S) := z_get (g := 3) hC u_M 0 rfl rfl (by decide) k_433 rfl d hq kk
theorem gf_M_19_0 {X : z_X} {A : Nat → Prop} {Q : State → Prop} {Ω : z_O} {k n nL pc q : Nat} {lv : List (Nat × Value)} {st : List Value} {cc : ByteArray} {S : z_S} (hC : z_C X cc nL "NodalAuctionModel" Ω) (d : decode cc pc = .ok (.getfield 19, 3)) (hq : pc + 3 = q) (kk : z_At X A Q Ω k n nL q lv (.ref (Ω.2.2 104) :: st) (wM Ω S)) : z_At X A Q Ω k n nL pc lv (.ref (Ω.2.2 100) :: st) (wM Ω S) := z_get (g := 4) hC u_M 0 rfl rfl (by decide) k_434 rfl d hq kk
theorem gf_M_22_0 {X : z_X} {A : Nat → Prop} {Q : State → Prop} {Ω : z_O} {k n nL pc q : Nat} {lv : List (Nat × Value)} {st : List Value} {cc : ByteArray} {S : z_S} (hC : z_C X cc nL "NodalAuctionModel" Ω) (d : decode cc pc = .ok (.getfield 22, 3)) (hq : pc + 3 = q) (kk : z_At X A Q Ω k n nL q lv (.ref (Ω.2.2 105) :: st) (wM Ω S)) : z_At X A Q Ω k n nL pc lv (.ref (Ω.2.2 100) :: st) (wM Ω S) := z_get (g := 6) hC u_M 0 rfl rfl (by decide) k_436 rfl d hq kk
theorem gf_M_26_0 {X : z_X} {A : Nat → Prop} {Q : State → Prop} {Ω : z_O} {k n nL pc q : Nat} {lv : List (Nat × Value)} {st : List Value} {cc : ByteArray} {S : z_S} (hC : z_C X cc nL "NodalAuctionModel" Ω) (d : decode cc pc = .ok (.getfield 26, 3)) (hq : pc + 3 = q) (kk : z_At X A Q Ω k n nL q lv (.ref (Ω.2.2 106) :: st) (wM Ω S)) : z_At X A Q Ω k n nL pc lv (.ref (Ω.2.2 100) :: st) (wM Ω S) := z_get (g := 7) hC u_M 0 rfl rfl (by decide) k_437 rfl d hq kk
theorem gf_M_29_0 {X : z_X} {A : Nat → Prop} {Q : State → Prop} {Ω : z_O} {k n nL pc q : Nat} {lv : List (Nat × Value)} {st : List Value} {cc : ByteArray} {S : z_S} (hC : z_C X cc nL "NodalAuctionModel" Ω) (d : decode cc pc = .ok (.getfield 29, 3)) (hq : pc + 3 = q) (kk : z_At X A Q Ω k n nL q lv (.ref (Ω.2.2 107) :: st) (wM Ω S)) : z_At X A Q Ω k n nL pc lv (.ref (Ω.2.2 100) :: st) (wM Ω S) := z_get (g := 8) hC u_M 0 rfl rfl (by decide) k_438 rfl d hq kk
theorem gf_M_32_0 {X : z_X} {A : Nat → Prop} {Q : State → Prop} {Ω : z_O} {k n nL pc q : Nat} {lv : List (Nat × Value)} {st : List Value} {cc : ByteArray} {S : z_S} (hC : z_C X cc nL "NodalAuctionModel" Ω) (d : decode cc pc = .ok (.getfield 32, 3)) (hq : pc + 3 = q) (kk : z_At X A Q Ω k n nL q lv (.ref (Ω.2.2 108) :: st) (wM Ω S)) : z_At X A Q Ω k n nL pc lv (.ref (Ω.2.2 100) :: st) (wM Ω S) := z_get (g := 9) hC u_M 0 rfl rfl (by decide) k_439 rfl d hq kk
theorem gf_M_35_0 {X : z_X} {A : Nat → Prop} {Q : State → Prop} {Ω : z_O} {k n nL pc q : Nat} {lv : List (Nat × Value)} {st : List Value} {cc : ByteArray} {S : z_S} (hC : z_C X cc nL "NodalAuctionModel" Ω) (d : decode cc pc = .ok (.getfield 35, 3)) (hq : pc + 3 = q) (kk : z_At X A Q Ω k n nL q lv (.ref (Ω.2.2 109) :: st) (wM Ω S)) : z_At X A Q Ω k n nL pc lv (.ref (Ω.2.2 100) :: st) (wM Ω S) := z_get (g := 10) hC u_M 0 rfl rfl (by decide) k_440 rfl d hq kk
theorem gf_M_38_0 {X : z_X} {A : Nat → Prop} {Q : State → Prop} {Ω : z_O} {k n nL pc q : Nat} {lv : List (Nat × Value)} {st : List Value} {cc : ByteArray} {S : z_S} (hC : z_C X cc nL "NodalAuctionModel" Ω) (d : decode cc pc = .ok (.getfield 38, 3)) (hq : pc + 3 = q) (kk : z_At X A Q Ω k n nL q lv (.ref (Ω.2.2 110) :: st) (wM Ω S)) : z_At X A Q Ω k n nL pc lv (.ref (Ω.2.2 100) :: st) (wM Ω S) := z_get (g := 12) hC u_M 0 rfl rfl (by decide) k_442 rfl d hq kk
theorem gf_M_42_0 {X : z_X} {A : Nat → Prop} {Q : State → Prop} {Ω : z_O} {k n nL pc q : Nat} {lv : List (Nat × Value)} {st : List Value} {cc : ByteArray} {S : z_S} (hC : z_C X cc nL "NodalAuctionModel" Ω) (d : decode cc pc = .ok (.getfield 42, 3)) (hq : pc + 3 = q) (kk : z_At X A Q Ω k n nL q lv (.ref (Ω.2.2 111) :: st) (wM Ω S)) : z_At X A Q Ω k n nL pc lv (.ref (Ω.2.2 100) :: st) (wM Ω S) := z_get (g := 13) hC u_M 0 rfl rfl (by decide) k_443 rfl d hq kk
theorem gf_M_45_0 {X : z_X} {A : Nat → Prop} {Q : State → Prop} {Ω : z_O} {k n nL pc q : Nat} {lv : List (Nat × Value)} {st : List Value} {cc : ByteArray} {S : z_S} (hC : z_C X cc nL "NodalAuctionModel" Ω) (d : decode cc pc = .ok (.getfield 45, 3)) (hq : pc + 3 = q) (kk : z_At X A Q Ω k n nL q lv (.ref (Ω.2.2 112) :: st) (wM Ω S)) : z_At X A Q Ω k n nL pc lv (.ref (Ω.2.2 100) :: st) (wM Ω S) := z_get (g := 14) hC u_M 0 rfl rfl (by decide) k_444 rfl d hq kk
theorem gf_M_48_0 {X : z_X} {A : Nat → Prop} {Q : State → Prop} {Ω : z_O} {k n nL pc q : Nat} {lv : List (Nat × Value)} {st : List Value} {cc : ByteArray} {S : z_S} (hC : z_C X cc nL "NodalAuctionModel" Ω) (d : decode cc pc = .ok (.getfield 48, 3)) (hq : pc + 3 = q) (kk : z_At X A Q Ω k n nL q lv (.ref (Ω.2.2 113) :: st) (wM Ω S)) : z_At X A Q Ω k n nL pc lv (.ref (Ω.2.2 100) :: st) (wM Ω S) := z_get (g := 15) hC u_M 0 rfl rfl (by decide) k_445 rfl d hq kk
theorem gf_M_51_0 {X : z_X} {A : Nat → Prop} {Q : State → Prop} {Ω : z_O} {k n nL pc q : Nat} {lv : List (Nat × Value)} {st : List Value} {cc : ByteArray} {S : z_S} (hC : z_C X cc nL "NodalAuctionModel" Ω) (d : decode cc pc = .ok (.getfield 51, 3)) (hq : pc + 3 = q) (kk : z_At X A Q Ω k n nL q lv (.ref (Ω.2.2 114) :: st) (wM Ω S)) : z_At X A Q Ω k n nL pc lv (.ref (Ω.2.2 100) :: st) (wM Ω S) := z_get (g := 16) hC u_M 0 rfl rfl (by decide) k_446 rfl d hq kk
theorem gf_M_54_0 {X : z_X} {A : Nat → Prop} {Q : State → Prop} {Ω : z_O} {k n nL pc q : Nat} {lv : List (Nat × Value)} {st : List Value} {cc : ByteArray} {S : z_S} (hC : z_C X cc nL "NodalAuctionModel" Ω) (d : decode cc pc = .ok (.getfield 54, 3)) (hq : pc + 3 = q) (kk : z_At X A Q Ω k n nL q lv (.ref (Ω.2.2 115) :: st) (wM Ω S)) : z_At X A Q Ω k n nL pc lv (.ref (Ω.2.2 100) :: st) (wM Ω S) := z_get (g := 18) hC u_M 0 rfl rfl (by decide) k_448 rfl d hq kk
theorem gf_M_57_0 {X : z_X} {A : Nat → Prop} {Q : State → Prop} {Ω : z_O} {k n nL pc q : Nat} {lv : List (Nat × Value)} {st : List Value} {cc : ByteArray} {S : z_S} (hC : z_C X cc nL "NodalAuctionModel" Ω) (d : decode cc pc = .ok (.getfield 57, 3)) (hq : pc + 3 = q) (kk : z_At X A Q Ω k n nL q lv (.ref (Ω.2.2 116) :: st) (wM Ω S)) : z_At X A Q Ω k n nL pc lv (.ref (Ω.2.2 100) :: st) (wM Ω S) := z_get (g := 19) hC u_M 0 rfl rfl (by decide) k_449 rfl d hq kk
theorem gf_M_60_0 {X : z_X} {A : Nat → Prop} {Q : State → Prop} {Ω : z_O} {k n nL pc q : Nat} {lv : List (Nat × Value)} {st : List Value} {cc : ByteArray} {S : z_S} (hC : z_C X cc nL "NodalAuctionModel" Ω) (d : decode cc pc = .ok (.getfield 60, 3)) (hq : pc + 3 = q) (kk : z_At X A Q Ω k n nL q lv (.ref (Ω.2.2 117) :: st) (wM Ω S)) : z_At X A Q Ω k n nL pc lv (.ref (Ω.2.2 100) :: st) (wM Ω S) := z_get (g := 23) hC u_M 0 rfl rfl (by decide) k_453 rfl d hq kk
theorem gf_M_63_0 {X : z_X} {A : Nat → Prop} {Q : State → Prop} {Ω : z_O} {k n nL pc q : Nat} {lv : List (Nat × Value)} {st : List Value} {cc : ByteArray} {S : z_S} (hC : z_C X cc nL "NodalAuctionModel" Ω) (d : decode cc pc = .ok (.getfield 63, 3)) (hq : pc + 3 = q) (kk : z_At X A Q Ω k n nL q lv (.ref (Ω.2.2 118) :: st) (wM Ω S)) : z_At X A Q Ω k n nL pc lv (.ref (Ω.2.2 100) :: st) (wM Ω S) := z_get (g := 24) hC u_M 0 rfl rfl (by decide) k_454 rfl d hq kk
theorem gf_M_66_0 {X : z_X} {A : Nat → Prop} {Q : State → Prop} {Ω : z_O} {k n nL pc q : Nat} {lv : List (Nat × Value)} {st : List Value} {cc : ByteArray} {S : z_S} (hC : z_C X cc nL "NodalAuctionModel" Ω) (d : decode cc pc = .ok (.getfield 66, 3)) (hq : pc + 3 = q) (kk : z_At X A Q Ω k n nL q lv (.ref (Ω.2.2 119) :: st) (wM Ω S)) : z_At X A Q Ω k n nL pc lv (.ref (Ω.2.2 100) :: st) (wM Ω S) := z_get (g := 28) hC u_M 0 rfl rfl (by decide) k_458 rfl d hq kk
theorem gf_M_69_0 {X : z_X} {A : Nat → Prop} {Q : State → Prop} {Ω : z_O} {k n nL pc q : Nat} {lv : List (Nat × Value)} {st : List Value} {cc : ByteArray} {S : z_S} (hC : z_C X cc nL "NodalAuctionModel" Ω) (d : decode cc pc = .ok (.getfield 69, 3)) (hq : pc + 3 = q) (kk : z_At X A Q Ω k n nL q lv (.ref (Ω.2.2 120) :: st) (wM Ω S)) : z_At X A Q Ω k n nL pc lv (.ref (Ω.2.2 100) :: st) (wM Ω S) := z_get (g := 29) hC u_M 0 rfl rfl (by decide) k_459 rfl d hq kk
theorem gf_M_72_0 {X : z_X} {A : Nat → Prop} {Q : State → Prop} {Ω : z_O} {k n nL pc q : Nat} {lv : List (Nat × Value)} {st : List Value} {cc : ByteArray} {S : z_S} (hC : z_C X cc nL "NodalAuctionModel" Ω) (d : decode cc pc = .ok (.getfield 72, 3)) (hq : pc + 3 = q) (kk : z_At X A Q Ω k n nL q lv (.ref (Ω.2.2 121) :: st) (wM Ω S)) : z_At X A Q Ω k n nL pc lv (.ref (Ω.2.2 100) :: st) (wM Ω S) := z_get (g := 31) hC u_M 0 rfl rfl (by decide) k_461 rfl d hq kk
theorem gf_M_75_0 {X : z_X} {A : Nat → Prop} {Q : State → Prop} {Ω : z_O} {k n nL pc q : Nat} {lv : List (Nat × Value)} {st : List Value} {cc : ByteArray} {S : z_S} (hC : z_C X cc nL "NodalAuctionModel" Ω) (d : decode cc pc = .ok (.getfield 75, 3)) (hq : pc + 3 = q) (kk : z_At X A Q Ω k n nL q lv (.ref (Ω.2.2 122) :: st) (wM Ω S)) : z_At X A Q Ω k n nL pc lv (.ref (Ω.2.2 100) :: st) (wM Ω S) := z_get (g := 32) hC u_M 0 rfl rfl (by decide) k_462 rfl d hq kk
theorem gf_M_78_0 {X : z_X} {A : Nat → Prop} {Q : State → Prop} {Ω : z_O} {k n nL pc q : Nat} {lv : List (Nat × Value)} {st : List Value} {cc : ByteArray} {S : z_S} (hC : z_C X cc nL "NodalAuctionModel" Ω) (d : decode cc pc = .ok (.getfield 78, 3)) (hq : pc + 3 = q) (kk : z_At X A Q Ω k n nL q lv (.ref (Ω.2.2 123) :: st) (wM Ω S)) : z_At X A Q Ω k n nL pc lv (.ref (Ω.2.2 100) :: st) (wM Ω S) := z_get (g := 33) hC u_M 0 rfl rfl (by decide) k_463 rfl d hq kk
theorem gf_M_86_0 {X : z_X} {A : Nat → Prop} {Q : State → Prop} {Ω : z_O} {k n nL pc q : Nat} {lv : List (Nat × Value)} {st : List Value} {cc : ByteArray} {S : z_S} (hC : z_C X cc nL "NodalAuctionModel" Ω) (d : decode cc pc = .ok (.getfield 86, 3)) (hq : pc + 3 = q) (kk : z_At X A Q Ω k n nL q lv (.int (gF S 0) :: st) (wM Ω S)) : z_At X A Q Ω k n nL pc lv (.ref (Ω.2.2 100) :: st) (wM Ω S) := z_get (g := 0) hC u_M 0 rfl rfl (by decide) k_430 rfl d hq kk
theorem pf_M_86_0 {X : z_X} {A : Nat → Prop} {Q : State → Prop} {Ω : z_O} {k n nL pc q : Nat} {lv : List (Nat × Value)} {st : List Value} {cc : ByteArray} {S : z_S} {v : Int32} (hC : z_C X cc nL "NodalAuctionModel" Ω) (d : decode cc pc = .ok (.putfield 86, 3)) (hq : pc + 3 = q) (kk : z_At X A Q Ω k n nL q lv st (wM Ω (sF S 0 v))) : z_At X A Q Ω k n nL pc lv (.int v :: .ref (Ω.2.2 100) :: st) (wM Ω S) := z_put (g := 0) (ty := .int) hC u_M t_M t_M_ok n_M 0 rfl rfl (by decide) k_430 rfl (by decide +kernel) rfl rfl (Nat.le_of_ble_eq_true rfl) rfl d hq kk
theorem gf_M_90_0 {X : z_X} {A : Nat → Prop} {Q : State → Prop} {Ω : z_O} {k n nL pc q : Nat} {lv : List (Nat × Value)} {st : List Value} {cc : ByteArray} {S : z_S} (hC : z_C X cc nL "NodalAuctionModel" Ω) (d : decode cc pc = .ok (.getfield 90, 3)) (hq : pc + 3 = q) (kk : z_At X A Q Ω k n nL q lv (.int (gF S 4) :: st) (wM Ω S)) : z_At X A Q Ω k n nL pc lv (.ref (Ω.2.2 100) :: st) (wM Ω S) := z_get (g := 26) hC u_M 0 rfl rfl (by decide) k_456 rfl d hq kk
theorem pf_M_90_0 {X : z_X} {A : Nat → Prop} {Q : State → Prop} {Ω : z_O} {k n nL pc q : Nat} {lv : List (Nat × Value)} {st : List Value} {cc : ByteArray} {S : z_S} {v : Int32} (hz : vz v = true) (hC : z_C X cc nL "NodalAuctionModel" Ω) (d : decode cc pc = .ok (.putfield 90, 3)) (hq : pc + 3 = q) (kk : z_At X A Q Ω k n nL q lv st (wM Ω (sF S 4 v))) : z_At X A Q Ω k n nL pc lv (.int v :: .ref (Ω.2.2 100) :: st) (wM Ω S) := z_put (g := 26) (ty := .boolean) hC u_M t_M t_M_ok n_M 0 rfl rfl (by decide) k_456 rfl (by decide +kernel) (vz_n hz) (vz_f hz) (Nat.le_of_ble_eq_true rfl) rfl d hq kk
theorem gf_M_94_0 {X : z_X} {A : Nat → Prop} {Q : State → Prop} {Ω : z_O} {k n nL pc q : Nat} {lv : List (Nat × Value)} {st : List Value} {cc : ByteArray} {S : z_S} (hC : z_C X cc nL "NodalAuctionModel" Ω) (d : decode cc pc = .ok (.getfield 94, 3)) (hq : pc + 3 = q) (kk : z_At X A Q Ω k n nL q lv (.int (gF S 1) :: st) (wM Ω S)) : z_At X A Q Ω k n nL pc lv (.ref (Ω.2.2 100) :: st) (wM Ω S) := z_get (g := 5) hC u_M 0 rfl rfl (by decide) k_435 rfl d hq kk
theorem pf_M_94_0 {X : z_X} {A : Nat → Prop} {Q : State → Prop} {Ω : z_O} {k n nL pc q : Nat} {lv : List (Nat × Value)} {st : List Value} {cc : ByteArray} {S : z_S} {v : Int32} (hC : z_C X cc nL "NodalAuctionModel" Ω) (d : decode cc pc = .ok (.putfield 94, 3)) (hq : pc + 3 = q) (kk : z_At X A Q Ω k n nL q lv st (wM Ω (sF S 1 v))) : z_At X A Q Ω k n nL pc lv (.int v :: .ref (Ω.2.2 100) :: st) (wM Ω S) := z_put (g := 5) (ty := .int) hC u_M t_M t_M_ok n_M 0 rfl rfl (by decide) k_435 rfl (by decide +kernel) rfl rfl (Nat.le_of_ble_eq_true rfl) rfl d hq kk
theorem gf_M_105_0 {X : z_X} {A : Nat → Prop} {Q : State → Prop} {Ω : z_O} {k n nL pc q : Nat} {lv : List (Nat × Value)} {st : List Value} {cc : ByteArray} {S : z_S} (hC : z_C X cc nL "NodalAuctionModel" Ω) (d : decode cc pc = .ok (.getfield 105, 3)) (hq : pc + 3 = q) (kk : z_At X A Q Ω k n nL q lv (.int (gF S 2) :: st) (wM Ω S)) : z_At X A Q Ω k n nL pc lv (.ref (Ω.2.2 100) :: st) (wM Ω S) := z_get (g := 11) hC u_M 0 rfl rfl (by decide) k_441 rfl d hq kk
theorem pf_M_105_0 {X : z_X} {A : Nat → Prop} {Q : State → Prop} {Ω : z_O} {k n nL pc q : Nat} {lv : List (Nat × Value)} {st : List Value} {cc : ByteArray} {S : z_S} {v : Int32} (hC : z_C X cc nL "NodalAuctionModel" Ω) (d : decode cc pc = .ok (.putfield 105, 3)) (hq : pc + 3 = q) (kk : z_At X A Q Ω k n nL q lv st (wM Ω (sF S 2 v))) : z_At X A Q Ω k n nL pc lv (.int v :: .ref (Ω.2.2 100) :: st) (wM Ω S) := z_put (g := 11) (ty := .int) hC u_M t_M t_M_ok n_M 0 rfl rfl (by decide) k_441 rfl (by decide +kernel) rfl rfl (Nat.le_of_ble_eq_true rfl) rfl d hq kk
theorem gf_M_130_0 {X : z_X} {A : Nat → Prop} {Q : State → Prop} {Ω : z_O} {k n nL pc q : Nat} {lv : List (Nat × Value)} {st : List Value} {cc : ByteArray} {S : z_S} (hC : z_C X cc nL "NodalAuctionModel" Ω) (d : decode cc pc = .ok (.getfield 130, 3)) (hq : pc + 3 = q) (kk : z_At X A Q Ω k n nL q lv (.long (gG S 0) :: st) (wM Ω S)) : z_At X A Q Ω k n nL pc lv (.ref (Ω.2.2 100) :: st) (wM Ω S) := z_get (g := 17) hC u_M 0 rfl rfl (by decide) k_447 rfl d hq kk
theorem pf_M_130_0 {X : z_X} {A : Nat → Prop} {Q : State → Prop} {Ω : z_O} {k n nL pc q : Nat} {lv : List (Nat × Value)} {st : List Value} {cc : ByteArray} {S : z_S} {v : Int64} (hC : z_C X cc nL "NodalAuctionModel" Ω) (d : decode cc pc = .ok (.putfield 130, 3)) (hq : pc + 3 = q) (kk : z_At X A Q Ω k n nL q lv st (wM Ω (sG S 0 v))) : z_At X A Q Ω k n nL pc lv (.long v :: .ref (Ω.2.2 100) :: st) (wM Ω S) := z_put (g := 17) (ty := .long) hC u_M t_M t_M_ok n_M 0 rfl rfl (by decide) k_447 rfl (by decide +kernel) rfl rfl (Nat.le_of_ble_eq_true rfl) rfl d hq kk
theorem gf_M_144_0 {X : z_X} {A : Nat → Prop} {Q : State → Prop} {Ω : z_O} {k n nL pc q : Nat} {lv : List (Nat × Value)} {st : List Value} {cc : ByteArray} {S : z_S} (hC : z_C X cc nL "NodalAuctionModel" Ω) (d : decode cc pc = .ok (.getfield 144, 3)) (hq : pc + 3 = q) (kk : z_At X A Q Ω k n nL q lv (.long (gG S 1) :: st) (wM Ω S)) : z_At X A Q Ω k n nL pc lv (.ref (Ω.2.2 100) :: st) (wM Ω S) := z_get (g := 20) hC u_M 0 rfl rfl (by decide) k_450 rfl d hq kk
theorem pf_M_144_0 {X : z_X} {A : Nat → Prop} {Q : State → Prop} {Ω : z_O} {k n nL pc q : Nat} {lv : List (Nat × Value)} {st : List Value} {cc : ByteArray} {S : z_S} {v : Int64} (hC : z_C X cc nL "NodalAuctionModel" Ω) (d : decode cc pc = .ok (.putfield 144, 3)) (hq : pc + 3 = q) (kk : z_At X A Q Ω k n nL q lv st (wM Ω (sG S 1 v))) : z_At X A Q Ω k n nL pc lv (.long v :: .ref (Ω.2.2 100) :: st) (wM Ω S) := z_put (g := 20) (ty := .long) hC u_M t_M t_M_ok n_M 0 rfl rfl (by decide) k_450 rfl (by decide +kernel) rfl rfl (Nat.le_of_ble_eq_true rfl) rfl d hq kk
theorem gf_M_147_0 {X : z_X} {A : Nat → Prop} {Q : State → Prop} {Ω : z_O} {k n nL pc q : Nat} {lv : List (Nat × Value)} {st : List Value} {cc : ByteArray} {S : z_S} (hC : z_C X cc nL "NodalAuctionModel" Ω) (d : decode cc pc = .ok (.getfield 147, 3)) (hq : pc + 3 = q) (kk : z_At X A Q Ω k n nL q lv (.int (gF S 3) :: st) (wM Ω S)) : z_At X A Q Ω k n nL pc lv (.ref (Ω.2.2 100) :: st) (wM Ω S) := z_get (g := 21) hC u_M 0 rfl rfl (by decide) k_451 rfl d hq kk
theorem pf_M_147_0 {X : z_X} {A : Nat → Prop} {Q : State → Prop} {Ω : z_O} {k n nL pc q : Nat} {lv : List (Nat × Value)} {st : List Value} {cc : ByteArray} {S : z_S} {v : Int32} (hz : vz v = true) (hC : z_C X cc nL "NodalAuctionModel" Ω) (d : decode cc pc = .ok (.putfield 147, 3)) (hq : pc + 3 = q) (kk : z_At X A Q Ω k n nL q lv st (wM Ω (sF S 3 v))) : z_At X A Q Ω k n nL pc lv (.int v :: .ref (Ω.2.2 100) :: st) (wM Ω S) := z_put (g := 21) (ty := .boolean) hC u_M t_M t_M_ok n_M 0 rfl rfl (by decide) k_451 rfl (by decide +kernel) (vz_n hz) (vz_f hz) (Nat.le_of_ble_eq_true rfl) rfl d hq kk
theorem gf_M_150_0 {X : z_X} {A : Nat → Prop} {Q : State → Prop} {Ω : z_O} {k n nL pc q : Nat} {lv : List (Nat × Value)} {st : List Value} {cc : ByteArray} {S : z_S} (hC : z_C X cc nL "NodalAuctionModel" Ω) (d : decode cc pc = .ok (.getfield 150, 3)) (hq : pc + 3 = q) (kk : z_At X A Q Ω k n nL q lv (.long (gG S 2) :: st) (wM Ω S)) : z_At X A Q Ω k n nL pc lv (.ref (Ω.2.2 100) :: st) (wM Ω S) := z_get (g := 22) hC u_M 0 rfl rfl (by decide) k_452 rfl d hq kk
theorem pf_M_150_0 {X : z_X} {A : Nat → Prop} {Q : State → Prop} {Ω : z_O} {k n nL pc q : Nat} {lv : List (Nat × Value)} {st : List Value} {cc : ByteArray} {S : z_S} {v : Int64} (hC : z_C X cc nL "NodalAuctionModel" Ω) (d : decode cc pc = .ok (.putfield 150, 3)) (hq : pc + 3 = q) (kk : z_At X A Q Ω k n nL q lv st (wM Ω (sG S 2 v))) : z_At X A Q Ω k n nL pc lv (.long v :: .ref (Ω.2.2 100) :: st) (wM Ω S) := z_put (g := 22) (ty := .long) hC u_M t_M t_M_ok n_M 0 rfl rfl (by decide) k_452 rfl (by decide +kernel) rfl rfl (Nat.le_of_ble_eq_true rfl) rfl d hq kk
theorem gf_M_153_0 {X : z_X} {A : Nat → Prop} {Q : State → Prop} {Ω : z_O} {k n nL pc q : Nat} {lv : List (Nat × Value)} {st : List Value} {cc : ByteArray} {S : z_S} (hC : z_C X cc nL "NodalAuctionModel" Ω) (d : decode cc pc = .ok (.getfield 153, 3)) (hq : pc + 3 = q) (kk : z_At X A Q Ω k n nL q lv (.long (gG S 3) :: st) (wM Ω S)) : z_At X A Q Ω k n nL pc lv (.ref (Ω.2.2 100) :: st) (wM Ω S) := z_get (g := 25) hC u_M 0 rfl rfl (by decide) k_455 rfl d hq kk
theorem pf_M_153_0 {X : z_X} {A : Nat → Prop} {Q : State → Prop} {Ω : z_O} {k n nL pc q : Nat} {lv : List (Nat × Value)} {st : List Value} {cc : ByteArray} {S : z_S} {v : Int64} (hC : z_C X cc nL "NodalAuctionModel" Ω) (d : decode cc pc = .ok (.putfield 153, 3)) (hq : pc + 3 = q) (kk : z_At X A Q Ω k n nL q lv st (wM Ω (sG S 3 v))) : z_At X A Q Ω k n nL pc lv (.long v :: .ref (Ω.2.2 100) :: st) (wM Ω S) := z_put (g := 25) (ty := .long) hC u_M t_M t_M_ok n_M 0 rfl rfl (by decide) k_455 rfl (by decide +kernel) rfl rfl (Nat.le_of_ble_eq_true rfl) rfl d hq kk
theorem gf_M_194_0 {X : z_X} {A : Nat → Prop} {Q : State → Prop} {Ω : z_O} {k n nL pc q : Nat} {lv : List (Nat × Value)} {st : List Value} {cc : ByteArray} {S : z_S} (hC : z_C X cc nL "NodalAuctionModel" Ω) (d : decode cc pc = .ok (.getfield 194, 3)) (hq : pc + 3 = q) (kk : z_At X A Q Ω k n nL q lv (.long (gG S 4) :: st) (wM Ω S)) : z_At X A Q Ω k n nL pc lv (.ref (Ω.2.2 100) :: st) (wM Ω S) := z_get (g := 27) hC u_M 0 rfl rfl (by decide) k_457 rfl d hq kk
theorem pf_M_194_0 {X : z_X} {A : Nat → Prop} {Q : State → Prop} {Ω : z_O} {k n nL pc q : Nat} {lv : List (Nat × Value)} {st : List Value} {cc : ByteArray} {S : z_S} {v : Int64} (hC : z_C X cc nL "NodalAuctionModel" Ω) (d : decode cc pc = .ok (.putfield 194, 3)) (hq : pc + 3 = q) (kk : z_At X A Q Ω k n nL q lv st (wM Ω (sG S 4 v))) : z_At X A Q Ω k n nL pc lv (.long v :: .ref (Ω.2.2 100) :: st) (wM Ω S) := z_put (g := 27) (ty := .long) hC u_M t_M t_M_ok n_M 0 rfl rfl (by decide) k_457 rfl (by decide +kernel) rfl rfl (Nat.le_of_ble_eq_true rfl) rfl d hq kk
theorem gf_M_197_0 {X : z_X} {A : Nat → Prop} {Q : State → Prop} {Ω : z_O} {k n nL pc q : Nat} {lv : List (Nat × Value)} {st : List Value} {cc : ByteArray} {S : z_S} (hC : z_C X cc nL "NodalAuctionModel" Ω) (d : decode cc pc = .ok (.getfield 197, 3)) (hq : pc + 3 = q) (kk : z_At X A Q Ω k n nL q lv (.long (gG S 5) :: st) (wM Ω S)) : z_At X A Q Ω k n nL pc lv (.ref (Ω.2.2 100) :: st) (wM Ω S) := z_get (g := 30) hC u_M 0 rfl rfl (by decide) k_460 rfl d hq kk
theorem pf_M_197_0 {X : z_X} {A : Nat → Prop} {Q : State → Prop} {Ω : z_O} {k n nL pc q : Nat} {lv : List (Nat × Value)} {st : List Value} {cc : ByteArray} {S : z_S} {v : Int64} (hC : z_C X cc nL "NodalAuctionModel" Ω) (d : decode cc pc = .ok (.putfield 197, 3)) (hq : pc + 3 = q) (kk : z_At X A Q Ω k n nL q lv st (wM Ω (sG S 5 v))) : z_At X A Q Ω k n nL pc lv (.long v :: .ref (Ω.2.2 100) :: st) (wM Ω S) := z_put (g := 30) (ty := .long) hC u_M t_M t_M_ok n_M 0 rfl rfl (by decide) k_460 rfl (by decide +kernel) rfl rfl (Nat.le_of_ble_eq_true rfl) rfl d hq kk
theorem gf_N_12_0 {X : z_X} {A : Nat → Prop} {Q : State → Prop} {Ω : z_O} {k n nL pc q : Nat} {lv : List (Nat × Value)} {st : List Value} {cc : ByteArray} {S : z_S} (hC : z_C X cc nL "NodalAuction" Ω) (d : decode cc pc = .ok (.getfield 12, 3)) (hq : pc + 3 = q) (kk : z_At X A Q Ω k n nL q lv (.ref (Ω.2.2 1) :: st) (wN Ω S)) : z_At X A Q Ω k n nL pc lv (.ref (Ω.2.2 0) :: st) (wN Ω S) := z_get (g := 0) hC u_N 0 rfl rfl (by decide) k_158 rfl d hq kk
theorem gf_N_19_0 {X : z_X} {A : Nat → Prop} {Q : State → Prop} {Ω : z_O} {k n nL pc q : Nat} {lv : List (Nat × Value)} {st : List Value} {cc : ByteArray} {S : z_S} (hC : z_C X cc nL "NodalAuction" Ω) (d : decode cc pc = .ok (.getfield 19, 3)) (hq : pc + 3 = q) (kk : z_At X A Q Ω k n nL q lv (.ref (Ω.2.2 2) :: st) (wN Ω S)) : z_At X A Q Ω k n nL pc lv (.ref (Ω.2.2 0) :: st) (wN Ω S) := z_get (g := 1) hC u_N 0 rfl rfl (by decide) k_159 rfl d hq kk
theorem gf_N_23_0 {X : z_X} {A : Nat → Prop} {Q : State → Prop} {Ω : z_O} {k n nL pc q : Nat} {lv : List (Nat × Value)} {st : List Value} {cc : ByteArray} {S : z_S} (hC : z_C X cc nL "NodalAuction" Ω) (d : decode cc pc = .ok (.getfield 23, 3)) (hq : pc + 3 = q) (kk : z_At X A Q Ω k n nL q lv (.ref (Ω.2.2 3) :: st) (wN Ω S)) : z_At X A Q Ω k n nL pc lv (.ref (Ω.2.2 0) :: st) (wN Ω S) := z_get (g := 2) hC u_N 0 rfl rfl (by decide) k_160 rfl d hq kk
theorem gf_N_29_0 {X : z_X} {A : Nat → Prop} {Q : State → Prop} {Ω : z_O} {k n nL pc q : Nat} {lv : List (Nat × Value)} {st : List Value} {cc : ByteArray} {S : z_S} (hC : z_C X cc nL "NodalAuction" Ω) (d : decode cc pc = .ok (.getfield 29, 3)) (hq : pc + 3 = q) (kk : z_At X A Q Ω k n nL q lv (.ref (Ω.2.2 4) :: st) (wN Ω S)) : z_At X A Q Ω k n nL pc lv (.ref (Ω.2.2 0) :: st) (wN Ω S) := z_get (g := 3) hC u_N 0 rfl rfl (by decide) k_161 rfl d hq kk
theorem gf_N_36_0 {X : z_X} {A : Nat → Prop} {Q : State → Prop} {Ω : z_O} {k n nL pc q : Nat} {lv : List (Nat × Value)} {st : List Value} {cc : ByteArray} {S : z_S} (hC : z_C X cc nL "NodalAuction" Ω) (d : decode cc pc = .ok (.getfield 36, 3)) (hq : pc + 3 = q) (kk : z_At X A Q Ω k n nL q lv (.ref (Ω.2.2 5) :: st) (wN Ω S)) : z_At X A Q Ω k n nL pc lv (.ref (Ω.2.2 0) :: st) (wN Ω S) := z_get (g := 4) hC u_N 0 rfl rfl (by decide) k_162 rfl d hq kk
theorem gf_N_40_0 {X : z_X} {A : Nat → Prop} {Q : State → Prop} {Ω : z_O} {k n nL pc q : Nat} {lv : List (Nat × Value)} {st : List Value} {cc : ByteArray} {S : z_S} (hC : z_C X cc nL "NodalAuction" Ω) (d : decode cc pc = .ok (.getfield 40, 3)) (hq : pc + 3 = q) (kk : z_At X A Q Ω k n nL q lv (.ref (Ω.2.2 6) :: st) (wN Ω S)) : z_At X A Q Ω k n nL pc lv (.ref (Ω.2.2 0) :: st) (wN Ω S) := z_get (g := 5) hC u_N 0 rfl rfl (by decide) k_163 rfl d hq kk
theorem gf_N_57_1 {X : z_X} {A : Nat → Prop} {Q : State → Prop} {Ω : z_O} {k n nL pc q : Nat} {lv : List (Nat × Value)} {st : List Value} {cc : ByteArray} {S : z_S} (hC : z_C X cc nL "NodalAuction" Ω) (d : decode cc pc = .ok (.getfield 57, 3)) (hq : pc + 3 = q) (kk : z_At X A Q Ω k n nL q lv (.int (gF S 0) :: st) (wN Ω S)) : z_At X A Q Ω k n nL pc lv (.ref (Ω.2.2 1) :: st) (wN Ω S) := z_getN (g := 4) hC u_G 1 rfl rfl (by decide) k_33 rfl d hq kk
theorem pf_N_57_1 {X : z_X} {A : Nat → Prop} {Q : State → Prop} {Ω : z_O} {k n nL pc q : Nat} {lv : List (Nat × Value)} {st : List Value} {cc : ByteArray} {S : z_S} {v : Int32} (hC : z_C X cc nL "NodalAuction" Ω) (d : decode cc pc = .ok (.putfield 57, 3)) (hq : pc + 3 = q) (kk : z_At X A Q Ω k n nL q lv st (wN Ω (sF S 0 v))) : z_At X A Q Ω k n nL pc lv (.int v :: .ref (Ω.2.2 1) :: st) (wN Ω S) := z_putN (g := 4) (ty := .int) hC u_G t_G t_G_ok n_G 1 rfl rfl (by decide) k_33 rfl (by decide +kernel) rfl rfl (Nat.le_of_ble_eq_true rfl) rfl d hq kk
theorem gf_N_61_5 {X : z_X} {A : Nat → Prop} {Q : State → Prop} {Ω : z_O} {k n nL pc q : Nat} {lv : List (Nat × Value)} {st : List Value} {cc : ByteArray} {S : z_S} (hC : z_C X cc nL "NodalAuction" Ω) (d : decode cc pc = .ok (.getfield 61, 3)) (hq : pc + 3 = q) (kk : z_At X A Q Ω k n nL q lv (.int (gF S 5) :: st) (wN Ω S)) : z_At X A Q Ω k n nL pc lv (.ref (Ω.2.2 5) :: st) (wN Ω S) := z_getN (g := 2) hC u_O 5 rfl rfl (by decide) k_142 rfl d hq kk
theorem pf_N_61_5 {X : z_X} {A : Nat → Prop} {Q : State → Prop} {Ω : z_O} {k n nL pc q : Nat} {lv : List (Nat × Value)} {st : List Value} {cc : ByteArray} {S : z_S} {v : Int32} (hz : vz v = true) (hC : z_C X cc nL "NodalAuction" Ω) (d : decode cc pc = .ok (.putfield 61, 3)) (hq : pc + 3 = q) (kk : z_At X A Q Ω k n nL q lv st (wN Ω (sF S 5 v))) : z_At X A Q Ω k n nL pc lv (.int v :: .ref (Ω.2.2 5) :: st) (wN Ω S) := z_putN (g := 2) (ty := .boolean) hC u_O t_O t_O_ok n_O 5 rfl rfl (by decide) k_142 rfl (by decide +kernel) (vz_n hz) (vz_f hz) (Nat.le_of_ble_eq_true rfl) rfl d hq kk
theorem gf_N_72_1 {X : z_X} {A : Nat → Prop} {Q : State → Prop} {Ω : z_O} {k n nL pc q : Nat} {lv : List (Nat × Value)} {st : List Value} {cc : ByteArray} {S : z_S} (hC : z_C X cc nL "NodalAuction" Ω) (d : decode cc pc = .ok (.getfield 72, 3)) (hq : pc + 3 = q) (kk : z_At X A Q Ω k n nL q lv (.ref (Ω.2.2 10) :: st) (wN Ω S)) : z_At X A Q Ω k n nL pc lv (.ref (Ω.2.2 1) :: st) (wN Ω S) := z_getN (g := 3) hC u_G 1 rfl rfl (by decide) k_29 rfl d hq kk
theorem gf_N_91_2 {X : z_X} {A : Nat → Prop} {Q : State → Prop} {Ω : z_O} {k n nL pc q : Nat} {lv : List (Nat × Value)} {st : List Value} {cc : ByteArray} {S : z_S} (hC : z_C X cc nL "NodalAuction" Ω) (d : decode cc pc = .ok (.getfield 91, 3)) (hq : pc + 3 = q) (kk : z_At X A Q Ω k n nL q lv (.int (gF S 1) :: st) (wN Ω S)) : z_At X A Q Ω k n nL pc lv (.ref (Ω.2.2 2) :: st) (wN Ω S) := z_getN (g := 4) hC u_B 2 rfl rfl (by decide) k_78 rfl d hq kk
theorem pf_N_91_2 {X : z_X} {A : Nat → Prop} {Q : State → Prop} {Ω : z_O} {k n nL pc q : Nat} {lv : List (Nat × Value)} {st : List Value} {cc : ByteArray} {S : z_S} {v : Int32} (hC : z_C X cc nL "NodalAuction" Ω) (d : decode cc pc = .ok (.putfield 91, 3)) (hq : pc + 3 = q) (kk : z_At X A Q Ω k n nL q lv st (wN Ω (sF S 1 v))) : z_At X A Q Ω k n nL pc lv (.int v :: .ref (Ω.2.2 2) :: st) (wN Ω S) := z_putN (g := 4) (ty := .int) hC u_B t_B t_B_ok n_B 2 rfl rfl (by decide) k_78 rfl (by decide +kernel) rfl rfl (Nat.le_of_ble_eq_true rfl) rfl d hq kk
theorem gf_N_91_3 {X : z_X} {A : Nat → Prop} {Q : State → Prop} {Ω : z_O} {k n nL pc q : Nat} {lv : List (Nat × Value)} {st : List Value} {cc : ByteArray} {S : z_S} (hC : z_C X cc nL "NodalAuction" Ω) (d : decode cc pc = .ok (.getfield 91, 3)) (hq : pc + 3 = q) (kk : z_At X A Q Ω k n nL q lv (.int (gF S 2) :: st) (wN Ω S)) : z_At X A Q Ω k n nL pc lv (.ref (Ω.2.2 3) :: st) (wN Ω S) := z_getN (g := 4) hC u_B 3 rfl rfl (by decide) k_78 rfl d hq kk
theorem pf_N_91_3 {X : z_X} {A : Nat → Prop} {Q : State → Prop} {Ω : z_O} {k n nL pc q : Nat} {lv : List (Nat × Value)} {st : List Value} {cc : ByteArray} {S : z_S} {v : Int32} (hC : z_C X cc nL "NodalAuction" Ω) (d : decode cc pc = .ok (.putfield 91, 3)) (hq : pc + 3 = q) (kk : z_At X A Q Ω k n nL q lv st (wN Ω (sF S 2 v))) : z_At X A Q Ω k n nL pc lv (.int v :: .ref (Ω.2.2 3) :: st) (wN Ω S) := z_putN (g := 4) (ty := .int) hC u_B t_B t_B_ok n_B 3 rfl rfl (by decide) k_78 rfl (by decide +kernel) rfl rfl (Nat.le_of_ble_eq_true rfl) rfl d hq kk
theorem gf_N_100_5 {X : z_X} {A : Nat → Prop} {Q : State → Prop} {Ω : z_O} {k n nL pc q : Nat} {lv : List (Nat × Value)} {st : List Value} {cc : ByteArray} {S : z_S} (hC : z_C X cc nL "NodalAuction" Ω) (d : decode cc pc = .ok (.getfield 100, 3)) (hq : pc + 3 = q) (kk : z_At X A Q Ω k n nL q lv (.int (gF S 6) :: st) (wN Ω S)) : z_At X A Q Ω k n nL pc lv (.ref (Ω.2.2 5) :: st) (wN Ω S) := z_getN (g := 3) hC u_O 5 rfl rfl (by decide) k_144 rfl d hq kk
theorem pf_N_100_5 {X : z_X} {A : Nat → Prop} {Q : State → Prop} {Ω : z_O} {k n nL pc q : Nat} {lv : List (Nat × Value)} {st : List Value} {cc : ByteArray} {S : z_S} {v : Int32} (hC : z_C X cc nL "NodalAuction" Ω) (d : decode cc pc = .ok (.putfield 100, 3)) (hq : pc + 3 = q) (kk : z_At X A Q Ω k n nL q lv st (wN Ω (sF S 6 v))) : z_At X A Q Ω k n nL pc lv (.int v :: .ref (Ω.2.2 5) :: st) (wN Ω S) := z_putN (g := 3) (ty := .int) hC u_O t_O t_O_ok n_O 5 rfl rfl (by decide) k_144 rfl (by decide +kernel) rfl rfl (Nat.le_of_ble_eq_true rfl) rfl d hq kk
theorem gf_N_103_5 {X : z_X} {A : Nat → Prop} {Q : State → Prop} {Ω : z_O} {k n nL pc q : Nat} {lv : List (Nat × Value)} {st : List Value} {cc : ByteArray} {S : z_S} (hC : z_C X cc nL "NodalAuction" Ω) (d : decode cc pc = .ok (.getfield 103, 3)) (hq : pc + 3 = q) (kk : z_At X A Q Ω k n nL q lv (.ref (Ω.2.2 28) :: st) (wN Ω S)) : z_At X A Q Ω k n nL pc lv (.ref (Ω.2.2 5) :: st) (wN Ω S) := z_getN (g := 0) hC u_O 5 rfl rfl (by decide) k_138 rfl d hq kk
theorem gf_N_106_5 {X : z_X} {A : Nat → Prop} {Q : State → Prop} {Ω : z_O} {k n nL pc q : Nat} {lv : List (Nat × Value)} {st : List Value} {cc : ByteArray} {S : z_S} (hC : z_C X cc nL "NodalAuction" Ω) (d : decode cc pc = .ok (.getfield 106, 3)) (hq : pc + 3 = q) (kk : z_At X A Q Ω k n nL q lv (.ref (Ω.2.2 29) :: st) (wN Ω S)) : z_At X A Q Ω k n nL pc lv (.ref (Ω.2.2 5) :: st) (wN Ω S) := z_getN (g := 1) hC u_O 5 rfl rfl (by decide) k_140 rfl d hq kk
theorem gf_N_114_5 {X : z_X} {A : Nat → Prop} {Q : State → Prop} {Ω : z_O} {k n nL pc q : Nat} {lv : List (Nat × Value)} {st : List Value} {cc : ByteArray} {S : z_S} (hC : z_C X cc nL "NodalAuction" Ω) (d : decode cc pc = .ok (.getfield 114, 3)) (hq : pc + 3 = q) (kk : z_At X A Q Ω k n nL q lv (.long (gG S 2) :: st) (wN Ω S)) : z_At X A Q Ω k n nL pc lv (.ref (Ω.2.2 5) :: st) (wN Ω S) := z_getN (g := 4) hC u_O 5 rfl rfl (by decide) k_146 rfl d hq kk
theorem pf_N_114_5 {X : z_X} {A : Nat → Prop} {Q : State → Prop} {Ω : z_O} {k n nL pc q : Nat} {lv : List (Nat × Value)} {st : List Value} {cc : ByteArray} {S : z_S} {v : Int64} (hC : z_C X cc nL "NodalAuction" Ω) (d : decode cc pc = .ok (.putfield 114, 3)) (hq : pc + 3 = q) (kk : z_At X A Q Ω k n nL q lv st (wN Ω (sG S 2 v))) : z_At X A Q Ω k n nL pc lv (.long v :: .ref (Ω.2.2 5) :: st) (wN Ω S) := z_putN (g := 4) (ty := .long) hC u_O t_O t_O_ok n_O 5 rfl rfl (by decide) k_146 rfl (by decide +kernel) rfl rfl (Nat.le_of_ble_eq_true rfl) rfl d hq kk
theorem gf_N_159_4 {X : z_X} {A : Nat → Prop} {Q : State → Prop} {Ω : z_O} {k n nL pc q : Nat} {lv : List (Nat × Value)} {st : List Value} {cc : ByteArray} {S : z_S} (hC : z_C X cc nL "NodalAuction" Ω) (d : decode cc pc = .ok (.getfield 159, 3)) (hq : pc + 3 = q) (kk : z_At X A Q Ω k n nL q lv (.long (gG S 1) :: st) (wN Ω S)) : z_At X A Q Ω k n nL pc lv (.ref (Ω.2.2 4) :: st) (wN Ω S) := z_getN (g := 9) hC u_P 4 rfl rfl (by decide) k_108 rfl d hq kk
theorem pf_N_159_4 {X : z_X} {A : Nat → Prop} {Q : State → Prop} {Ω : z_O} {k n nL pc q : Nat} {lv : List (Nat × Value)} {st : List Value} {cc : ByteArray} {S : z_S} {v : Int64} (hC : z_C X cc nL "NodalAuction" Ω) (d : decode cc pc = .ok (.putfield 159, 3)) (hq : pc + 3 = q) (kk : z_At X A Q Ω k n nL q lv st (wN Ω (sG S 1 v))) : z_At X A Q Ω k n nL pc lv (.long v :: .ref (Ω.2.2 4) :: st) (wN Ω S) := z_putN (g := 9) (ty := .long) hC u_P t_P t_P_ok n_P 4 rfl rfl (by decide) k_108 rfl (by decide +kernel) rfl rfl (Nat.le_of_ble_eq_true rfl) rfl d hq kk
theorem gf_N_162_2 {X : z_X} {A : Nat → Prop} {Q : State → Prop} {Ω : z_O} {k n nL pc q : Nat} {lv : List (Nat × Value)} {st : List Value} {cc : ByteArray} {S : z_S} (hC : z_C X cc nL "NodalAuction" Ω) (d : decode cc pc = .ok (.getfield 162, 3)) (hq : pc + 3 = q) (kk : z_At X A Q Ω k n nL q lv (.ref (Ω.2.2 13) :: st) (wN Ω S)) : z_At X A Q Ω k n nL pc lv (.ref (Ω.2.2 2) :: st) (wN Ω S) := z_getN (g := 0) hC u_B 2 rfl rfl (by decide) k_65 rfl d hq kk
theorem gf_N_162_3 {X : z_X} {A : Nat → Prop} {Q : State → Prop} {Ω : z_O} {k n nL pc q : Nat} {lv : List (Nat × Value)} {st : List Value} {cc : ByteArray} {S : z_S} (hC : z_C X cc nL "NodalAuction" Ω) (d : decode cc pc = .ok (.getfield 162, 3)) (hq : pc + 3 = q) (kk : z_At X A Q Ω k n nL q lv (.ref (Ω.2.2 17) :: st) (wN Ω S)) : z_At X A Q Ω k n nL pc lv (.ref (Ω.2.2 3) :: st) (wN Ω S) := z_getN (g := 0) hC u_B 3 rfl rfl (by decide) k_65 rfl d hq kk
theorem gf_N_165_2 {X : z_X} {A : Nat → Prop} {Q : State → Prop} {Ω : z_O} {k n nL pc q : Nat} {lv : List (Nat × Value)} {st : List Value} {cc : ByteArray} {S : z_S} (hC : z_C X cc nL "NodalAuction" Ω) (d : decode cc pc = .ok (.getfield 165, 3)) (hq : pc + 3 = q) (kk : z_At X A Q Ω k n nL q lv (.ref (Ω.2.2 15) :: st) (wN Ω S)) : z_At X A Q Ω k n nL pc lv (.ref (Ω.2.2 2) :: st) (wN Ω S) := z_getN (g := 2) hC u_B 2 rfl rfl (by decide) k_71 rfl d hq kk
theorem gf_N_165_3 {X : z_X} {A : Nat → Prop} {Q : State → Prop} {Ω : z_O} {k n nL pc q : Nat} {lv : List (Nat × Value)} {st : List Value} {cc : ByteArray} {S : z_S} (hC : z_C X cc nL "NodalAuction" Ω) (d : decode cc pc = .ok (.getfield 165, 3)) (hq : pc + 3 = q) (kk : z_At X A Q Ω k n nL q lv (.ref (Ω.2.2 19) :: st) (wN Ω S)) : z_At X A Q Ω k n nL pc lv (.ref (Ω.2.2 3) :: st) (wN Ω S) := z_getN (g := 2) hC u_B 3 rfl rfl (by decide) k_71 rfl d hq kk
theorem gf_N_168_2 {X : z_X} {A : Nat → Prop} {Q : State → Prop} {Ω : z_O} {k n nL pc q : Nat} {lv : List (Nat × Value)} {st : List Value} {cc : ByteArray} {S : z_S} (hC : z_C X cc nL "NodalAuction" Ω) (d : decode cc pc = .ok (.getfield 168, 3)) (hq : pc + 3 = q) (kk : z_At X A Q Ω k n nL q lv (.ref (Ω.2.2 14) :: st) (wN Ω S)) : z_At X A Q Ω k n nL pc lv (.ref (Ω.2.2 2) :: st) (wN Ω S) := z_getN (g := 1) hC u_B 2 rfl rfl (by decide) k_68 rfl d hq kk
theorem gf_N_168_3 {X : z_X} {A : Nat → Prop} {Q : State → Prop} {Ω : z_O} {k n nL pc q : Nat} {lv : List (Nat × Value)} {st : List Value} {cc : ByteArray} {S : z_S} (hC : z_C X cc nL "NodalAuction" Ω) (d : decode cc pc = .ok (.getfield 168, 3)) (hq : pc + 3 = q) (kk : z_At X A Q Ω k n nL q lv (.ref (Ω.2.2 18) :: st) (wN Ω S)) : z_At X A Q Ω k n nL pc lv (.ref (Ω.2.2 3) :: st) (wN Ω S) := z_getN (g := 1) hC u_B 3 rfl rfl (by decide) k_68 rfl d hq kk
theorem gf_N_174_2 {X : z_X} {A : Nat → Prop} {Q : State → Prop} {Ω : z_O} {k n nL pc q : Nat} {lv : List (Nat × Value)} {st : List Value} {cc : ByteArray} {S : z_S} (hC : z_C X cc nL "NodalAuction" Ω) (d : decode cc pc = .ok (.getfield 174, 3)) (hq : pc + 3 = q) (kk : z_At X A Q Ω k n nL q lv (.ref (Ω.2.2 16) :: st) (wN Ω S)) : z_At X A Q Ω k n nL pc lv (.ref (Ω.2.2 2) :: st) (wN Ω S) := z_getN (g := 3) hC u_B 2 rfl rfl (by decide) k_74 rfl d hq kk
theorem gf_N_174_3 {X : z_X} {A : Nat → Prop} {Q : State → Prop} {Ω : z_O} {k n nL pc q : Nat} {lv : List (Nat × Value)} {st : List Value} {cc : ByteArray} {S : z_S} (hC : z_C X cc nL "NodalAuction" Ω) (d : decode cc pc = .ok (.getfield 174, 3)) (hq : pc + 3 = q) (kk : z_At X A Q Ω k n nL q lv (.ref (Ω.2.2 20) :: st) (wN Ω S)) : z_At X A Q Ω k n nL pc lv (.ref (Ω.2.2 3) :: st) (wN Ω S) := z_getN (g := 3) hC u_B 3 rfl rfl (by decide) k_74 rfl d hq kk
theorem gf_O_9_5 {X : z_X} {A : Nat → Prop} {Q : State → Prop} {Ω : z_O} {k n nL pc q : Nat} {lv : List (Nat × Value)} {st : List Value} {cc : ByteArray} {S : z_S} (hC : z_C X cc nL "NodalAuction$Outcome" Ω) (d : decode cc pc = .ok (.getfield 9, 3)) (hq : pc + 3 = q) (kk : z_At X A Q Ω k n nL q lv (.ref (Ω.2.2 28) :: st) (wN Ω S)) : z_At X A Q Ω k n nL pc lv (.ref (Ω.2.2 5) :: st) (wN Ω S) := z_get (g := 0) hC u_O 5 rfl rfl (by decide) k_137 rfl d hq kk
theorem gf_O_15_5 {X : z_X} {A : Nat → Prop} {Q : State → Prop} {Ω : z_O} {k n nL pc q : Nat} {lv : List (Nat × Value)} {st : List Value} {cc : ByteArray} {S : z_S} (hC : z_C X cc nL "NodalAuction$Outcome" Ω) (d : decode cc pc = .ok (.getfield 15, 3)) (hq : pc + 3 = q) (kk : z_At X A Q Ω k n nL q lv (.ref (Ω.2.2 29) :: st) (wN Ω S)) : z_At X A Q Ω k n nL pc lv (.ref (Ω.2.2 5) :: st) (wN Ω S) := z_get (g := 1) hC u_O 5 rfl rfl (by decide) k_139 rfl d hq kk
theorem gf_O_18_5 {X : z_X} {A : Nat → Prop} {Q : State → Prop} {Ω : z_O} {k n nL pc q : Nat} {lv : List (Nat × Value)} {st : List Value} {cc : ByteArray} {S : z_S} (hC : z_C X cc nL "NodalAuction$Outcome" Ω) (d : decode cc pc = .ok (.getfield 18, 3)) (hq : pc + 3 = q) (kk : z_At X A Q Ω k n nL q lv (.int (gF S 5) :: st) (wN Ω S)) : z_At X A Q Ω k n nL pc lv (.ref (Ω.2.2 5) :: st) (wN Ω S) := z_get (g := 2) hC u_O 5 rfl rfl (by decide) k_141 rfl d hq kk
theorem pf_O_18_5 {X : z_X} {A : Nat → Prop} {Q : State → Prop} {Ω : z_O} {k n nL pc q : Nat} {lv : List (Nat × Value)} {st : List Value} {cc : ByteArray} {S : z_S} {v : Int32} (hz : vz v = true) (hC : z_C X cc nL "NodalAuction$Outcome" Ω) (d : decode cc pc = .ok (.putfield 18, 3)) (hq : pc + 3 = q) (kk : z_At X A Q Ω k n nL q lv st (wN Ω (sF S 5 v))) : z_At X A Q Ω k n nL pc lv (.int v :: .ref (Ω.2.2 5) :: st) (wN Ω S) := z_put (g := 2) (ty := .boolean) hC u_O t_O t_O_ok n_O 5 rfl rfl (by decide) k_141 rfl (by decide +kernel) (vz_n hz) (vz_f hz) (Nat.le_of_ble_eq_true rfl) rfl d hq kk
theorem gf_O_22_5 {X : z_X} {A : Nat → Prop} {Q : State → Prop} {Ω : z_O} {k n nL pc q : Nat} {lv : List (Nat × Value)} {st : List Value} {cc : ByteArray} {S : z_S} (hC : z_C X cc nL "NodalAuction$Outcome" Ω) (d : decode cc pc = .ok (.getfield 22, 3)) (hq : pc + 3 = q) (kk : z_At X A Q Ω k n nL q lv (.int (gF S 6) :: st) (wN Ω S)) : z_At X A Q Ω k n nL pc lv (.ref (Ω.2.2 5) :: st) (wN Ω S) := z_get (g := 3) hC u_O 5 rfl rfl (by decide) k_143 rfl d hq kk
theorem pf_O_22_5 {X : z_X} {A : Nat → Prop} {Q : State → Prop} {Ω : z_O} {k n nL pc q : Nat} {lv : List (Nat × Value)} {st : List Value} {cc : ByteArray} {S : z_S} {v : Int32} (hC : z_C X cc nL "NodalAuction$Outcome" Ω) (d : decode cc pc = .ok (.putfield 22, 3)) (hq : pc + 3 = q) (kk : z_At X A Q Ω k n nL q lv st (wN Ω (sF S 6 v))) : z_At X A Q Ω k n nL pc lv (.int v :: .ref (Ω.2.2 5) :: st) (wN Ω S) := z_put (g := 3) (ty := .int) hC u_O t_O t_O_ok n_O 5 rfl rfl (by decide) k_143 rfl (by decide +kernel) rfl rfl (Nat.le_of_ble_eq_true rfl) rfl d hq kk
theorem gf_O_26_5 {X : z_X} {A : Nat → Prop} {Q : State → Prop} {Ω : z_O} {k n nL pc q : Nat} {lv : List (Nat × Value)} {st : List Value} {cc : ByteArray} {S : z_S} (hC : z_C X cc nL "NodalAuction$Outcome" Ω) (d : decode cc pc = .ok (.getfield 26, 3)) (hq : pc + 3 = q) (kk : z_At X A Q Ω k n nL q lv (.long (gG S 2) :: st) (wN Ω S)) : z_At X A Q Ω k n nL pc lv (.ref (Ω.2.2 5) :: st) (wN Ω S) := z_get (g := 4) hC u_O 5 rfl rfl (by decide) k_145 rfl d hq kk
theorem pf_O_26_5 {X : z_X} {A : Nat → Prop} {Q : State → Prop} {Ω : z_O} {k n nL pc q : Nat} {lv : List (Nat × Value)} {st : List Value} {cc : ByteArray} {S : z_S} {v : Int64} (hC : z_C X cc nL "NodalAuction$Outcome" Ω) (d : decode cc pc = .ok (.putfield 26, 3)) (hq : pc + 3 = q) (kk : z_At X A Q Ω k n nL q lv st (wN Ω (sG S 2 v))) : z_At X A Q Ω k n nL pc lv (.long v :: .ref (Ω.2.2 5) :: st) (wN Ω S) := z_put (g := 4) (ty := .long) hC u_O t_O t_O_ok n_O 5 rfl rfl (by decide) k_145 rfl (by decide +kernel) rfl rfl (Nat.le_of_ble_eq_true rfl) rfl d hq kk
theorem gf_O_30_4 {X : z_X} {A : Nat → Prop} {Q : State → Prop} {Ω : z_O} {k n nL pc q : Nat} {lv : List (Nat × Value)} {st : List Value} {cc : ByteArray} {S : z_S} (hC : z_C X cc nL "NodalAuction$Outcome" Ω) (d : decode cc pc = .ok (.getfield 30, 3)) (hq : pc + 3 = q) (kk : z_At X A Q Ω k n nL q lv (.long (gG S 1) :: st) (wN Ω S)) : z_At X A Q Ω k n nL pc lv (.ref (Ω.2.2 4) :: st) (wN Ω S) := z_getN (g := 9) hC u_P 4 rfl rfl (by decide) k_107 rfl d hq kk
theorem pf_O_30_4 {X : z_X} {A : Nat → Prop} {Q : State → Prop} {Ω : z_O} {k n nL pc q : Nat} {lv : List (Nat × Value)} {st : List Value} {cc : ByteArray} {S : z_S} {v : Int64} (hC : z_C X cc nL "NodalAuction$Outcome" Ω) (d : decode cc pc = .ok (.putfield 30, 3)) (hq : pc + 3 = q) (kk : z_At X A Q Ω k n nL q lv st (wN Ω (sG S 1 v))) : z_At X A Q Ω k n nL pc lv (.long v :: .ref (Ω.2.2 4) :: st) (wN Ω S) := z_putN (g := 9) (ty := .long) hC u_P t_P t_P_ok n_P 4 rfl rfl (by decide) k_107 rfl (by decide +kernel) rfl rfl (Nat.le_of_ble_eq_true rfl) rfl d hq kk
theorem gf_O_35_2 {X : z_X} {A : Nat → Prop} {Q : State → Prop} {Ω : z_O} {k n nL pc q : Nat} {lv : List (Nat × Value)} {st : List Value} {cc : ByteArray} {S : z_S} (hC : z_C X cc nL "NodalAuction$Outcome" Ω) (d : decode cc pc = .ok (.getfield 35, 3)) (hq : pc + 3 = q) (kk : z_At X A Q Ω k n nL q lv (.int (gF S 1) :: st) (wN Ω S)) : z_At X A Q Ω k n nL pc lv (.ref (Ω.2.2 2) :: st) (wN Ω S) := z_getN (g := 4) hC u_B 2 rfl rfl (by decide) k_76 rfl d hq kk
theorem pf_O_35_2 {X : z_X} {A : Nat → Prop} {Q : State → Prop} {Ω : z_O} {k n nL pc q : Nat} {lv : List (Nat × Value)} {st : List Value} {cc : ByteArray} {S : z_S} {v : Int32} (hC : z_C X cc nL "NodalAuction$Outcome" Ω) (d : decode cc pc = .ok (.putfield 35, 3)) (hq : pc + 3 = q) (kk : z_At X A Q Ω k n nL q lv st (wN Ω (sF S 1 v))) : z_At X A Q Ω k n nL pc lv (.int v :: .ref (Ω.2.2 2) :: st) (wN Ω S) := z_putN (g := 4) (ty := .int) hC u_B t_B t_B_ok n_B 2 rfl rfl (by decide) k_76 rfl (by decide +kernel) rfl rfl (Nat.le_of_ble_eq_true rfl) rfl d hq kk
theorem gf_O_35_3 {X : z_X} {A : Nat → Prop} {Q : State → Prop} {Ω : z_O} {k n nL pc q : Nat} {lv : List (Nat × Value)} {st : List Value} {cc : ByteArray} {S : z_S} (hC : z_C X cc nL "NodalAuction$Outcome" Ω) (d : decode cc pc = .ok (.getfield 35, 3)) (hq : pc + 3 = q) (kk : z_At X A Q Ω k n nL q lv (.int (gF S 2) :: st) (wN Ω S)) : z_At X A Q Ω k n nL pc lv (.ref (Ω.2.2 3) :: st) (wN Ω S) := z_getN (g := 4) hC u_B 3 rfl rfl (by decide) k_76 rfl d hq kk
theorem pf_O_35_3 {X : z_X} {A : Nat → Prop} {Q : State → Prop} {Ω : z_O} {k n nL pc q : Nat} {lv : List (Nat × Value)} {st : List Value} {cc : ByteArray} {S : z_S} {v : Int32} (hC : z_C X cc nL "NodalAuction$Outcome" Ω) (d : decode cc pc = .ok (.putfield 35, 3)) (hq : pc + 3 = q) (kk : z_At X A Q Ω k n nL q lv st (wN Ω (sF S 2 v))) : z_At X A Q Ω k n nL pc lv (.int v :: .ref (Ω.2.2 3) :: st) (wN Ω S) := z_putN (g := 4) (ty := .int) hC u_B t_B t_B_ok n_B 3 rfl rfl (by decide) k_76 rfl (by decide +kernel) rfl rfl (Nat.le_of_ble_eq_true rfl) rfl d hq kk
theorem gf_O_48_1 {X : z_X} {A : Nat → Prop} {Q : State → Prop} {Ω : z_O} {k n nL pc q : Nat} {lv : List (Nat × Value)} {st : List Value} {cc : ByteArray} {S : z_S} (hC : z_C X cc nL "NodalAuction$Outcome" Ω) (d : decode cc pc = .ok (.getfield 48, 3)) (hq : pc + 3 = q) (kk : z_At X A Q Ω k n nL q lv (.int (gF S 0) :: st) (wN Ω S)) : z_At X A Q Ω k n nL pc lv (.ref (Ω.2.2 1) :: st) (wN Ω S) := z_getN (g := 4) hC u_G 1 rfl rfl (by decide) k_32 rfl d hq kk
theorem pf_O_48_1 {X : z_X} {A : Nat → Prop} {Q : State → Prop} {Ω : z_O} {k n nL pc q : Nat} {lv : List (Nat × Value)} {st : List Value} {cc : ByteArray} {S : z_S} {v : Int32} (hC : z_C X cc nL "NodalAuction$Outcome" Ω) (d : decode cc pc = .ok (.putfield 48, 3)) (hq : pc + 3 = q) (kk : z_At X A Q Ω k n nL q lv st (wN Ω (sF S 0 v))) : z_At X A Q Ω k n nL pc lv (.int v :: .ref (Ω.2.2 1) :: st) (wN Ω S) := z_putN (g := 4) (ty := .int) hC u_G t_G t_G_ok n_G 1 rfl rfl (by decide) k_32 rfl (by decide +kernel) rfl rfl (Nat.le_of_ble_eq_true rfl) rfl d hq kk
theorem gf_P_11_4 {X : z_X} {A : Nat → Prop} {Q : State → Prop} {Ω : z_O} {k n nL pc q : Nat} {lv : List (Nat × Value)} {st : List Value} {cc : ByteArray} {S : z_S} (hC : z_C X cc nL "NodalAuction$Program" Ω) (d : decode cc pc = .ok (.getfield 11, 3)) (hq : pc + 3 = q) (kk : z_At X A Q Ω k n nL q lv (.ref (Ω.2.2 21) :: st) (wN Ω S)) : z_At X A Q Ω k n nL pc lv (.ref (Ω.2.2 4) :: st) (wN Ω S) := z_get (g := 0) hC u_P 4 rfl rfl (by decide) k_97 rfl d hq kk
theorem gf_P_16_4 {X : z_X} {A : Nat → Prop} {Q : State → Prop} {Ω : z_O} {k n nL pc q : Nat} {lv : List (Nat × Value)} {st : List Value} {cc : ByteArray} {S : z_S} (hC : z_C X cc nL "NodalAuction$Program" Ω) (d : decode cc pc = .ok (.getfield 16, 3)) (hq : pc + 3 = q) (kk : z_At X A Q Ω k n nL q lv (.ref (Ω.2.2 22) :: st) (wN Ω S)) : z_At X A Q Ω k n nL pc lv (.ref (Ω.2.2 4) :: st) (wN Ω S) := z_get (g := 1) hC u_P 4 rfl rfl (by decide) k_98 rfl d hq kk
theorem gf_P_20_4 {X : z_X} {A : Nat → Prop} {Q : State → Prop} {Ω : z_O} {k n nL pc q : Nat} {lv : List (Nat × Value)} {st : List Value} {cc : ByteArray} {S : z_S} (hC : z_C X cc nL "NodalAuction$Program" Ω) (d : decode cc pc = .ok (.getfield 20, 3)) (hq : pc + 3 = q) (kk : z_At X A Q Ω k n nL q lv (.ref (Ω.2.2 23) :: st) (wN Ω S)) : z_At X A Q Ω k n nL pc lv (.ref (Ω.2.2 4) :: st) (wN Ω S) := z_get (g := 2) hC u_P 4 rfl rfl (by decide) k_99 rfl d hq kk
theorem gf_P_23_4 {X : z_X} {A : Nat → Prop} {Q : State → Prop} {Ω : z_O} {k n nL pc q : Nat} {lv : List (Nat × Value)} {st : List Value} {cc : ByteArray} {S : z_S} (hC : z_C X cc nL "NodalAuction$Program" Ω) (d : decode cc pc = .ok (.getfield 23, 3)) (hq : pc + 3 = q) (kk : z_At X A Q Ω k n nL q lv (.ref (Ω.2.2 24) :: st) (wN Ω S)) : z_At X A Q Ω k n nL pc lv (.ref (Ω.2.2 4) :: st) (wN Ω S) := z_get (g := 3) hC u_P 4 rfl rfl (by decide) k_100 rfl d hq kk
theorem gf_P_26_4 {X : z_X} {A : Nat → Prop} {Q : State → Prop} {Ω : z_O} {k n nL pc q : Nat} {lv : List (Nat × Value)} {st : List Value} {cc : ByteArray} {S : z_S} (hC : z_C X cc nL "NodalAuction$Program" Ω) (d : decode cc pc = .ok (.getfield 26, 3)) (hq : pc + 3 = q) (kk : z_At X A Q Ω k n nL q lv (.ref (Ω.2.2 25) :: st) (wN Ω S)) : z_At X A Q Ω k n nL pc lv (.ref (Ω.2.2 4) :: st) (wN Ω S) := z_get (g := 4) hC u_P 4 rfl rfl (by decide) k_101 rfl d hq kk
theorem gf_P_29_4 {X : z_X} {A : Nat → Prop} {Q : State → Prop} {Ω : z_O} {k n nL pc q : Nat} {lv : List (Nat × Value)} {st : List Value} {cc : ByteArray} {S : z_S} (hC : z_C X cc nL "NodalAuction$Program" Ω) (d : decode cc pc = .ok (.getfield 29, 3)) (hq : pc + 3 = q) (kk : z_At X A Q Ω k n nL q lv (.ref (Ω.2.2 26) :: st) (wN Ω S)) : z_At X A Q Ω k n nL pc lv (.ref (Ω.2.2 4) :: st) (wN Ω S) := z_get (g := 5) hC u_P 4 rfl rfl (by decide) k_102 rfl d hq kk
theorem gf_P_32_4 {X : z_X} {A : Nat → Prop} {Q : State → Prop} {Ω : z_O} {k n nL pc q : Nat} {lv : List (Nat × Value)} {st : List Value} {cc : ByteArray} {S : z_S} (hC : z_C X cc nL "NodalAuction$Program" Ω) (d : decode cc pc = .ok (.getfield 32, 3)) (hq : pc + 3 = q) (kk : z_At X A Q Ω k n nL q lv (.ref (Ω.2.2 27) :: st) (wN Ω S)) : z_At X A Q Ω k n nL pc lv (.ref (Ω.2.2 4) :: st) (wN Ω S) := z_get (g := 6) hC u_P 4 rfl rfl (by decide) k_103 rfl d hq kk
theorem gf_P_36_4 {X : z_X} {A : Nat → Prop} {Q : State → Prop} {Ω : z_O} {k n nL pc q : Nat} {lv : List (Nat × Value)} {st : List Value} {cc : ByteArray} {S : z_S} (hC : z_C X cc nL "NodalAuction$Program" Ω) (d : decode cc pc = .ok (.getfield 36, 3)) (hq : pc + 3 = q) (kk : z_At X A Q Ω k n nL q lv (.int (gF S 3) :: st) (wN Ω S)) : z_At X A Q Ω k n nL pc lv (.ref (Ω.2.2 4) :: st) (wN Ω S) := z_get (g := 7) hC u_P 4 rfl rfl (by decide) k_104 rfl d hq kk
theorem pf_P_36_4 {X : z_X} {A : Nat → Prop} {Q : State → Prop} {Ω : z_O} {k n nL pc q : Nat} {lv : List (Nat × Value)} {st : List Value} {cc : ByteArray} {S : z_S} {v : Int32} (hC : z_C X cc nL "NodalAuction$Program" Ω) (d : decode cc pc = .ok (.putfield 36, 3)) (hq : pc + 3 = q) (kk : z_At X A Q Ω k n nL q lv st (wN Ω (sF S 3 v))) : z_At X A Q Ω k n nL pc lv (.int v :: .ref (Ω.2.2 4) :: st) (wN Ω S) := z_put (g := 7) (ty := .int) hC u_P t_P t_P_ok n_P 4 rfl rfl (by decide) k_104 rfl (by decide +kernel) rfl rfl (Nat.le_of_ble_eq_true rfl) rfl d hq kk
theorem gf_P_40_4 {X : z_X} {A : Nat → Prop} {Q : State → Prop} {Ω : z_O} {k n nL pc q : Nat} {lv : List (Nat × Value)} {st : List Value} {cc : ByteArray} {S : z_S} (hC : z_C X cc nL "NodalAuction$Program" Ω) (d : decode cc pc = .ok (.getfield 40, 3)) (hq : pc + 3 = q) (kk : z_At X A Q Ω k n nL q lv (.int (gF S 4) :: st) (wN Ω S)) : z_At X A Q Ω k n nL pc lv (.ref (Ω.2.2 4) :: st) (wN Ω S) := z_get (g := 8) hC u_P 4 rfl rfl (by decide) k_105 rfl d hq kk
theorem pf_P_40_4 {X : z_X} {A : Nat → Prop} {Q : State → Prop} {Ω : z_O} {k n nL pc q : Nat} {lv : List (Nat × Value)} {st : List Value} {cc : ByteArray} {S : z_S} {v : Int32} (hC : z_C X cc nL "NodalAuction$Program" Ω) (d : decode cc pc = .ok (.putfield 40, 3)) (hq : pc + 3 = q) (kk : z_At X A Q Ω k n nL q lv st (wN Ω (sF S 4 v))) : z_At X A Q Ω k n nL pc lv (.int v :: .ref (Ω.2.2 4) :: st) (wN Ω S) := z_put (g := 8) (ty := .int) hC u_P t_P t_P_ok n_P 4 rfl rfl (by decide) k_105 rfl (by decide +kernel) rfl rfl (Nat.le_of_ble_eq_true rfl) rfl d hq kk
theorem gf_P_43_4 {X : z_X} {A : Nat → Prop} {Q : State → Prop} {Ω : z_O} {k n nL pc q : Nat} {lv : List (Nat × Value)} {st : List Value} {cc : ByteArray} {S : z_S} (hC : z_C X cc nL "NodalAuction$Program" Ω) (d : decode cc pc = .ok (.getfield 43, 3)) (hq : pc + 3 = q) (kk : z_At X A Q Ω k n nL q lv (.long (gG S 1) :: st) (wN Ω S)) : z_At X A Q Ω k n nL pc lv (.ref (Ω.2.2 4) :: st) (wN Ω S) := z_get (g := 9) hC u_P 4 rfl rfl (by decide) k_106 rfl d hq kk
theorem pf_P_43_4 {X : z_X} {A : Nat → Prop} {Q : State → Prop} {Ω : z_O} {k n nL pc q : Nat} {lv : List (Nat × Value)} {st : List Value} {cc : ByteArray} {S : z_S} {v : Int64} (hC : z_C X cc nL "NodalAuction$Program" Ω) (d : decode cc pc = .ok (.putfield 43, 3)) (hq : pc + 3 = q) (kk : z_At X A Q Ω k n nL q lv st (wN Ω (sG S 1 v))) : z_At X A Q Ω k n nL pc lv (.long v :: .ref (Ω.2.2 4) :: st) (wN Ω S) := z_put (g := 9) (ty := .long) hC u_P t_P t_P_ok n_P 4 rfl rfl (by decide) k_106 rfl (by decide +kernel) rfl rfl (Nat.le_of_ble_eq_true rfl) rfl d hq kk
theorem gf_P_53_1 {X : z_X} {A : Nat → Prop} {Q : State → Prop} {Ω : z_O} {k n nL pc q : Nat} {lv : List (Nat × Value)} {st : List Value} {cc : ByteArray} {S : z_S} (hC : z_C X cc nL "NodalAuction$Program" Ω) (d : decode cc pc = .ok (.getfield 53, 3)) (hq : pc + 3 = q) (kk : z_At X A Q Ω k n nL q lv (.long (gG S 0) :: st) (wN Ω S)) : z_At X A Q Ω k n nL pc lv (.ref (Ω.2.2 1) :: st) (wN Ω S) := z_getN (g := 7) hC u_G 1 rfl rfl (by decide) k_37 rfl d hq kk
theorem pf_P_53_1 {X : z_X} {A : Nat → Prop} {Q : State → Prop} {Ω : z_O} {k n nL pc q : Nat} {lv : List (Nat × Value)} {st : List Value} {cc : ByteArray} {S : z_S} {v : Int64} (hC : z_C X cc nL "NodalAuction$Program" Ω) (d : decode cc pc = .ok (.putfield 53, 3)) (hq : pc + 3 = q) (kk : z_At X A Q Ω k n nL q lv st (wN Ω (sG S 0 v))) : z_At X A Q Ω k n nL pc lv (.long v :: .ref (Ω.2.2 1) :: st) (wN Ω S) := z_putN (g := 7) (ty := .long) hC u_G t_G t_G_ok n_G 1 rfl rfl (by decide) k_37 rfl (by decide +kernel) rfl rfl (Nat.le_of_ble_eq_true rfl) rfl d hq kk
theorem gf_P_56_2 {X : z_X} {A : Nat → Prop} {Q : State → Prop} {Ω : z_O} {k n nL pc q : Nat} {lv : List (Nat × Value)} {st : List Value} {cc : ByteArray} {S : z_S} (hC : z_C X cc nL "NodalAuction$Program" Ω) (d : decode cc pc = .ok (.getfield 56, 3)) (hq : pc + 3 = q) (kk : z_At X A Q Ω k n nL q lv (.int (gF S 1) :: st) (wN Ω S)) : z_At X A Q Ω k n nL pc lv (.ref (Ω.2.2 2) :: st) (wN Ω S) := z_getN (g := 4) hC u_B 2 rfl rfl (by decide) k_77 rfl d hq kk
theorem pf_P_56_2 {X : z_X} {A : Nat → Prop} {Q : State → Prop} {Ω : z_O} {k n nL pc q : Nat} {lv : List (Nat × Value)} {st : List Value} {cc : ByteArray} {S : z_S} {v : Int32} (hC : z_C X cc nL "NodalAuction$Program" Ω) (d : decode cc pc = .ok (.putfield 56, 3)) (hq : pc + 3 = q) (kk : z_At X A Q Ω k n nL q lv st (wN Ω (sF S 1 v))) : z_At X A Q Ω k n nL pc lv (.int v :: .ref (Ω.2.2 2) :: st) (wN Ω S) := z_putN (g := 4) (ty := .int) hC u_B t_B t_B_ok n_B 2 rfl rfl (by decide) k_77 rfl (by decide +kernel) rfl rfl (Nat.le_of_ble_eq_true rfl) rfl d hq kk
theorem gf_P_56_3 {X : z_X} {A : Nat → Prop} {Q : State → Prop} {Ω : z_O} {k n nL pc q : Nat} {lv : List (Nat × Value)} {st : List Value} {cc : ByteArray} {S : z_S} (hC : z_C X cc nL "NodalAuction$Program" Ω) (d : decode cc pc = .ok (.getfield 56, 3)) (hq : pc + 3 = q) (kk : z_At X A Q Ω k n nL q lv (.int (gF S 2) :: st) (wN Ω S)) : z_At X A Q Ω k n nL pc lv (.ref (Ω.2.2 3) :: st) (wN Ω S) := z_getN (g := 4) hC u_B 3 rfl rfl (by decide) k_77 rfl d hq kk
theorem pf_P_56_3 {X : z_X} {A : Nat → Prop} {Q : State → Prop} {Ω : z_O} {k n nL pc q : Nat} {lv : List (Nat × Value)} {st : List Value} {cc : ByteArray} {S : z_S} {v : Int32} (hC : z_C X cc nL "NodalAuction$Program" Ω) (d : decode cc pc = .ok (.putfield 56, 3)) (hq : pc + 3 = q) (kk : z_At X A Q Ω k n nL q lv st (wN Ω (sF S 2 v))) : z_At X A Q Ω k n nL pc lv (.int v :: .ref (Ω.2.2 3) :: st) (wN Ω S) := z_putN (g := 4) (ty := .int) hC u_B t_B t_B_ok n_B 3 rfl rfl (by decide) k_77 rfl (by decide +kernel) rfl rfl (Nat.le_of_ble_eq_true rfl) rfl d hq kk
theorem gf_P_61_1 {X : z_X} {A : Nat → Prop} {Q : State → Prop} {Ω : z_O} {k n nL pc q : Nat} {lv : List (Nat × Value)} {st : List Value} {cc : ByteArray} {S : z_S} (hC : z_C X cc nL "NodalAuction$Program" Ω) (d : decode cc pc = .ok (.getfield 61, 3)) (hq : pc + 3 = q) (kk : z_At X A Q Ω k n nL q lv (.int (gF S 0) :: st) (wN Ω S)) : z_At X A Q Ω k n nL pc lv (.ref (Ω.2.2 1) :: st) (wN Ω S) := z_getN (g := 4) hC u_G 1 rfl rfl (by decide) k_31 rfl d hq kk
theorem pf_P_61_1 {X : z_X} {A : Nat → Prop} {Q : State → Prop} {Ω : z_O} {k n nL pc q : Nat} {lv : List (Nat × Value)} {st : List Value} {cc : ByteArray} {S : z_S} {v : Int32} (hC : z_C X cc nL "NodalAuction$Program" Ω) (d : decode cc pc = .ok (.putfield 61, 3)) (hq : pc + 3 = q) (kk : z_At X A Q Ω k n nL q lv st (wN Ω (sF S 0 v))) : z_At X A Q Ω k n nL pc lv (.int v :: .ref (Ω.2.2 1) :: st) (wN Ω S) := z_putN (g := 4) (ty := .int) hC u_G t_G t_G_ok n_G 1 rfl rfl (by decide) k_31 rfl (by decide +kernel) rfl rfl (Nat.le_of_ble_eq_true rfl) rfl d hq kk
theorem gf_P_62_1 {X : z_X} {A : Nat → Prop} {Q : State → Prop} {Ω : z_O} {k n nL pc q : Nat} {lv : List (Nat × Value)} {st : List Value} {cc : ByteArray} {S : z_S} (hC : z_C X cc nL "NodalAuction$Program" Ω) (d : decode cc pc = .ok (.getfield 62, 3)) (hq : pc + 3 = q) (kk : z_At X A Q Ω k n nL q lv (.ref (Ω.2.2 10) :: st) (wN Ω S)) : z_At X A Q Ω k n nL pc lv (.ref (Ω.2.2 1) :: st) (wN Ω S) := z_getN (g := 3) hC u_G 1 rfl rfl (by decide) k_28 rfl d hq kk
theorem gf_P_69_2 {X : z_X} {A : Nat → Prop} {Q : State → Prop} {Ω : z_O} {k n nL pc q : Nat} {lv : List (Nat × Value)} {st : List Value} {cc : ByteArray} {S : z_S} (hC : z_C X cc nL "NodalAuction$Program" Ω) (d : decode cc pc = .ok (.getfield 69, 3)) (hq : pc + 3 = q) (kk : z_At X A Q Ω k n nL q lv (.ref (Ω.2.2 16) :: st) (wN Ω S)) : z_At X A Q Ω k n nL pc lv (.ref (Ω.2.2 2) :: st) (wN Ω S) := z_getN (g := 3) hC u_B 2 rfl rfl (by decide) k_73 rfl d hq kk
theorem gf_P_69_3 {X : z_X} {A : Nat → Prop} {Q : State → Prop} {Ω : z_O} {k n nL pc q : Nat} {lv : List (Nat × Value)} {st : List Value} {cc : ByteArray} {S : z_S} (hC : z_C X cc nL "NodalAuction$Program" Ω) (d : decode cc pc = .ok (.getfield 69, 3)) (hq : pc + 3 = q) (kk : z_At X A Q Ω k n nL q lv (.ref (Ω.2.2 20) :: st) (wN Ω S)) : z_At X A Q Ω k n nL pc lv (.ref (Ω.2.2 3) :: st) (wN Ω S) := z_getN (g := 3) hC u_B 3 rfl rfl (by decide) k_73 rfl d hq kk
theorem gf_P_76_2 {X : z_X} {A : Nat → Prop} {Q : State → Prop} {Ω : z_O} {k n nL pc q : Nat} {lv : List (Nat × Value)} {st : List Value} {cc : ByteArray} {S : z_S} (hC : z_C X cc nL "NodalAuction$Program" Ω) (d : decode cc pc = .ok (.getfield 76, 3)) (hq : pc + 3 = q) (kk : z_At X A Q Ω k n nL q lv (.ref (Ω.2.2 13) :: st) (wN Ω S)) : z_At X A Q Ω k n nL pc lv (.ref (Ω.2.2 2) :: st) (wN Ω S) := z_getN (g := 0) hC u_B 2 rfl rfl (by decide) k_64 rfl d hq kk
theorem gf_P_76_3 {X : z_X} {A : Nat → Prop} {Q : State → Prop} {Ω : z_O} {k n nL pc q : Nat} {lv : List (Nat × Value)} {st : List Value} {cc : ByteArray} {S : z_S} (hC : z_C X cc nL "NodalAuction$Program" Ω) (d : decode cc pc = .ok (.getfield 76, 3)) (hq : pc + 3 = q) (kk : z_At X A Q Ω k n nL q lv (.ref (Ω.2.2 17) :: st) (wN Ω S)) : z_At X A Q Ω k n nL pc lv (.ref (Ω.2.2 3) :: st) (wN Ω S) := z_getN (g := 0) hC u_B 3 rfl rfl (by decide) k_64 rfl d hq kk
theorem gf_P_79_2 {X : z_X} {A : Nat → Prop} {Q : State → Prop} {Ω : z_O} {k n nL pc q : Nat} {lv : List (Nat × Value)} {st : List Value} {cc : ByteArray} {S : z_S} (hC : z_C X cc nL "NodalAuction$Program" Ω) (d : decode cc pc = .ok (.getfield 79, 3)) (hq : pc + 3 = q) (kk : z_At X A Q Ω k n nL q lv (.ref (Ω.2.2 14) :: st) (wN Ω S)) : z_At X A Q Ω k n nL pc lv (.ref (Ω.2.2 2) :: st) (wN Ω S) := z_getN (g := 1) hC u_B 2 rfl rfl (by decide) k_67 rfl d hq kk
theorem gf_P_79_3 {X : z_X} {A : Nat → Prop} {Q : State → Prop} {Ω : z_O} {k n nL pc q : Nat} {lv : List (Nat × Value)} {st : List Value} {cc : ByteArray} {S : z_S} (hC : z_C X cc nL "NodalAuction$Program" Ω) (d : decode cc pc = .ok (.getfield 79, 3)) (hq : pc + 3 = q) (kk : z_At X A Q Ω k n nL q lv (.ref (Ω.2.2 18) :: st) (wN Ω S)) : z_At X A Q Ω k n nL pc lv (.ref (Ω.2.2 3) :: st) (wN Ω S) := z_getN (g := 1) hC u_B 3 rfl rfl (by decide) k_67 rfl d hq kk
theorem gf_P_86_2 {X : z_X} {A : Nat → Prop} {Q : State → Prop} {Ω : z_O} {k n nL pc q : Nat} {lv : List (Nat × Value)} {st : List Value} {cc : ByteArray} {S : z_S} (hC : z_C X cc nL "NodalAuction$Program" Ω) (d : decode cc pc = .ok (.getfield 86, 3)) (hq : pc + 3 = q) (kk : z_At X A Q Ω k n nL q lv (.ref (Ω.2.2 15) :: st) (wN Ω S)) : z_At X A Q Ω k n nL pc lv (.ref (Ω.2.2 2) :: st) (wN Ω S) := z_getN (g := 2) hC u_B 2 rfl rfl (by decide) k_70 rfl d hq kk
theorem gf_P_86_3 {X : z_X} {A : Nat → Prop} {Q : State → Prop} {Ω : z_O} {k n nL pc q : Nat} {lv : List (Nat × Value)} {st : List Value} {cc : ByteArray} {S : z_S} (hC : z_C X cc nL "NodalAuction$Program" Ω) (d : decode cc pc = .ok (.getfield 86, 3)) (hq : pc + 3 = q) (kk : z_At X A Q Ω k n nL q lv (.ref (Ω.2.2 19) :: st) (wN Ω S)) : z_At X A Q Ω k n nL pc lv (.ref (Ω.2.2 3) :: st) (wN Ω S) := z_getN (g := 2) hC u_B 3 rfl rfl (by decide) k_70 rfl d hq kk
theorem al_wN_6 {X : z_X} {A : Nat → Prop} {Q : State → Prop} {Ω : z_O} {k n nL pc q : Nat} {lv : List (Nat × Value)} {st : List Value} {cc : ByteArray} {S : z_S} {own : String} {i : Int32} (hC : z_C X cc nL own Ω) (hi : vi i 4 = true) (d : decode cc pc = .ok (.iaload, 1)) (hq : pc + 1 = q) (kk : z_At X A Q Ω k n nL q lv (.int (gI S 0 i.toNatClampNeg) :: st) (wN Ω S)) : z_At X A Q Ω k n nL pc lv (.int i :: .ref (Ω.2.2 6) :: st) (wN Ω S) := z_iald hC 6 rfl hi d hq kk
theorem as_wN_6 {X : z_X} {A : Nat → Prop} {Q : State → Prop} {Ω : z_O} {k n nL pc q : Nat} {lv : List (Nat × Value)} {st : List Value} {cc : ByteArray} {S : z_S} {own : String} {i : Int32} {x : Int32} (hC : z_C X cc nL own Ω) (hi : vi i 4 = true) (d : decode cc pc = .ok (.iastore, 1)) (hq : pc + 1 = q) (kk : z_At X A Q Ω k n nL q lv st (wN Ω (sI S 0 (upd (gI S 0) i.toNatClampNeg x)))) : z_At X A Q Ω k n nL pc lv (.int x :: .int i :: .ref (Ω.2.2 6) :: st) (wN Ω S) := z_iast hC 6 rfl hi rfl d hq kk
theorem al_wN_7 {X : z_X} {A : Nat → Prop} {Q : State → Prop} {Ω : z_O} {k n nL pc q : Nat} {lv : List (Nat × Value)} {st : List Value} {cc : ByteArray} {S : z_S} {own : String} {i : Int32} (hC : z_C X cc nL own Ω) (hi : vi i 6 = true) (d : decode cc pc = .ok (.iaload, 1)) (hq : pc + 1 = q) (kk : z_At X A Q Ω k n nL q lv (.int (gI S 1 i.toNatClampNeg) :: st) (wN Ω S)) : z_At X A Q Ω k n nL pc lv (.int i :: .ref (Ω.2.2 7) :: st) (wN Ω S) := z_iald hC 7 rfl hi d hq kk
theorem as_wN_7 {X : z_X} {A : Nat → Prop} {Q : State → Prop} {Ω : z_O} {k n nL pc q : Nat} {lv : List (Nat × Value)} {st : List Value} {cc : ByteArray} {S : z_S} {own : String} {i : Int32} {x : Int32} (hC : z_C X cc nL own Ω) (hi : vi i 6 = true) (d : decode cc pc = .ok (.iastore, 1)) (hq : pc + 1 = q) (kk : z_At X A Q Ω k n nL q lv st (wN Ω (sI S 1 (upd (gI S 1) i.toNatClampNeg x)))) : z_At X A Q Ω k n nL pc lv (.int x :: .int i :: .ref (Ω.2.2 7) :: st) (wN Ω S) := z_iast hC 7 rfl hi rfl d hq kk
theorem al_wN_8 {X : z_X} {A : Nat → Prop} {Q : State → Prop} {Ω : z_O} {k n nL pc q : Nat} {lv : List (Nat × Value)} {st : List Value} {cc : ByteArray} {S : z_S} {own : String} {i : Int32} (hC : z_C X cc nL own Ω) (hi : vi i 6 = true) (d : decode cc pc = .ok (.iaload, 1)) (hq : pc + 1 = q) (kk : z_At X A Q Ω k n nL q lv (.int (gI S 2 i.toNatClampNeg) :: st) (wN Ω S)) : z_At X A Q Ω k n nL pc lv (.int i :: .ref (Ω.2.2 8) :: st) (wN Ω S) := z_iald hC 8 rfl hi d hq kk
theorem as_wN_8 {X : z_X} {A : Nat → Prop} {Q : State → Prop} {Ω : z_O} {k n nL pc q : Nat} {lv : List (Nat × Value)} {st : List Value} {cc : ByteArray} {S : z_S} {own : String} {i : Int32} {x : Int32} (hC : z_C X cc nL own Ω) (hi : vi i 6 = true) (d : decode cc pc = .ok (.iastore, 1)) (hq : pc + 1 = q) (kk : z_At X A Q Ω k n nL q lv st (wN Ω (sI S 2 (upd (gI S 2) i.toNatClampNeg x)))) : z_At X A Q Ω k n nL pc lv (.int x :: .int i :: .ref (Ω.2.2 8) :: st) (wN Ω S) := z_iast hC 8 rfl hi rfl d hq kk
theorem al_wN_9 {X : z_X} {A : Nat → Prop} {Q : State → Prop} {Ω : z_O} {k n nL pc q : Nat} {lv : List (Nat × Value)} {st : List Value} {cc : ByteArray} {S : z_S} {own : String} {i : Int32} (hC : z_C X cc nL own Ω) (hi : vi i 6 = true) (d : decode cc pc = .ok (.iaload, 1)) (hq : pc + 1 = q) (kk : z_At X A Q Ω k n nL q lv (.int (gI S 3 i.toNatClampNeg) :: st) (wN Ω S)) : z_At X A Q Ω k n nL pc lv (.int i :: .ref (Ω.2.2 9) :: st) (wN Ω S) := z_iald hC 9 rfl hi d hq kk
theorem as_wN_9 {X : z_X} {A : Nat → Prop} {Q : State → Prop} {Ω : z_O} {k n nL pc q : Nat} {lv : List (Nat × Value)} {st : List Value} {cc : ByteArray} {S : z_S} {own : String} {i : Int32} {x : Int32} (hC : z_C X cc nL own Ω) (hi : vi i 6 = true) (d : decode cc pc = .ok (.iastore, 1)) (hq : pc + 1 = q) (kk : z_At X A Q Ω k n nL q lv st (wN Ω (sI S 3 (upd (gI S 3) i.toNatClampNeg x)))) : z_At X A Q Ω k n nL pc lv (.int x :: .int i :: .ref (Ω.2.2 9) :: st) (wN Ω S) := z_iast hC 9 rfl hi rfl d hq kk
theorem al_wN_10 {X : z_X} {A : Nat → Prop} {Q : State → Prop} {Ω : z_O} {k n nL pc q : Nat} {lv : List (Nat × Value)} {st : List Value} {cc : ByteArray} {S : z_S} {own : String} {i : Int32} (hC : z_C X cc nL own Ω) (hi : vi i 6 = true) (d : decode cc pc = .ok (.iaload, 1)) (hq : pc + 1 = q) (kk : z_At X A Q Ω k n nL q lv (.int (gI S 4 i.toNatClampNeg) :: st) (wN Ω S)) : z_At X A Q Ω k n nL pc lv (.int i :: .ref (Ω.2.2 10) :: st) (wN Ω S) := z_iald hC 10 rfl hi d hq kk
theorem as_wN_10 {X : z_X} {A : Nat → Prop} {Q : State → Prop} {Ω : z_O} {k n nL pc q : Nat} {lv : List (Nat × Value)} {st : List Value} {cc : ByteArray} {S : z_S} {own : String} {i : Int32} {x : Int32} (hC : z_C X cc nL own Ω) (hi : vi i 6 = true) (d : decode cc pc = .ok (.iastore, 1)) (hq : pc + 1 = q) (kk : z_At X A Q Ω k n nL q lv st (wN Ω (sI S 4 (upd (gI S 4) i.toNatClampNeg x)))) : z_At X A Q Ω k n nL pc lv (.int x :: .int i :: .ref (Ω.2.2 10) :: st) (wN Ω S) := z_iast hC 10 rfl hi rfl d hq kk
theorem ao_wN_11 {X : z_X} {A : Nat → Prop} {Q : State → Prop} {Ω : z_O} {k n nL pc q : Nat} {lv : List (Nat × Value)} {st : List Value} {cc : ByteArray} {S : z_S} {own : String} {i : Int32} (hC : z_C X cc nL own Ω) (hi : vi i 4 = true) (d : decode cc pc = .ok (.aaload, 1)) (hq : pc + 1 = q) (kk : z_At X A Q Ω k n nL q lv (.ref (Ω.2.2 (30 + i.toNatClampNeg)) :: st) (wN Ω S)) : z_At X A Q Ω k n nL pc lv (.int i :: .ref (Ω.2.2 11) :: st) (wN Ω S) := z_aald hC 11 rfl hi (if_pos (vi_lt hi)) d hq kk
theorem ao_wN_12 {X : z_X} {A : Nat → Prop} {Q : State → Prop} {Ω : z_O} {k n nL pc q : Nat} {lv : List (Nat × Value)} {st : List Value} {cc : ByteArray} {S : z_S} {own : String} {i : Int32} (hC : z_C X cc nL own Ω) (hi : vi i 4 = true) (d : decode cc pc = .ok (.aaload, 1)) (hq : pc + 1 = q) (kk : z_At X A Q Ω k n nL q lv (.ref (Ω.2.2 (34 + i.toNatClampNeg)) :: st) (wN Ω S)) : z_At X A Q Ω k n nL pc lv (.int i :: .ref (Ω.2.2 12) :: st) (wN Ω S) := z_aald hC 12 rfl hi (if_pos (vi_lt hi)) d hq kk
theorem al_wN_13 {X : z_X} {A : Nat → Prop} {Q : State → Prop} {Ω : z_O} {k n nL pc q : Nat} {lv : List (Nat × Value)} {st : List Value} {cc : ByteArray} {S : z_S} {own : String} {i : Int32} (hC : z_C X cc nL own Ω) (hi : vi i 8 = true) (d : decode cc pc = .ok (.iaload, 1)) (hq : pc + 1 = q) (kk : z_At X A Q Ω k n nL q lv (.int (gI S 5 i.toNatClampNeg) :: st) (wN Ω S)) : z_At X A Q Ω k n nL pc lv (.int i :: .ref (Ω.2.2 13) :: st) (wN Ω S) := z_iald hC 13 rfl hi d hq kk
theorem as_wN_13 {X : z_X} {A : Nat → Prop} {Q : State → Prop} {Ω : z_O} {k n nL pc q : Nat} {lv : List (Nat × Value)} {st : List Value} {cc : ByteArray} {S : z_S} {own : String} {i : Int32} {x : Int32} (hC : z_C X cc nL own Ω) (hi : vi i 8 = true) (d : decode cc pc = .ok (.iastore, 1)) (hq : pc + 1 = q) (kk : z_At X A Q Ω k n nL q lv st (wN Ω (sI S 5 (upd (gI S 5) i.toNatClampNeg x)))) : z_At X A Q Ω k n nL pc lv (.int x :: .int i :: .ref (Ω.2.2 13) :: st) (wN Ω S) := z_iast hC 13 rfl hi rfl d hq kk
theorem al_wN_14 {X : z_X} {A : Nat → Prop} {Q : State → Prop} {Ω : z_O} {k n nL pc q : Nat} {lv : List (Nat × Value)} {st : List Value} {cc : ByteArray} {S : z_S} {own : String} {i : Int32} (hC : z_C X cc nL own Ω) (hi : vi i 8 = true) (d : decode cc pc = .ok (.iaload, 1)) (hq : pc + 1 = q) (kk : z_At X A Q Ω k n nL q lv (.int (gI S 6 i.toNatClampNeg) :: st) (wN Ω S)) : z_At X A Q Ω k n nL pc lv (.int i :: .ref (Ω.2.2 14) :: st) (wN Ω S) := z_iald hC 14 rfl hi d hq kk
theorem as_wN_14 {X : z_X} {A : Nat → Prop} {Q : State → Prop} {Ω : z_O} {k n nL pc q : Nat} {lv : List (Nat × Value)} {st : List Value} {cc : ByteArray} {S : z_S} {own : String} {i : Int32} {x : Int32} (hC : z_C X cc nL own Ω) (hi : vi i 8 = true) (d : decode cc pc = .ok (.iastore, 1)) (hq : pc + 1 = q) (kk : z_At X A Q Ω k n nL q lv st (wN Ω (sI S 6 (upd (gI S 6) i.toNatClampNeg x)))) : z_At X A Q Ω k n nL pc lv (.int x :: .int i :: .ref (Ω.2.2 14) :: st) (wN Ω S) := z_iast hC 14 rfl hi rfl d hq kk
theorem al_wN_15 {X : z_X} {A : Nat → Prop} {Q : State → Prop} {Ω : z_O} {k n nL pc q : Nat} {lv : List (Nat × Value)} {st : List Value} {cc : ByteArray} {S : z_S} {own : String} {i : Int32} (hC : z_C X cc nL own Ω) (hi : vi i 8 = true) (d : decode cc pc = .ok (.iaload, 1)) (hq : pc + 1 = q) (kk : z_At X A Q Ω k n nL q lv (.int (gI S 7 i.toNatClampNeg) :: st) (wN Ω S)) : z_At X A Q Ω k n nL pc lv (.int i :: .ref (Ω.2.2 15) :: st) (wN Ω S) := z_iald hC 15 rfl hi d hq kk
theorem as_wN_15 {X : z_X} {A : Nat → Prop} {Q : State → Prop} {Ω : z_O} {k n nL pc q : Nat} {lv : List (Nat × Value)} {st : List Value} {cc : ByteArray} {S : z_S} {own : String} {i : Int32} {x : Int32} (hC : z_C X cc nL own Ω) (hi : vi i 8 = true) (d : decode cc pc = .ok (.iastore, 1)) (hq : pc + 1 = q) (kk : z_At X A Q Ω k n nL q lv st (wN Ω (sI S 7 (upd (gI S 7) i.toNatClampNeg x)))) : z_At X A Q Ω k n nL pc lv (.int x :: .int i :: .ref (Ω.2.2 15) :: st) (wN Ω S) := z_iast hC 15 rfl hi rfl d hq kk
theorem al_wN_16 {X : z_X} {A : Nat → Prop} {Q : State → Prop} {Ω : z_O} {k n nL pc q : Nat} {lv : List (Nat × Value)} {st : List Value} {cc : ByteArray} {S : z_S} {own : String} {i : Int32} (hC : z_C X cc nL own Ω) (hi : vi i 8 = true) (d : decode cc pc = .ok (.iaload, 1)) (hq : pc + 1 = q) (kk : z_At X A Q Ω k n nL q lv (.int (gI S 8 i.toNatClampNeg) :: st) (wN Ω S)) : z_At X A Q Ω k n nL pc lv (.int i :: .ref (Ω.2.2 16) :: st) (wN Ω S) := z_iald hC 16 rfl hi d hq kk
theorem as_wN_16 {X : z_X} {A : Nat → Prop} {Q : State → Prop} {Ω : z_O} {k n nL pc q : Nat} {lv : List (Nat × Value)} {st : List Value} {cc : ByteArray} {S : z_S} {own : String} {i : Int32} {x : Int32} (hC : z_C X cc nL own Ω) (hi : vi i 8 = true) (d : decode cc pc = .ok (.iastore, 1)) (hq : pc + 1 = q) (kk : z_At X A Q Ω k n nL q lv st (wN Ω (sI S 8 (upd (gI S 8) i.toNatClampNeg x)))) : z_At X A Q Ω k n nL pc lv (.int x :: .int i :: .ref (Ω.2.2 16) :: st) (wN Ω S) := z_iast hC 16 rfl hi rfl d hq kk
theorem al_wN_17 {X : z_X} {A : Nat → Prop} {Q : State → Prop} {Ω : z_O} {k n nL pc q : Nat} {lv : List (Nat × Value)} {st : List Value} {cc : ByteArray} {S : z_S} {own : String} {i : Int32} (hC : z_C X cc nL own Ω) (hi : vi i 8 = true) (d : decode cc pc = .ok (.iaload, 1)) (hq : pc + 1 = q) (kk : z_At X A Q Ω k n nL q lv (.int (gI S 9 i.toNatClampNeg) :: st) (wN Ω S)) : z_At X A Q Ω k n nL pc lv (.int i :: .ref (Ω.2.2 17) :: st) (wN Ω S) := z_iald hC 17 rfl hi d hq kk
theorem as_wN_17 {X : z_X} {A : Nat → Prop} {Q : State → Prop} {Ω : z_O} {k n nL pc q : Nat} {lv : List (Nat × Value)} {st : List Value} {cc : ByteArray} {S : z_S} {own : String} {i : Int32} {x : Int32} (hC : z_C X cc nL own Ω) (hi : vi i 8 = true) (d : decode cc pc = .ok (.iastore, 1)) (hq : pc + 1 = q) (kk : z_At X A Q Ω k n nL q lv st (wN Ω (sI S 9 (upd (gI S 9) i.toNatClampNeg x)))) : z_At X A Q Ω k n nL pc lv (.int x :: .int i :: .ref (Ω.2.2 17) :: st) (wN Ω S) := z_iast hC 17 rfl hi rfl d hq kk
theorem al_wN_18 {X : z_X} {A : Nat → Prop} {Q : State → Prop} {Ω : z_O} {k n nL pc q : Nat} {lv : List (Nat × Value)} {st : List Value} {cc : ByteArray} {S : z_S} {own : String} {i : Int32} (hC : z_C X cc nL own Ω) (hi : vi i 8 = true) (d : decode cc pc = .ok (.iaload, 1)) (hq : pc + 1 = q) (kk : z_At X A Q Ω k n nL q lv (.int (gI S 10 i.toNatClampNeg) :: st) (wN Ω S)) : z_At X A Q Ω k n nL pc lv (.int i :: .ref (Ω.2.2 18) :: st) (wN Ω S) := z_iald hC 18 rfl hi d hq kk
theorem as_wN_18 {X : z_X} {A : Nat → Prop} {Q : State → Prop} {Ω : z_O} {k n nL pc q : Nat} {lv : List (Nat × Value)} {st : List Value} {cc : ByteArray} {S : z_S} {own : String} {i : Int32} {x : Int32} (hC : z_C X cc nL own Ω) (hi : vi i 8 = true) (d : decode cc pc = .ok (.iastore, 1)) (hq : pc + 1 = q) (kk : z_At X A Q Ω k n nL q lv st (wN Ω (sI S 10 (upd (gI S 10) i.toNatClampNeg x)))) : z_At X A Q Ω k n nL pc lv (.int x :: .int i :: .ref (Ω.2.2 18) :: st) (wN Ω S) := z_iast hC 18 rfl hi rfl d hq kk
theorem al_wN_19 {X : z_X} {A : Nat → Prop} {Q : State → Prop} {Ω : z_O} {k n nL pc q : Nat} {lv : List (Nat × Value)} {st : List Value} {cc : ByteArray} {S : z_S} {own : String} {i : Int32} (hC : z_C X cc nL own Ω) (hi : vi i 8 = true) (d : decode cc pc = .ok (.iaload, 1)) (hq : pc + 1 = q) (kk : z_At X A Q Ω k n nL q lv (.int (gI S 11 i.toNatClampNeg) :: st) (wN Ω S)) : z_At X A Q Ω k n nL pc lv (.int i :: .ref (Ω.2.2 19) :: st) (wN Ω S) := z_iald hC 19 rfl hi d hq kk
theorem as_wN_19 {X : z_X} {A : Nat → Prop} {Q : State → Prop} {Ω : z_O} {k n nL pc q : Nat} {lv : List (Nat × Value)} {st : List Value} {cc : ByteArray} {S : z_S} {own : String} {i : Int32} {x : Int32} (hC : z_C X cc nL own Ω) (hi : vi i 8 = true) (d : decode cc pc = .ok (.iastore, 1)) (hq : pc + 1 = q) (kk : z_At X A Q Ω k n nL q lv st (wN Ω (sI S 11 (upd (gI S 11) i.toNatClampNeg x)))) : z_At X A Q Ω k n nL pc lv (.int x :: .int i :: .ref (Ω.2.2 19) :: st) (wN Ω S) := z_iast hC 19 rfl hi rfl d hq kk
theorem al_wN_20 {X : z_X} {A : Nat → Prop} {Q : State → Prop} {Ω : z_O} {k n nL pc q : Nat} {lv : List (Nat × Value)} {st : List Value} {cc : ByteArray} {S : z_S} {own : String} {i : Int32} (hC : z_C X cc nL own Ω) (hi : vi i 8 = true) (d : decode cc pc = .ok (.iaload, 1)) (hq : pc + 1 = q) (kk : z_At X A Q Ω k n nL q lv (.int (gI S 12 i.toNatClampNeg) :: st) (wN Ω S)) : z_At X A Q Ω k n nL pc lv (.int i :: .ref (Ω.2.2 20) :: st) (wN Ω S) := z_iald hC 20 rfl hi d hq kk
theorem as_wN_20 {X : z_X} {A : Nat → Prop} {Q : State → Prop} {Ω : z_O} {k n nL pc q : Nat} {lv : List (Nat × Value)} {st : List Value} {cc : ByteArray} {S : z_S} {own : String} {i : Int32} {x : Int32} (hC : z_C X cc nL own Ω) (hi : vi i 8 = true) (d : decode cc pc = .ok (.iastore, 1)) (hq : pc + 1 = q) (kk : z_At X A Q Ω k n nL q lv st (wN Ω (sI S 12 (upd (gI S 12) i.toNatClampNeg x)))) : z_At X A Q Ω k n nL pc lv (.int x :: .int i :: .ref (Ω.2.2 20) :: st) (wN Ω S) := z_iast hC 20 rfl hi rfl d hq kk
theorem ao_wN_21 {X : z_X} {A : Nat → Prop} {Q : State → Prop} {Ω : z_O} {k n nL pc q : Nat} {lv : List (Nat × Value)} {st : List Value} {cc : ByteArray} {S : z_S} {own : String} {i : Int32} (hC : z_C X cc nL own Ω) (hi : vi i 8 = true) (d : decode cc pc = .ok (.aaload, 1)) (hq : pc + 1 = q) (kk : z_At X A Q Ω k n nL q lv (.ref (Ω.2.2 (38 + i.toNatClampNeg)) :: st) (wN Ω S)) : z_At X A Q Ω k n nL pc lv (.int i :: .ref (Ω.2.2 21) :: st) (wN Ω S) := z_aald hC 21 rfl hi (if_pos (vi_lt hi)) d hq kk
theorem al_wN_22 {X : z_X} {A : Nat → Prop} {Q : State → Prop} {Ω : z_O} {k n nL pc q : Nat} {lv : List (Nat × Value)} {st : List Value} {cc : ByteArray} {S : z_S} {own : String} {i : Int32} (hC : z_C X cc nL own Ω) (hi : vi i 8 = true) (d : decode cc pc = .ok (.iaload, 1)) (hq : pc + 1 = q) (kk : z_At X A Q Ω k n nL q lv (.int (gI S 13 i.toNatClampNeg) :: st) (wN Ω S)) : z_At X A Q Ω k n nL pc lv (.int i :: .ref (Ω.2.2 22) :: st) (wN Ω S) := z_iald hC 22 rfl hi d hq kk
theorem as_wN_22 {X : z_X} {A : Nat → Prop} {Q : State → Prop} {Ω : z_O} {k n nL pc q : Nat} {lv : List (Nat × Value)} {st : List Value} {cc : ByteArray} {S : z_S} {own : String} {i : Int32} {x : Int32} (hC : z_C X cc nL own Ω) (hi : vi i 8 = true) (d : decode cc pc = .ok (.iastore, 1)) (hq : pc + 1 = q) (kk : z_At X A Q Ω k n nL q lv st (wN Ω (sI S 13 (upd (gI S 13) i.toNatClampNeg x)))) : z_At X A Q Ω k n nL pc lv (.int x :: .int i :: .ref (Ω.2.2 22) :: st) (wN Ω S) := z_iast hC 22 rfl hi rfl d hq kk
theorem al_wN_23 {X : z_X} {A : Nat → Prop} {Q : State → Prop} {Ω : z_O} {k n nL pc q : Nat} {lv : List (Nat × Value)} {st : List Value} {cc : ByteArray} {S : z_S} {own : String} {i : Int32} (hC : z_C X cc nL own Ω) (hi : vi i 8 = true) (d : decode cc pc = .ok (.iaload, 1)) (hq : pc + 1 = q) (kk : z_At X A Q Ω k n nL q lv (.int (gI S 14 i.toNatClampNeg) :: st) (wN Ω S)) : z_At X A Q Ω k n nL pc lv (.int i :: .ref (Ω.2.2 23) :: st) (wN Ω S) := z_iald hC 23 rfl hi d hq kk
theorem as_wN_23 {X : z_X} {A : Nat → Prop} {Q : State → Prop} {Ω : z_O} {k n nL pc q : Nat} {lv : List (Nat × Value)} {st : List Value} {cc : ByteArray} {S : z_S} {own : String} {i : Int32} {x : Int32} (hC : z_C X cc nL own Ω) (hi : vi i 8 = true) (d : decode cc pc = .ok (.iastore, 1)) (hq : pc + 1 = q) (kk : z_At X A Q Ω k n nL q lv st (wN Ω (sI S 14 (upd (gI S 14) i.toNatClampNeg x)))) : z_At X A Q Ω k n nL pc lv (.int x :: .int i :: .ref (Ω.2.2 23) :: st) (wN Ω S) := z_iast hC 23 rfl hi rfl d hq kk
theorem al_wN_24 {X : z_X} {A : Nat → Prop} {Q : State → Prop} {Ω : z_O} {k n nL pc q : Nat} {lv : List (Nat × Value)} {st : List Value} {cc : ByteArray} {S : z_S} {own : String} {i : Int32} (hC : z_C X cc nL own Ω) (hi : vi i 16 = true) (d : decode cc pc = .ok (.iaload, 1)) (hq : pc + 1 = q) (kk : z_At X A Q Ω k n nL q lv (.int (gI S 15 i.toNatClampNeg) :: st) (wN Ω S)) : z_At X A Q Ω k n nL pc lv (.int i :: .ref (Ω.2.2 24) :: st) (wN Ω S) := z_iald hC 24 rfl hi d hq kk
theorem as_wN_24 {X : z_X} {A : Nat → Prop} {Q : State → Prop} {Ω : z_O} {k n nL pc q : Nat} {lv : List (Nat × Value)} {st : List Value} {cc : ByteArray} {S : z_S} {own : String} {i : Int32} {x : Int32} (hC : z_C X cc nL own Ω) (hi : vi i 16 = true) (d : decode cc pc = .ok (.iastore, 1)) (hq : pc + 1 = q) (kk : z_At X A Q Ω k n nL q lv st (wN Ω (sI S 15 (upd (gI S 15) i.toNatClampNeg x)))) : z_At X A Q Ω k n nL pc lv (.int x :: .int i :: .ref (Ω.2.2 24) :: st) (wN Ω S) := z_iast hC 24 rfl hi rfl d hq kk
theorem al_wN_25 {X : z_X} {A : Nat → Prop} {Q : State → Prop} {Ω : z_O} {k n nL pc q : Nat} {lv : List (Nat × Value)} {st : List Value} {cc : ByteArray} {S : z_S} {own : String} {i : Int32} (hC : z_C X cc nL own Ω) (hi : vi i 16 = true) (d : decode cc pc = .ok (.iaload, 1)) (hq : pc + 1 = q) (kk : z_At X A Q Ω k n nL q lv (.int (gI S 16 i.toNatClampNeg) :: st) (wN Ω S)) : z_At X A Q Ω k n nL pc lv (.int i :: .ref (Ω.2.2 25) :: st) (wN Ω S) := z_iald hC 25 rfl hi d hq kk
theorem as_wN_25 {X : z_X} {A : Nat → Prop} {Q : State → Prop} {Ω : z_O} {k n nL pc q : Nat} {lv : List (Nat × Value)} {st : List Value} {cc : ByteArray} {S : z_S} {own : String} {i : Int32} {x : Int32} (hC : z_C X cc nL own Ω) (hi : vi i 16 = true) (d : decode cc pc = .ok (.iastore, 1)) (hq : pc + 1 = q) (kk : z_At X A Q Ω k n nL q lv st (wN Ω (sI S 16 (upd (gI S 16) i.toNatClampNeg x)))) : z_At X A Q Ω k n nL pc lv (.int x :: .int i :: .ref (Ω.2.2 25) :: st) (wN Ω S) := z_iast hC 25 rfl hi rfl d hq kk
theorem al_wN_26 {X : z_X} {A : Nat → Prop} {Q : State → Prop} {Ω : z_O} {k n nL pc q : Nat} {lv : List (Nat × Value)} {st : List Value} {cc : ByteArray} {S : z_S} {own : String} {i : Int32} (hC : z_C X cc nL own Ω) (hi : vi i 16 = true) (d : decode cc pc = .ok (.iaload, 1)) (hq : pc + 1 = q) (kk : z_At X A Q Ω k n nL q lv (.int (gI S 17 i.toNatClampNeg) :: st) (wN Ω S)) : z_At X A Q Ω k n nL pc lv (.int i :: .ref (Ω.2.2 26) :: st) (wN Ω S) := z_iald hC 26 rfl hi d hq kk
theorem as_wN_26 {X : z_X} {A : Nat → Prop} {Q : State → Prop} {Ω : z_O} {k n nL pc q : Nat} {lv : List (Nat × Value)} {st : List Value} {cc : ByteArray} {S : z_S} {own : String} {i : Int32} {x : Int32} (hC : z_C X cc nL own Ω) (hi : vi i 16 = true) (d : decode cc pc = .ok (.iastore, 1)) (hq : pc + 1 = q) (kk : z_At X A Q Ω k n nL q lv st (wN Ω (sI S 17 (upd (gI S 17) i.toNatClampNeg x)))) : z_At X A Q Ω k n nL pc lv (.int x :: .int i :: .ref (Ω.2.2 26) :: st) (wN Ω S) := z_iast hC 26 rfl hi rfl d hq kk
theorem al_wN_27 {X : z_X} {A : Nat → Prop} {Q : State → Prop} {Ω : z_O} {k n nL pc q : Nat} {lv : List (Nat × Value)} {st : List Value} {cc : ByteArray} {S : z_S} {own : String} {i : Int32} (hC : z_C X cc nL own Ω) (hi : vi i 8 = true) (d : decode cc pc = .ok (.baload, 1)) (hq : pc + 1 = q) (kk : z_At X A Q Ω k n nL q lv (.int (gI S 18 i.toNatClampNeg) :: st) (wN Ω S)) : z_At X A Q Ω k n nL pc lv (.int i :: .ref (Ω.2.2 27) :: st) (wN Ω S) := z_zald hC 27 rfl hi d hq kk
theorem as_wN_27 {X : z_X} {A : Nat → Prop} {Q : State → Prop} {Ω : z_O} {k n nL pc q : Nat} {lv : List (Nat × Value)} {st : List Value} {cc : ByteArray} {S : z_S} {own : String} {i : Int32} {x : Int32} (hC : z_C X cc nL own Ω) (hi : vi i 8 = true) (d : decode cc pc = .ok (.bastore, 1)) (hq : pc + 1 = q) (kk : z_At X A Q Ω k n nL q lv st (wN Ω (sI S 18 (upd (gI S 18) i.toNatClampNeg (vp_nar .boolean x))))) : z_At X A Q Ω k n nL pc lv (.int x :: .int i :: .ref (Ω.2.2 27) :: st) (wN Ω S) := z_zast hC 27 rfl hi rfl d hq kk
theorem al_wN_28 {X : z_X} {A : Nat → Prop} {Q : State → Prop} {Ω : z_O} {k n nL pc q : Nat} {lv : List (Nat × Value)} {st : List Value} {cc : ByteArray} {S : z_S} {own : String} {i : Int32} (hC : z_C X cc nL own Ω) (hi : vi i 8 = true) (d : decode cc pc = .ok (.iaload, 1)) (hq : pc + 1 = q) (kk : z_At X A Q Ω k n nL q lv (.int (gI S 19 i.toNatClampNeg) :: st) (wN Ω S)) : z_At X A Q Ω k n nL pc lv (.int i :: .ref (Ω.2.2 28) :: st) (wN Ω S) := z_iald hC 28 rfl hi d hq kk
theorem as_wN_28 {X : z_X} {A : Nat → Prop} {Q : State → Prop} {Ω : z_O} {k n nL pc q : Nat} {lv : List (Nat × Value)} {st : List Value} {cc : ByteArray} {S : z_S} {own : String} {i : Int32} {x : Int32} (hC : z_C X cc nL own Ω) (hi : vi i 8 = true) (d : decode cc pc = .ok (.iastore, 1)) (hq : pc + 1 = q) (kk : z_At X A Q Ω k n nL q lv st (wN Ω (sI S 19 (upd (gI S 19) i.toNatClampNeg x)))) : z_At X A Q Ω k n nL pc lv (.int x :: .int i :: .ref (Ω.2.2 28) :: st) (wN Ω S) := z_iast hC 28 rfl hi rfl d hq kk
theorem al_wN_29 {X : z_X} {A : Nat → Prop} {Q : State → Prop} {Ω : z_O} {k n nL pc q : Nat} {lv : List (Nat × Value)} {st : List Value} {cc : ByteArray} {S : z_S} {own : String} {i : Int32} (hC : z_C X cc nL own Ω) (hi : vi i 6 = true) (d : decode cc pc = .ok (.iaload, 1)) (hq : pc + 1 = q) (kk : z_At X A Q Ω k n nL q lv (.int (gI S 20 i.toNatClampNeg) :: st) (wN Ω S)) : z_At X A Q Ω k n nL pc lv (.int i :: .ref (Ω.2.2 29) :: st) (wN Ω S) := z_iald hC 29 rfl hi d hq kk
theorem as_wN_29 {X : z_X} {A : Nat → Prop} {Q : State → Prop} {Ω : z_O} {k n nL pc q : Nat} {lv : List (Nat × Value)} {st : List Value} {cc : ByteArray} {S : z_S} {own : String} {i : Int32} {x : Int32} (hC : z_C X cc nL own Ω) (hi : vi i 6 = true) (d : decode cc pc = .ok (.iastore, 1)) (hq : pc + 1 = q) (kk : z_At X A Q Ω k n nL q lv st (wN Ω (sI S 20 (upd (gI S 20) i.toNatClampNeg x)))) : z_At X A Q Ω k n nL pc lv (.int x :: .int i :: .ref (Ω.2.2 29) :: st) (wN Ω S) := z_iast hC 29 rfl hi rfl d hq kk
theorem rw_30 {Ω : z_O} {S : z_S} : ∀ i, i < 4 → (wN Ω S)[30 + i]? = some (Ω.2.2 (30 + i), .inl (Ω.2.1.2.1, 4, .inr (.inl (gJ S (0 + i)))))
  | 0, _ => rfl
  | 1, _ => rfl
  | 2, _ => rfl
  | 3, _ => rfl
  | i + 4, h => absurd h (by omega)
theorem rs_30 {Ω : z_O} {S : z_S} {f : Nat → Int64} : ∀ i, i < 4 → (wN Ω S).set (30 + i) (Ω.2.2 (30 + i), .inl (Ω.2.1.2.1, 4, .inr (.inl f))) = wN Ω (sJ S (0 + i) f)
  | 0, _ => rfl
  | 1, _ => rfl
  | 2, _ => rfl
  | 3, _ => rfl
  | i + 4, h => absurd h (by omega)
theorem lr_30 {X : z_X} {A : Nat → Prop} {Q : State → Prop} {Ω : z_O} {k n nL pc q : Nat} {lv : List (Nat × Value)} {st : List Value} {cc : ByteArray} {S : z_S} {own : String} {i j : Int32} (hC : z_C X cc nL own Ω) (hi : vi i 4 = true) (hj : vi j 4 = true) (d : decode cc pc = .ok (.laload, 1)) (hq : pc + 1 = q) (kk : z_At X A Q Ω k n nL q lv (.long (gJ S (0 + i.toNatClampNeg) j.toNatClampNeg) :: st) (wN Ω S)) : z_At X A Q Ω k n nL pc lv (.int j :: .ref (Ω.2.2 (30 + i.toNatClampNeg)) :: st) (wN Ω S) := z_lald hC _ (rw_30 _ (vi_lt hi)) hj d hq kk
theorem sr_30 {X : z_X} {A : Nat → Prop} {Q : State → Prop} {Ω : z_O} {k n nL pc q : Nat} {lv : List (Nat × Value)} {st : List Value} {cc : ByteArray} {S : z_S} {own : String} {i j : Int32} {x : Int64} (hC : z_C X cc nL own Ω) (hi : vi i 4 = true) (hj : vi j 4 = true) (d : decode cc pc = .ok (.lastore, 1)) (hq : pc + 1 = q) (kk : z_At X A Q Ω k n nL q lv st (wN Ω (sJ S (0 + i.toNatClampNeg) (vp_updL (gJ S (0 + i.toNatClampNeg)) j.toNatClampNeg x)))) : z_At X A Q Ω k n nL pc lv (.long x :: .int j :: .ref (Ω.2.2 (30 + i.toNatClampNeg)) :: st) (wN Ω S) := z_last hC _ (rw_30 _ (vi_lt hi)) hj (rs_30 _ (vi_lt hi)) d hq kk
theorem rw_34 {Ω : z_O} {S : z_S} : ∀ i, i < 4 → (wN Ω S)[34 + i]? = some (Ω.2.2 (34 + i), .inl (Ω.2.1.2.1, 4, .inr (.inl (gJ S (4 + i)))))
  | 0, _ => rfl
  | 1, _ => rfl
  | 2, _ => rfl
  | 3, _ => rfl
  | i + 4, h => absurd h (by omega)
theorem rs_34 {Ω : z_O} {S : z_S} {f : Nat → Int64} : ∀ i, i < 4 → (wN Ω S).set (34 + i) (Ω.2.2 (34 + i), .inl (Ω.2.1.2.1, 4, .inr (.inl f))) = wN Ω (sJ S (4 + i) f)
  | 0, _ => rfl
  | 1, _ => rfl
  | 2, _ => rfl
  | 3, _ => rfl
  | i + 4, h => absurd h (by omega)
theorem lr_34 {X : z_X} {A : Nat → Prop} {Q : State → Prop} {Ω : z_O} {k n nL pc q : Nat} {lv : List (Nat × Value)} {st : List Value} {cc : ByteArray} {S : z_S} {own : String} {i j : Int32} (hC : z_C X cc nL own Ω) (hi : vi i 4 = true) (hj : vi j 4 = true) (d : decode cc pc = .ok (.laload, 1)) (hq : pc + 1 = q) (kk : z_At X A Q Ω k n nL q lv (.long (gJ S (4 + i.toNatClampNeg) j.toNatClampNeg) :: st) (wN Ω S)) : z_At X A Q Ω k n nL pc lv (.int j :: .ref (Ω.2.2 (34 + i.toNatClampNeg)) :: st) (wN Ω S) := z_lald hC _ (rw_34 _ (vi_lt hi)) hj d hq kk
theorem sr_34 {X : z_X} {A : Nat → Prop} {Q : State → Prop} {Ω : z_O} {k n nL pc q : Nat} {lv : List (Nat × Value)} {st : List Value} {cc : ByteArray} {S : z_S} {own : String} {i j : Int32} {x : Int64} (hC : z_C X cc nL own Ω) (hi : vi i 4 = true) (hj : vi j 4 = true) (d : decode cc pc = .ok (.lastore, 1)) (hq : pc + 1 = q) (kk : z_At X A Q Ω k n nL q lv st (wN Ω (sJ S (4 + i.toNatClampNeg) (vp_updL (gJ S (4 + i.toNatClampNeg)) j.toNatClampNeg x)))) : z_At X A Q Ω k n nL pc lv (.long x :: .int j :: .ref (Ω.2.2 (34 + i.toNatClampNeg)) :: st) (wN Ω S) := z_last hC _ (rw_34 _ (vi_lt hi)) hj (rs_34 _ (vi_lt hi)) d hq kk
theorem rw_38 {Ω : z_O} {S : z_S} : ∀ i, i < 8 → (wN Ω S)[38 + i]? = some (Ω.2.2 (38 + i), .inl (Ω.2.1.2.1, 8, .inr (.inl (gJ S (8 + i)))))
  | 0, _ => rfl
  | 1, _ => rfl
  | 2, _ => rfl
  | 3, _ => rfl
  | 4, _ => rfl
  | 5, _ => rfl
  | 6, _ => rfl
  | 7, _ => rfl
  | i + 8, h => absurd h (by omega)
theorem rs_38 {Ω : z_O} {S : z_S} {f : Nat → Int64} : ∀ i, i < 8 → (wN Ω S).set (38 + i) (Ω.2.2 (38 + i), .inl (Ω.2.1.2.1, 8, .inr (.inl f))) = wN Ω (sJ S (8 + i) f)
  | 0, _ => rfl
  | 1, _ => rfl
  | 2, _ => rfl
  | 3, _ => rfl
  | 4, _ => rfl
  | 5, _ => rfl
  | 6, _ => rfl
  | 7, _ => rfl
  | i + 8, h => absurd h (by omega)
theorem lr_38 {X : z_X} {A : Nat → Prop} {Q : State → Prop} {Ω : z_O} {k n nL pc q : Nat} {lv : List (Nat × Value)} {st : List Value} {cc : ByteArray} {S : z_S} {own : String} {i j : Int32} (hC : z_C X cc nL own Ω) (hi : vi i 8 = true) (hj : vi j 8 = true) (d : decode cc pc = .ok (.laload, 1)) (hq : pc + 1 = q) (kk : z_At X A Q Ω k n nL q lv (.long (gJ S (8 + i.toNatClampNeg) j.toNatClampNeg) :: st) (wN Ω S)) : z_At X A Q Ω k n nL pc lv (.int j :: .ref (Ω.2.2 (38 + i.toNatClampNeg)) :: st) (wN Ω S) := z_lald hC _ (rw_38 _ (vi_lt hi)) hj d hq kk
theorem sr_38 {X : z_X} {A : Nat → Prop} {Q : State → Prop} {Ω : z_O} {k n nL pc q : Nat} {lv : List (Nat × Value)} {st : List Value} {cc : ByteArray} {S : z_S} {own : String} {i j : Int32} {x : Int64} (hC : z_C X cc nL own Ω) (hi : vi i 8 = true) (hj : vi j 8 = true) (d : decode cc pc = .ok (.lastore, 1)) (hq : pc + 1 = q) (kk : z_At X A Q Ω k n nL q lv st (wN Ω (sJ S (8 + i.toNatClampNeg) (vp_updL (gJ S (8 + i.toNatClampNeg)) j.toNatClampNeg x)))) : z_At X A Q Ω k n nL pc lv (.long x :: .int j :: .ref (Ω.2.2 (38 + i.toNatClampNeg)) :: st) (wN Ω S) := z_last hC _ (rw_38 _ (vi_lt hi)) hj (rs_38 _ (vi_lt hi)) d hq kk
theorem al_wM_1 {X : z_X} {A : Nat → Prop} {Q : State → Prop} {Ω : z_O} {k n nL pc q : Nat} {lv : List (Nat × Value)} {st : List Value} {cc : ByteArray} {S : z_S} {own : String} {i : Int32} (hC : z_C X cc nL own Ω) (hi : vi i 6 = true) (d : decode cc pc = .ok (.iaload, 1)) (hq : pc + 1 = q) (kk : z_At X A Q Ω k n nL q lv (.int (gI S 0 i.toNatClampNeg) :: st) (wM Ω S)) : z_At X A Q Ω k n nL pc lv (.int i :: .ref (Ω.2.2 101) :: st) (wM Ω S) := z_iald hC 1 rfl hi d hq kk
theorem as_wM_1 {X : z_X} {A : Nat → Prop} {Q : State → Prop} {Ω : z_O} {k n nL pc q : Nat} {lv : List (Nat × Value)} {st : List Value} {cc : ByteArray} {S : z_S} {own : String} {i : Int32} {x : Int32} (hC : z_C X cc nL own Ω) (hi : vi i 6 = true) (d : decode cc pc = .ok (.iastore, 1)) (hq : pc + 1 = q) (kk : z_At X A Q Ω k n nL q lv st (wM Ω (sI S 0 (upd (gI S 0) i.toNatClampNeg x)))) : z_At X A Q Ω k n nL pc lv (.int x :: .int i :: .ref (Ω.2.2 101) :: st) (wM Ω S) := z_iast hC 1 rfl hi rfl d hq kk
theorem al_wM_2 {X : z_X} {A : Nat → Prop} {Q : State → Prop} {Ω : z_O} {k n nL pc q : Nat} {lv : List (Nat × Value)} {st : List Value} {cc : ByteArray} {S : z_S} {own : String} {i : Int32} (hC : z_C X cc nL own Ω) (hi : vi i 6 = true) (d : decode cc pc = .ok (.iaload, 1)) (hq : pc + 1 = q) (kk : z_At X A Q Ω k n nL q lv (.int (gI S 1 i.toNatClampNeg) :: st) (wM Ω S)) : z_At X A Q Ω k n nL pc lv (.int i :: .ref (Ω.2.2 102) :: st) (wM Ω S) := z_iald hC 2 rfl hi d hq kk
theorem as_wM_2 {X : z_X} {A : Nat → Prop} {Q : State → Prop} {Ω : z_O} {k n nL pc q : Nat} {lv : List (Nat × Value)} {st : List Value} {cc : ByteArray} {S : z_S} {own : String} {i : Int32} {x : Int32} (hC : z_C X cc nL own Ω) (hi : vi i 6 = true) (d : decode cc pc = .ok (.iastore, 1)) (hq : pc + 1 = q) (kk : z_At X A Q Ω k n nL q lv st (wM Ω (sI S 1 (upd (gI S 1) i.toNatClampNeg x)))) : z_At X A Q Ω k n nL pc lv (.int x :: .int i :: .ref (Ω.2.2 102) :: st) (wM Ω S) := z_iast hC 2 rfl hi rfl d hq kk
theorem al_wM_3 {X : z_X} {A : Nat → Prop} {Q : State → Prop} {Ω : z_O} {k n nL pc q : Nat} {lv : List (Nat × Value)} {st : List Value} {cc : ByteArray} {S : z_S} {own : String} {i : Int32} (hC : z_C X cc nL own Ω) (hi : vi i 6 = true) (d : decode cc pc = .ok (.iaload, 1)) (hq : pc + 1 = q) (kk : z_At X A Q Ω k n nL q lv (.int (gI S 2 i.toNatClampNeg) :: st) (wM Ω S)) : z_At X A Q Ω k n nL pc lv (.int i :: .ref (Ω.2.2 103) :: st) (wM Ω S) := z_iald hC 3 rfl hi d hq kk
theorem as_wM_3 {X : z_X} {A : Nat → Prop} {Q : State → Prop} {Ω : z_O} {k n nL pc q : Nat} {lv : List (Nat × Value)} {st : List Value} {cc : ByteArray} {S : z_S} {own : String} {i : Int32} {x : Int32} (hC : z_C X cc nL own Ω) (hi : vi i 6 = true) (d : decode cc pc = .ok (.iastore, 1)) (hq : pc + 1 = q) (kk : z_At X A Q Ω k n nL q lv st (wM Ω (sI S 2 (upd (gI S 2) i.toNatClampNeg x)))) : z_At X A Q Ω k n nL pc lv (.int x :: .int i :: .ref (Ω.2.2 103) :: st) (wM Ω S) := z_iast hC 3 rfl hi rfl d hq kk
theorem al_wM_4 {X : z_X} {A : Nat → Prop} {Q : State → Prop} {Ω : z_O} {k n nL pc q : Nat} {lv : List (Nat × Value)} {st : List Value} {cc : ByteArray} {S : z_S} {own : String} {i : Int32} (hC : z_C X cc nL own Ω) (hi : vi i 6 = true) (d : decode cc pc = .ok (.iaload, 1)) (hq : pc + 1 = q) (kk : z_At X A Q Ω k n nL q lv (.int (gI S 3 i.toNatClampNeg) :: st) (wM Ω S)) : z_At X A Q Ω k n nL pc lv (.int i :: .ref (Ω.2.2 104) :: st) (wM Ω S) := z_iald hC 4 rfl hi d hq kk
theorem as_wM_4 {X : z_X} {A : Nat → Prop} {Q : State → Prop} {Ω : z_O} {k n nL pc q : Nat} {lv : List (Nat × Value)} {st : List Value} {cc : ByteArray} {S : z_S} {own : String} {i : Int32} {x : Int32} (hC : z_C X cc nL own Ω) (hi : vi i 6 = true) (d : decode cc pc = .ok (.iastore, 1)) (hq : pc + 1 = q) (kk : z_At X A Q Ω k n nL q lv st (wM Ω (sI S 3 (upd (gI S 3) i.toNatClampNeg x)))) : z_At X A Q Ω k n nL pc lv (.int x :: .int i :: .ref (Ω.2.2 104) :: st) (wM Ω S) := z_iast hC 4 rfl hi rfl d hq kk
theorem al_wM_5 {X : z_X} {A : Nat → Prop} {Q : State → Prop} {Ω : z_O} {k n nL pc q : Nat} {lv : List (Nat × Value)} {st : List Value} {cc : ByteArray} {S : z_S} {own : String} {i : Int32} (hC : z_C X cc nL own Ω) (hi : vi i 8 = true) (d : decode cc pc = .ok (.baload, 1)) (hq : pc + 1 = q) (kk : z_At X A Q Ω k n nL q lv (.int (gI S 4 i.toNatClampNeg) :: st) (wM Ω S)) : z_At X A Q Ω k n nL pc lv (.int i :: .ref (Ω.2.2 105) :: st) (wM Ω S) := z_zald hC 5 rfl hi d hq kk
theorem as_wM_5 {X : z_X} {A : Nat → Prop} {Q : State → Prop} {Ω : z_O} {k n nL pc q : Nat} {lv : List (Nat × Value)} {st : List Value} {cc : ByteArray} {S : z_S} {own : String} {i : Int32} {x : Int32} (hC : z_C X cc nL own Ω) (hi : vi i 8 = true) (d : decode cc pc = .ok (.bastore, 1)) (hq : pc + 1 = q) (kk : z_At X A Q Ω k n nL q lv st (wM Ω (sI S 4 (upd (gI S 4) i.toNatClampNeg (vp_nar .boolean x))))) : z_At X A Q Ω k n nL pc lv (.int x :: .int i :: .ref (Ω.2.2 105) :: st) (wM Ω S) := z_zast hC 5 rfl hi rfl d hq kk
theorem al_wM_6 {X : z_X} {A : Nat → Prop} {Q : State → Prop} {Ω : z_O} {k n nL pc q : Nat} {lv : List (Nat × Value)} {st : List Value} {cc : ByteArray} {S : z_S} {own : String} {i : Int32} (hC : z_C X cc nL own Ω) (hi : vi i 8 = true) (d : decode cc pc = .ok (.iaload, 1)) (hq : pc + 1 = q) (kk : z_At X A Q Ω k n nL q lv (.int (gI S 5 i.toNatClampNeg) :: st) (wM Ω S)) : z_At X A Q Ω k n nL pc lv (.int i :: .ref (Ω.2.2 106) :: st) (wM Ω S) := z_iald hC 6 rfl hi d hq kk
theorem as_wM_6 {X : z_X} {A : Nat → Prop} {Q : State → Prop} {Ω : z_O} {k n nL pc q : Nat} {lv : List (Nat × Value)} {st : List Value} {cc : ByteArray} {S : z_S} {own : String} {i : Int32} {x : Int32} (hC : z_C X cc nL own Ω) (hi : vi i 8 = true) (d : decode cc pc = .ok (.iastore, 1)) (hq : pc + 1 = q) (kk : z_At X A Q Ω k n nL q lv st (wM Ω (sI S 5 (upd (gI S 5) i.toNatClampNeg x)))) : z_At X A Q Ω k n nL pc lv (.int x :: .int i :: .ref (Ω.2.2 106) :: st) (wM Ω S) := z_iast hC 6 rfl hi rfl d hq kk
theorem al_wM_7 {X : z_X} {A : Nat → Prop} {Q : State → Prop} {Ω : z_O} {k n nL pc q : Nat} {lv : List (Nat × Value)} {st : List Value} {cc : ByteArray} {S : z_S} {own : String} {i : Int32} (hC : z_C X cc nL own Ω) (hi : vi i 8 = true) (d : decode cc pc = .ok (.iaload, 1)) (hq : pc + 1 = q) (kk : z_At X A Q Ω k n nL q lv (.int (gI S 6 i.toNatClampNeg) :: st) (wM Ω S)) : z_At X A Q Ω k n nL pc lv (.int i :: .ref (Ω.2.2 107) :: st) (wM Ω S) := z_iald hC 7 rfl hi d hq kk
theorem as_wM_7 {X : z_X} {A : Nat → Prop} {Q : State → Prop} {Ω : z_O} {k n nL pc q : Nat} {lv : List (Nat × Value)} {st : List Value} {cc : ByteArray} {S : z_S} {own : String} {i : Int32} {x : Int32} (hC : z_C X cc nL own Ω) (hi : vi i 8 = true) (d : decode cc pc = .ok (.iastore, 1)) (hq : pc + 1 = q) (kk : z_At X A Q Ω k n nL q lv st (wM Ω (sI S 6 (upd (gI S 6) i.toNatClampNeg x)))) : z_At X A Q Ω k n nL pc lv (.int x :: .int i :: .ref (Ω.2.2 107) :: st) (wM Ω S) := z_iast hC 7 rfl hi rfl d hq kk
theorem al_wM_8 {X : z_X} {A : Nat → Prop} {Q : State → Prop} {Ω : z_O} {k n nL pc q : Nat} {lv : List (Nat × Value)} {st : List Value} {cc : ByteArray} {S : z_S} {own : String} {i : Int32} (hC : z_C X cc nL own Ω) (hi : vi i 8 = true) (d : decode cc pc = .ok (.iaload, 1)) (hq : pc + 1 = q) (kk : z_At X A Q Ω k n nL q lv (.int (gI S 7 i.toNatClampNeg) :: st) (wM Ω S)) : z_At X A Q Ω k n nL pc lv (.int i :: .ref (Ω.2.2 108) :: st) (wM Ω S) := z_iald hC 8 rfl hi d hq kk
theorem as_wM_8 {X : z_X} {A : Nat → Prop} {Q : State → Prop} {Ω : z_O} {k n nL pc q : Nat} {lv : List (Nat × Value)} {st : List Value} {cc : ByteArray} {S : z_S} {own : String} {i : Int32} {x : Int32} (hC : z_C X cc nL own Ω) (hi : vi i 8 = true) (d : decode cc pc = .ok (.iastore, 1)) (hq : pc + 1 = q) (kk : z_At X A Q Ω k n nL q lv st (wM Ω (sI S 7 (upd (gI S 7) i.toNatClampNeg x)))) : z_At X A Q Ω k n nL pc lv (.int x :: .int i :: .ref (Ω.2.2 108) :: st) (wM Ω S) := z_iast hC 8 rfl hi rfl d hq kk
theorem al_wM_9 {X : z_X} {A : Nat → Prop} {Q : State → Prop} {Ω : z_O} {k n nL pc q : Nat} {lv : List (Nat × Value)} {st : List Value} {cc : ByteArray} {S : z_S} {own : String} {i : Int32} (hC : z_C X cc nL own Ω) (hi : vi i 8 = true) (d : decode cc pc = .ok (.iaload, 1)) (hq : pc + 1 = q) (kk : z_At X A Q Ω k n nL q lv (.int (gI S 8 i.toNatClampNeg) :: st) (wM Ω S)) : z_At X A Q Ω k n nL pc lv (.int i :: .ref (Ω.2.2 109) :: st) (wM Ω S) := z_iald hC 9 rfl hi d hq kk
theorem as_wM_9 {X : z_X} {A : Nat → Prop} {Q : State → Prop} {Ω : z_O} {k n nL pc q : Nat} {lv : List (Nat × Value)} {st : List Value} {cc : ByteArray} {S : z_S} {own : String} {i : Int32} {x : Int32} (hC : z_C X cc nL own Ω) (hi : vi i 8 = true) (d : decode cc pc = .ok (.iastore, 1)) (hq : pc + 1 = q) (kk : z_At X A Q Ω k n nL q lv st (wM Ω (sI S 8 (upd (gI S 8) i.toNatClampNeg x)))) : z_At X A Q Ω k n nL pc lv (.int x :: .int i :: .ref (Ω.2.2 109) :: st) (wM Ω S) := z_iast hC 9 rfl hi rfl d hq kk
theorem al_wM_10 {X : z_X} {A : Nat → Prop} {Q : State → Prop} {Ω : z_O} {k n nL pc q : Nat} {lv : List (Nat × Value)} {st : List Value} {cc : ByteArray} {S : z_S} {own : String} {i : Int32} (hC : z_C X cc nL own Ω) (hi : vi i 24 = true) (d : decode cc pc = .ok (.laload, 1)) (hq : pc + 1 = q) (kk : z_At X A Q Ω k n nL q lv (.long (gJ S 0 i.toNatClampNeg) :: st) (wM Ω S)) : z_At X A Q Ω k n nL pc lv (.int i :: .ref (Ω.2.2 110) :: st) (wM Ω S) := z_lald hC 10 rfl hi d hq kk
theorem as_wM_10 {X : z_X} {A : Nat → Prop} {Q : State → Prop} {Ω : z_O} {k n nL pc q : Nat} {lv : List (Nat × Value)} {st : List Value} {cc : ByteArray} {S : z_S} {own : String} {i : Int32} {x : Int64} (hC : z_C X cc nL own Ω) (hi : vi i 24 = true) (d : decode cc pc = .ok (.lastore, 1)) (hq : pc + 1 = q) (kk : z_At X A Q Ω k n nL q lv st (wM Ω (sJ S 0 (vp_updL (gJ S 0) i.toNatClampNeg x)))) : z_At X A Q Ω k n nL pc lv (.long x :: .int i :: .ref (Ω.2.2 110) :: st) (wM Ω S) := z_last hC 10 rfl hi rfl d hq kk
theorem al_wM_11 {X : z_X} {A : Nat → Prop} {Q : State → Prop} {Ω : z_O} {k n nL pc q : Nat} {lv : List (Nat × Value)} {st : List Value} {cc : ByteArray} {S : z_S} {own : String} {i : Int32} (hC : z_C X cc nL own Ω) (hi : vi i 24 = true) (d : decode cc pc = .ok (.laload, 1)) (hq : pc + 1 = q) (kk : z_At X A Q Ω k n nL q lv (.long (gJ S 1 i.toNatClampNeg) :: st) (wM Ω S)) : z_At X A Q Ω k n nL pc lv (.int i :: .ref (Ω.2.2 111) :: st) (wM Ω S) := z_lald hC 11 rfl hi d hq kk
theorem as_wM_11 {X : z_X} {A : Nat → Prop} {Q : State → Prop} {Ω : z_O} {k n nL pc q : Nat} {lv : List (Nat × Value)} {st : List Value} {cc : ByteArray} {S : z_S} {own : String} {i : Int32} {x : Int64} (hC : z_C X cc nL own Ω) (hi : vi i 24 = true) (d : decode cc pc = .ok (.lastore, 1)) (hq : pc + 1 = q) (kk : z_At X A Q Ω k n nL q lv st (wM Ω (sJ S 1 (vp_updL (gJ S 1) i.toNatClampNeg x)))) : z_At X A Q Ω k n nL pc lv (.long x :: .int i :: .ref (Ω.2.2 111) :: st) (wM Ω S) := z_last hC 11 rfl hi rfl d hq kk
theorem al_wM_12 {X : z_X} {A : Nat → Prop} {Q : State → Prop} {Ω : z_O} {k n nL pc q : Nat} {lv : List (Nat × Value)} {st : List Value} {cc : ByteArray} {S : z_S} {own : String} {i : Int32} (hC : z_C X cc nL own Ω) (hi : vi i 24 = true) (d : decode cc pc = .ok (.laload, 1)) (hq : pc + 1 = q) (kk : z_At X A Q Ω k n nL q lv (.long (gJ S 2 i.toNatClampNeg) :: st) (wM Ω S)) : z_At X A Q Ω k n nL pc lv (.int i :: .ref (Ω.2.2 112) :: st) (wM Ω S) := z_lald hC 12 rfl hi d hq kk
theorem as_wM_12 {X : z_X} {A : Nat → Prop} {Q : State → Prop} {Ω : z_O} {k n nL pc q : Nat} {lv : List (Nat × Value)} {st : List Value} {cc : ByteArray} {S : z_S} {own : String} {i : Int32} {x : Int64} (hC : z_C X cc nL own Ω) (hi : vi i 24 = true) (d : decode cc pc = .ok (.lastore, 1)) (hq : pc + 1 = q) (kk : z_At X A Q Ω k n nL q lv st (wM Ω (sJ S 2 (vp_updL (gJ S 2) i.toNatClampNeg x)))) : z_At X A Q Ω k n nL pc lv (.long x :: .int i :: .ref (Ω.2.2 112) :: st) (wM Ω S) := z_last hC 12 rfl hi rfl d hq kk
theorem al_wM_13 {X : z_X} {A : Nat → Prop} {Q : State → Prop} {Ω : z_O} {k n nL pc q : Nat} {lv : List (Nat × Value)} {st : List Value} {cc : ByteArray} {S : z_S} {own : String} {i : Int32} (hC : z_C X cc nL own Ω) (hi : vi i 24 = true) (d : decode cc pc = .ok (.laload, 1)) (hq : pc + 1 = q) (kk : z_At X A Q Ω k n nL q lv (.long (gJ S 3 i.toNatClampNeg) :: st) (wM Ω S)) : z_At X A Q Ω k n nL pc lv (.int i :: .ref (Ω.2.2 113) :: st) (wM Ω S) := z_lald hC 13 rfl hi d hq kk
theorem as_wM_13 {X : z_X} {A : Nat → Prop} {Q : State → Prop} {Ω : z_O} {k n nL pc q : Nat} {lv : List (Nat × Value)} {st : List Value} {cc : ByteArray} {S : z_S} {own : String} {i : Int32} {x : Int64} (hC : z_C X cc nL own Ω) (hi : vi i 24 = true) (d : decode cc pc = .ok (.lastore, 1)) (hq : pc + 1 = q) (kk : z_At X A Q Ω k n nL q lv st (wM Ω (sJ S 3 (vp_updL (gJ S 3) i.toNatClampNeg x)))) : z_At X A Q Ω k n nL pc lv (.long x :: .int i :: .ref (Ω.2.2 113) :: st) (wM Ω S) := z_last hC 13 rfl hi rfl d hq kk
theorem al_wM_14 {X : z_X} {A : Nat → Prop} {Q : State → Prop} {Ω : z_O} {k n nL pc q : Nat} {lv : List (Nat × Value)} {st : List Value} {cc : ByteArray} {S : z_S} {own : String} {i : Int32} (hC : z_C X cc nL own Ω) (hi : vi i 4 = true) (d : decode cc pc = .ok (.iaload, 1)) (hq : pc + 1 = q) (kk : z_At X A Q Ω k n nL q lv (.int (gI S 9 i.toNatClampNeg) :: st) (wM Ω S)) : z_At X A Q Ω k n nL pc lv (.int i :: .ref (Ω.2.2 114) :: st) (wM Ω S) := z_iald hC 14 rfl hi d hq kk
theorem as_wM_14 {X : z_X} {A : Nat → Prop} {Q : State → Prop} {Ω : z_O} {k n nL pc q : Nat} {lv : List (Nat × Value)} {st : List Value} {cc : ByteArray} {S : z_S} {own : String} {i : Int32} {x : Int32} (hC : z_C X cc nL own Ω) (hi : vi i 4 = true) (d : decode cc pc = .ok (.iastore, 1)) (hq : pc + 1 = q) (kk : z_At X A Q Ω k n nL q lv st (wM Ω (sI S 9 (upd (gI S 9) i.toNatClampNeg x)))) : z_At X A Q Ω k n nL pc lv (.int x :: .int i :: .ref (Ω.2.2 114) :: st) (wM Ω S) := z_iast hC 14 rfl hi rfl d hq kk
theorem al_wM_15 {X : z_X} {A : Nat → Prop} {Q : State → Prop} {Ω : z_O} {k n nL pc q : Nat} {lv : List (Nat × Value)} {st : List Value} {cc : ByteArray} {S : z_S} {own : String} {i : Int32} (hC : z_C X cc nL own Ω) (hi : vi i 4 = true) (d : decode cc pc = .ok (.laload, 1)) (hq : pc + 1 = q) (kk : z_At X A Q Ω k n nL q lv (.long (gJ S 4 i.toNatClampNeg) :: st) (wM Ω S)) : z_At X A Q Ω k n nL pc lv (.int i :: .ref (Ω.2.2 115) :: st) (wM Ω S) := z_lald hC 15 rfl hi d hq kk
theorem as_wM_15 {X : z_X} {A : Nat → Prop} {Q : State → Prop} {Ω : z_O} {k n nL pc q : Nat} {lv : List (Nat × Value)} {st : List Value} {cc : ByteArray} {S : z_S} {own : String} {i : Int32} {x : Int64} (hC : z_C X cc nL own Ω) (hi : vi i 4 = true) (d : decode cc pc = .ok (.lastore, 1)) (hq : pc + 1 = q) (kk : z_At X A Q Ω k n nL q lv st (wM Ω (sJ S 4 (vp_updL (gJ S 4) i.toNatClampNeg x)))) : z_At X A Q Ω k n nL pc lv (.long x :: .int i :: .ref (Ω.2.2 115) :: st) (wM Ω S) := z_last hC 15 rfl hi rfl d hq kk
theorem al_wM_16 {X : z_X} {A : Nat → Prop} {Q : State → Prop} {Ω : z_O} {k n nL pc q : Nat} {lv : List (Nat × Value)} {st : List Value} {cc : ByteArray} {S : z_S} {own : String} {i : Int32} (hC : z_C X cc nL own Ω) (hi : vi i 8 = true) (d : decode cc pc = .ok (.laload, 1)) (hq : pc + 1 = q) (kk : z_At X A Q Ω k n nL q lv (.long (gJ S 5 i.toNatClampNeg) :: st) (wM Ω S)) : z_At X A Q Ω k n nL pc lv (.int i :: .ref (Ω.2.2 116) :: st) (wM Ω S) := z_lald hC 16 rfl hi d hq kk
theorem as_wM_16 {X : z_X} {A : Nat → Prop} {Q : State → Prop} {Ω : z_O} {k n nL pc q : Nat} {lv : List (Nat × Value)} {st : List Value} {cc : ByteArray} {S : z_S} {own : String} {i : Int32} {x : Int64} (hC : z_C X cc nL own Ω) (hi : vi i 8 = true) (d : decode cc pc = .ok (.lastore, 1)) (hq : pc + 1 = q) (kk : z_At X A Q Ω k n nL q lv st (wM Ω (sJ S 5 (vp_updL (gJ S 5) i.toNatClampNeg x)))) : z_At X A Q Ω k n nL pc lv (.long x :: .int i :: .ref (Ω.2.2 116) :: st) (wM Ω S) := z_last hC 16 rfl hi rfl d hq kk
theorem al_wM_17 {X : z_X} {A : Nat → Prop} {Q : State → Prop} {Ω : z_O} {k n nL pc q : Nat} {lv : List (Nat × Value)} {st : List Value} {cc : ByteArray} {S : z_S} {own : String} {i : Int32} (hC : z_C X cc nL own Ω) (hi : vi i 4 = true) (d : decode cc pc = .ok (.laload, 1)) (hq : pc + 1 = q) (kk : z_At X A Q Ω k n nL q lv (.long (gJ S 6 i.toNatClampNeg) :: st) (wM Ω S)) : z_At X A Q Ω k n nL pc lv (.int i :: .ref (Ω.2.2 117) :: st) (wM Ω S) := z_lald hC 17 rfl hi d hq kk
theorem as_wM_17 {X : z_X} {A : Nat → Prop} {Q : State → Prop} {Ω : z_O} {k n nL pc q : Nat} {lv : List (Nat × Value)} {st : List Value} {cc : ByteArray} {S : z_S} {own : String} {i : Int32} {x : Int64} (hC : z_C X cc nL own Ω) (hi : vi i 4 = true) (d : decode cc pc = .ok (.lastore, 1)) (hq : pc + 1 = q) (kk : z_At X A Q Ω k n nL q lv st (wM Ω (sJ S 6 (vp_updL (gJ S 6) i.toNatClampNeg x)))) : z_At X A Q Ω k n nL pc lv (.long x :: .int i :: .ref (Ω.2.2 117) :: st) (wM Ω S) := z_last hC 17 rfl hi rfl d hq kk
theorem al_wM_18 {X : z_X} {A : Nat → Prop} {Q : State → Prop} {Ω : z_O} {k n nL pc q : Nat} {lv : List (Nat × Value)} {st : List Value} {cc : ByteArray} {S : z_S} {own : String} {i : Int32} (hC : z_C X cc nL own Ω) (hi : vi i 8 = true) (d : decode cc pc = .ok (.laload, 1)) (hq : pc + 1 = q) (kk : z_At X A Q Ω k n nL q lv (.long (gJ S 7 i.toNatClampNeg) :: st) (wM Ω S)) : z_At X A Q Ω k n nL pc lv (.int i :: .ref (Ω.2.2 118) :: st) (wM Ω S) := z_lald hC 18 rfl hi d hq kk
theorem as_wM_18 {X : z_X} {A : Nat → Prop} {Q : State → Prop} {Ω : z_O} {k n nL pc q : Nat} {lv : List (Nat × Value)} {st : List Value} {cc : ByteArray} {S : z_S} {own : String} {i : Int32} {x : Int64} (hC : z_C X cc nL own Ω) (hi : vi i 8 = true) (d : decode cc pc = .ok (.lastore, 1)) (hq : pc + 1 = q) (kk : z_At X A Q Ω k n nL q lv st (wM Ω (sJ S 7 (vp_updL (gJ S 7) i.toNatClampNeg x)))) : z_At X A Q Ω k n nL pc lv (.long x :: .int i :: .ref (Ω.2.2 118) :: st) (wM Ω S) := z_last hC 18 rfl hi rfl d hq kk
theorem al_wM_19 {X : z_X} {A : Nat → Prop} {Q : State → Prop} {Ω : z_O} {k n nL pc q : Nat} {lv : List (Nat × Value)} {st : List Value} {cc : ByteArray} {S : z_S} {own : String} {i : Int32} (hC : z_C X cc nL own Ω) (hi : vi i 8 = true) (d : decode cc pc = .ok (.laload, 1)) (hq : pc + 1 = q) (kk : z_At X A Q Ω k n nL q lv (.long (gJ S 8 i.toNatClampNeg) :: st) (wM Ω S)) : z_At X A Q Ω k n nL pc lv (.int i :: .ref (Ω.2.2 119) :: st) (wM Ω S) := z_lald hC 19 rfl hi d hq kk
theorem as_wM_19 {X : z_X} {A : Nat → Prop} {Q : State → Prop} {Ω : z_O} {k n nL pc q : Nat} {lv : List (Nat × Value)} {st : List Value} {cc : ByteArray} {S : z_S} {own : String} {i : Int32} {x : Int64} (hC : z_C X cc nL own Ω) (hi : vi i 8 = true) (d : decode cc pc = .ok (.lastore, 1)) (hq : pc + 1 = q) (kk : z_At X A Q Ω k n nL q lv st (wM Ω (sJ S 8 (vp_updL (gJ S 8) i.toNatClampNeg x)))) : z_At X A Q Ω k n nL pc lv (.long x :: .int i :: .ref (Ω.2.2 119) :: st) (wM Ω S) := z_last hC 19 rfl hi rfl d hq kk
theorem al_wM_20 {X : z_X} {A : Nat → Prop} {Q : State → Prop} {Ω : z_O} {k n nL pc q : Nat} {lv : List (Nat × Value)} {st : List Value} {cc : ByteArray} {S : z_S} {own : String} {i : Int32} (hC : z_C X cc nL own Ω) (hi : vi i 6 = true) (d : decode cc pc = .ok (.laload, 1)) (hq : pc + 1 = q) (kk : z_At X A Q Ω k n nL q lv (.long (gJ S 9 i.toNatClampNeg) :: st) (wM Ω S)) : z_At X A Q Ω k n nL pc lv (.int i :: .ref (Ω.2.2 120) :: st) (wM Ω S) := z_lald hC 20 rfl hi d hq kk
theorem as_wM_20 {X : z_X} {A : Nat → Prop} {Q : State → Prop} {Ω : z_O} {k n nL pc q : Nat} {lv : List (Nat × Value)} {st : List Value} {cc : ByteArray} {S : z_S} {own : String} {i : Int32} {x : Int64} (hC : z_C X cc nL own Ω) (hi : vi i 6 = true) (d : decode cc pc = .ok (.lastore, 1)) (hq : pc + 1 = q) (kk : z_At X A Q Ω k n nL q lv st (wM Ω (sJ S 9 (vp_updL (gJ S 9) i.toNatClampNeg x)))) : z_At X A Q Ω k n nL pc lv (.long x :: .int i :: .ref (Ω.2.2 120) :: st) (wM Ω S) := z_last hC 20 rfl hi rfl d hq kk
theorem al_wM_21 {X : z_X} {A : Nat → Prop} {Q : State → Prop} {Ω : z_O} {k n nL pc q : Nat} {lv : List (Nat × Value)} {st : List Value} {cc : ByteArray} {S : z_S} {own : String} {i : Int32} (hC : z_C X cc nL own Ω) (hi : vi i 4 = true) (d : decode cc pc = .ok (.baload, 1)) (hq : pc + 1 = q) (kk : z_At X A Q Ω k n nL q lv (.int (gI S 10 i.toNatClampNeg) :: st) (wM Ω S)) : z_At X A Q Ω k n nL pc lv (.int i :: .ref (Ω.2.2 121) :: st) (wM Ω S) := z_zald hC 21 rfl hi d hq kk
theorem as_wM_21 {X : z_X} {A : Nat → Prop} {Q : State → Prop} {Ω : z_O} {k n nL pc q : Nat} {lv : List (Nat × Value)} {st : List Value} {cc : ByteArray} {S : z_S} {own : String} {i : Int32} {x : Int32} (hC : z_C X cc nL own Ω) (hi : vi i 4 = true) (d : decode cc pc = .ok (.bastore, 1)) (hq : pc + 1 = q) (kk : z_At X A Q Ω k n nL q lv st (wM Ω (sI S 10 (upd (gI S 10) i.toNatClampNeg (vp_nar .boolean x))))) : z_At X A Q Ω k n nL pc lv (.int x :: .int i :: .ref (Ω.2.2 121) :: st) (wM Ω S) := z_zast hC 21 rfl hi rfl d hq kk
theorem al_wM_22 {X : z_X} {A : Nat → Prop} {Q : State → Prop} {Ω : z_O} {k n nL pc q : Nat} {lv : List (Nat × Value)} {st : List Value} {cc : ByteArray} {S : z_S} {own : String} {i : Int32} (hC : z_C X cc nL own Ω) (hi : vi i 4 = true) (d : decode cc pc = .ok (.laload, 1)) (hq : pc + 1 = q) (kk : z_At X A Q Ω k n nL q lv (.long (gJ S 10 i.toNatClampNeg) :: st) (wM Ω S)) : z_At X A Q Ω k n nL pc lv (.int i :: .ref (Ω.2.2 122) :: st) (wM Ω S) := z_lald hC 22 rfl hi d hq kk
theorem as_wM_22 {X : z_X} {A : Nat → Prop} {Q : State → Prop} {Ω : z_O} {k n nL pc q : Nat} {lv : List (Nat × Value)} {st : List Value} {cc : ByteArray} {S : z_S} {own : String} {i : Int32} {x : Int64} (hC : z_C X cc nL own Ω) (hi : vi i 4 = true) (d : decode cc pc = .ok (.lastore, 1)) (hq : pc + 1 = q) (kk : z_At X A Q Ω k n nL q lv st (wM Ω (sJ S 10 (vp_updL (gJ S 10) i.toNatClampNeg x)))) : z_At X A Q Ω k n nL pc lv (.long x :: .int i :: .ref (Ω.2.2 122) :: st) (wM Ω S) := z_last hC 22 rfl hi rfl d hq kk
theorem al_wM_23 {X : z_X} {A : Nat → Prop} {Q : State → Prop} {Ω : z_O} {k n nL pc q : Nat} {lv : List (Nat × Value)} {st : List Value} {cc : ByteArray} {S : z_S} {own : String} {i : Int32} (hC : z_C X cc nL own Ω) (hi : vi i 4 = true) (d : decode cc pc = .ok (.laload, 1)) (hq : pc + 1 = q) (kk : z_At X A Q Ω k n nL q lv (.long (gJ S 11 i.toNatClampNeg) :: st) (wM Ω S)) : z_At X A Q Ω k n nL pc lv (.int i :: .ref (Ω.2.2 123) :: st) (wM Ω S) := z_lald hC 23 rfl hi d hq kk
theorem as_wM_23 {X : z_X} {A : Nat → Prop} {Q : State → Prop} {Ω : z_O} {k n nL pc q : Nat} {lv : List (Nat × Value)} {st : List Value} {cc : ByteArray} {S : z_S} {own : String} {i : Int32} {x : Int64} (hC : z_C X cc nL own Ω) (hi : vi i 4 = true) (d : decode cc pc = .ok (.lastore, 1)) (hq : pc + 1 = q) (kk : z_At X A Q Ω k n nL q lv st (wM Ω (sJ S 11 (vp_updL (gJ S 11) i.toNatClampNeg x)))) : z_At X A Q Ω k n nL pc lv (.long x :: .int i :: .ref (Ω.2.2 123) :: st) (wM Ω S) := z_last hC 23 rfl hi rfl d hq kk
end
section
theorem d_B_init_0 : decode b_B_init 0 = .ok (.aload_n 0, 1) := by decide +kernel
theorem d_B_init_1 : decode b_B_init 1 = .ok (.invokespecial 3, 3) := by decide +kernel
theorem d_B_init_4 : decode b_B_init 4 = .ok (.aload_n 0, 1) := by decide +kernel
theorem d_B_init_5 : decode b_B_init 5 = .ok (.bipush 8, 2) := by decide +kernel
theorem d_B_init_7 : decode b_B_init 7 = .ok (.newarray .int, 2) := by decide +kernel
theorem d_B_init_9 : decode b_B_init 9 = .ok (.putfield 9, 3) := by decide +kernel
theorem d_B_init_12 : decode b_B_init 12 = .ok (.aload_n 0, 1) := by decide +kernel
theorem d_B_init_13 : decode b_B_init 13 = .ok (.bipush 8, 2) := by decide +kernel
theorem d_B_init_15 : decode b_B_init 15 = .ok (.newarray .int, 2) := by decide +kernel
theorem d_B_init_17 : decode b_B_init 17 = .ok (.putfield 15, 3) := by decide +kernel
theorem d_B_init_20 : decode b_B_init 20 = .ok (.aload_n 0, 1) := by decide +kernel
theorem d_B_init_21 : decode b_B_init 21 = .ok (.bipush 8, 2) := by decide +kernel
theorem d_B_init_23 : decode b_B_init 23 = .ok (.newarray .int, 2) := by decide +kernel
theorem d_B_init_25 : decode b_B_init 25 = .ok (.putfield 18, 3) := by decide +kernel
theorem d_B_init_28 : decode b_B_init 28 = .ok (.aload_n 0, 1) := by decide +kernel
theorem d_B_init_29 : decode b_B_init 29 = .ok (.bipush 8, 2) := by decide +kernel
theorem d_B_init_31 : decode b_B_init 31 = .ok (.newarray .int, 2) := by decide +kernel
theorem d_B_init_33 : decode b_B_init 33 = .ok (.putfield 21, 3) := by decide +kernel
theorem d_B_init_36 : decode b_B_init 36 = .ok (.aload_n 0, 1) := by decide +kernel
theorem d_B_init_37 : decode b_B_init 37 = .ok (.iconst 0, 1) := by decide +kernel
theorem d_B_init_38 : decode b_B_init 38 = .ok (.putfield 24, 3) := by decide +kernel
theorem d_B_init_41 : decode b_B_init 41 = .ok (.return_, 1) := by decide +kernel
theorem d_B_has_0 : decode b_B_has 0 = .ok (.iload_n 1, 1) := by decide +kernel
theorem d_B_has_1 : decode b_B_has 1 = .ok (.ifCond .lt 15, 3) := by decide +kernel
theorem d_B_has_4 : decode b_B_has 4 = .ok (.iload_n 1, 1) := by decide +kernel
theorem d_B_has_5 : decode b_B_has 5 = .ok (.aload_n 0, 1) := by decide +kernel
theorem d_B_has_6 : decode b_B_has 6 = .ok (.getfield 24, 3) := by decide +kernel
theorem d_B_has_9 : decode b_B_has 9 = .ok (.if_icmp .ge 7, 3) := by decide +kernel
theorem d_B_has_12 : decode b_B_has 12 = .ok (.iconst 1, 1) := by decide +kernel
theorem d_B_has_13 : decode b_B_has 13 = .ok (.goto 4, 3) := by decide +kernel
theorem d_B_has_16 : decode b_B_has 16 = .ok (.iconst 0, 1) := by decide +kernel
theorem d_B_has_17 : decode b_B_has 17 = .ok (.ireturn, 1) := by decide +kernel
theorem d_B_add_0 : decode b_B_add 0 = .ok (.aload_n 0, 1) := by decide +kernel
theorem d_B_add_1 : decode b_B_add 1 = .ok (.getfield 24, 3) := by decide +kernel
theorem d_B_add_4 : decode b_B_add 4 = .ok (.bipush 8, 2) := by decide +kernel
theorem d_B_add_6 : decode b_B_add 6 = .ok (.if_icmp .lt 6, 3) := by decide +kernel
theorem d_B_add_9 : decode b_B_add 9 = .ok (.ldc 28, 2) := by decide +kernel
theorem d_B_add_11 : decode b_B_add 11 = .ok (.ireturn, 1) := by decide +kernel
theorem d_B_add_12 : decode b_B_add 12 = .ok (.aload_n 0, 1) := by decide +kernel
theorem d_B_add_13 : decode b_B_add 13 = .ok (.getfield 9, 3) := by decide +kernel
theorem d_B_add_16 : decode b_B_add 16 = .ok (.aload_n 0, 1) := by decide +kernel
theorem d_B_add_17 : decode b_B_add 17 = .ok (.getfield 24, 3) := by decide +kernel
theorem d_B_add_20 : decode b_B_add 20 = .ok (.iload_n 1, 1) := by decide +kernel
theorem d_B_add_21 : decode b_B_add 21 = .ok (.iastore, 1) := by decide +kernel
theorem d_B_add_22 : decode b_B_add 22 = .ok (.aload_n 0, 1) := by decide +kernel
theorem d_B_add_23 : decode b_B_add 23 = .ok (.getfield 15, 3) := by decide +kernel
theorem d_B_add_26 : decode b_B_add 26 = .ok (.aload_n 0, 1) := by decide +kernel
theorem d_B_add_27 : decode b_B_add 27 = .ok (.getfield 24, 3) := by decide +kernel
theorem d_B_add_30 : decode b_B_add 30 = .ok (.iload_n 2, 1) := by decide +kernel
theorem d_B_add_31 : decode b_B_add 31 = .ok (.iastore, 1) := by decide +kernel
theorem d_B_add_32 : decode b_B_add 32 = .ok (.aload_n 0, 1) := by decide +kernel
theorem d_B_add_33 : decode b_B_add 33 = .ok (.getfield 18, 3) := by decide +kernel
theorem d_B_add_36 : decode b_B_add 36 = .ok (.aload_n 0, 1) := by decide +kernel
theorem d_B_add_37 : decode b_B_add 37 = .ok (.getfield 24, 3) := by decide +kernel
theorem d_B_add_40 : decode b_B_add 40 = .ok (.iload_n 3, 1) := by decide +kernel
theorem d_B_add_41 : decode b_B_add 41 = .ok (.iastore, 1) := by decide +kernel
theorem d_B_add_42 : decode b_B_add 42 = .ok (.aload_n 0, 1) := by decide +kernel
theorem d_B_add_43 : decode b_B_add 43 = .ok (.getfield 21, 3) := by decide +kernel
theorem d_B_add_46 : decode b_B_add 46 = .ok (.aload_n 0, 1) := by decide +kernel
theorem d_B_add_47 : decode b_B_add 47 = .ok (.getfield 24, 3) := by decide +kernel
theorem d_B_add_50 : decode b_B_add 50 = .ok (.iload 4, 2) := by decide +kernel
theorem d_B_add_52 : decode b_B_add 52 = .ok (.iastore, 1) := by decide +kernel
theorem d_B_add_53 : decode b_B_add 53 = .ok (.aload_n 0, 1) := by decide +kernel
theorem d_B_add_54 : decode b_B_add 54 = .ok (.dup, 1) := by decide +kernel
theorem d_B_add_55 : decode b_B_add 55 = .ok (.getfield 24, 3) := by decide +kernel
theorem d_B_add_58 : decode b_B_add 58 = .ok (.iconst 1, 1) := by decide +kernel
theorem d_B_add_59 : decode b_B_add 59 = .ok (.iadd, 1) := by decide +kernel
theorem d_B_add_60 : decode b_B_add 60 = .ok (.putfield 24, 3) := by decide +kernel
theorem d_B_add_63 : decode b_B_add 63 = .ok (.aload_n 0, 1) := by decide +kernel
theorem d_B_add_64 : decode b_B_add 64 = .ok (.getfield 24, 3) := by decide +kernel
theorem d_B_add_67 : decode b_B_add 67 = .ok (.iconst 1, 1) := by decide +kernel
theorem d_B_add_68 : decode b_B_add 68 = .ok (.isub, 1) := by decide +kernel
theorem d_B_add_69 : decode b_B_add 69 = .ok (.ireturn, 1) := by decide +kernel
theorem d_B_remove_0 : decode b_B_remove 0 = .ok (.iload_n 1, 1) := by decide +kernel
theorem d_B_remove_1 : decode b_B_remove 1 = .ok (.istore_n 2, 1) := by decide +kernel
theorem d_B_remove_2 : decode b_B_remove 2 = .ok (.iload_n 2, 1) := by decide +kernel
theorem d_B_remove_3 : decode b_B_remove 3 = .ok (.iconst 1, 1) := by decide +kernel
theorem d_B_remove_4 : decode b_B_remove 4 = .ok (.iadd, 1) := by decide +kernel
theorem d_B_remove_5 : decode b_B_remove 5 = .ok (.aload_n 0, 1) := by decide +kernel
theorem d_B_remove_6 : decode b_B_remove 6 = .ok (.getfield 24, 3) := by decide +kernel
theorem d_B_remove_9 : decode b_B_remove 9 = .ok (.if_icmp .ge 65, 3) := by decide +kernel
theorem d_B_remove_12 : decode b_B_remove 12 = .ok (.aload_n 0, 1) := by decide +kernel
theorem d_B_remove_13 : decode b_B_remove 13 = .ok (.getfield 9, 3) := by decide +kernel
theorem d_B_remove_16 : decode b_B_remove 16 = .ok (.iload_n 2, 1) := by decide +kernel
theorem d_B_remove_17 : decode b_B_remove 17 = .ok (.aload_n 0, 1) := by decide +kernel
theorem d_B_remove_18 : decode b_B_remove 18 = .ok (.getfield 9, 3) := by decide +kernel
theorem d_B_remove_21 : decode b_B_remove 21 = .ok (.iload_n 2, 1) := by decide +kernel
theorem d_B_remove_22 : decode b_B_remove 22 = .ok (.iconst 1, 1) := by decide +kernel
theorem d_B_remove_23 : decode b_B_remove 23 = .ok (.iadd, 1) := by decide +kernel
theorem d_B_remove_24 : decode b_B_remove 24 = .ok (.iaload, 1) := by decide +kernel
theorem d_B_remove_25 : decode b_B_remove 25 = .ok (.iastore, 1) := by decide +kernel
theorem d_B_remove_26 : decode b_B_remove 26 = .ok (.aload_n 0, 1) := by decide +kernel
theorem d_B_remove_27 : decode b_B_remove 27 = .ok (.getfield 15, 3) := by decide +kernel
theorem d_B_remove_30 : decode b_B_remove 30 = .ok (.iload_n 2, 1) := by decide +kernel
theorem d_B_remove_31 : decode b_B_remove 31 = .ok (.aload_n 0, 1) := by decide +kernel
theorem d_B_remove_32 : decode b_B_remove 32 = .ok (.getfield 15, 3) := by decide +kernel
theorem d_B_remove_35 : decode b_B_remove 35 = .ok (.iload_n 2, 1) := by decide +kernel
theorem d_B_remove_36 : decode b_B_remove 36 = .ok (.iconst 1, 1) := by decide +kernel
theorem d_B_remove_37 : decode b_B_remove 37 = .ok (.iadd, 1) := by decide +kernel
theorem d_B_remove_38 : decode b_B_remove 38 = .ok (.iaload, 1) := by decide +kernel
theorem d_B_remove_39 : decode b_B_remove 39 = .ok (.iastore, 1) := by decide +kernel
theorem d_B_remove_40 : decode b_B_remove 40 = .ok (.aload_n 0, 1) := by decide +kernel
theorem d_B_remove_41 : decode b_B_remove 41 = .ok (.getfield 18, 3) := by decide +kernel
theorem d_B_remove_44 : decode b_B_remove 44 = .ok (.iload_n 2, 1) := by decide +kernel
theorem d_B_remove_45 : decode b_B_remove 45 = .ok (.aload_n 0, 1) := by decide +kernel
theorem d_B_remove_46 : decode b_B_remove 46 = .ok (.getfield 18, 3) := by decide +kernel
theorem d_B_remove_49 : decode b_B_remove 49 = .ok (.iload_n 2, 1) := by decide +kernel
theorem d_B_remove_50 : decode b_B_remove 50 = .ok (.iconst 1, 1) := by decide +kernel
theorem d_B_remove_51 : decode b_B_remove 51 = .ok (.iadd, 1) := by decide +kernel
theorem d_B_remove_52 : decode b_B_remove 52 = .ok (.iaload, 1) := by decide +kernel
theorem d_B_remove_53 : decode b_B_remove 53 = .ok (.iastore, 1) := by decide +kernel
theorem d_B_remove_54 : decode b_B_remove 54 = .ok (.aload_n 0, 1) := by decide +kernel
theorem d_B_remove_55 : decode b_B_remove 55 = .ok (.getfield 21, 3) := by decide +kernel
theorem d_B_remove_58 : decode b_B_remove 58 = .ok (.iload_n 2, 1) := by decide +kernel
theorem d_B_remove_59 : decode b_B_remove 59 = .ok (.aload_n 0, 1) := by decide +kernel
theorem d_B_remove_60 : decode b_B_remove 60 = .ok (.getfield 21, 3) := by decide +kernel
theorem d_B_remove_63 : decode b_B_remove 63 = .ok (.iload_n 2, 1) := by decide +kernel
theorem d_B_remove_64 : decode b_B_remove 64 = .ok (.iconst 1, 1) := by decide +kernel
theorem d_B_remove_65 : decode b_B_remove 65 = .ok (.iadd, 1) := by decide +kernel
theorem d_B_remove_66 : decode b_B_remove 66 = .ok (.iaload, 1) := by decide +kernel
theorem d_B_remove_67 : decode b_B_remove 67 = .ok (.iastore, 1) := by decide +kernel
theorem d_B_remove_68 : decode b_B_remove 68 = .ok (.iinc 2 1, 3) := by decide +kernel
theorem d_B_remove_71 : decode b_B_remove 71 = .ok (.goto (-69), 3) := by decide +kernel
theorem d_B_remove_74 : decode b_B_remove 74 = .ok (.aload_n 0, 1) := by decide +kernel
theorem d_B_remove_75 : decode b_B_remove 75 = .ok (.dup, 1) := by decide +kernel
theorem d_B_remove_76 : decode b_B_remove 76 = .ok (.getfield 24, 3) := by decide +kernel
theorem d_B_remove_79 : decode b_B_remove 79 = .ok (.iconst 1, 1) := by decide +kernel
theorem d_B_remove_80 : decode b_B_remove 80 = .ok (.isub, 1) := by decide +kernel
theorem d_B_remove_81 : decode b_B_remove 81 = .ok (.putfield 24, 3) := by decide +kernel
theorem d_B_remove_84 : decode b_B_remove 84 = .ok (.return_, 1) := by decide +kernel
theorem d_G_init_0 : decode b_G_init 0 = .ok (.aload_n 0, 1) := by decide +kernel
theorem d_G_init_1 : decode b_G_init 1 = .ok (.invokespecial 3, 3) := by decide +kernel
theorem d_G_init_4 : decode b_G_init 4 = .ok (.aload_n 0, 1) := by decide +kernel
theorem d_G_init_5 : decode b_G_init 5 = .ok (.bipush 6, 2) := by decide +kernel
theorem d_G_init_7 : decode b_G_init 7 = .ok (.newarray .int, 2) := by decide +kernel
theorem d_G_init_9 : decode b_G_init 9 = .ok (.putfield 9, 3) := by decide +kernel
theorem d_G_init_12 : decode b_G_init 12 = .ok (.aload_n 0, 1) := by decide +kernel
theorem d_G_init_13 : decode b_G_init 13 = .ok (.bipush 6, 2) := by decide +kernel
theorem d_G_init_15 : decode b_G_init 15 = .ok (.newarray .int, 2) := by decide +kernel
theorem d_G_init_17 : decode b_G_init 17 = .ok (.putfield 15, 3) := by decide +kernel
theorem d_G_init_20 : decode b_G_init 20 = .ok (.aload_n 0, 1) := by decide +kernel
theorem d_G_init_21 : decode b_G_init 21 = .ok (.bipush 6, 2) := by decide +kernel
theorem d_G_init_23 : decode b_G_init 23 = .ok (.newarray .int, 2) := by decide +kernel
theorem d_G_init_25 : decode b_G_init 25 = .ok (.putfield 18, 3) := by decide +kernel
theorem d_G_init_28 : decode b_G_init 28 = .ok (.aload_n 0, 1) := by decide +kernel
theorem d_G_init_29 : decode b_G_init 29 = .ok (.bipush 6, 2) := by decide +kernel
theorem d_G_init_31 : decode b_G_init 31 = .ok (.newarray .int, 2) := by decide +kernel
theorem d_G_init_33 : decode b_G_init 33 = .ok (.putfield 21, 3) := by decide +kernel
theorem d_G_init_36 : decode b_G_init 36 = .ok (.aload_n 0, 1) := by decide +kernel
theorem d_G_init_37 : decode b_G_init 37 = .ok (.iconst 0, 1) := by decide +kernel
theorem d_G_init_38 : decode b_G_init 38 = .ok (.putfield 24, 3) := by decide +kernel
theorem d_G_init_41 : decode b_G_init 41 = .ok (.aload_n 0, 1) := by decide +kernel
theorem d_G_init_42 : decode b_G_init 42 = .ok (.iconst 4, 1) := by decide +kernel
theorem d_G_init_43 : decode b_G_init 43 = .ok (.iconst 4, 1) := by decide +kernel
theorem d_G_init_44 : decode b_G_init 44 = .ok (.multianewarray 28 2, 4) := by decide +kernel
theorem d_G_init_48 : decode b_G_init 48 = .ok (.putfield 30, 3) := by decide +kernel
theorem d_G_init_51 : decode b_G_init 51 = .ok (.aload_n 0, 1) := by decide +kernel
theorem d_G_init_52 : decode b_G_init 52 = .ok (.iconst 4, 1) := by decide +kernel
theorem d_G_init_53 : decode b_G_init 53 = .ok (.iconst 4, 1) := by decide +kernel
theorem d_G_init_54 : decode b_G_init 54 = .ok (.multianewarray 28 2, 4) := by decide +kernel
theorem d_G_init_58 : decode b_G_init 58 = .ok (.putfield 33, 3) := by decide +kernel
theorem d_G_init_61 : decode b_G_init 61 = .ok (.aload_n 0, 1) := by decide +kernel
theorem d_G_init_62 : decode b_G_init 62 = .ok (.lconst 0, 1) := by decide +kernel
theorem d_G_init_63 : decode b_G_init 63 = .ok (.putfield 36, 3) := by decide +kernel
theorem d_G_init_66 : decode b_G_init 66 = .ok (.return_, 1) := by decide +kernel
theorem d_G_has_0 : decode b_G_has 0 = .ok (.iload_n 1, 1) := by decide +kernel
theorem d_G_has_1 : decode b_G_has 1 = .ok (.ifCond .lt 15, 3) := by decide +kernel
theorem d_G_has_4 : decode b_G_has 4 = .ok (.iload_n 1, 1) := by decide +kernel
theorem d_G_has_5 : decode b_G_has 5 = .ok (.aload_n 0, 1) := by decide +kernel
theorem d_G_has_6 : decode b_G_has 6 = .ok (.getfield 24, 3) := by decide +kernel
theorem d_G_has_9 : decode b_G_has 9 = .ok (.if_icmp .ge 7, 3) := by decide +kernel
theorem d_G_has_12 : decode b_G_has 12 = .ok (.iconst 1, 1) := by decide +kernel
theorem d_G_has_13 : decode b_G_has 13 = .ok (.goto 4, 3) := by decide +kernel
theorem d_G_has_16 : decode b_G_has 16 = .ok (.iconst 0, 1) := by decide +kernel
theorem d_G_has_17 : decode b_G_has 17 = .ok (.ireturn, 1) := by decide +kernel
theorem d_G_joins_0 : decode b_G_joins 0 = .ok (.iconst 0, 1) := by decide +kernel
theorem d_G_joins_1 : decode b_G_joins 1 = .ok (.istore_n 3, 1) := by decide +kernel
theorem d_G_joins_2 : decode b_G_joins 2 = .ok (.iload_n 3, 1) := by decide +kernel
theorem d_G_joins_3 : decode b_G_joins 3 = .ok (.aload_n 0, 1) := by decide +kernel
theorem d_G_joins_4 : decode b_G_joins 4 = .ok (.getfield 24, 3) := by decide +kernel
theorem d_G_joins_7 : decode b_G_joins 7 = .ok (.if_icmp .ge 51, 3) := by decide +kernel
theorem d_G_joins_10 : decode b_G_joins 10 = .ok (.aload_n 0, 1) := by decide +kernel
theorem d_G_joins_11 : decode b_G_joins 11 = .ok (.getfield 9, 3) := by decide +kernel
theorem d_G_joins_14 : decode b_G_joins 14 = .ok (.iload_n 3, 1) := by decide +kernel
theorem d_G_joins_15 : decode b_G_joins 15 = .ok (.iaload, 1) := by decide +kernel
theorem d_G_joins_16 : decode b_G_joins 16 = .ok (.iload_n 1, 1) := by decide +kernel
theorem d_G_joins_17 : decode b_G_joins 17 = .ok (.if_icmp .ne 13, 3) := by decide +kernel
theorem d_G_joins_20 : decode b_G_joins 20 = .ok (.aload_n 0, 1) := by decide +kernel
theorem d_G_joins_21 : decode b_G_joins 21 = .ok (.getfield 15, 3) := by decide +kernel
theorem d_G_joins_24 : decode b_G_joins 24 = .ok (.iload_n 3, 1) := by decide +kernel
theorem d_G_joins_25 : decode b_G_joins 25 = .ok (.iaload, 1) := by decide +kernel
theorem d_G_joins_26 : decode b_G_joins 26 = .ok (.iload_n 2, 1) := by decide +kernel
theorem d_G_joins_27 : decode b_G_joins 27 = .ok (.if_icmp .eq 23, 3) := by decide +kernel
theorem d_G_joins_30 : decode b_G_joins 30 = .ok (.aload_n 0, 1) := by decide +kernel
theorem d_G_joins_31 : decode b_G_joins 31 = .ok (.getfield 9, 3) := by decide +kernel
theorem d_G_joins_34 : decode b_G_joins 34 = .ok (.iload_n 3, 1) := by decide +kernel
theorem d_G_joins_35 : decode b_G_joins 35 = .ok (.iaload, 1) := by decide +kernel
theorem d_G_joins_36 : decode b_G_joins 36 = .ok (.iload_n 2, 1) := by decide +kernel
theorem d_G_joins_37 : decode b_G_joins 37 = .ok (.if_icmp .ne 15, 3) := by decide +kernel
theorem d_G_joins_40 : decode b_G_joins 40 = .ok (.aload_n 0, 1) := by decide +kernel
theorem d_G_joins_41 : decode b_G_joins 41 = .ok (.getfield 15, 3) := by decide +kernel
theorem d_G_joins_44 : decode b_G_joins 44 = .ok (.iload_n 3, 1) := by decide +kernel
theorem d_G_joins_45 : decode b_G_joins 45 = .ok (.iaload, 1) := by decide +kernel
theorem d_G_joins_46 : decode b_G_joins 46 = .ok (.iload_n 1, 1) := by decide +kernel
theorem d_G_joins_47 : decode b_G_joins 47 = .ok (.if_icmp .ne 5, 3) := by decide +kernel
theorem d_G_joins_50 : decode b_G_joins 50 = .ok (.iconst 1, 1) := by decide +kernel
theorem d_G_joins_51 : decode b_G_joins 51 = .ok (.ireturn, 1) := by decide +kernel
theorem d_G_joins_52 : decode b_G_joins 52 = .ok (.iinc 3 1, 3) := by decide +kernel
theorem d_G_joins_55 : decode b_G_joins 55 = .ok (.goto (-53), 3) := by decide +kernel
theorem d_G_joins_58 : decode b_G_joins 58 = .ok (.iconst 0, 1) := by decide +kernel
theorem d_G_joins_59 : decode b_G_joins 59 = .ok (.ireturn, 1) := by decide +kernel
theorem d_G_add_0 : decode b_G_add 0 = .ok (.aload_n 0, 1) := by decide +kernel
theorem d_G_add_1 : decode b_G_add 1 = .ok (.getfield 24, 3) := by decide +kernel
theorem d_G_add_4 : decode b_G_add 4 = .ok (.bipush 6, 2) := by decide +kernel
theorem d_G_add_6 : decode b_G_add 6 = .ok (.if_icmp .lt 6, 3) := by decide +kernel
theorem d_G_add_9 : decode b_G_add 9 = .ok (.ldc 40, 2) := by decide +kernel
theorem d_G_add_11 : decode b_G_add 11 = .ok (.ireturn, 1) := by decide +kernel
theorem d_G_add_12 : decode b_G_add 12 = .ok (.aload_n 0, 1) := by decide +kernel
theorem d_G_add_13 : decode b_G_add 13 = .ok (.getfield 9, 3) := by decide +kernel
theorem d_G_add_16 : decode b_G_add 16 = .ok (.aload_n 0, 1) := by decide +kernel
theorem d_G_add_17 : decode b_G_add 17 = .ok (.getfield 24, 3) := by decide +kernel
theorem d_G_add_20 : decode b_G_add 20 = .ok (.iload_n 1, 1) := by decide +kernel
theorem d_G_add_21 : decode b_G_add 21 = .ok (.iastore, 1) := by decide +kernel
theorem d_G_add_22 : decode b_G_add 22 = .ok (.aload_n 0, 1) := by decide +kernel
theorem d_G_add_23 : decode b_G_add 23 = .ok (.getfield 15, 3) := by decide +kernel
theorem d_G_add_26 : decode b_G_add 26 = .ok (.aload_n 0, 1) := by decide +kernel
theorem d_G_add_27 : decode b_G_add 27 = .ok (.getfield 24, 3) := by decide +kernel
theorem d_G_add_30 : decode b_G_add 30 = .ok (.iload_n 2, 1) := by decide +kernel
theorem d_G_add_31 : decode b_G_add 31 = .ok (.iastore, 1) := by decide +kernel
theorem d_G_add_32 : decode b_G_add 32 = .ok (.aload_n 0, 1) := by decide +kernel
theorem d_G_add_33 : decode b_G_add 33 = .ok (.getfield 18, 3) := by decide +kernel
theorem d_G_add_36 : decode b_G_add 36 = .ok (.aload_n 0, 1) := by decide +kernel
theorem d_G_add_37 : decode b_G_add 37 = .ok (.getfield 24, 3) := by decide +kernel
theorem d_G_add_40 : decode b_G_add 40 = .ok (.iload_n 3, 1) := by decide +kernel
theorem d_G_add_41 : decode b_G_add 41 = .ok (.iastore, 1) := by decide +kernel
theorem d_G_add_42 : decode b_G_add 42 = .ok (.aload_n 0, 1) := by decide +kernel
theorem d_G_add_43 : decode b_G_add 43 = .ok (.getfield 21, 3) := by decide +kernel
theorem d_G_add_46 : decode b_G_add 46 = .ok (.aload_n 0, 1) := by decide +kernel
theorem d_G_add_47 : decode b_G_add 47 = .ok (.getfield 24, 3) := by decide +kernel
theorem d_G_add_50 : decode b_G_add 50 = .ok (.iload 4, 2) := by decide +kernel
theorem d_G_add_52 : decode b_G_add 52 = .ok (.iastore, 1) := by decide +kernel
theorem d_G_add_53 : decode b_G_add 53 = .ok (.aload_n 0, 1) := by decide +kernel
theorem d_G_add_54 : decode b_G_add 54 = .ok (.dup, 1) := by decide +kernel
theorem d_G_add_55 : decode b_G_add 55 = .ok (.getfield 24, 3) := by decide +kernel
theorem d_G_add_58 : decode b_G_add 58 = .ok (.iconst 1, 1) := by decide +kernel
theorem d_G_add_59 : decode b_G_add 59 = .ok (.iadd, 1) := by decide +kernel
theorem d_G_add_60 : decode b_G_add 60 = .ok (.putfield 24, 3) := by decide +kernel
theorem d_G_add_63 : decode b_G_add 63 = .ok (.aload_n 0, 1) := by decide +kernel
theorem d_G_add_64 : decode b_G_add 64 = .ok (.getfield 24, 3) := by decide +kernel
theorem d_G_add_67 : decode b_G_add 67 = .ok (.iconst 1, 1) := by decide +kernel
theorem d_G_add_68 : decode b_G_add 68 = .ok (.isub, 1) := by decide +kernel
theorem d_G_add_69 : decode b_G_add 69 = .ok (.ireturn, 1) := by decide +kernel
theorem d_G_remove_0 : decode b_G_remove 0 = .ok (.iload_n 1, 1) := by decide +kernel
theorem d_G_remove_1 : decode b_G_remove 1 = .ok (.istore_n 2, 1) := by decide +kernel
theorem d_G_remove_2 : decode b_G_remove 2 = .ok (.iload_n 2, 1) := by decide +kernel
theorem d_G_remove_3 : decode b_G_remove 3 = .ok (.iconst 1, 1) := by decide +kernel
theorem d_G_remove_4 : decode b_G_remove 4 = .ok (.iadd, 1) := by decide +kernel
theorem d_G_remove_5 : decode b_G_remove 5 = .ok (.aload_n 0, 1) := by decide +kernel
theorem d_G_remove_6 : decode b_G_remove 6 = .ok (.getfield 24, 3) := by decide +kernel
theorem d_G_remove_9 : decode b_G_remove 9 = .ok (.if_icmp .ge 65, 3) := by decide +kernel
theorem d_G_remove_12 : decode b_G_remove 12 = .ok (.aload_n 0, 1) := by decide +kernel
theorem d_G_remove_13 : decode b_G_remove 13 = .ok (.getfield 9, 3) := by decide +kernel
theorem d_G_remove_16 : decode b_G_remove 16 = .ok (.iload_n 2, 1) := by decide +kernel
theorem d_G_remove_17 : decode b_G_remove 17 = .ok (.aload_n 0, 1) := by decide +kernel
theorem d_G_remove_18 : decode b_G_remove 18 = .ok (.getfield 9, 3) := by decide +kernel
theorem d_G_remove_21 : decode b_G_remove 21 = .ok (.iload_n 2, 1) := by decide +kernel
theorem d_G_remove_22 : decode b_G_remove 22 = .ok (.iconst 1, 1) := by decide +kernel
theorem d_G_remove_23 : decode b_G_remove 23 = .ok (.iadd, 1) := by decide +kernel
theorem d_G_remove_24 : decode b_G_remove 24 = .ok (.iaload, 1) := by decide +kernel
theorem d_G_remove_25 : decode b_G_remove 25 = .ok (.iastore, 1) := by decide +kernel
theorem d_G_remove_26 : decode b_G_remove 26 = .ok (.aload_n 0, 1) := by decide +kernel
theorem d_G_remove_27 : decode b_G_remove 27 = .ok (.getfield 15, 3) := by decide +kernel
theorem d_G_remove_30 : decode b_G_remove 30 = .ok (.iload_n 2, 1) := by decide +kernel
theorem d_G_remove_31 : decode b_G_remove 31 = .ok (.aload_n 0, 1) := by decide +kernel
theorem d_G_remove_32 : decode b_G_remove 32 = .ok (.getfield 15, 3) := by decide +kernel
theorem d_G_remove_35 : decode b_G_remove 35 = .ok (.iload_n 2, 1) := by decide +kernel
theorem d_G_remove_36 : decode b_G_remove 36 = .ok (.iconst 1, 1) := by decide +kernel
theorem d_G_remove_37 : decode b_G_remove 37 = .ok (.iadd, 1) := by decide +kernel
theorem d_G_remove_38 : decode b_G_remove 38 = .ok (.iaload, 1) := by decide +kernel
theorem d_G_remove_39 : decode b_G_remove 39 = .ok (.iastore, 1) := by decide +kernel
theorem d_G_remove_40 : decode b_G_remove 40 = .ok (.aload_n 0, 1) := by decide +kernel
theorem d_G_remove_41 : decode b_G_remove 41 = .ok (.getfield 18, 3) := by decide +kernel
theorem d_G_remove_44 : decode b_G_remove 44 = .ok (.iload_n 2, 1) := by decide +kernel
theorem d_G_remove_45 : decode b_G_remove 45 = .ok (.aload_n 0, 1) := by decide +kernel
theorem d_G_remove_46 : decode b_G_remove 46 = .ok (.getfield 18, 3) := by decide +kernel
theorem d_G_remove_49 : decode b_G_remove 49 = .ok (.iload_n 2, 1) := by decide +kernel
theorem d_G_remove_50 : decode b_G_remove 50 = .ok (.iconst 1, 1) := by decide +kernel
theorem d_G_remove_51 : decode b_G_remove 51 = .ok (.iadd, 1) := by decide +kernel
theorem d_G_remove_52 : decode b_G_remove 52 = .ok (.iaload, 1) := by decide +kernel
theorem d_G_remove_53 : decode b_G_remove 53 = .ok (.iastore, 1) := by decide +kernel
theorem d_G_remove_54 : decode b_G_remove 54 = .ok (.aload_n 0, 1) := by decide +kernel
theorem d_G_remove_55 : decode b_G_remove 55 = .ok (.getfield 21, 3) := by decide +kernel
theorem d_G_remove_58 : decode b_G_remove 58 = .ok (.iload_n 2, 1) := by decide +kernel
theorem d_G_remove_59 : decode b_G_remove 59 = .ok (.aload_n 0, 1) := by decide +kernel
theorem d_G_remove_60 : decode b_G_remove 60 = .ok (.getfield 21, 3) := by decide +kernel
theorem d_G_remove_63 : decode b_G_remove 63 = .ok (.iload_n 2, 1) := by decide +kernel
theorem d_G_remove_64 : decode b_G_remove 64 = .ok (.iconst 1, 1) := by decide +kernel
theorem d_G_remove_65 : decode b_G_remove 65 = .ok (.iadd, 1) := by decide +kernel
theorem d_G_remove_66 : decode b_G_remove 66 = .ok (.iaload, 1) := by decide +kernel
theorem d_G_remove_67 : decode b_G_remove 67 = .ok (.iastore, 1) := by decide +kernel
theorem d_G_remove_68 : decode b_G_remove 68 = .ok (.iinc 2 1, 3) := by decide +kernel
theorem d_G_remove_71 : decode b_G_remove 71 = .ok (.goto (-69), 3) := by decide +kernel
theorem d_G_remove_74 : decode b_G_remove 74 = .ok (.aload_n 0, 1) := by decide +kernel
theorem d_G_remove_75 : decode b_G_remove 75 = .ok (.dup, 1) := by decide +kernel
theorem d_G_remove_76 : decode b_G_remove 76 = .ok (.getfield 24, 3) := by decide +kernel
theorem d_G_remove_79 : decode b_G_remove 79 = .ok (.iconst 1, 1) := by decide +kernel
theorem d_G_remove_80 : decode b_G_remove 80 = .ok (.isub, 1) := by decide +kernel
theorem d_G_remove_81 : decode b_G_remove 81 = .ok (.putfield 24, 3) := by decide +kernel
theorem d_G_remove_84 : decode b_G_remove 84 = .ok (.return_, 1) := by decide +kernel
theorem d_G_ground_0 : decode b_G_ground 0 = .ok (.aload_n 0, 1) := by decide +kernel
theorem d_G_ground_1 : decode b_G_ground 1 = .ok (.invokevirtual 41, 3) := by decide +kernel
theorem d_G_ground_4 : decode b_G_ground 4 = .ok (.aload_n 0, 1) := by decide +kernel
theorem d_G_ground_5 : decode b_G_ground 5 = .ok (.lconst 0, 1) := by decide +kernel
theorem d_G_ground_6 : decode b_G_ground 6 = .ok (.putfield 36, 3) := by decide +kernel
theorem d_G_ground_9 : decode b_G_ground 9 = .ok (.iconst 0, 1) := by decide +kernel
theorem d_G_ground_10 : decode b_G_ground 10 = .ok (.istore_n 2, 1) := by decide +kernel
theorem d_G_ground_11 : decode b_G_ground 11 = .ok (.iload_n 2, 1) := by decide +kernel
theorem d_G_ground_12 : decode b_G_ground 12 = .ok (.iconst 4, 1) := by decide +kernel
theorem d_G_ground_13 : decode b_G_ground 13 = .ok (.if_icmp .ge 27, 3) := by decide +kernel
theorem d_G_ground_16 : decode b_G_ground 16 = .ok (.aload_n 0, 1) := by decide +kernel
theorem d_G_ground_17 : decode b_G_ground 17 = .ok (.getfield 33, 3) := by decide +kernel
theorem d_G_ground_20 : decode b_G_ground 20 = .ok (.iload_n 1, 1) := by decide +kernel
theorem d_G_ground_21 : decode b_G_ground 21 = .ok (.aaload, 1) := by decide +kernel
theorem d_G_ground_22 : decode b_G_ground 22 = .ok (.iload_n 2, 1) := by decide +kernel
theorem d_G_ground_23 : decode b_G_ground 23 = .ok (.lconst 0, 1) := by decide +kernel
theorem d_G_ground_24 : decode b_G_ground 24 = .ok (.lastore, 1) := by decide +kernel
theorem d_G_ground_25 : decode b_G_ground 25 = .ok (.aload_n 0, 1) := by decide +kernel
theorem d_G_ground_26 : decode b_G_ground 26 = .ok (.getfield 33, 3) := by decide +kernel
theorem d_G_ground_29 : decode b_G_ground 29 = .ok (.iload_n 2, 1) := by decide +kernel
theorem d_G_ground_30 : decode b_G_ground 30 = .ok (.aaload, 1) := by decide +kernel
theorem d_G_ground_31 : decode b_G_ground 31 = .ok (.iload_n 1, 1) := by decide +kernel
theorem d_G_ground_32 : decode b_G_ground 32 = .ok (.lconst 0, 1) := by decide +kernel
theorem d_G_ground_33 : decode b_G_ground 33 = .ok (.lastore, 1) := by decide +kernel
theorem d_G_ground_34 : decode b_G_ground 34 = .ok (.iinc 2 1, 3) := by decide +kernel
theorem d_G_ground_37 : decode b_G_ground 37 = .ok (.goto (-26), 3) := by decide +kernel
theorem d_G_ground_40 : decode b_G_ground 40 = .ok (.iconst 0, 1) := by decide +kernel
theorem d_G_ground_41 : decode b_G_ground 41 = .ok (.istore_n 2, 1) := by decide +kernel
theorem d_G_ground_42 : decode b_G_ground 42 = .ok (.iload_n 2, 1) := by decide +kernel
theorem d_G_ground_43 : decode b_G_ground 43 = .ok (.iconst 3, 1) := by decide +kernel
theorem d_G_ground_44 : decode b_G_ground 44 = .ok (.if_icmp .ge 45, 3) := by decide +kernel
theorem d_G_ground_47 : decode b_G_ground 47 = .ok (.iconst 0, 1) := by decide +kernel
theorem d_G_ground_48 : decode b_G_ground 48 = .ok (.istore_n 3, 1) := by decide +kernel
theorem d_G_ground_49 : decode b_G_ground 49 = .ok (.iload_n 3, 1) := by decide +kernel
theorem d_G_ground_50 : decode b_G_ground 50 = .ok (.iconst 3, 1) := by decide +kernel
theorem d_G_ground_51 : decode b_G_ground 51 = .ok (.if_icmp .ge 32, 3) := by decide +kernel
theorem d_G_ground_54 : decode b_G_ground 54 = .ok (.aload_n 0, 1) := by decide +kernel
theorem d_G_ground_55 : decode b_G_ground 55 = .ok (.getfield 33, 3) := by decide +kernel
theorem d_G_ground_58 : decode b_G_ground 58 = .ok (.iload_n 1, 1) := by decide +kernel
theorem d_G_ground_59 : decode b_G_ground 59 = .ok (.iload_n 2, 1) := by decide +kernel
theorem d_G_ground_60 : decode b_G_ground 60 = .ok (.invokestatic 44, 3) := by decide +kernel
theorem d_G_ground_63 : decode b_G_ground 63 = .ok (.aaload, 1) := by decide +kernel
theorem d_G_ground_64 : decode b_G_ground 64 = .ok (.iload_n 1, 1) := by decide +kernel
theorem d_G_ground_65 : decode b_G_ground 65 = .ok (.iload_n 3, 1) := by decide +kernel
theorem d_G_ground_66 : decode b_G_ground 66 = .ok (.invokestatic 44, 3) := by decide +kernel
theorem d_G_ground_69 : decode b_G_ground 69 = .ok (.aload_n 0, 1) := by decide +kernel
theorem d_G_ground_70 : decode b_G_ground 70 = .ok (.iload_n 1, 1) := by decide +kernel
theorem d_G_ground_71 : decode b_G_ground 71 = .ok (.iload_n 2, 1) := by decide +kernel
theorem d_G_ground_72 : decode b_G_ground 72 = .ok (.iload_n 3, 1) := by decide +kernel
theorem d_G_ground_73 : decode b_G_ground 73 = .ok (.invokevirtual 48, 3) := by decide +kernel
theorem d_G_ground_76 : decode b_G_ground 76 = .ok (.lastore, 1) := by decide +kernel
theorem d_G_ground_77 : decode b_G_ground 77 = .ok (.iinc 3 1, 3) := by decide +kernel
theorem d_G_ground_80 : decode b_G_ground 80 = .ok (.goto (-31), 3) := by decide +kernel
theorem d_G_ground_83 : decode b_G_ground 83 = .ok (.iinc 2 1, 3) := by decide +kernel
theorem d_G_ground_86 : decode b_G_ground 86 = .ok (.goto (-44), 3) := by decide +kernel
theorem d_G_ground_89 : decode b_G_ground 89 = .ok (.iload_n 1, 1) := by decide +kernel
theorem d_G_ground_90 : decode b_G_ground 90 = .ok (.iconst 0, 1) := by decide +kernel
theorem d_G_ground_91 : decode b_G_ground 91 = .ok (.invokestatic 44, 3) := by decide +kernel
theorem d_G_ground_94 : decode b_G_ground 94 = .ok (.istore_n 2, 1) := by decide +kernel
theorem d_G_ground_95 : decode b_G_ground 95 = .ok (.iconst 0, 1) := by decide +kernel
theorem d_G_ground_96 : decode b_G_ground 96 = .ok (.istore_n 3, 1) := by decide +kernel
theorem d_G_ground_97 : decode b_G_ground 97 = .ok (.iload_n 3, 1) := by decide +kernel
theorem d_G_ground_98 : decode b_G_ground 98 = .ok (.iconst 4, 1) := by decide +kernel
theorem d_G_ground_99 : decode b_G_ground 99 = .ok (.if_icmp .ge 35, 3) := by decide +kernel
theorem d_G_ground_102 : decode b_G_ground 102 = .ok (.aload_n 0, 1) := by decide +kernel
theorem d_G_ground_103 : decode b_G_ground 103 = .ok (.dup, 1) := by decide +kernel
theorem d_G_ground_104 : decode b_G_ground 104 = .ok (.getfield 36, 3) := by decide +kernel
theorem d_G_ground_107 : decode b_G_ground 107 = .ok (.aload_n 0, 1) := by decide +kernel
theorem d_G_ground_108 : decode b_G_ground 108 = .ok (.getfield 30, 3) := by decide +kernel
theorem d_G_ground_111 : decode b_G_ground 111 = .ok (.iload_n 2, 1) := by decide +kernel
theorem d_G_ground_112 : decode b_G_ground 112 = .ok (.aaload, 1) := by decide +kernel
theorem d_G_ground_113 : decode b_G_ground 113 = .ok (.iload_n 3, 1) := by decide +kernel
theorem d_G_ground_114 : decode b_G_ground 114 = .ok (.laload, 1) := by decide +kernel
theorem d_G_ground_115 : decode b_G_ground 115 = .ok (.aload_n 0, 1) := by decide +kernel
theorem d_G_ground_116 : decode b_G_ground 116 = .ok (.getfield 33, 3) := by decide +kernel
theorem d_G_ground_119 : decode b_G_ground 119 = .ok (.iload_n 2, 1) := by decide +kernel
theorem d_G_ground_120 : decode b_G_ground 120 = .ok (.aaload, 1) := by decide +kernel
theorem d_G_ground_121 : decode b_G_ground 121 = .ok (.iload_n 3, 1) := by decide +kernel
theorem d_G_ground_122 : decode b_G_ground 122 = .ok (.laload, 1) := by decide +kernel
theorem d_G_ground_123 : decode b_G_ground 123 = .ok (.lmul, 1) := by decide +kernel
theorem d_G_ground_124 : decode b_G_ground 124 = .ok (.ladd, 1) := by decide +kernel
theorem d_G_ground_125 : decode b_G_ground 125 = .ok (.putfield 36, 3) := by decide +kernel
theorem d_G_ground_128 : decode b_G_ground 128 = .ok (.iinc 3 1, 3) := by decide +kernel
theorem d_G_ground_131 : decode b_G_ground 131 = .ok (.goto (-34), 3) := by decide +kernel
theorem d_G_ground_134 : decode b_G_ground 134 = .ok (.return_, 1) := by decide +kernel
theorem d_G_weighNodes_0 : decode b_G_weighNodes 0 = .ok (.iconst 0, 1) := by decide +kernel
theorem d_G_weighNodes_1 : decode b_G_weighNodes 1 = .ok (.istore_n 1, 1) := by decide +kernel
theorem d_G_weighNodes_2 : decode b_G_weighNodes 2 = .ok (.iload_n 1, 1) := by decide +kernel
theorem d_G_weighNodes_3 : decode b_G_weighNodes 3 = .ok (.iconst 4, 1) := by decide +kernel
theorem d_G_weighNodes_4 : decode b_G_weighNodes 4 = .ok (.if_icmp .ge 31, 3) := by decide +kernel
theorem d_G_weighNodes_7 : decode b_G_weighNodes 7 = .ok (.iconst 0, 1) := by decide +kernel
theorem d_G_weighNodes_8 : decode b_G_weighNodes 8 = .ok (.istore_n 2, 1) := by decide +kernel
theorem d_G_weighNodes_9 : decode b_G_weighNodes 9 = .ok (.iload_n 2, 1) := by decide +kernel
theorem d_G_weighNodes_10 : decode b_G_weighNodes 10 = .ok (.iconst 4, 1) := by decide +kernel
theorem d_G_weighNodes_11 : decode b_G_weighNodes 11 = .ok (.if_icmp .ge 18, 3) := by decide +kernel
theorem d_G_weighNodes_14 : decode b_G_weighNodes 14 = .ok (.aload_n 0, 1) := by decide +kernel
theorem d_G_weighNodes_15 : decode b_G_weighNodes 15 = .ok (.getfield 30, 3) := by decide +kernel
theorem d_G_weighNodes_18 : decode b_G_weighNodes 18 = .ok (.iload_n 1, 1) := by decide +kernel
theorem d_G_weighNodes_19 : decode b_G_weighNodes 19 = .ok (.aaload, 1) := by decide +kernel
theorem d_G_weighNodes_20 : decode b_G_weighNodes 20 = .ok (.iload_n 2, 1) := by decide +kernel
theorem d_G_weighNodes_21 : decode b_G_weighNodes 21 = .ok (.lconst 0, 1) := by decide +kernel
theorem d_G_weighNodes_22 : decode b_G_weighNodes 22 = .ok (.lastore, 1) := by decide +kernel
theorem d_G_weighNodes_23 : decode b_G_weighNodes 23 = .ok (.iinc 2 1, 3) := by decide +kernel
theorem d_G_weighNodes_26 : decode b_G_weighNodes 26 = .ok (.goto (-17), 3) := by decide +kernel
theorem d_G_weighNodes_29 : decode b_G_weighNodes 29 = .ok (.iinc 1 1, 3) := by decide +kernel
theorem d_G_weighNodes_32 : decode b_G_weighNodes 32 = .ok (.goto (-30), 3) := by decide +kernel
theorem d_G_weighNodes_35 : decode b_G_weighNodes 35 = .ok (.iconst 0, 1) := by decide +kernel
theorem d_G_weighNodes_36 : decode b_G_weighNodes 36 = .ok (.istore_n 1, 1) := by decide +kernel
theorem d_G_weighNodes_37 : decode b_G_weighNodes 37 = .ok (.iload_n 1, 1) := by decide +kernel
theorem d_G_weighNodes_38 : decode b_G_weighNodes 38 = .ok (.aload_n 0, 1) := by decide +kernel
theorem d_G_weighNodes_39 : decode b_G_weighNodes 39 = .ok (.getfield 24, 3) := by decide +kernel
theorem d_G_weighNodes_42 : decode b_G_weighNodes 42 = .ok (.if_icmp .ge 95, 3) := by decide +kernel
theorem d_G_weighNodes_45 : decode b_G_weighNodes 45 = .ok (.aload_n 0, 1) := by decide +kernel
theorem d_G_weighNodes_46 : decode b_G_weighNodes 46 = .ok (.getfield 9, 3) := by decide +kernel
theorem d_G_weighNodes_49 : decode b_G_weighNodes 49 = .ok (.iload_n 1, 1) := by decide +kernel
theorem d_G_weighNodes_50 : decode b_G_weighNodes 50 = .ok (.iaload, 1) := by decide +kernel
theorem d_G_weighNodes_51 : decode b_G_weighNodes 51 = .ok (.istore_n 2, 1) := by decide +kernel
theorem d_G_weighNodes_52 : decode b_G_weighNodes 52 = .ok (.aload_n 0, 1) := by decide +kernel
theorem d_G_weighNodes_53 : decode b_G_weighNodes 53 = .ok (.getfield 15, 3) := by decide +kernel
theorem d_G_weighNodes_56 : decode b_G_weighNodes 56 = .ok (.iload_n 1, 1) := by decide +kernel
theorem d_G_weighNodes_57 : decode b_G_weighNodes 57 = .ok (.iaload, 1) := by decide +kernel
theorem d_G_weighNodes_58 : decode b_G_weighNodes 58 = .ok (.istore_n 3, 1) := by decide +kernel
theorem d_G_weighNodes_59 : decode b_G_weighNodes 59 = .ok (.aload_n 0, 1) := by decide +kernel
theorem d_G_weighNodes_60 : decode b_G_weighNodes 60 = .ok (.getfield 30, 3) := by decide +kernel
theorem d_G_weighNodes_63 : decode b_G_weighNodes 63 = .ok (.iload_n 2, 1) := by decide +kernel
theorem d_G_weighNodes_64 : decode b_G_weighNodes 64 = .ok (.aaload, 1) := by decide +kernel
theorem d_G_weighNodes_65 : decode b_G_weighNodes 65 = .ok (.iload_n 2, 1) := by decide +kernel
theorem d_G_weighNodes_66 : decode b_G_weighNodes 66 = .ok (.dup2, 1) := by decide +kernel
theorem d_G_weighNodes_67 : decode b_G_weighNodes 67 = .ok (.laload, 1) := by decide +kernel
theorem d_G_weighNodes_68 : decode b_G_weighNodes 68 = .ok (.aload_n 0, 1) := by decide +kernel
theorem d_G_weighNodes_69 : decode b_G_weighNodes 69 = .ok (.getfield 18, 3) := by decide +kernel
theorem d_G_weighNodes_72 : decode b_G_weighNodes 72 = .ok (.iload_n 1, 1) := by decide +kernel
theorem d_G_weighNodes_73 : decode b_G_weighNodes 73 = .ok (.iaload, 1) := by decide +kernel
theorem d_G_weighNodes_74 : decode b_G_weighNodes 74 = .ok (.i2l, 1) := by decide +kernel
theorem d_G_weighNodes_75 : decode b_G_weighNodes 75 = .ok (.ladd, 1) := by decide +kernel
theorem d_G_weighNodes_76 : decode b_G_weighNodes 76 = .ok (.lastore, 1) := by decide +kernel
theorem d_G_weighNodes_77 : decode b_G_weighNodes 77 = .ok (.aload_n 0, 1) := by decide +kernel
theorem d_G_weighNodes_78 : decode b_G_weighNodes 78 = .ok (.getfield 30, 3) := by decide +kernel
theorem d_G_weighNodes_81 : decode b_G_weighNodes 81 = .ok (.iload_n 3, 1) := by decide +kernel
theorem d_G_weighNodes_82 : decode b_G_weighNodes 82 = .ok (.aaload, 1) := by decide +kernel
theorem d_G_weighNodes_83 : decode b_G_weighNodes 83 = .ok (.iload_n 3, 1) := by decide +kernel
theorem d_G_weighNodes_84 : decode b_G_weighNodes 84 = .ok (.dup2, 1) := by decide +kernel
theorem d_G_weighNodes_85 : decode b_G_weighNodes 85 = .ok (.laload, 1) := by decide +kernel
theorem d_G_weighNodes_86 : decode b_G_weighNodes 86 = .ok (.aload_n 0, 1) := by decide +kernel
theorem d_G_weighNodes_87 : decode b_G_weighNodes 87 = .ok (.getfield 18, 3) := by decide +kernel
theorem d_G_weighNodes_90 : decode b_G_weighNodes 90 = .ok (.iload_n 1, 1) := by decide +kernel
theorem d_G_weighNodes_91 : decode b_G_weighNodes 91 = .ok (.iaload, 1) := by decide +kernel
theorem d_G_weighNodes_92 : decode b_G_weighNodes 92 = .ok (.i2l, 1) := by decide +kernel
theorem d_G_weighNodes_93 : decode b_G_weighNodes 93 = .ok (.ladd, 1) := by decide +kernel
theorem d_G_weighNodes_94 : decode b_G_weighNodes 94 = .ok (.lastore, 1) := by decide +kernel
theorem d_G_weighNodes_95 : decode b_G_weighNodes 95 = .ok (.aload_n 0, 1) := by decide +kernel
theorem d_G_weighNodes_96 : decode b_G_weighNodes 96 = .ok (.getfield 30, 3) := by decide +kernel
theorem d_G_weighNodes_99 : decode b_G_weighNodes 99 = .ok (.iload_n 2, 1) := by decide +kernel
theorem d_G_weighNodes_100 : decode b_G_weighNodes 100 = .ok (.aaload, 1) := by decide +kernel
theorem d_G_weighNodes_101 : decode b_G_weighNodes 101 = .ok (.iload_n 3, 1) := by decide +kernel
theorem d_G_weighNodes_102 : decode b_G_weighNodes 102 = .ok (.dup2, 1) := by decide +kernel
theorem d_G_weighNodes_103 : decode b_G_weighNodes 103 = .ok (.laload, 1) := by decide +kernel
theorem d_G_weighNodes_104 : decode b_G_weighNodes 104 = .ok (.aload_n 0, 1) := by decide +kernel
theorem d_G_weighNodes_105 : decode b_G_weighNodes 105 = .ok (.getfield 18, 3) := by decide +kernel
theorem d_G_weighNodes_108 : decode b_G_weighNodes 108 = .ok (.iload_n 1, 1) := by decide +kernel
theorem d_G_weighNodes_109 : decode b_G_weighNodes 109 = .ok (.iaload, 1) := by decide +kernel
theorem d_G_weighNodes_110 : decode b_G_weighNodes 110 = .ok (.i2l, 1) := by decide +kernel
theorem d_G_weighNodes_111 : decode b_G_weighNodes 111 = .ok (.lsub, 1) := by decide +kernel
theorem d_G_weighNodes_112 : decode b_G_weighNodes 112 = .ok (.lastore, 1) := by decide +kernel
theorem d_G_weighNodes_113 : decode b_G_weighNodes 113 = .ok (.aload_n 0, 1) := by decide +kernel
theorem d_G_weighNodes_114 : decode b_G_weighNodes 114 = .ok (.getfield 30, 3) := by decide +kernel
theorem d_G_weighNodes_117 : decode b_G_weighNodes 117 = .ok (.iload_n 3, 1) := by decide +kernel
theorem d_G_weighNodes_118 : decode b_G_weighNodes 118 = .ok (.aaload, 1) := by decide +kernel
theorem d_G_weighNodes_119 : decode b_G_weighNodes 119 = .ok (.iload_n 2, 1) := by decide +kernel
theorem d_G_weighNodes_120 : decode b_G_weighNodes 120 = .ok (.dup2, 1) := by decide +kernel
theorem d_G_weighNodes_121 : decode b_G_weighNodes 121 = .ok (.laload, 1) := by decide +kernel
theorem d_G_weighNodes_122 : decode b_G_weighNodes 122 = .ok (.aload_n 0, 1) := by decide +kernel
theorem d_G_weighNodes_123 : decode b_G_weighNodes 123 = .ok (.getfield 18, 3) := by decide +kernel
theorem d_G_weighNodes_126 : decode b_G_weighNodes 126 = .ok (.iload_n 1, 1) := by decide +kernel
theorem d_G_weighNodes_127 : decode b_G_weighNodes 127 = .ok (.iaload, 1) := by decide +kernel
theorem d_G_weighNodes_128 : decode b_G_weighNodes 128 = .ok (.i2l, 1) := by decide +kernel
theorem d_G_weighNodes_129 : decode b_G_weighNodes 129 = .ok (.lsub, 1) := by decide +kernel
theorem d_G_weighNodes_130 : decode b_G_weighNodes 130 = .ok (.lastore, 1) := by decide +kernel
theorem d_G_weighNodes_131 : decode b_G_weighNodes 131 = .ok (.iinc 1 1, 3) := by decide +kernel
theorem d_G_weighNodes_134 : decode b_G_weighNodes 134 = .ok (.goto (-97), 3) := by decide +kernel
theorem d_G_weighNodes_137 : decode b_G_weighNodes 137 = .ok (.return_, 1) := by decide +kernel
theorem d_G_beside_0 : decode b_G_beside 0 = .ok (.iload_n 0, 1) := by decide +kernel
theorem d_G_beside_1 : decode b_G_beside 1 = .ok (.iconst 1, 1) := by decide +kernel
theorem d_G_beside_2 : decode b_G_beside 2 = .ok (.iadd, 1) := by decide +kernel
theorem d_G_beside_3 : decode b_G_beside 3 = .ok (.iload_n 1, 1) := by decide +kernel
theorem d_G_beside_4 : decode b_G_beside 4 = .ok (.iconst 3, 1) := by decide +kernel
theorem d_G_beside_5 : decode b_G_beside 5 = .ok (.irem, 1) := by decide +kernel
theorem d_G_beside_6 : decode b_G_beside 6 = .ok (.iadd, 1) := by decide +kernel
theorem d_G_beside_7 : decode b_G_beside 7 = .ok (.iconst 4, 1) := by decide +kernel
theorem d_G_beside_8 : decode b_G_beside 8 = .ok (.irem, 1) := by decide +kernel
theorem d_G_beside_9 : decode b_G_beside 9 = .ok (.ireturn, 1) := by decide +kernel
theorem d_G_cofactor_0 : decode b_G_cofactor 0 = .ok (.iload_n 1, 1) := by decide +kernel
theorem d_G_cofactor_1 : decode b_G_cofactor 1 = .ok (.iload_n 2, 1) := by decide +kernel
theorem d_G_cofactor_2 : decode b_G_cofactor 2 = .ok (.iconst 1, 1) := by decide +kernel
theorem d_G_cofactor_3 : decode b_G_cofactor 3 = .ok (.iadd, 1) := by decide +kernel
theorem d_G_cofactor_4 : decode b_G_cofactor 4 = .ok (.invokestatic 44, 3) := by decide +kernel
theorem d_G_cofactor_7 : decode b_G_cofactor 7 = .ok (.istore 4, 2) := by decide +kernel
theorem d_G_cofactor_9 : decode b_G_cofactor 9 = .ok (.iload_n 1, 1) := by decide +kernel
theorem d_G_cofactor_10 : decode b_G_cofactor 10 = .ok (.iload_n 2, 1) := by decide +kernel
theorem d_G_cofactor_11 : decode b_G_cofactor 11 = .ok (.iconst 2, 1) := by decide +kernel
theorem d_G_cofactor_12 : decode b_G_cofactor 12 = .ok (.iadd, 1) := by decide +kernel
theorem d_G_cofactor_13 : decode b_G_cofactor 13 = .ok (.invokestatic 44, 3) := by decide +kernel
theorem d_G_cofactor_16 : decode b_G_cofactor 16 = .ok (.istore 5, 2) := by decide +kernel
theorem d_G_cofactor_18 : decode b_G_cofactor 18 = .ok (.iload_n 1, 1) := by decide +kernel
theorem d_G_cofactor_19 : decode b_G_cofactor 19 = .ok (.iload_n 3, 1) := by decide +kernel
theorem d_G_cofactor_20 : decode b_G_cofactor 20 = .ok (.iconst 1, 1) := by decide +kernel
theorem d_G_cofactor_21 : decode b_G_cofactor 21 = .ok (.iadd, 1) := by decide +kernel
theorem d_G_cofactor_22 : decode b_G_cofactor 22 = .ok (.invokestatic 44, 3) := by decide +kernel
theorem d_G_cofactor_25 : decode b_G_cofactor 25 = .ok (.istore 6, 2) := by decide +kernel
theorem d_G_cofactor_27 : decode b_G_cofactor 27 = .ok (.iload_n 1, 1) := by decide +kernel
theorem d_G_cofactor_28 : decode b_G_cofactor 28 = .ok (.iload_n 3, 1) := by decide +kernel
theorem d_G_cofactor_29 : decode b_G_cofactor 29 = .ok (.iconst 2, 1) := by decide +kernel
theorem d_G_cofactor_30 : decode b_G_cofactor 30 = .ok (.iadd, 1) := by decide +kernel
theorem d_G_cofactor_31 : decode b_G_cofactor 31 = .ok (.invokestatic 44, 3) := by decide +kernel
theorem d_G_cofactor_34 : decode b_G_cofactor 34 = .ok (.istore 7, 2) := by decide +kernel
theorem d_G_cofactor_36 : decode b_G_cofactor 36 = .ok (.aload_n 0, 1) := by decide +kernel
theorem d_G_cofactor_37 : decode b_G_cofactor 37 = .ok (.getfield 30, 3) := by decide +kernel
theorem d_G_cofactor_40 : decode b_G_cofactor 40 = .ok (.iload 4, 2) := by decide +kernel
theorem d_G_cofactor_42 : decode b_G_cofactor 42 = .ok (.aaload, 1) := by decide +kernel
theorem d_G_cofactor_43 : decode b_G_cofactor 43 = .ok (.iload 6, 2) := by decide +kernel
theorem d_G_cofactor_45 : decode b_G_cofactor 45 = .ok (.laload, 1) := by decide +kernel
theorem d_G_cofactor_46 : decode b_G_cofactor 46 = .ok (.aload_n 0, 1) := by decide +kernel
theorem d_G_cofactor_47 : decode b_G_cofactor 47 = .ok (.getfield 30, 3) := by decide +kernel
theorem d_G_cofactor_50 : decode b_G_cofactor 50 = .ok (.iload 5, 2) := by decide +kernel
theorem d_G_cofactor_52 : decode b_G_cofactor 52 = .ok (.aaload, 1) := by decide +kernel
theorem d_G_cofactor_53 : decode b_G_cofactor 53 = .ok (.iload 7, 2) := by decide +kernel
theorem d_G_cofactor_55 : decode b_G_cofactor 55 = .ok (.laload, 1) := by decide +kernel
theorem d_G_cofactor_56 : decode b_G_cofactor 56 = .ok (.lmul, 1) := by decide +kernel
theorem d_G_cofactor_57 : decode b_G_cofactor 57 = .ok (.aload_n 0, 1) := by decide +kernel
theorem d_G_cofactor_58 : decode b_G_cofactor 58 = .ok (.getfield 30, 3) := by decide +kernel
theorem d_G_cofactor_61 : decode b_G_cofactor 61 = .ok (.iload 4, 2) := by decide +kernel
theorem d_G_cofactor_63 : decode b_G_cofactor 63 = .ok (.aaload, 1) := by decide +kernel
theorem d_G_cofactor_64 : decode b_G_cofactor 64 = .ok (.iload 7, 2) := by decide +kernel
theorem d_G_cofactor_66 : decode b_G_cofactor 66 = .ok (.laload, 1) := by decide +kernel
theorem d_G_cofactor_67 : decode b_G_cofactor 67 = .ok (.aload_n 0, 1) := by decide +kernel
theorem d_G_cofactor_68 : decode b_G_cofactor 68 = .ok (.getfield 30, 3) := by decide +kernel
theorem d_G_cofactor_71 : decode b_G_cofactor 71 = .ok (.iload 5, 2) := by decide +kernel
theorem d_G_cofactor_73 : decode b_G_cofactor 73 = .ok (.aaload, 1) := by decide +kernel
theorem d_G_cofactor_74 : decode b_G_cofactor 74 = .ok (.iload 6, 2) := by decide +kernel
theorem d_G_cofactor_76 : decode b_G_cofactor 76 = .ok (.laload, 1) := by decide +kernel
theorem d_G_cofactor_77 : decode b_G_cofactor 77 = .ok (.lmul, 1) := by decide +kernel
theorem d_G_cofactor_78 : decode b_G_cofactor 78 = .ok (.lsub, 1) := by decide +kernel
theorem d_G_cofactor_79 : decode b_G_cofactor 79 = .ok (.lreturn, 1) := by decide +kernel
theorem d_G_share_0 : decode b_G_share 0 = .ok (.aload_n 0, 1) := by decide +kernel
theorem d_G_share_1 : decode b_G_share 1 = .ok (.getfield 18, 3) := by decide +kernel
theorem d_G_share_4 : decode b_G_share 4 = .ok (.iload_n 1, 1) := by decide +kernel
theorem d_G_share_5 : decode b_G_share 5 = .ok (.iaload, 1) := by decide +kernel
theorem d_G_share_6 : decode b_G_share 6 = .ok (.i2l, 1) := by decide +kernel
theorem d_G_share_7 : decode b_G_share 7 = .ok (.aload_n 0, 1) := by decide +kernel
theorem d_G_share_8 : decode b_G_share 8 = .ok (.getfield 33, 3) := by decide +kernel
theorem d_G_share_11 : decode b_G_share 11 = .ok (.aload_n 0, 1) := by decide +kernel
theorem d_G_share_12 : decode b_G_share 12 = .ok (.getfield 15, 3) := by decide +kernel
theorem d_G_share_15 : decode b_G_share 15 = .ok (.iload_n 1, 1) := by decide +kernel
theorem d_G_share_16 : decode b_G_share 16 = .ok (.iaload, 1) := by decide +kernel
theorem d_G_share_17 : decode b_G_share 17 = .ok (.aaload, 1) := by decide +kernel
theorem d_G_share_18 : decode b_G_share 18 = .ok (.iload_n 2, 1) := by decide +kernel
theorem d_G_share_19 : decode b_G_share 19 = .ok (.laload, 1) := by decide +kernel
theorem d_G_share_20 : decode b_G_share 20 = .ok (.aload_n 0, 1) := by decide +kernel
theorem d_G_share_21 : decode b_G_share 21 = .ok (.getfield 33, 3) := by decide +kernel
theorem d_G_share_24 : decode b_G_share 24 = .ok (.aload_n 0, 1) := by decide +kernel
theorem d_G_share_25 : decode b_G_share 25 = .ok (.getfield 9, 3) := by decide +kernel
theorem d_G_share_28 : decode b_G_share 28 = .ok (.iload_n 1, 1) := by decide +kernel
theorem d_G_share_29 : decode b_G_share 29 = .ok (.iaload, 1) := by decide +kernel
theorem d_G_share_30 : decode b_G_share 30 = .ok (.aaload, 1) := by decide +kernel
theorem d_G_share_31 : decode b_G_share 31 = .ok (.iload_n 2, 1) := by decide +kernel
theorem d_G_share_32 : decode b_G_share 32 = .ok (.laload, 1) := by decide +kernel
theorem d_G_share_33 : decode b_G_share 33 = .ok (.lsub, 1) := by decide +kernel
theorem d_G_share_34 : decode b_G_share 34 = .ok (.lmul, 1) := by decide +kernel
theorem d_G_share_35 : decode b_G_share 35 = .ok (.lreturn, 1) := by decide +kernel
theorem d_O_init_0 : decode b_O_init 0 = .ok (.aload_n 0, 1) := by decide +kernel
theorem d_O_init_1 : decode b_O_init 1 = .ok (.invokespecial 3, 3) := by decide +kernel
theorem d_O_init_4 : decode b_O_init 4 = .ok (.aload_n 0, 1) := by decide +kernel
theorem d_O_init_5 : decode b_O_init 5 = .ok (.bipush 8, 2) := by decide +kernel
theorem d_O_init_7 : decode b_O_init 7 = .ok (.newarray .int, 2) := by decide +kernel
theorem d_O_init_9 : decode b_O_init 9 = .ok (.putfield 9, 3) := by decide +kernel
theorem d_O_init_12 : decode b_O_init 12 = .ok (.aload_n 0, 1) := by decide +kernel
theorem d_O_init_13 : decode b_O_init 13 = .ok (.bipush 6, 2) := by decide +kernel
theorem d_O_init_15 : decode b_O_init 15 = .ok (.newarray .int, 2) := by decide +kernel
theorem d_O_init_17 : decode b_O_init 17 = .ok (.putfield 15, 3) := by decide +kernel
theorem d_O_init_20 : decode b_O_init 20 = .ok (.aload_n 0, 1) := by decide +kernel
theorem d_O_init_21 : decode b_O_init 21 = .ok (.iconst 0, 1) := by decide +kernel
theorem d_O_init_22 : decode b_O_init 22 = .ok (.putfield 18, 3) := by decide +kernel
theorem d_O_init_25 : decode b_O_init 25 = .ok (.aload_n 0, 1) := by decide +kernel
theorem d_O_init_26 : decode b_O_init 26 = .ok (.iconst 1, 1) := by decide +kernel
theorem d_O_init_27 : decode b_O_init 27 = .ok (.putfield 22, 3) := by decide +kernel
theorem d_O_init_30 : decode b_O_init 30 = .ok (.aload_n 0, 1) := by decide +kernel
theorem d_O_init_31 : decode b_O_init 31 = .ok (.lconst 0, 1) := by decide +kernel
theorem d_O_init_32 : decode b_O_init 32 = .ok (.putfield 26, 3) := by decide +kernel
theorem d_O_init_35 : decode b_O_init 35 = .ok (.return_, 1) := by decide +kernel
theorem d_O_take_0 : decode b_O_take 0 = .ok (.aload_n 1, 1) := by decide +kernel
theorem d_O_take_1 : decode b_O_take 1 = .ok (.getfield 30, 3) := by decide +kernel
theorem d_O_take_4 : decode b_O_take 4 = .ok (.lstore 4, 2) := by decide +kernel
theorem d_O_take_6 : decode b_O_take 6 = .ok (.iconst 0, 1) := by decide +kernel
theorem d_O_take_7 : decode b_O_take 7 = .ok (.istore 6, 2) := by decide +kernel
theorem d_O_take_9 : decode b_O_take 9 = .ok (.iload 6, 2) := by decide +kernel
theorem d_O_take_11 : decode b_O_take 11 = .ok (.aload_n 3, 1) := by decide +kernel
theorem d_O_take_12 : decode b_O_take 12 = .ok (.getfield 35, 3) := by decide +kernel
theorem d_O_take_15 : decode b_O_take 15 = .ok (.if_icmp .ge 22, 3) := by decide +kernel
theorem d_O_take_18 : decode b_O_take 18 = .ok (.lload 4, 2) := by decide +kernel
theorem d_O_take_20 : decode b_O_take 20 = .ok (.aload_n 1, 1) := by decide +kernel
theorem d_O_take_21 : decode b_O_take 21 = .ok (.iload 6, 2) := by decide +kernel
theorem d_O_take_23 : decode b_O_take 23 = .ok (.invokevirtual 40, 3) := by decide +kernel
theorem d_O_take_26 : decode b_O_take 26 = .ok (.invokestatic 44, 3) := by decide +kernel
theorem d_O_take_29 : decode b_O_take 29 = .ok (.lstore 4, 2) := by decide +kernel
theorem d_O_take_31 : decode b_O_take 31 = .ok (.iinc 6 1, 3) := by decide +kernel
theorem d_O_take_34 : decode b_O_take 34 = .ok (.goto (-25), 3) := by decide +kernel
theorem d_O_take_37 : decode b_O_take 37 = .ok (.iconst 0, 1) := by decide +kernel
theorem d_O_take_38 : decode b_O_take 38 = .ok (.istore 6, 2) := by decide +kernel
theorem d_O_take_40 : decode b_O_take 40 = .ok (.iload 6, 2) := by decide +kernel
theorem d_O_take_42 : decode b_O_take 42 = .ok (.aload_n 2, 1) := by decide +kernel
theorem d_O_take_43 : decode b_O_take 43 = .ok (.getfield 48, 3) := by decide +kernel
theorem d_O_take_46 : decode b_O_take 46 = .ok (.if_icmp .ge 25, 3) := by decide +kernel
theorem d_O_take_49 : decode b_O_take 49 = .ok (.lload 4, 2) := by decide +kernel
theorem d_O_take_51 : decode b_O_take 51 = .ok (.aload_n 1, 1) := by decide +kernel
theorem d_O_take_52 : decode b_O_take 52 = .ok (.bipush 9, 2) := by decide +kernel
theorem d_O_take_54 : decode b_O_take 54 = .ok (.iload 6, 2) := by decide +kernel
theorem d_O_take_56 : decode b_O_take 56 = .ok (.iadd, 1) := by decide +kernel
theorem d_O_take_57 : decode b_O_take 57 = .ok (.invokevirtual 40, 3) := by decide +kernel
theorem d_O_take_60 : decode b_O_take 60 = .ok (.invokestatic 44, 3) := by decide +kernel
theorem d_O_take_63 : decode b_O_take 63 = .ok (.lstore 4, 2) := by decide +kernel
theorem d_O_take_65 : decode b_O_take 65 = .ok (.iinc 6 1, 3) := by decide +kernel
theorem d_O_take_68 : decode b_O_take 68 = .ok (.goto (-28), 3) := by decide +kernel
theorem d_O_take_71 : decode b_O_take 71 = .ok (.lload 4, 2) := by decide +kernel
theorem d_O_take_73 : decode b_O_take 73 = .ok (.lconst 0, 1) := by decide +kernel
theorem d_O_take_74 : decode b_O_take 74 = .ok (.lcmp, 1) := by decide +kernel
theorem d_O_take_75 : decode b_O_take 75 = .ok (.ifCond .ne 4, 3) := by decide +kernel
theorem d_O_take_78 : decode b_O_take 78 = .ok (.return_, 1) := by decide +kernel
theorem d_O_take_79 : decode b_O_take 79 = .ok (.aload_n 0, 1) := by decide +kernel
theorem d_O_take_80 : decode b_O_take 80 = .ok (.aload_n 1, 1) := by decide +kernel
theorem d_O_take_81 : decode b_O_take 81 = .ok (.getfield 30, 3) := by decide +kernel
theorem d_O_take_84 : decode b_O_take 84 = .ok (.lload 4, 2) := by decide +kernel
theorem d_O_take_86 : decode b_O_take 86 = .ok (.ldiv, 1) := by decide +kernel
theorem d_O_take_87 : decode b_O_take 87 = .ok (.l2i, 1) := by decide +kernel
theorem d_O_take_88 : decode b_O_take 88 = .ok (.putfield 22, 3) := by decide +kernel
theorem d_O_take_91 : decode b_O_take 91 = .ok (.aload_n 0, 1) := by decide +kernel
theorem d_O_take_92 : decode b_O_take 92 = .ok (.aload_n 1, 1) := by decide +kernel
theorem d_O_take_93 : decode b_O_take 93 = .ok (.bipush 15, 2) := by decide +kernel
theorem d_O_take_95 : decode b_O_take 95 = .ok (.invokevirtual 40, 3) := by decide +kernel
theorem d_O_take_98 : decode b_O_take 98 = .ok (.lload 4, 2) := by decide +kernel
theorem d_O_take_100 : decode b_O_take 100 = .ok (.ldiv, 1) := by decide +kernel
theorem d_O_take_101 : decode b_O_take 101 = .ok (.putfield 26, 3) := by decide +kernel
theorem d_O_take_104 : decode b_O_take 104 = .ok (.iconst 0, 1) := by decide +kernel
theorem d_O_take_105 : decode b_O_take 105 = .ok (.istore 6, 2) := by decide +kernel
theorem d_O_take_107 : decode b_O_take 107 = .ok (.iload 6, 2) := by decide +kernel
theorem d_O_take_109 : decode b_O_take 109 = .ok (.aload_n 3, 1) := by decide +kernel
theorem d_O_take_110 : decode b_O_take 110 = .ok (.getfield 35, 3) := by decide +kernel
theorem d_O_take_113 : decode b_O_take 113 = .ok (.if_icmp .ge 26, 3) := by decide +kernel
theorem d_O_take_116 : decode b_O_take 116 = .ok (.aload_n 0, 1) := by decide +kernel
theorem d_O_take_117 : decode b_O_take 117 = .ok (.getfield 9, 3) := by decide +kernel
theorem d_O_take_120 : decode b_O_take 120 = .ok (.iload 6, 2) := by decide +kernel
theorem d_O_take_122 : decode b_O_take 122 = .ok (.aload_n 1, 1) := by decide +kernel
theorem d_O_take_123 : decode b_O_take 123 = .ok (.iload 6, 2) := by decide +kernel
theorem d_O_take_125 : decode b_O_take 125 = .ok (.invokevirtual 40, 3) := by decide +kernel
theorem d_O_take_128 : decode b_O_take 128 = .ok (.lload 4, 2) := by decide +kernel
theorem d_O_take_130 : decode b_O_take 130 = .ok (.ldiv, 1) := by decide +kernel
theorem d_O_take_131 : decode b_O_take 131 = .ok (.l2i, 1) := by decide +kernel
theorem d_O_take_132 : decode b_O_take 132 = .ok (.iastore, 1) := by decide +kernel
theorem d_O_take_133 : decode b_O_take 133 = .ok (.iinc 6 1, 3) := by decide +kernel
theorem d_O_take_136 : decode b_O_take 136 = .ok (.goto (-29), 3) := by decide +kernel
theorem d_O_take_139 : decode b_O_take 139 = .ok (.iconst 0, 1) := by decide +kernel
theorem d_O_take_140 : decode b_O_take 140 = .ok (.istore 6, 2) := by decide +kernel
theorem d_O_take_142 : decode b_O_take 142 = .ok (.iload 6, 2) := by decide +kernel
theorem d_O_take_144 : decode b_O_take 144 = .ok (.aload_n 2, 1) := by decide +kernel
theorem d_O_take_145 : decode b_O_take 145 = .ok (.getfield 48, 3) := by decide +kernel
theorem d_O_take_148 : decode b_O_take 148 = .ok (.if_icmp .ge 29, 3) := by decide +kernel
theorem d_O_take_151 : decode b_O_take 151 = .ok (.aload_n 0, 1) := by decide +kernel
theorem d_O_take_152 : decode b_O_take 152 = .ok (.getfield 15, 3) := by decide +kernel
theorem d_O_take_155 : decode b_O_take 155 = .ok (.iload 6, 2) := by decide +kernel
theorem d_O_take_157 : decode b_O_take 157 = .ok (.aload_n 1, 1) := by decide +kernel
theorem d_O_take_158 : decode b_O_take 158 = .ok (.bipush 9, 2) := by decide +kernel
theorem d_O_take_160 : decode b_O_take 160 = .ok (.iload 6, 2) := by decide +kernel
theorem d_O_take_162 : decode b_O_take 162 = .ok (.iadd, 1) := by decide +kernel
theorem d_O_take_163 : decode b_O_take 163 = .ok (.invokevirtual 40, 3) := by decide +kernel
theorem d_O_take_166 : decode b_O_take 166 = .ok (.lload 4, 2) := by decide +kernel
theorem d_O_take_168 : decode b_O_take 168 = .ok (.ldiv, 1) := by decide +kernel
theorem d_O_take_169 : decode b_O_take 169 = .ok (.l2i, 1) := by decide +kernel
theorem d_O_take_170 : decode b_O_take 170 = .ok (.iastore, 1) := by decide +kernel
theorem d_O_take_171 : decode b_O_take 171 = .ok (.iinc 6 1, 3) := by decide +kernel
theorem d_O_take_174 : decode b_O_take 174 = .ok (.goto (-32), 3) := by decide +kernel
theorem d_O_take_177 : decode b_O_take 177 = .ok (.aload_n 0, 1) := by decide +kernel
theorem d_O_take_178 : decode b_O_take 178 = .ok (.iconst 1, 1) := by decide +kernel
theorem d_O_take_179 : decode b_O_take 179 = .ok (.putfield 18, 3) := by decide +kernel
theorem d_O_take_182 : decode b_O_take 182 = .ok (.return_, 1) := by decide +kernel
theorem d_O_taken_0 : decode b_O_taken 0 = .ok (.iconst 0, 1) := by decide +kernel
theorem d_O_taken_1 : decode b_O_taken 1 = .ok (.istore_n 2, 1) := by decide +kernel
theorem d_O_taken_2 : decode b_O_taken 2 = .ok (.iconst 0, 1) := by decide +kernel
theorem d_O_taken_3 : decode b_O_taken 3 = .ok (.istore_n 3, 1) := by decide +kernel
theorem d_O_taken_4 : decode b_O_taken 4 = .ok (.iload_n 3, 1) := by decide +kernel
theorem d_O_taken_5 : decode b_O_taken 5 = .ok (.iload_n 1, 1) := by decide +kernel
theorem d_O_taken_6 : decode b_O_taken 6 = .ok (.if_icmp .ge 21, 3) := by decide +kernel
theorem d_O_taken_9 : decode b_O_taken 9 = .ok (.aload_n 0, 1) := by decide +kernel
theorem d_O_taken_10 : decode b_O_taken 10 = .ok (.getfield 9, 3) := by decide +kernel
theorem d_O_taken_13 : decode b_O_taken 13 = .ok (.iload_n 3, 1) := by decide +kernel
theorem d_O_taken_14 : decode b_O_taken 14 = .ok (.iaload, 1) := by decide +kernel
theorem d_O_taken_15 : decode b_O_taken 15 = .ok (.ifCond .le 6, 3) := by decide +kernel
theorem d_O_taken_18 : decode b_O_taken 18 = .ok (.iinc 2 1, 3) := by decide +kernel
theorem d_O_taken_21 : decode b_O_taken 21 = .ok (.iinc 3 1, 3) := by decide +kernel
theorem d_O_taken_24 : decode b_O_taken 24 = .ok (.goto (-20), 3) := by decide +kernel
theorem d_O_taken_27 : decode b_O_taken 27 = .ok (.iload_n 2, 1) := by decide +kernel
theorem d_O_taken_28 : decode b_O_taken 28 = .ok (.ireturn, 1) := by decide +kernel
end
section
def f_B_has_17 (n : Nat) (t0 : Int32) (S : z_S) : Option (Int32 × z_S) := ck (vz t0) (some (t0, S))
def f_B_has_16 (n : Nat) (S : z_S) : Option (Int32 × z_S) := f_B_has_17 n (0 : Int32) S
def f_B_has (n : Nat) (x1 : Int32) (S : z_S) : Option (Int32 × z_S) := (if x1 < 0 then f_B_has_16 n S else (if (gF S 1) ≤ x1 then f_B_has_16 n S else f_B_has_17 n (1 : Int32) S))
set_option maxRecDepth 20000 in
theorem w_B_has_17 {X : z_X} {A : Nat → Prop} {Ω : z_O} (hC : z_C X b_B_has 2 "NodalAuction$Book" Ω) (hA : z_hA X A) (hR : z_R X (some .boolean)) (hM : z_rmOf X = z_rm 0 0) (n : Nat) (r : Int32 × z_S) (t0 : Int32) (S : z_S) (h : f_B_has_17 n t0 S = some r) : z_At X A (z_QI X Ω A r.1 (wN Ω r.2)) Ω 0 0 2 17 [(0, .ref (Ω.2.2 2))] [.int t0] (wN Ω S) := by
  obtain ⟨hv1, h⟩ := ck_some h
  cases h
  exact z_zret hC hR hv1 rfl rfl d_B_has_17
set_option maxRecDepth 20000 in
theorem w_B_has_16 {X : z_X} {A : Nat → Prop} {Ω : z_O} (hC : z_C X b_B_has 2 "NodalAuction$Book" Ω) (hA : z_hA X A) (hR : z_R X (some .boolean)) (hM : z_rmOf X = z_rm 0 0) (n : Nat) (r : Int32 × z_S) (S : z_S) (h : f_B_has_16 n S = some r) : z_At X A (z_QI X Ω A r.1 (wN Ω r.2)) Ω 0 0 2 16 [(0, .ref (Ω.2.2 2))] [] (wN Ω S) := by
  refine z_iconst (v := (0 : Int32)) (by decide) hC d_B_has_16 (q := 17) rfl ?_
  exact w_B_has_17 hC hA hR hM n r (0 : Int32) S h
set_option maxRecDepth 20000 in
theorem w_B_has {X : z_X} {A : Nat → Prop} {Ω : z_O} (hC : z_C X b_B_has 2 "NodalAuction$Book" Ω) (hA : z_hA X A) (hR : z_R X (some .boolean)) (hM : z_rmOf X = z_rm 0 0) (n : Nat) (r : Int32 × z_S) (x1 : Int32) (S : z_S) (h : f_B_has n x1 S = some r) : z_At X A (z_QI X Ω A r.1 (wN Ω r.2)) Ω 0 0 2 0 [(0, .ref (Ω.2.2 2)), (1, .int x1)] [] (wN Ω S) := by
  refine z_iload_n rfl 1 rfl hC d_B_has_0 (q := 1) rfl ?_
  refine z_if_lt (tgt := 16) (q := 4) hC d_B_has_1 rfl rfl (fun hb => ?_) (fun hb => ?_)
  · have h := (if_pos hb).symm.trans h
    refine z_sub [0] rfl ?_
    exact w_B_has_16 hC hA hR hM n r S h
  · have h := (if_neg hb).symm.trans h
    refine z_iload_n rfl 1 rfl hC d_B_has_4 (q := 5) rfl ?_
    refine z_aload_n rfl 0 rfl hC d_B_has_5 (q := 6) rfl ?_
    refine gf_B_24_2 hC d_B_has_6 (q := 9) rfl ?_
    refine z_icmp_ge (tgt := 16) (q := 12) hC d_B_has_9 rfl rfl (fun hb => ?_) (fun hb => ?_)
    · have h := (if_pos hb).symm.trans h
      refine z_sub [0] rfl ?_
      exact w_B_has_16 hC hA hR hM n r S h
    · have h := (if_neg hb).symm.trans h
      refine z_iconst (v := (1 : Int32)) (by decide) hC d_B_has_12 (q := 13) rfl ?_
      refine z_goto (tgt := 17) hC d_B_has_13 rfl ?_
      refine z_sub [0] rfl ?_
      exact w_B_has_17 hC hA hR hM n r (1 : Int32) S h
theorem c_B_has (l : Launch) (Ω : z_O) (n : Nat) (x1 : Int32) (S : z_S) (r : Int32 × z_S) (h : f_B_has n x1 S = some r) : z_MI l Ω y_B_has b_B_has 2 .boolean 0 0 [.ref (Ω.2.2 2), .int x1] (wN Ω S) r.1 (wN Ω r.2) := z_introI (by decide +kernel) (Nat.le_of_ble_eq_true rfl) rfl (fun X A hC hA hR _ hM => w_B_has hC hA hR hM n r x1 S h)
def f_B_has_p_17 (n : Nat) (t0 : Int32) (S : z_S) : Option (Int32 × z_S) := ck (vz t0) (some (t0, S))
def f_B_has_p_16 (n : Nat) (S : z_S) : Option (Int32 × z_S) := f_B_has_p_17 n (0 : Int32) S
def f_B_has_p (n : Nat) (x1 : Int32) (S : z_S) : Option (Int32 × z_S) := (if x1 < 0 then f_B_has_p_16 n S else (if (gF S 2) ≤ x1 then f_B_has_p_16 n S else f_B_has_p_17 n (1 : Int32) S))
set_option maxRecDepth 20000 in
theorem w_B_has_p_17 {X : z_X} {A : Nat → Prop} {Ω : z_O} (hC : z_C X b_B_has 2 "NodalAuction$Book" Ω) (hA : z_hA X A) (hR : z_R X (some .boolean)) (hM : z_rmOf X = z_rm 0 0) (n : Nat) (r : Int32 × z_S) (t0 : Int32) (S : z_S) (h : f_B_has_p_17 n t0 S = some r) : z_At X A (z_QI X Ω A r.1 (wN Ω r.2)) Ω 0 0 2 17 [(0, .ref (Ω.2.2 3))] [.int t0] (wN Ω S) := by
  obtain ⟨hv1, h⟩ := ck_some h
  cases h
  exact z_zret hC hR hv1 rfl rfl d_B_has_17
set_option maxRecDepth 20000 in
theorem w_B_has_p_16 {X : z_X} {A : Nat → Prop} {Ω : z_O} (hC : z_C X b_B_has 2 "NodalAuction$Book" Ω) (hA : z_hA X A) (hR : z_R X (some .boolean)) (hM : z_rmOf X = z_rm 0 0) (n : Nat) (r : Int32 × z_S) (S : z_S) (h : f_B_has_p_16 n S = some r) : z_At X A (z_QI X Ω A r.1 (wN Ω r.2)) Ω 0 0 2 16 [(0, .ref (Ω.2.2 3))] [] (wN Ω S) := by
  refine z_iconst (v := (0 : Int32)) (by decide) hC d_B_has_16 (q := 17) rfl ?_
  exact w_B_has_p_17 hC hA hR hM n r (0 : Int32) S h
set_option maxRecDepth 20000 in
theorem w_B_has_p {X : z_X} {A : Nat → Prop} {Ω : z_O} (hC : z_C X b_B_has 2 "NodalAuction$Book" Ω) (hA : z_hA X A) (hR : z_R X (some .boolean)) (hM : z_rmOf X = z_rm 0 0) (n : Nat) (r : Int32 × z_S) (x1 : Int32) (S : z_S) (h : f_B_has_p n x1 S = some r) : z_At X A (z_QI X Ω A r.1 (wN Ω r.2)) Ω 0 0 2 0 [(0, .ref (Ω.2.2 3)), (1, .int x1)] [] (wN Ω S) := by
  refine z_iload_n rfl 1 rfl hC d_B_has_0 (q := 1) rfl ?_
  refine z_if_lt (tgt := 16) (q := 4) hC d_B_has_1 rfl rfl (fun hb => ?_) (fun hb => ?_)
  · have h := (if_pos hb).symm.trans h
    refine z_sub [0] rfl ?_
    exact w_B_has_p_16 hC hA hR hM n r S h
  · have h := (if_neg hb).symm.trans h
    refine z_iload_n rfl 1 rfl hC d_B_has_4 (q := 5) rfl ?_
    refine z_aload_n rfl 0 rfl hC d_B_has_5 (q := 6) rfl ?_
    refine gf_B_24_3 hC d_B_has_6 (q := 9) rfl ?_
    refine z_icmp_ge (tgt := 16) (q := 12) hC d_B_has_9 rfl rfl (fun hb => ?_) (fun hb => ?_)
    · have h := (if_pos hb).symm.trans h
      refine z_sub [0] rfl ?_
      exact w_B_has_p_16 hC hA hR hM n r S h
    · have h := (if_neg hb).symm.trans h
      refine z_iconst (v := (1 : Int32)) (by decide) hC d_B_has_12 (q := 13) rfl ?_
      refine z_goto (tgt := 17) hC d_B_has_13 rfl ?_
      refine z_sub [0] rfl ?_
      exact w_B_has_p_17 hC hA hR hM n r (1 : Int32) S h
theorem c_B_has_p (l : Launch) (Ω : z_O) (n : Nat) (x1 : Int32) (S : z_S) (r : Int32 × z_S) (h : f_B_has_p n x1 S = some r) : z_MI l Ω y_B_has b_B_has 2 .boolean 0 0 [.ref (Ω.2.2 3), .int x1] (wN Ω S) r.1 (wN Ω r.2) := z_introI (by decide +kernel) (Nat.le_of_ble_eq_true rfl) rfl (fun X A hC hA hR _ hM => w_B_has_p hC hA hR hM n r x1 S h)
def f_B_add_53 (n : Nat) (S : z_S) : Option (Int32 × z_S) := some ((gF (sF S 1 ((gF S 1) + (1 : Int32))) 1) - (1 : Int32), sF S 1 ((gF S 1) + (1 : Int32)))
def f_B_add_32 (n : Nat) (x3 : Int32) (x4 : Int32) (S : z_S) : Option (Int32 × z_S) := ck (vi (gF S 1) 8) (ck (vi (gF (sI S 7 (upd (gI S 7) ((gF S 1).toNatClampNeg) x3)) 1) 8) (f_B_add_53 n (sI (sI S 7 (upd (gI S 7) ((gF S 1).toNatClampNeg) x3)) 8 (upd (gI (sI S 7 (upd (gI S 7) ((gF S 1).toNatClampNeg) x3)) 8) ((gF (sI S 7 (upd (gI S 7) ((gF S 1).toNatClampNeg) x3)) 1).toNatClampNeg) x4))))
def f_B_add (n : Nat) (x1 : Int32) (x2 : Int32) (x3 : Int32) (x4 : Int32) (S : z_S) : Option (Int32 × z_S) := (if (gF S 1) < (8 : Int32) then ck (vi (gF S 1) 8) (ck (vi (gF (sI S 5 (upd (gI S 5) ((gF S 1).toNatClampNeg) x1)) 1) 8) (f_B_add_32 n x3 x4 (sI (sI S 5 (upd (gI S 5) ((gF S 1).toNatClampNeg) x1)) 6 (upd (gI (sI S 5 (upd (gI S 5) ((gF S 1).toNatClampNeg) x1)) 6) ((gF (sI S 5 (upd (gI S 5) ((gF S 1).toNatClampNeg) x1)) 1).toNatClampNeg) x2)))) else some ((-2147483648 : Int32), S))
set_option maxRecDepth 20000 in
theorem w_B_add_53 {X : z_X} {A : Nat → Prop} {Ω : z_O} (hC : z_C X b_B_add 5 "NodalAuction$Book" Ω) (hA : z_hA X A) (hR : z_R X (some .int)) (hM : z_rmOf X = z_rm 0 0) (n : Nat) (r : Int32 × z_S) (S : z_S) (h : f_B_add_53 n S = some r) : z_At X A (z_QI X Ω A r.1 (wN Ω r.2)) Ω 0 0 5 53 [(0, .ref (Ω.2.2 2))] [] (wN Ω S) := by
  refine z_aload_n rfl 0 rfl hC d_B_add_53 (q := 54) rfl ?_
  refine z_dup rfl hC d_B_add_54 (q := 55) rfl ?_
  refine gf_B_24_2 hC d_B_add_55 (q := 58) rfl ?_
  refine z_iconst (v := (1 : Int32)) (by decide) hC d_B_add_58 (q := 59) rfl ?_
  refine z_iadd hC d_B_add_59 (q := 60) rfl ?_
  refine pf_B_24_2 hC d_B_add_60 (q := 63) rfl ?_
  refine z_aload_n rfl 0 rfl hC d_B_add_63 (q := 64) rfl ?_
  refine gf_B_24_2 hC d_B_add_64 (q := 67) rfl ?_
  refine z_iconst (v := (1 : Int32)) (by decide) hC d_B_add_67 (q := 68) rfl ?_
  refine z_isub hC d_B_add_68 (q := 69) rfl ?_
  cases h
  exact z_iret hC hR rfl rfl d_B_add_69
set_option maxRecDepth 20000 in
theorem w_B_add_32 {X : z_X} {A : Nat → Prop} {Ω : z_O} (hC : z_C X b_B_add 5 "NodalAuction$Book" Ω) (hA : z_hA X A) (hR : z_R X (some .int)) (hM : z_rmOf X = z_rm 0 0) (n : Nat) (r : Int32 × z_S) (x3 : Int32) (x4 : Int32) (S : z_S) (h : f_B_add_32 n x3 x4 S = some r) : z_At X A (z_QI X Ω A r.1 (wN Ω r.2)) Ω 0 0 5 32 [(0, .ref (Ω.2.2 2)), (3, .int x3), (4, .int x4)] [] (wN Ω S) := by
  refine z_aload_n rfl 0 rfl hC d_B_add_32 (q := 33) rfl ?_
  refine gf_B_18_2 hC d_B_add_33 (q := 36) rfl ?_
  refine z_aload_n rfl 0 rfl hC d_B_add_36 (q := 37) rfl ?_
  refine gf_B_24_2 hC d_B_add_37 (q := 40) rfl ?_
  refine z_iload_n rfl 1 rfl hC d_B_add_40 (q := 41) rfl ?_
  obtain ⟨hv1, h⟩ := ck_some h
  refine as_wN_15 hC hv1 d_B_add_41 (q := 42) rfl ?_
  refine z_aload_n rfl 0 rfl hC d_B_add_42 (q := 43) rfl ?_
  refine gf_B_21_2 hC d_B_add_43 (q := 46) rfl ?_
  refine z_aload_n rfl 0 rfl hC d_B_add_46 (q := 47) rfl ?_
  refine gf_B_24_2 hC d_B_add_47 (q := 50) rfl ?_
  refine z_iload 2 rfl hC d_B_add_50 (q := 52) rfl ?_
  obtain ⟨hv2, h⟩ := ck_some h
  refine as_wN_16 hC hv2 d_B_add_52 (q := 53) rfl ?_
  refine z_sub [0] rfl ?_
  exact w_B_add_53 hC hA hR hM n r (sI (sI S 7 (upd (gI S 7) ((gF S 1).toNatClampNeg) x3)) 8 (upd (gI (sI S 7 (upd (gI S 7) ((gF S 1).toNatClampNeg) x3)) 8) ((gF (sI S 7 (upd (gI S 7) ((gF S 1).toNatClampNeg) x3)) 1).toNatClampNeg) x4)) h
set_option maxRecDepth 20000 in
theorem w_B_add {X : z_X} {A : Nat → Prop} {Ω : z_O} (hC : z_C X b_B_add 5 "NodalAuction$Book" Ω) (hA : z_hA X A) (hR : z_R X (some .int)) (hM : z_rmOf X = z_rm 0 0) (n : Nat) (r : Int32 × z_S) (x1 : Int32) (x2 : Int32) (x3 : Int32) (x4 : Int32) (S : z_S) (h : f_B_add n x1 x2 x3 x4 S = some r) : z_At X A (z_QI X Ω A r.1 (wN Ω r.2)) Ω 0 0 5 0 [(0, .ref (Ω.2.2 2)), (1, .int x1), (2, .int x2), (3, .int x3), (4, .int x4)] [] (wN Ω S) := by
  refine z_aload_n rfl 0 rfl hC d_B_add_0 (q := 1) rfl ?_
  refine gf_B_24_2 hC d_B_add_1 (q := 4) rfl ?_
  refine z_bipush (v := (8 : Int32)) (by decide) hC d_B_add_4 (q := 6) rfl ?_
  refine z_icmp_lt (tgt := 12) (q := 9) hC d_B_add_6 rfl rfl (fun hb => ?_) (fun hb => ?_)
  · have h := (if_pos hb).symm.trans h
    refine z_aload_n rfl 0 rfl hC d_B_add_12 (q := 13) rfl ?_
    refine gf_B_9_2 hC d_B_add_13 (q := 16) rfl ?_
    refine z_aload_n rfl 0 rfl hC d_B_add_16 (q := 17) rfl ?_
    refine gf_B_24_2 hC d_B_add_17 (q := 20) rfl ?_
    refine z_iload_n rfl 1 rfl hC d_B_add_20 (q := 21) rfl ?_
    obtain ⟨hv1, h⟩ := ck_some h
    refine as_wN_13 hC hv1 d_B_add_21 (q := 22) rfl ?_
    refine z_aload_n rfl 0 rfl hC d_B_add_22 (q := 23) rfl ?_
    refine gf_B_15_2 hC d_B_add_23 (q := 26) rfl ?_
    refine z_aload_n rfl 0 rfl hC d_B_add_26 (q := 27) rfl ?_
    refine gf_B_24_2 hC d_B_add_27 (q := 30) rfl ?_
    refine z_iload_n rfl 2 rfl hC d_B_add_30 (q := 31) rfl ?_
    obtain ⟨hv2, h⟩ := ck_some h
    refine as_wN_14 hC hv2 d_B_add_31 (q := 32) rfl ?_
    refine z_sub [0, 3, 4] rfl ?_
    exact w_B_add_32 hC hA hR hM n r x3 x4 (sI (sI S 5 (upd (gI S 5) ((gF S 1).toNatClampNeg) x1)) 6 (upd (gI (sI S 5 (upd (gI S 5) ((gF S 1).toNatClampNeg) x1)) 6) ((gF (sI S 5 (upd (gI S 5) ((gF S 1).toNatClampNeg) x1)) 1).toNatClampNeg) x2)) h
  · have h := (if_neg hb).symm.trans h
    refine z_ldc (v := (-2147483648 : Int32)) k_225 hC d_B_add_9 (q := 11) rfl ?_
    cases h
    exact z_iret hC hR rfl rfl d_B_add_11
theorem c_B_add (l : Launch) (Ω : z_O) (n : Nat) (x1 : Int32) (x2 : Int32) (x3 : Int32) (x4 : Int32) (S : z_S) (r : Int32 × z_S) (h : f_B_add n x1 x2 x3 x4 S = some r) : z_MI l Ω y_B_add b_B_add 5 .int 0 0 [.ref (Ω.2.2 2), .int x1, .int x2, .int x3, .int x4] (wN Ω S) r.1 (wN Ω r.2) := z_introI (by decide +kernel) (Nat.le_of_ble_eq_true rfl) rfl (fun X A hC hA hR _ hM => w_B_add hC hA hR hM n r x1 x2 x3 x4 S h)
def f_B_add_p_53 (n : Nat) (S : z_S) : Option (Int32 × z_S) := some ((gF (sF S 2 ((gF S 2) + (1 : Int32))) 2) - (1 : Int32), sF S 2 ((gF S 2) + (1 : Int32)))
def f_B_add_p_32 (n : Nat) (x3 : Int32) (x4 : Int32) (S : z_S) : Option (Int32 × z_S) := ck (vi (gF S 2) 8) (ck (vi (gF (sI S 11 (upd (gI S 11) ((gF S 2).toNatClampNeg) x3)) 2) 8) (f_B_add_p_53 n (sI (sI S 11 (upd (gI S 11) ((gF S 2).toNatClampNeg) x3)) 12 (upd (gI (sI S 11 (upd (gI S 11) ((gF S 2).toNatClampNeg) x3)) 12) ((gF (sI S 11 (upd (gI S 11) ((gF S 2).toNatClampNeg) x3)) 2).toNatClampNeg) x4))))
def f_B_add_p (n : Nat) (x1 : Int32) (x2 : Int32) (x3 : Int32) (x4 : Int32) (S : z_S) : Option (Int32 × z_S) := (if (gF S 2) < (8 : Int32) then ck (vi (gF S 2) 8) (ck (vi (gF (sI S 9 (upd (gI S 9) ((gF S 2).toNatClampNeg) x1)) 2) 8) (f_B_add_p_32 n x3 x4 (sI (sI S 9 (upd (gI S 9) ((gF S 2).toNatClampNeg) x1)) 10 (upd (gI (sI S 9 (upd (gI S 9) ((gF S 2).toNatClampNeg) x1)) 10) ((gF (sI S 9 (upd (gI S 9) ((gF S 2).toNatClampNeg) x1)) 2).toNatClampNeg) x2)))) else some ((-2147483648 : Int32), S))
set_option maxRecDepth 20000 in
theorem w_B_add_p_53 {X : z_X} {A : Nat → Prop} {Ω : z_O} (hC : z_C X b_B_add 5 "NodalAuction$Book" Ω) (hA : z_hA X A) (hR : z_R X (some .int)) (hM : z_rmOf X = z_rm 0 0) (n : Nat) (r : Int32 × z_S) (S : z_S) (h : f_B_add_p_53 n S = some r) : z_At X A (z_QI X Ω A r.1 (wN Ω r.2)) Ω 0 0 5 53 [(0, .ref (Ω.2.2 3))] [] (wN Ω S) := by
  refine z_aload_n rfl 0 rfl hC d_B_add_53 (q := 54) rfl ?_
  refine z_dup rfl hC d_B_add_54 (q := 55) rfl ?_
  refine gf_B_24_3 hC d_B_add_55 (q := 58) rfl ?_
  refine z_iconst (v := (1 : Int32)) (by decide) hC d_B_add_58 (q := 59) rfl ?_
  refine z_iadd hC d_B_add_59 (q := 60) rfl ?_
  refine pf_B_24_3 hC d_B_add_60 (q := 63) rfl ?_
  refine z_aload_n rfl 0 rfl hC d_B_add_63 (q := 64) rfl ?_
  refine gf_B_24_3 hC d_B_add_64 (q := 67) rfl ?_
  refine z_iconst (v := (1 : Int32)) (by decide) hC d_B_add_67 (q := 68) rfl ?_
  refine z_isub hC d_B_add_68 (q := 69) rfl ?_
  cases h
  exact z_iret hC hR rfl rfl d_B_add_69
set_option maxRecDepth 20000 in
theorem w_B_add_p_32 {X : z_X} {A : Nat → Prop} {Ω : z_O} (hC : z_C X b_B_add 5 "NodalAuction$Book" Ω) (hA : z_hA X A) (hR : z_R X (some .int)) (hM : z_rmOf X = z_rm 0 0) (n : Nat) (r : Int32 × z_S) (x3 : Int32) (x4 : Int32) (S : z_S) (h : f_B_add_p_32 n x3 x4 S = some r) : z_At X A (z_QI X Ω A r.1 (wN Ω r.2)) Ω 0 0 5 32 [(0, .ref (Ω.2.2 3)), (3, .int x3), (4, .int x4)] [] (wN Ω S) := by
  refine z_aload_n rfl 0 rfl hC d_B_add_32 (q := 33) rfl ?_
  refine gf_B_18_3 hC d_B_add_33 (q := 36) rfl ?_
  refine z_aload_n rfl 0 rfl hC d_B_add_36 (q := 37) rfl ?_
  refine gf_B_24_3 hC d_B_add_37 (q := 40) rfl ?_
  refine z_iload_n rfl 1 rfl hC d_B_add_40 (q := 41) rfl ?_
  obtain ⟨hv1, h⟩ := ck_some h
  refine as_wN_19 hC hv1 d_B_add_41 (q := 42) rfl ?_
  refine z_aload_n rfl 0 rfl hC d_B_add_42 (q := 43) rfl ?_
  refine gf_B_21_3 hC d_B_add_43 (q := 46) rfl ?_
  refine z_aload_n rfl 0 rfl hC d_B_add_46 (q := 47) rfl ?_
  refine gf_B_24_3 hC d_B_add_47 (q := 50) rfl ?_
  refine z_iload 2 rfl hC d_B_add_50 (q := 52) rfl ?_
  obtain ⟨hv2, h⟩ := ck_some h
  refine as_wN_20 hC hv2 d_B_add_52 (q := 53) rfl ?_
  refine z_sub [0] rfl ?_
  exact w_B_add_p_53 hC hA hR hM n r (sI (sI S 11 (upd (gI S 11) ((gF S 2).toNatClampNeg) x3)) 12 (upd (gI (sI S 11 (upd (gI S 11) ((gF S 2).toNatClampNeg) x3)) 12) ((gF (sI S 11 (upd (gI S 11) ((gF S 2).toNatClampNeg) x3)) 2).toNatClampNeg) x4)) h
set_option maxRecDepth 20000 in
theorem w_B_add_p {X : z_X} {A : Nat → Prop} {Ω : z_O} (hC : z_C X b_B_add 5 "NodalAuction$Book" Ω) (hA : z_hA X A) (hR : z_R X (some .int)) (hM : z_rmOf X = z_rm 0 0) (n : Nat) (r : Int32 × z_S) (x1 : Int32) (x2 : Int32) (x3 : Int32) (x4 : Int32) (S : z_S) (h : f_B_add_p n x1 x2 x3 x4 S = some r) : z_At X A (z_QI X Ω A r.1 (wN Ω r.2)) Ω 0 0 5 0 [(0, .ref (Ω.2.2 3)), (1, .int x1), (2, .int x2), (3, .int x3), (4, .int x4)] [] (wN Ω S) := by
  refine z_aload_n rfl 0 rfl hC d_B_add_0 (q := 1) rfl ?_
  refine gf_B_24_3 hC d_B_add_1 (q := 4) rfl ?_
  refine z_bipush (v := (8 : Int32)) (by decide) hC d_B_add_4 (q := 6) rfl ?_
  refine z_icmp_lt (tgt := 12) (q := 9) hC d_B_add_6 rfl rfl (fun hb => ?_) (fun hb => ?_)
  · have h := (if_pos hb).symm.trans h
    refine z_aload_n rfl 0 rfl hC d_B_add_12 (q := 13) rfl ?_
    refine gf_B_9_3 hC d_B_add_13 (q := 16) rfl ?_
    refine z_aload_n rfl 0 rfl hC d_B_add_16 (q := 17) rfl ?_
    refine gf_B_24_3 hC d_B_add_17 (q := 20) rfl ?_
    refine z_iload_n rfl 1 rfl hC d_B_add_20 (q := 21) rfl ?_
    obtain ⟨hv1, h⟩ := ck_some h
    refine as_wN_17 hC hv1 d_B_add_21 (q := 22) rfl ?_
    refine z_aload_n rfl 0 rfl hC d_B_add_22 (q := 23) rfl ?_
    refine gf_B_15_3 hC d_B_add_23 (q := 26) rfl ?_
    refine z_aload_n rfl 0 rfl hC d_B_add_26 (q := 27) rfl ?_
    refine gf_B_24_3 hC d_B_add_27 (q := 30) rfl ?_
    refine z_iload_n rfl 2 rfl hC d_B_add_30 (q := 31) rfl ?_
    obtain ⟨hv2, h⟩ := ck_some h
    refine as_wN_18 hC hv2 d_B_add_31 (q := 32) rfl ?_
    refine z_sub [0, 3, 4] rfl ?_
    exact w_B_add_p_32 hC hA hR hM n r x3 x4 (sI (sI S 9 (upd (gI S 9) ((gF S 2).toNatClampNeg) x1)) 10 (upd (gI (sI S 9 (upd (gI S 9) ((gF S 2).toNatClampNeg) x1)) 10) ((gF (sI S 9 (upd (gI S 9) ((gF S 2).toNatClampNeg) x1)) 2).toNatClampNeg) x2)) h
  · have h := (if_neg hb).symm.trans h
    refine z_ldc (v := (-2147483648 : Int32)) k_225 hC d_B_add_9 (q := 11) rfl ?_
    cases h
    exact z_iret hC hR rfl rfl d_B_add_11
theorem c_B_add_p (l : Launch) (Ω : z_O) (n : Nat) (x1 : Int32) (x2 : Int32) (x3 : Int32) (x4 : Int32) (S : z_S) (r : Int32 × z_S) (h : f_B_add_p n x1 x2 x3 x4 S = some r) : z_MI l Ω y_B_add b_B_add 5 .int 0 0 [.ref (Ω.2.2 3), .int x1, .int x2, .int x3, .int x4] (wN Ω S) r.1 (wN Ω r.2) := z_introI (by decide +kernel) (Nat.le_of_ble_eq_true rfl) rfl (fun X A hC hA hR _ hM => w_B_add_p hC hA hR hM n r x1 x2 x3 x4 S h)
def f_B_remove_68 (n : Nat) (k2 : Int32 → z_S → Option (Unit × z_S)) (x2 : Int32) (S : z_S) : Option (Unit × z_S) := k2 (x2 + (1 : Int32)) S
def f_B_remove_40 (n : Nat) (k2 : Int32 → z_S → Option (Unit × z_S)) (x2 : Int32) (S : z_S) : Option (Unit × z_S) := ck (vi (x2 + (1 : Int32)) 8) (ck (vi x2 8) (ck (vi (x2 + (1 : Int32)) 8) (ck (vi x2 8) (f_B_remove_68 n k2 x2 (sI (sI S 7 (upd (gI S 7) x2.toNatClampNeg (gI S 7 ((x2 + (1 : Int32)).toNatClampNeg)))) 8 (upd (gI (sI S 7 (upd (gI S 7) x2.toNatClampNeg (gI S 7 ((x2 + (1 : Int32)).toNatClampNeg)))) 8) x2.toNatClampNeg (gI (sI S 7 (upd (gI S 7) x2.toNatClampNeg (gI S 7 ((x2 + (1 : Int32)).toNatClampNeg)))) 8 ((x2 + (1 : Int32)).toNatClampNeg))))))))
def f_B_remove_2 (n : Nat) : Nat → Int32 → z_S → Option (Unit × z_S)
  | 0, _, _ => none
  | q + 1, x2, S => (if (gF S 1) ≤ (x2 + (1 : Int32)) then some ((), sF S 1 ((gF S 1) - (1 : Int32))) else ck (vi (x2 + (1 : Int32)) 8) (ck (vi x2 8) (ck (vi (x2 + (1 : Int32)) 8) (ck (vi x2 8) (f_B_remove_40 n (f_B_remove_2 n q) x2 (sI (sI S 5 (upd (gI S 5) x2.toNatClampNeg (gI S 5 ((x2 + (1 : Int32)).toNatClampNeg)))) 6 (upd (gI (sI S 5 (upd (gI S 5) x2.toNatClampNeg (gI S 5 ((x2 + (1 : Int32)).toNatClampNeg)))) 6) x2.toNatClampNeg (gI (sI S 5 (upd (gI S 5) x2.toNatClampNeg (gI S 5 ((x2 + (1 : Int32)).toNatClampNeg)))) 6 ((x2 + (1 : Int32)).toNatClampNeg)))))))))
def f_B_remove (n : Nat) (x1 : Int32) (S : z_S) : Option (Unit × z_S) := f_B_remove_2 n n x1 S
set_option maxRecDepth 20000 in
theorem w_B_remove_68 {X : z_X} {A : Nat → Prop} {Ω : z_O} (hC : z_C X b_B_remove 3 "NodalAuction$Book" Ω) (hA : z_hA X A) (hR : z_R X none) (hM : z_rmOf X = z_rm 0 0) (n : Nat) (r : Unit × z_S) (k2 : Int32 → z_S → Option (Unit × z_S)) (hk2 : ∀ (x2 : Int32) (S : z_S), k2 x2 S = some r → z_At X A (z_QV X Ω A (wN Ω r.2)) Ω 0 0 3 2 [(0, .ref (Ω.2.2 2)), (2, .int x2)] [] (wN Ω S)) (x2 : Int32) (S : z_S) (h : f_B_remove_68 n k2 x2 S = some r) : z_At X A (z_QV X Ω A (wN Ω r.2)) Ω 0 0 3 68 [(0, .ref (Ω.2.2 2)), (2, .int x2)] [] (wN Ω S) := by
  refine z_iinc (lv' := [(2, .int (x2 + (1 : Int32))), (0, .ref (Ω.2.2 2))]) 1 rfl rfl (by decide) rfl hC d_B_remove_68 (q := 71) rfl ?_
  refine z_goto (tgt := 2) hC d_B_remove_71 rfl ?_
  refine z_sub [1, 0] rfl ?_
  exact hk2 (x2 + (1 : Int32)) S h
set_option maxRecDepth 20000 in
theorem w_B_remove_40 {X : z_X} {A : Nat → Prop} {Ω : z_O} (hC : z_C X b_B_remove 3 "NodalAuction$Book" Ω) (hA : z_hA X A) (hR : z_R X none) (hM : z_rmOf X = z_rm 0 0) (n : Nat) (r : Unit × z_S) (k2 : Int32 → z_S → Option (Unit × z_S)) (hk2 : ∀ (x2 : Int32) (S : z_S), k2 x2 S = some r → z_At X A (z_QV X Ω A (wN Ω r.2)) Ω 0 0 3 2 [(0, .ref (Ω.2.2 2)), (2, .int x2)] [] (wN Ω S)) (x2 : Int32) (S : z_S) (h : f_B_remove_40 n k2 x2 S = some r) : z_At X A (z_QV X Ω A (wN Ω r.2)) Ω 0 0 3 40 [(0, .ref (Ω.2.2 2)), (2, .int x2)] [] (wN Ω S) := by
  refine z_aload_n rfl 0 rfl hC d_B_remove_40 (q := 41) rfl ?_
  refine gf_B_18_2 hC d_B_remove_41 (q := 44) rfl ?_
  refine z_iload_n rfl 1 rfl hC d_B_remove_44 (q := 45) rfl ?_
  refine z_aload_n rfl 0 rfl hC d_B_remove_45 (q := 46) rfl ?_
  refine gf_B_18_2 hC d_B_remove_46 (q := 49) rfl ?_
  refine z_iload_n rfl 1 rfl hC d_B_remove_49 (q := 50) rfl ?_
  refine z_iconst (v := (1 : Int32)) (by decide) hC d_B_remove_50 (q := 51) rfl ?_
  refine z_iadd hC d_B_remove_51 (q := 52) rfl ?_
  obtain ⟨hv1, h⟩ := ck_some h
  refine al_wN_15 hC hv1 d_B_remove_52 (q := 53) rfl ?_
  obtain ⟨hv2, h⟩ := ck_some h
  refine as_wN_15 hC hv2 d_B_remove_53 (q := 54) rfl ?_
  refine z_aload_n rfl 0 rfl hC d_B_remove_54 (q := 55) rfl ?_
  refine gf_B_21_2 hC d_B_remove_55 (q := 58) rfl ?_
  refine z_iload_n rfl 1 rfl hC d_B_remove_58 (q := 59) rfl ?_
  refine z_aload_n rfl 0 rfl hC d_B_remove_59 (q := 60) rfl ?_
  refine gf_B_21_2 hC d_B_remove_60 (q := 63) rfl ?_
  refine z_iload_n rfl 1 rfl hC d_B_remove_63 (q := 64) rfl ?_
  refine z_iconst (v := (1 : Int32)) (by decide) hC d_B_remove_64 (q := 65) rfl ?_
  refine z_iadd hC d_B_remove_65 (q := 66) rfl ?_
  obtain ⟨hv3, h⟩ := ck_some h
  refine al_wN_16 hC hv3 d_B_remove_66 (q := 67) rfl ?_
  obtain ⟨hv4, h⟩ := ck_some h
  refine as_wN_16 hC hv4 d_B_remove_67 (q := 68) rfl ?_
  exact w_B_remove_68 hC hA hR hM n r k2 hk2 x2 (sI (sI S 7 (upd (gI S 7) x2.toNatClampNeg (gI S 7 ((x2 + (1 : Int32)).toNatClampNeg)))) 8 (upd (gI (sI S 7 (upd (gI S 7) x2.toNatClampNeg (gI S 7 ((x2 + (1 : Int32)).toNatClampNeg)))) 8) x2.toNatClampNeg (gI (sI S 7 (upd (gI S 7) x2.toNatClampNeg (gI S 7 ((x2 + (1 : Int32)).toNatClampNeg)))) 8 ((x2 + (1 : Int32)).toNatClampNeg)))) h
set_option maxRecDepth 20000 in
theorem w_B_remove_2 {X : z_X} {A : Nat → Prop} {Ω : z_O} (hC : z_C X b_B_remove 3 "NodalAuction$Book" Ω) (hA : z_hA X A) (hR : z_R X none) (hM : z_rmOf X = z_rm 0 0) (n : Nat) (r : Unit × z_S) : ∀ (q : Nat) (x2 : Int32) (S : z_S), f_B_remove_2 n q x2 S = some r → z_At X A (z_QV X Ω A (wN Ω r.2)) Ω 0 0 3 2 [(0, .ref (Ω.2.2 2)), (2, .int x2)] [] (wN Ω S) := by
  intro q
  induction q with
  | zero => intro x2 S h; cases h
  | succ q ih =>
    intro x2 S h
    refine z_iload_n rfl 1 rfl hC d_B_remove_2 (q := 3) rfl ?_
    refine z_iconst (v := (1 : Int32)) (by decide) hC d_B_remove_3 (q := 4) rfl ?_
    refine z_iadd hC d_B_remove_4 (q := 5) rfl ?_
    refine z_aload_n rfl 0 rfl hC d_B_remove_5 (q := 6) rfl ?_
    refine gf_B_24_2 hC d_B_remove_6 (q := 9) rfl ?_
    refine z_icmp_ge (tgt := 74) (q := 12) hC d_B_remove_9 rfl rfl (fun hb => ?_) (fun hb => ?_)
    · have h := (if_pos hb).symm.trans h
      refine z_aload_n rfl 0 rfl hC d_B_remove_74 (q := 75) rfl ?_
      refine z_dup rfl hC d_B_remove_75 (q := 76) rfl ?_
      refine gf_B_24_2 hC d_B_remove_76 (q := 79) rfl ?_
      refine z_iconst (v := (1 : Int32)) (by decide) hC d_B_remove_79 (q := 80) rfl ?_
      refine z_isub hC d_B_remove_80 (q := 81) rfl ?_
      refine pf_B_24_2 hC d_B_remove_81 (q := 84) rfl ?_
      cases h
      exact z_vret hC hR rfl d_B_remove_84
    · have h := (if_neg hb).symm.trans h
      refine z_aload_n rfl 0 rfl hC d_B_remove_12 (q := 13) rfl ?_
      refine gf_B_9_2 hC d_B_remove_13 (q := 16) rfl ?_
      refine z_iload_n rfl 1 rfl hC d_B_remove_16 (q := 17) rfl ?_
      refine z_aload_n rfl 0 rfl hC d_B_remove_17 (q := 18) rfl ?_
      refine gf_B_9_2 hC d_B_remove_18 (q := 21) rfl ?_
      refine z_iload_n rfl 1 rfl hC d_B_remove_21 (q := 22) rfl ?_
      refine z_iconst (v := (1 : Int32)) (by decide) hC d_B_remove_22 (q := 23) rfl ?_
      refine z_iadd hC d_B_remove_23 (q := 24) rfl ?_
      obtain ⟨hv1, h⟩ := ck_some h
      refine al_wN_13 hC hv1 d_B_remove_24 (q := 25) rfl ?_
      obtain ⟨hv2, h⟩ := ck_some h
      refine as_wN_13 hC hv2 d_B_remove_25 (q := 26) rfl ?_
      refine z_aload_n rfl 0 rfl hC d_B_remove_26 (q := 27) rfl ?_
      refine gf_B_15_2 hC d_B_remove_27 (q := 30) rfl ?_
      refine z_iload_n rfl 1 rfl hC d_B_remove_30 (q := 31) rfl ?_
      refine z_aload_n rfl 0 rfl hC d_B_remove_31 (q := 32) rfl ?_
      refine gf_B_15_2 hC d_B_remove_32 (q := 35) rfl ?_
      refine z_iload_n rfl 1 rfl hC d_B_remove_35 (q := 36) rfl ?_
      refine z_iconst (v := (1 : Int32)) (by decide) hC d_B_remove_36 (q := 37) rfl ?_
      refine z_iadd hC d_B_remove_37 (q := 38) rfl ?_
      obtain ⟨hv3, h⟩ := ck_some h
      refine al_wN_14 hC hv3 d_B_remove_38 (q := 39) rfl ?_
      obtain ⟨hv4, h⟩ := ck_some h
      refine as_wN_14 hC hv4 d_B_remove_39 (q := 40) rfl ?_
      exact w_B_remove_40 hC hA hR hM n r (f_B_remove_2 n q) ih x2 (sI (sI S 5 (upd (gI S 5) x2.toNatClampNeg (gI S 5 ((x2 + (1 : Int32)).toNatClampNeg)))) 6 (upd (gI (sI S 5 (upd (gI S 5) x2.toNatClampNeg (gI S 5 ((x2 + (1 : Int32)).toNatClampNeg)))) 6) x2.toNatClampNeg (gI (sI S 5 (upd (gI S 5) x2.toNatClampNeg (gI S 5 ((x2 + (1 : Int32)).toNatClampNeg)))) 6 ((x2 + (1 : Int32)).toNatClampNeg)))) h
set_option maxRecDepth 20000 in
theorem w_B_remove {X : z_X} {A : Nat → Prop} {Ω : z_O} (hC : z_C X b_B_remove 3 "NodalAuction$Book" Ω) (hA : z_hA X A) (hR : z_R X none) (hM : z_rmOf X = z_rm 0 0) (n : Nat) (r : Unit × z_S) (x1 : Int32) (S : z_S) (h : f_B_remove n x1 S = some r) : z_At X A (z_QV X Ω A (wN Ω r.2)) Ω 0 0 3 0 [(0, .ref (Ω.2.2 2)), (1, .int x1)] [] (wN Ω S) := by
  refine z_iload_n rfl 1 rfl hC d_B_remove_0 (q := 1) rfl ?_
  refine z_istore_n (lv' := [(2, .int x1), (0, .ref (Ω.2.2 2)), (1, .int x1)]) rfl (by decide) rfl hC d_B_remove_1 (q := 2) rfl ?_
  refine z_sub [1, 0] rfl ?_
  exact w_B_remove_2 hC hA hR hM n r n x1 S h
theorem c_B_remove (l : Launch) (Ω : z_O) (n : Nat) (x1 : Int32) (S : z_S) (r : Unit × z_S) (h : f_B_remove n x1 S = some r) : z_MV l Ω y_B_remove b_B_remove 3 0 0 [.ref (Ω.2.2 2), .int x1] (wN Ω S) (wN Ω r.2) := z_introV (by decide +kernel) (Nat.le_of_ble_eq_true rfl) rfl (fun X A hC hA hR _ hM => w_B_remove hC hA hR hM n r x1 S h)
def f_B_remove_p_68 (n : Nat) (k2 : Int32 → z_S → Option (Unit × z_S)) (x2 : Int32) (S : z_S) : Option (Unit × z_S) := k2 (x2 + (1 : Int32)) S
def f_B_remove_p_40 (n : Nat) (k2 : Int32 → z_S → Option (Unit × z_S)) (x2 : Int32) (S : z_S) : Option (Unit × z_S) := ck (vi (x2 + (1 : Int32)) 8) (ck (vi x2 8) (ck (vi (x2 + (1 : Int32)) 8) (ck (vi x2 8) (f_B_remove_p_68 n k2 x2 (sI (sI S 11 (upd (gI S 11) x2.toNatClampNeg (gI S 11 ((x2 + (1 : Int32)).toNatClampNeg)))) 12 (upd (gI (sI S 11 (upd (gI S 11) x2.toNatClampNeg (gI S 11 ((x2 + (1 : Int32)).toNatClampNeg)))) 12) x2.toNatClampNeg (gI (sI S 11 (upd (gI S 11) x2.toNatClampNeg (gI S 11 ((x2 + (1 : Int32)).toNatClampNeg)))) 12 ((x2 + (1 : Int32)).toNatClampNeg))))))))
def f_B_remove_p_2 (n : Nat) : Nat → Int32 → z_S → Option (Unit × z_S)
  | 0, _, _ => none
  | q + 1, x2, S => (if (gF S 2) ≤ (x2 + (1 : Int32)) then some ((), sF S 2 ((gF S 2) - (1 : Int32))) else ck (vi (x2 + (1 : Int32)) 8) (ck (vi x2 8) (ck (vi (x2 + (1 : Int32)) 8) (ck (vi x2 8) (f_B_remove_p_40 n (f_B_remove_p_2 n q) x2 (sI (sI S 9 (upd (gI S 9) x2.toNatClampNeg (gI S 9 ((x2 + (1 : Int32)).toNatClampNeg)))) 10 (upd (gI (sI S 9 (upd (gI S 9) x2.toNatClampNeg (gI S 9 ((x2 + (1 : Int32)).toNatClampNeg)))) 10) x2.toNatClampNeg (gI (sI S 9 (upd (gI S 9) x2.toNatClampNeg (gI S 9 ((x2 + (1 : Int32)).toNatClampNeg)))) 10 ((x2 + (1 : Int32)).toNatClampNeg)))))))))
def f_B_remove_p (n : Nat) (x1 : Int32) (S : z_S) : Option (Unit × z_S) := f_B_remove_p_2 n n x1 S
set_option maxRecDepth 20000 in
theorem w_B_remove_p_68 {X : z_X} {A : Nat → Prop} {Ω : z_O} (hC : z_C X b_B_remove 3 "NodalAuction$Book" Ω) (hA : z_hA X A) (hR : z_R X none) (hM : z_rmOf X = z_rm 0 0) (n : Nat) (r : Unit × z_S) (k2 : Int32 → z_S → Option (Unit × z_S)) (hk2 : ∀ (x2 : Int32) (S : z_S), k2 x2 S = some r → z_At X A (z_QV X Ω A (wN Ω r.2)) Ω 0 0 3 2 [(0, .ref (Ω.2.2 3)), (2, .int x2)] [] (wN Ω S)) (x2 : Int32) (S : z_S) (h : f_B_remove_p_68 n k2 x2 S = some r) : z_At X A (z_QV X Ω A (wN Ω r.2)) Ω 0 0 3 68 [(0, .ref (Ω.2.2 3)), (2, .int x2)] [] (wN Ω S) := by
  refine z_iinc (lv' := [(2, .int (x2 + (1 : Int32))), (0, .ref (Ω.2.2 3))]) 1 rfl rfl (by decide) rfl hC d_B_remove_68 (q := 71) rfl ?_
  refine z_goto (tgt := 2) hC d_B_remove_71 rfl ?_
  refine z_sub [1, 0] rfl ?_
  exact hk2 (x2 + (1 : Int32)) S h
set_option maxRecDepth 20000 in
theorem w_B_remove_p_40 {X : z_X} {A : Nat → Prop} {Ω : z_O} (hC : z_C X b_B_remove 3 "NodalAuction$Book" Ω) (hA : z_hA X A) (hR : z_R X none) (hM : z_rmOf X = z_rm 0 0) (n : Nat) (r : Unit × z_S) (k2 : Int32 → z_S → Option (Unit × z_S)) (hk2 : ∀ (x2 : Int32) (S : z_S), k2 x2 S = some r → z_At X A (z_QV X Ω A (wN Ω r.2)) Ω 0 0 3 2 [(0, .ref (Ω.2.2 3)), (2, .int x2)] [] (wN Ω S)) (x2 : Int32) (S : z_S) (h : f_B_remove_p_40 n k2 x2 S = some r) : z_At X A (z_QV X Ω A (wN Ω r.2)) Ω 0 0 3 40 [(0, .ref (Ω.2.2 3)), (2, .int x2)] [] (wN Ω S) := by
  refine z_aload_n rfl 0 rfl hC d_B_remove_40 (q := 41) rfl ?_
  refine gf_B_18_3 hC d_B_remove_41 (q := 44) rfl ?_
  refine z_iload_n rfl 1 rfl hC d_B_remove_44 (q := 45) rfl ?_
  refine z_aload_n rfl 0 rfl hC d_B_remove_45 (q := 46) rfl ?_
  refine gf_B_18_3 hC d_B_remove_46 (q := 49) rfl ?_
  refine z_iload_n rfl 1 rfl hC d_B_remove_49 (q := 50) rfl ?_
  refine z_iconst (v := (1 : Int32)) (by decide) hC d_B_remove_50 (q := 51) rfl ?_
  refine z_iadd hC d_B_remove_51 (q := 52) rfl ?_
  obtain ⟨hv1, h⟩ := ck_some h
  refine al_wN_19 hC hv1 d_B_remove_52 (q := 53) rfl ?_
  obtain ⟨hv2, h⟩ := ck_some h
  refine as_wN_19 hC hv2 d_B_remove_53 (q := 54) rfl ?_
  refine z_aload_n rfl 0 rfl hC d_B_remove_54 (q := 55) rfl ?_
  refine gf_B_21_3 hC d_B_remove_55 (q := 58) rfl ?_
  refine z_iload_n rfl 1 rfl hC d_B_remove_58 (q := 59) rfl ?_
  refine z_aload_n rfl 0 rfl hC d_B_remove_59 (q := 60) rfl ?_
  refine gf_B_21_3 hC d_B_remove_60 (q := 63) rfl ?_
  refine z_iload_n rfl 1 rfl hC d_B_remove_63 (q := 64) rfl ?_
  refine z_iconst (v := (1 : Int32)) (by decide) hC d_B_remove_64 (q := 65) rfl ?_
  refine z_iadd hC d_B_remove_65 (q := 66) rfl ?_
  obtain ⟨hv3, h⟩ := ck_some h
  refine al_wN_20 hC hv3 d_B_remove_66 (q := 67) rfl ?_
  obtain ⟨hv4, h⟩ := ck_some h
  refine as_wN_20 hC hv4 d_B_remove_67 (q := 68) rfl ?_
  exact w_B_remove_p_68 hC hA hR hM n r k2 hk2 x2 (sI (sI S 11 (upd (gI S 11) x2.toNatClampNeg (gI S 11 ((x2 + (1 : Int32)).toNatClampNeg)))) 12 (upd (gI (sI S 11 (upd (gI S 11) x2.toNatClampNeg (gI S 11 ((x2 + (1 : Int32)).toNatClampNeg)))) 12) x2.toNatClampNeg (gI (sI S 11 (upd (gI S 11) x2.toNatClampNeg (gI S 11 ((x2 + (1 : Int32)).toNatClampNeg)))) 12 ((x2 + (1 : Int32)).toNatClampNeg)))) h
set_option maxRecDepth 20000 in
theorem w_B_remove_p_2 {X : z_X} {A : Nat → Prop} {Ω : z_O} (hC : z_C X b_B_remove 3 "NodalAuction$Book" Ω) (hA : z_hA X A) (hR : z_R X none) (hM : z_rmOf X = z_rm 0 0) (n : Nat) (r : Unit × z_S) : ∀ (q : Nat) (x2 : Int32) (S : z_S), f_B_remove_p_2 n q x2 S = some r → z_At X A (z_QV X Ω A (wN Ω r.2)) Ω 0 0 3 2 [(0, .ref (Ω.2.2 3)), (2, .int x2)] [] (wN Ω S) := by
  intro q
  induction q with
  | zero => intro x2 S h; cases h
  | succ q ih =>
    intro x2 S h
    refine z_iload_n rfl 1 rfl hC d_B_remove_2 (q := 3) rfl ?_
    refine z_iconst (v := (1 : Int32)) (by decide) hC d_B_remove_3 (q := 4) rfl ?_
    refine z_iadd hC d_B_remove_4 (q := 5) rfl ?_
    refine z_aload_n rfl 0 rfl hC d_B_remove_5 (q := 6) rfl ?_
    refine gf_B_24_3 hC d_B_remove_6 (q := 9) rfl ?_
    refine z_icmp_ge (tgt := 74) (q := 12) hC d_B_remove_9 rfl rfl (fun hb => ?_) (fun hb => ?_)
    · have h := (if_pos hb).symm.trans h
      refine z_aload_n rfl 0 rfl hC d_B_remove_74 (q := 75) rfl ?_
      refine z_dup rfl hC d_B_remove_75 (q := 76) rfl ?_
      refine gf_B_24_3 hC d_B_remove_76 (q := 79) rfl ?_
      refine z_iconst (v := (1 : Int32)) (by decide) hC d_B_remove_79 (q := 80) rfl ?_
      refine z_isub hC d_B_remove_80 (q := 81) rfl ?_
      refine pf_B_24_3 hC d_B_remove_81 (q := 84) rfl ?_
      cases h
      exact z_vret hC hR rfl d_B_remove_84
    · have h := (if_neg hb).symm.trans h
      refine z_aload_n rfl 0 rfl hC d_B_remove_12 (q := 13) rfl ?_
      refine gf_B_9_3 hC d_B_remove_13 (q := 16) rfl ?_
      refine z_iload_n rfl 1 rfl hC d_B_remove_16 (q := 17) rfl ?_
      refine z_aload_n rfl 0 rfl hC d_B_remove_17 (q := 18) rfl ?_
      refine gf_B_9_3 hC d_B_remove_18 (q := 21) rfl ?_
      refine z_iload_n rfl 1 rfl hC d_B_remove_21 (q := 22) rfl ?_
      refine z_iconst (v := (1 : Int32)) (by decide) hC d_B_remove_22 (q := 23) rfl ?_
      refine z_iadd hC d_B_remove_23 (q := 24) rfl ?_
      obtain ⟨hv1, h⟩ := ck_some h
      refine al_wN_17 hC hv1 d_B_remove_24 (q := 25) rfl ?_
      obtain ⟨hv2, h⟩ := ck_some h
      refine as_wN_17 hC hv2 d_B_remove_25 (q := 26) rfl ?_
      refine z_aload_n rfl 0 rfl hC d_B_remove_26 (q := 27) rfl ?_
      refine gf_B_15_3 hC d_B_remove_27 (q := 30) rfl ?_
      refine z_iload_n rfl 1 rfl hC d_B_remove_30 (q := 31) rfl ?_
      refine z_aload_n rfl 0 rfl hC d_B_remove_31 (q := 32) rfl ?_
      refine gf_B_15_3 hC d_B_remove_32 (q := 35) rfl ?_
      refine z_iload_n rfl 1 rfl hC d_B_remove_35 (q := 36) rfl ?_
      refine z_iconst (v := (1 : Int32)) (by decide) hC d_B_remove_36 (q := 37) rfl ?_
      refine z_iadd hC d_B_remove_37 (q := 38) rfl ?_
      obtain ⟨hv3, h⟩ := ck_some h
      refine al_wN_18 hC hv3 d_B_remove_38 (q := 39) rfl ?_
      obtain ⟨hv4, h⟩ := ck_some h
      refine as_wN_18 hC hv4 d_B_remove_39 (q := 40) rfl ?_
      exact w_B_remove_p_40 hC hA hR hM n r (f_B_remove_p_2 n q) ih x2 (sI (sI S 9 (upd (gI S 9) x2.toNatClampNeg (gI S 9 ((x2 + (1 : Int32)).toNatClampNeg)))) 10 (upd (gI (sI S 9 (upd (gI S 9) x2.toNatClampNeg (gI S 9 ((x2 + (1 : Int32)).toNatClampNeg)))) 10) x2.toNatClampNeg (gI (sI S 9 (upd (gI S 9) x2.toNatClampNeg (gI S 9 ((x2 + (1 : Int32)).toNatClampNeg)))) 10 ((x2 + (1 : Int32)).toNatClampNeg)))) h
set_option maxRecDepth 20000 in
theorem w_B_remove_p {X : z_X} {A : Nat → Prop} {Ω : z_O} (hC : z_C X b_B_remove 3 "NodalAuction$Book" Ω) (hA : z_hA X A) (hR : z_R X none) (hM : z_rmOf X = z_rm 0 0) (n : Nat) (r : Unit × z_S) (x1 : Int32) (S : z_S) (h : f_B_remove_p n x1 S = some r) : z_At X A (z_QV X Ω A (wN Ω r.2)) Ω 0 0 3 0 [(0, .ref (Ω.2.2 3)), (1, .int x1)] [] (wN Ω S) := by
  refine z_iload_n rfl 1 rfl hC d_B_remove_0 (q := 1) rfl ?_
  refine z_istore_n (lv' := [(2, .int x1), (0, .ref (Ω.2.2 3)), (1, .int x1)]) rfl (by decide) rfl hC d_B_remove_1 (q := 2) rfl ?_
  refine z_sub [1, 0] rfl ?_
  exact w_B_remove_p_2 hC hA hR hM n r n x1 S h
theorem c_B_remove_p (l : Launch) (Ω : z_O) (n : Nat) (x1 : Int32) (S : z_S) (r : Unit × z_S) (h : f_B_remove_p n x1 S = some r) : z_MV l Ω y_B_remove b_B_remove 3 0 0 [.ref (Ω.2.2 3), .int x1] (wN Ω S) (wN Ω r.2) := z_introV (by decide +kernel) (Nat.le_of_ble_eq_true rfl) rfl (fun X A hC hA hR _ hM => w_B_remove_p hC hA hR hM n r x1 S h)
end
