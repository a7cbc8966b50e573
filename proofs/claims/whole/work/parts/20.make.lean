/-! ===== BEGIN new T[n][m]: the outer array a place, the inner ones among the pooled ===== -/
/-- f, but v at every address of l -/
def vr_up {α : Type} (f : Nat → α) (l : List Nat) (v : α) : Nat → α := fun a => if a ∈ l then v else f a
theorem vr_up_in {α : Type} {f : Nat → α} {l : List Nat} {v : α} {a : Nat} (h : a ∈ l) : vr_up f l v a = v := if_pos h
theorem vr_up_ne {α : Type} {f : Nat → α} {l : List Nat} {v : α} {a : Nat} (h : a ∉ l) : vr_up f l v a = f a := if_neg h
theorem vr_rows {L l : List Nat} {f : Nat → va_E} {e : va_E} (h : ∀ a, a ∈ l → a ∉ L) : va_pl L f ++ l.map (fun a => (a, e)) = va_pl (L ++ l) (vr_up f l e) := by
  unfold va_pl
  rw [List.map_append]
  congr 1
  · apply List.map_congr_left
    intro a ha
    rw [vr_up_ne (fun q => h a q ha)]
  · apply List.map_congr_left
    intro a ha
    rw [vr_up_in ha]
theorem vr_lay {X rows : va_W} {x : Nat × va_E} {pl : va_W} {D : va_G} {cl : List vw_C} {H : Heap} (hP : va_P D cl (((X ++ pl) ++ [x]) ++ rows) H) : va_P D cl ((X ++ [x]) ++ (pl ++ rows)) H := by
  rw [List.append_assoc (X ++ pl)] at hP
  have h := va_P.swap hP
  rw [← List.append_assoc X] at h
  have h2 := va_P.swap h
  rw [List.append_assoc (X ++ [x])] at h2
  exact h2
theorem vr_layD {X rows : va_W} {x : Nat × va_E} {pl : va_W} {A : Nat → Prop} (hD : va_D A (((X ++ pl) ++ [x]) ++ rows)) : va_D A ((X ++ [x]) ++ (pl ++ rows)) := by
  rw [List.append_assoc (X ++ pl)] at hD
  have h := va_D.swap hD
  rw [← List.append_assoc X] at h
  have h2 := va_D.swap h
  rw [List.append_assoc (X ++ [x])] at h2
  exact h2
theorem vr_outer (c : ClassId) (N h0 : Nat) : ∀ i : Nat, Jvm.Free.Multi.outerC c N h0 i = arrV c N (fun j => va_rf (if j < i then some (h0 + 1 + j) else none))
  | 0 => by
    show ({ cls := c, slots := Array.replicate N .null, vm := .none } : Cell) = _
    rw [arrV_new]
    refine congrArg (arrV c N) (funext fun j => ?_)
    simp [va_rf]
  | i + 1 => by
    show (Jvm.Free.Multi.outerC c N h0 i).setSlot i (.ref (h0 + 1 + i)) = _
    rw [vr_outer c N h0 i, arrV_store]
    refine congrArg (arrV c N) (funext fun j => ?_)
    by_cases e : j = i
    · subst e
      simp [updV, va_rf]
    · by_cases h : j < i
      · simp [updV, e, h, Nat.lt_succ_of_lt h]
      · simp [updV, e, h, show ¬ j < i + 1 by omega]
section VGM
variable {p : Program} {l : Launch} {e : Env} {R : Room} {s : State} {m : MethodId} {args : Array Value} {below : List Frame} {meth : Method} {c : Code} {H : Heap} {locs : List Loc} {cells slots : Nat} {Q : State → Prop}
variable {cc : ByteArray} {pc : Nat} {ls : Array Slot} {rest : List Value} {D : va_G} {cl : List vw_C} {A : Nat → Prop} {a : Nat} {tys : List (ClassId × FieldType)} {ws : va_W} {H0 : Heap}
theorem va_mna {X : va_W} {L : List Nat} {f : Nat → va_E} {cc : ByteArray} (hexec : p.tables.exec = Jvm.exec) (hb : c.code = cc) {own : String} {index : Nat} {ty : FieldType} {cy : ClassId} (hown : s.vm.findClass own = some m.cls) (hclink : (Cond.classLink own index ("[" ++ (FieldType.array ty).toString)).before args s = true) (hover : (Cond.arrayOver (.array ty)).before args s = true) (harr : (Cond.arrayClass ty).before args s = true) (hcy : s.vm.findClass (FieldType.array ty).toString = some cy)
    (hK : va_K D cl tys s) (hP : va_P D cl (X ++ va_pl L f) H) (hD : va_D A (X ++ va_pl L f)) (hS : va_S A H0 H locs) (hA : ∀ q, H0.size ≤ q → A q) {n k : Int32} {N' K' : Nat} {z : vp_A} (hn : ¬ n < 0) (hk : ¬ k < 0) (hN : n.toNatClampNeg = N') (hM : k.toNatClampNeg = K')
    (hb1 : N' * 4 ≤ 536870912) (hb2 : K' * componentBytes ty ≤ 536870912) (hb3 : K' ≤ 536870912) (hdf : fits ty (defaultValue ty) = true) (hdd : (defaultValue ty).isDefault = true) (hcells : cells + (1 + N') ≤ R.cells) (hslots : slots + (N' + N' * K') ≤ R.slots) (hz : ∀ c : ClassId, Jvm.Free.Multi.innerC c K' (defaultValue ty) = vp_cell c z) (hdg : decode cc pc = .ok (.multianewarray index 2, 4))
    (kk : ∀ (q : Nat) (r : Nat → Nat) (cA : ClassId) (H1 : Heap), (∀ i j : Nat, i < N' → j < N' → r i = r j → i = j) → (∀ i : Nat, i < N' → r i ∉ L) → va_K D cl (tys ++ [(cA, .array ty)]) s →
      va_P D cl ((X ++ [(q, .inl (cA, N', .inr (.inr (.inr (.inr (fun i => if i < N' then some (r i) else none))))))]) ++ va_pl (L ++ (List.range N').map r) (vr_up f ((List.range N').map r) (.inl (cy, z)))) H1 → va_D A ((X ++ [(q, .inl (cA, N', .inr (.inr (.inr (.inr (fun i => if i < N' then some (r i) else none))))))]) ++ va_pl (L ++ (List.range N').map r) (vr_up f ((List.range N').map r) (.inl (cy, z)))) → va_S A H0 H1 locs →
      W p l e R s m args below meth c H1 locs (cells + 1 + N') (slots + N' + N' * K') Q (F0 m (pc + 4) ls (.ref q :: rest))) : W p l e R s m args below meth c H locs cells slots Q (F0 m pc ls (.int k :: .int n :: rest)) := by
  subst hN
  subst hM
  intro T hT Xs
  obtain ⟨vm₁, cA, comp, -, fA, fC, hO, -, X', step⟩ := Xs.multianewarray2F hexec hown hclink hover harr (g := F0 m pc ls (.int k :: .int n :: rest)) rfl (by rw [hb]; exact hdg) rfl hn hk hb1 hb2 hb3 hdf hdd hcells hslots
  have ec : some cy = some comp := hcy.symm.trans fC
  cases ec
  generalize hF : Jvm.Free.Multi.fill (T.setVm vm₁) cA cy n.toNatClampNeg k.toNatClampNeg (defaultValue ty) n.toNatClampNeg = F at X' step
  have hTh : (T.setVm vm₁).heap = H := hT
  obtain ⟨f1, f2, -, -⟩ := Jvm.Free.Multi.fill_facts (T.setVm vm₁) cA cy n.toNatClampNeg k.toNatClampNeg (defaultValue ty) n.toNatClampNeg
  rw [hF, hTh] at f1 f2
  have hold : ∀ x : Nat, x < H.size → F.heap[x]? = H[x]? := fun x hx => by
    have := Jvm.Free.Multi.fill_old (T.setVm vm₁) cA cy n.toNatClampNeg k.toNatClampNeg (defaultValue ty) (a := x) (by rw [hTh]; exact hx) n.toNatClampNeg
    rw [hF, hTh] at this
    exact this
  have hrow : ∀ j : Nat, j < n.toNatClampNeg → F.heap[H.size + 1 + j]? = some (vp_cell cy z) := fun j hj => by
    have := Jvm.Free.Multi.fill_inner (T.setVm vm₁) cA cy n.toNatClampNeg k.toNatClampNeg (defaultValue ty) n.toNatClampNeg j hj
    rw [hF, hTh, hz] at this
    exact this
  have hout : Jvm.Free.Multi.outerC cA n.toNatClampNeg H.size n.toNatClampNeg = vp_cell cA (n.toNatClampNeg, .inr (.inr (.inr (.inr (fun i => if i < n.toNatClampNeg then some (H.size + 1 + i) else none))))) := by
    rw [vp_cell_q]
    exact vr_outer cA n.toNatClampNeg H.size n.toNatClampNeg
  rw [hout] at f2
  have hlt : ∀ a, a ∈ L → a < H.size := fun a ha => by
    obtain ⟨k9, hk9⟩ := va_pl_get (X := X) (f := f) ha
    exact (hP k9 _ hk9).lt
  have hnl : ∀ i : Nat, i < n.toNatClampNeg → H.size + 1 + i ∉ L := fun i _ h => by
    have := hlt _ h
    omega
  have hnm : ∀ a, a ∈ (List.range n.toNatClampNeg).map (fun i => H.size + 1 + i) → a ∉ L := fun a ha h => by
    obtain ⟨i, -, rfl⟩ := List.mem_map.mp ha
    have := hlt _ h
    omega
  have hP0 : va_P D cl (X ++ va_pl L f) F.heap := hP.kept (fun k9 x hx => hold x.1 ((hP k9 x hx).lt))
  have hP1 : va_P D cl ((X ++ va_pl L f) ++ [(H.size, .inl (cA, n.toNatClampNeg, .inr (.inr (.inr (.inr (fun i => if i < n.toNatClampNeg then some (H.size + 1 + i) else none))))))]) F.heap := hP0.app (fun k9 x hx => by
    have h0 : k9 < 1 := (List.getElem?_eq_some_iff.mp hx).1
    rw [show k9 = 0 by omega] at hx
    cases hx
    exact f2)
  have hP2 : va_P D cl (((X ++ va_pl L f) ++ [(H.size, .inl (cA, n.toNatClampNeg, .inr (.inr (.inr (.inr (fun i => if i < n.toNatClampNeg then some (H.size + 1 + i) else none))))))]) ++ ((List.range n.toNatClampNeg).map (fun i => H.size + 1 + i)).map (fun a => (a, .inl (cy, z)))) F.heap := hP1.app (fun k9 x hx => by
    obtain ⟨a, ha, rfl⟩ := List.mem_map.mp (List.mem_of_getElem? hx)
    obtain ⟨i, hi, rfl⟩ := List.mem_map.mp ha
    exact hrow i (List.mem_range.mp hi))
  have hD2 : va_D A (((X ++ va_pl L f) ++ [(H.size, .inl (cA, n.toNatClampNeg, .inr (.inr (.inr (.inr (fun i => if i < n.toNatClampNeg then some (H.size + 1 + i) else none))))))]) ++ ((List.range n.toNatClampNeg).map (fun i => H.size + 1 + i)).map (fun a => (a, .inl (cy, z)))) := by
    have hD1 := hD.push (e := .inl (cA, n.toNatClampNeg, .inr (.inr (.inr (.inr (fun i => if i < n.toNatClampNeg then some (H.size + 1 + i) else none)))))) hP rfl (hA _ hS.1)
    generalize hW1 : (X ++ va_pl L f) ++ [(H.size, .inl (cA, n.toNatClampNeg, .inr (.inr (.inr (.inr (fun i => if i < n.toNatClampNeg then some (H.size + 1 + i) else none))))))] = W1 at hD1 hP1 ⊢
    have hle : ∀ (k9 : Nat) (x : Nat × va_E), W1[k9]? = some x → x.1 ≤ H.size := fun k9 x hx => by
      rw [← hW1] at hx
      by_cases hl : k9 < (X ++ va_pl L f).length
      · rw [List.getElem?_append_left hl] at hx
        exact Nat.le_of_lt ((hP k9 x hx).lt)
      · rw [List.getElem?_append_right (by omega)] at hx
        have h0 : k9 - (X ++ va_pl L f).length < 1 := (List.getElem?_eq_some_iff.mp hx).1
        rw [show k9 - (X ++ va_pl L f).length = 0 by omega] at hx
        cases hx
        exact Nat.le_refl _
    have hr : ∀ (k9 : Nat) (x : Nat × va_E), (((List.range n.toNatClampNeg).map (fun i => H.size + 1 + i)).map (fun a => ((a, .inl (cy, z)) : Nat × va_E)))[k9]? = some x → x.1 = H.size + 1 + k9 := fun k9 x hx => by
      rw [List.getElem?_map, List.getElem?_map] at hx
      by_cases h9 : k9 < n.toNatClampNeg
      · rw [List.getElem?_range h9] at hx
        cases hx
        rfl
      · have hn0 : (List.range n.toNatClampNeg)[k9]? = none := List.getElem?_eq_none (by rw [List.length_range]; omega)
        rw [hn0] at hx
        cases hx
    refine ⟨fun i j x y hi hj hxy => ?_, fun k9 x hx => ?_⟩
    · by_cases h1 : i < W1.length <;> by_cases h2 : j < W1.length
      · rw [List.getElem?_append_left h1] at hi
        rw [List.getElem?_append_left h2] at hj
        exact hD1.1 i j x y hi hj hxy
      · rw [List.getElem?_append_left h1] at hi
        rw [List.getElem?_append_right (by omega)] at hj
        have := hle _ _ hi
        have := hr _ _ hj
        omega
      · rw [List.getElem?_append_right (by omega)] at hi
        rw [List.getElem?_append_left h2] at hj
        have := hle _ _ hj
        have := hr _ _ hi
        omega
      · rw [List.getElem?_append_right (by omega)] at hi hj
        have := hr _ _ hi
        have := hr _ _ hj
        omega
    · by_cases h1 : k9 < W1.length
      · rw [List.getElem?_append_left h1] at hx
        exact hD1.2 k9 x hx
      · rw [List.getElem?_append_right (by omega)] at hx
        have := hr _ _ hx
        exact hA _ (by have := hS.1; omega)
  have hAr : ArrOfT s cA (.array ty) := fun N9 z9 => by
    obtain ⟨-, k9, hk9, cm9, hkk9⟩ := (hO 0 0 0).1
    exact ⟨(fun q hq => by cases hq), k9, hk9, cm9, hkk9⟩
  have hK2 : va_K D cl (tys ++ [(cA, .array ty)]) s := ⟨hK.1, fun k9 x hx => by
    by_cases hl : k9 < tys.length
    · rw [List.getElem?_append_left hl] at hx
      exact hK.2 k9 x hx
    · rw [List.getElem?_append_right (by omega)] at hx
      have h0 : k9 - tys.length < 1 := (List.getElem?_eq_some_iff.mp hx).1
      rw [show k9 - tys.length = 0 by omega] at hx
      cases hx
      exact ⟨hAr, fA⟩⟩
  obtain ⟨t, a1, b1⟩ := kk H.size (fun i => H.size + 1 + i) cA F.heap (fun i j _ _ h => by have h9 : H.size + 1 + i = H.size + 1 + j := h; omega) hnl hK2 (by rw [← vr_rows hnm]; exact vr_lay hP2) (by rw [← vr_rows hnm]; exact vr_layD hD2) ⟨by rw [f1]; have := hS.1; omega, fun x h1 h2 => (hold x (Nat.lt_of_lt_of_le h1 hS.1)).trans (hS.2.1 x h1 h2), hS.2.2⟩ F rfl X'
  refine ⟨t, step t ?_, b1⟩
  have e : T.heap.size = H.size := by rw [hT]
  rw [e]
  exact a1
end VGM
/-! ===== END ===== -/
/-! making: rows at the walk's level -/
def z_AO (U : State) : Prop := (Cond.arrayOver (.array .long)).before #[] U = true
theorem z_AO_moved {u U : State} (hvm : u.vm.Alike U.vm) (h : z_AO u) : z_AO U := by
  have e := Cond.arrayOver_setVmC (args := #[]) (s := u) hvm (.array .long)
  have e2 : (Cond.arrayOver (.array .long)).before #[] (u.setVm U.vm) = (Cond.arrayOver (.array .long)).before #[] U := rfl
  unfold z_AO
  rw [← e2, e]
  exact h
def z_I (X : z_X) : Prop := match X with
  | (_, _, _, _, s, _, _, _, meth, _) => z_AO s ∧ meth.name = "<init>"
def z_PreN (Ω : z_O) (w : va_W) (sz : Nat) (U : State) : Prop := (U.heap.size = sz ∧ va_P Ω.1 z_cl w U.heap ∧ va_K Ω.1 z_cl (z_tys Ω) U ∧ va_D (fun _ => True) w ∧ ∀ x ∈ z_nest, va_Nw x U) ∧ z_AO U
def z_rmN (fr lo mc ms : Nat) : Room := { frames := fr, cells := mc, slots := ms, locals := lo }
def z_BN (Ω : z_O) (w' : (Nat → Nat) → va_W) (A : Nat → Prop) (u : Nat → Nat) (t : State) : Prop := va_P Ω.1 z_cl (w' u) t.heap ∧ va_D A (w' u)
def z_MN (l : Launch) (Ω : z_O) (y : MethodName) (cc : ByteArray) (maxL fr lo mc ms b z : Nat) (w : va_W) (w' : (Nat → Nat) → va_W) : Prop :=
  ∀ sz : Nat, Met l y (.code y cc maxL none :: z_good) (z_rmN fr lo mc ms) (va_Pc [.ref b] (z_PreN Ω w sz)) (va_Qv (fun (u : Nat → Nat) => u z = b) (z_BN Ω w' (va_A w sz)) (va_A w sz)) mc ms (va_A w sz)
def z_QN (X : z_X) (Ω : z_O) (A : Nat → Prop) (mc ms b z : Nat) (w' : (Nat → Nat) → va_W) : State → Prop := match X with
  | (_, _, _, _, s, _, args, below, _, _) => MQ below (va_Qv (fun (u : Nat → Nat) => u z = b) (z_BN Ω w' A) A) args s mc ms A
theorem z_outer {r a : Nat → Nat} {N b : Nat} (h : ∀ j, j < N → a (b + j) = r j) : (fun j => if j < N then some (r j) else none) = (fun j => if j < N then some (a (b + j)) else none) := funext fun j => by
  by_cases hj : j < N
  · rw [if_pos hj, if_pos hj, h j hj]
  · rw [if_neg hj, if_neg hj]
section ZMAKE
variable {X : z_X} {A : Nat → Prop} {Q : State → Prop} {Ω : z_O} {k n nL pc q : Nat} {lv : List (Nat × Value)} {st : List Value} {w : va_W} {cc : ByteArray} {own : String}
theorem z_objInit {ix b : Nat} (hC : z_C X cc nL own Ω) (h1 : Cond.methodLink own ix Lib.objectInit ∈ z_good) (h2 : Cond.instanceMethod Lib.objectInit ∈ z_good) (h3 : Cond.code Lib.objectInit ⟨#[0xb1]⟩ 1 none ∈ z_good) (hf : 1 ≤ (z_rmOf X).frames) (hlo : (st.map fun v => v.category).sum + 12 ≤ (z_rmOf X).locals) (d : decode cc pc = .ok (.invokespecial ix, 3)) (hq : pc + 3 = q) (kk : z_At X A Q Ω k n nL q lv st w) : z_At X A Q Ω k n nL pc lv (.ref b :: st) w := by
  subst hq
  obtain ⟨p, l, e, R, s, m, args, below, meth, c⟩ := X
  obtain ⟨hx, hb, hml, hown, hts, hK, hN⟩ := hC
  intro H locs ls hP hD hS hl
  exact W.objInit hx hb hown (hts _ h1) (hts _ h2) (hts _ h3) (g := F0 m pc ls (.ref b :: st)) rfl (by rw [hml]; exact hl.1) rfl d hf (by have h9 : (st.map fun v => v.category).sum + 12 ≤ R.locals := hlo; show 2 * 0 + _ + 12 ≤ _; omega) (kk H locs ls hP hD hS hl)
theorem z_perm {w' : va_W} (is : List Nat) (hs : is.filterMap (fun i => w[i]?) = w') (hm : is.map (fun i => w[i]?) = w'.map some) (hn : va_nd is = true) (kk : z_At X A Q Ω k n nL pc lv st w') : z_At X A Q Ω k n nL pc lv st w := by
  obtain ⟨p, l, e, R, s, m, args, below, meth, c⟩ := X
  intro H locs ls hP hD hS hl
  exact kk H locs ls (hP.sub is hs) (hD.sub is hn hm) hS hl
theorem z_widen {k' n' : Nat} (h1 : k ≤ k') (h2 : n ≤ n') (kk : z_At X A Q Ω k' n' nL pc lv st w) : z_At X A Q Ω k n nL pc lv st w := by
  obtain ⟨p, l, e, R, s, m, args, below, meth, c⟩ := X
  intro H locs ls hP hD hS hl
  exact W.widen h1 h2 (kk H locs ls hP hD hS hl)
theorem z_newI {N : Nat} {v : Int32} (hC : z_C X cc nL own Ω) (hA : z_hA X A) (h1 : Cond.arrayClass .int ∈ z_good) (hv : ¬ v < 0) (hN : v.toNatClampNeg = N) (hb0 : N * 4 ≤ 536870912) (hk : k + 1 ≤ (z_rmOf X).cells) (hn : n + N ≤ (z_rmOf X).slots) (d : decode cc pc = .ok (.newarray .int, 2)) (hq : pc + 2 = q) (kk : ∀ y : Nat, z_At X A Q Ω (k + 1) (n + N) nL q lv (.ref y :: st) (w ++ [(y, .inl (Ω.2.1.1, N, .inl fun _ => 0))])) : z_At X A Q Ω k n nL pc lv (.int v :: st) w := by
  subst hq
  obtain ⟨p, l, e, R, s, m, args, below, meth, c⟩ := X
  obtain ⟨hx, hb, hml, hown, hts, hK, hN0⟩ := hC
  intro H locs ls hP hD hS hl
  refine va_newa (atype := .int) (ty := .int) (a0 := (N, .inl fun _ => 0)) hx hb (hts _ h1) rfl hK hP hD hS hA (fun cA => rfl) hv hN hb0 hk hn d (fun y cA H1 hK1 hP1 hD1 hS1 => ?_)
  have e1 : va_RA s cA .int := (hK1.2 4 _ rfl).2
  have e2 : va_RA s Ω.2.1.1 .int := (hK.2 0 _ rfl).2
  have e3 : some cA = some Ω.2.1.1 := Eq.trans (Eq.symm e1) e2
  cases e3
  exact kk y H1 locs ls hP1 hD1 hS1 hl
theorem z_newJ {N : Nat} {v : Int32} (hC : z_C X cc nL own Ω) (hA : z_hA X A) (h1 : Cond.arrayClass .long ∈ z_good) (hv : ¬ v < 0) (hN : v.toNatClampNeg = N) (hb0 : N * 8 ≤ 536870912) (hk : k + 1 ≤ (z_rmOf X).cells) (hn : n + N ≤ (z_rmOf X).slots) (d : decode cc pc = .ok (.newarray .long, 2)) (hq : pc + 2 = q) (kk : ∀ y : Nat, z_At X A Q Ω (k + 1) (n + N) nL q lv (.ref y :: st) (w ++ [(y, .inl (Ω.2.1.2.1, N, .inr (.inl fun _ => 0)))])) : z_At X A Q Ω k n nL pc lv (.int v :: st) w := by
  subst hq
  obtain ⟨p, l, e, R, s, m, args, below, meth, c⟩ := X
  obtain ⟨hx, hb, hml, hown, hts, hK, hN0⟩ := hC
  intro H locs ls hP hD hS hl
  refine va_newa (atype := .long) (ty := .long) (a0 := (N, .inr (.inl fun _ => 0))) hx hb (hts _ h1) rfl hK hP hD hS hA (fun cA => rfl) hv hN hb0 hk hn d (fun y cA H1 hK1 hP1 hD1 hS1 => ?_)
  have e1 : va_RA s cA .long := (hK1.2 4 _ rfl).2
  have e2 : va_RA s Ω.2.1.2.1 .long := (hK.2 1 _ rfl).2
  have e3 : some cA = some Ω.2.1.2.1 := Eq.trans (Eq.symm e1) e2
  cases e3
  exact kk y H1 locs ls hP1 hD1 hS1 hl
theorem z_newZ {N : Nat} {v : Int32} (hC : z_C X cc nL own Ω) (hA : z_hA X A) (h1 : Cond.arrayClass .boolean ∈ z_good) (hv : ¬ v < 0) (hN : v.toNatClampNeg = N) (hb0 : N * 1 ≤ 536870912) (hk : k + 1 ≤ (z_rmOf X).cells) (hn : n + N ≤ (z_rmOf X).slots) (d : decode cc pc = .ok (.newarray .boolean, 2)) (hq : pc + 2 = q) (kk : ∀ y : Nat, z_At X A Q Ω (k + 1) (n + N) nL q lv (.ref y :: st) (w ++ [(y, .inl (Ω.2.1.2.2.1, N, .inl fun _ => 0))])) : z_At X A Q Ω k n nL pc lv (.int v :: st) w := by
  subst hq
  obtain ⟨p, l, e, R, s, m, args, below, meth, c⟩ := X
  obtain ⟨hx, hb, hml, hown, hts, hK, hN0⟩ := hC
  intro H locs ls hP hD hS hl
  refine va_newa (atype := .boolean) (ty := .boolean) (a0 := (N, .inl fun _ => 0)) hx hb (hts _ h1) rfl hK hP hD hS hA (fun cA => rfl) hv hN hb0 hk hn d (fun y cA H1 hK1 hP1 hD1 hS1 => ?_)
  have e1 : va_RA s cA .boolean := (hK1.2 4 _ rfl).2
  have e2 : va_RA s Ω.2.1.2.2.1 .boolean := (hK.2 2 _ rfl).2
  have e3 : some cA = some Ω.2.1.2.2.1 := Eq.trans (Eq.symm e1) e2
  cases e3
  exact kk y H1 locs ls hP1 hD1 hS1 hl
theorem z_ss : "[" ++ (FieldType.array FieldType.long).toString = "[[J" := by decide +kernel
theorem z_newJJ {N M ix : Nat} {v v2 : Int32} (hC : z_C X cc nL own Ω) (hI : z_I X) (hA : z_hA X A) (h1 : Cond.arrayClass .long ∈ z_good) (h2 : Cond.classLink own ix "[[J" ∈ z_good) (hv : ¬ v < 0) (hv2 : ¬ v2 < 0) (hN : v.toNatClampNeg = N) (hM : v2.toNatClampNeg = M) (hb0 : N * 4 ≤ 536870912) (hb1 : M * 8 ≤ 536870912) (hb2 : M ≤ 536870912) (hk : k + (1 + N) ≤ (z_rmOf X).cells) (hn : n + (N + N * M) ≤ (z_rmOf X).slots) (d : decode cc pc = .ok (.multianewarray ix 2, 4)) (hq : pc + 4 = q)
    (kk : ∀ (y : Nat) (r : Nat → Nat), z_At X A Q Ω (k + 1 + N) (n + N + N * M) nL q lv (.ref y :: st) (w ++ ((y, .inl (Ω.2.1.2.2.2, N, .inr (.inr (.inr (.inr (fun j => if j < N then some (r j) else none)))))) :: (List.range N).map (fun i => (r i, .inl (Ω.2.1.2.1, M, .inr (.inl fun _ => 0))))))) : z_At X A Q Ω k n nL pc lv (.int v2 :: .int v :: st) w := by
  subst hq
  obtain ⟨p, l, e, R, s, m, args, below, meth, c⟩ := X
  obtain ⟨hx, hb, hml, hown, hts, hK, hN0⟩ := hC
  intro H locs ls hP hD hS hl
  have hy : s.vm.findClass (FieldType.array .long).toString = some Ω.2.1.2.1 := (hK.2 1 _ rfl).2
  have hl2 : (Cond.classLink own ix ("[" ++ (FieldType.array FieldType.long).toString)).before args s = true := by rw [z_ss]; exact hts _ h2
  have hP0 : va_P Ω.1 z_cl (w ++ va_pl [] (fun _ => .inr (0, []))) H := by rw [show va_pl [] (fun _ => .inr (0, [])) = [] from rfl, List.append_nil]; exact hP
  have hD0 : va_D A (w ++ va_pl [] (fun _ => .inr (0, []))) := by rw [show va_pl [] (fun _ => .inr (0, [])) = [] from rfl, List.append_nil]; exact hD
  refine va_mna (X := w) (L := []) (f := fun _ => .inr (0, [])) (ty := .long) (z := (M, .inr (.inl fun _ => 0))) hx hb hown hl2 (show (Cond.arrayOver (.array .long)).before args s = true from hI.1) (hts _ h1) hy hK hP0 hD0 hS hA hv hv2 hN hM hb0 hb1 hb2 rfl rfl hk hn (fun cA => (arrV_new cA M (.long 0)).trans rfl) d (fun y r cA H1 _ _ hK1 hP1 hD1 hS1 => ?_)
  have e1 : va_RA s cA (.array .long) := (hK1.2 4 _ rfl).2
  have e2 : va_RA s Ω.2.1.2.2.2 (.array .long) := (hK.2 3 _ rfl).2
  have e3 : some cA = some Ω.2.1.2.2.2 := Eq.trans (Eq.symm e1) e2
  cases e3
  have ew : (w ++ [(y, .inl (Ω.2.1.2.2.2, N, .inr (.inr (.inr (.inr (fun i => if i < N then some (r i) else none))))))]) ++ va_pl ([] ++ (List.range N).map r) (vr_up (fun _ => .inr (0, [])) ((List.range N).map r) (.inl (Ω.2.1.2.1, (M, .inr (.inl fun _ => 0))))) = w ++ ((y, .inl (Ω.2.1.2.2.2, N, .inr (.inr (.inr (.inr (fun j => if j < N then some (r j) else none)))))) :: (List.range N).map (fun i => (r i, .inl (Ω.2.1.2.1, M, .inr (.inl fun _ => 0))))) := by
    rw [List.append_assoc]
    congr 1
    rw [List.singleton_append]
    congr 1
    rw [List.nil_append]
    unfold va_pl
    rw [List.map_map]
    apply List.map_congr_left
    intro i hi
    show (r i, vr_up _ _ _ (r i)) = _
    rw [vr_up_in (List.mem_map.mpr ⟨i, hi, rfl⟩)]
  rw [ew] at hP1 hD1
  exact kk y r H1 locs ls hP1 hD1 hS1 hl
theorem z_newO {C : String} {T : u_T} {N ci ix : Nat} {fs : List Value} (hC : z_C X cc nL own Ω) (hA : z_hA X A) (hin : ∀ x ∈ u_ws C T N, x ∈ z_good) (ty : Nat → FieldType) (hty : ∀ k, k < N → parseFieldDescriptor (T k).2.2.1 = some (ty k)) (h1 : Cond.classLink own ix C ∈ z_good) (h2 : Cond.instantiable C N ∈ z_good) (h3 : Cond.initialized C ∈ z_good) (hc : z_cl[ci]? = some (C, T, N)) (hfs : ∀ j, j < N → defaultValue (ty j) = vp_V fs j) (hk : k + 1 ≤ (z_rmOf X).cells) (hn : n + N ≤ (z_rmOf X).slots) (d : decode cc pc = .ok (.new ix, 3)) (hq : pc + 3 = q) (kk : ∀ y : Nat, z_At X A Q Ω (k + 1) (n + N) nL q lv (.ref y :: st) (w ++ [(y, .inr (ci, fs))])) : z_At X A Q Ω k n nL pc lv st w := by
  subst hq
  obtain ⟨p, l, e, R, s, m, args, below, meth, c⟩ := X
  obtain ⟨hx, hb, hml, hown, hts, hK, hN0⟩ := hC
  intro H locs ls hP hD hS hl
  exact va_new (ci := ci) (fs := fs) hx hb hts hin ty hty hown (hts _ h1) (hts _ h2) (hts _ h3) hK hP hD hS hA hc hfs hk hn d (fun y H1 hP1 hD1 hS1 => kk y H1 locs ls hP1 hD1 hS1 hl)
theorem z_putF {C : String} {T : u_T} {N ci ix b g : Nat} {fs : List Value} {v : Value} {ty : FieldType} {w' : va_W} (hC : z_C X cc nL own Ω) (hI : z_I X) (hin : ∀ x ∈ u_ws C T N, x ∈ z_good) (ty0 : Nat → FieldType) (hty : ∀ k, k < N → parseFieldDescriptor (T k).2.2.1 = some (ty0 k)) (hnm : ∀ a, a < N → ∀ b, b < N → a ≠ b → (T a).2.1 ≠ (T b).2.1) (q0 : Nat) (he : w[q0]? = some (b, .inr (ci, fs))) (hc : z_cl[ci]? = some (C, T, N)) (hg : g < N) (hl0 : Cond.fieldLink own ix (T g).1 (T g).2.1 (T g).2.2.1 ∈ z_good) (hfin : (T g).2.2.2 = true) (hdecl : (T g).1 = own) (hd : parseFieldDescriptor (T g).2.2.1 = some ty) (hn : narrow ty v = v) (hfit : fits ty v = true) (hle : g < fs.length) (hw : w.set q0 (b, .inr (ci, fs.set g v)) = w') (d : decode cc pc = .ok (.putfield ix, 3)) (hq : pc + 3 = q) (kk : z_At X A Q Ω k n nL q lv st w') : z_At X A Q Ω k n nL pc lv (v :: .ref b :: st) w := by
  subst hq
  subst hw
  obtain ⟨p, l, e, R, s, m, args, below, meth, c⟩ := X
  obtain ⟨hx, hb, hml, hown, hts, hK, hN⟩ := hC
  intro H locs ls hP hD hS hl
  exact va_putF hx hb hts hin ty0 hty hnm hown hK hP hD hS q0 he hc g hg (hts _ hl0) (fun _ h => h) hfin hI.2 hdecl hd hn hfit hle d (fun H1 locs1 hP1 hD1 hS1 => kk H1 locs1 ls hP1 hD1 hS1 hl)
theorem z_vretN {mc ms b z : Nat} {w' : (Nat → Nat) → va_W} (u : Nat → Nat) (hC : z_C X cc nL own Ω) (hR : z_R X none) (hu : u z = b) (hw : w = w' u) (d : decode cc pc = .ok (.return_, 1)) : z_At X A (z_QN X Ω A mc ms b z w') Ω mc ms nL pc lv [] w := by
  subst hw
  obtain ⟨p, l, e, R, s, m, args, below, meth, c⟩ := X
  obtain ⟨hx, hb, hml, hown, hts, hK, hN⟩ := hC
  obtain ⟨hr, hlk⟩ := hR
  intro H locs ls hP hD hS hl
  exact W.vret hx hb hr (fun t ht hW => ⟨⟨u, rfl, hu, by rw [← ht] at hP; exact hP, hD⟩, hS.F ht⟩) hS.2.2 d hlk
theorem z_blindN (w : va_W) (sz : Nat) (av : List Value) : FrameBlind (va_Pc av (z_PreN Ω w sz)) := fun a U g mk q => by
  obtain ⟨q0, q1, q2⟩ := q
  obtain ⟨q0', h⟩ := z_blind (Ω := Ω) w sz av a U g mk ⟨q0, q1⟩
  exact ⟨q0, h, z_AO_moved (u := U) (U := U.calling g mk a) (Vm.Alike.refl U.vm) q2⟩
theorem z_callI {y : MethodName} {bytes : ByteArray} {maxL fr lo mc ms ix b z : Nat} {ee : va_E} {w' : (Nat → Nat) → va_W} (hC : z_C X cc nL own Ω) (hI : z_AO X.2.2.2.2.1) (hA : z_hA X A) (hM : z_MN (z_lOf X) Ω y bytes maxL fr lo mc ms b z [(b, ee)] w') (hco : Cond.code y bytes maxL none ∈ z_good) (hlk : Cond.methodLink own ix y ∈ z_good) (hi : Cond.instanceMethod y ∈ z_good) (hini : Cond.initialized y.cls ∈ z_good) (hy1 : y.name = "<init>") (hd : y.cls ≠ "java/lang/invoke/MethodHandle" ∧ y.cls ≠ "java/lang/invoke/VarHandle" ∧ (parseMethodDescriptor y.desc).map (fun d => d.parameters.length) = some 0) (hR : fr + 1 ≤ (z_rmOf X).frames ∧ 8 + (maxL + 11) + lo ≤ (z_rmOf X).locals) (hkn : k + mc ≤ (z_rmOf X).cells ∧ n + ms ≤ (z_rmOf X).slots) (hsk : (st.map fun v => v.category).sum ≤ 8) (d : decode cc pc = .ok (.invokespecial ix, 3)) (hq : pc + 3 = q) (kk : ∀ u : Nat → Nat, u z = b → z_At X A Q Ω (k + mc) (n + ms) nL q lv st (w ++ w' u)) : z_At X A Q Ω k n nL pc lv (.ref b :: st) (w ++ [(b, ee)]) := by
  subst hq
  obtain ⟨p, l, e, R, s, m, args, below, meth, c⟩ := X
  obtain ⟨hx, hb, hml, hown, hts, hK, hN⟩ := hC
  intro H locs ls hP hD hS hl
  have hPc : va_P Ω.1 z_cl [(b, ee)] H := fun i x hx => hP (w.length + i) x (by rw [List.getElem?_append_right (by omega)]; rw [show w.length + i - w.length = i by omega]; exact hx)
  have hDw : va_D A w := ⟨fun i j x y hi hj h => hD.1 i j x y (by rw [List.getElem?_append_left (List.getElem?_eq_some_iff.mp hi).1]; exact hi) (by rw [List.getElem?_append_left (List.getElem?_eq_some_iff.mp hj).1]; exact hj) h, fun i x hi => hD.2 i x (by rw [List.getElem?_append_left (List.getElem?_eq_some_iff.mp hi).1]; exact hi)⟩
  have hPw : va_P Ω.1 z_cl w H := fun i x hi => hP i x (by rw [List.getElem?_append_left (List.getElem?_eq_some_iff.mp hi).1]; exact hi)
  have hDc : va_D A [(b, ee)] := ⟨fun i j x y hi hj h => by
      have h1 : i < 1 := (List.getElem?_eq_some_iff.mp hi).1
      have h2 : j < 1 := (List.getElem?_eq_some_iff.mp hj).1
      omega, fun i x hi => hD.2 (w.length + i) x (by rw [List.getElem?_append_right (by omega)]; rw [show w.length + i - w.length = i by omega]; exact hi)⟩
  have hF : ∀ x, va_A [(b, ee)] H.size x → A x := z_wFree hDc hS hA
  have hne : ∀ (i : Nat) (x : Nat × va_E), w[i]? = some x → x.1 < H.size ∧ ¬ va_A [(b, ee)] H.size x.1 := fun i x hi => by
    have hlt := (hPw i x hi).lt
    refine ⟨hlt, fun h => ?_⟩
    rcases h with ⟨j, e9, h⟩ | h
    · have h1 : j < 1 := (List.getElem?_eq_some_iff.mp h).1
      have h2 : i < w.length := (List.getElem?_eq_some_iff.mp hi).1
      have h3 := hD.1 i (w.length + j) x (x.1, e9) (by rw [List.getElem?_append_left h2]; exact hi) (by rw [List.getElem?_append_right (by omega)]; rw [show w.length + j - w.length = j by omega]; exact h) rfl
      omega
    · omega
  refine va_callv (va_runI (As := []) (rest := st) ⟨hx, hb, hml, hown, hts⟩ (hM H.size) (cwI 0 hts (z_goodC hco) rfl rfl rfl (hts _ hini) (hts _ hlk) (hts _ hi) hy1 hd hR) ⟨z_blindN _ H.size _, fun U hU hW => ⟨rfl, ⟨by rw [hU], by rw [hU]; exact hPc, va_K.moved hW.alike hK, hDc.weaken (fun _ _ _ _ => trivial), z_nestW hW hN⟩, z_AO_moved hW.alike hI⟩⟩ rfl rfl hl.1 rfl (lv_room hsk) d hkn) hS (fun q _ h => hF q h) hF (fun u t H1 locs1 ht hvm hp hB hz1 hk1 hS1 => ?_)
  obtain ⟨hP1, hD1⟩ := hB
  rw [ht] at hP1
  refine kk u hp H1 locs1 ls (va_P.app (fun i x hi => (hPw i x hi).kept (hk1 x.1 (hne i x hi).1 (hne i x hi).2)) hP1) (va_D.app hDw (hD1.weaken (fun _ q _ h => hF q.1 h)) (fun i j x y hi hj h => (hne i x hi).2 (by rw [h]; exact hD1.2 j y hj))) hS1 hl
theorem z_callIN {y : MethodName} {bytes : ByteArray} {maxL fr lo mc ms ix b z : Nat} {host : String} {ee : va_E} {w' : (Nat → Nat) → va_W} (hC : z_C X cc nL own Ω) (hI : z_AO X.2.2.2.2.1) (hA : z_hA X A) (hM : z_MN (z_lOf X) Ω y bytes maxL fr lo mc ms b z [(b, ee)] w') (hco : Cond.code y bytes maxL none ∈ z_good) (hlk : Cond.methodLinkNest own ix y host ∈ z_nest) (hi : Cond.instanceMethod y ∈ z_good) (hini : Cond.initialized y.cls ∈ z_good) (hy1 : y.name = "<init>") (hd : y.cls ≠ "java/lang/invoke/MethodHandle" ∧ y.cls ≠ "java/lang/invoke/VarHandle" ∧ (parseMethodDescriptor y.desc).map (fun d => d.parameters.length) = some 0) (hR : fr + 1 ≤ (z_rmOf X).frames ∧ 8 + (maxL + 11) + lo ≤ (z_rmOf X).locals) (hkn : k + mc ≤ (z_rmOf X).cells ∧ n + ms ≤ (z_rmOf X).slots) (hsk : (st.map fun v => v.category).sum ≤ 8) (d : decode cc pc = .ok (.invokespecial ix, 3)) (hq : pc + 3 = q) (kk : ∀ u : Nat → Nat, u z = b → z_At X A Q Ω (k + mc) (n + ms) nL q lv st (w ++ w' u)) : z_At X A Q Ω k n nL pc lv (.ref b :: st) (w ++ [(b, ee)]) := by
  subst hq
  obtain ⟨p, l, e, R, s, m, args, below, meth, c⟩ := X
  obtain ⟨hx, hb, hml, hown, hts, hK, hN⟩ := hC
  intro H locs ls hP hD hS hl
  have hPc : va_P Ω.1 z_cl [(b, ee)] H := fun i x hx => hP (w.length + i) x (by rw [List.getElem?_append_right (by omega)]; rw [show w.length + i - w.length = i by omega]; exact hx)
  have hDw : va_D A w := ⟨fun i j x y hi hj h => hD.1 i j x y (by rw [List.getElem?_append_left (List.getElem?_eq_some_iff.mp hi).1]; exact hi) (by rw [List.getElem?_append_left (List.getElem?_eq_some_iff.mp hj).1]; exact hj) h, fun i x hi => hD.2 i x (by rw [List.getElem?_append_left (List.getElem?_eq_some_iff.mp hi).1]; exact hi)⟩
  have hPw : va_P Ω.1 z_cl w H := fun i x hi => hP i x (by rw [List.getElem?_append_left (List.getElem?_eq_some_iff.mp hi).1]; exact hi)
  have hDc : va_D A [(b, ee)] := ⟨fun i j x y hi hj h => by
      have h1 : i < 1 := (List.getElem?_eq_some_iff.mp hi).1
      have h2 : j < 1 := (List.getElem?_eq_some_iff.mp hj).1
      omega, fun i x hi => hD.2 (w.length + i) x (by rw [List.getElem?_append_right (by omega)]; rw [show w.length + i - w.length = i by omega]; exact hi)⟩
  have hF : ∀ x, va_A [(b, ee)] H.size x → A x := z_wFree hDc hS hA
  have hne : ∀ (i : Nat) (x : Nat × va_E), w[i]? = some x → x.1 < H.size ∧ ¬ va_A [(b, ee)] H.size x.1 := fun i x hi => by
    have hlt := (hPw i x hi).lt
    refine ⟨hlt, fun h => ?_⟩
    rcases h with ⟨j, e9, h⟩ | h
    · have h1 : j < 1 := (List.getElem?_eq_some_iff.mp h).1
      have h2 : i < w.length := (List.getElem?_eq_some_iff.mp hi).1
      have h3 := hD.1 i (w.length + j) x (x.1, e9) (by rw [List.getElem?_append_left h2]; exact hi) (by rw [List.getElem?_append_right (by omega)]; rw [show w.length + j - w.length = j by omega]; exact h) rfl
      omega
    · omega
  refine va_callv (va_runIN (As := []) (rest := st) ⟨hx, hb, hml, hown, hts⟩ (hM H.size) ⟨va_cnB 0 hts (z_goodC hco) rfl rfl rfl (hN _ hlk) (hts _ hini) hd hR, hy1, hts _ hi⟩ ⟨z_blindN _ H.size _, fun U hU hW => ⟨rfl, ⟨by rw [hU], by rw [hU]; exact hPc, va_K.moved hW.alike hK, hDc.weaken (fun _ _ _ _ => trivial), z_nestW hW hN⟩, z_AO_moved hW.alike hI⟩⟩ rfl rfl hl.1 rfl (lv_room hsk) d hkn) hS (fun q _ h => hF q h) hF (fun u t H1 locs1 ht hvm hp hB hz1 hk1 hS1 => ?_)
  obtain ⟨hP1, hD1⟩ := hB
  rw [ht] at hP1
  refine kk u hp H1 locs1 ls (va_P.app (fun i x hi => (hPw i x hi).kept (hk1 x.1 (hne i x hi).1 (hne i x hi).2)) hP1) (va_D.app hDw (hD1.weaken (fun _ q _ h => hF q.1 h)) (fun i j x y hi hj h => (hne i x hi).2 (by rw [h]; exact hD1.2 j y hj))) hS1 hl
end ZMAKE
theorem z_introN {l : Launch} {Ω : z_O} {y : MethodName} {cc : ByteArray} {maxL fr lo mc ms b z : Nat} {w : va_W} {w' : (Nat → Nat) → va_W} {lv : List (Nat × Value)} (hy : plainName y.cls = true) (hy1 : y.name = "<init>") (hlen : (lg_sl [.ref b]).length ≤ maxL) (hlv : lv_args 0 [.ref b] = lv)
    (body : ∀ (X : z_X) (A : Nat → Prop), z_C X cc maxL y.cls Ω → z_I X → z_hA X A → z_R X none → z_lOf X = l → z_rmOf X = z_rmN fr lo mc ms → z_At X A (z_QN X Ω A mc ms b z w') Ω 0 0 maxL 0 lv [] w) : z_MN l Ω y cc maxL fr lo mc ms b z w w' := by
  intro sz
  refine Met.ofW (cc := cc) (maxL := maxL) (ret := none) hy rfl ?_
  intro p e s m args below meth c s₁ B hml hv
  obtain ⟨rfl, ⟨hsz, hP, hK, hD0, hN⟩, hAO⟩ := hv
  have hx := B.exec
  have hb := B.bytes
  have hr := B.returns
  have hts := atoms_spec (ws := .code y cc maxL none :: z_good) B.pre
  have hown : s.vm.findClass y.cls = some m.cls := findClass_of_methodNamed B.named
  have hlocks := B.notSynchronized
  have hin : meth.name = y.name := (name_of_methodNamed B.named B.method).1
  subst hsz
  have hD := hD0.self (sz := s.heap.size)
  have hl := lv_entry [.ref b] (n := maxL) hlen
  rw [hlv] at hl
  rw [lg_entry_eq]
  exact body (p, l, e, z_rmN fr lo mc ms, s, m, [Value.ref b].toArray, below, meth, c) (va_A w s.heap.size) ⟨hx, hb, hml, hown, fun w hw => hts w (List.mem_cons_of_mem _ hw), hK, hN⟩ ⟨hAO, hin.trans hy1⟩ (fun q h => Or.inr h) ⟨hr, hlocks⟩ rfl rfl s.heap [] _ hP hD va_S.rf hl
