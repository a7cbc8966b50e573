/-! the context of a walk, rows of one instruction each at its level; X: the machine's fixed things; Ω: the classes' numbers, the array classes, the cells' addresses -/
abbrev z_X : Type := Program × Launch × Env × Room × State × MethodId × Array Value × List Frame × Method × Code
abbrev z_O : Type := va_G × (ClassId × ClassId × ClassId × ClassId) × (Nat → Nat)
abbrev z_S : Type := (Nat → Int32) × (Nat → Int64) × (Nat → Nat → Int32) × (Nat → Nat → Int64)
def z_tys (Ω : z_O) : List (ClassId × FieldType) := [(Ω.2.1.1, .int), (Ω.2.1.2.1, .long), (Ω.2.1.2.2.1, .boolean), (Ω.2.1.2.2.2, .array .long)]
def zu {α : Type} (f : Nat → α) (k : Nat) (v : α) : Nat → α := fun j => if j = k then v else f j
def gF (S : z_S) (k : Nat) : Int32 := S.1 k
def gG (S : z_S) (k : Nat) : Int64 := S.2.1 k
def gI (S : z_S) (k : Nat) : Nat → Int32 := S.2.2.1 k
def gJ (S : z_S) (k : Nat) : Nat → Int64 := S.2.2.2 k
def sF (S : z_S) (k : Nat) (v : Int32) : z_S := (zu S.1 k v, S.2.1, S.2.2.1, S.2.2.2)
def sG (S : z_S) (k : Nat) (v : Int64) : z_S := (S.1, zu S.2.1 k v, S.2.2.1, S.2.2.2)
def sI (S : z_S) (k : Nat) (v : Nat → Int32) : z_S := (S.1, S.2.1, zu S.2.2.1 k v, S.2.2.2)
def sJ (S : z_S) (k : Nat) (v : Nat → Int64) : z_S := (S.1, S.2.1, S.2.2.1, zu S.2.2.2 k v)
/-- an index in range, as a truth value; a check; a call -/
def vi (i : Int32) (n : Nat) : Bool := decide (0 ≤ i.toInt ∧ i.toInt < n)
def vz (v : Int32) : Bool := v == 0 || v == 1
def vn (y : Int64) : Bool := !(y == 0)
def vm (y : Int32) : Bool := !(y == 0)
def ck {α : Type} (b : Bool) (x : Option α) : Option α := if b = true then x else none
def bo {α β : Type} (x : Option (α × z_S)) (k : α → z_S → Option β) : Option β := match x with
  | some (v, S) => k v S
  | none => none
theorem vi_in {i : Int32} {n : Nat} (h : vi i n = true) : vp_in i n := vp_in_iff.mpr (of_decide_eq_true h)
theorem vi_lt {i : Int32} {n : Nat} (h : vi i n = true) : i.toNatClampNeg < n := Nat.not_le.mp fun q => vi_in h (Or.inr q)
theorem vz_or {v : Int32} (h : vz v = true) : v = 0 ∨ v = 1 := by
  simpa [vz, Bool.or_eq_true, beq_iff_eq] using h
theorem vz_n {v : Int32} (h : vz v = true) : narrow .boolean (.int v) = .int v := by
  rcases vz_or h with h | h <;> subst h <;> rfl
theorem vz_f {v : Int32} (h : vz v = true) : fits .boolean (.int v) = true := by
  rcases vz_or h with h | h <;> subst h <;> rfl
theorem vn_ne {y : Int64} (h : vn y = true) : ¬ y = 0 := by
  simpa [vn] using h
theorem vm_ne {y : Int32} (h : vm y = true) : ¬ y = 0 := by
  simpa [vm] using h
theorem ck_some {α : Type} {b : Bool} {x : Option α} {r : α} (h : ck b x = some r) : b = true ∧ x = some r := by
  unfold ck at h
  by_cases hb : b = true
  · rw [if_pos hb] at h; exact ⟨hb, h⟩
  · rw [if_neg hb] at h; cases h
theorem bo_some {α β : Type} {x : Option (α × z_S)} {k : α → z_S → Option β} {r : β} (h : bo x k = some r) : ∃ (v : α) (S : z_S), x = some (v, S) ∧ k v S = some r := by
  cases x with
  | none => cases h
  | some q => obtain ⟨v, S⟩ := q; exact ⟨v, S, rfl, h⟩
theorem z_goodIn {ws : List Cond} (h : ∀ w ∈ ws, w ∈ z_good) : GoodIn z_good ws := fun w hw => ⟨h w hw, good_of_word (List.mem_filter.mp (h w hw)).2⟩
theorem z_goodC {c : Cond} (h : c ∈ z_good) : GoodIn z_good (c :: z_good) := z_goodIn fun w hw => (List.mem_cons.mp hw).elim (fun e => e ▸ h) id
theorem z_nestW {s U : State} (hW : s.WarmedH U.vm) (h : ∀ w ∈ z_nest, va_Nw w s) : ∀ w ∈ z_nest, va_Nw w U := by
  intro w hw
  have h1 := (List.mem_filter.mp hw).2
  have h2 := h w hw
  cases w <;> first | exact va_Nw.warmM hW h2 | exact va_Nw.warmF hW h2 | (simp [z_isNest] at h1; done)
def z_C (X : z_X) (cc : ByteArray) (nL : Nat) (own : String) (Ω : z_O) : Prop := match X with
  | (p, _, _, _, s, m, args, _, _, c) => p.tables.exec = Jvm.exec ∧ c.code = cc ∧ c.maxLocals = nL ∧ s.vm.findClass own = some m.cls ∧ (∀ w ∈ z_good, w.before args s = true) ∧ va_K Ω.1 z_cl (z_tys Ω) s ∧ ∀ w ∈ z_nest, va_Nw w s
def z_R (X : z_X) (ret : Option FieldType) : Prop := match X with
  | (_, _, _, _, _, _, _, _, meth, _) => meth.sig.returnType = ret ∧ meth.locks = false
def z_At (X : z_X) (A : Nat → Prop) (Q : State → Prop) (Ω : z_O) (k n nL pc : Nat) (lv : List (Nat × Value)) (st : List Value) (w : va_W) : Prop := match X with
  | (p, l, e, R, s, m, args, below, meth, c) => ∀ (H : Heap) (locs : List Loc) (ls : Array Slot), va_P Ω.1 z_cl w H → va_D A w → va_S A s.heap H locs → lv_has ls nL lv → W p l e R s m args below meth c H locs k n Q (F0 m pc ls st)
def z_Pre (Ω : z_O) (w : va_W) (sz : Nat) (U : State) : Prop := U.heap.size = sz ∧ va_P Ω.1 z_cl w U.heap ∧ va_K Ω.1 z_cl (z_tys Ω) U ∧ va_D (fun _ => True) w ∧ ∀ x ∈ z_nest, va_Nw x U
def z_rm (fr lo : Nat) : Room := { frames := fr, cells := 0, slots := 0, locals := lo }
def z_Bq (Ω : z_O) (w' : va_W) (A : Nat → Prop) (_ : Unit) (t : State) : Prop := va_P Ω.1 z_cl w' t.heap ∧ va_D A w'
def z_MI (l : Launch) (Ω : z_O) (y : MethodName) (cc : ByteArray) (maxL : Nat) (rt : FieldType) (fr lo : Nat) (av : List Value) (w : va_W) (r : Int32) (w' : va_W) : Prop :=
  ∀ sz : Nat, Met l y (.code y cc maxL (some rt) :: z_good) (z_rm fr lo) (va_Pc av (z_Pre Ω w sz)) (va_Qi (fun x (_ : Unit) => x = r) (z_Bq Ω w' (va_A w sz)) (va_A w sz)) 0 0 (va_A w sz)
def z_ML (l : Launch) (Ω : z_O) (y : MethodName) (cc : ByteArray) (maxL : Nat) (rt : FieldType) (fr lo : Nat) (av : List Value) (w : va_W) (r : Int64) (w' : va_W) : Prop :=
  ∀ sz : Nat, Met l y (.code y cc maxL (some rt) :: z_good) (z_rm fr lo) (va_Pc av (z_Pre Ω w sz)) (va_Ql (fun x (_ : Unit) => x = r) (z_Bq Ω w' (va_A w sz)) (va_A w sz)) 0 0 (va_A w sz)
def z_MV (l : Launch) (Ω : z_O) (y : MethodName) (cc : ByteArray) (maxL : Nat) (fr lo : Nat) (av : List Value) (w w' : va_W) : Prop :=
  ∀ sz : Nat, Met l y (.code y cc maxL none :: z_good) (z_rm fr lo) (va_Pc av (z_Pre Ω w sz)) (va_Qv (fun (_ : Unit) => True) (z_Bq Ω w' (va_A w sz)) (va_A w sz)) 0 0 (va_A w sz)
def z_QI (X : z_X) (Ω : z_O) (A : Nat → Prop) (r : Int32) (w' : va_W) : State → Prop := match X with
  | (_, _, _, _, s, _, args, below, _, _) => MQ below (va_Qi (fun x (_ : Unit) => x = r) (z_Bq Ω w' A) A) args s 0 0 A
def z_QL (X : z_X) (Ω : z_O) (A : Nat → Prop) (r : Int64) (w' : va_W) : State → Prop := match X with
  | (_, _, _, _, s, _, args, below, _, _) => MQ below (va_Ql (fun x (_ : Unit) => x = r) (z_Bq Ω w' A) A) args s 0 0 A
def z_QV (X : z_X) (Ω : z_O) (A : Nat → Prop) (w' : va_W) : State → Prop := match X with
  | (_, _, _, _, s, _, args, below, _, _) => MQ below (va_Qv (fun (_ : Unit) => True) (z_Bq Ω w' A) A) args s 0 0 A
def z_rmOf (X : z_X) : Room := X.2.2.2.1
def z_lOf (X : z_X) : Launch := X.2.1
section ZROWS
variable {X : z_X} {A : Nat → Prop} {Q : State → Prop} {Ω : z_O} {k n nL pc q tgt tgt2 : Nat} {lv lv' : List (Nat × Value)} {st : List Value} {w : va_W} {cc : ByteArray} {own : String}
theorem z_iadd {x y : Int32} (hC : z_C X cc nL own Ω) (d : decode cc pc = .ok (.iadd, 1)) (hq : pc + 1 = q) (kk : z_At X A Q Ω k n nL q lv (.int (x + y) :: st) w) : z_At X A Q Ω k n nL pc lv (.int y :: .int x :: st) w := by
  subst hq
  obtain ⟨p, l, e, R, s, m, args, below, meth, c⟩ := X
  obtain ⟨hx, hb, hml, hown, hts, hK, hN⟩ := hC
  intro H locs ls hP hD hS hl
  exact lv_iadd hx hb d (kk H locs ls hP hD hS hl)
theorem z_isub {x y : Int32} (hC : z_C X cc nL own Ω) (d : decode cc pc = .ok (.isub, 1)) (hq : pc + 1 = q) (kk : z_At X A Q Ω k n nL q lv (.int (x - y) :: st) w) : z_At X A Q Ω k n nL pc lv (.int y :: .int x :: st) w := by
  subst hq
  obtain ⟨p, l, e, R, s, m, args, below, meth, c⟩ := X
  obtain ⟨hx, hb, hml, hown, hts, hK, hN⟩ := hC
  intro H locs ls hP hD hS hl
  exact lv_isub hx hb d (kk H locs ls hP hD hS hl)
theorem z_imul {x y : Int32} (hC : z_C X cc nL own Ω) (d : decode cc pc = .ok (.imul, 1)) (hq : pc + 1 = q) (kk : z_At X A Q Ω k n nL q lv (.int (x * y) :: st) w) : z_At X A Q Ω k n nL pc lv (.int y :: .int x :: st) w := by
  subst hq
  obtain ⟨p, l, e, R, s, m, args, below, meth, c⟩ := X
  obtain ⟨hx, hb, hml, hown, hts, hK, hN⟩ := hC
  intro H locs ls hP hD hS hl
  exact lv_imul hx hb d (kk H locs ls hP hD hS hl)
theorem z_iand {x y : Int32} (hC : z_C X cc nL own Ω) (d : decode cc pc = .ok (.iand, 1)) (hq : pc + 1 = q) (kk : z_At X A Q Ω k n nL q lv (.int (x &&& y) :: st) w) : z_At X A Q Ω k n nL pc lv (.int y :: .int x :: st) w := by
  subst hq
  obtain ⟨p, l, e, R, s, m, args, below, meth, c⟩ := X
  obtain ⟨hx, hb, hml, hown, hts, hK, hN⟩ := hC
  intro H locs ls hP hD hS hl
  exact lv_iand hx hb d (kk H locs ls hP hD hS hl)
theorem z_ior {x y : Int32} (hC : z_C X cc nL own Ω) (d : decode cc pc = .ok (.ior, 1)) (hq : pc + 1 = q) (kk : z_At X A Q Ω k n nL q lv (.int (x ||| y) :: st) w) : z_At X A Q Ω k n nL pc lv (.int y :: .int x :: st) w := by
  subst hq
  obtain ⟨p, l, e, R, s, m, args, below, meth, c⟩ := X
  obtain ⟨hx, hb, hml, hown, hts, hK, hN⟩ := hC
  intro H locs ls hP hD hS hl
  exact lv_ior hx hb d (kk H locs ls hP hD hS hl)
theorem z_ixor {x y : Int32} (hC : z_C X cc nL own Ω) (d : decode cc pc = .ok (.ixor, 1)) (hq : pc + 1 = q) (kk : z_At X A Q Ω k n nL q lv (.int (x ^^^ y) :: st) w) : z_At X A Q Ω k n nL pc lv (.int y :: .int x :: st) w := by
  subst hq
  obtain ⟨p, l, e, R, s, m, args, below, meth, c⟩ := X
  obtain ⟨hx, hb, hml, hown, hts, hK, hN⟩ := hC
  intro H locs ls hP hD hS hl
  exact lv_ixor hx hb d (kk H locs ls hP hD hS hl)
theorem z_ishl {x y : Int32} (hC : z_C X cc nL own Ω) (d : decode cc pc = .ok (.ishl, 1)) (hq : pc + 1 = q) (kk : z_At X A Q Ω k n nL q lv (.int (x <<< (y &&& 31)) :: st) w) : z_At X A Q Ω k n nL pc lv (.int y :: .int x :: st) w := by
  subst hq
  obtain ⟨p, l, e, R, s, m, args, below, meth, c⟩ := X
  obtain ⟨hx, hb, hml, hown, hts, hK, hN⟩ := hC
  intro H locs ls hP hD hS hl
  exact lv_ishl hx hb d (kk H locs ls hP hD hS hl)
theorem z_ladd {x y : Int64} (hC : z_C X cc nL own Ω) (d : decode cc pc = .ok (.ladd, 1)) (hq : pc + 1 = q) (kk : z_At X A Q Ω k n nL q lv (.long (x + y) :: st) w) : z_At X A Q Ω k n nL pc lv (.long y :: .long x :: st) w := by
  subst hq
  obtain ⟨p, l, e, R, s, m, args, below, meth, c⟩ := X
  obtain ⟨hx, hb, hml, hown, hts, hK, hN⟩ := hC
  intro H locs ls hP hD hS hl
  exact lv_ladd hx hb d (kk H locs ls hP hD hS hl)
theorem z_lsub {x y : Int64} (hC : z_C X cc nL own Ω) (d : decode cc pc = .ok (.lsub, 1)) (hq : pc + 1 = q) (kk : z_At X A Q Ω k n nL q lv (.long (x - y) :: st) w) : z_At X A Q Ω k n nL pc lv (.long y :: .long x :: st) w := by
  subst hq
  obtain ⟨p, l, e, R, s, m, args, below, meth, c⟩ := X
  obtain ⟨hx, hb, hml, hown, hts, hK, hN⟩ := hC
  intro H locs ls hP hD hS hl
  exact lv_lsub hx hb d (kk H locs ls hP hD hS hl)
theorem z_lmul {x y : Int64} (hC : z_C X cc nL own Ω) (d : decode cc pc = .ok (.lmul, 1)) (hq : pc + 1 = q) (kk : z_At X A Q Ω k n nL q lv (.long (x * y) :: st) w) : z_At X A Q Ω k n nL pc lv (.long y :: .long x :: st) w := by
  subst hq
  obtain ⟨p, l, e, R, s, m, args, below, meth, c⟩ := X
  obtain ⟨hx, hb, hml, hown, hts, hK, hN⟩ := hC
  intro H locs ls hP hD hS hl
  exact lv_lmul hx hb d (kk H locs ls hP hD hS hl)
theorem z_ldiv {x y : Int64} (hne : vn y = true) (hC : z_C X cc nL own Ω) (d : decode cc pc = .ok (.ldiv, 1)) (hq : pc + 1 = q) (kk : z_At X A Q Ω k n nL q lv (.long (x / y) :: st) w) : z_At X A Q Ω k n nL pc lv (.long y :: .long x :: st) w := by
  subst hq
  obtain ⟨p, l, e, R, s, m, args, below, meth, c⟩ := X
  obtain ⟨hx, hb, hml, hown, hts, hK, hN⟩ := hC
  intro H locs ls hP hD hS hl
  exact lv_ldiv hx hb d (vn_ne hne) (kk H locs ls hP hD hS hl)
theorem z_lrem {x y : Int64} (hne : vn y = true) (hC : z_C X cc nL own Ω) (d : decode cc pc = .ok (.lrem, 1)) (hq : pc + 1 = q) (kk : z_At X A Q Ω k n nL q lv (.long (x - x / y * y) :: st) w) : z_At X A Q Ω k n nL pc lv (.long y :: .long x :: st) w := by
  subst hq
  obtain ⟨p, l, e, R, s, m, args, below, meth, c⟩ := X
  obtain ⟨hx, hb, hml, hown, hts, hK, hN⟩ := hC
  intro H locs ls hP hD hS hl
  exact lv_lrem hx hb d (vn_ne hne) (kk H locs ls hP hD hS hl)
theorem z_idiv {x y : Int32} (hne : vm y = true) (hC : z_C X cc nL own Ω) (d : decode cc pc = .ok (.idiv, 1)) (hq : pc + 1 = q) (kk : z_At X A Q Ω k n nL q lv (.int (x / y) :: st) w) : z_At X A Q Ω k n nL pc lv (.int y :: .int x :: st) w := by
  subst hq
  obtain ⟨p, l, e, R, s, m, args, below, meth, c⟩ := X
  obtain ⟨hx, hb, hml, hown, hts, hK, hN⟩ := hC
  intro H locs ls hP hD hS hl
  exact lv_idiv hx hb d (vm_ne hne) (kk H locs ls hP hD hS hl)
theorem z_irem {x y : Int32} (hne : vm y = true) (hC : z_C X cc nL own Ω) (d : decode cc pc = .ok (.irem, 1)) (hq : pc + 1 = q) (kk : z_At X A Q Ω k n nL q lv (.int (x - x / y * y) :: st) w) : z_At X A Q Ω k n nL pc lv (.int y :: .int x :: st) w := by
  subst hq
  obtain ⟨p, l, e, R, s, m, args, below, meth, c⟩ := X
  obtain ⟨hx, hb, hml, hown, hts, hK, hN⟩ := hC
  intro H locs ls hP hD hS hl
  exact lv_irem hx hb d (vm_ne hne) (kk H locs ls hP hD hS hl)
theorem z_ineg {x : Int32} (hC : z_C X cc nL own Ω) (d : decode cc pc = .ok (.ineg, 1)) (hq : pc + 1 = q) (kk : z_At X A Q Ω k n nL q lv (.int (-x) :: st) w) : z_At X A Q Ω k n nL pc lv (.int x :: st) w := by
  subst hq
  obtain ⟨p, l, e, R, s, m, args, below, meth, c⟩ := X
  obtain ⟨hx, hb, hml, hown, hts, hK, hN⟩ := hC
  intro H locs ls hP hD hS hl
  exact lv_ineg hx hb d (kk H locs ls hP hD hS hl)
theorem z_lneg {x : Int64} (hC : z_C X cc nL own Ω) (d : decode cc pc = .ok (.lneg, 1)) (hq : pc + 1 = q) (kk : z_At X A Q Ω k n nL q lv (.long (-x) :: st) w) : z_At X A Q Ω k n nL pc lv (.long x :: st) w := by
  subst hq
  obtain ⟨p, l, e, R, s, m, args, below, meth, c⟩ := X
  obtain ⟨hx, hb, hml, hown, hts, hK, hN⟩ := hC
  intro H locs ls hP hD hS hl
  exact lv_lneg hx hb d (kk H locs ls hP hD hS hl)
theorem z_i2l {x : Int32} (hC : z_C X cc nL own Ω) (d : decode cc pc = .ok (.i2l, 1)) (hq : pc + 1 = q) (kk : z_At X A Q Ω k n nL q lv (.long x.toInt64 :: st) w) : z_At X A Q Ω k n nL pc lv (.int x :: st) w := by
  subst hq
  obtain ⟨p, l, e, R, s, m, args, below, meth, c⟩ := X
  obtain ⟨hx, hb, hml, hown, hts, hK, hN⟩ := hC
  intro H locs ls hP hD hS hl
  exact lv_i2l hx hb d rfl (kk H locs ls hP hD hS hl)
theorem z_l2i {x : Int64} (hC : z_C X cc nL own Ω) (d : decode cc pc = .ok (.l2i, 1)) (hq : pc + 1 = q) (kk : z_At X A Q Ω k n nL q lv (.int x.toInt32 :: st) w) : z_At X A Q Ω k n nL pc lv (.long x :: st) w := by
  subst hq
  obtain ⟨p, l, e, R, s, m, args, below, meth, c⟩ := X
  obtain ⟨hx, hb, hml, hown, hts, hK, hN⟩ := hC
  intro H locs ls hP hD hS hl
  exact lv_l2i hx hb d rfl (kk H locs ls hP hD hS hl)
theorem z_iconst {z : Int} {v : Int32} (hv : Int32.ofInt z = v) (hC : z_C X cc nL own Ω) (d : decode cc pc = .ok (.iconst z, 1)) (hq : pc + 1 = q) (kk : z_At X A Q Ω k n nL q lv (.int v :: st) w) : z_At X A Q Ω k n nL pc lv (st) w := by
  subst hq
  obtain ⟨p, l, e, R, s, m, args, below, meth, c⟩ := X
  obtain ⟨hx, hb, hml, hown, hts, hK, hN⟩ := hC
  intro H locs ls hP hD hS hl
  exact lv_iconst hx hb d hv (kk H locs ls hP hD hS hl)
theorem z_bipush {z : Int} {v : Int32} (hv : (Int8.ofInt z).toInt32 = v) (hC : z_C X cc nL own Ω) (d : decode cc pc = .ok (.bipush z, 2)) (hq : pc + 2 = q) (kk : z_At X A Q Ω k n nL q lv (.int v :: st) w) : z_At X A Q Ω k n nL pc lv (st) w := by
  subst hq
  obtain ⟨p, l, e, R, s, m, args, below, meth, c⟩ := X
  obtain ⟨hx, hb, hml, hown, hts, hK, hN⟩ := hC
  intro H locs ls hP hD hS hl
  exact lv_bipush hx hb d hv (kk H locs ls hP hD hS hl)
theorem z_sipush {z : Int} {v : Int32} (hv : (Int16.ofInt z).toInt32 = v) (hC : z_C X cc nL own Ω) (d : decode cc pc = .ok (.sipush z, 3)) (hq : pc + 3 = q) (kk : z_At X A Q Ω k n nL q lv (.int v :: st) w) : z_At X A Q Ω k n nL pc lv (st) w := by
  subst hq
  obtain ⟨p, l, e, R, s, m, args, below, meth, c⟩ := X
  obtain ⟨hx, hb, hml, hown, hts, hK, hN⟩ := hC
  intro H locs ls hP hD hS hl
  exact lv_sipush hx hb d hv (kk H locs ls hP hD hS hl)
theorem z_lconst {z : Fin 2} {v : Int64} (hv : Int64.ofNat (z : Nat) = v) (hC : z_C X cc nL own Ω) (d : decode cc pc = .ok (.lconst z, 1)) (hq : pc + 1 = q) (kk : z_At X A Q Ω k n nL q lv (.long v :: st) w) : z_At X A Q Ω k n nL pc lv (st) w := by
  subst hq
  obtain ⟨p, l, e, R, s, m, args, below, meth, c⟩ := X
  obtain ⟨hx, hb, hml, hown, hts, hK, hN⟩ := hC
  intro H locs ls hP hD hS hl
  exact lv_lconst hx hb d hv (kk H locs ls hP hD hS hl)
theorem z_ldc {ix : Nat} {v : Int32} (hc : Cond.constant own ix v ∈ z_good) (hC : z_C X cc nL own Ω) (d : decode cc pc = .ok (.ldc ix, 2)) (hq : pc + 2 = q) (kk : z_At X A Q Ω k n nL q lv (.int v :: st) w) : z_At X A Q Ω k n nL pc lv (st) w := by
  subst hq
  obtain ⟨p, l, e, R, s, m, args, below, meth, c⟩ := X
  obtain ⟨hx, hb, hml, hown, hts, hK, hN⟩ := hC
  intro H locs ls hP hD hS hl
  exact lv_ldc hx hb hown (hts _ hc) d (kk H locs ls hP hD hS hl)
theorem z_ldc2 {ix : Nat} {v : Int64} (hc : Cond.constantLong own ix v ∈ z_good) (hC : z_C X cc nL own Ω) (d : decode cc pc = .ok (.ldc2_w ix, 3)) (hq : pc + 3 = q) (kk : z_At X A Q Ω k n nL q lv (.long v :: st) w) : z_At X A Q Ω k n nL pc lv (st) w := by
  subst hq
  obtain ⟨p, l, e, R, s, m, args, below, meth, c⟩ := X
  obtain ⟨hx, hb, hml, hown, hts, hK, hN⟩ := hC
  intro H locs ls hP hD hS hl
  exact lv_ldc2 hx hb hown (hts _ hc) d (kk H locs ls hP hD hS hl)
theorem z_iload_n {j : Fin 4} {i : Nat} {x : Int32} (hi : (j : Nat) = i) (g : Nat) (hg : lv[g]? = some (i, .int x)) (hC : z_C X cc nL own Ω) (d : decode cc pc = .ok (.iload_n j, 1)) (hq : pc + 1 = q) (kk : z_At X A Q Ω k n nL q lv (.int x :: st) w) : z_At X A Q Ω k n nL pc lv (st) w := by
  subst hq
  obtain ⟨p, l, e, R, s, m, args, below, meth, c⟩ := X
  obtain ⟨hx, hb, hml, hown, hts, hK, hN⟩ := hC
  intro H locs ls hP hD hS hl
  exact lv_iload_n hx hb d hi (lv_at hl g hg) (kk H locs ls hP hD hS hl)
theorem z_iload {i : Nat} {x : Int32} (g : Nat) (hg : lv[g]? = some (i, .int x)) (hC : z_C X cc nL own Ω) (d : decode cc pc = .ok (.iload i, 2)) (hq : pc + 2 = q) (kk : z_At X A Q Ω k n nL q lv (.int x :: st) w) : z_At X A Q Ω k n nL pc lv (st) w := by
  subst hq
  obtain ⟨p, l, e, R, s, m, args, below, meth, c⟩ := X
  obtain ⟨hx, hb, hml, hown, hts, hK, hN⟩ := hC
  intro H locs ls hP hD hS hl
  exact lv_iload hx hb d (lv_at hl g hg) (kk H locs ls hP hD hS hl)
theorem z_lload_n {j : Fin 4} {i : Nat} {x : Int64} (hi : (j : Nat) = i) (g : Nat) (hg : lv[g]? = some (i, .long x)) (hC : z_C X cc nL own Ω) (d : decode cc pc = .ok (.lload_n j, 1)) (hq : pc + 1 = q) (kk : z_At X A Q Ω k n nL q lv (.long x :: st) w) : z_At X A Q Ω k n nL pc lv (st) w := by
  subst hq
  obtain ⟨p, l, e, R, s, m, args, below, meth, c⟩ := X
  obtain ⟨hx, hb, hml, hown, hts, hK, hN⟩ := hC
  intro H locs ls hP hD hS hl
  exact lv_lload_n hx hb d hi (lv_at hl g hg) (kk H locs ls hP hD hS hl)
theorem z_lload {i : Nat} {x : Int64} (g : Nat) (hg : lv[g]? = some (i, .long x)) (hC : z_C X cc nL own Ω) (d : decode cc pc = .ok (.lload i, 2)) (hq : pc + 2 = q) (kk : z_At X A Q Ω k n nL q lv (.long x :: st) w) : z_At X A Q Ω k n nL pc lv (st) w := by
  subst hq
  obtain ⟨p, l, e, R, s, m, args, below, meth, c⟩ := X
  obtain ⟨hx, hb, hml, hown, hts, hK, hN⟩ := hC
  intro H locs ls hP hD hS hl
  exact lv_lload hx hb d (lv_at hl g hg) (kk H locs ls hP hD hS hl)
theorem z_aload_n {j : Fin 4} {i : Nat} {x : Nat} (hi : (j : Nat) = i) (g : Nat) (hg : lv[g]? = some (i, .ref x)) (hC : z_C X cc nL own Ω) (d : decode cc pc = .ok (.aload_n j, 1)) (hq : pc + 1 = q) (kk : z_At X A Q Ω k n nL q lv (.ref x :: st) w) : z_At X A Q Ω k n nL pc lv (st) w := by
  subst hq
  obtain ⟨p, l, e, R, s, m, args, below, meth, c⟩ := X
  obtain ⟨hx, hb, hml, hown, hts, hK, hN⟩ := hC
  intro H locs ls hP hD hS hl
  exact lv_aload_n hx hb d hi (lv_at hl g hg) (kk H locs ls hP hD hS hl)
theorem z_aload {i : Nat} {x : Nat} (g : Nat) (hg : lv[g]? = some (i, .ref x)) (hC : z_C X cc nL own Ω) (d : decode cc pc = .ok (.aload i, 2)) (hq : pc + 2 = q) (kk : z_At X A Q Ω k n nL q lv (.ref x :: st) w) : z_At X A Q Ω k n nL pc lv (st) w := by
  subst hq
  obtain ⟨p, l, e, R, s, m, args, below, meth, c⟩ := X
  obtain ⟨hx, hb, hml, hown, hts, hK, hN⟩ := hC
  intro H locs ls hP hD hS hl
  exact lv_aload hx hb d (lv_at hl g hg) (kk H locs ls hP hD hS hl)
theorem z_istore_n {j : Fin 4} {i : Nat} {x : Int32} (hi : (j : Nat) = i) (hn : i < nL) (hf : (i, Value.int x) :: lv.filter (fun q => !(q.1 == i) && !(q.1 + 1 == i && q.2.category == 2)) = lv') (hC : z_C X cc nL own Ω) (d : decode cc pc = .ok (.istore_n j, 1)) (hq : pc + 1 = q) (kk : z_At X A Q Ω k n nL q lv' (st) w) : z_At X A Q Ω k n nL pc lv (.int x :: st) w := by
  subst hq
  obtain ⟨p, l, e, R, s, m, args, below, meth, c⟩ := X
  obtain ⟨hx, hb, hml, hown, hts, hK, hN⟩ := hC
  intro H locs ls hP hD hS hl
  exact lv_istore_n hx hb d hi hl hn hf (fun ls' h' => kk H locs ls' hP hD hS h')
theorem z_istore {i : Nat} {x : Int32} (hn : i < nL) (hf : (i, Value.int x) :: lv.filter (fun q => !(q.1 == i) && !(q.1 + 1 == i && q.2.category == 2)) = lv') (hC : z_C X cc nL own Ω) (d : decode cc pc = .ok (.istore i, 2)) (hq : pc + 2 = q) (kk : z_At X A Q Ω k n nL q lv' (st) w) : z_At X A Q Ω k n nL pc lv (.int x :: st) w := by
  subst hq
  obtain ⟨p, l, e, R, s, m, args, below, meth, c⟩ := X
  obtain ⟨hx, hb, hml, hown, hts, hK, hN⟩ := hC
  intro H locs ls hP hD hS hl
  exact lv_istore hx hb d hl hn hf (fun ls' h' => kk H locs ls' hP hD hS h')
theorem z_lstore_n {j : Fin 4} {i : Nat} {x : Int64} (hi : (j : Nat) = i) (hn : i + 1 < nL) (hf : (i, Value.long x) :: lv.filter (fun q => !(q.1 == i) && (!(q.1 == i + 1) && !(q.1 + 1 == i && q.2.category == 2))) = lv') (hC : z_C X cc nL own Ω) (d : decode cc pc = .ok (.lstore_n j, 1)) (hq : pc + 1 = q) (kk : z_At X A Q Ω k n nL q lv' (st) w) : z_At X A Q Ω k n nL pc lv (.long x :: st) w := by
  subst hq
  obtain ⟨p, l, e, R, s, m, args, below, meth, c⟩ := X
  obtain ⟨hx, hb, hml, hown, hts, hK, hN⟩ := hC
  intro H locs ls hP hD hS hl
  exact lv_lstore_n hx hb d hi hl hn hf (fun ls' h' => kk H locs ls' hP hD hS h')
theorem z_lstore {i : Nat} {x : Int64} (hn : i + 1 < nL) (hf : (i, Value.long x) :: lv.filter (fun q => !(q.1 == i) && (!(q.1 == i + 1) && !(q.1 + 1 == i && q.2.category == 2))) = lv') (hC : z_C X cc nL own Ω) (d : decode cc pc = .ok (.lstore i, 2)) (hq : pc + 2 = q) (kk : z_At X A Q Ω k n nL q lv' (st) w) : z_At X A Q Ω k n nL pc lv (.long x :: st) w := by
  subst hq
  obtain ⟨p, l, e, R, s, m, args, below, meth, c⟩ := X
  obtain ⟨hx, hb, hml, hown, hts, hK, hN⟩ := hC
  intro H locs ls hP hD hS hl
  exact lv_lstore hx hb d hl hn hf (fun ls' h' => kk H locs ls' hP hD hS h')
theorem z_astore_n {j : Fin 4} {i : Nat} {x : Nat} (hi : (j : Nat) = i) (hn : i < nL) (hf : (i, Value.ref x) :: lv.filter (fun q => !(q.1 == i) && !(q.1 + 1 == i && q.2.category == 2)) = lv') (hC : z_C X cc nL own Ω) (d : decode cc pc = .ok (.astore_n j, 1)) (hq : pc + 1 = q) (kk : z_At X A Q Ω k n nL q lv' (st) w) : z_At X A Q Ω k n nL pc lv (.ref x :: st) w := by
  subst hq
  obtain ⟨p, l, e, R, s, m, args, below, meth, c⟩ := X
  obtain ⟨hx, hb, hml, hown, hts, hK, hN⟩ := hC
  intro H locs ls hP hD hS hl
  exact lv_astore_n hx hb d hi hl hn hf (fun ls' h' => kk H locs ls' hP hD hS h')
theorem z_astore {i : Nat} {x : Nat} (hn : i < nL) (hf : (i, Value.ref x) :: lv.filter (fun q => !(q.1 == i) && !(q.1 + 1 == i && q.2.category == 2)) = lv') (hC : z_C X cc nL own Ω) (d : decode cc pc = .ok (.astore i, 2)) (hq : pc + 2 = q) (kk : z_At X A Q Ω k n nL q lv' (st) w) : z_At X A Q Ω k n nL pc lv (.ref x :: st) w := by
  subst hq
  obtain ⟨p, l, e, R, s, m, args, below, meth, c⟩ := X
  obtain ⟨hx, hb, hml, hown, hts, hK, hN⟩ := hC
  intro H locs ls hP hD hS hl
  exact lv_astore hx hb d hl hn hf (fun ls' h' => kk H locs ls' hP hD hS h')
theorem z_iinc {i : Nat} {z : Int} {x v : Int32} (g : Nat) (hg : lv[g]? = some (i, .int x)) (hv : x + Int32.ofInt z = v) (hn : i < nL) (hf : (i, Value.int v) :: lv.filter (fun q => !(q.1 == i) && !(q.1 + 1 == i && q.2.category == 2)) = lv') (hC : z_C X cc nL own Ω) (d : decode cc pc = .ok (.iinc i z, 3)) (hq : pc + 3 = q) (kk : z_At X A Q Ω k n nL q lv' (st) w) : z_At X A Q Ω k n nL pc lv (st) w := by
  subst hq
  obtain ⟨p, l, e, R, s, m, args, below, meth, c⟩ := X
  obtain ⟨hx, hb, hml, hown, hts, hK, hN⟩ := hC
  intro H locs ls hP hD hS hl
  exact lv_iinc hx hb d hl hg hv hn hf (fun ls' h' => kk H locs ls' hP hD hS h')
theorem z_dup {va : Value} (hva : va.category = 1) (hC : z_C X cc nL own Ω) (d : decode cc pc = .ok (.dup, 1)) (hq : pc + 1 = q) (kk : z_At X A Q Ω k n nL q lv (va :: va :: st) w) : z_At X A Q Ω k n nL pc lv (va :: st) w := by
  subst hq
  obtain ⟨p, l, e, R, s, m, args, below, meth, c⟩ := X
  obtain ⟨hx, hb, hml, hown, hts, hK, hN⟩ := hC
  intro H locs ls hP hD hS hl
  exact lv_dup hx hb d hva (kk H locs ls hP hD hS hl)
theorem z_pop {va : Value} (hva : va.category = 1) (hC : z_C X cc nL own Ω) (d : decode cc pc = .ok (.pop, 1)) (hq : pc + 1 = q) (kk : z_At X A Q Ω k n nL q lv (st) w) : z_At X A Q Ω k n nL pc lv (va :: st) w := by
  subst hq
  obtain ⟨p, l, e, R, s, m, args, below, meth, c⟩ := X
  obtain ⟨hx, hb, hml, hown, hts, hK, hN⟩ := hC
  intro H locs ls hP hD hS hl
  exact lv_pop hx hb d hva (kk H locs ls hP hD hS hl)
theorem z_dup2_11 {va vb : Value} (hva : va.category = 1) (hvb : vb.category = 1) (hC : z_C X cc nL own Ω) (d : decode cc pc = .ok (.dup2, 1)) (hq : pc + 1 = q) (kk : z_At X A Q Ω k n nL q lv (va :: vb :: va :: vb :: st) w) : z_At X A Q Ω k n nL pc lv (va :: vb :: st) w := by
  subst hq
  obtain ⟨p, l, e, R, s, m, args, below, meth, c⟩ := X
  obtain ⟨hx, hb, hml, hown, hts, hK, hN⟩ := hC
  intro H locs ls hP hD hS hl
  exact lv_dup2_11 hx hb d hva hvb (kk H locs ls hP hD hS hl)
theorem z_if_eq {x : Int32} {off : Int} (hC : z_C X cc nL own Ω) (d : decode cc pc = .ok (.ifCond .eq off, 3)) (ht : (pc : Int) + off = (tgt : Int)) (hq : pc + 3 = q) (kt : x = 0 → z_At X A Q Ω k n nL tgt lv st w) (kf : ¬ x = 0 → z_At X A Q Ω k n nL q lv st w) : z_At X A Q Ω k n nL pc lv (.int x :: st) w := by
  subst hq
  obtain ⟨p, l, e, R, s, m, args, below, meth, c⟩ := X
  obtain ⟨hx, hb, hml, hown, hts, hK, hN⟩ := hC
  intro H locs ls hP hD hS hl
  exact lv_if_eq hx hb d ht (fun h => kt h H locs ls hP hD hS hl) (fun h => kf h H locs ls hP hD hS hl)
theorem z_icmp_eq {x y : Int32} {off : Int} (hC : z_C X cc nL own Ω) (d : decode cc pc = .ok (.if_icmp .eq off, 3)) (ht : (pc : Int) + off = (tgt : Int)) (hq : pc + 3 = q) (kt : x = y → z_At X A Q Ω k n nL tgt lv st w) (kf : ¬ x = y → z_At X A Q Ω k n nL q lv st w) : z_At X A Q Ω k n nL pc lv (.int y :: .int x :: st) w := by
  subst hq
  obtain ⟨p, l, e, R, s, m, args, below, meth, c⟩ := X
  obtain ⟨hx, hb, hml, hown, hts, hK, hN⟩ := hC
  intro H locs ls hP hD hS hl
  exact lv_icmp_eq hx hb d ht (fun h => kt h H locs ls hP hD hS hl) (fun h => kf h H locs ls hP hD hS hl)
theorem z_lcmp_eq {x y : Int64} {off : Int} {pc1 : Nat} (hC : z_C X cc nL own Ω) (d1 : decode cc pc = .ok (.lcmp, 1)) (hp : pc + 1 = pc1) (d : decode cc pc1 = .ok (.ifCond .eq off, 3)) (ht : (pc1 : Int) + off = (tgt : Int)) (hq : pc1 + 3 = q) (kt : x = y → z_At X A Q Ω k n nL tgt lv st w) (kf : ¬ x = y → z_At X A Q Ω k n nL q lv st w) : z_At X A Q Ω k n nL pc lv (.long y :: .long x :: st) w := by
  subst hp
  subst hq
  obtain ⟨p, l, e, R, s, m, args, below, meth, c⟩ := X
  obtain ⟨hx, hb, hml, hown, hts, hK, hN⟩ := hC
  intro H locs ls hP hD hS hl
  exact W.lcmp hx hb d1 (lv_if_eq hx hb d ht (fun h => kt ((lg_cmp_eq x y).mp h) H locs ls hP hD hS hl) (fun h => kf (fun g => h ((lg_cmp_eq x y).mpr g)) H locs ls hP hD hS hl))
theorem z_if_ne {x : Int32} {off : Int} (hC : z_C X cc nL own Ω) (d : decode cc pc = .ok (.ifCond .ne off, 3)) (ht : (pc : Int) + off = (tgt : Int)) (hq : pc + 3 = q) (kt : ¬ x = 0 → z_At X A Q Ω k n nL tgt lv st w) (kf : x = 0 → z_At X A Q Ω k n nL q lv st w) : z_At X A Q Ω k n nL pc lv (.int x :: st) w := by
  subst hq
  obtain ⟨p, l, e, R, s, m, args, below, meth, c⟩ := X
  obtain ⟨hx, hb, hml, hown, hts, hK, hN⟩ := hC
  intro H locs ls hP hD hS hl
  exact lv_if_ne hx hb d ht (fun h => kt h H locs ls hP hD hS hl) (fun h => kf h H locs ls hP hD hS hl)
theorem z_icmp_ne {x y : Int32} {off : Int} (hC : z_C X cc nL own Ω) (d : decode cc pc = .ok (.if_icmp .ne off, 3)) (ht : (pc : Int) + off = (tgt : Int)) (hq : pc + 3 = q) (kt : ¬ x = y → z_At X A Q Ω k n nL tgt lv st w) (kf : x = y → z_At X A Q Ω k n nL q lv st w) : z_At X A Q Ω k n nL pc lv (.int y :: .int x :: st) w := by
  subst hq
  obtain ⟨p, l, e, R, s, m, args, below, meth, c⟩ := X
  obtain ⟨hx, hb, hml, hown, hts, hK, hN⟩ := hC
  intro H locs ls hP hD hS hl
  exact lv_icmp_ne hx hb d ht (fun h => kt h H locs ls hP hD hS hl) (fun h => kf h H locs ls hP hD hS hl)
theorem z_lcmp_ne {x y : Int64} {off : Int} {pc1 : Nat} (hC : z_C X cc nL own Ω) (d1 : decode cc pc = .ok (.lcmp, 1)) (hp : pc + 1 = pc1) (d : decode cc pc1 = .ok (.ifCond .ne off, 3)) (ht : (pc1 : Int) + off = (tgt : Int)) (hq : pc1 + 3 = q) (kt : ¬ x = y → z_At X A Q Ω k n nL tgt lv st w) (kf : x = y → z_At X A Q Ω k n nL q lv st w) : z_At X A Q Ω k n nL pc lv (.long y :: .long x :: st) w := by
  subst hp
  subst hq
  obtain ⟨p, l, e, R, s, m, args, below, meth, c⟩ := X
  obtain ⟨hx, hb, hml, hown, hts, hK, hN⟩ := hC
  intro H locs ls hP hD hS hl
  exact W.lcmp hx hb d1 (lv_if_ne hx hb d ht (fun h => kt (fun g => h ((lg_cmp_eq x y).mpr g)) H locs ls hP hD hS hl) (fun h => kf ((lg_cmp_eq x y).mp h) H locs ls hP hD hS hl))
theorem z_if_lt {x : Int32} {off : Int} (hC : z_C X cc nL own Ω) (d : decode cc pc = .ok (.ifCond .lt off, 3)) (ht : (pc : Int) + off = (tgt : Int)) (hq : pc + 3 = q) (kt : x < 0 → z_At X A Q Ω k n nL tgt lv st w) (kf : ¬ x < 0 → z_At X A Q Ω k n nL q lv st w) : z_At X A Q Ω k n nL pc lv (.int x :: st) w := by
  subst hq
  obtain ⟨p, l, e, R, s, m, args, below, meth, c⟩ := X
  obtain ⟨hx, hb, hml, hown, hts, hK, hN⟩ := hC
  intro H locs ls hP hD hS hl
  exact lv_if_lt hx hb d ht (fun h => kt h H locs ls hP hD hS hl) (fun h => kf h H locs ls hP hD hS hl)
theorem z_icmp_lt {x y : Int32} {off : Int} (hC : z_C X cc nL own Ω) (d : decode cc pc = .ok (.if_icmp .lt off, 3)) (ht : (pc : Int) + off = (tgt : Int)) (hq : pc + 3 = q) (kt : x < y → z_At X A Q Ω k n nL tgt lv st w) (kf : ¬ x < y → z_At X A Q Ω k n nL q lv st w) : z_At X A Q Ω k n nL pc lv (.int y :: .int x :: st) w := by
  subst hq
  obtain ⟨p, l, e, R, s, m, args, below, meth, c⟩ := X
  obtain ⟨hx, hb, hml, hown, hts, hK, hN⟩ := hC
  intro H locs ls hP hD hS hl
  exact lv_icmp_lt hx hb d ht (fun h => kt h H locs ls hP hD hS hl) (fun h => kf h H locs ls hP hD hS hl)
theorem z_lcmp_lt {x y : Int64} {off : Int} {pc1 : Nat} (hC : z_C X cc nL own Ω) (d1 : decode cc pc = .ok (.lcmp, 1)) (hp : pc + 1 = pc1) (d : decode cc pc1 = .ok (.ifCond .lt off, 3)) (ht : (pc1 : Int) + off = (tgt : Int)) (hq : pc1 + 3 = q) (kt : x < y → z_At X A Q Ω k n nL tgt lv st w) (kf : ¬ x < y → z_At X A Q Ω k n nL q lv st w) : z_At X A Q Ω k n nL pc lv (.long y :: .long x :: st) w := by
  subst hp
  subst hq
  obtain ⟨p, l, e, R, s, m, args, below, meth, c⟩ := X
  obtain ⟨hx, hb, hml, hown, hts, hK, hN⟩ := hC
  intro H locs ls hP hD hS hl
  exact W.lcmp hx hb d1 (lv_if_lt hx hb d ht (fun h => kt ((lg_cmp_lt x y).mp h) H locs ls hP hD hS hl) (fun h => kf (fun g => h ((lg_cmp_lt x y).mpr g)) H locs ls hP hD hS hl))
theorem z_if_ge {x : Int32} {off : Int} (hC : z_C X cc nL own Ω) (d : decode cc pc = .ok (.ifCond .ge off, 3)) (ht : (pc : Int) + off = (tgt : Int)) (hq : pc + 3 = q) (kt : 0 ≤ x → z_At X A Q Ω k n nL tgt lv st w) (kf : ¬ 0 ≤ x → z_At X A Q Ω k n nL q lv st w) : z_At X A Q Ω k n nL pc lv (.int x :: st) w := by
  subst hq
  obtain ⟨p, l, e, R, s, m, args, below, meth, c⟩ := X
  obtain ⟨hx, hb, hml, hown, hts, hK, hN⟩ := hC
  intro H locs ls hP hD hS hl
  exact lv_if_ge hx hb d ht (fun h => kt h H locs ls hP hD hS hl) (fun h => kf h H locs ls hP hD hS hl)
theorem z_icmp_ge {x y : Int32} {off : Int} (hC : z_C X cc nL own Ω) (d : decode cc pc = .ok (.if_icmp .ge off, 3)) (ht : (pc : Int) + off = (tgt : Int)) (hq : pc + 3 = q) (kt : y ≤ x → z_At X A Q Ω k n nL tgt lv st w) (kf : ¬ y ≤ x → z_At X A Q Ω k n nL q lv st w) : z_At X A Q Ω k n nL pc lv (.int y :: .int x :: st) w := by
  subst hq
  obtain ⟨p, l, e, R, s, m, args, below, meth, c⟩ := X
  obtain ⟨hx, hb, hml, hown, hts, hK, hN⟩ := hC
  intro H locs ls hP hD hS hl
  exact lv_icmp_ge hx hb d ht (fun h => kt h H locs ls hP hD hS hl) (fun h => kf h H locs ls hP hD hS hl)
theorem z_lcmp_ge {x y : Int64} {off : Int} {pc1 : Nat} (hC : z_C X cc nL own Ω) (d1 : decode cc pc = .ok (.lcmp, 1)) (hp : pc + 1 = pc1) (d : decode cc pc1 = .ok (.ifCond .ge off, 3)) (ht : (pc1 : Int) + off = (tgt : Int)) (hq : pc1 + 3 = q) (kt : y ≤ x → z_At X A Q Ω k n nL tgt lv st w) (kf : ¬ y ≤ x → z_At X A Q Ω k n nL q lv st w) : z_At X A Q Ω k n nL pc lv (.long y :: .long x :: st) w := by
  subst hp
  subst hq
  obtain ⟨p, l, e, R, s, m, args, below, meth, c⟩ := X
  obtain ⟨hx, hb, hml, hown, hts, hK, hN⟩ := hC
  intro H locs ls hP hD hS hl
  exact W.lcmp hx hb d1 (lv_if_ge hx hb d ht (fun h => kt ((lg_cmp_ge x y).mp h) H locs ls hP hD hS hl) (fun h => kf (fun g => h ((lg_cmp_ge x y).mpr g)) H locs ls hP hD hS hl))
theorem z_if_gt {x : Int32} {off : Int} (hC : z_C X cc nL own Ω) (d : decode cc pc = .ok (.ifCond .gt off, 3)) (ht : (pc : Int) + off = (tgt : Int)) (hq : pc + 3 = q) (kt : 0 < x → z_At X A Q Ω k n nL tgt lv st w) (kf : ¬ 0 < x → z_At X A Q Ω k n nL q lv st w) : z_At X A Q Ω k n nL pc lv (.int x :: st) w := by
  subst hq
  obtain ⟨p, l, e, R, s, m, args, below, meth, c⟩ := X
  obtain ⟨hx, hb, hml, hown, hts, hK, hN⟩ := hC
  intro H locs ls hP hD hS hl
  exact lv_if_gt hx hb d ht (fun h => kt h H locs ls hP hD hS hl) (fun h => kf h H locs ls hP hD hS hl)
theorem z_icmp_gt {x y : Int32} {off : Int} (hC : z_C X cc nL own Ω) (d : decode cc pc = .ok (.if_icmp .gt off, 3)) (ht : (pc : Int) + off = (tgt : Int)) (hq : pc + 3 = q) (kt : y < x → z_At X A Q Ω k n nL tgt lv st w) (kf : ¬ y < x → z_At X A Q Ω k n nL q lv st w) : z_At X A Q Ω k n nL pc lv (.int y :: .int x :: st) w := by
  subst hq
  obtain ⟨p, l, e, R, s, m, args, below, meth, c⟩ := X
  obtain ⟨hx, hb, hml, hown, hts, hK, hN⟩ := hC
  intro H locs ls hP hD hS hl
  exact lv_icmp_gt hx hb d ht (fun h => kt h H locs ls hP hD hS hl) (fun h => kf h H locs ls hP hD hS hl)
theorem z_lcmp_gt {x y : Int64} {off : Int} {pc1 : Nat} (hC : z_C X cc nL own Ω) (d1 : decode cc pc = .ok (.lcmp, 1)) (hp : pc + 1 = pc1) (d : decode cc pc1 = .ok (.ifCond .gt off, 3)) (ht : (pc1 : Int) + off = (tgt : Int)) (hq : pc1 + 3 = q) (kt : y < x → z_At X A Q Ω k n nL tgt lv st w) (kf : ¬ y < x → z_At X A Q Ω k n nL q lv st w) : z_At X A Q Ω k n nL pc lv (.long y :: .long x :: st) w := by
  subst hp
  subst hq
  obtain ⟨p, l, e, R, s, m, args, below, meth, c⟩ := X
  obtain ⟨hx, hb, hml, hown, hts, hK, hN⟩ := hC
  intro H locs ls hP hD hS hl
  exact W.lcmp hx hb d1 (lv_if_gt hx hb d ht (fun h => kt ((lg_cmp_gt x y).mp h) H locs ls hP hD hS hl) (fun h => kf (fun g => h ((lg_cmp_gt x y).mpr g)) H locs ls hP hD hS hl))
theorem z_if_le {x : Int32} {off : Int} (hC : z_C X cc nL own Ω) (d : decode cc pc = .ok (.ifCond .le off, 3)) (ht : (pc : Int) + off = (tgt : Int)) (hq : pc + 3 = q) (kt : x ≤ 0 → z_At X A Q Ω k n nL tgt lv st w) (kf : ¬ x ≤ 0 → z_At X A Q Ω k n nL q lv st w) : z_At X A Q Ω k n nL pc lv (.int x :: st) w := by
  subst hq
  obtain ⟨p, l, e, R, s, m, args, below, meth, c⟩ := X
  obtain ⟨hx, hb, hml, hown, hts, hK, hN⟩ := hC
  intro H locs ls hP hD hS hl
  exact lv_if_le hx hb d ht (fun h => kt h H locs ls hP hD hS hl) (fun h => kf h H locs ls hP hD hS hl)
theorem z_icmp_le {x y : Int32} {off : Int} (hC : z_C X cc nL own Ω) (d : decode cc pc = .ok (.if_icmp .le off, 3)) (ht : (pc : Int) + off = (tgt : Int)) (hq : pc + 3 = q) (kt : x ≤ y → z_At X A Q Ω k n nL tgt lv st w) (kf : ¬ x ≤ y → z_At X A Q Ω k n nL q lv st w) : z_At X A Q Ω k n nL pc lv (.int y :: .int x :: st) w := by
  subst hq
  obtain ⟨p, l, e, R, s, m, args, below, meth, c⟩ := X
  obtain ⟨hx, hb, hml, hown, hts, hK, hN⟩ := hC
  intro H locs ls hP hD hS hl
  exact lv_icmp_le hx hb d ht (fun h => kt h H locs ls hP hD hS hl) (fun h => kf h H locs ls hP hD hS hl)
theorem z_lcmp_le {x y : Int64} {off : Int} {pc1 : Nat} (hC : z_C X cc nL own Ω) (d1 : decode cc pc = .ok (.lcmp, 1)) (hp : pc + 1 = pc1) (d : decode cc pc1 = .ok (.ifCond .le off, 3)) (ht : (pc1 : Int) + off = (tgt : Int)) (hq : pc1 + 3 = q) (kt : x ≤ y → z_At X A Q Ω k n nL tgt lv st w) (kf : ¬ x ≤ y → z_At X A Q Ω k n nL q lv st w) : z_At X A Q Ω k n nL pc lv (.long y :: .long x :: st) w := by
  subst hp
  subst hq
  obtain ⟨p, l, e, R, s, m, args, below, meth, c⟩ := X
  obtain ⟨hx, hb, hml, hown, hts, hK, hN⟩ := hC
  intro H locs ls hP hD hS hl
  exact W.lcmp hx hb d1 (lv_if_le hx hb d ht (fun h => kt ((lg_cmp_le x y).mp h) H locs ls hP hD hS hl) (fun h => kf (fun g => h ((lg_cmp_le x y).mpr g)) H locs ls hP hD hS hl))
theorem z_goto {off : Int} (hC : z_C X cc nL own Ω) (d : decode cc pc = .ok (.goto off, 3)) (ht : (pc : Int) + off = (tgt : Int)) (kk : z_At X A Q Ω k n nL tgt lv st w) : z_At X A Q Ω k n nL pc lv st w := by
  obtain ⟨p, l, e, R, s, m, args, below, meth, c⟩ := X
  obtain ⟨hx, hb, hml, hown, hts, hK, hN⟩ := hC
  intro H locs ls hP hD hS hl
  exact lv_goto hx hb d ht (kk H locs ls hP hD hS hl)
theorem z_sub (ks : List Nat) (h : lv_pick lv ks = lv') (kk : z_At X A Q Ω k n nL pc lv' st w) : z_At X A Q Ω k n nL pc lv st w := by
  obtain ⟨p, l, e, R, s, m, args, below, meth, c⟩ := X
  intro H locs ls hP hD hS hl
  exact kk H locs ls hP hD hS (lv_sub hl ks h)
theorem z_world {w' : va_W} (h : w = w') (kk : z_At X A Q Ω k n nL pc lv st w') : z_At X A Q Ω k n nL pc lv st w := h ▸ kk
theorem z_get {C : String} {T : u_T} {N ci ix b g : Nat} {fs : List Value} {v : Value} (hC : z_C X cc nL own Ω) (hin : ∀ x ∈ u_ws C T N, x ∈ z_good) (q0 : Nat) (he : w[q0]? = some (b, .inr (ci, fs))) (hc : z_cl[ci]? = some (C, T, N)) (hg : g < N) (hl0 : Cond.fieldLink own ix (T g).1 (T g).2.1 (T g).2.2.1 ∈ z_good) (hv : fs[g]? = some v) (d : decode cc pc = .ok (.getfield ix, 3)) (hq : pc + 3 = q) (kk : z_At X A Q Ω k n nL q lv (v :: st) w) : z_At X A Q Ω k n nL pc lv (.ref b :: st) w := by
  subst hq
  obtain ⟨p, l, e, R, s, m, args, below, meth, c⟩ := X
  obtain ⟨hx, hb, hml, hown, hts, hK, hN⟩ := hC
  intro H locs ls hP hD hS hl
  exact va_get hx hb hts hin hown hK hP q0 he hc g hg (hts _ hl0) (fun _ h => h) hv d (kk H locs ls hP hD hS hl)
theorem z_getN {C host : String} {T : u_T} {N ci ix b g : Nat} {fs : List Value} {v : Value} (hC : z_C X cc nL own Ω) (hin : ∀ x ∈ u_ws C T N, x ∈ z_good) (q0 : Nat) (he : w[q0]? = some (b, .inr (ci, fs))) (hc : z_cl[ci]? = some (C, T, N)) (hg : g < N) (hl0 : Cond.fieldLinkNest own ix (T g).1 (T g).2.1 (T g).2.2.1 host ∈ z_nest) (hv : fs[g]? = some v) (d : decode cc pc = .ok (.getfield ix, 3)) (hq : pc + 3 = q) (kk : z_At X A Q Ω k n nL q lv (v :: st) w) : z_At X A Q Ω k n nL pc lv (.ref b :: st) w := by
  subst hq
  obtain ⟨p, l, e, R, s, m, args, below, meth, c⟩ := X
  obtain ⟨hx, hb, hml, hown, hts, hK, hN⟩ := hC
  intro H locs ls hP hD hS hl
  exact va_getN hx hb hts hin hown hK hP q0 he hc g hg (va_Nw.use rfl (hN _ hl0)) (fun _ h => h) hv d (kk H locs ls hP hD hS hl)
theorem z_put {C : String} {T : u_T} {N ci ix b g : Nat} {fs : List Value} {v : Value} {ty : FieldType} {w' : va_W} (hC : z_C X cc nL own Ω) (hin : ∀ x ∈ u_ws C T N, x ∈ z_good) (ty0 : Nat → FieldType) (hty : ∀ k, k < N → parseFieldDescriptor (T k).2.2.1 = some (ty0 k)) (hnm : ∀ a, a < N → ∀ b, b < N → a ≠ b → (T a).2.1 ≠ (T b).2.1) (q0 : Nat) (he : w[q0]? = some (b, .inr (ci, fs))) (hc : z_cl[ci]? = some (C, T, N)) (hg : g < N) (hl0 : Cond.fieldLink own ix (T g).1 (T g).2.1 (T g).2.2.1 ∈ z_good) (hfin : (T g).2.2.2 = false) (hd : parseFieldDescriptor (T g).2.2.1 = some ty) (hn : narrow ty v = v) (hfit : fits ty v = true) (hle : g < fs.length) (hw : w.set q0 (b, .inr (ci, fs.set g v)) = w') (d : decode cc pc = .ok (.putfield ix, 3)) (hq : pc + 3 = q) (kk : z_At X A Q Ω k n nL q lv st w') : z_At X A Q Ω k n nL pc lv (v :: .ref b :: st) w := by
  subst hq
  subst hw
  obtain ⟨p, l, e, R, s, m, args, below, meth, c⟩ := X
  obtain ⟨hx, hb, hml, hown, hts, hK, hN⟩ := hC
  intro H locs ls hP hD hS hl
  exact va_put hx hb hts hin ty0 hty hnm hown hK hP hD hS q0 he hc g hg (hts _ hl0) (fun _ h => h) hfin hd hn hfit hle d (fun H1 locs1 hP1 hD1 hS1 => kk H1 locs1 ls hP1 hD1 hS1 hl)
theorem z_putN {C host : String} {T : u_T} {N ci ix b g : Nat} {fs : List Value} {v : Value} {ty : FieldType} {w' : va_W} (hC : z_C X cc nL own Ω) (hin : ∀ x ∈ u_ws C T N, x ∈ z_good) (ty0 : Nat → FieldType) (hty : ∀ k, k < N → parseFieldDescriptor (T k).2.2.1 = some (ty0 k)) (hnm : ∀ a, a < N → ∀ b, b < N → a ≠ b → (T a).2.1 ≠ (T b).2.1) (q0 : Nat) (he : w[q0]? = some (b, .inr (ci, fs))) (hc : z_cl[ci]? = some (C, T, N)) (hg : g < N) (hl0 : Cond.fieldLinkNest own ix (T g).1 (T g).2.1 (T g).2.2.1 host ∈ z_nest) (hfin : (T g).2.2.2 = false) (hd : parseFieldDescriptor (T g).2.2.1 = some ty) (hn : narrow ty v = v) (hfit : fits ty v = true) (hle : g < fs.length) (hw : w.set q0 (b, .inr (ci, fs.set g v)) = w') (d : decode cc pc = .ok (.putfield ix, 3)) (hq : pc + 3 = q) (kk : z_At X A Q Ω k n nL q lv st w') : z_At X A Q Ω k n nL pc lv (v :: .ref b :: st) w := by
  subst hq
  subst hw
  obtain ⟨p, l, e, R, s, m, args, below, meth, c⟩ := X
  obtain ⟨hx, hb, hml, hown, hts, hK, hN⟩ := hC
  intro H locs ls hP hD hS hl
  exact va_putN hx hb hts hin ty0 hty hnm hown hK hP hD hS q0 he hc g hg (va_Nw.use rfl (hN _ hl0)) (fun _ h => h) hfin hd hn hfit hle d (fun H1 locs1 hP1 hD1 hS1 => kk H1 locs1 ls hP1 hD1 hS1 hl)
theorem z_iald {N b : Nat} {f : Nat → Int32} {i : Int32} (hC : z_C X cc nL own Ω) (q0 : Nat) (he : w[q0]? = some (b, .inl (Ω.2.1.1, N, .inl f))) (hi : vi i N = true) (d : decode cc pc = .ok (.iaload, 1)) (hq : pc + 1 = q) (kk : z_At X A Q Ω k n nL q lv (.int (f i.toNatClampNeg) :: st) w) : z_At X A Q Ω k n nL pc lv (.int i :: .ref b :: st) w := by
  subst hq
  obtain ⟨p, l, e, R, s, m, args, below, meth, c⟩ := X
  obtain ⟨hx, hb, hml, hown, hts, hK, hN⟩ := hC
  intro H locs ls hP hD hS hl
  exact va_iald hx hb hK hP q0 0 he rfl (vi_in hi) d (kk H locs ls hP hD hS hl)
theorem z_zald {N b : Nat} {f : Nat → Int32} {i : Int32} (hC : z_C X cc nL own Ω) (q0 : Nat) (he : w[q0]? = some (b, .inl (Ω.2.1.2.2.1, N, .inl f))) (hi : vi i N = true) (d : decode cc pc = .ok (.baload, 1)) (hq : pc + 1 = q) (kk : z_At X A Q Ω k n nL q lv (.int (f i.toNatClampNeg) :: st) w) : z_At X A Q Ω k n nL pc lv (.int i :: .ref b :: st) w := by
  subst hq
  obtain ⟨p, l, e, R, s, m, args, below, meth, c⟩ := X
  obtain ⟨hx, hb, hml, hown, hts, hK, hN⟩ := hC
  intro H locs ls hP hD hS hl
  exact va_zald hx hb hK hP q0 2 he rfl (vi_in hi) d (kk H locs ls hP hD hS hl)
theorem z_lald {N b : Nat} {f : Nat → Int64} {i : Int32} (hC : z_C X cc nL own Ω) (q0 : Nat) (he : w[q0]? = some (b, .inl (Ω.2.1.2.1, N, .inr (.inl f)))) (hi : vi i N = true) (d : decode cc pc = .ok (.laload, 1)) (hq : pc + 1 = q) (kk : z_At X A Q Ω k n nL q lv (.long (f i.toNatClampNeg) :: st) w) : z_At X A Q Ω k n nL pc lv (.int i :: .ref b :: st) w := by
  subst hq
  obtain ⟨p, l, e, R, s, m, args, below, meth, c⟩ := X
  obtain ⟨hx, hb, hml, hown, hts, hK, hN⟩ := hC
  intro H locs ls hP hD hS hl
  exact va_lald hx hb hK hP q0 1 he rfl (vi_in hi) d (kk H locs ls hP hD hS hl)
theorem z_iast {N b : Nat} {f : Nat → Int32} {i : Int32} {x : Int32} {w' : va_W} (hC : z_C X cc nL own Ω) (q0 : Nat) (he : w[q0]? = some (b, .inl (Ω.2.1.1, N, .inl f))) (hi : vi i N = true) (hw : w.set q0 (b, .inl (Ω.2.1.1, N, .inl (upd f i.toNatClampNeg x))) = w') (d : decode cc pc = .ok (.iastore, 1)) (hq : pc + 1 = q) (kk : z_At X A Q Ω k n nL q lv st w') : z_At X A Q Ω k n nL pc lv (.int x :: .int i :: .ref b :: st) w := by
  subst hq
  subst hw
  obtain ⟨p, l, e, R, s, m, args, below, meth, c⟩ := X
  obtain ⟨hx, hb, hml, hown, hts, hK, hN⟩ := hC
  intro H locs ls hP hD hS hl
  exact va_iast hx hb hK hP hD hS q0 0 he rfl (vi_in hi) d (fun H1 locs1 hP1 hD1 hS1 => kk H1 locs1 ls hP1 hD1 hS1 hl)
theorem z_zast {N b : Nat} {f : Nat → Int32} {i : Int32} {x : Int32} {w' : va_W} (hC : z_C X cc nL own Ω) (q0 : Nat) (he : w[q0]? = some (b, .inl (Ω.2.1.2.2.1, N, .inl f))) (hi : vi i N = true) (hw : w.set q0 (b, .inl (Ω.2.1.2.2.1, N, .inl (upd f i.toNatClampNeg (vp_nar .boolean x)))) = w') (d : decode cc pc = .ok (.bastore, 1)) (hq : pc + 1 = q) (kk : z_At X A Q Ω k n nL q lv st w') : z_At X A Q Ω k n nL pc lv (.int x :: .int i :: .ref b :: st) w := by
  subst hq
  subst hw
  obtain ⟨p, l, e, R, s, m, args, below, meth, c⟩ := X
  obtain ⟨hx, hb, hml, hown, hts, hK, hN⟩ := hC
  intro H locs ls hP hD hS hl
  exact va_zast hx hb hK hP hD hS q0 2 he rfl (vi_in hi) d (fun H1 locs1 hP1 hD1 hS1 => kk H1 locs1 ls hP1 hD1 hS1 hl)
theorem z_last {N b : Nat} {f : Nat → Int64} {i : Int32} {x : Int64} {w' : va_W} (hC : z_C X cc nL own Ω) (q0 : Nat) (he : w[q0]? = some (b, .inl (Ω.2.1.2.1, N, .inr (.inl f)))) (hi : vi i N = true) (hw : w.set q0 (b, .inl (Ω.2.1.2.1, N, .inr (.inl (vp_updL f i.toNatClampNeg x)))) = w') (d : decode cc pc = .ok (.lastore, 1)) (hq : pc + 1 = q) (kk : z_At X A Q Ω k n nL q lv st w') : z_At X A Q Ω k n nL pc lv (.long x :: .int i :: .ref b :: st) w := by
  subst hq
  subst hw
  obtain ⟨p, l, e, R, s, m, args, below, meth, c⟩ := X
  obtain ⟨hx, hb, hml, hown, hts, hK, hN⟩ := hC
  intro H locs ls hP hD hS hl
  exact va_last hx hb hK hP hD hS q0 1 he rfl (vi_in hi) d (fun H1 locs1 hP1 hD1 hS1 => kk H1 locs1 ls hP1 hD1 hS1 hl)
theorem z_aald {N b : Nat} {f : Nat → Option Nat} {i : Int32} {y : Nat} (hC : z_C X cc nL own Ω) (q0 : Nat) (he : w[q0]? = some (b, .inl (Ω.2.1.2.2.2, N, .inr (.inr (.inr (.inr f)))))) (hi : vi i N = true) (hy : f i.toNatClampNeg = some y) (d : decode cc pc = .ok (.aaload, 1)) (hq : pc + 1 = q) (kk : z_At X A Q Ω k n nL q lv (.ref y :: st) w) : z_At X A Q Ω k n nL pc lv (.int i :: .ref b :: st) w := by
  subst hq
  obtain ⟨p, l, e, R, s, m, args, below, meth, c⟩ := X
  obtain ⟨hx, hb, hml, hown, hts, hK, hN⟩ := hC
  intro H locs ls hP hD hS hl
  exact W.aald (v := .ref y) (ty := .array .long) hx hb (hP q0 _ he) ((hK.2 3 _ rfl).1 N (fun j => va_rf (f j))) rfl (fun q => by cases q) (by show ¬ (i < 0 ∨ (arrV _ _ _).slots.size ≤ _); rw [arrV_size]; exact vi_in hi) (by show (arrV _ _ _).slots[_]? = _; rw [arrV_read _ _ (vi_lt hi), hy]; rfl) rfl rfl d (kk H locs ls hP hD hS hl)
theorem z_iret {r v : Int32} {w' : va_W} (hC : z_C X cc nL own Ω) (hR : z_R X (some .int)) (hv : v = r) (hw : w = w') (d : decode cc pc = .ok (.ireturn, 1)) : z_At X A (z_QI X Ω A r w') Ω 0 0 nL pc lv [.int v] w := by
  subst hv
  subst hw
  obtain ⟨p, l, e, R, s, m, args, below, meth, c⟩ := X
  obtain ⟨hx, hb, hml, hown, hts, hK, hN⟩ := hC
  obtain ⟨hr, hlk⟩ := hR
  intro H locs ls hP hD hS hl
  exact W.iret hx hb hr (fun t ht hW => ⟨⟨v, (), rfl, rfl, by rw [← ht] at hP; exact hP, hD⟩, hS.F ht⟩) hS.2.2 d hlk
theorem z_zret {r v : Int32} {w' : va_W} (hC : z_C X cc nL own Ω) (hR : z_R X (some .boolean)) (hz : vz v = true) (hv : v = r) (hw : w = w') (d : decode cc pc = .ok (.ireturn, 1)) : z_At X A (z_QI X Ω A r w') Ω 0 0 nL pc lv [.int v] w := by
  subst hv
  subst hw
  obtain ⟨p, l, e, R, s, m, args, below, meth, c⟩ := X
  obtain ⟨hx, hb, hml, hown, hts, hK, hN⟩ := hC
  obtain ⟨hr, hlk⟩ := hR
  intro H locs ls hP hD hS hl
  exact W.zret hx hb hr (vz_n hz) (fun t ht hW => ⟨⟨v, (), rfl, rfl, by rw [← ht] at hP; exact hP, hD⟩, hS.F ht⟩) hS.2.2 d hlk
theorem z_lret {r v : Int64} {w' : va_W} (hC : z_C X cc nL own Ω) (hR : z_R X (some .long)) (hv : v = r) (hw : w = w') (d : decode cc pc = .ok (.lreturn, 1)) : z_At X A (z_QL X Ω A r w') Ω 0 0 nL pc lv [.long v] w := by
  subst hv
  subst hw
  obtain ⟨p, l, e, R, s, m, args, below, meth, c⟩ := X
  obtain ⟨hx, hb, hml, hown, hts, hK, hN⟩ := hC
  obtain ⟨hr, hlk⟩ := hR
  intro H locs ls hP hD hS hl
  exact W.lret hx hb hr (fun t ht hW => ⟨⟨v, (), rfl, rfl, by rw [← ht] at hP; exact hP, hD⟩, hS.F ht⟩) hS.2.2 d hlk
theorem z_vret {w' : va_W} (hC : z_C X cc nL own Ω) (hR : z_R X none) (hw : w = w') (d : decode cc pc = .ok (.return_, 1)) : z_At X A (z_QV X Ω A w') Ω 0 0 nL pc lv [] w := by
  subst hw
  obtain ⟨p, l, e, R, s, m, args, below, meth, c⟩ := X
  obtain ⟨hx, hb, hml, hown, hts, hK, hN⟩ := hC
  obtain ⟨hr, hlk⟩ := hR
  intro H locs ls hP hD hS hl
  exact W.vret hx hb hr (fun t ht hW => ⟨⟨(), rfl, trivial, by rw [← ht] at hP; exact hP, hD⟩, hS.F ht⟩) hS.2.2 d hlk
theorem z_iabs {ix : Nat} {x : Int32} (hC : z_C X cc nL own Ω) (h1 : Cond.methodLink own ix Lib.Math.abs.name ∈ z_good) (h2 : Cond.static Lib.Math.abs.name ∈ z_good) (h3 : Cond.initialized "java/lang/Math" ∈ z_good) (h4 : Cond.code Lib.Math.abs.name Lib.Math.abs.code 1 (some .int) ∈ z_good) (hf : 1 ≤ (z_rmOf X).frames) (hlo : (st.map fun v => v.category).sum + 13 ≤ (z_rmOf X).locals) (hkn : k ≤ (z_rmOf X).cells ∧ n ≤ (z_rmOf X).slots) (d : decode cc pc = .ok (.invokestatic ix, 3)) (hq : pc + 3 = q) (kk : z_At X A Q Ω k n nL q lv (.int (if 0 ≤ x then x else 0 - x) :: st) w) : z_At X A Q Ω k n nL pc lv (.int x :: st) w := by
  subst hq
  obtain ⟨p, l, e, R, s, m, args, below, meth, c⟩ := X
  obtain ⟨hx, hb, hml, hown, hts, hK, hN⟩ := hC
  intro H locs ls hP hD hS hl
  exact va_mabs hx hb (hml.trans hl.1.symm) hown (hts _ h1) (hts _ h2) (hts _ h3) (hts _ h4) hf hlo hkn.1 hkn.2 d (kk H locs ls hP hD hS hl)
theorem z_labs {ix : Nat} {x : Int64} (hC : z_C X cc nL own Ω) (h1 : Cond.methodLink own ix Lib.MathLoose.abs_long.x ∈ z_good) (h2 : Cond.static Lib.MathLoose.abs_long.x ∈ z_good) (h3 : Cond.initialized "java/lang/Math" ∈ z_good) (h4 : Cond.code Lib.MathLoose.abs_long.x Lib.MathLoose.abs_long.code 2 (some .long) ∈ z_good) (hf : 1 ≤ (z_rmOf X).frames) (hlo : (st.map fun v => v.category).sum + 13 ≤ (z_rmOf X).locals) (hkn : k ≤ (z_rmOf X).cells ∧ n ≤ (z_rmOf X).slots) (d : decode cc pc = .ok (.invokestatic ix, 3)) (hq : pc + 3 = q) (kk : z_At X A Q Ω k n nL q lv (.long (if 0 < x then x else -x) :: st) w) : z_At X A Q Ω k n nL pc lv (.long x :: st) w := by
  subst hq
  obtain ⟨p, l, e, R, s, m, args, below, meth, c⟩ := X
  obtain ⟨hx, hb, hml, hown, hts, hK, hN⟩ := hC
  intro H locs ls hP hD hS hl
  exact va_mabs_long hx hb (hml.trans hl.1.symm) hown (hts _ h1) (hts _ h2) (hts _ h3) (hts _ h4) hf hlo hkn.1 hkn.2 d (kk H locs ls hP hD hS hl)
theorem z_blind (w : va_W) (sz : Nat) (av : List Value) : FrameBlind (va_Pc av (z_Pre Ω w sz)) := fun a U g mk q => by
  obtain ⟨q0, q1, qP, qK, qD, qN⟩ := q
  exact ⟨q0, q1, qP, va_K.moved (u := U) (U := U.calling g mk a) (Vm.Alike.refl U.vm) qK, qD, fun x hx => va_Nw.same (by have h1 := (List.mem_filter.mp hx).2; cases x <;> first | rfl | (simp [z_isNest] at h1; done)) (rfl : U.vm = (U.calling g mk a).vm) (qN x hx)⟩
theorem z_wFree {H0 H : Heap} {locs : List Loc} (hD : va_D A w) (hS : va_S A H0 H locs) (hA : ∀ q, H0.size ≤ q → A q) : ∀ q, va_A w H.size q → A q := by
  intro q h
  rcases h with ⟨k, e, h⟩ | h
  · exact hD.2 k (q, e) h
  · exact hA q (Nat.le_trans hS.1 h)
def z_hA (X : z_X) (A : Nat → Prop) : Prop := ∀ q, X.2.2.2.2.1.heap.size ≤ q → A q
theorem z_callVi {y : MethodName} {bytes : ByteArray} {maxL fr lo N ix b : Nat} {r : Int32} {rt : FieldType} {As sk : List Value} {w' : va_W} {q0 ci : Nat} {fs : List Value} {T : u_T} {NN : Nat} (hC : z_C X cc nL own Ω) (hA : z_hA X A) (hM : z_MI (z_lOf X) Ω y bytes maxL rt fr lo (.ref b :: As) w r w') (hco : Cond.code y bytes maxL (some rt) ∈ z_good) (hlk : Cond.methodLink own ix y ∈ z_good) (hi : Cond.instanceMethod y ∈ z_good) (hs : Cond.selects y.cls y y ∈ z_good) (hini : Cond.initialized y.cls ∈ z_good) (hd : y.cls ≠ "java/lang/invoke/MethodHandle" ∧ y.cls ≠ "java/lang/invoke/VarHandle" ∧ (parseMethodDescriptor y.desc).map (fun d => d.parameters.length) = some N) (hR : fr + 1 ≤ (z_rmOf X).frames ∧ 8 + (maxL + 11) + lo ≤ (z_rmOf X).locals) (hkn : k ≤ (z_rmOf X).cells ∧ n ≤ (z_rmOf X).slots) (hn : As.length = N) (he : w[q0]? = some (b, .inr (ci, fs))) (hc : z_cl[ci]? = some (y.cls, T, NN)) (hsk : (st.map fun v => v.category).sum ≤ 8) (hst : sk = As.reverse ++ .ref b :: st) (d : decode cc pc = .ok (.invokevirtual ix, 3)) (hq : pc + 3 = q) (kk : z_At X A Q Ω k n nL q lv (.int r :: st) w') : z_At X A Q Ω k n nL pc lv sk w := by
  subst hq
  subst hst
  obtain ⟨p, l, e, R, s, m, args, below, meth, c⟩ := X
  obtain ⟨hx, hb, hml, hown, hts, hK, hN⟩ := hC
  intro H locs ls hP hD hS hl
  have hF := z_wFree hD hS hA
  refine va_calli (va_runV (C := y.cls) (As := As) (rest := st) ⟨hx, hb, hml, hown, hts⟩ (hM H.size) ⟨callB_of N hts (z_goodC hco) rfl rfl rfl (hts _ hini) (hts _ hlk) hd hR, hts _ hi, hts _ hs⟩ ⟨z_blind w H.size _, va_recv hK hP hc he, fun U hU hW => ⟨rfl, by rw [hU], by rw [hU]; exact hP, va_K.moved hW.alike hK, hD.weaken (fun _ _ _ _ => trivial), z_nestW hW hN⟩⟩ rfl hn hl.1 rfl (lv_room hsk) d ⟨hkn.1, hkn.2⟩) hS (fun q _ h => hF q h) hF (fun r1 u t H1 locs1 ht hvm hp hB hz1 hk1 hS1 => ?_)
  obtain ⟨hP1, hD1⟩ := hB
  rw [ht] at hP1
  subst hp
  exact kk H1 locs1 ls hP1 (hD1.weaken (fun _ q _ h => hF q.1 h)) hS1 hl
theorem z_callSi {y : MethodName} {bytes : ByteArray} {maxL fr lo N ix : Nat} {r : Int32} {rt : FieldType} {As sk : List Value} {w' : va_W} (hC : z_C X cc nL own Ω) (hA : z_hA X A) (hM : z_MI (z_lOf X) Ω y bytes maxL rt fr lo As w r w') (hco : Cond.code y bytes maxL (some rt) ∈ z_good) (hlk : Cond.methodLink own ix y ∈ z_good) (hi : Cond.static y ∈ z_good) (hini : Cond.initialized y.cls ∈ z_good) (hd : y.cls ≠ "java/lang/invoke/MethodHandle" ∧ y.cls ≠ "java/lang/invoke/VarHandle" ∧ (parseMethodDescriptor y.desc).map (fun d => d.parameters.length) = some N) (hR : fr + 1 ≤ (z_rmOf X).frames ∧ 8 + (maxL + 11) + lo ≤ (z_rmOf X).locals) (hkn : k ≤ (z_rmOf X).cells ∧ n ≤ (z_rmOf X).slots) (hn : As.length = N) (hsk : (st.map fun v => v.category).sum ≤ 8) (hst : sk = As.reverse ++ st) (d : decode cc pc = .ok (.invokestatic ix, 3)) (hq : pc + 3 = q) (kk : z_At X A Q Ω k n nL q lv (.int r :: st) w') : z_At X A Q Ω k n nL pc lv sk w := by
  subst hq
  subst hst
  obtain ⟨p, l, e, R, s, m, args, below, meth, c⟩ := X
  obtain ⟨hx, hb, hml, hown, hts, hK, hN⟩ := hC
  intro H locs ls hP hD hS hl
  have hF := z_wFree hD hS hA
  refine va_calli (va_runS (As := As) (rest := st) ⟨hx, hb, hml, hown, hts⟩ (hM H.size) ⟨callB_of N hts (z_goodC hco) rfl rfl rfl (hts _ hini) (hts _ hlk) hd hR, hts _ hi⟩ ⟨z_blind w H.size _, fun U hU hW => ⟨rfl, by rw [hU], by rw [hU]; exact hP, va_K.moved hW.alike hK, hD.weaken (fun _ _ _ _ => trivial), z_nestW hW hN⟩⟩ rfl hn hl.1 rfl (lv_room hsk) d ⟨hkn.1, hkn.2⟩) hS (fun q _ h => hF q h) hF (fun r1 u t H1 locs1 ht hvm hp hB hz1 hk1 hS1 => ?_)
  obtain ⟨hP1, hD1⟩ := hB
  rw [ht] at hP1
  subst hp
  exact kk H1 locs1 ls hP1 (hD1.weaken (fun _ q _ h => hF q.1 h)) hS1 hl
theorem z_callVNi {y : MethodName} {bytes : ByteArray} {maxL fr lo N ix b : Nat} {host : String} {r : Int32} {rt : FieldType} {As sk : List Value} {w' : va_W} {q0 ci : Nat} {fs : List Value} {T : u_T} {NN : Nat} (hC : z_C X cc nL own Ω) (hA : z_hA X A) (hM : z_MI (z_lOf X) Ω y bytes maxL rt fr lo (.ref b :: As) w r w') (hco : Cond.code y bytes maxL (some rt) ∈ z_good) (hlk : Cond.methodLinkNest own ix y host ∈ z_nest) (hi : Cond.instanceMethod y ∈ z_good) (hs : Cond.selects y.cls y y ∈ z_good) (hini : Cond.initialized y.cls ∈ z_good) (hd : y.cls ≠ "java/lang/invoke/MethodHandle" ∧ y.cls ≠ "java/lang/invoke/VarHandle" ∧ (parseMethodDescriptor y.desc).map (fun d => d.parameters.length) = some N) (hR : fr + 1 ≤ (z_rmOf X).frames ∧ 8 + (maxL + 11) + lo ≤ (z_rmOf X).locals) (hkn : k ≤ (z_rmOf X).cells ∧ n ≤ (z_rmOf X).slots) (hn : As.length = N) (he : w[q0]? = some (b, .inr (ci, fs))) (hc : z_cl[ci]? = some (y.cls, T, NN)) (hsk : (st.map fun v => v.category).sum ≤ 8) (hst : sk = As.reverse ++ .ref b :: st) (d : decode cc pc = .ok (.invokevirtual ix, 3)) (hq : pc + 3 = q) (kk : z_At X A Q Ω k n nL q lv (.int r :: st) w') : z_At X A Q Ω k n nL pc lv sk w := by
  subst hq
  subst hst
  obtain ⟨p, l, e, R, s, m, args, below, meth, c⟩ := X
  obtain ⟨hx, hb, hml, hown, hts, hK, hN⟩ := hC
  intro H locs ls hP hD hS hl
  have hF := z_wFree hD hS hA
  refine va_calli (va_runVN (C := y.cls) (As := As) (rest := st) ⟨hx, hb, hml, hown, hts⟩ (hM H.size) ⟨va_cnB N hts (z_goodC hco) rfl rfl rfl (hN _ hlk) (hts _ hini) hd hR, hts _ hi, hts _ hs⟩ ⟨z_blind w H.size _, va_recv hK hP hc he, fun U hU hW => ⟨rfl, by rw [hU], by rw [hU]; exact hP, va_K.moved hW.alike hK, hD.weaken (fun _ _ _ _ => trivial), z_nestW hW hN⟩⟩ rfl hn hl.1 rfl (lv_room hsk) d ⟨hkn.1, hkn.2⟩) hS (fun q _ h => hF q h) hF (fun r1 u t H1 locs1 ht hvm hp hB hz1 hk1 hS1 => ?_)
  obtain ⟨hP1, hD1⟩ := hB
  rw [ht] at hP1
  subst hp
  exact kk H1 locs1 ls hP1 (hD1.weaken (fun _ q _ h => hF q.1 h)) hS1 hl
theorem z_callSNi {y : MethodName} {bytes : ByteArray} {maxL fr lo N ix : Nat} {host : String} {r : Int32} {rt : FieldType} {As sk : List Value} {w' : va_W} (hC : z_C X cc nL own Ω) (hA : z_hA X A) (hM : z_MI (z_lOf X) Ω y bytes maxL rt fr lo As w r w') (hco : Cond.code y bytes maxL (some rt) ∈ z_good) (hlk : Cond.methodLinkNest own ix y host ∈ z_nest) (hi : Cond.static y ∈ z_good) (hini : Cond.initialized y.cls ∈ z_good) (hd : y.cls ≠ "java/lang/invoke/MethodHandle" ∧ y.cls ≠ "java/lang/invoke/VarHandle" ∧ (parseMethodDescriptor y.desc).map (fun d => d.parameters.length) = some N) (hR : fr + 1 ≤ (z_rmOf X).frames ∧ 8 + (maxL + 11) + lo ≤ (z_rmOf X).locals) (hkn : k ≤ (z_rmOf X).cells ∧ n ≤ (z_rmOf X).slots) (hn : As.length = N) (hsk : (st.map fun v => v.category).sum ≤ 8) (hst : sk = As.reverse ++ st) (d : decode cc pc = .ok (.invokestatic ix, 3)) (hq : pc + 3 = q) (kk : z_At X A Q Ω k n nL q lv (.int r :: st) w') : z_At X A Q Ω k n nL pc lv sk w := by
  subst hq
  subst hst
  obtain ⟨p, l, e, R, s, m, args, below, meth, c⟩ := X
  obtain ⟨hx, hb, hml, hown, hts, hK, hN⟩ := hC
  intro H locs ls hP hD hS hl
  have hF := z_wFree hD hS hA
  refine va_calli (va_runSN (As := As) (rest := st) ⟨hx, hb, hml, hown, hts⟩ (hM H.size) ⟨va_cnB N hts (z_goodC hco) rfl rfl rfl (hN _ hlk) (hts _ hini) hd hR, hts _ hi, trivial⟩ ⟨z_blind w H.size _, fun U hU hW => ⟨rfl, by rw [hU], by rw [hU]; exact hP, va_K.moved hW.alike hK, hD.weaken (fun _ _ _ _ => trivial), z_nestW hW hN⟩⟩ rfl hn hl.1 rfl (lv_room hsk) d ⟨hkn.1, hkn.2⟩) hS (fun q _ h => hF q h) hF (fun r1 u t H1 locs1 ht hvm hp hB hz1 hk1 hS1 => ?_)
  obtain ⟨hP1, hD1⟩ := hB
  rw [ht] at hP1
  subst hp
  exact kk H1 locs1 ls hP1 (hD1.weaken (fun _ q _ h => hF q.1 h)) hS1 hl
theorem z_callVl {y : MethodName} {bytes : ByteArray} {maxL fr lo N ix b : Nat} {r : Int64} {rt : FieldType} {As sk : List Value} {w' : va_W} {q0 ci : Nat} {fs : List Value} {T : u_T} {NN : Nat} (hC : z_C X cc nL own Ω) (hA : z_hA X A) (hM : z_ML (z_lOf X) Ω y bytes maxL rt fr lo (.ref b :: As) w r w') (hco : Cond.code y bytes maxL (some rt) ∈ z_good) (hlk : Cond.methodLink own ix y ∈ z_good) (hi : Cond.instanceMethod y ∈ z_good) (hs : Cond.selects y.cls y y ∈ z_good) (hini : Cond.initialized y.cls ∈ z_good) (hd : y.cls ≠ "java/lang/invoke/MethodHandle" ∧ y.cls ≠ "java/lang/invoke/VarHandle" ∧ (parseMethodDescriptor y.desc).map (fun d => d.parameters.length) = some N) (hR : fr + 1 ≤ (z_rmOf X).frames ∧ 8 + (maxL + 11) + lo ≤ (z_rmOf X).locals) (hkn : k ≤ (z_rmOf X).cells ∧ n ≤ (z_rmOf X).slots) (hn : As.length = N) (he : w[q0]? = some (b, .inr (ci, fs))) (hc : z_cl[ci]? = some (y.cls, T, NN)) (hsk : (st.map fun v => v.category).sum ≤ 8) (hst : sk = As.reverse ++ .ref b :: st) (d : decode cc pc = .ok (.invokevirtual ix, 3)) (hq : pc + 3 = q) (kk : z_At X A Q Ω k n nL q lv (.long r :: st) w') : z_At X A Q Ω k n nL pc lv sk w := by
  subst hq
  subst hst
  obtain ⟨p, l, e, R, s, m, args, below, meth, c⟩ := X
  obtain ⟨hx, hb, hml, hown, hts, hK, hN⟩ := hC
  intro H locs ls hP hD hS hl
  have hF := z_wFree hD hS hA
  refine va_calll (va_runV (C := y.cls) (As := As) (rest := st) ⟨hx, hb, hml, hown, hts⟩ (hM H.size) ⟨callB_of N hts (z_goodC hco) rfl rfl rfl (hts _ hini) (hts _ hlk) hd hR, hts _ hi, hts _ hs⟩ ⟨z_blind w H.size _, va_recv hK hP hc he, fun U hU hW => ⟨rfl, by rw [hU], by rw [hU]; exact hP, va_K.moved hW.alike hK, hD.weaken (fun _ _ _ _ => trivial), z_nestW hW hN⟩⟩ rfl hn hl.1 rfl (lv_room hsk) d ⟨hkn.1, hkn.2⟩) hS (fun q _ h => hF q h) hF (fun r1 u t H1 locs1 ht hvm hp hB hz1 hk1 hS1 => ?_)
  obtain ⟨hP1, hD1⟩ := hB
  rw [ht] at hP1
  subst hp
  exact kk H1 locs1 ls hP1 (hD1.weaken (fun _ q _ h => hF q.1 h)) hS1 hl
theorem z_callSl {y : MethodName} {bytes : ByteArray} {maxL fr lo N ix : Nat} {r : Int64} {rt : FieldType} {As sk : List Value} {w' : va_W} (hC : z_C X cc nL own Ω) (hA : z_hA X A) (hM : z_ML (z_lOf X) Ω y bytes maxL rt fr lo As w r w') (hco : Cond.code y bytes maxL (some rt) ∈ z_good) (hlk : Cond.methodLink own ix y ∈ z_good) (hi : Cond.static y ∈ z_good) (hini : Cond.initialized y.cls ∈ z_good) (hd : y.cls ≠ "java/lang/invoke/MethodHandle" ∧ y.cls ≠ "java/lang/invoke/VarHandle" ∧ (parseMethodDescriptor y.desc).map (fun d => d.parameters.length) = some N) (hR : fr + 1 ≤ (z_rmOf X).frames ∧ 8 + (maxL + 11) + lo ≤ (z_rmOf X).locals) (hkn : k ≤ (z_rmOf X).cells ∧ n ≤ (z_rmOf X).slots) (hn : As.length = N) (hsk : (st.map fun v => v.category).sum ≤ 8) (hst : sk = As.reverse ++ st) (d : decode cc pc = .ok (.invokestatic ix, 3)) (hq : pc + 3 = q) (kk : z_At X A Q Ω k n nL q lv (.long r :: st) w') : z_At X A Q Ω k n nL pc lv sk w := by
  subst hq
  subst hst
  obtain ⟨p, l, e, R, s, m, args, below, meth, c⟩ := X
  obtain ⟨hx, hb, hml, hown, hts, hK, hN⟩ := hC
  intro H locs ls hP hD hS hl
  have hF := z_wFree hD hS hA
  refine va_calll (va_runS (As := As) (rest := st) ⟨hx, hb, hml, hown, hts⟩ (hM H.size) ⟨callB_of N hts (z_goodC hco) rfl rfl rfl (hts _ hini) (hts _ hlk) hd hR, hts _ hi⟩ ⟨z_blind w H.size _, fun U hU hW => ⟨rfl, by rw [hU], by rw [hU]; exact hP, va_K.moved hW.alike hK, hD.weaken (fun _ _ _ _ => trivial), z_nestW hW hN⟩⟩ rfl hn hl.1 rfl (lv_room hsk) d ⟨hkn.1, hkn.2⟩) hS (fun q _ h => hF q h) hF (fun r1 u t H1 locs1 ht hvm hp hB hz1 hk1 hS1 => ?_)
  obtain ⟨hP1, hD1⟩ := hB
  rw [ht] at hP1
  subst hp
  exact kk H1 locs1 ls hP1 (hD1.weaken (fun _ q _ h => hF q.1 h)) hS1 hl
theorem z_callVNl {y : MethodName} {bytes : ByteArray} {maxL fr lo N ix b : Nat} {host : String} {r : Int64} {rt : FieldType} {As sk : List Value} {w' : va_W} {q0 ci : Nat} {fs : List Value} {T : u_T} {NN : Nat} (hC : z_C X cc nL own Ω) (hA : z_hA X A) (hM : z_ML (z_lOf X) Ω y bytes maxL rt fr lo (.ref b :: As) w r w') (hco : Cond.code y bytes maxL (some rt) ∈ z_good) (hlk : Cond.methodLinkNest own ix y host ∈ z_nest) (hi : Cond.instanceMethod y ∈ z_good) (hs : Cond.selects y.cls y y ∈ z_good) (hini : Cond.initialized y.cls ∈ z_good) (hd : y.cls ≠ "java/lang/invoke/MethodHandle" ∧ y.cls ≠ "java/lang/invoke/VarHandle" ∧ (parseMethodDescriptor y.desc).map (fun d => d.parameters.length) = some N) (hR : fr + 1 ≤ (z_rmOf X).frames ∧ 8 + (maxL + 11) + lo ≤ (z_rmOf X).locals) (hkn : k ≤ (z_rmOf X).cells ∧ n ≤ (z_rmOf X).slots) (hn : As.length = N) (he : w[q0]? = some (b, .inr (ci, fs))) (hc : z_cl[ci]? = some (y.cls, T, NN)) (hsk : (st.map fun v => v.category).sum ≤ 8) (hst : sk = As.reverse ++ .ref b :: st) (d : decode cc pc = .ok (.invokevirtual ix, 3)) (hq : pc + 3 = q) (kk : z_At X A Q Ω k n nL q lv (.long r :: st) w') : z_At X A Q Ω k n nL pc lv sk w := by
  subst hq
  subst hst
  obtain ⟨p, l, e, R, s, m, args, below, meth, c⟩ := X
  obtain ⟨hx, hb, hml, hown, hts, hK, hN⟩ := hC
  intro H locs ls hP hD hS hl
  have hF := z_wFree hD hS hA
  refine va_calll (va_runVN (C := y.cls) (As := As) (rest := st) ⟨hx, hb, hml, hown, hts⟩ (hM H.size) ⟨va_cnB N hts (z_goodC hco) rfl rfl rfl (hN _ hlk) (hts _ hini) hd hR, hts _ hi, hts _ hs⟩ ⟨z_blind w H.size _, va_recv hK hP hc he, fun U hU hW => ⟨rfl, by rw [hU], by rw [hU]; exact hP, va_K.moved hW.alike hK, hD.weaken (fun _ _ _ _ => trivial), z_nestW hW hN⟩⟩ rfl hn hl.1 rfl (lv_room hsk) d ⟨hkn.1, hkn.2⟩) hS (fun q _ h => hF q h) hF (fun r1 u t H1 locs1 ht hvm hp hB hz1 hk1 hS1 => ?_)
  obtain ⟨hP1, hD1⟩ := hB
  rw [ht] at hP1
  subst hp
  exact kk H1 locs1 ls hP1 (hD1.weaken (fun _ q _ h => hF q.1 h)) hS1 hl
theorem z_callSNl {y : MethodName} {bytes : ByteArray} {maxL fr lo N ix : Nat} {host : String} {r : Int64} {rt : FieldType} {As sk : List Value} {w' : va_W} (hC : z_C X cc nL own Ω) (hA : z_hA X A) (hM : z_ML (z_lOf X) Ω y bytes maxL rt fr lo As w r w') (hco : Cond.code y bytes maxL (some rt) ∈ z_good) (hlk : Cond.methodLinkNest own ix y host ∈ z_nest) (hi : Cond.static y ∈ z_good) (hini : Cond.initialized y.cls ∈ z_good) (hd : y.cls ≠ "java/lang/invoke/MethodHandle" ∧ y.cls ≠ "java/lang/invoke/VarHandle" ∧ (parseMethodDescriptor y.desc).map (fun d => d.parameters.length) = some N) (hR : fr + 1 ≤ (z_rmOf X).frames ∧ 8 + (maxL + 11) + lo ≤ (z_rmOf X).locals) (hkn : k ≤ (z_rmOf X).cells ∧ n ≤ (z_rmOf X).slots) (hn : As.length = N) (hsk : (st.map fun v => v.category).sum ≤ 8) (hst : sk = As.reverse ++ st) (d : decode cc pc = .ok (.invokestatic ix, 3)) (hq : pc + 3 = q) (kk : z_At X A Q Ω k n nL q lv (.long r :: st) w') : z_At X A Q Ω k n nL pc lv sk w := by
  subst hq
  subst hst
  obtain ⟨p, l, e, R, s, m, args, below, meth, c⟩ := X
  obtain ⟨hx, hb, hml, hown, hts, hK, hN⟩ := hC
  intro H locs ls hP hD hS hl
  have hF := z_wFree hD hS hA
  refine va_calll (va_runSN (As := As) (rest := st) ⟨hx, hb, hml, hown, hts⟩ (hM H.size) ⟨va_cnB N hts (z_goodC hco) rfl rfl rfl (hN _ hlk) (hts _ hini) hd hR, hts _ hi, trivial⟩ ⟨z_blind w H.size _, fun U hU hW => ⟨rfl, by rw [hU], by rw [hU]; exact hP, va_K.moved hW.alike hK, hD.weaken (fun _ _ _ _ => trivial), z_nestW hW hN⟩⟩ rfl hn hl.1 rfl (lv_room hsk) d ⟨hkn.1, hkn.2⟩) hS (fun q _ h => hF q h) hF (fun r1 u t H1 locs1 ht hvm hp hB hz1 hk1 hS1 => ?_)
  obtain ⟨hP1, hD1⟩ := hB
  rw [ht] at hP1
  subst hp
  exact kk H1 locs1 ls hP1 (hD1.weaken (fun _ q _ h => hF q.1 h)) hS1 hl
theorem z_callVv {y : MethodName} {bytes : ByteArray} {maxL fr lo N ix b : Nat} {As sk : List Value} {w' : va_W} {q0 ci : Nat} {fs : List Value} {T : u_T} {NN : Nat} (hC : z_C X cc nL own Ω) (hA : z_hA X A) (hM : z_MV (z_lOf X) Ω y bytes maxL fr lo (.ref b :: As) w w') (hco : Cond.code y bytes maxL none ∈ z_good) (hlk : Cond.methodLink own ix y ∈ z_good) (hi : Cond.instanceMethod y ∈ z_good) (hs : Cond.selects y.cls y y ∈ z_good) (hini : Cond.initialized y.cls ∈ z_good) (hd : y.cls ≠ "java/lang/invoke/MethodHandle" ∧ y.cls ≠ "java/lang/invoke/VarHandle" ∧ (parseMethodDescriptor y.desc).map (fun d => d.parameters.length) = some N) (hR : fr + 1 ≤ (z_rmOf X).frames ∧ 8 + (maxL + 11) + lo ≤ (z_rmOf X).locals) (hkn : k ≤ (z_rmOf X).cells ∧ n ≤ (z_rmOf X).slots) (hn : As.length = N) (he : w[q0]? = some (b, .inr (ci, fs))) (hc : z_cl[ci]? = some (y.cls, T, NN)) (hsk : (st.map fun v => v.category).sum ≤ 8) (hst : sk = As.reverse ++ .ref b :: st) (d : decode cc pc = .ok (.invokevirtual ix, 3)) (hq : pc + 3 = q) (kk : z_At X A Q Ω k n nL q lv st w') : z_At X A Q Ω k n nL pc lv sk w := by
  subst hq
  subst hst
  obtain ⟨p, l, e, R, s, m, args, below, meth, c⟩ := X
  obtain ⟨hx, hb, hml, hown, hts, hK, hN⟩ := hC
  intro H locs ls hP hD hS hl
  have hF := z_wFree hD hS hA
  refine va_callv (va_runV (C := y.cls) (As := As) (rest := st) ⟨hx, hb, hml, hown, hts⟩ (hM H.size) ⟨callB_of N hts (z_goodC hco) rfl rfl rfl (hts _ hini) (hts _ hlk) hd hR, hts _ hi, hts _ hs⟩ ⟨z_blind w H.size _, va_recv hK hP hc he, fun U hU hW => ⟨rfl, by rw [hU], by rw [hU]; exact hP, va_K.moved hW.alike hK, hD.weaken (fun _ _ _ _ => trivial), z_nestW hW hN⟩⟩ rfl hn hl.1 rfl (lv_room hsk) d ⟨hkn.1, hkn.2⟩) hS (fun q _ h => hF q h) hF (fun u t H1 locs1 ht hvm hp hB hz1 hk1 hS1 => ?_)
  obtain ⟨hP1, hD1⟩ := hB
  rw [ht] at hP1
  exact kk H1 locs1 ls hP1 (hD1.weaken (fun _ q _ h => hF q.1 h)) hS1 hl
theorem z_callSv {y : MethodName} {bytes : ByteArray} {maxL fr lo N ix : Nat} {As sk : List Value} {w' : va_W} (hC : z_C X cc nL own Ω) (hA : z_hA X A) (hM : z_MV (z_lOf X) Ω y bytes maxL fr lo As w w') (hco : Cond.code y bytes maxL none ∈ z_good) (hlk : Cond.methodLink own ix y ∈ z_good) (hi : Cond.static y ∈ z_good) (hini : Cond.initialized y.cls ∈ z_good) (hd : y.cls ≠ "java/lang/invoke/MethodHandle" ∧ y.cls ≠ "java/lang/invoke/VarHandle" ∧ (parseMethodDescriptor y.desc).map (fun d => d.parameters.length) = some N) (hR : fr + 1 ≤ (z_rmOf X).frames ∧ 8 + (maxL + 11) + lo ≤ (z_rmOf X).locals) (hkn : k ≤ (z_rmOf X).cells ∧ n ≤ (z_rmOf X).slots) (hn : As.length = N) (hsk : (st.map fun v => v.category).sum ≤ 8) (hst : sk = As.reverse ++ st) (d : decode cc pc = .ok (.invokestatic ix, 3)) (hq : pc + 3 = q) (kk : z_At X A Q Ω k n nL q lv st w') : z_At X A Q Ω k n nL pc lv sk w := by
  subst hq
  subst hst
  obtain ⟨p, l, e, R, s, m, args, below, meth, c⟩ := X
  obtain ⟨hx, hb, hml, hown, hts, hK, hN⟩ := hC
  intro H locs ls hP hD hS hl
  have hF := z_wFree hD hS hA
  refine va_callv (va_runS (As := As) (rest := st) ⟨hx, hb, hml, hown, hts⟩ (hM H.size) ⟨callB_of N hts (z_goodC hco) rfl rfl rfl (hts _ hini) (hts _ hlk) hd hR, hts _ hi⟩ ⟨z_blind w H.size _, fun U hU hW => ⟨rfl, by rw [hU], by rw [hU]; exact hP, va_K.moved hW.alike hK, hD.weaken (fun _ _ _ _ => trivial), z_nestW hW hN⟩⟩ rfl hn hl.1 rfl (lv_room hsk) d ⟨hkn.1, hkn.2⟩) hS (fun q _ h => hF q h) hF (fun u t H1 locs1 ht hvm hp hB hz1 hk1 hS1 => ?_)
  obtain ⟨hP1, hD1⟩ := hB
  rw [ht] at hP1
  exact kk H1 locs1 ls hP1 (hD1.weaken (fun _ q _ h => hF q.1 h)) hS1 hl
theorem z_callVNv {y : MethodName} {bytes : ByteArray} {maxL fr lo N ix b : Nat} {host : String} {As sk : List Value} {w' : va_W} {q0 ci : Nat} {fs : List Value} {T : u_T} {NN : Nat} (hC : z_C X cc nL own Ω) (hA : z_hA X A) (hM : z_MV (z_lOf X) Ω y bytes maxL fr lo (.ref b :: As) w w') (hco : Cond.code y bytes maxL none ∈ z_good) (hlk : Cond.methodLinkNest own ix y host ∈ z_nest) (hi : Cond.instanceMethod y ∈ z_good) (hs : Cond.selects y.cls y y ∈ z_good) (hini : Cond.initialized y.cls ∈ z_good) (hd : y.cls ≠ "java/lang/invoke/MethodHandle" ∧ y.cls ≠ "java/lang/invoke/VarHandle" ∧ (parseMethodDescriptor y.desc).map (fun d => d.parameters.length) = some N) (hR : fr + 1 ≤ (z_rmOf X).frames ∧ 8 + (maxL + 11) + lo ≤ (z_rmOf X).locals) (hkn : k ≤ (z_rmOf X).cells ∧ n ≤ (z_rmOf X).slots) (hn : As.length = N) (he : w[q0]? = some (b, .inr (ci, fs))) (hc : z_cl[ci]? = some (y.cls, T, NN)) (hsk : (st.map fun v => v.category).sum ≤ 8) (hst : sk = As.reverse ++ .ref b :: st) (d : decode cc pc = .ok (.invokevirtual ix, 3)) (hq : pc + 3 = q) (kk : z_At X A Q Ω k n nL q lv st w') : z_At X A Q Ω k n nL pc lv sk w := by
  subst hq
  subst hst
  obtain ⟨p, l, e, R, s, m, args, below, meth, c⟩ := X
  obtain ⟨hx, hb, hml, hown, hts, hK, hN⟩ := hC
  intro H locs ls hP hD hS hl
  have hF := z_wFree hD hS hA
  refine va_callv (va_runVN (C := y.cls) (As := As) (rest := st) ⟨hx, hb, hml, hown, hts⟩ (hM H.size) ⟨va_cnB N hts (z_goodC hco) rfl rfl rfl (hN _ hlk) (hts _ hini) hd hR, hts _ hi, hts _ hs⟩ ⟨z_blind w H.size _, va_recv hK hP hc he, fun U hU hW => ⟨rfl, by rw [hU], by rw [hU]; exact hP, va_K.moved hW.alike hK, hD.weaken (fun _ _ _ _ => trivial), z_nestW hW hN⟩⟩ rfl hn hl.1 rfl (lv_room hsk) d ⟨hkn.1, hkn.2⟩) hS (fun q _ h => hF q h) hF (fun u t H1 locs1 ht hvm hp hB hz1 hk1 hS1 => ?_)
  obtain ⟨hP1, hD1⟩ := hB
  rw [ht] at hP1
  exact kk H1 locs1 ls hP1 (hD1.weaken (fun _ q _ h => hF q.1 h)) hS1 hl
theorem z_callSNv {y : MethodName} {bytes : ByteArray} {maxL fr lo N ix : Nat} {host : String} {As sk : List Value} {w' : va_W} (hC : z_C X cc nL own Ω) (hA : z_hA X A) (hM : z_MV (z_lOf X) Ω y bytes maxL fr lo As w w') (hco : Cond.code y bytes maxL none ∈ z_good) (hlk : Cond.methodLinkNest own ix y host ∈ z_nest) (hi : Cond.static y ∈ z_good) (hini : Cond.initialized y.cls ∈ z_good) (hd : y.cls ≠ "java/lang/invoke/MethodHandle" ∧ y.cls ≠ "java/lang/invoke/VarHandle" ∧ (parseMethodDescriptor y.desc).map (fun d => d.parameters.length) = some N) (hR : fr + 1 ≤ (z_rmOf X).frames ∧ 8 + (maxL + 11) + lo ≤ (z_rmOf X).locals) (hkn : k ≤ (z_rmOf X).cells ∧ n ≤ (z_rmOf X).slots) (hn : As.length = N) (hsk : (st.map fun v => v.category).sum ≤ 8) (hst : sk = As.reverse ++ st) (d : decode cc pc = .ok (.invokestatic ix, 3)) (hq : pc + 3 = q) (kk : z_At X A Q Ω k n nL q lv st w') : z_At X A Q Ω k n nL pc lv sk w := by
  subst hq
  subst hst
  obtain ⟨p, l, e, R, s, m, args, below, meth, c⟩ := X
  obtain ⟨hx, hb, hml, hown, hts, hK, hN⟩ := hC
  intro H locs ls hP hD hS hl
  have hF := z_wFree hD hS hA
  refine va_callv (va_runSN (As := As) (rest := st) ⟨hx, hb, hml, hown, hts⟩ (hM H.size) ⟨va_cnB N hts (z_goodC hco) rfl rfl rfl (hN _ hlk) (hts _ hini) hd hR, hts _ hi, trivial⟩ ⟨z_blind w H.size _, fun U hU hW => ⟨rfl, by rw [hU], by rw [hU]; exact hP, va_K.moved hW.alike hK, hD.weaken (fun _ _ _ _ => trivial), z_nestW hW hN⟩⟩ rfl hn hl.1 rfl (lv_room hsk) d ⟨hkn.1, hkn.2⟩) hS (fun q _ h => hF q h) hF (fun u t H1 locs1 ht hvm hp hB hz1 hk1 hS1 => ?_)
  obtain ⟨hP1, hD1⟩ := hB
  rw [ht] at hP1
  exact kk H1 locs1 ls hP1 (hD1.weaken (fun _ q _ h => hF q.1 h)) hS1 hl
end ZROWS
theorem z_introI {l : Launch} {Ω : z_O} {y : MethodName} {cc : ByteArray} {maxL fr lo : Nat} {r : Int32} {rt : FieldType} {av : List Value} {w w' : va_W} {lv : List (Nat × Value)} (hy : plainName y.cls = true) (hlen : (lg_sl av).length ≤ maxL) (hlv : lv_args 0 av = lv)
    (body : ∀ (X : z_X) (A : Nat → Prop), z_C X cc maxL y.cls Ω → z_hA X A → z_R X (some rt) → z_lOf X = l → z_rmOf X = z_rm fr lo → z_At X A (z_QI X Ω A r w') Ω 0 0 maxL 0 lv [] w) : z_MI l Ω y cc maxL rt fr lo av w r w' := by
  intro sz
  refine Met.ofW (cc := cc) (maxL := maxL) (ret := (some rt)) hy rfl ?_
  intro p e s m args below meth c s₁ B hml hv
  obtain ⟨rfl, hsz, hP, hK, hD0, hN⟩ := hv
  have hx := B.exec
  have hb := B.bytes
  have hr := B.returns
  have hts := atoms_spec (ws := .code y cc maxL (some rt) :: z_good) B.pre
  have hown : s.vm.findClass y.cls = some m.cls := findClass_of_methodNamed B.named
  have hlocks := B.notSynchronized
  subst hsz
  have hD := hD0.self (sz := s.heap.size)
  have hl := lv_entry av (n := maxL) hlen
  rw [hlv] at hl
  rw [lg_entry_eq]
  exact body (p, l, e, z_rm fr lo, s, m, av.toArray, below, meth, c) (va_A w s.heap.size) ⟨hx, hb, hml, hown, fun w hw => hts w (List.mem_cons_of_mem _ hw), hK, hN⟩ (fun q h => Or.inr h) ⟨hr, hlocks⟩ rfl rfl s.heap [] _ hP hD va_S.rf hl
theorem z_introL {l : Launch} {Ω : z_O} {y : MethodName} {cc : ByteArray} {maxL fr lo : Nat} {r : Int64} {rt : FieldType} {av : List Value} {w w' : va_W} {lv : List (Nat × Value)} (hy : plainName y.cls = true) (hlen : (lg_sl av).length ≤ maxL) (hlv : lv_args 0 av = lv)
    (body : ∀ (X : z_X) (A : Nat → Prop), z_C X cc maxL y.cls Ω → z_hA X A → z_R X (some rt) → z_lOf X = l → z_rmOf X = z_rm fr lo → z_At X A (z_QL X Ω A r w') Ω 0 0 maxL 0 lv [] w) : z_ML l Ω y cc maxL rt fr lo av w r w' := by
  intro sz
  refine Met.ofW (cc := cc) (maxL := maxL) (ret := (some rt)) hy rfl ?_
  intro p e s m args below meth c s₁ B hml hv
  obtain ⟨rfl, hsz, hP, hK, hD0, hN⟩ := hv
  have hx := B.exec
  have hb := B.bytes
  have hr := B.returns
  have hts := atoms_spec (ws := .code y cc maxL (some rt) :: z_good) B.pre
  have hown : s.vm.findClass y.cls = some m.cls := findClass_of_methodNamed B.named
  have hlocks := B.notSynchronized
  subst hsz
  have hD := hD0.self (sz := s.heap.size)
  have hl := lv_entry av (n := maxL) hlen
  rw [hlv] at hl
  rw [lg_entry_eq]
  exact body (p, l, e, z_rm fr lo, s, m, av.toArray, below, meth, c) (va_A w s.heap.size) ⟨hx, hb, hml, hown, fun w hw => hts w (List.mem_cons_of_mem _ hw), hK, hN⟩ (fun q h => Or.inr h) ⟨hr, hlocks⟩ rfl rfl s.heap [] _ hP hD va_S.rf hl
theorem z_introV {l : Launch} {Ω : z_O} {y : MethodName} {cc : ByteArray} {maxL fr lo : Nat} {av : List Value} {w w' : va_W} {lv : List (Nat × Value)} (hy : plainName y.cls = true) (hlen : (lg_sl av).length ≤ maxL) (hlv : lv_args 0 av = lv)
    (body : ∀ (X : z_X) (A : Nat → Prop), z_C X cc maxL y.cls Ω → z_hA X A → z_R X none → z_lOf X = l → z_rmOf X = z_rm fr lo → z_At X A (z_QV X Ω A w') Ω 0 0 maxL 0 lv [] w) : z_MV l Ω y cc maxL fr lo av w w' := by
  intro sz
  refine Met.ofW (cc := cc) (maxL := maxL) (ret := none) hy rfl ?_
  intro p e s m args below meth c s₁ B hml hv
  obtain ⟨rfl, hsz, hP, hK, hD0, hN⟩ := hv
  have hx := B.exec
  have hb := B.bytes
  have hr := B.returns
  have hts := atoms_spec (ws := .code y cc maxL none :: z_good) B.pre
  have hown : s.vm.findClass y.cls = some m.cls := findClass_of_methodNamed B.named
  have hlocks := B.notSynchronized
  subst hsz
  have hD := hD0.self (sz := s.heap.size)
  have hl := lv_entry av (n := maxL) hlen
  rw [hlv] at hl
  rw [lg_entry_eq]
  exact body (p, l, e, z_rm fr lo, s, m, av.toArray, below, meth, c) (va_A w s.heap.size) ⟨hx, hb, hml, hown, fun w hw => hts w (List.mem_cons_of_mem _ hw), hK, hN⟩ (fun q h => Or.inr h) ⟨hr, hlocks⟩ rfl rfl s.heap [] _ hP hD va_S.rf hl
