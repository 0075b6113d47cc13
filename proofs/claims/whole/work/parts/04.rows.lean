/-! A row an instruction, over the abstract machine. ab_D: what stands at a place, and the next place. -/
def ab_D (cc : ByteArray) (pc : Nat) (i : Instr) (len nxt : Nat) : Prop := decode cc pc = .ok (i, len) ∧ pc + len = nxt
def ab_inb (i : Int32) (n : Nat) : Bool := decide (¬ (i < 0 ∨ n ≤ i.toNatClampNeg))
theorem ab_inb_in {i : Int32} {n : Nat} (h : ab_inb i n = true) : vp_in i n := by
  unfold ab_inb at h
  unfold vp_in
  exact of_decide_eq_true h
theorem ab_inb_lt {i : Int32} {n : Nat} (h : ab_inb i n = true) : i.toNatClampNeg < n := Nat.not_le.mp fun q => ab_inb_in h (Or.inr q)
def ab_isb (x : Int32) : Bool := decide (x = 0) || decide (x = 1)
def ab_si (σ : ab_S) (r k j : Nat) (v : Int32) : ab_S := (fun a b c => if a = r ∧ b = k ∧ c = j then v else σ.1 a b c, σ.2)
def ab_sl (σ : ab_S) (r k j : Nat) (v : Int64) : ab_S := (σ.1, fun a b c => if a = r ∧ b = k ∧ c = j then v else σ.2 a b c)
def ab_ci (σ : ab_S) (r0 k0 sp r1 k1 dp n : Nat) : ab_S := (fun a b c => if a = r1 ∧ b = k1 ∧ dp ≤ c ∧ c < dp + n then σ.1 r0 k0 (sp + (c - dp)) else σ.1 a b c, σ.2)
def ab_cl (σ : ab_S) (r0 k0 sp r1 k1 dp n : Nat) : ab_S := (σ.1, fun a b c => if a = r1 ∧ b = k1 ∧ dp ≤ c ∧ c < dp + n then σ.2 r0 k0 (sp + (c - dp)) else σ.2 a b c)
def ab_mod (x y : Int32) : Int32 := x - x / y * y
def ab_lmod (x y : Int64) : Int64 := x - x / y * y
def ab_ushr (x y : Int32) : Int32 := (x.toUInt32 >>> (y.toUInt32 &&& Int32.toUInt32 31)).toInt32
theorem ab_bind {α β : Type} {o : Option α} {g : α → Option β} {r : β} (h : o.bind g = some r) : ∃ q, o = some q ∧ g q = some r := by
  cases o with
  | none => cases h
  | some q => exact ⟨q, rfl, h⟩
theorem ab_grd {β : Type} {b : Bool} {o : Option β} {r : β} (h : (if b = true then o else none) = some r) : b = true ∧ o = some r := by
  cases b with
  | false => cases h
  | true => exact ⟨rfl, h⟩
theorem ab_pos {β : Type} {q : Prop} [Decidable q] {a b : Option β} {r : β} (hc : q) (h : (if q then a else b) = some r) : a = some r := (if_pos hc).symm.trans h
theorem ab_neg {β : Type} {q : Prop} [Decidable q] {a b : Option β} {r : β} (hc : ¬ q) (h : (if q then a else b) = some r) : b = some r := (if_neg hc).symm.trans h
def ab_le : List (Option ab_V) → List (Option ab_V) → Prop
  | [], _ => True
  | _ :: _, [] => False
  | a :: l, b :: l' => (a = none ∨ a = b) ∧ ab_le l l'
theorem ab_le_get : ∀ {l l' : List (Option ab_V)} (_ : ab_le l l') (i : Nat) (v : ab_V), l[i]? = some (some v) → l'[i]? = some (some v)
  | [], _, _, i, v, h => by simp at h
  | a :: l, [], hl, i, v, h => hl.elim
  | a :: l, b :: l', hl, 0, v, h => by
    simp only [List.getElem?_cons_zero, Option.some.injEq] at h ⊢
    rcases hl.1 with z | z
    · rw [z] at h; cases h
    · rw [← z]; exact h
  | a :: l, b :: l', hl, i + 1, v, h => by
    simp only [List.getElem?_cons_succ] at h ⊢
    exact ab_le_get hl.2 i v h
section AB
variable {Y : ab_Y} {p : Program} {l : Launch} {e : Env} {s : State} {m : MethodId} {args : Array Value} {below : List Frame} {meth : Method} {c : Code} {D : va_G} {cA : Nat → ClassId} {ad : Nat → Nat → Nat} {cc : ByteArray} {nL d : Nat} {own : String} {ret : Option FieldType} {rv : Option ab_V} {σf : ab_S} {pc nxt : Nat} {lv : List (Option ab_V)} {st : List ab_V} {σ : ab_S}
theorem ab_iconst (C : ab_C Y p s m args meth c D cA ad cc nL own ret) {n : Int} {v : Int32} (hd : ab_D cc pc (.iconst n) 1 nxt) (hv : Int32.ofInt n = v)
    (k : ab_G Y p l e s m args below meth c D cA ad nL d rv σf nxt lv (.inl (v) :: st) σ) : ab_G Y p l e s m args below meth c D cA ad nL d rv σf pc lv (st) σ := by
  obtain ⟨hd, rfl⟩ := hd
  exact fun H locs ls hP hS hL => lv_iconst C.1 C.2.1 hd hv (k H locs ls hP hS hL)
theorem ab_bipush (C : ab_C Y p s m args meth c D cA ad cc nL own ret) {n : Int} {v : Int32} (hd : ab_D cc pc (.bipush n) 2 nxt) (hv : (Int8.ofInt n).toInt32 = v)
    (k : ab_G Y p l e s m args below meth c D cA ad nL d rv σf nxt lv (.inl (v) :: st) σ) : ab_G Y p l e s m args below meth c D cA ad nL d rv σf pc lv (st) σ := by
  obtain ⟨hd, rfl⟩ := hd
  exact fun H locs ls hP hS hL => lv_bipush C.1 C.2.1 hd hv (k H locs ls hP hS hL)
theorem ab_sipush (C : ab_C Y p s m args meth c D cA ad cc nL own ret) {n : Int} {v : Int32} (hd : ab_D cc pc (.sipush n) 3 nxt) (hv : (Int16.ofInt n).toInt32 = v)
    (k : ab_G Y p l e s m args below meth c D cA ad nL d rv σf nxt lv (.inl (v) :: st) σ) : ab_G Y p l e s m args below meth c D cA ad nL d rv σf pc lv (st) σ := by
  obtain ⟨hd, rfl⟩ := hd
  exact fun H locs ls hP hS hL => lv_sipush C.1 C.2.1 hd hv (k H locs ls hP hS hL)
theorem ab_lconst (C : ab_C Y p s m args meth c D cA ad cc nL own ret) {n : Fin 2} {v : Int64} (hd : ab_D cc pc (.lconst n) 1 nxt) (hv : Int64.ofNat (n : Nat) = v)
    (k : ab_G Y p l e s m args below meth c D cA ad nL d rv σf nxt lv (.inr (.inl (v)) :: st) σ) : ab_G Y p l e s m args below meth c D cA ad nL d rv σf pc lv (st) σ := by
  obtain ⟨hd, rfl⟩ := hd
  exact fun H locs ls hP hS hL => lv_lconst C.1 C.2.1 hd hv (k H locs ls hP hS hL)
theorem ab_iadd (C : ab_C Y p s m args meth c D cA ad cc nL own ret) {x y : Int32} (hd : ab_D cc pc (.iadd) 1 nxt) 
    (k : ab_G Y p l e s m args below meth c D cA ad nL d rv σf nxt lv (.inl (x + y) :: st) σ) : ab_G Y p l e s m args below meth c D cA ad nL d rv σf pc lv (.inl y :: .inl x :: st) σ := by
  obtain ⟨hd, rfl⟩ := hd
  exact fun H locs ls hP hS hL => lv_iadd C.1 C.2.1 hd  (k H locs ls hP hS hL)
theorem ab_isub (C : ab_C Y p s m args meth c D cA ad cc nL own ret) {x y : Int32} (hd : ab_D cc pc (.isub) 1 nxt) 
    (k : ab_G Y p l e s m args below meth c D cA ad nL d rv σf nxt lv (.inl (x - y) :: st) σ) : ab_G Y p l e s m args below meth c D cA ad nL d rv σf pc lv (.inl y :: .inl x :: st) σ := by
  obtain ⟨hd, rfl⟩ := hd
  exact fun H locs ls hP hS hL => lv_isub C.1 C.2.1 hd  (k H locs ls hP hS hL)
theorem ab_imul (C : ab_C Y p s m args meth c D cA ad cc nL own ret) {x y : Int32} (hd : ab_D cc pc (.imul) 1 nxt) 
    (k : ab_G Y p l e s m args below meth c D cA ad nL d rv σf nxt lv (.inl (x * y) :: st) σ) : ab_G Y p l e s m args below meth c D cA ad nL d rv σf pc lv (.inl y :: .inl x :: st) σ := by
  obtain ⟨hd, rfl⟩ := hd
  exact fun H locs ls hP hS hL => lv_imul C.1 C.2.1 hd  (k H locs ls hP hS hL)
theorem ab_iand (C : ab_C Y p s m args meth c D cA ad cc nL own ret) {x y : Int32} (hd : ab_D cc pc (.iand) 1 nxt) 
    (k : ab_G Y p l e s m args below meth c D cA ad nL d rv σf nxt lv (.inl (x &&& y) :: st) σ) : ab_G Y p l e s m args below meth c D cA ad nL d rv σf pc lv (.inl y :: .inl x :: st) σ := by
  obtain ⟨hd, rfl⟩ := hd
  exact fun H locs ls hP hS hL => lv_iand C.1 C.2.1 hd  (k H locs ls hP hS hL)
theorem ab_ior (C : ab_C Y p s m args meth c D cA ad cc nL own ret) {x y : Int32} (hd : ab_D cc pc (.ior) 1 nxt) 
    (k : ab_G Y p l e s m args below meth c D cA ad nL d rv σf nxt lv (.inl (x ||| y) :: st) σ) : ab_G Y p l e s m args below meth c D cA ad nL d rv σf pc lv (.inl y :: .inl x :: st) σ := by
  obtain ⟨hd, rfl⟩ := hd
  exact fun H locs ls hP hS hL => lv_ior C.1 C.2.1 hd  (k H locs ls hP hS hL)
theorem ab_ixor (C : ab_C Y p s m args meth c D cA ad cc nL own ret) {x y : Int32} (hd : ab_D cc pc (.ixor) 1 nxt) 
    (k : ab_G Y p l e s m args below meth c D cA ad nL d rv σf nxt lv (.inl (x ^^^ y) :: st) σ) : ab_G Y p l e s m args below meth c D cA ad nL d rv σf pc lv (.inl y :: .inl x :: st) σ := by
  obtain ⟨hd, rfl⟩ := hd
  exact fun H locs ls hP hS hL => lv_ixor C.1 C.2.1 hd  (k H locs ls hP hS hL)
theorem ab_ishl (C : ab_C Y p s m args meth c D cA ad cc nL own ret) {x y : Int32} (hd : ab_D cc pc (.ishl) 1 nxt) 
    (k : ab_G Y p l e s m args below meth c D cA ad nL d rv σf nxt lv (.inl (x <<< (y &&& 31)) :: st) σ) : ab_G Y p l e s m args below meth c D cA ad nL d rv σf pc lv (.inl y :: .inl x :: st) σ := by
  obtain ⟨hd, rfl⟩ := hd
  exact fun H locs ls hP hS hL => lv_ishl C.1 C.2.1 hd  (k H locs ls hP hS hL)
theorem ab_ishr (C : ab_C Y p s m args meth c D cA ad cc nL own ret) {x y : Int32} (hd : ab_D cc pc (.ishr) 1 nxt) 
    (k : ab_G Y p l e s m args below meth c D cA ad nL d rv σf nxt lv (.inl (x >>> (y &&& 31)) :: st) σ) : ab_G Y p l e s m args below meth c D cA ad nL d rv σf pc lv (.inl y :: .inl x :: st) σ := by
  obtain ⟨hd, rfl⟩ := hd
  exact fun H locs ls hP hS hL => lv_ishr C.1 C.2.1 hd  (k H locs ls hP hS hL)
theorem ab_ladd (C : ab_C Y p s m args meth c D cA ad cc nL own ret) {x y : Int64} (hd : ab_D cc pc (.ladd) 1 nxt) 
    (k : ab_G Y p l e s m args below meth c D cA ad nL d rv σf nxt lv (.inr (.inl (x + y)) :: st) σ) : ab_G Y p l e s m args below meth c D cA ad nL d rv σf pc lv (.inr (.inl y) :: .inr (.inl x) :: st) σ := by
  obtain ⟨hd, rfl⟩ := hd
  exact fun H locs ls hP hS hL => lv_ladd C.1 C.2.1 hd  (k H locs ls hP hS hL)
theorem ab_lsub (C : ab_C Y p s m args meth c D cA ad cc nL own ret) {x y : Int64} (hd : ab_D cc pc (.lsub) 1 nxt) 
    (k : ab_G Y p l e s m args below meth c D cA ad nL d rv σf nxt lv (.inr (.inl (x - y)) :: st) σ) : ab_G Y p l e s m args below meth c D cA ad nL d rv σf pc lv (.inr (.inl y) :: .inr (.inl x) :: st) σ := by
  obtain ⟨hd, rfl⟩ := hd
  exact fun H locs ls hP hS hL => lv_lsub C.1 C.2.1 hd  (k H locs ls hP hS hL)
theorem ab_lmul (C : ab_C Y p s m args meth c D cA ad cc nL own ret) {x y : Int64} (hd : ab_D cc pc (.lmul) 1 nxt) 
    (k : ab_G Y p l e s m args below meth c D cA ad nL d rv σf nxt lv (.inr (.inl (x * y)) :: st) σ) : ab_G Y p l e s m args below meth c D cA ad nL d rv σf pc lv (.inr (.inl y) :: .inr (.inl x) :: st) σ := by
  obtain ⟨hd, rfl⟩ := hd
  exact fun H locs ls hP hS hL => lv_lmul C.1 C.2.1 hd  (k H locs ls hP hS hL)
theorem ab_land (C : ab_C Y p s m args meth c D cA ad cc nL own ret) {x y : Int64} (hd : ab_D cc pc (.land) 1 nxt) 
    (k : ab_G Y p l e s m args below meth c D cA ad nL d rv σf nxt lv (.inr (.inl (x &&& y)) :: st) σ) : ab_G Y p l e s m args below meth c D cA ad nL d rv σf pc lv (.inr (.inl y) :: .inr (.inl x) :: st) σ := by
  obtain ⟨hd, rfl⟩ := hd
  exact fun H locs ls hP hS hL => lv_land C.1 C.2.1 hd  (k H locs ls hP hS hL)
theorem ab_lor (C : ab_C Y p s m args meth c D cA ad cc nL own ret) {x y : Int64} (hd : ab_D cc pc (.lor) 1 nxt) 
    (k : ab_G Y p l e s m args below meth c D cA ad nL d rv σf nxt lv (.inr (.inl (x ||| y)) :: st) σ) : ab_G Y p l e s m args below meth c D cA ad nL d rv σf pc lv (.inr (.inl y) :: .inr (.inl x) :: st) σ := by
  obtain ⟨hd, rfl⟩ := hd
  exact fun H locs ls hP hS hL => lv_lor C.1 C.2.1 hd  (k H locs ls hP hS hL)
theorem ab_idiv (C : ab_C Y p s m args meth c D cA ad cc nL own ret) {x y : Int32} (hd : ab_D cc pc (.idiv) 1 nxt) (hy : ¬ y = 0)
    (k : ab_G Y p l e s m args below meth c D cA ad nL d rv σf nxt lv (.inl (x / y) :: st) σ) : ab_G Y p l e s m args below meth c D cA ad nL d rv σf pc lv (.inl y :: .inl x :: st) σ := by
  obtain ⟨hd, rfl⟩ := hd
  exact fun H locs ls hP hS hL => lv_idiv C.1 C.2.1 hd hy (k H locs ls hP hS hL)
theorem ab_irem (C : ab_C Y p s m args meth c D cA ad cc nL own ret) {x y : Int32} (hd : ab_D cc pc (.irem) 1 nxt) (hy : ¬ y = 0)
    (k : ab_G Y p l e s m args below meth c D cA ad nL d rv σf nxt lv (.inl (ab_mod x y) :: st) σ) : ab_G Y p l e s m args below meth c D cA ad nL d rv σf pc lv (.inl y :: .inl x :: st) σ := by
  obtain ⟨hd, rfl⟩ := hd
  exact fun H locs ls hP hS hL => lv_irem C.1 C.2.1 hd hy (k H locs ls hP hS hL)
theorem ab_ldiv (C : ab_C Y p s m args meth c D cA ad cc nL own ret) {x y : Int64} (hd : ab_D cc pc (.ldiv) 1 nxt) (hy : ¬ y = 0)
    (k : ab_G Y p l e s m args below meth c D cA ad nL d rv σf nxt lv (.inr (.inl (x / y)) :: st) σ) : ab_G Y p l e s m args below meth c D cA ad nL d rv σf pc lv (.inr (.inl y) :: .inr (.inl x) :: st) σ := by
  obtain ⟨hd, rfl⟩ := hd
  exact fun H locs ls hP hS hL => lv_ldiv C.1 C.2.1 hd hy (k H locs ls hP hS hL)
theorem ab_lrem (C : ab_C Y p s m args meth c D cA ad cc nL own ret) {x y : Int64} (hd : ab_D cc pc (.lrem) 1 nxt) (hy : ¬ y = 0)
    (k : ab_G Y p l e s m args below meth c D cA ad nL d rv σf nxt lv (.inr (.inl (ab_lmod x y)) :: st) σ) : ab_G Y p l e s m args below meth c D cA ad nL d rv σf pc lv (.inr (.inl y) :: .inr (.inl x) :: st) σ := by
  obtain ⟨hd, rfl⟩ := hd
  exact fun H locs ls hP hS hL => lv_lrem C.1 C.2.1 hd hy (k H locs ls hP hS hL)
theorem ab_ineg (C : ab_C Y p s m args meth c D cA ad cc nL own ret) {x : Int32} (hd : ab_D cc pc (.ineg) 1 nxt) 
    (k : ab_G Y p l e s m args below meth c D cA ad nL d rv σf nxt lv (.inl (-x) :: st) σ) : ab_G Y p l e s m args below meth c D cA ad nL d rv σf pc lv (.inl x :: st) σ := by
  obtain ⟨hd, rfl⟩ := hd
  exact fun H locs ls hP hS hL => lv_ineg C.1 C.2.1 hd  (k H locs ls hP hS hL)
theorem ab_iushr (C : ab_C Y p s m args meth c D cA ad cc nL own ret) {x y : Int32} (hd : ab_D cc pc (.iushr) 1 nxt) 
    (k : ab_G Y p l e s m args below meth c D cA ad nL d rv σf nxt lv (.inl (ab_ushr x y) :: st) σ) : ab_G Y p l e s m args below meth c D cA ad nL d rv σf pc lv (.inl y :: .inl x :: st) σ := by
  obtain ⟨hd, rfl⟩ := hd
  exact fun H locs ls hP hS hL => lv_iushr C.1 C.2.1 hd rfl (k H locs ls hP hS hL)
theorem ab_lshl (C : ab_C Y p s m args meth c D cA ad cc nL own ret) {x : Int64} {y : Int32} (hd : ab_D cc pc (.lshl) 1 nxt) 
    (k : ab_G Y p l e s m args below meth c D cA ad nL d rv σf nxt lv (.inr (.inl (x <<< (y.toInt64 &&& 63))) :: st) σ) : ab_G Y p l e s m args below meth c D cA ad nL d rv σf pc lv (.inl y :: .inr (.inl x) :: st) σ := by
  obtain ⟨hd, rfl⟩ := hd
  exact fun H locs ls hP hS hL => lv_lshl C.1 C.2.1 hd rfl (k H locs ls hP hS hL)
theorem ab_i2l (C : ab_C Y p s m args meth c D cA ad cc nL own ret) {x : Int32} (hd : ab_D cc pc (.i2l) 1 nxt) 
    (k : ab_G Y p l e s m args below meth c D cA ad nL d rv σf nxt lv (.inr (.inl (x.toInt64)) :: st) σ) : ab_G Y p l e s m args below meth c D cA ad nL d rv σf pc lv (.inl x :: st) σ := by
  obtain ⟨hd, rfl⟩ := hd
  exact fun H locs ls hP hS hL => lv_i2l C.1 C.2.1 hd rfl (k H locs ls hP hS hL)
theorem ab_l2i (C : ab_C Y p s m args meth c D cA ad cc nL own ret) {x : Int64} (hd : ab_D cc pc (.l2i) 1 nxt) 
    (k : ab_G Y p l e s m args below meth c D cA ad nL d rv σf nxt lv (.inl (x.toInt32) :: st) σ) : ab_G Y p l e s m args below meth c D cA ad nL d rv σf pc lv (.inr (.inl x) :: st) σ := by
  obtain ⟨hd, rfl⟩ := hd
  exact fun H locs ls hP hS hL => lv_l2i C.1 C.2.1 hd rfl (k H locs ls hP hS hL)
theorem ab_i2b (C : ab_C Y p s m args meth c D cA ad cc nL own ret) {x : Int32} (hd : ab_D cc pc (.i2b) 1 nxt) 
    (k : ab_G Y p l e s m args below meth c D cA ad nL d rv σf nxt lv (.inl (x.toInt8.toInt32) :: st) σ) : ab_G Y p l e s m args below meth c D cA ad nL d rv σf pc lv (.inl x :: st) σ := by
  obtain ⟨hd, rfl⟩ := hd
  exact fun H locs ls hP hS hL => lv_i2b C.1 C.2.1 hd rfl (k H locs ls hP hS hL)
theorem ab_i2s (C : ab_C Y p s m args meth c D cA ad cc nL own ret) {x : Int32} (hd : ab_D cc pc (.i2s) 1 nxt) 
    (k : ab_G Y p l e s m args below meth c D cA ad nL d rv σf nxt lv (.inl (x.toInt16.toInt32) :: st) σ) : ab_G Y p l e s m args below meth c D cA ad nL d rv σf pc lv (.inl x :: st) σ := by
  obtain ⟨hd, rfl⟩ := hd
  exact fun H locs ls hP hS hL => lv_i2s C.1 C.2.1 hd rfl (k H locs ls hP hS hL)
theorem ab_lcmp (C : ab_C Y p s m args meth c D cA ad cc nL own ret) {x y : Int64} (hd : ab_D cc pc (.lcmp) 1 nxt) 
    (k : ab_G Y p l e s m args below meth c D cA ad nL d rv σf nxt lv (.inl (lg_cmp x y) :: st) σ) : ab_G Y p l e s m args below meth c D cA ad nL d rv σf pc lv (.inr (.inl y) :: .inr (.inl x) :: st) σ := by
  obtain ⟨hd, rfl⟩ := hd
  exact fun H locs ls hP hS hL => W.lcmp C.1 C.2.1 hd  (k H locs ls hP hS hL)
theorem ab_dup (C : ab_C Y p s m args meth c D cA ad cc nL own ret) {v : ab_V} (hd : ab_D cc pc (.dup) 1 nxt) (hv : ab_cat v = 1)
    (k : ab_G Y p l e s m args below meth c D cA ad nL d rv σf nxt lv (v :: v :: st) σ) : ab_G Y p l e s m args below meth c D cA ad nL d rv σf pc lv (v :: st) σ := by
  obtain ⟨hd, rfl⟩ := hd
  exact fun H locs ls hP hS hL => lv_dup C.1 C.2.1 hd ((ab_cat_cv ad v).trans hv) (k H locs ls hP hS hL)
theorem ab_dup2 (C : ab_C Y p s m args meth c D cA ad cc nL own ret) {v w : ab_V} (hd : ab_D cc pc (.dup2) 1 nxt) (hv : ab_cat v = 1) (hw : ab_cat w = 1)
    (k : ab_G Y p l e s m args below meth c D cA ad nL d rv σf nxt lv (v :: w :: v :: w :: st) σ) : ab_G Y p l e s m args below meth c D cA ad nL d rv σf pc lv (v :: w :: st) σ := by
  obtain ⟨hd, rfl⟩ := hd
  exact fun H locs ls hP hS hL => lv_dup2_11 C.1 C.2.1 hd ((ab_cat_cv ad v).trans hv) ((ab_cat_cv ad w).trans hw) (k H locs ls hP hS hL)
theorem ab_iload_n (C : ab_C Y p s m args meth c D cA ad cc nL own ret) {q : Fin 4} {x : Int32} (hd : ab_D cc pc (.iload_n q) 1 nxt) (hv : lv[(q : Nat)]? = some (some (.inl x)))
    (k : ab_G Y p l e s m args below meth c D cA ad nL d rv σf nxt lv (.inl x :: st) σ) : ab_G Y p l e s m args below meth c D cA ad nL d rv σf pc lv st σ := by
  obtain ⟨hd, rfl⟩ := hd
  exact fun H locs ls hP hS hL => lv_iload_n C.1 C.2.1 hd rfl (hL.2.2 _ _ hv) (k H locs ls hP hS hL)
theorem ab_iload (C : ab_C Y p s m args meth c D cA ad cc nL own ret) {q : Nat} {x : Int32} (hd : ab_D cc pc (.iload q) 2 nxt) (hv : lv[q]? = some (some (.inl x)))
    (k : ab_G Y p l e s m args below meth c D cA ad nL d rv σf nxt lv (.inl x :: st) σ) : ab_G Y p l e s m args below meth c D cA ad nL d rv σf pc lv st σ := by
  obtain ⟨hd, rfl⟩ := hd
  exact fun H locs ls hP hS hL => lv_iload C.1 C.2.1 hd (hL.2.2 _ _ hv) (k H locs ls hP hS hL)
theorem ab_lload_n (C : ab_C Y p s m args meth c D cA ad cc nL own ret) {q : Fin 4} {x : Int64} (hd : ab_D cc pc (.lload_n q) 1 nxt) (hv : lv[(q : Nat)]? = some (some (.inr (.inl x))))
    (k : ab_G Y p l e s m args below meth c D cA ad nL d rv σf nxt lv (.inr (.inl x) :: st) σ) : ab_G Y p l e s m args below meth c D cA ad nL d rv σf pc lv st σ := by
  obtain ⟨hd, rfl⟩ := hd
  exact fun H locs ls hP hS hL => lv_lload_n C.1 C.2.1 hd rfl (hL.2.2 _ _ hv) (k H locs ls hP hS hL)
theorem ab_lload (C : ab_C Y p s m args meth c D cA ad cc nL own ret) {q : Nat} {x : Int64} (hd : ab_D cc pc (.lload q) 2 nxt) (hv : lv[q]? = some (some (.inr (.inl x))))
    (k : ab_G Y p l e s m args below meth c D cA ad nL d rv σf nxt lv (.inr (.inl x) :: st) σ) : ab_G Y p l e s m args below meth c D cA ad nL d rv σf pc lv st σ := by
  obtain ⟨hd, rfl⟩ := hd
  exact fun H locs ls hP hS hL => lv_lload C.1 C.2.1 hd (hL.2.2 _ _ hv) (k H locs ls hP hS hL)
theorem ab_aload_n (C : ab_C Y p s m args meth c D cA ad cc nL own ret) {q : Fin 4} {x : Nat × Nat} (hd : ab_D cc pc (.aload_n q) 1 nxt) (hv : lv[(q : Nat)]? = some (some (.inr (.inr x))))
    (k : ab_G Y p l e s m args below meth c D cA ad nL d rv σf nxt lv (.inr (.inr x) :: st) σ) : ab_G Y p l e s m args below meth c D cA ad nL d rv σf pc lv st σ := by
  obtain ⟨hd, rfl⟩ := hd
  exact fun H locs ls hP hS hL => lv_aload_n C.1 C.2.1 hd rfl (hL.2.2 _ _ hv) (k H locs ls hP hS hL)
theorem ab_aload (C : ab_C Y p s m args meth c D cA ad cc nL own ret) {q : Nat} {x : Nat × Nat} (hd : ab_D cc pc (.aload q) 2 nxt) (hv : lv[q]? = some (some (.inr (.inr x))))
    (k : ab_G Y p l e s m args below meth c D cA ad nL d rv σf nxt lv (.inr (.inr x) :: st) σ) : ab_G Y p l e s m args below meth c D cA ad nL d rv σf pc lv st σ := by
  obtain ⟨hd, rfl⟩ := hd
  exact fun H locs ls hP hS hL => lv_aload C.1 C.2.1 hd (hL.2.2 _ _ hv) (k H locs ls hP hS hL)
theorem ab_istore_n (C : ab_C Y p s m args meth c D cA ad cc nL own ret) {q : Fin 4} {x : Int32} (hd : ab_D cc pc (.istore_n q) 1 nxt) (hn : (q : Nat) < nL)
    (k : ab_G Y p l e s m args below meth c D cA ad nL d rv σf nxt (ab_st1 lv (q : Nat) (.inl x)) st σ) : ab_G Y p l e s m args below meth c D cA ad nL d rv σf pc lv (.inl x :: st) σ := by
  obtain ⟨hd, rfl⟩ := hd
  exact fun H locs ls hP hS hL => lv_istore_n C.1 C.2.1 hd rfl (ab_L_has hL) hn rfl (fun ls' hl' => k H locs ls' hP hS (ab_L_st1 (v := .inl x) hl'))
theorem ab_istore (C : ab_C Y p s m args meth c D cA ad cc nL own ret) {q : Nat} {x : Int32} (hd : ab_D cc pc (.istore q) 2 nxt) (hn : q < nL)
    (k : ab_G Y p l e s m args below meth c D cA ad nL d rv σf nxt (ab_st1 lv q (.inl x)) st σ) : ab_G Y p l e s m args below meth c D cA ad nL d rv σf pc lv (.inl x :: st) σ := by
  obtain ⟨hd, rfl⟩ := hd
  exact fun H locs ls hP hS hL => lv_istore C.1 C.2.1 hd (ab_L_has hL) hn rfl (fun ls' hl' => k H locs ls' hP hS (ab_L_st1 (v := .inl x) hl'))
theorem ab_lstore_n (C : ab_C Y p s m args meth c D cA ad cc nL own ret) {q : Fin 4} {x : Int64} (hd : ab_D cc pc (.lstore_n q) 1 nxt) (hn : (q : Nat) + 1 < nL)
    (k : ab_G Y p l e s m args below meth c D cA ad nL d rv σf nxt (ab_st2 lv (q : Nat) (.inr (.inl x))) st σ) : ab_G Y p l e s m args below meth c D cA ad nL d rv σf pc lv (.inr (.inl x) :: st) σ := by
  obtain ⟨hd, rfl⟩ := hd
  exact fun H locs ls hP hS hL => lv_lstore_n C.1 C.2.1 hd rfl (ab_L_has hL) hn rfl (fun ls' hl' => k H locs ls' hP hS (ab_L_st2 (v := .inr (.inl x)) hl'))
theorem ab_lstore (C : ab_C Y p s m args meth c D cA ad cc nL own ret) {q : Nat} {x : Int64} (hd : ab_D cc pc (.lstore q) 2 nxt) (hn : q + 1 < nL)
    (k : ab_G Y p l e s m args below meth c D cA ad nL d rv σf nxt (ab_st2 lv q (.inr (.inl x))) st σ) : ab_G Y p l e s m args below meth c D cA ad nL d rv σf pc lv (.inr (.inl x) :: st) σ := by
  obtain ⟨hd, rfl⟩ := hd
  exact fun H locs ls hP hS hL => lv_lstore C.1 C.2.1 hd (ab_L_has hL) hn rfl (fun ls' hl' => k H locs ls' hP hS (ab_L_st2 (v := .inr (.inl x)) hl'))
theorem ab_astore_n (C : ab_C Y p s m args meth c D cA ad cc nL own ret) {q : Fin 4} {x : Nat × Nat} (hd : ab_D cc pc (.astore_n q) 1 nxt) (hn : (q : Nat) < nL)
    (k : ab_G Y p l e s m args below meth c D cA ad nL d rv σf nxt (ab_st1 lv (q : Nat) (.inr (.inr x))) st σ) : ab_G Y p l e s m args below meth c D cA ad nL d rv σf pc lv (.inr (.inr x) :: st) σ := by
  obtain ⟨hd, rfl⟩ := hd
  exact fun H locs ls hP hS hL => lv_astore_n C.1 C.2.1 hd rfl (ab_L_has hL) hn rfl (fun ls' hl' => k H locs ls' hP hS (ab_L_st1 (v := .inr (.inr x)) hl'))
theorem ab_astore (C : ab_C Y p s m args meth c D cA ad cc nL own ret) {q : Nat} {x : Nat × Nat} (hd : ab_D cc pc (.astore q) 2 nxt) (hn : q < nL)
    (k : ab_G Y p l e s m args below meth c D cA ad nL d rv σf nxt (ab_st1 lv q (.inr (.inr x))) st σ) : ab_G Y p l e s m args below meth c D cA ad nL d rv σf pc lv (.inr (.inr x) :: st) σ := by
  obtain ⟨hd, rfl⟩ := hd
  exact fun H locs ls hP hS hL => lv_astore C.1 C.2.1 hd (ab_L_has hL) hn rfl (fun ls' hl' => k H locs ls' hP hS (ab_L_st1 (v := .inr (.inr x)) hl'))
theorem ab_iinc (C : ab_C Y p s m args meth c D cA ad cc nL own ret) {q : Nat} {n : Int} {x v : Int32} (hd : ab_D cc pc (.iinc q n) 3 nxt) (hv : lv[q]? = some (some (.inl x))) (hx : Int32.ofInt n = v) (hn : q < nL)
    (k : ab_G Y p l e s m args below meth c D cA ad nL d rv σf nxt (ab_st1 lv q (.inl (x + v))) st σ) : ab_G Y p l e s m args below meth c D cA ad nL d rv σf pc lv st σ := by
  obtain ⟨hd, rfl⟩ := hd
  intro H locs ls hP hS hL
  have hm := ab_ll_in ad lv 0 q (.inl x) hv
  rw [Nat.zero_add] at hm
  obtain ⟨i, hi⟩ := List.getElem?_of_mem hm
  exact lv_iinc C.1 C.2.1 hd (ab_L_has hL) hi (by rw [hx]) hn rfl (fun ls' hl' => k H locs ls' hP hS (ab_L_st1 (v := .inl (x + v)) hl'))
theorem ab_icmp_eq (C : ab_C Y p s m args meth c D cA ad cc nL own ret) {x y : Int32} {off : Int} {tgt : Nat} (hd : ab_D cc pc (.if_icmp .eq off) 3 nxt) (ht : (pc : Int) + off = (tgt : Int))
    (kt : x = y → ab_G Y p l e s m args below meth c D cA ad nL d rv σf tgt lv st σ) (kf : ¬ x = y → ab_G Y p l e s m args below meth c D cA ad nL d rv σf nxt lv st σ) : ab_G Y p l e s m args below meth c D cA ad nL d rv σf pc lv (.inl y :: .inl x :: st) σ := by
  obtain ⟨hd, rfl⟩ := hd
  exact fun H locs ls hP hS hL => lv_icmp_eq C.1 C.2.1 hd ht (fun h => kt h H locs ls hP hS hL) (fun h => kf h H locs ls hP hS hL)
theorem ab_if_eq (C : ab_C Y p s m args meth c D cA ad cc nL own ret) {x : Int32} {off : Int} {tgt : Nat} (hd : ab_D cc pc (.ifCond .eq off) 3 nxt) (ht : (pc : Int) + off = (tgt : Int))
    (kt : x = 0 → ab_G Y p l e s m args below meth c D cA ad nL d rv σf tgt lv st σ) (kf : ¬ x = 0 → ab_G Y p l e s m args below meth c D cA ad nL d rv σf nxt lv st σ) : ab_G Y p l e s m args below meth c D cA ad nL d rv σf pc lv (.inl x :: st) σ := by
  obtain ⟨hd, rfl⟩ := hd
  exact fun H locs ls hP hS hL => lv_if_eq C.1 C.2.1 hd ht (fun h => kt h H locs ls hP hS hL) (fun h => kf h H locs ls hP hS hL)
theorem ab_icmp_ne (C : ab_C Y p s m args meth c D cA ad cc nL own ret) {x y : Int32} {off : Int} {tgt : Nat} (hd : ab_D cc pc (.if_icmp .ne off) 3 nxt) (ht : (pc : Int) + off = (tgt : Int))
    (kt : ¬ x = y → ab_G Y p l e s m args below meth c D cA ad nL d rv σf tgt lv st σ) (kf : x = y → ab_G Y p l e s m args below meth c D cA ad nL d rv σf nxt lv st σ) : ab_G Y p l e s m args below meth c D cA ad nL d rv σf pc lv (.inl y :: .inl x :: st) σ := by
  obtain ⟨hd, rfl⟩ := hd
  exact fun H locs ls hP hS hL => lv_icmp_ne C.1 C.2.1 hd ht (fun h => kt h H locs ls hP hS hL) (fun h => kf h H locs ls hP hS hL)
theorem ab_if_ne (C : ab_C Y p s m args meth c D cA ad cc nL own ret) {x : Int32} {off : Int} {tgt : Nat} (hd : ab_D cc pc (.ifCond .ne off) 3 nxt) (ht : (pc : Int) + off = (tgt : Int))
    (kt : ¬ x = 0 → ab_G Y p l e s m args below meth c D cA ad nL d rv σf tgt lv st σ) (kf : x = 0 → ab_G Y p l e s m args below meth c D cA ad nL d rv σf nxt lv st σ) : ab_G Y p l e s m args below meth c D cA ad nL d rv σf pc lv (.inl x :: st) σ := by
  obtain ⟨hd, rfl⟩ := hd
  exact fun H locs ls hP hS hL => lv_if_ne C.1 C.2.1 hd ht (fun h => kt h H locs ls hP hS hL) (fun h => kf h H locs ls hP hS hL)
theorem ab_icmp_lt (C : ab_C Y p s m args meth c D cA ad cc nL own ret) {x y : Int32} {off : Int} {tgt : Nat} (hd : ab_D cc pc (.if_icmp .lt off) 3 nxt) (ht : (pc : Int) + off = (tgt : Int))
    (kt : x < y → ab_G Y p l e s m args below meth c D cA ad nL d rv σf tgt lv st σ) (kf : ¬ x < y → ab_G Y p l e s m args below meth c D cA ad nL d rv σf nxt lv st σ) : ab_G Y p l e s m args below meth c D cA ad nL d rv σf pc lv (.inl y :: .inl x :: st) σ := by
  obtain ⟨hd, rfl⟩ := hd
  exact fun H locs ls hP hS hL => lv_icmp_lt C.1 C.2.1 hd ht (fun h => kt h H locs ls hP hS hL) (fun h => kf h H locs ls hP hS hL)
theorem ab_if_lt (C : ab_C Y p s m args meth c D cA ad cc nL own ret) {x : Int32} {off : Int} {tgt : Nat} (hd : ab_D cc pc (.ifCond .lt off) 3 nxt) (ht : (pc : Int) + off = (tgt : Int))
    (kt : x < 0 → ab_G Y p l e s m args below meth c D cA ad nL d rv σf tgt lv st σ) (kf : ¬ x < 0 → ab_G Y p l e s m args below meth c D cA ad nL d rv σf nxt lv st σ) : ab_G Y p l e s m args below meth c D cA ad nL d rv σf pc lv (.inl x :: st) σ := by
  obtain ⟨hd, rfl⟩ := hd
  exact fun H locs ls hP hS hL => lv_if_lt C.1 C.2.1 hd ht (fun h => kt h H locs ls hP hS hL) (fun h => kf h H locs ls hP hS hL)
theorem ab_icmp_ge (C : ab_C Y p s m args meth c D cA ad cc nL own ret) {x y : Int32} {off : Int} {tgt : Nat} (hd : ab_D cc pc (.if_icmp .ge off) 3 nxt) (ht : (pc : Int) + off = (tgt : Int))
    (kt : y ≤ x → ab_G Y p l e s m args below meth c D cA ad nL d rv σf tgt lv st σ) (kf : ¬ y ≤ x → ab_G Y p l e s m args below meth c D cA ad nL d rv σf nxt lv st σ) : ab_G Y p l e s m args below meth c D cA ad nL d rv σf pc lv (.inl y :: .inl x :: st) σ := by
  obtain ⟨hd, rfl⟩ := hd
  exact fun H locs ls hP hS hL => lv_icmp_ge C.1 C.2.1 hd ht (fun h => kt h H locs ls hP hS hL) (fun h => kf h H locs ls hP hS hL)
theorem ab_if_ge (C : ab_C Y p s m args meth c D cA ad cc nL own ret) {x : Int32} {off : Int} {tgt : Nat} (hd : ab_D cc pc (.ifCond .ge off) 3 nxt) (ht : (pc : Int) + off = (tgt : Int))
    (kt : 0 ≤ x → ab_G Y p l e s m args below meth c D cA ad nL d rv σf tgt lv st σ) (kf : ¬ 0 ≤ x → ab_G Y p l e s m args below meth c D cA ad nL d rv σf nxt lv st σ) : ab_G Y p l e s m args below meth c D cA ad nL d rv σf pc lv (.inl x :: st) σ := by
  obtain ⟨hd, rfl⟩ := hd
  exact fun H locs ls hP hS hL => lv_if_ge C.1 C.2.1 hd ht (fun h => kt h H locs ls hP hS hL) (fun h => kf h H locs ls hP hS hL)
theorem ab_icmp_gt (C : ab_C Y p s m args meth c D cA ad cc nL own ret) {x y : Int32} {off : Int} {tgt : Nat} (hd : ab_D cc pc (.if_icmp .gt off) 3 nxt) (ht : (pc : Int) + off = (tgt : Int))
    (kt : y < x → ab_G Y p l e s m args below meth c D cA ad nL d rv σf tgt lv st σ) (kf : ¬ y < x → ab_G Y p l e s m args below meth c D cA ad nL d rv σf nxt lv st σ) : ab_G Y p l e s m args below meth c D cA ad nL d rv σf pc lv (.inl y :: .inl x :: st) σ := by
  obtain ⟨hd, rfl⟩ := hd
  exact fun H locs ls hP hS hL => lv_icmp_gt C.1 C.2.1 hd ht (fun h => kt h H locs ls hP hS hL) (fun h => kf h H locs ls hP hS hL)
theorem ab_if_gt (C : ab_C Y p s m args meth c D cA ad cc nL own ret) {x : Int32} {off : Int} {tgt : Nat} (hd : ab_D cc pc (.ifCond .gt off) 3 nxt) (ht : (pc : Int) + off = (tgt : Int))
    (kt : 0 < x → ab_G Y p l e s m args below meth c D cA ad nL d rv σf tgt lv st σ) (kf : ¬ 0 < x → ab_G Y p l e s m args below meth c D cA ad nL d rv σf nxt lv st σ) : ab_G Y p l e s m args below meth c D cA ad nL d rv σf pc lv (.inl x :: st) σ := by
  obtain ⟨hd, rfl⟩ := hd
  exact fun H locs ls hP hS hL => lv_if_gt C.1 C.2.1 hd ht (fun h => kt h H locs ls hP hS hL) (fun h => kf h H locs ls hP hS hL)
theorem ab_icmp_le (C : ab_C Y p s m args meth c D cA ad cc nL own ret) {x y : Int32} {off : Int} {tgt : Nat} (hd : ab_D cc pc (.if_icmp .le off) 3 nxt) (ht : (pc : Int) + off = (tgt : Int))
    (kt : x ≤ y → ab_G Y p l e s m args below meth c D cA ad nL d rv σf tgt lv st σ) (kf : ¬ x ≤ y → ab_G Y p l e s m args below meth c D cA ad nL d rv σf nxt lv st σ) : ab_G Y p l e s m args below meth c D cA ad nL d rv σf pc lv (.inl y :: .inl x :: st) σ := by
  obtain ⟨hd, rfl⟩ := hd
  exact fun H locs ls hP hS hL => lv_icmp_le C.1 C.2.1 hd ht (fun h => kt h H locs ls hP hS hL) (fun h => kf h H locs ls hP hS hL)
theorem ab_if_le (C : ab_C Y p s m args meth c D cA ad cc nL own ret) {x : Int32} {off : Int} {tgt : Nat} (hd : ab_D cc pc (.ifCond .le off) 3 nxt) (ht : (pc : Int) + off = (tgt : Int))
    (kt : x ≤ 0 → ab_G Y p l e s m args below meth c D cA ad nL d rv σf tgt lv st σ) (kf : ¬ x ≤ 0 → ab_G Y p l e s m args below meth c D cA ad nL d rv σf nxt lv st σ) : ab_G Y p l e s m args below meth c D cA ad nL d rv σf pc lv (.inl x :: st) σ := by
  obtain ⟨hd, rfl⟩ := hd
  exact fun H locs ls hP hS hL => lv_if_le C.1 C.2.1 hd ht (fun h => kt h H locs ls hP hS hL) (fun h => kf h H locs ls hP hS hL)
theorem ab_goto (C : ab_C Y p s m args meth c D cA ad cc nL own ret) {off : Int} {tgt : Nat} (hd : ab_D cc pc (.goto off) 3 nxt) (ht : (pc : Int) + off = (tgt : Int)) (k : ab_G Y p l e s m args below meth c D cA ad nL d rv σf tgt lv st σ) : ab_G Y p l e s m args below meth c D cA ad nL d rv σf pc lv st σ := by
  obtain ⟨hd, rfl⟩ := hd
  exact fun H locs ls hP hS hL => lv_goto C.1 C.2.1 hd ht (k H locs ls hP hS hL)
theorem ab_tswIn (C : ab_C Y p s m args meth c D cA ad cc nL own ret) {dflt lo hi : Int} {offs : Array Int} {len : Nat} {x : Int32} {off : Int} {tgt : Nat} (hd : decode cc pc = .ok (.tableswitch dflt lo hi offs, len)) (v : Int) (hx : x.toInt = v) (h1 : ¬ v < lo) (h2 : ¬ hi < v) (ho : offs[(v - lo).toNat]? = some off) (ht : (pc : Int) + off = (tgt : Int))
    (k : ab_G Y p l e s m args below meth c D cA ad nL d rv σf tgt lv st σ) : ab_G Y p l e s m args below meth c D cA ad nL d rv σf pc lv (.inl x :: st) σ := by
  subst hx
  exact fun H locs ls hP hS hL => lv_tableIn C.1 C.2.1 hd h1 h2 ho ht (k H locs ls hP hS hL)
theorem ab_tswOut (C : ab_C Y p s m args meth c D cA ad cc nL own ret) {dflt lo hi : Int} {offs : Array Int} {len : Nat} {x : Int32} {tgt : Nat} (hd : decode cc pc = .ok (.tableswitch dflt lo hi offs, len)) (h : x.toInt < lo ∨ hi < x.toInt) (ht : (pc : Int) + dflt = (tgt : Int))
    (k : ab_G Y p l e s m args below meth c D cA ad nL d rv σf tgt lv st σ) : ab_G Y p l e s m args below meth c D cA ad nL d rv σf pc lv (.inl x :: st) σ :=
  fun H locs ls hP hS hL => lv_tableOut C.1 C.2.1 hd h ht (k H locs ls hP hS hL)
theorem ab_lsw (C : ab_C Y p s m args meth c D cA ad cc nL own ret) {dflt : Int} {ps : Array (Int × Int)} {len : Nat} {x : Int32} {off : Int} {tgt : Nat} (hd : decode cc pc = .ok (.lookupswitch dflt ps, len)) (hp : (ps.toList.zip (ps.toList.drop 1)).all (fun (a, next) => a.1 < next.1) = true) (ho : Op.lookupswitch.offset ps.toList dflt x.toInt = off) (ht : (pc : Int) + off = (tgt : Int))
    (k : ab_G Y p l e s m args below meth c D cA ad nL d rv σf tgt lv st σ) : ab_G Y p l e s m args below meth c D cA ad nL d rv σf pc lv (.inl x :: st) σ :=
  fun H locs ls hP hS hL => lv_lookup C.1 C.2.1 hd hp ho ht (k H locs ls hP hS hL)
theorem ab_weak {lv' : List (Option ab_V)} (h : ab_le lv' lv) (k : ab_G Y p l e s m args below meth c D cA ad nL d rv σf pc lv' st σ) : ab_G Y p l e s m args below meth c D cA ad nL d rv σf pc lv st σ :=
  fun H locs ls hP hS hL => k H locs ls hP hS ⟨hL.1, hL.2.1, fun i v hi => hL.2.2 i v (ab_le_get h i v hi)⟩
theorem ab_ldc (C : ab_C Y p s m args meth c D cA ad cc nL own ret) {index : Nat} {v : Int32} (hd : ab_D cc pc (.ldc index) 2 nxt) (hw : Jvm.Cond.constant own index v ∈ ab_T) (k : ab_G Y p l e s m args below meth c D cA ad nL d rv σf nxt lv (.inl v :: st) σ) : ab_G Y p l e s m args below meth c D cA ad nL d rv σf pc lv st σ := by
  obtain ⟨hd, rfl⟩ := hd
  exact fun H locs ls hP hS hL => lv_ldc C.1 C.2.1 C.2.2.2.2.2.1 (C.2.2.2.2.1 _ hw) hd (k H locs ls hP hS hL)
theorem ab_ldcw (C : ab_C Y p s m args meth c D cA ad cc nL own ret) {index : Nat} {v : Int32} (hd : ab_D cc pc (.ldc_w index) 3 nxt) (hw : Jvm.Cond.constant own index v ∈ ab_T) (k : ab_G Y p l e s m args below meth c D cA ad nL d rv σf nxt lv (.inl v :: st) σ) : ab_G Y p l e s m args below meth c D cA ad nL d rv σf pc lv st σ := by
  obtain ⟨hd, rfl⟩ := hd
  exact fun H locs ls hP hS hL => lv_ldcw C.1 C.2.1 C.2.2.2.2.2.1 (C.2.2.2.2.1 _ hw) hd (k H locs ls hP hS hL)
theorem ab_ldc2 (C : ab_C Y p s m args meth c D cA ad cc nL own ret) {index : Nat} {v : Int64} (hd : ab_D cc pc (.ldc2_w index) 3 nxt) (hw : Jvm.Cond.constantLong own index v ∈ ab_T) (k : ab_G Y p l e s m args below meth c D cA ad nL d rv σf nxt lv (.inr (.inl v) :: st) σ) : ab_G Y p l e s m args below meth c D cA ad nL d rv σf pc lv st σ := by
  obtain ⟨hd, rfl⟩ := hd
  exact fun H locs ls hP hS hL => lv_ldc2 C.1 C.2.1 C.2.2.2.2.2.1 (C.2.2.2.2.1 _ hw) hd (k H locs ls hP hS hL)
end AB
