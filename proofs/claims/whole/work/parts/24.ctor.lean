/-! Constructors: rows over an explicit list of cells that grows -/
def ac_Nw (U : State) : Prop := ab_Nw U ∧ va_AO "ChangeDoors$Law" U ∧ (Cond.arrayOver (.array .long)).before #[] U = true
theorem ac_Nw.moved {u U : State} (hvm : u.vm.Alike U.vm) (hN : ab_Nw U) (h : ac_Nw u) : ac_Nw U := ⟨hN, va_AO.moved hvm h.2.1, arrayOver_alikeB hvm h.2.2⟩
theorem ac_Nw.warm {s U : State} (hW : s.WarmedH U.vm) (h : ac_Nw s) : ac_Nw U := h.moved hW.alike (fun q hq => va_Nw.warmM hW (h.1 q hq))
def ac_C (p : Program) (s : State) (m : MethodId) (args : Array Value) (meth : Method) (c : Code) (D : va_G) (cA : Nat → ClassId) (A : Nat → Prop) (cc : ByteArray) (nL : Nat) (own : String) : Prop :=
  p.tables.exec = Jvm.exec ∧ c.code = cc ∧ meth.sig.returnType = none ∧ c.maxLocals = nL ∧ (∀ w ∈ ab_T, w.before args s = true) ∧ s.vm.findClass own = some m.cls ∧ meth.locks = false ∧ va_K D vwCl (ab_ty cA) s ∧ ac_Nw s ∧ (∀ q, s.heap.size ≤ q → A q) ∧ meth.name = "<init>"
def ac_G (p : Program) (l : Launch) (e : Env) (R : Room) (s : State) (m : MethodId) (args : Array Value) (below : List Frame) (meth : Method) (c : Code) (D : va_G) (A : Nat → Prop) (Q : State → Prop) (nL pc : Nat) (lv : List (Nat × Value)) (st : List Value) (cells slots : Nat) (ws : va_W) : Prop :=
  ∀ (H : Heap) (locs : List Loc) (ls : Array Slot), va_P D vwCl ws H → va_D A ws → va_S A s.heap H locs → lv_has ls nL lv → W p l e R s m args below meth c H locs cells slots Q (F0 m pc ls st)
/-- a constructor's contract: with these arguments and cells; its cells then are a list with P -/
def ac_M (l : Launch) (y : MethodName) (cc : ByteArray) (nL d mc ms : Nat) (cA : Nat → ClassId) (as : List Value) (ws : va_W) (P : va_W → Prop) : Prop :=
  ∀ (D : va_G) (sz : Nat), Met l y (.code y cc nL none :: ab_T) ({ frames := d, cells := mc, slots := ms, locals := 64 * d }) (va_Pc as (fun U => U.heap.size = sz ∧ va_P D vwCl ws U.heap ∧ va_D (fun _ => True) ws ∧ va_K D vwCl (ab_ty cA) U ∧ ac_Nw U)) (fun _ st o t => o = .returned none ∧ (∃ ws', P ws' ∧ va_P D vwCl ws' t.heap ∧ va_D (va_A ws sz) ws') ∧ va_F (va_A ws sz) st t) mc ms (va_A ws sz)
def ac_FF (own : String) (idx ci j : Nat) (ty : FieldType) : Prop := ∃ (C : String) (T : u_T) (N : Nat) (ty0 : Nat → FieldType), vwCl[ci]? = some (C, T, N) ∧ (∀ w ∈ u_ws C T N, w ∈ ab_T) ∧ (∀ k, k < N → parseFieldDescriptor (T k).2.2.1 = some (ty0 k)) ∧ (∀ a, a < N → ∀ b, b < N → a ≠ b → (T a).2.1 ≠ (T b).2.1) ∧ j < N ∧ Cond.fieldLink own idx (T j).1 (T j).2.1 (T j).2.2.1 ∈ ab_T ∧ (T j).2.2.2 = true ∧ (T j).1 = own ∧ parseFieldDescriptor (T j).2.2.1 = some ty
/-- a class to be made -/
def ac_NW (own : String) (idx ci N : Nat) (fs : List Value) : Prop := ∃ (C : String) (T : u_T) (ty0 : Nat → FieldType), vwCl[ci]? = some (C, T, N) ∧ (∀ w ∈ u_ws C T N, w ∈ ab_T) ∧ (∀ k, k < N → parseFieldDescriptor (T k).2.2.1 = some (ty0 k)) ∧ Cond.classLink own idx C ∈ ab_T ∧ Cond.instantiable C N ∈ ab_T ∧ Cond.initialized C ∈ ab_T ∧ (∀ j, j < N → defaultValue (ty0 j) = vp_V fs j)
theorem ac_blind (D : va_G) (cA : Nat → ClassId) (ws : va_W) (av : List Value) (sz : Nat) : FrameBlind (va_Pc av (fun U => U.heap.size = sz ∧ va_P D vwCl ws U.heap ∧ va_D (fun _ => True) ws ∧ va_K D vwCl (ab_ty cA) U ∧ ac_Nw U)) := by
  intro a U g mk q
  obtain ⟨h0, hz, hP, hD, hK, hNw⟩ := q
  exact ⟨h0, hz, hP, hD, va_K.moved (u := U) (U := U.calling g mk a) (Vm.Alike.refl U.vm) hK, hNw.moved (U := U.calling g mk a) (Vm.Alike.refl U.vm) (fun q hq => va_Nw.same rfl rfl (hNw.1 q hq))⟩
theorem ac_cA {D : va_G} {cA : Nat → ClassId} {s : State} {ty : FieldType} {c' : ClassId} (hp : ∀ C, ty ≠ .object C) (hK : va_K D vwCl (ab_ty cA) s) (t : Nat) (ht : (ab_ty cA)[t]? = some (cA t, ty)) (h : va_K D vwCl (ab_ty cA ++ [(c', ty)]) s) : c' = cA t := by
  have h1 := (hK.2 t _ ht).2
  have h2 := (h.2 5 (c', ty) rfl).2
  cases ty with
  | object C => exact absurd rfl (hp C)
  | _ => exact Option.some.inj (h2.symm.trans h1)
theorem ac_cA3 {D : va_G} {cA : Nat → ClassId} {s : State} {c' : ClassId} (hK : va_K D vwCl (ab_ty cA) s) (h : va_K D vwCl (ab_ty cA ++ [(c', .object "ChangeDoors$Law")]) s) : c' = cA 3 := by
  obtain ⟨k1, x1, -, -, -, h1⟩ := (hK.2 3 _ rfl).2
  obtain ⟨k2, x2, -, -, -, h2⟩ := (h.2 5 (c', .object "ChangeDoors$Law") rfl).2
  exact Option.some.inj (h2.symm.trans h1)
theorem ac_lt {D : va_G} {ws : va_W} {H : Heap} (hP : va_P D vwCl ws H) : ∀ (i : Nat) (x : Nat × va_E), ws[i]? = some x → x.1 < H.size := fun i x h => (hP i x h).lt
/-- new cells, one behind another -/
theorem ac_grow {A : Nat → Prop} {ws w2 : va_W} {h : Nat} (hD : va_D A ws) (hlt : ∀ (i : Nat) (x : Nat × va_E), ws[i]? = some x → x.1 < h) (h2 : ∀ (i : Nat) (x : Nat × va_E), w2[i]? = some x → x.1 = h + i) (hA : ∀ q, h ≤ q → A q) : va_D A (ws ++ w2) :=
  va_D.app hD ⟨fun i j x y hi hj e => by have := h2 i x hi; have := h2 j y hj; omega, fun i x hi => hA _ (by have := h2 i x hi; omega)⟩ (fun i j x y hi hj e => by have := hlt i x hi; have := h2 j y hj; omega)
section AC
variable {p : Program} {l : Launch} {e : Env} {R : Room} {s : State} {m : MethodId} {args : Array Value} {below : List Frame} {meth : Method} {c : Code} {D : va_G} {cA : Nat → ClassId} {A : Nat → Prop} {Q : State → Prop} {cc : ByteArray} {nL : Nat} {own : String} {pc nxt : Nat} {lv : List (Nat × Value)} {st : List Value} {cells slots : Nat} {ws : va_W}
theorem ac_intro {y : MethodName} {d mc ms : Nat} {as : List Value} {ws : va_W} {P : va_W → Prop} (hy : plainName y.cls = true) (hn : (lg_sl as).length ≤ nL) (hyn : y.name = "<init>")
    (body : ∀ (p : Program) (e : Env) (s : State) (m : MethodId) (args : Array Value) (below : List Frame) (meth : Method) (c : Code) (D : va_G) (A : Nat → Prop), (∀ q, va_A ws s.heap.size q ↔ A q) → ac_C p s m args meth c D cA A cc nL y.cls → ac_G p l e ({ frames := d, cells := mc, slots := ms, locals := 64 * d }) s m args below meth c D A (MQ below (fun _ st o t => o = .returned none ∧ (∃ ws', P ws' ∧ va_P D vwCl ws' t.heap ∧ va_D A ws') ∧ va_F A st t) args s mc ms A) nL 0 (lv_args 0 as) [] 0 0 ws) : ac_M l y cc nL d mc ms cA as ws P := by
  intro D sz
  refine Met.ofW (cc := cc) (maxL := nL) (ret := none) hy rfl ?_
  intro p e s m args below meth c s₁ B hml hv
  obtain ⟨rfl, hsz, hP, hD0, hK, hNw⟩ := hv
  have hts := atoms_spec (ws := .code y cc nL none :: ab_T) B.pre
  have hown : s.vm.findClass y.cls = some m.cls := findClass_of_methodNamed B.named
  subst hsz
  have hl := lv_entry as (n := nL) hn
  rw [lg_entry_eq]
  exact body p e s m _ below meth c D (va_A ws s.heap.size) (fun _ => Iff.rfl) ⟨B.exec, B.bytes, B.returns, hml, fun w h => hts w (List.mem_cons_of_mem _ h), hown, B.notSynchronized, hK, hNw, fun q h => Or.inr h, by rw [(name_of_methodNamed B.named B.method).1]; exact hyn⟩ s.heap [] _ hP (hD0.self) va_S.rf hl
theorem ac_vret {P : va_W → Prop} (C : ac_C p s m args meth c D cA A cc nL own) (hd : decode cc pc = .ok (.return_, 1)) {mc ms : Nat} (hc : cells ≤ mc) (hs : slots ≤ ms) {ws' : va_W} (hP' : P ws') (is : List Nat) (h1 : is.filterMap (fun i => ws[i]?) = ws') (hn : va_nd is = true) (h2 : is.map (fun i => ws[i]?) = ws'.map some) : ac_G p l e R s m args below meth c D A (MQ below (fun _ st o t => o = .returned none ∧ (∃ ws', P ws' ∧ va_P D vwCl ws' t.heap ∧ va_D A ws') ∧ va_F A st t) args s mc ms A) nL pc lv [] cells slots ws := by
  intro H locs ls hP hD hS hL
  obtain ⟨hx, hb, hr, hml, hts, hown, hlk, hK, hNw, hA, hin⟩ := C
  refine W.widen (k := mc) (n := ms) hc hs ?_
  exact W.vret hx hb hr (fun t ht hW => ⟨rfl, ⟨ws', hP', by rw [ht]; exact hP.sub is h1, hD.sub is hn h2⟩, hS.F ht⟩) hS.2.2 hd (hlocks := hlk)
theorem ac_aload_n (C : ac_C p s m args meth c D cA A cc nL own) {q : Fin 4} {x : Nat} (hd : decode cc pc = .ok (.aload_n q, 1)) (k : Nat) (hk : lv[k]? = some ((q : Nat), .ref x)) (kk : ac_G p l e R s m args below meth c D A Q nL (pc + 1) lv (.ref x :: st) cells slots ws) : ac_G p l e R s m args below meth c D A Q nL pc lv st cells slots ws :=
  fun H locs ls hP hD hS hL => lv_aload_n C.1 C.2.1 hd rfl (lv_at hL k hk) (kk H locs ls hP hD hS hL)
theorem ac_iload_n (C : ac_C p s m args meth c D cA A cc nL own) {q : Fin 4} {x : Int32} (hd : decode cc pc = .ok (.iload_n q, 1)) (k : Nat) (hk : lv[k]? = some ((q : Nat), .int x)) (kk : ac_G p l e R s m args below meth c D A Q nL (pc + 1) lv (.int x :: st) cells slots ws) : ac_G p l e R s m args below meth c D A Q nL pc lv st cells slots ws :=
  fun H locs ls hP hD hS hL => lv_iload_n C.1 C.2.1 hd rfl (lv_at hL k hk) (kk H locs ls hP hD hS hL)
theorem ac_iconst (C : ac_C p s m args meth c D cA A cc nL own) {n : Int} {v : Int32} (hd : decode cc pc = .ok (.iconst n, 1)) (hv : Int32.ofInt n = v) (kk : ac_G p l e R s m args below meth c D A Q nL (pc + 1) lv (.int v :: st) cells slots ws) : ac_G p l e R s m args below meth c D A Q nL pc lv st cells slots ws :=
  fun H locs ls hP hD hS hL => lv_iconst C.1 C.2.1 hd hv (kk H locs ls hP hD hS hL)
theorem ac_bipush (C : ac_C p s m args meth c D cA A cc nL own) {n : Int} {v : Int32} (hd : decode cc pc = .ok (.bipush n, 2)) (hv : (Int8.ofInt n).toInt32 = v) (kk : ac_G p l e R s m args below meth c D A Q nL (pc + 2) lv (.int v :: st) cells slots ws) : ac_G p l e R s m args below meth c D A Q nL pc lv st cells slots ws :=
  fun H locs ls hP hD hS hL => lv_bipush C.1 C.2.1 hd hv (kk H locs ls hP hD hS hL)
theorem ac_sipush (C : ac_C p s m args meth c D cA A cc nL own) {n : Int} {v : Int32} (hd : decode cc pc = .ok (.sipush n, 3)) (hv : (Int16.ofInt n).toInt32 = v) (kk : ac_G p l e R s m args below meth c D A Q nL (pc + 3) lv (.int v :: st) cells slots ws) : ac_G p l e R s m args below meth c D A Q nL pc lv st cells slots ws :=
  fun H locs ls hP hD hS hL => lv_sipush C.1 C.2.1 hd hv (kk H locs ls hP hD hS hL)
theorem ac_dup (C : ac_C p s m args meth c D cA A cc nL own) {x : Nat} (hd : decode cc pc = .ok (.dup, 1)) (kk : ac_G p l e R s m args below meth c D A Q nL (pc + 1) lv (.ref x :: .ref x :: st) cells slots ws) : ac_G p l e R s m args below meth c D A Q nL pc lv (.ref x :: st) cells slots ws :=
  fun H locs ls hP hD hS hL => lv_dup C.1 C.2.1 hd rfl (kk H locs ls hP hD hS hL)
theorem ac_istore_n (C : ac_C p s m args meth c D cA A cc nL own) {q : Fin 4} {x : Int32} {lv' : List (Nat × Value)} (hd : decode cc pc = .ok (.istore_n q, 1)) (hn : (q : Nat) < nL) (hl : ((q : Nat), Value.int x) :: lv.filter (fun z => !(z.1 == (q : Nat)) && !(z.1 + 1 == (q : Nat) && z.2.category == 2)) = lv') (kk : ac_G p l e R s m args below meth c D A Q nL (pc + 1) lv' st cells slots ws) : ac_G p l e R s m args below meth c D A Q nL pc lv (.int x :: st) cells slots ws :=
  fun H locs ls hP hD hS hL => lv_istore_n C.1 C.2.1 hd rfl hL hn hl (fun ls' hl' => kk H locs ls' hP hD hS hl')
theorem ac_iinc (C : ac_C p s m args meth c D cA A cc nL own) {q k : Nat} {n : Int} {x v : Int32} {lv' : List (Nat × Value)} (hd : decode cc pc = .ok (.iinc q n, 3)) (hk : lv[k]? = some (q, .int x)) (hv : x + Int32.ofInt n = v) (hn : q < nL) (hl : (q, Value.int v) :: lv.filter (fun z => !(z.1 == q) && !(z.1 + 1 == q && z.2.category == 2)) = lv') (kk : ac_G p l e R s m args below meth c D A Q nL (pc + 3) lv' st cells slots ws) : ac_G p l e R s m args below meth c D A Q nL pc lv st cells slots ws :=
  fun H locs ls hP hD hS hL => lv_iinc C.1 C.2.1 hd hL hk hv hn hl (fun ls' hl' => kk H locs ls' hP hD hS hl')
theorem ac_goto (C : ac_C p s m args meth c D cA A cc nL own) {off : Int} {tgt : Nat} (hd : decode cc pc = .ok (.goto off, 3)) (ht : (pc : Int) + off = (tgt : Int)) (kk : ac_G p l e R s m args below meth c D A Q nL tgt lv st cells slots ws) : ac_G p l e R s m args below meth c D A Q nL pc lv st cells slots ws :=
  fun H locs ls hP hD hS hL => lv_goto C.1 C.2.1 hd ht (kk H locs ls hP hD hS hL)
theorem ac_ge_t (C : ac_C p s m args meth c D cA A cc nL own) {x y : Int32} {off : Int} {tgt : Nat} (hd : decode cc pc = .ok (.if_icmp .ge off, 3)) (ht : (pc : Int) + off = (tgt : Int)) (hc : y ≤ x) (kk : ac_G p l e R s m args below meth c D A Q nL tgt lv st cells slots ws) : ac_G p l e R s m args below meth c D A Q nL pc lv (.int y :: .int x :: st) cells slots ws :=
  fun H locs ls hP hD hS hL => lv_icmp_ge C.1 C.2.1 hd ht (fun _ => kk H locs ls hP hD hS hL) (fun h => absurd hc h)
theorem ac_ge_f (C : ac_C p s m args meth c D cA A cc nL own) {x y : Int32} {off : Int} {tgt : Nat} (hd : decode cc pc = .ok (.if_icmp .ge off, 3)) (ht : (pc : Int) + off = (tgt : Int)) (hc : ¬ y ≤ x) (kk : ac_G p l e R s m args below meth c D A Q nL (pc + 3) lv st cells slots ws) : ac_G p l e R s m args below meth c D A Q nL pc lv (.int y :: .int x :: st) cells slots ws :=
  fun H locs ls hP hD hS hL => lv_icmp_ge C.1 C.2.1 hd ht (fun h => absurd h hc) (fun _ => kk H locs ls hP hD hS hL)
theorem ac_pc {pc' : Nat} (h : pc = pc') (kk : ac_G p l e R s m args below meth c D A Q nL pc' lv st cells slots ws) : ac_G p l e R s m args below meth c D A Q nL pc lv st cells slots ws := h ▸ kk
theorem ac_obj (C : ac_C p s m args meth c D cA A cc nL own) {idx x : Nat} (hd : decode cc pc = .ok (.invokespecial idx, 3)) (hl : Cond.methodLink own idx objectInit ∈ ab_T) (hi : Cond.instanceMethod objectInit ∈ ab_T) (hc : Cond.code objectInit ⟨#[0xb1]⟩ 1 none ∈ ab_T) (hf : 1 ≤ R.frames) (ho : (st.map fun v => v.category).sum + 12 ≤ R.locals) (kk : ac_G p l e R s m args below meth c D A Q nL (pc + 3) lv st cells slots ws) : ac_G p l e R s m args below meth c D A Q nL pc lv (.ref x :: st) cells slots ws := by
  intro H locs ls hP hD hS hL
  obtain ⟨hx, hb, hr, hml, hts, hown, hlk, hK, hNw, hA, hin⟩ := C
  refine W.objInit hx hb hown (hts _ hl) (hts _ hi) (hts _ hc) rfl (by rw [hml]; exact hL.1) rfl hd hf (by show 2 * 0 + _ + 12 ≤ _; omega) ?_
  exact kk H locs ls hP hD hS hL
theorem ac_get (C : ac_C p s m args meth c D cA A cc nL own) {idx ci j a : Nat} {fs : List Value} {v : Value} (hd : decode cc pc = .ok (.getfield idx, 3)) (hf : ab_FL own idx ci j) (q : Nat) (hq : ws[q]? = some (a, .inr (ci, fs))) (hv : fs[j]? = some v) (kk : ac_G p l e R s m args below meth c D A Q nL (pc + 3) lv (v :: st) cells slots ws) : ac_G p l e R s m args below meth c D A Q nL pc lv (.ref a :: st) cells slots ws := by
  intro H locs ls hP hD hS hL
  obtain ⟨hx, hb, hr, hml, hts, hown, hlk, hK, hNw, hA, hin⟩ := C
  obtain ⟨Cn, T, N, hc, hin2, hjN, hl⟩ := hf
  exact va_get hx hb hts hin2 hown hK hP q hq hc j hjN (hts _ hl) (fun _ h => h) hv hd (kk H locs ls hP hD hS hL)
theorem ac_putF (C : ac_C p s m args meth c D cA A cc nL own) {idx ci j a : Nat} {ty : FieldType} {fs : List Value} {v : Value} {ws' : va_W} (hd : decode cc pc = .ok (.putfield idx, 3)) (hf : ac_FF own idx ci j ty) (q : Nat) (hq : ws[q]? = some (a, .inr (ci, fs))) (hn : narrow ty v = v) (hfit : fits ty v = true) (hl : j < fs.length) (hw : ws.set q (a, .inr (ci, fs.set j v)) = ws') (kk : ac_G p l e R s m args below meth c D A Q nL (pc + 3) lv st cells slots ws') : ac_G p l e R s m args below meth c D A Q nL pc lv (v :: .ref a :: st) cells slots ws := by
  subst hw
  intro H locs ls hP hD hS hL
  obtain ⟨hx, hb, hr, hml, hts, hown, hlk, hK, hNw, hA, hin⟩ := C
  obtain ⟨Cn, T, N, ty0, hc, hin2, hty, hnm, hjN, hl2, hfin, hdecl, hpd⟩ := hf
  exact va_putF hx hb hts hin2 ty0 hty hnm hown hK hP hD hS q hq hc j hjN (hts _ hl2) (fun _ h => h) hfin hin hdecl hpd hn hfit hl hd (fun H1 locs1 hP1 hD1 hS1 => kk H1 locs1 ls hP1 hD1 hS1 hL)
theorem ac_put (C : ac_C p s m args meth c D cA A cc nL own) {idx ci j a : Nat} {ty : FieldType} {fs : List Value} {v : Value} {ws' : va_W} (hd : decode cc pc = .ok (.putfield idx, 3)) (hf : ab_FP own idx ci j ty) (q : Nat) (hq : ws[q]? = some (a, .inr (ci, fs))) (hn : narrow ty v = v) (hfit : fits ty v = true) (hl : j < fs.length) (hw : ws.set q (a, .inr (ci, fs.set j v)) = ws') (kk : ac_G p l e R s m args below meth c D A Q nL (pc + 3) lv st cells slots ws') : ac_G p l e R s m args below meth c D A Q nL pc lv (v :: .ref a :: st) cells slots ws := by
  subst hw
  intro H locs ls hP hD hS hL
  obtain ⟨hx, hb, hr, hml, hts, hown, hlk, hK, hNw, hA, hin⟩ := C
  obtain ⟨Cn, T, N, ty0, hc, hin2, hty, hnm, hjN, hl2, hfin, hpd⟩ := hf
  exact va_put hx hb hts hin2 ty0 hty hnm hown hK hP hD hS q hq hc j hjN (hts _ hl2) (fun _ h => h) hfin hpd hn hfit hl hd (fun H1 locs1 hP1 hD1 hS1 => kk H1 locs1 ls hP1 hD1 hS1 hL)
theorem ac_iast (C : ac_C p s m args meth c D cA A cc nL own) {n a : Nat} {f : Nat → Int32} {i x : Int32} {ws' : va_W} (hd : decode cc pc = .ok (.iastore, 1)) (q : Nat) (hq : ws[q]? = some (a, .inl (cA 0, n, .inl f))) (hi : ab_inb i n = true) (hw : ws.set q (a, .inl (cA 0, n, .inl (upd f i.toNatClampNeg x))) = ws') (kk : ac_G p l e R s m args below meth c D A Q nL (pc + 1) lv st cells slots ws') : ac_G p l e R s m args below meth c D A Q nL pc lv (.int x :: .int i :: .ref a :: st) cells slots ws := by
  subst hw
  intro H locs ls hP hD hS hL
  obtain ⟨hx, hb, hr, hml, hts, hown, hlk, hK, hNw, hA, hin⟩ := C
  exact va_iast hx hb hK hP hD hS q 0 hq rfl (ab_inb_in hi) hd (fun H1 locs1 hP1 hD1 hS1 => kk H1 locs1 ls hP1 hD1 hS1 hL)
theorem ac_aast (C : ac_C p s m args meth c D cA A cc nL own) {n a v ci : Nat} {vs : List Value} {T : u_T} {N : Nat} {f : Nat → Option Nat} {i : Int32} {ws' : va_W} (hd : decode cc pc = .ok (.aastore, 1)) (q qk : Nat) (hq : ws[q]? = some (a, .inl (cA 3, n, .inr (.inr (.inr (.inr f)))))) (hv : ws[qk]? = some (v, .inr (ci, vs))) (hc : vwCl[ci]? = some ("ChangeDoors$Law", T, N)) (hi : ab_inb i n = true) (hw : ws.set q (a, .inl (cA 3, n, .inr (.inr (.inr (.inr (va_up f i.toNatClampNeg (some v))))))) = ws') (kk : ac_G p l e R s m args below meth c D A Q nL (pc + 1) lv st cells slots ws') : ac_G p l e R s m args below meth c D A Q nL pc lv (.ref v :: .int i :: .ref a :: st) cells slots ws := by
  subst hw
  intro H locs ls hP hD hS hL
  obtain ⟨hx, hb, hr, hml, hts, hown, hlk, hK, hNw, hA, hin⟩ := C
  exact va_astq hx hb hK hP hD hS q 3 qk ci hq rfl hv hc (ab_inb_in hi) hd (fun H1 locs1 hP1 hD1 hS1 => kk H1 locs1 ls hP1 hD1 hS1 hL)
theorem ac_newI (C : ac_C p s m args meth c D cA A cc nL own) {n : Int32} {N : Nat} (hd : decode cc pc = .ok (.newarray .int, 2)) (hw : Cond.arrayClass .int ∈ ab_T) (hn : ¬ n < 0) (hN : n.toNatClampNeg = N) (hb8 : N * 4 ≤ 536870912) (hc : cells + 1 ≤ R.cells) (hs : slots + N ≤ R.slots) (kk : ∀ q, ac_G p l e R s m args below meth c D A Q nL (pc + 2) lv (.ref q :: st) (cells + 1) (slots + N) (ws ++ [(q, .inl (cA 0, N, .inl (fun _ => 0)))])) : ac_G p l e R s m args below meth c D A Q nL pc lv (.int n :: st) cells slots ws := by
  intro H locs ls hP hD hS hL
  obtain ⟨hx, hb, hr, hml, hts, hown, hlk, hK, hNw, hA, hin⟩ := C
  refine va_newa (atype := .int) (ty := .int) (a0 := (N, .inl (fun _ => 0))) hx hb (hts _ hw) rfl hK hP hD hS hA (fun cA => rfl) hn hN hb8 hc hs hd (fun q c' H1 hK1 hP1 hD1 hS1 => ?_)
  have ec := ac_cA (fun _ h => by cases h) hK 0 rfl hK1
  subst ec
  exact kk q H1 locs ls hP1 hD1 hS1 hL
theorem ac_newB (C : ac_C p s m args meth c D cA A cc nL own) {n : Int32} {N : Nat} (hd : decode cc pc = .ok (.newarray .byte, 2)) (hw : Cond.arrayClass .byte ∈ ab_T) (hn : ¬ n < 0) (hN : n.toNatClampNeg = N) (hb8 : N * 1 ≤ 536870912) (hc : cells + 1 ≤ R.cells) (hs : slots + N ≤ R.slots) (kk : ∀ q, ac_G p l e R s m args below meth c D A Q nL (pc + 2) lv (.ref q :: st) (cells + 1) (slots + N) (ws ++ [(q, .inl (cA 1, N, .inl (fun _ => 0)))])) : ac_G p l e R s m args below meth c D A Q nL pc lv (.int n :: st) cells slots ws := by
  intro H locs ls hP hD hS hL
  obtain ⟨hx, hb, hr, hml, hts, hown, hlk, hK, hNw, hA, hin⟩ := C
  refine va_newa (atype := .byte) (ty := .byte) (a0 := (N, .inl (fun _ => 0))) hx hb (hts _ hw) rfl hK hP hD hS hA (fun cA => rfl) hn hN hb8 hc hs hd (fun q c' H1 hK1 hP1 hD1 hS1 => ?_)
  have ec := ac_cA (fun _ h => by cases h) hK 1 rfl hK1
  subst ec
  exact kk q H1 locs ls hP1 hD1 hS1 hL
theorem ac_newJ (C : ac_C p s m args meth c D cA A cc nL own) {n : Int32} {N : Nat} (hd : decode cc pc = .ok (.newarray .long, 2)) (hw : Cond.arrayClass .long ∈ ab_T) (hn : ¬ n < 0) (hN : n.toNatClampNeg = N) (hb8 : N * 8 ≤ 536870912) (hc : cells + 1 ≤ R.cells) (hs : slots + N ≤ R.slots) (kk : ∀ q, ac_G p l e R s m args below meth c D A Q nL (pc + 2) lv (.ref q :: st) (cells + 1) (slots + N) (ws ++ [(q, .inl (cA 2, N, .inr (.inl (fun _ => 0))))])) : ac_G p l e R s m args below meth c D A Q nL pc lv (.int n :: st) cells slots ws := by
  intro H locs ls hP hD hS hL
  obtain ⟨hx, hb, hr, hml, hts, hown, hlk, hK, hNw, hA, hin⟩ := C
  refine va_newa (atype := .long) (ty := .long) (a0 := (N, .inr (.inl (fun _ => 0)))) hx hb (hts _ hw) rfl hK hP hD hS hA (fun cA => rfl) hn hN hb8 hc hs hd (fun q c' H1 hK1 hP1 hD1 hS1 => ?_)
  have ec := ac_cA (fun _ h => by cases h) hK 2 rfl hK1
  subst ec
  exact kk q H1 locs ls hP1 hD1 hS1 hL
theorem ac_newQ (C : ac_C p s m args meth c D cA A cc nL own) {n : Int32} {N idx : Nat} (hd : decode cc pc = .ok (.anewarray idx, 3)) (hl : Cond.classLink own idx "ChangeDoors$Law" ∈ ab_T) (hn : ¬ n < 0) (hN : n.toNatClampNeg = N) (hb8 : N * 4 ≤ 536870912) (hc : cells + 1 ≤ R.cells) (hs : slots + N ≤ R.slots) (kk : ∀ q, ac_G p l e R s m args below meth c D A Q nL (pc + 3) lv (.ref q :: st) (cells + 1) (slots + N) (ws ++ [(q, .inl (cA 3, N, .inr (.inr (.inr (.inr (fun _ => none))))))])) : ac_G p l e R s m args below meth c D A Q nL pc lv (.int n :: st) cells slots ws := by
  intro H locs ls hP hD hS hL
  obtain ⟨hx, hb, hr, hml, hts, hown, hlk, hK, hNw, hA, hin⟩ := C
  refine va_newq hx hb hown (hts _ hl) hNw.2.1 hK hP hD hS hA hn hN hb8 hc hs hd (fun q c' H1 hK1 hP1 hD1 hS1 => ?_)
  have ec := ac_cA3 hK hK1
  subst ec
  exact kk q H1 locs ls hP1 hD1 hS1 hL
theorem ac_new (C : ac_C p s m args meth c D cA A cc nL own) {idx ci N : Nat} {fs : List Value} (hd : decode cc pc = .ok (.new idx, 3)) (hf : ac_NW own idx ci N fs) (hc : cells + 1 ≤ R.cells) (hs : slots + N ≤ R.slots) (kk : ∀ q, ac_G p l e R s m args below meth c D A Q nL (pc + 3) lv (.ref q :: st) (cells + 1) (slots + N) (ws ++ [(q, .inr (ci, fs))])) : ac_G p l e R s m args below meth c D A Q nL pc lv st cells slots ws := by
  intro H locs ls hP hD hS hL
  obtain ⟨hx, hb, hr, hml, hts, hown, hlk, hK, hNw, hA, hin⟩ := C
  obtain ⟨Cn, T, ty0, hcl, hin2, hty, h1, h2, h3, h4⟩ := hf
  exact va_new hx hb hts hin2 ty0 hty hown (hts _ h1) (hts _ h2) (hts _ h3) hK hP hD hS hA hcl h4 hc hs hd (fun q H1 hP1 hD1 hS1 => kk q H1 locs ls hP1 hD1 hS1 hL)
/-- behind a call of a constructor: its cells, and the rest -/
theorem ac_go {mc ms : Nat} {wc wr : va_W} {P : va_W → Prop} {H : Heap} {locs : List Loc} {ls : Array Slot} {st0 : List Value} (C : ac_C p s m args meth c D cA A cc nL own) (hP : va_P D vwCl ws H) (hD : va_D A ws) (hS : va_S A s.heap H locs) (hL : lv_has ls nL lv) (isC isR : List Nat) (hC : isC.map (fun i => ws[i]?) = wc.map some) (hR : isR.map (fun i => ws[i]?) = wr.map some) (hn : va_nd isR = true) (hdis : ∀ i ∈ isR, i ∉ isC)
    (run : va_Run p l e R s m args below meth c H locs cells slots mc ms (F0 m pc ls st0) st (fun st o t => o = .returned none ∧ (∃ ws', P ws' ∧ va_P D vwCl ws' t.heap ∧ va_D (va_A wc H.size) ws') ∧ va_F (va_A wc H.size) st t) (va_A wc H.size))
    (kk : ∀ w1, P w1 → ac_G p l e R s m args below meth c D A Q nL (pc + 3) lv st (cells + mc) (slots + ms) (wr ++ w1)) : W p l e R s m args below meth c H locs cells slots Q (F0 m pc ls st0) := by
  have hA := C.2.2.2.2.2.2.2.2.2.1
  have hFc := va_free (wc := wc) hD hS hA isC hC
  intro T hT X
  obtain ⟨v, st₀, t, T', L, h0, X', hL', e1, e2, ⟨hv, ⟨w1, hw1, hPt, hDt⟩, hz, hk⟩, step⟩ := run T hT X
  cases hv
  rw [h0] at hz hk
  obtain ⟨hP1, hD1⟩ := va_join (wr := wr) (w1 := w1) (H1 := T'.heap) hP hD isC isR hC hR hn hdis (fun q h1 h2 => by rw [e1]; exact hk q h1 h2) hFc (by rw [e1]; exact hPt) hDt
  obtain ⟨t2, a1, b1⟩ := kk w1 hw1 T'.heap (locs ++ L) ls hP1 hD1
    ⟨Nat.le_trans hS.1 (by rw [e1]; exact hz), fun q h1 h2 => by rw [e1, hk q (Nat.lt_of_lt_of_le h1 hS.1) (fun z => h2 (hFc q z))]; exact hS.2.1 q h1 h2, fun q hq => by
      rcases List.mem_append.mp hq with h | h
      · exact hS.2.2 q h
      · exact hFc _ (hL' q h)⟩ hL T' rfl X'
  exact ⟨t2, step t2 a1, b1⟩
theorem ac_init (C : ac_C p s m args meth c D cA A cc nL own) {y : MethodName} {cc' : ByteArray} {nL' d' mc ms idx a : Nat} {as : List Value} {wc wr : va_W} {P : va_W → Prop} {st0 : List Value} (hd : decode cc pc = .ok (.invokespecial idx, 3)) (hl : Cond.methodLink own idx y ∈ ab_T) (hy1 : y.name = "<init>") (hi : Cond.instanceMethod y ∈ ab_T) (hin : Cond.initialized y.cls ∈ ab_T) (hco : Cond.code y cc' nL' none ∈ ab_T) (hyo : ab_YO y as.length)
    (hM : ac_M l y cc' nL' d' mc ms cA (.ref a :: as) wc P) (hfr : d' + 1 ≤ R.frames) (hlo : 8 + (nL' + 11) + 64 * d' ≤ R.locals) (hcc : cells + mc ≤ R.cells) (hss : slots + ms ≤ R.slots) (hst : st0 = as.reverse ++ .ref a :: st) (hw : (st.map fun v => v.category).sum ≤ 8)
    (isC isR : List Nat) (hCf : isC.filterMap (fun i => ws[i]?) = wc) (hCn : va_nd isC = true) (hC : isC.map (fun i => ws[i]?) = wc.map some) (hR : isR.map (fun i => ws[i]?) = wr.map some) (hn : va_nd isR = true) (hdis : ∀ i ∈ isR, i ∉ isC)
    (kk : ∀ w1, P w1 → ac_G p l e R s m args below meth c D A Q nL (pc + 3) lv st (cells + mc) (slots + ms) (wr ++ w1)) : ac_G p l e R s m args below meth c D A Q nL pc lv st0 cells slots ws := by
  subst hst
  intro H locs ls hP hD hS hL
  have C' := C
  obtain ⟨hx, hb, hr, hml, hts, hown, hlk, hK, hNw, hA, hin9⟩ := C
  refine ac_go C' hP hD hS hL isC isR hC hR hn hdis (P := P) ?_ kk
  exact va_runI (As := as) (rest := st) (b := a) ⟨hx, hb, hml, hown, hts⟩ (hM D H.size) (cwI as.length hts (fun w h => by
      rcases List.mem_cons.mp h with rfl | h
      · exact ab_T_good2 hco
      · exact ab_T_good2 h) rfl rfl rfl (hts _ hin) (hts _ hl) (hts _ hi) hy1 hyo ⟨hfr, hlo⟩)
    ⟨ac_blind D cA wc _ _, fun U hU hW => ⟨rfl, by rw [hU], by rw [hU]; exact hP.sub isC hCf, (hD.sub isC hCn hC).weaken (fun _ _ _ _ => trivial), va_K.moved hW.alike hK, hNw.warm hW⟩⟩ rfl rfl hL.1 rfl (by show 2 * 0 + _ ≤ 8; omega) hd ⟨hcc, hss⟩
theorem ac_initN (C : ac_C p s m args meth c D cA A cc nL own) {y : MethodName} {cc' : ByteArray} {nL' d' mc ms idx a : Nat} {host : String} {as : List Value} {wc wr : va_W} {P : va_W → Prop} {st0 : List Value} (hd : decode cc pc = .ok (.invokespecial idx, 3)) (hl : (own, idx, y, host) ∈ ab_nl) (hy1 : y.name = "<init>") (hi : Cond.instanceMethod y ∈ ab_T) (hin : Cond.initialized y.cls ∈ ab_T) (hco : Cond.code y cc' nL' none ∈ ab_T) (hyo : ab_YO y as.length)
    (hM : ac_M l y cc' nL' d' mc ms cA (.ref a :: as) wc P) (hfr : d' + 1 ≤ R.frames) (hlo : 8 + (nL' + 11) + 64 * d' ≤ R.locals) (hcc : cells + mc ≤ R.cells) (hss : slots + ms ≤ R.slots) (hst : st0 = as.reverse ++ .ref a :: st) (hw : (st.map fun v => v.category).sum ≤ 8)
    (isC isR : List Nat) (hCf : isC.filterMap (fun i => ws[i]?) = wc) (hCn : va_nd isC = true) (hC : isC.map (fun i => ws[i]?) = wc.map some) (hR : isR.map (fun i => ws[i]?) = wr.map some) (hn : va_nd isR = true) (hdis : ∀ i ∈ isR, i ∉ isC)
    (kk : ∀ w1, P w1 → ac_G p l e R s m args below meth c D A Q nL (pc + 3) lv st (cells + mc) (slots + ms) (wr ++ w1)) : ac_G p l e R s m args below meth c D A Q nL pc lv st0 cells slots ws := by
  subst hst
  intro H locs ls hP hD hS hL
  have C' := C
  obtain ⟨hx, hb, hr, hml, hts, hown, hlk, hK, hNw, hA, hin9⟩ := C
  refine ac_go C' hP hD hS hL isC isR hC hR hn hdis (P := P) ?_ kk
  exact va_runIN (As := as) (rest := st) (b := a) ⟨hx, hb, hml, hown, hts⟩ (hM D H.size) ⟨va_cnB (host := host) as.length hts (fun w h => by
      rcases List.mem_cons.mp h with rfl | h
      · exact ab_T_good2 hco
      · exact ab_T_good2 h) rfl rfl rfl (hNw.1 _ hl) (hts _ hin) hyo ⟨hfr, hlo⟩, hy1, hts _ hi⟩
    ⟨ac_blind D cA wc _ _, fun U hU hW => ⟨rfl, by rw [hU], by rw [hU]; exact hP.sub isC hCf, (hD.sub isC hCn hC).weaken (fun _ _ _ _ => trivial), va_K.moved hW.alike hK, hNw.warm hW⟩⟩ rfl rfl hL.1 rfl (by show 2 * 0 + _ ≤ 8; omega) hd ⟨hcc, hss⟩
end AC
