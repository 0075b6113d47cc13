/-! THE START: what the tables say of classes and arrays, the static arrays, the two objects, then the loop -/
theorem ws_arr {s : State} {args : Array Value} {ty : FieldType} (hp : ∀ C, ty ≠ .object C) (h : (Cond.arrayClass ty).before args s = true) : ∃ c : ClassId, ArrOfT s c ty ∧ va_RA s c ty := by
  obtain ⟨c, k, comp, h1, h2, h3⟩ := Cond.arrayClass_spec h
  refine ⟨c, fun n z => ⟨fun q hq => (by cases hq), k, h2, comp, h3⟩, ?_⟩
  cases ty with
  | object C => exact absurd rfl (hp C)
  | _ => exact h1
theorem ws_ovL {s : State} {args : Array Value} {C : String} (h : (Cond.arrayOver (.object C)).before args s = true) : ∃ c : ClassId, ArrOfT s c (.object C) ∧ va_RA s c (.object C) := by
  obtain ⟨comp, c, k, h1, -, h2, h3, h4⟩ := Cond.arrayOver_spec h
  exact ⟨c, fun n z => ⟨fun q hq => (by cases hq), k, h2, comp, h3⟩, k, comp, h2, h3, h1, h4⟩
theorem ws_ovJ {s : State} {args : Array Value} {t : FieldType} (h : (Cond.arrayOver (.array t)).before args s = true) : ∃ c : ClassId, ArrOfT s c (.array t) ∧ va_RA s c (.array t) := by
  obtain ⟨comp, c, k, h1, h2, h3, h4⟩ := Cond.arrayOver_specA h
  exact ⟨c, fun n z => ⟨fun q hq => (by cases hq), k, h2, comp, h3⟩, h4⟩
theorem in_X0 : Cond.instantiable RX0 6 ∈ ab_T := ab_Tm 251 (by decide +kernel) (by decide +kernel)
theorem in_X1 : Cond.instantiable RX1 8 ∈ ab_T := ab_Tm 156 (by decide +kernel) (by decide +kernel)
theorem in_X2 : Cond.instantiable RX2 6 ∈ ab_T := ab_Tm 102 (by decide +kernel) (by decide +kernel)
theorem in_X3 : Cond.instantiable RX3 3 ∈ ab_T := ab_Tm 235 (by decide +kernel) (by decide +kernel)
theorem in_X4 : Cond.instantiable RX4 6 ∈ ab_T := ab_Tm 72 (by decide +kernel) (by decide +kernel)
theorem in_X5 : Cond.instantiable RX5 7 ∈ ab_T := ab_Tm 165 (by decide +kernel) (by decide +kernel)
theorem in_X6 : Cond.instantiable RX6 3 ∈ ab_T := ab_Tm 278 (by decide +kernel) (by decide +kernel)
theorem in_X7 : Cond.instantiable RX7 7 ∈ ab_T := ab_Tm 25 (by decide +kernel) (by decide +kernel)
theorem in_X8 : Cond.instantiable RX8 6 ∈ ab_T := ab_Tm 128 (by decide +kernel) (by decide +kernel)
theorem in_X9 : Cond.instantiable RX9 10 ∈ ab_T := ab_Tm 17 (by decide +kernel) (by decide +kernel)
theorem in_X10 : Cond.instantiable RX10 45 ∈ ab_T := ab_Tm 1019 (by decide +kernel) (by decide +kernel)
theorem ws_known {s : State} {args : Array Value} (hts : ∀ w ∈ ab_T, w.before args s = true) (hov : ac_Nw s) : ∃ (D : va_G) (cA : Nat → ClassId), va_K D vwCl (ab_ty cA) s := by
  obtain ⟨c0, i0, k0⟩ := u_known (C := RX0) (T := TX0) (N := 6) (n := 6) hts inX0 (hts _ in_X0)
  obtain ⟨c1, i1, k1⟩ := u_known (C := RX1) (T := TX1) (N := 8) (n := 8) hts inX1 (hts _ in_X1)
  obtain ⟨c2, i2, k2⟩ := u_known (C := RX2) (T := TX2) (N := 6) (n := 6) hts inX2 (hts _ in_X2)
  obtain ⟨c3, i3, k3⟩ := u_known (C := RX3) (T := TX3) (N := 3) (n := 3) hts inX3 (hts _ in_X3)
  obtain ⟨c4, i4, k4⟩ := u_known (C := RX4) (T := TX4) (N := 6) (n := 6) hts inX4 (hts _ in_X4)
  obtain ⟨c5, i5, k5⟩ := u_known (C := RX5) (T := TX5) (N := 7) (n := 7) hts inX5 (hts _ in_X5)
  obtain ⟨c6, i6, k6⟩ := u_known (C := RX6) (T := TX6) (N := 3) (n := 3) hts inX6 (hts _ in_X6)
  obtain ⟨c7, i7, k7⟩ := u_known (C := RX7) (T := TX7) (N := 7) (n := 7) hts inX7 (hts _ in_X7)
  obtain ⟨c8, i8, k8⟩ := u_known (C := RX8) (T := TX8) (N := 6) (n := 6) hts inX8 (hts _ in_X8)
  obtain ⟨c9, i9, k9⟩ := u_known (C := RX9) (T := TX9) (N := 10) (n := 10) hts inX9 (hts _ in_X9)
  obtain ⟨c10, i10, k10⟩ := u_known (C := RX10) (T := TX10) (N := 45) (n := 45) hts inX10 (hts _ in_X10)
  obtain ⟨a0, b0⟩ := ws_arr (ty := .int) (fun _ h => by cases h) (hts _ aw_int)
  obtain ⟨a1, b1⟩ := ws_arr (ty := .byte) (fun _ h => by cases h) (hts _ aw_byte)
  obtain ⟨a2, b2⟩ := ws_arr (ty := .long) (fun _ h => by cases h) (hts _ aw_long)
  obtain ⟨a3, b3⟩ := ws_ovL hov.2.1
  obtain ⟨a4, b4⟩ := ws_ovJ hov.2.2
  refine ⟨(fun k => ([c0, c1, c2, c3, c4, c5, c6, c7, c8, c9, c10] : List ClassId).getD k c0, fun k => ([i0, i1, i2, i3, i4, i5, i6, i7, i8, i9, i10] : List (Nat → Nat)).getD k i0), fun k => ([a0, a1, a2, a3, a4] : List ClassId).getD k a0, ?_, ?_⟩
  · intro k q hq
    match k, hq with
    | 0, hq => cases hq; exact k0
    | 1, hq => cases hq; exact k1
    | 2, hq => cases hq; exact k2
    | 3, hq => cases hq; exact k3
    | 4, hq => cases hq; exact k4
    | 5, hq => cases hq; exact k5
    | 6, hq => cases hq; exact k6
    | 7, hq => cases hq; exact k7
    | 8, hq => cases hq; exact k8
    | 9, hq => cases hq; exact k9
    | 10, hq => cases hq; exact k10
    | k + 11, hq => exact absurd hq (by simp [vwCl])
  · intro k q hq
    match k, hq with
    | 0, hq => cases hq; exact b0
    | 1, hq => cases hq; exact b1
    | 2, hq => cases hq; exact b2
    | 3, hq => cases hq; exact b3
    | 4, hq => cases hq; exact b4
    | k + 5, hq => exact absurd hq (by simp [ab_ty])
theorem ws_nest {s : State} {args : Array Value} (hts : ∀ w ∈ lw_tbl, w.before args s = true) : ab_Nw s := by
  intro q hq
  simp only [ab_nl, List.mem_cons, List.not_mem_nil, or_false] at hq
  rcases hq with rfl | rfl | rfl | rfl | rfl | rfl | rfl | rfl | rfl
  · exact va_Nw.of rfl (hts _ (List.mem_append_right _ (List.mem_of_getElem? (i := 73) (by decide +kernel))))
  · exact va_Nw.of rfl (hts _ (List.mem_append_right _ (List.mem_of_getElem? (i := 103) (by decide +kernel))))
  · exact va_Nw.of rfl (hts _ (List.mem_append_right _ (List.mem_of_getElem? (i := 129) (by decide +kernel))))
  · exact va_Nw.of rfl (hts _ (List.mem_append_right _ (List.mem_of_getElem? (i := 166) (by decide +kernel))))
  · exact va_Nw.of rfl (hts _ (List.mem_append_right _ (List.mem_of_getElem? (i := 252) (by decide +kernel))))
  · exact va_Nw.of rfl (hts _ (List.mem_append_right _ (List.mem_of_getElem? (i := 433) (by decide +kernel))))
  · exact va_Nw.of rfl (hts _ (List.mem_append_right _ (List.mem_of_getElem? (i := 628) (by decide +kernel))))
  · exact va_Nw.of rfl (hts _ (List.mem_append_right _ (List.mem_of_getElem? (i := 705) (by decide +kernel))))
  · exact va_Nw.of rfl (hts _ (List.mem_append_right _ (List.mem_of_getElem? (i := 809) (by decide +kernel))))
theorem ls_OWN : Cond.laysStatic "ChangeDoors$Bodies" "OWN" "[I" ∈ lw_tbl := List.mem_append_right _ (List.mem_of_getElem? (i := 920) (by decide +kernel))
theorem ls_ABOVE : Cond.laysStatic "ChangeDoors$Bodies" "ABOVE" "[I" ∈ lw_tbl := List.mem_append_right _ (List.mem_of_getElem? (i := 926) (by decide +kernel))
theorem ib_X0 : Cond.initialized "ChangeDoors$Bodies" ∈ lw_tbl := List.mem_append_right _ (List.mem_of_getElem? (i := 10) (by decide +kernel))
theorem ws_OWN {s : State} {args : Array Value} {A : Nat → Prop} (hts : ∀ w ∈ lw_tbl, w.before args s = true) (h : (Jvm.Cond.and given_1 narrow_1).before args s = true) (hA : ∀ a : Nat, a < s.heap.size → ¬ A a) : ∃ t : Nat, va_Z "ChangeDoors$Bodies" "OWN" "[I" (.ref t) A s s.heap ∧ va_T .int t 32 (fun j => .int (svC_50 j)) A s s.heap := by
  have hs := flat_of_before _ h
  refine Exists.elim (va_Tof (args := args) (tm := (Term.static "ChangeDoors$Bodies" "OWN" "[I")) (ty := .int) (N := 32) (f := fun j => .int (svC_50 j)) (A := A) (by decide) (hs _ (by decide +kernel)) (va_eqt (hs (Cond.eq (.length (Term.static "ChangeDoors$Bodies" "OWN" "[I")) (.int 32)) (by decide +kernel))) (fun j hj => ?_) hA) ?_
  · match j, hj with
    | 0, _ => exact va_eqt (hs (Cond.eq (.elem (Term.static "ChangeDoors$Bodies" "OWN" "[I") (.int 0)) (.int (1))) (by decide +kernel))
    | 1, _ => exact va_eqt (hs (Cond.eq (.elem (Term.static "ChangeDoors$Bodies" "OWN" "[I") (.int 1)) (.int (10))) (by decide +kernel))
    | 2, _ => exact va_eqt (hs (Cond.eq (.elem (Term.static "ChangeDoors$Bodies" "OWN" "[I") (.int 2)) (.int (11))) (by decide +kernel))
    | 3, _ => exact va_eqt (hs (Cond.eq (.elem (Term.static "ChangeDoors$Bodies" "OWN" "[I") (.int 3)) (.int (2))) (by decide +kernel))
    | 4, _ => exact va_eqt (hs (Cond.eq (.elem (Term.static "ChangeDoors$Bodies" "OWN" "[I") (.int 4)) (.int (20))) (by decide +kernel))
    | 5, _ => exact va_eqt (hs (Cond.eq (.elem (Term.static "ChangeDoors$Bodies" "OWN" "[I") (.int 5)) (.int (0))) (by decide +kernel))
    | 6, _ => exact va_eqt (hs (Cond.eq (.elem (Term.static "ChangeDoors$Bodies" "OWN" "[I") (.int 6)) (.int (0))) (by decide +kernel))
    | 7, _ => exact va_eqt (hs (Cond.eq (.elem (Term.static "ChangeDoors$Bodies" "OWN" "[I") (.int 7)) (.int (0))) (by decide +kernel))
    | 8, _ => exact va_eqt (hs (Cond.eq (.elem (Term.static "ChangeDoors$Bodies" "OWN" "[I") (.int 8)) (.int (0))) (by decide +kernel))
    | 9, _ => exact va_eqt (hs (Cond.eq (.elem (Term.static "ChangeDoors$Bodies" "OWN" "[I") (.int 9)) (.int (30))) (by decide +kernel))
    | 10, _ => exact va_eqt (hs (Cond.eq (.elem (Term.static "ChangeDoors$Bodies" "OWN" "[I") (.int 10)) (.int (0))) (by decide +kernel))
    | 11, _ => exact va_eqt (hs (Cond.eq (.elem (Term.static "ChangeDoors$Bodies" "OWN" "[I") (.int 11)) (.int (0))) (by decide +kernel))
    | 12, _ => exact va_eqt (hs (Cond.eq (.elem (Term.static "ChangeDoors$Bodies" "OWN" "[I") (.int 12)) (.int (0))) (by decide +kernel))
    | 13, _ => exact va_eqt (hs (Cond.eq (.elem (Term.static "ChangeDoors$Bodies" "OWN" "[I") (.int 13)) (.int (41))) (by decide +kernel))
    | 14, _ => exact va_eqt (hs (Cond.eq (.elem (Term.static "ChangeDoors$Bodies" "OWN" "[I") (.int 14)) (.int (40))) (by decide +kernel))
    | 15, _ => exact va_eqt (hs (Cond.eq (.elem (Term.static "ChangeDoors$Bodies" "OWN" "[I") (.int 15)) (.int (0))) (by decide +kernel))
    | 16, _ => exact va_eqt (hs (Cond.eq (.elem (Term.static "ChangeDoors$Bodies" "OWN" "[I") (.int 16)) (.int (0))) (by decide +kernel))
    | 17, _ => exact va_eqt (hs (Cond.eq (.elem (Term.static "ChangeDoors$Bodies" "OWN" "[I") (.int 17)) (.int (0))) (by decide +kernel))
    | 18, _ => exact va_eqt (hs (Cond.eq (.elem (Term.static "ChangeDoors$Bodies" "OWN" "[I") (.int 18)) (.int (50))) (by decide +kernel))
    | 19, _ => exact va_eqt (hs (Cond.eq (.elem (Term.static "ChangeDoors$Bodies" "OWN" "[I") (.int 19)) (.int (0))) (by decide +kernel))
    | 20, _ => exact va_eqt (hs (Cond.eq (.elem (Term.static "ChangeDoors$Bodies" "OWN" "[I") (.int 20)) (.int (0))) (by decide +kernel))
    | 21, _ => exact va_eqt (hs (Cond.eq (.elem (Term.static "ChangeDoors$Bodies" "OWN" "[I") (.int 21)) (.int (0))) (by decide +kernel))
    | 22, _ => exact va_eqt (hs (Cond.eq (.elem (Term.static "ChangeDoors$Bodies" "OWN" "[I") (.int 22)) (.int (0))) (by decide +kernel))
    | 23, _ => exact va_eqt (hs (Cond.eq (.elem (Term.static "ChangeDoors$Bodies" "OWN" "[I") (.int 23)) (.int (60))) (by decide +kernel))
    | 24, _ => exact va_eqt (hs (Cond.eq (.elem (Term.static "ChangeDoors$Bodies" "OWN" "[I") (.int 24)) (.int (70))) (by decide +kernel))
    | 25, _ => exact va_eqt (hs (Cond.eq (.elem (Term.static "ChangeDoors$Bodies" "OWN" "[I") (.int 25)) (.int (0))) (by decide +kernel))
    | 26, _ => exact va_eqt (hs (Cond.eq (.elem (Term.static "ChangeDoors$Bodies" "OWN" "[I") (.int 26)) (.int (0))) (by decide +kernel))
    | 27, _ => exact va_eqt (hs (Cond.eq (.elem (Term.static "ChangeDoors$Bodies" "OWN" "[I") (.int 27)) (.int (0))) (by decide +kernel))
    | 28, _ => exact va_eqt (hs (Cond.eq (.elem (Term.static "ChangeDoors$Bodies" "OWN" "[I") (.int 28)) (.int (0))) (by decide +kernel))
    | 29, _ => exact va_eqt (hs (Cond.eq (.elem (Term.static "ChangeDoors$Bodies" "OWN" "[I") (.int 29)) (.int (80))) (by decide +kernel))
    | 30, _ => exact va_eqt (hs (Cond.eq (.elem (Term.static "ChangeDoors$Bodies" "OWN" "[I") (.int 30)) (.int (0))) (by decide +kernel))
    | 31, _ => exact va_eqt (hs (Cond.eq (.elem (Term.static "ChangeDoors$Bodies" "OWN" "[I") (.int 31)) (.int (81))) (by decide +kernel))
    | j + 32, hj => exact absurd hj (by omega)
  · intro t ⟨h1, h2⟩
    exact ⟨t, va_Zref (hts _ ls_OWN) (hts _ ib_X0) h1 hA, h2⟩
theorem ws_ABOVE {s : State} {args : Array Value} {A : Nat → Prop} (hts : ∀ w ∈ lw_tbl, w.before args s = true) (h : (Jvm.Cond.and given_1 narrow_1).before args s = true) (hA : ∀ a : Nat, a < s.heap.size → ¬ A a) : ∃ t : Nat, va_Z "ChangeDoors$Bodies" "ABOVE" "[I" (.ref t) A s s.heap ∧ va_T .int t 8 (fun j => .int (svC_51 j)) A s s.heap := by
  have hs := flat_of_before _ h
  refine Exists.elim (va_Tof (args := args) (tm := (Term.static "ChangeDoors$Bodies" "ABOVE" "[I")) (ty := .int) (N := 8) (f := fun j => .int (svC_51 j)) (A := A) (by decide) (hs _ (by decide +kernel)) (va_eqt (hs (Cond.eq (.length (Term.static "ChangeDoors$Bodies" "ABOVE" "[I")) (.int 8)) (by decide +kernel))) (fun j hj => ?_) hA) ?_
  · match j, hj with
    | 0, _ => exact va_eqt (hs (Cond.eq (.elem (Term.static "ChangeDoors$Bodies" "ABOVE" "[I") (.int 0)) (.int (-1))) (by decide +kernel))
    | 1, _ => exact va_eqt (hs (Cond.eq (.elem (Term.static "ChangeDoors$Bodies" "ABOVE" "[I") (.int 1)) (.int (0))) (by decide +kernel))
    | 2, _ => exact va_eqt (hs (Cond.eq (.elem (Term.static "ChangeDoors$Bodies" "ABOVE" "[I") (.int 2)) (.int (0))) (by decide +kernel))
    | 3, _ => exact va_eqt (hs (Cond.eq (.elem (Term.static "ChangeDoors$Bodies" "ABOVE" "[I") (.int 3)) (.int (2))) (by decide +kernel))
    | 4, _ => exact va_eqt (hs (Cond.eq (.elem (Term.static "ChangeDoors$Bodies" "ABOVE" "[I") (.int 4)) (.int (1))) (by decide +kernel))
    | 5, _ => exact va_eqt (hs (Cond.eq (.elem (Term.static "ChangeDoors$Bodies" "ABOVE" "[I") (.int 5)) (.int (3))) (by decide +kernel))
    | 6, _ => exact va_eqt (hs (Cond.eq (.elem (Term.static "ChangeDoors$Bodies" "ABOVE" "[I") (.int 6)) (.int (0))) (by decide +kernel))
    | 7, _ => exact va_eqt (hs (Cond.eq (.elem (Term.static "ChangeDoors$Bodies" "ABOVE" "[I") (.int 7)) (.int (4))) (by decide +kernel))
    | j + 8, hj => exact absurd hj (by omega)
  · intro t ⟨h1, h2⟩
    exact ⟨t, va_Zref (hts _ ls_ABOVE) (hts _ ib_X0) h1 hA, h2⟩
section LW
variable {p : Program} {l : Launch} {e : Env} {s : State} {m : MethodId} {below : List Frame} {meth : Method} {c : Code} {b : Nat} {D : va_G} {cA : Nat → ClassId}
theorem lw_ctor {ws0 : va_W} {H : Heap} {locs : List Loc} {ls : Array Slot} {pc idx idx2 ci N nL' d' mc ms cells slots : Nat} {fs : List Value} {y : MethodName} {cc' : ByteArray} {P : Nat → va_W → Prop} {Q : State → Prop}
    (hx : p.tables.exec = Jvm.exec) (hb : c.code = code) (hml : c.maxLocals = 4) (hown : s.vm.findClass R_law = some m.cls) (hts : ∀ w ∈ ab_T, w.before #[Value.ref b] s = true) (hK : va_K D vwCl (ab_ty cA) s) (hNw : ac_Nw s)
    (hP0 : va_P D vwCl ws0 H) (hD0 : va_D (lw_A s) ws0) (hS : va_S (lw_A s) s.heap H locs) (hls : ls.size = 4)
    (d1 : decode code pc = .ok (.new idx, 3)) (d2 : decode code (pc + 3) = .ok (.dup, 1)) (d3 : decode code (pc + 3 + 1) = .ok (.invokespecial idx2, 3)) (hf : ac_NW R_law idx ci N fs) (hl : Cond.methodLink R_law idx2 y ∈ ab_T) (hy1 : y.name = "<init>") (hi : Cond.instanceMethod y ∈ ab_T) (hin : Cond.initialized y.cls ∈ ab_T) (hco : Cond.code y cc' nL' none ∈ ab_T) (hyo : ab_YO y 0)
    (hM : ∀ h0, ac_M l y cc' nL' d' mc ms cA [.ref h0] [(h0, .inr (ci, fs))] (P h0)) (hfr : d' + 1 ≤ 2048) (hlo : 8 + (nL' + 11) + 64 * d' ≤ 84000) (hcc : cells + 1 + mc ≤ 600000) (hss : slots + N + ms ≤ 7302250)
    (kk : ∀ (q : Nat) (w1 : va_W) (H1 : Heap) (locs1 : List Loc), P q w1 → va_P D vwCl w1 H1 → va_D (lw_A s) w1 → va_P D vwCl ws0 H1 → (∀ (i j : Nat) (x z : Nat × va_E), ws0[i]? = some x → w1[j]? = some z → x.1 ≠ z.1) → va_S (lw_A s) s.heap H1 locs1 → W p l e room_1 s m #[Value.ref b] below meth c H1 locs1 (cells + 1 + mc) (slots + N + ms) Q (F0 m (pc + 3 + 1 + 3) ls [.ref q])) :
    W p l e room_1 s m #[Value.ref b] below meth c H locs cells slots Q (F0 m pc ls []) := by
  have hA : ∀ q : Nat, s.heap.size ≤ q → lw_A s q := fun _ h => h
  obtain ⟨Cn, T, ty0, hcl, hin2, hty, h1, h2, h3, h4⟩ := hf
  have hsz : H.size = H.size := rfl
  have hKn := hK.1 ci _ hcl
  refine W.newcK hx hb hown (hts _ h1) (hts _ h2) (hts _ h3) rfl d1 (by simp only [room_1]; omega) (by simp only [room_1]; omega) hKn.2.1 rfl fun H1 kC hkC e1 z1 o1 => ?_
  have hPq : va_P D vwCl [(H.size, .inr (ci, fs))] H1 := fun k x hx => by
    have hz : k < 1 := (List.getElem?_eq_some_iff.mp hx).1
    rw [show k = 0 by omega] at hx
    cases hx
    exact ⟨_, hcl, (u_born ty0 hts hin2 hKn hkC e1 hty).to h4⟩
  have hDq : va_D (fun _ => True) [(H.size, .inr (ci, fs))] := ⟨fun i j x y hi hj _ => by
    have := (List.getElem?_eq_some_iff.mp hi).1
    have := (List.getElem?_eq_some_iff.mp hj).1
    simp at *
    omega, fun _ _ _ => trivial⟩
  have hS1 : va_S (lw_A s) s.heap H1 locs := ⟨Nat.le_trans hS.1 (by omega), fun x g1 g2 => (o1 x (Nat.lt_of_lt_of_le g1 hS.1)).trans (hS.2.1 x g1 g2), hS.2.2⟩
  refine lv_dup hx hb d2 rfl ?_
  have run := va_runI (l := l) (As := []) (rest := [.ref H.size]) (b := H.size) (g := F0 m (pc + 3 + 1) ls [.ref H.size, .ref H.size]) (cells := cells + 1) (slots := slots + N) (locs := locs) (e := e) (below := below) (meth := meth) (R := room_1) (H := H1) ⟨hx, hb, hml, hown, hts⟩ (hM H.size D H1.size) (cwI 0 hts (fun w h => by
      rcases List.mem_cons.mp h with rfl | h
      · exact ab_T_good2 hco
      · exact ab_T_good2 h) rfl rfl rfl (hts _ hin) (hts _ hl) (hts _ hi) hy1 hyo ⟨hfr, hlo⟩)
    ⟨ac_blind D cA _ _ _, fun U hU hW => ⟨rfl, by rw [hU], by rw [hU]; exact hPq, hDq, va_K.moved hW.alike hK, hNw.warm hW⟩⟩ rfl rfl hls rfl (Nat.le_of_ble_eq_true rfl) d3 ⟨by simp only [room_1]; omega, by simp only [room_1]; omega⟩
  intro T0 hT X
  obtain ⟨v, st₀, t, T', L, h0, X', hL', e1', e2, ⟨hv, ⟨w1, hw1, hPt, hDt⟩, hz, hk⟩, step⟩ := run T0 hT X
  cases hv
  rw [h0] at hz hk
  have hsub : ∀ q, va_A [(H.size, .inr (ci, fs))] H1.size q → H.size ≤ q := by
    rintro q (⟨k, x, h⟩ | h)
    · have hk0 : k < 1 := (List.getElem?_eq_some_iff.mp h).1
      rw [show k = 0 by omega] at h
      cases h
      exact Nat.le_refl _
    · omega
  have hsz2 : s.heap.size ≤ H.size := hS.1
  have hP2 : va_P D vwCl ws0 T'.heap := hP0.kept (fun i x hx => by
    have hlt := (hP0 i x hx).lt
    rw [e1', hk x.1 (by omega) (fun z => by have := hsub _ z; omega)]
    exact o1 x.1 hlt)
  obtain ⟨t2, a1, b1⟩ := kk H.size w1 T'.heap (locs ++ L) hw1 (by rw [e1']; exact hPt) (hDt.weaken (fun _ q _ h => Nat.le_trans hsz2 (hsub _ h))) hP2 (fun i j x z hx hz e => by
      have := (hP0 i x hx).lt
      have := hsub _ (hDt.2 j z hz)
      omega)
    ⟨Nat.le_trans hS1.1 (by rw [e1']; exact hz), fun q g1 g2 => by rw [e1', hk q (Nat.lt_of_lt_of_le g1 hS1.1) (fun z => by have := hsub _ z; omega)]; exact hS1.2.1 q g1 g2, fun q hq => by
      rcases List.mem_append.mp hq with h | h
      · exact hS1.2.2 q h
      · exact Nat.le_trans hsz2 (hsub _ (hL' q h))⟩ T' rfl X'
  exact ⟨t2, step t2 a1, b1⟩
end LW
theorem nwL_7 : ac_NW R_law 7 9 10 [.null, .null, .null, .int 0, .null, .null, .null, .null, .null, .null] := ⟨RX9, TX9, tyX9, rfl, inX9, tyX9_ok, ab_Tm 16 (by decide +kernel) (by decide +kernel), ab_Tm 17 (by decide +kernel) (by decide +kernel), ab_Tm 1 (by decide +kernel) (by decide +kernel), by decide +kernel⟩
theorem yiLX9_init : Cond.instanceMethod yX9_init ∈ ab_T ∧ Cond.initialized yX9_init.cls ∈ ab_T ∧ Cond.code yX9_init cX9_init 1 none ∈ ab_T ∧ ab_YO yX9_init 0 := ⟨ab_Tm 19 (by decide +kernel) (by decide +kernel), ab_Tm 1 (by decide +kernel) (by decide +kernel), ab_Tm 20 (by decide +kernel) (by decide +kernel), ⟨(by decide +kernel), (by decide +kernel), (by decide +kernel)⟩⟩
theorem nwL_10 : ac_NW R_law 10 10 45 [.null, .null, .null, .null, .int 0, .int 0, .int 0, .int 0, .int 0, .int 0, .null, .null, .null, .null, .int 0, .null, .null, .int 0, .int 0, .int 0, .int 0, .int 0, .null, .null, .null, .int 0, .int 0, .null, .int 0, .int 0, .int 0, .int 0, .null, .null, .null, .int 0, .null, .null, .int 0, .int 0, .int 0, .null, .null, .null, .null] := ⟨RX10, TX10, tyX10, rfl, inX10, tyX10_ok, ab_Tm 1018 (by decide +kernel) (by decide +kernel), ab_Tm 1019 (by decide +kernel) (by decide +kernel), ab_Tm 12 (by decide +kernel) (by decide +kernel), by decide +kernel⟩
theorem yiLX10_init : Cond.instanceMethod yX10_init ∈ ab_T ∧ Cond.initialized yX10_init.cls ∈ ab_T ∧ Cond.code yX10_init cX10_init 2 none ∈ ab_T ∧ ab_YO yX10_init 0 := ⟨ab_Tm 1021 (by decide +kernel) (by decide +kernel), ab_Tm 12 (by decide +kernel) (by decide +kernel), ab_Tm 1022 (by decide +kernel) (by decide +kernel), ⟨(by decide +kernel), (by decide +kernel), (by decide +kernel)⟩⟩
theorem mlLi_9 : Cond.methodLink R_law 9 yX9_init ∈ ab_T := ab_Tm 18 (by decide +kernel) (by decide +kernel)
theorem mlLi_12 : Cond.methodLink R_law 12 yX10_init ∈ ab_T := ab_Tm 1020 (by decide +kernel) (by decide +kernel)
set_option maxHeartbeats 4000000 in
set_option maxRecDepth 100000 in
theorem whole_start {p : Program} {e : Env} {s : State} {m : MethodId} {below : List Frame} {meth : Method} {c : Code} (l : Launch) (hflags : l.flags = flags0) {b L : Nat} {xs : Nat → Int32} (hL : L ≤ 3072) (C0 : lw_At p s m meth c b L xs) : W p l e room_1 s m #[Value.ref b] below meth c s.heap [] 0 0 (lw_Z below #[Value.ref b] s) (entryFrame m ([Value.ref b] : List Value).toArray 4) := by
  obtain ⟨hx, hb, hr, hml, hown, hts0, hX, hbl, hlk, hgv⟩ := id C0
  have hts : ∀ w ∈ ab_T, w.before #[Value.ref b] s = true := fun w h => hts0 w (List.mem_filter.mp h).1
  have hNw := ws_nest hts0
  have hNa : ac_Nw s := ⟨hNw, va_AO.of (hts0 _ (List.mem_append_right _ (List.mem_of_getElem? (i := 162) (by decide +kernel)))), arrayOver_alikeB (Vm.Alike.refl s.vm) (hts0 (Cond.arrayOver (.array .long)) (List.mem_append_right _ (List.mem_of_getElem? (i := 164) (by decide +kernel))))⟩
  obtain ⟨D, cA, hK⟩ := ws_known hts hNa
  have hAs : ∀ a : Nat, a < s.heap.size → ¬ lw_A s a := fun a h => Nat.not_le.mpr h
  obtain ⟨a50, z50, t50⟩ := ws_OWN (A := lw_A s) hts0 hgv hAs
  obtain ⟨a51, z51, t51⟩ := ws_ABOVE (A := lw_A s) hts0 hgv hAs
  have hl := lv_entry ([.ref b]) (n := 4) (Nat.le_of_ble_eq_true rfl)
  rw [lg_entry_eq]
  generalize (lg_sl ([.ref b]) ++ List.replicate (4 - (lg_sl ([.ref b])).length) Slot.unset).toArray = ls at hl ⊢
  have hl : lv_has ls 4 [(0, .ref b)] := hl
  refine lw_ctor (ws0 := []) hx hb hml hown hts hK hNa (fun k q h => by simp at h) ⟨fun i j p q h => by simp at h, fun k q h => by simp at h⟩ va_S.rf hl.1 dL_0 dL_3 dL_4 nwL_7 mlLi_9 rfl yiLX9_init.1 yiLX9_init.2.1 yiLX9_init.2.2.1 yiLX9_init.2.2.2 (fun h0 => kcX9 l cA h0 a50 a51) (Nat.le_of_ble_eq_true rfl) (Nat.le_of_ble_eq_true rfl) (Nat.le_of_ble_eq_true rfl) (Nat.le_of_ble_eq_true rfl) (fun q w1 H locs hw hPC hDC _ _ hS => ?_)
  obtain ⟨adC, rfl, e0, e50, e51⟩ := hw
  refine lv_astore_n (lv' := [(1, .ref q), (0, .ref b)]) hx hb dL_7 rfl hl (by decide) rfl (fun ls hl => ?_)
  refine lw_ctor (ws0 := ab_ws yC adC cA s0C) hx hb hml hown hts hK hNa hPC hDC hS hl.1 dL_8 dL_11 dL_12 nwL_10 mlLi_12 rfl yiLX10_init.1 yiLX10_init.2.1 yiLX10_init.2.2.1 yiLX10_init.2.2.2 (fun h0 => kcX10 l cA h0) (Nat.le_of_ble_eq_true rfl) (Nat.le_of_ble_eq_true rfl) (Nat.le_of_ble_eq_true rfl) (Nat.le_of_ble_eq_true rfl) (fun q2 w2 H locs hw hPM hDM hPC hdis hS => ?_)
  obtain ⟨adM, rfl, e2⟩ := hw
  refine lv_astore_n (lv' := [(2, .ref q2), (1, .ref q), (0, .ref b)]) hx hb dL_15 rfl hl (by decide) rfl (fun ls hl => ?_)
  refine lv_iconst (v := 0) hx hb dL_16 rfl ?_
  refine lv_istore_n (lv' := [(3, .int 0), (2, .ref q2), (1, .ref q), (0, .ref b)]) hx hb dL_17 rfl hl (by decide) rfl (fun ls hl => ?_)
  subst e0
  subst e2
  have I : lw_I p s m meth c b L xs D cA adC adM := by
    refine ⟨C0, hK, fun σ => ab_D_any hDC, fun σ => ab_D_any hDM, ?_, ?_, hNw⟩
    · intro c1 h1 c2 h2 e
      obtain ⟨i, -, hi⟩ := ab_at (r := c1.1) (k := c1.2) h1 adC cA s0C
      obtain ⟨j, -, hj⟩ := ab_at (r := c2.1) (k := c2.2) h2 adM cA s0M
      exact hdis i j _ _ hi hj e
    · intro z hz
      rcases List.mem_cons.mp hz with rfl | hz
      · show va_Z _ _ _ (.ref (adC 50 0)) _ _ _ ∧ va_T _ (adC 50 0) _ _ _ _ _
        rw [e50]
        exact ⟨z50, t50⟩
      · rcases List.mem_cons.mp hz with rfl | hz
        · show va_Z _ _ _ (.ref (adC 51 0)) _ _ _ ∧ va_T _ (adC 51 0) _ _ _ _ _
          rw [e51]
          exact ⟨z51, t51⟩
        · cases hz
  refine W.widen (k := 600000) (n := 7302250) (Nat.le_of_ble_eq_true rfl) (Nat.le_of_ble_eq_true rfl) ?_
  exact lw_loop I hL (L + 6) 0 (by omega) (by omega) s0C s0M Rel_0 H locs ls hPC hPM hS (lv_sub hl [3, 2, 1, 0] rfl)
