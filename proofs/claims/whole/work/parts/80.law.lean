/-! THE LAW: its calls, its forty cases, its loop -/
def R_law : String := "ChangeDoorsLaw"
def lw_P (b : Addr) (xs : List Int32) (args : Array Value) (s : State) : Prop := args = #[.ref b] ∧ s.IntsAt b xs ∧ xs.length ≤ 3072 ∧ (Jvm.Cond.and given_1 narrow_1).before args s = true
def lw_Q (_ : Array Value) (s : State) (o : Outcome) (t : State) : Prop := o = .returned (some (.int 1)) ∧ Framed s o t [] 600000 7302250
def lw_Z (below : List Frame) (a : Array Value) (s : State) : State → Prop := fun t => ∃ o, t.status = .running ∧ Ended t below o ∧ lw_Q a s o t
/-- the law's own end, with 1 on the stack, nothing written that was there before, its room as the claim has it -/
theorem lw_ret {p : Program} {l : Launch} {e : Env} {s : State} {m : MethodId} {below : List Frame} {meth : Method} {c : Code} {b : Nat} (hx : p.tables.exec = Jvm.exec) (hb : c.code = code) (hr : meth.sig.returnType = ret) (hlocks : meth.locks = false) {pc : Nat} {H : Heap} {ls : Array Slot} (hdg : decode code pc = .ok (.ireturn, 1)) : W p l e room_1 s m #[Value.ref b] below meth c H [] 600000 7302250 (lw_Z below #[Value.ref b] s) (F0 m pc ls [.int 1]) := by
  intro T hT X
  obtain ⟨fs, hret, hrun, hended, hW, hframe⟩ := X.leave (v := some (.int 1)) (hlocks := hlocks) (fun h => by rw [hr] at h; cases h)
  have hmeth' : T.vm.method? m = some meth := X.method'
  refine ⟨T.setFrames fs, ?_, .returned (some (.int 1)), hrun, hended, rfl, ⟨_, rfl⟩, hW, hframe⟩
  jvm_step X.here [X.here.top, hx, hb, hdg, hmeth', hr, ret, narrow_b1]
  (try refine ⟨rfl, ?_⟩); (try refine ⟨rfl, ?_⟩)
  first | (intro acts; rw [hret _ acts rfl rfl rfl]) | rw [hret _ _ rfl rfl rfl]
  exact Steps.refl _
/-- what holds at the law's entry: the machine, the code, the tables' words (any of lw_tbl by 'hts w (by decide +kernel)'), the script of L ints xs at the cell b, what the Statement gives of the start (any of its parts by flat_of_before) -/
def lw_At (p : Program) (s : State) (m : MethodId) (meth : Method) (c : Code) (b L : Nat) (xs : Nat → Int32) : Prop :=
  p.tables.exec = Jvm.exec ∧ c.code = code ∧ meth.sig.returnType = ret ∧ c.maxLocals = 4 ∧ s.vm.findClass R_law = some m.cls ∧ (∀ w ∈ lw_tbl, w.before #[Value.ref b] s = true) ∧ va_X b L xs s s.heap ∧ b < s.heap.size ∧ meth.locks = false ∧ (Jvm.Cond.and given_1 narrow_1).before #[Value.ref b] s = true
/-- the law's own area: what is new since its start -/
def lw_A (s : State) : Nat → Prop := fun q => s.heap.size ≤ q
def lw_I (p : Program) (s : State) (m : MethodId) (meth : Method) (c : Code) (b L : Nat) (xs : Nat → Int32) (D : va_G) (cA : Nat → ClassId) (adC adM : Nat → Nat → Nat) : Prop :=
  lw_At p s m meth c b L xs ∧ va_K D vwCl (ab_ty cA) s ∧ (∀ σ, va_D (lw_A s) (ab_ws yC adC cA σ)) ∧ (∀ σ, va_D (lw_A s) (ab_ws yM adM cA σ)) ∧ (∀ c1 ∈ yC.2.1, ∀ c2 ∈ yM.2.1, adC c1.1 c1.2 ≠ adM c2.1 c2.2) ∧ ab_St yC adC (lw_A s) s s.heap ∧ ab_Nw s
def lw_G (p : Program) (l : Launch) (e : Env) (s : State) (m : MethodId) (below : List Frame) (meth : Method) (c : Code) (b : Nat) (D : va_G) (cA : Nat → ClassId) (adC adM : Nat → Nat → Nat) (x3 : Int32) (pc : Nat) (σc σm : ab_S) : Prop :=
  ∀ (H : Heap) (locs : List Loc) (ls : Array Slot), va_P D vwCl (ab_ws yC adC cA σc) H → va_P D vwCl (ab_ws yM adM cA σm) H → va_S (lw_A s) s.heap H locs → lv_has ls 4 [(0, .ref b), (1, .ref (adC 0 0)), (2, .ref (adM 0 0)), (3, .int x3)] → W p l e room_1 s m #[Value.ref b] below meth c H locs 600000 7302250 (lw_Z below #[Value.ref b] s) (F0 m pc ls [])
theorem lw_in {x3 : Int32} {i L : Nat} (hi : i + 6 ≤ L) (hL : L ≤ 3072) (ex : x3 = nI i) (k : Nat) (hk : k < 6) (v : Int32) (hv : v = nI k) : vp_in (x3 + v) L := by
  rw [ex, hv, nI_add]
  exact vp_in_nI (by omega) (by omega)
section LW
variable {p : Program} {l : Launch} {e : Env} {s : State} {m : MethodId} {below : List Frame} {meth : Method} {c : Code} {b : Nat} {D : va_G} {cA : Nat → ClassId}
theorem lw_call {Y Y2 : ab_Y} {ad ad2 : Nat → Nat → Nat} {σ σ1 σ2 : ab_S} {H : Heap} {locs : List Loc} {ls : Array Slot} {pc idx nL' d' ci : Nat} {y : MethodName} {cc' : ByteArray} {ret' : Option FieldType} {as : List ab_V} {v1 : ab_V} {st0 rest : List Value} {fl : List (Option Nat)} {Q : State → Prop}
    (hx : p.tables.exec = Jvm.exec) (hb : c.code = code) (hml : c.maxLocals = 4) (hown : s.vm.findClass R_law = some m.cls) (hts : ∀ w ∈ ab_T, w.before #[Value.ref b] s = true) (hK : va_K D vwCl (ab_ty cA) s) (hD : ∀ σ, va_D (lw_A s) (ab_ws Y ad cA σ)) (hD2 : ∀ σ, va_D (lw_A s) (ab_ws Y2 ad2 cA σ)) (hSt : ab_St Y ad (lw_A s) s s.heap) (hNw : ab_Nw s) (hdis : ∀ c1 ∈ Y.2.1, ∀ c2 ∈ Y2.2.1, ad c1.1 c1.2 ≠ ad2 c2.1 c2.2)
    (hP : va_P D vwCl (ab_ws Y ad cA σ) H) (hP2 : va_P D vwCl (ab_ws Y2 ad2 cA σ2) H) (hS : va_S (lw_A s) s.heap H locs) (hls : ls.size = 4)
    (hd : decode code pc = .ok (.invokevirtual idx, 3)) (hl : Cond.methodLink R_law idx y ∈ ab_T) (hy : ab_YV y cc' nL' ret' as.length) (hrk : Y.1 0 = .inl (ci, fl)) (hcl : ∃ T N, vwCl[ci]? = some (y.cls, T, N)) (hm : ((0, 0) : Nat × Nat) ∈ Y.2.1) (hM : ab_M l Y y cc' nL' ret' d' (.inr (.inr (0, 0)) :: as) σ (some v1) σ1) (hdd : d' + 1 ≤ 2048 ∧ 64 * d' + 100 ≤ 84000) (hnn : nL' ≤ 40)
    (hst : st0 = (as.map (ab_cv ad)).reverse ++ .ref (ad 0 0) :: rest) (hw : (rest.map fun v => v.category).sum ≤ 8)
    (kk : ∀ (H1 : Heap) (locs1 : List Loc), va_P D vwCl (ab_ws Y ad cA σ1) H1 → va_P D vwCl (ab_ws Y2 ad2 cA σ2) H1 → va_S (lw_A s) s.heap H1 locs1 → W p l e room_1 s m #[Value.ref b] below meth c H1 locs1 600000 7302250 Q (F0 m (pc + 3) ls (ab_cv ad v1 :: rest))) :
    W p l e room_1 s m #[Value.ref b] below meth c H locs 600000 7302250 Q (F0 m pc ls st0) := by
  subst hst
  obtain ⟨hi, hse, hin, hco, hyo⟩ := hy
  obtain ⟨T, N, hcl⟩ := hcl
  obtain ⟨q, hq, hqe⟩ := ab_at hm ad cA σ
  rw [show ab_E Y.1 ad cA σ 0 0 = .inr (ci, ab_fs ad (σ.1 0 0) 0 0 fl) by simp [ab_E, hrk]] at hqe
  have hsub : ∀ q, ab_A Y ad H.size q → lw_A s q := by
    intro q hq
    rcases hq with ⟨c1, h1, rfl⟩ | h
    · obtain ⟨i, -, h2⟩ := ab_at (r := c1.1) (k := c1.2) h1 ad cA σ
      exact (hD σ).2 i _ h2
    · exact Nat.le_trans hS.1 h
  have run := va_runV (l := l) (As := as.map (ab_cv ad)) (rest := rest) (g := F0 m pc ls ((as.map (ab_cv ad)).reverse ++ .ref (ad 0 0) :: rest)) (cells := 600000) (slots := 7302250) (locs := locs) (e := e) (below := below) (meth := meth) (R := room_1) (H := H) ⟨hx, hb, hml, hown, hts⟩ (hM D cA ad H.size)
    (cwV (C := y.cls) as.length hts (fun w h => by
      simp only [wsV, List.mem_append, List.mem_cons, List.not_mem_nil, or_false] at h
      rcases h with (rfl | rfl | rfl | rfl) | rfl | h
      · exact ab_T_good2 hl
      · exact ab_T_good2 hi
      · exact ab_T_good2 hse
      · exact ab_T_good2 hin
      · exact ab_T_good2 hco
      · exact ab_T_good2 h) rfl rfl rfl ⟨rfl, hyo⟩ ⟨hdd.1, by simp only [ab_R, room_1]; omega⟩)
    ⟨ab_blind Y D cA ad σ _ _, va_recv hK hP hcl hqe, fun U hU hW => ⟨rfl, by
      subst hU
      exact ⟨rfl, hP, (hD σ).weaken (fun _ _ _ _ => trivial), va_K.moved hW.alike hK, fun q hq => ⟨((va_Z.moved hW.alike (hSt q hq).1).kept hS.2.1).narrow hsub, ((va_T.moved hW.alike (hSt q hq).2).kept hS.2.1).narrow hsub⟩, fun q hq => va_Nw.warmM hW (hNw q hq)⟩⟩⟩ rfl (by simp) hls (by simp) (by show 2 * 0 + _ ≤ 8; omega) hd ⟨Nat.le_refl _, Nat.le_refl _⟩
  intro T0 hT X
  obtain ⟨v, st₀, t, T', L, h0, X', hL', e1, e2, ⟨hv, hPt, hz, hk⟩, step⟩ := run T0 hT X
  cases hv
  rw [h0] at hz hk
  obtain ⟨t2, a1, b1⟩ := kk T'.heap (locs ++ L) (by rw [e1]; exact hPt) (hP2.kept (fun i x hx => by
      rw [e1]
      refine hk x.1 (hP2 i x hx).lt (fun h => ?_)
      simp only [ab_ws, List.getElem?_map] at hx
      cases hc2 : Y2.2.1[i]? with
      | none => rw [hc2] at hx; cases hx
      | some c2 =>
        rw [hc2] at hx
        simp only [Option.map_some, Option.some.injEq] at hx
        rcases h with ⟨c1, h1, h2⟩ | h
        · exact hdis c1 h1 c2 (List.mem_of_getElem? hc2) (by rw [← h2, ← hx])
        · have hlt := (hP2 i x (by simp [ab_ws, hc2, hx])).lt
          omega))
    ⟨Nat.le_trans hS.1 (by rw [e1]; exact hz), fun q h1 h2 => by rw [e1, hk q (Nat.lt_of_lt_of_le h1 hS.1) (fun z => h2 (hsub q z))]; exact hS.2.1 q h1 h2, fun q hq => by
      rcases List.mem_append.mp hq with h | h
      · exact hS.2.2 q h
      · exact hsub _ (hL' q h)⟩ T' rfl X'
  exact ⟨t2, step t2 a1, b1⟩
end LW
theorem mlL_13 : Cond.methodLink R_law 13 yX9_doors ∈ ab_T := ab_Tm 326 (by decide +kernel) (by decide +kernel)
theorem yvLX9_doors : ab_YV yX9_doors cX9_doors 3 (some .int) 1 := ⟨ab_Tm 327 (by decide +kernel) (by decide +kernel), ab_Tm 328 (by decide +kernel) (by decide +kernel), ab_Tm 1 (by decide +kernel) (by decide +kernel), ab_Tm 329 (by decide +kernel) (by decide +kernel), ⟨(by decide +kernel), (by decide +kernel), (by decide +kernel)⟩⟩
theorem mlL_17 : Cond.methodLink R_law 17 yX10_doors ∈ ab_T := ab_Tm 1172 (by decide +kernel) (by decide +kernel)
theorem yvLX10_doors : ab_YV yX10_doors cX10_doors 3 (some .int) 1 := ⟨ab_Tm 1173 (by decide +kernel) (by decide +kernel), ab_Tm 1174 (by decide +kernel) (by decide +kernel), ab_Tm 12 (by decide +kernel) (by decide +kernel), ab_Tm 1175 (by decide +kernel) (by decide +kernel), ⟨(by decide +kernel), (by decide +kernel), (by decide +kernel)⟩⟩
theorem mlL_18 : Cond.methodLink R_law 18 yX9_weights ∈ ab_T := ab_Tm 344 (by decide +kernel) (by decide +kernel)
theorem yvLX9_weights : ab_YV yX9_weights cX9_weights 7 (some .int) 3 := ⟨ab_Tm 345 (by decide +kernel) (by decide +kernel), ab_Tm 346 (by decide +kernel) (by decide +kernel), ab_Tm 1 (by decide +kernel) (by decide +kernel), ab_Tm 347 (by decide +kernel) (by decide +kernel), ⟨(by decide +kernel), (by decide +kernel), (by decide +kernel)⟩⟩
theorem mlL_22 : Cond.methodLink R_law 22 yX10_weights ∈ ab_T := ab_Tm 1181 (by decide +kernel) (by decide +kernel)
theorem yvLX10_weights : ab_YV yX10_weights cX10_weights 6 (some .int) 3 := ⟨ab_Tm 1182 (by decide +kernel) (by decide +kernel), ab_Tm 1183 (by decide +kernel) (by decide +kernel), ab_Tm 12 (by decide +kernel) (by decide +kernel), ab_Tm 1184 (by decide +kernel) (by decide +kernel), ⟨(by decide +kernel), (by decide +kernel), (by decide +kernel)⟩⟩
theorem mlL_23 : Cond.methodLink R_law 23 yX9_mend ∈ ab_T := ab_Tm 393 (by decide +kernel) (by decide +kernel)
theorem yvLX9_mend : ab_YV yX9_mend cX9_mend 5 (some .int) 3 := ⟨ab_Tm 394 (by decide +kernel) (by decide +kernel), ab_Tm 395 (by decide +kernel) (by decide +kernel), ab_Tm 1 (by decide +kernel) (by decide +kernel), ab_Tm 396 (by decide +kernel) (by decide +kernel), ⟨(by decide +kernel), (by decide +kernel), (by decide +kernel)⟩⟩
theorem mlL_26 : Cond.methodLink R_law 26 yX10_mend ∈ ab_T := ab_Tm 1193 (by decide +kernel) (by decide +kernel)
theorem yvLX10_mend : ab_YV yX10_mend cX10_mend 4 (some .int) 3 := ⟨ab_Tm 1194 (by decide +kernel) (by decide +kernel), ab_Tm 1195 (by decide +kernel) (by decide +kernel), ab_Tm 12 (by decide +kernel) (by decide +kernel), ab_Tm 1196 (by decide +kernel) (by decide +kernel), ⟨(by decide +kernel), (by decide +kernel), (by decide +kernel)⟩⟩
theorem mlL_27 : Cond.methodLink R_law 27 yX9_of ∈ ab_T := ab_Tm 421 (by decide +kernel) (by decide +kernel)
theorem yvLX9_of : ab_YV yX9_of cX9_of 3 (some .int) 2 := ⟨ab_Tm 422 (by decide +kernel) (by decide +kernel), ab_Tm 423 (by decide +kernel) (by decide +kernel), ab_Tm 1 (by decide +kernel) (by decide +kernel), ab_Tm 424 (by decide +kernel) (by decide +kernel), ⟨(by decide +kernel), (by decide +kernel), (by decide +kernel)⟩⟩
theorem mlL_31 : Cond.methodLink R_law 31 yX10_of ∈ ab_T := ab_Tm 1202 (by decide +kernel) (by decide +kernel)
theorem yvLX10_of : ab_YV yX10_of cX10_of 3 (some .int) 2 := ⟨ab_Tm 1203 (by decide +kernel) (by decide +kernel), ab_Tm 1204 (by decide +kernel) (by decide +kernel), ab_Tm 12 (by decide +kernel) (by decide +kernel), ab_Tm 1205 (by decide +kernel) (by decide +kernel), ⟨(by decide +kernel), (by decide +kernel), (by decide +kernel)⟩⟩
theorem mlL_32 : Cond.methodLink R_law 32 yX9_feed ∈ ab_T := ab_Tm 453 (by decide +kernel) (by decide +kernel)
theorem yvLX9_feed : ab_YV yX9_feed cX9_feed 2 (some .int) 1 := ⟨ab_Tm 454 (by decide +kernel) (by decide +kernel), ab_Tm 455 (by decide +kernel) (by decide +kernel), ab_Tm 1 (by decide +kernel) (by decide +kernel), ab_Tm 456 (by decide +kernel) (by decide +kernel), ⟨(by decide +kernel), (by decide +kernel), (by decide +kernel)⟩⟩
theorem mlL_35 : Cond.methodLink R_law 35 yX10_feed ∈ ab_T := ab_Tm 1224 (by decide +kernel) (by decide +kernel)
theorem yvLX10_feed : ab_YV yX10_feed cX10_feed 2 (some .int) 1 := ⟨ab_Tm 1225 (by decide +kernel) (by decide +kernel), ab_Tm 1226 (by decide +kernel) (by decide +kernel), ab_Tm 12 (by decide +kernel) (by decide +kernel), ab_Tm 1227 (by decide +kernel) (by decide +kernel), ⟨(by decide +kernel), (by decide +kernel), (by decide +kernel)⟩⟩
theorem mlL_36 : Cond.methodLink R_law 36 yX9_law ∈ ab_T := ab_Tm 466 (by decide +kernel) (by decide +kernel)
theorem yvLX9_law : ab_YV yX9_law cX9_law 3 (some .int) 1 := ⟨ab_Tm 467 (by decide +kernel) (by decide +kernel), ab_Tm 468 (by decide +kernel) (by decide +kernel), ab_Tm 1 (by decide +kernel) (by decide +kernel), ab_Tm 469 (by decide +kernel) (by decide +kernel), ⟨(by decide +kernel), (by decide +kernel), (by decide +kernel)⟩⟩
theorem mlL_39 : Cond.methodLink R_law 39 yX10_law ∈ ab_T := ab_Tm 1229 (by decide +kernel) (by decide +kernel)
theorem yvLX10_law : ab_YV yX10_law cX10_law 5 (some .int) 1 := ⟨ab_Tm 1230 (by decide +kernel) (by decide +kernel), ab_Tm 1231 (by decide +kernel) (by decide +kernel), ab_Tm 12 (by decide +kernel) (by decide +kernel), ab_Tm 1232 (by decide +kernel) (by decide +kernel), ⟨(by decide +kernel), (by decide +kernel), (by decide +kernel)⟩⟩
theorem mlL_40 : Cond.methodLink R_law 40 yX9_opens ∈ ab_T := ab_Tm 531 (by decide +kernel) (by decide +kernel)
theorem yvLX9_opens : ab_YV yX9_opens cX9_opens 4 (some .int) 1 := ⟨ab_Tm 532 (by decide +kernel) (by decide +kernel), ab_Tm 533 (by decide +kernel) (by decide +kernel), ab_Tm 1 (by decide +kernel) (by decide +kernel), ab_Tm 534 (by decide +kernel) (by decide +kernel), ⟨(by decide +kernel), (by decide +kernel), (by decide +kernel)⟩⟩
theorem mlL_43 : Cond.methodLink R_law 43 yX10_opens ∈ ab_T := ab_Tm 1276 (by decide +kernel) (by decide +kernel)
theorem yvLX10_opens : ab_YV yX10_opens cX10_opens 2 (some .int) 1 := ⟨ab_Tm 1277 (by decide +kernel) (by decide +kernel), ab_Tm 1278 (by decide +kernel) (by decide +kernel), ab_Tm 12 (by decide +kernel) (by decide +kernel), ab_Tm 1279 (by decide +kernel) (by decide +kernel), ⟨(by decide +kernel), (by decide +kernel), (by decide +kernel)⟩⟩
theorem mlL_44 : Cond.methodLink R_law 44 yX9_choose ∈ ab_T := ab_Tm 584 (by decide +kernel) (by decide +kernel)
theorem yvLX9_choose : ab_YV yX9_choose cX9_choose 3 (some .int) 1 := ⟨ab_Tm 585 (by decide +kernel) (by decide +kernel), ab_Tm 586 (by decide +kernel) (by decide +kernel), ab_Tm 1 (by decide +kernel) (by decide +kernel), ab_Tm 587 (by decide +kernel) (by decide +kernel), ⟨(by decide +kernel), (by decide +kernel), (by decide +kernel)⟩⟩
theorem mlL_47 : Cond.methodLink R_law 47 yX10_choose ∈ ab_T := ab_Tm 1287 (by decide +kernel) (by decide +kernel)
theorem yvLX10_choose : ab_YV yX10_choose cX10_choose 3 (some .int) 1 := ⟨ab_Tm 1288 (by decide +kernel) (by decide +kernel), ab_Tm 1289 (by decide +kernel) (by decide +kernel), ab_Tm 12 (by decide +kernel) (by decide +kernel), ab_Tm 1290 (by decide +kernel) (by decide +kernel), ⟨(by decide +kernel), (by decide +kernel), (by decide +kernel)⟩⟩
theorem mlL_48 : Cond.methodLink R_law 48 yX9_opened ∈ ab_T := ab_Tm 588 (by decide +kernel) (by decide +kernel)
theorem yvLX9_opened : ab_YV yX9_opened cX9_opened 2 (some .int) 1 := ⟨ab_Tm 589 (by decide +kernel) (by decide +kernel), ab_Tm 590 (by decide +kernel) (by decide +kernel), ab_Tm 1 (by decide +kernel) (by decide +kernel), ab_Tm 591 (by decide +kernel) (by decide +kernel), ⟨(by decide +kernel), (by decide +kernel), (by decide +kernel)⟩⟩
theorem mlL_51 : Cond.methodLink R_law 51 yX10_opened ∈ ab_T := ab_Tm 1291 (by decide +kernel) (by decide +kernel)
theorem yvLX10_opened : ab_YV yX10_opened cX10_opened 2 (some .int) 1 := ⟨ab_Tm 1292 (by decide +kernel) (by decide +kernel), ab_Tm 1293 (by decide +kernel) (by decide +kernel), ab_Tm 12 (by decide +kernel) (by decide +kernel), ab_Tm 1294 (by decide +kernel) (by decide +kernel), ⟨(by decide +kernel), (by decide +kernel), (by decide +kernel)⟩⟩
theorem mlL_52 : Cond.methodLink R_law 52 yX9_anew ∈ ab_T := ab_Tm 600 (by decide +kernel) (by decide +kernel)
theorem yvLX9_anew : ab_YV yX9_anew cX9_anew 2 (some .int) 0 := ⟨ab_Tm 601 (by decide +kernel) (by decide +kernel), ab_Tm 602 (by decide +kernel) (by decide +kernel), ab_Tm 1 (by decide +kernel) (by decide +kernel), ab_Tm 603 (by decide +kernel) (by decide +kernel), ⟨(by decide +kernel), (by decide +kernel), (by decide +kernel)⟩⟩
theorem mlL_56 : Cond.methodLink R_law 56 yX10_anew ∈ ab_T := ab_Tm 1299 (by decide +kernel) (by decide +kernel)
theorem yvLX10_anew : ab_YV yX10_anew cX10_anew 2 (some .int) 0 := ⟨ab_Tm 1300 (by decide +kernel) (by decide +kernel), ab_Tm 1301 (by decide +kernel) (by decide +kernel), ab_Tm 12 (by decide +kernel) (by decide +kernel), ab_Tm 1302 (by decide +kernel) (by decide +kernel), ⟨(by decide +kernel), (by decide +kernel), (by decide +kernel)⟩⟩
theorem mlL_57 : Cond.methodLink R_law 57 yX9_likely ∈ ab_T := ab_Tm 605 (by decide +kernel) (by decide +kernel)
theorem yvLX9_likely : ab_YV yX9_likely cX9_likely 5 (some .long) 2 := ⟨ab_Tm 606 (by decide +kernel) (by decide +kernel), ab_Tm 607 (by decide +kernel) (by decide +kernel), ab_Tm 1 (by decide +kernel) (by decide +kernel), ab_Tm 608 (by decide +kernel) (by decide +kernel), ⟨(by decide +kernel), (by decide +kernel), (by decide +kernel)⟩⟩
theorem mlL_61 : Cond.methodLink R_law 61 yX10_likely ∈ ab_T := ab_Tm 1303 (by decide +kernel) (by decide +kernel)
theorem yvLX10_likely : ab_YV yX10_likely cX10_likely 5 (some .long) 2 := ⟨ab_Tm 1304 (by decide +kernel) (by decide +kernel), ab_Tm 1305 (by decide +kernel) (by decide +kernel), ab_Tm 12 (by decide +kernel) (by decide +kernel), ab_Tm 1306 (by decide +kernel) (by decide +kernel), ⟨(by decide +kernel), (by decide +kernel), (by decide +kernel)⟩⟩
theorem mlL_62 : Cond.methodLink R_law 62 yX9_best ∈ ab_T := ab_Tm 639 (by decide +kernel) (by decide +kernel)
theorem yvLX9_best : ab_YV yX9_best cX9_best 1 (some .int) 0 := ⟨ab_Tm 640 (by decide +kernel) (by decide +kernel), ab_Tm 641 (by decide +kernel) (by decide +kernel), ab_Tm 1 (by decide +kernel) (by decide +kernel), ab_Tm 642 (by decide +kernel) (by decide +kernel), ⟨(by decide +kernel), (by decide +kernel), (by decide +kernel)⟩⟩
theorem mlL_65 : Cond.methodLink R_law 65 yX10_best ∈ ab_T := ab_Tm 1323 (by decide +kernel) (by decide +kernel)
theorem yvLX10_best : ab_YV yX10_best cX10_best 1 (some .int) 0 := ⟨ab_Tm 1324 (by decide +kernel) (by decide +kernel), ab_Tm 1325 (by decide +kernel) (by decide +kernel), ab_Tm 12 (by decide +kernel) (by decide +kernel), ab_Tm 1326 (by decide +kernel) (by decide +kernel), ⟨(by decide +kernel), (by decide +kernel), (by decide +kernel)⟩⟩
theorem mlL_66 : Cond.methodLink R_law 66 yX9_gain ∈ ab_T := ab_Tm 649 (by decide +kernel) (by decide +kernel)
theorem yvLX9_gain : ab_YV yX9_gain cX9_gain 6 (some .long) 1 := ⟨ab_Tm 650 (by decide +kernel) (by decide +kernel), ab_Tm 651 (by decide +kernel) (by decide +kernel), ab_Tm 1 (by decide +kernel) (by decide +kernel), ab_Tm 652 (by decide +kernel) (by decide +kernel), ⟨(by decide +kernel), (by decide +kernel), (by decide +kernel)⟩⟩
theorem mlL_70 : Cond.methodLink R_law 70 yX10_gain ∈ ab_T := ab_Tm 1331 (by decide +kernel) (by decide +kernel)
theorem yvLX10_gain : ab_YV yX10_gain cX10_gain 4 (some .long) 1 := ⟨ab_Tm 1332 (by decide +kernel) (by decide +kernel), ab_Tm 1333 (by decide +kernel) (by decide +kernel), ab_Tm 12 (by decide +kernel) (by decide +kernel), ab_Tm 1334 (by decide +kernel) (by decide +kernel), ⟨(by decide +kernel), (by decide +kernel), (by decide +kernel)⟩⟩
theorem mlL_71 : Cond.methodLink R_law 71 yX9_next ∈ ab_T := ab_Tm 653 (by decide +kernel) (by decide +kernel)
theorem yvLX9_next : ab_YV yX9_next cX9_next 5 (some .long) 2 := ⟨ab_Tm 654 (by decide +kernel) (by decide +kernel), ab_Tm 655 (by decide +kernel) (by decide +kernel), ab_Tm 1 (by decide +kernel) (by decide +kernel), ab_Tm 656 (by decide +kernel) (by decide +kernel), ⟨(by decide +kernel), (by decide +kernel), (by decide +kernel)⟩⟩
theorem mlL_74 : Cond.methodLink R_law 74 yX10_next ∈ ab_T := ab_Tm 1335 (by decide +kernel) (by decide +kernel)
theorem yvLX10_next : ab_YV yX10_next cX10_next 10 (some .long) 2 := ⟨ab_Tm 1336 (by decide +kernel) (by decide +kernel), ab_Tm 1337 (by decide +kernel) (by decide +kernel), ab_Tm 12 (by decide +kernel) (by decide +kernel), ab_Tm 1338 (by decide +kernel) (by decide +kernel), ⟨(by decide +kernel), (by decide +kernel), (by decide +kernel)⟩⟩
theorem mlL_75 : Cond.methodLink R_law 75 yX9_worth ∈ ab_T := ab_Tm 666 (by decide +kernel) (by decide +kernel)
theorem yvLX9_worth : ab_YV yX9_worth cX9_worth 4 (some .long) 3 := ⟨ab_Tm 667 (by decide +kernel) (by decide +kernel), ab_Tm 668 (by decide +kernel) (by decide +kernel), ab_Tm 1 (by decide +kernel) (by decide +kernel), ab_Tm 669 (by decide +kernel) (by decide +kernel), ⟨(by decide +kernel), (by decide +kernel), (by decide +kernel)⟩⟩
theorem mlL_79 : Cond.methodLink R_law 79 yX10_worth ∈ ab_T := ab_Tm 1343 (by decide +kernel) (by decide +kernel)
theorem yvLX10_worth : ab_YV yX10_worth cX10_worth 4 (some .long) 3 := ⟨ab_Tm 1344 (by decide +kernel) (by decide +kernel), ab_Tm 1345 (by decide +kernel) (by decide +kernel), ab_Tm 12 (by decide +kernel) (by decide +kernel), ab_Tm 1346 (by decide +kernel) (by decide +kernel), ⟨(by decide +kernel), (by decide +kernel), (by decide +kernel)⟩⟩
theorem mlL_80 : Cond.methodLink R_law 80 yX9_theBest ∈ ab_T := ab_Tm 719 (by decide +kernel) (by decide +kernel)
theorem yvLX9_theBest : ab_YV yX9_theBest cX9_theBest 4 (some .long) 1 := ⟨ab_Tm 720 (by decide +kernel) (by decide +kernel), ab_Tm 721 (by decide +kernel) (by decide +kernel), ab_Tm 1 (by decide +kernel) (by decide +kernel), ab_Tm 722 (by decide +kernel) (by decide +kernel), ⟨(by decide +kernel), (by decide +kernel), (by decide +kernel)⟩⟩
theorem mlL_83 : Cond.methodLink R_law 83 yX10_theBest ∈ ab_T := ab_Tm 1375 (by decide +kernel) (by decide +kernel)
theorem yvLX10_theBest : ab_YV yX10_theBest cX10_theBest 4 (some .long) 1 := ⟨ab_Tm 1376 (by decide +kernel) (by decide +kernel), ab_Tm 1377 (by decide +kernel) (by decide +kernel), ab_Tm 12 (by decide +kernel) (by decide +kernel), ab_Tm 1378 (by decide +kernel) (by decide +kernel), ⟨(by decide +kernel), (by decide +kernel), (by decide +kernel)⟩⟩
theorem mlL_84 : Cond.methodLink R_law 84 yX9_sure ∈ ab_T := ab_Tm 732 (by decide +kernel) (by decide +kernel)
theorem yvLX9_sure : ab_YV yX9_sure cX9_sure 9 (some .long) 3 := ⟨ab_Tm 733 (by decide +kernel) (by decide +kernel), ab_Tm 734 (by decide +kernel) (by decide +kernel), ab_Tm 1 (by decide +kernel) (by decide +kernel), ab_Tm 735 (by decide +kernel) (by decide +kernel), ⟨(by decide +kernel), (by decide +kernel), (by decide +kernel)⟩⟩
theorem mlL_87 : Cond.methodLink R_law 87 yX10_sure ∈ ab_T := ab_Tm 1392 (by decide +kernel) (by decide +kernel)
theorem yvLX10_sure : ab_YV yX10_sure cX10_sure 8 (some .long) 3 := ⟨ab_Tm 1393 (by decide +kernel) (by decide +kernel), ab_Tm 1394 (by decide +kernel) (by decide +kernel), ab_Tm 12 (by decide +kernel) (by decide +kernel), ab_Tm 1395 (by decide +kernel) (by decide +kernel), ⟨(by decide +kernel), (by decide +kernel), (by decide +kernel)⟩⟩
theorem mlL_88 : Cond.methodLink R_law 88 yX9_hardest ∈ ab_T := ab_Tm 744 (by decide +kernel) (by decide +kernel)
theorem yvLX9_hardest : ab_YV yX9_hardest cX9_hardest 5 (some .long) 2 := ⟨ab_Tm 745 (by decide +kernel) (by decide +kernel), ab_Tm 746 (by decide +kernel) (by decide +kernel), ab_Tm 1 (by decide +kernel) (by decide +kernel), ab_Tm 747 (by decide +kernel) (by decide +kernel), ⟨(by decide +kernel), (by decide +kernel), (by decide +kernel)⟩⟩
theorem mlL_91 : Cond.methodLink R_law 91 yX10_hardest ∈ ab_T := ab_Tm 1404 (by decide +kernel) (by decide +kernel)
theorem yvLX10_hardest : ab_YV yX10_hardest cX10_hardest 9 (some .long) 2 := ⟨ab_Tm 1405 (by decide +kernel) (by decide +kernel), ab_Tm 1406 (by decide +kernel) (by decide +kernel), ab_Tm 12 (by decide +kernel) (by decide +kernel), ab_Tm 1407 (by decide +kernel) (by decide +kernel), ⟨(by decide +kernel), (by decide +kernel), (by decide +kernel)⟩⟩
theorem mlL_92 : Cond.methodLink R_law 92 yX9_which ∈ ab_T := ab_Tm 748 (by decide +kernel) (by decide +kernel)
theorem yvLX9_which : ab_YV yX9_which cX9_which 9 (some .long) 3 := ⟨ab_Tm 749 (by decide +kernel) (by decide +kernel), ab_Tm 750 (by decide +kernel) (by decide +kernel), ab_Tm 1 (by decide +kernel) (by decide +kernel), ab_Tm 751 (by decide +kernel) (by decide +kernel), ⟨(by decide +kernel), (by decide +kernel), (by decide +kernel)⟩⟩
theorem mlL_95 : Cond.methodLink R_law 95 yX10_which ∈ ab_T := ab_Tm 1409 (by decide +kernel) (by decide +kernel)
theorem yvLX10_which : ab_YV yX10_which cX10_which 8 (some .long) 3 := ⟨ab_Tm 1410 (by decide +kernel) (by decide +kernel), ab_Tm 1411 (by decide +kernel) (by decide +kernel), ab_Tm 12 (by decide +kernel) (by decide +kernel), ab_Tm 1412 (by decide +kernel) (by decide +kernel), ⟨(by decide +kernel), (by decide +kernel), (by decide +kernel)⟩⟩
theorem mlL_96 : Cond.methodLink R_law 96 yX9_judge ∈ ab_T := ab_Tm 766 (by decide +kernel) (by decide +kernel)
theorem yvLX9_judge : ab_YV yX9_judge cX9_judge 5 (some .int) 2 := ⟨ab_Tm 767 (by decide +kernel) (by decide +kernel), ab_Tm 768 (by decide +kernel) (by decide +kernel), ab_Tm 1 (by decide +kernel) (by decide +kernel), ab_Tm 769 (by decide +kernel) (by decide +kernel), ⟨(by decide +kernel), (by decide +kernel), (by decide +kernel)⟩⟩
theorem mlL_99 : Cond.methodLink R_law 99 yX10_judge ∈ ab_T := ab_Tm 1429 (by decide +kernel) (by decide +kernel)
theorem yvLX10_judge : ab_YV yX10_judge cX10_judge 6 (some .int) 2 := ⟨ab_Tm 1430 (by decide +kernel) (by decide +kernel), ab_Tm 1431 (by decide +kernel) (by decide +kernel), ab_Tm 12 (by decide +kernel) (by decide +kernel), ab_Tm 1432 (by decide +kernel) (by decide +kernel), ⟨(by decide +kernel), (by decide +kernel), (by decide +kernel)⟩⟩
theorem mlL_100 : Cond.methodLink R_law 100 yX9_apart ∈ ab_T := ab_Tm 774 (by decide +kernel) (by decide +kernel)
theorem yvLX9_apart : ab_YV yX9_apart cX9_apart 8 (some .int) 2 := ⟨ab_Tm 775 (by decide +kernel) (by decide +kernel), ab_Tm 776 (by decide +kernel) (by decide +kernel), ab_Tm 1 (by decide +kernel) (by decide +kernel), ab_Tm 777 (by decide +kernel) (by decide +kernel), ⟨(by decide +kernel), (by decide +kernel), (by decide +kernel)⟩⟩
theorem mlL_103 : Cond.methodLink R_law 103 yX10_apart ∈ ab_T := ab_Tm 1433 (by decide +kernel) (by decide +kernel)
theorem yvLX10_apart : ab_YV yX10_apart cX10_apart 14 (some .int) 2 := ⟨ab_Tm 1434 (by decide +kernel) (by decide +kernel), ab_Tm 1435 (by decide +kernel) (by decide +kernel), ab_Tm 12 (by decide +kernel) (by decide +kernel), ab_Tm 1436 (by decide +kernel) (by decide +kernel), ⟨(by decide +kernel), (by decide +kernel), (by decide +kernel)⟩⟩
theorem mlL_104 : Cond.methodLink R_law 104 yX9_drawn ∈ ab_T := ab_Tm 782 (by decide +kernel) (by decide +kernel)
theorem yvLX9_drawn : ab_YV yX9_drawn cX9_drawn 9 (some .int) 3 := ⟨ab_Tm 783 (by decide +kernel) (by decide +kernel), ab_Tm 784 (by decide +kernel) (by decide +kernel), ab_Tm 1 (by decide +kernel) (by decide +kernel), ab_Tm 785 (by decide +kernel) (by decide +kernel), ⟨(by decide +kernel), (by decide +kernel), (by decide +kernel)⟩⟩
theorem mlL_107 : Cond.methodLink R_law 107 yX10_drawn ∈ ab_T := ab_Tm 1437 (by decide +kernel) (by decide +kernel)
theorem yvLX10_drawn : ab_YV yX10_drawn cX10_drawn 11 (some .int) 3 := ⟨ab_Tm 1438 (by decide +kernel) (by decide +kernel), ab_Tm 1439 (by decide +kernel) (by decide +kernel), ab_Tm 12 (by decide +kernel) (by decide +kernel), ab_Tm 1440 (by decide +kernel) (by decide +kernel), ⟨(by decide +kernel), (by decide +kernel), (by decide +kernel)⟩⟩
theorem mlL_108 : Cond.methodLink R_law 108 yX9_code ∈ ab_T := ab_Tm 812 (by decide +kernel) (by decide +kernel)
theorem yvLX9_code : ab_YV yX9_code cX9_code 3 (some .int) 2 := ⟨ab_Tm 813 (by decide +kernel) (by decide +kernel), ab_Tm 814 (by decide +kernel) (by decide +kernel), ab_Tm 1 (by decide +kernel) (by decide +kernel), ab_Tm 815 (by decide +kernel) (by decide +kernel), ⟨(by decide +kernel), (by decide +kernel), (by decide +kernel)⟩⟩
theorem mlL_111 : Cond.methodLink R_law 111 yX10_code ∈ ab_T := ab_Tm 1455 (by decide +kernel) (by decide +kernel)
theorem yvLX10_code : ab_YV yX10_code cX10_code 4 (some .int) 2 := ⟨ab_Tm 1456 (by decide +kernel) (by decide +kernel), ab_Tm 1457 (by decide +kernel) (by decide +kernel), ab_Tm 12 (by decide +kernel) (by decide +kernel), ab_Tm 1458 (by decide +kernel) (by decide +kernel), ⟨(by decide +kernel), (by decide +kernel), (by decide +kernel)⟩⟩
theorem mlL_112 : Cond.methodLink R_law 112 yX9_partner ∈ ab_T := ab_Tm 821 (by decide +kernel) (by decide +kernel)
theorem yvLX9_partner : ab_YV yX9_partner cX9_partner 4 (some .long) 2 := ⟨ab_Tm 822 (by decide +kernel) (by decide +kernel), ab_Tm 823 (by decide +kernel) (by decide +kernel), ab_Tm 1 (by decide +kernel) (by decide +kernel), ab_Tm 824 (by decide +kernel) (by decide +kernel), ⟨(by decide +kernel), (by decide +kernel), (by decide +kernel)⟩⟩
theorem mlL_115 : Cond.methodLink R_law 115 yX10_partner ∈ ab_T := ab_Tm 1460 (by decide +kernel) (by decide +kernel)
theorem yvLX10_partner : ab_YV yX10_partner cX10_partner 3 (some .long) 2 := ⟨ab_Tm 1461 (by decide +kernel) (by decide +kernel), ab_Tm 1462 (by decide +kernel) (by decide +kernel), ab_Tm 12 (by decide +kernel) (by decide +kernel), ab_Tm 1463 (by decide +kernel) (by decide +kernel), ⟨(by decide +kernel), (by decide +kernel), (by decide +kernel)⟩⟩
theorem mlL_116 : Cond.methodLink R_law 116 yX9_win ∈ ab_T := ab_Tm 839 (by decide +kernel) (by decide +kernel)
theorem yvLX9_win : ab_YV yX9_win cX9_win 2 (some .int) 1 := ⟨ab_Tm 840 (by decide +kernel) (by decide +kernel), ab_Tm 841 (by decide +kernel) (by decide +kernel), ab_Tm 1 (by decide +kernel) (by decide +kernel), ab_Tm 842 (by decide +kernel) (by decide +kernel), ⟨(by decide +kernel), (by decide +kernel), (by decide +kernel)⟩⟩
theorem mlL_119 : Cond.methodLink R_law 119 yX10_win ∈ ab_T := ab_Tm 1472 (by decide +kernel) (by decide +kernel)
theorem yvLX10_win : ab_YV yX10_win cX10_win 3 (some .int) 1 := ⟨ab_Tm 1473 (by decide +kernel) (by decide +kernel), ab_Tm 1474 (by decide +kernel) (by decide +kernel), ab_Tm 12 (by decide +kernel) (by decide +kernel), ab_Tm 1475 (by decide +kernel) (by decide +kernel), ⟨(by decide +kernel), (by decide +kernel), (by decide +kernel)⟩⟩
theorem mlL_120 : Cond.methodLink R_law 120 yX9_led ∈ ab_T := ab_Tm 848 (by decide +kernel) (by decide +kernel)
theorem yvLX9_led : ab_YV yX9_led cX9_led 2 (some .int) 1 := ⟨ab_Tm 849 (by decide +kernel) (by decide +kernel), ab_Tm 850 (by decide +kernel) (by decide +kernel), ab_Tm 1 (by decide +kernel) (by decide +kernel), ab_Tm 851 (by decide +kernel) (by decide +kernel), ⟨(by decide +kernel), (by decide +kernel), (by decide +kernel)⟩⟩
theorem mlL_123 : Cond.methodLink R_law 123 yX10_led ∈ ab_T := ab_Tm 1476 (by decide +kernel) (by decide +kernel)
theorem yvLX10_led : ab_YV yX10_led cX10_led 2 (some .int) 1 := ⟨ab_Tm 1477 (by decide +kernel) (by decide +kernel), ab_Tm 1478 (by decide +kernel) (by decide +kernel), ab_Tm 12 (by decide +kernel) (by decide +kernel), ab_Tm 1479 (by decide +kernel) (by decide +kernel), ⟨(by decide +kernel), (by decide +kernel), (by decide +kernel)⟩⟩
theorem mlL_124 : Cond.methodLink R_law 124 yX9_image ∈ ab_T := ab_Tm 856 (by decide +kernel) (by decide +kernel)
theorem yvLX9_image : ab_YV yX9_image cX9_image 1 (some .int) 0 := ⟨ab_Tm 857 (by decide +kernel) (by decide +kernel), ab_Tm 858 (by decide +kernel) (by decide +kernel), ab_Tm 1 (by decide +kernel) (by decide +kernel), ab_Tm 859 (by decide +kernel) (by decide +kernel), ⟨(by decide +kernel), (by decide +kernel), (by decide +kernel)⟩⟩
theorem mlL_127 : Cond.methodLink R_law 127 yX10_image ∈ ab_T := ab_Tm 1480 (by decide +kernel) (by decide +kernel)
theorem yvLX10_image : ab_YV yX10_image cX10_image 2 (some .int) 0 := ⟨ab_Tm 1481 (by decide +kernel) (by decide +kernel), ab_Tm 1482 (by decide +kernel) (by decide +kernel), ab_Tm 12 (by decide +kernel) (by decide +kernel), ab_Tm 1483 (by decide +kernel) (by decide +kernel), ⟨(by decide +kernel), (by decide +kernel), (by decide +kernel)⟩⟩
theorem mlL_128 : Cond.methodLink R_law 128 yX9_back ∈ ab_T := ab_Tm 865 (by decide +kernel) (by decide +kernel)
theorem yvLX9_back : ab_YV yX9_back cX9_back 1 (some .int) 0 := ⟨ab_Tm 866 (by decide +kernel) (by decide +kernel), ab_Tm 867 (by decide +kernel) (by decide +kernel), ab_Tm 1 (by decide +kernel) (by decide +kernel), ab_Tm 868 (by decide +kernel) (by decide +kernel), ⟨(by decide +kernel), (by decide +kernel), (by decide +kernel)⟩⟩
theorem mlL_131 : Cond.methodLink R_law 131 yX10_back ∈ ab_T := ab_Tm 1484 (by decide +kernel) (by decide +kernel)
theorem yvLX10_back : ab_YV yX10_back cX10_back 2 (some .int) 0 := ⟨ab_Tm 1485 (by decide +kernel) (by decide +kernel), ab_Tm 1486 (by decide +kernel) (by decide +kernel), ab_Tm 12 (by decide +kernel) (by decide +kernel), ab_Tm 1487 (by decide +kernel) (by decide +kernel), ⟨(by decide +kernel), (by decide +kernel), (by decide +kernel)⟩⟩
theorem mlL_132 : Cond.methodLink R_law 132 yX9_undo ∈ ab_T := ab_Tm 869 (by decide +kernel) (by decide +kernel)
theorem yvLX9_undo : ab_YV yX9_undo cX9_undo 1 (some .int) 0 := ⟨ab_Tm 870 (by decide +kernel) (by decide +kernel), ab_Tm 871 (by decide +kernel) (by decide +kernel), ab_Tm 1 (by decide +kernel) (by decide +kernel), ab_Tm 872 (by decide +kernel) (by decide +kernel), ⟨(by decide +kernel), (by decide +kernel), (by decide +kernel)⟩⟩
theorem mlL_135 : Cond.methodLink R_law 135 yX10_undo ∈ ab_T := ab_Tm 1164 (by decide +kernel) (by decide +kernel)
theorem yvLX10_undo : ab_YV yX10_undo cX10_undo 1 (some .int) 0 := ⟨ab_Tm 1165 (by decide +kernel) (by decide +kernel), ab_Tm 1166 (by decide +kernel) (by decide +kernel), ab_Tm 12 (by decide +kernel) (by decide +kernel), ab_Tm 1167 (by decide +kernel) (by decide +kernel), ⟨(by decide +kernel), (by decide +kernel), (by decide +kernel)⟩⟩
theorem mlL_136 : Cond.methodLink R_law 136 yX9_redo ∈ ab_T := ab_Tm 878 (by decide +kernel) (by decide +kernel)
theorem yvLX9_redo : ab_YV yX9_redo cX9_redo 1 (some .int) 0 := ⟨ab_Tm 879 (by decide +kernel) (by decide +kernel), ab_Tm 880 (by decide +kernel) (by decide +kernel), ab_Tm 1 (by decide +kernel) (by decide +kernel), ab_Tm 881 (by decide +kernel) (by decide +kernel), ⟨(by decide +kernel), (by decide +kernel), (by decide +kernel)⟩⟩
theorem mlL_139 : Cond.methodLink R_law 139 yX10_redo ∈ ab_T := ab_Tm 1168 (by decide +kernel) (by decide +kernel)
theorem yvLX10_redo : ab_YV yX10_redo cX10_redo 1 (some .int) 0 := ⟨ab_Tm 1169 (by decide +kernel) (by decide +kernel), ab_Tm 1170 (by decide +kernel) (by decide +kernel), ab_Tm 12 (by decide +kernel) (by decide +kernel), ab_Tm 1171 (by decide +kernel) (by decide +kernel), ⟨(by decide +kernel), (by decide +kernel), (by decide +kernel)⟩⟩
theorem mlL_140 : Cond.methodLink R_law 140 yX9_body ∈ ab_T := ab_Tm 886 (by decide +kernel) (by decide +kernel)
theorem yvLX9_body : ab_YV yX9_body cX9_body 2 (some .int) 1 := ⟨ab_Tm 887 (by decide +kernel) (by decide +kernel), ab_Tm 888 (by decide +kernel) (by decide +kernel), ab_Tm 1 (by decide +kernel) (by decide +kernel), ab_Tm 889 (by decide +kernel) (by decide +kernel), ⟨(by decide +kernel), (by decide +kernel), (by decide +kernel)⟩⟩
theorem mlL_143 : Cond.methodLink R_law 143 yX10_body ∈ ab_T := ab_Tm 1488 (by decide +kernel) (by decide +kernel)
theorem yvLX10_body : ab_YV yX10_body cX10_body 2 (some .int) 1 := ⟨ab_Tm 1489 (by decide +kernel) (by decide +kernel), ab_Tm 1490 (by decide +kernel) (by decide +kernel), ab_Tm 12 (by decide +kernel) (by decide +kernel), ab_Tm 1491 (by decide +kernel) (by decide +kernel), ⟨(by decide +kernel), (by decide +kernel), (by decide +kernel)⟩⟩
theorem mlL_144 : Cond.methodLink R_law 144 yX9_act ∈ ab_T := ab_Tm 902 (by decide +kernel) (by decide +kernel)
theorem yvLX9_act : ab_YV yX9_act cX9_act 4 (some .int) 3 := ⟨ab_Tm 903 (by decide +kernel) (by decide +kernel), ab_Tm 904 (by decide +kernel) (by decide +kernel), ab_Tm 1 (by decide +kernel) (by decide +kernel), ab_Tm 905 (by decide +kernel) (by decide +kernel), ⟨(by decide +kernel), (by decide +kernel), (by decide +kernel)⟩⟩
theorem mlL_147 : Cond.methodLink R_law 147 yX10_act ∈ ab_T := ab_Tm 1493 (by decide +kernel) (by decide +kernel)
theorem yvLX10_act : ab_YV yX10_act cX10_act 4 (some .int) 3 := ⟨ab_Tm 1494 (by decide +kernel) (by decide +kernel), ab_Tm 1495 (by decide +kernel) (by decide +kernel), ab_Tm 12 (by decide +kernel) (by decide +kernel), ab_Tm 1496 (by decide +kernel) (by decide +kernel), ⟨(by decide +kernel), (by decide +kernel), (by decide +kernel)⟩⟩
theorem mlL_148 : Cond.methodLink R_law 148 yX9_trace ∈ ab_T := ab_Tm 931 (by decide +kernel) (by decide +kernel)
theorem yvLX9_trace : ab_YV yX9_trace cX9_trace 2 (some .int) 1 := ⟨ab_Tm 932 (by decide +kernel) (by decide +kernel), ab_Tm 933 (by decide +kernel) (by decide +kernel), ab_Tm 1 (by decide +kernel) (by decide +kernel), ab_Tm 934 (by decide +kernel) (by decide +kernel), ⟨(by decide +kernel), (by decide +kernel), (by decide +kernel)⟩⟩
theorem mlL_151 : Cond.methodLink R_law 151 yX10_trace ∈ ab_T := ab_Tm 1521 (by decide +kernel) (by decide +kernel)
theorem yvLX10_trace : ab_YV yX10_trace cX10_trace 2 (some .int) 1 := ⟨ab_Tm 1522 (by decide +kernel) (by decide +kernel), ab_Tm 1523 (by decide +kernel) (by decide +kernel), ab_Tm 12 (by decide +kernel) (by decide +kernel), ab_Tm 1524 (by decide +kernel) (by decide +kernel), ⟨(by decide +kernel), (by decide +kernel), (by decide +kernel)⟩⟩
theorem mlL_152 : Cond.methodLink R_law 152 yX9_keep ∈ ab_T := ab_Tm 939 (by decide +kernel) (by decide +kernel)
theorem yvLX9_keep : ab_YV yX9_keep cX9_keep 3 (some .int) 2 := ⟨ab_Tm 940 (by decide +kernel) (by decide +kernel), ab_Tm 941 (by decide +kernel) (by decide +kernel), ab_Tm 1 (by decide +kernel) (by decide +kernel), ab_Tm 942 (by decide +kernel) (by decide +kernel), ⟨(by decide +kernel), (by decide +kernel), (by decide +kernel)⟩⟩
theorem mlL_155 : Cond.methodLink R_law 155 yX10_keep ∈ ab_T := ab_Tm 1525 (by decide +kernel) (by decide +kernel)
theorem yvLX10_keep : ab_YV yX10_keep cX10_keep 3 (some .int) 2 := ⟨ab_Tm 1526 (by decide +kernel) (by decide +kernel), ab_Tm 1527 (by decide +kernel) (by decide +kernel), ab_Tm 12 (by decide +kernel) (by decide +kernel), ab_Tm 1528 (by decide +kernel) (by decide +kernel), ⟨(by decide +kernel), (by decide +kernel), (by decide +kernel)⟩⟩
theorem mlL_156 : Cond.methodLink R_law 156 yX9_row ∈ ab_T := ab_Tm 952 (by decide +kernel) (by decide +kernel)
theorem yvLX9_row : ab_YV yX9_row cX9_row 4 (some .int) 3 := ⟨ab_Tm 953 (by decide +kernel) (by decide +kernel), ab_Tm 954 (by decide +kernel) (by decide +kernel), ab_Tm 1 (by decide +kernel) (by decide +kernel), ab_Tm 955 (by decide +kernel) (by decide +kernel), ⟨(by decide +kernel), (by decide +kernel), (by decide +kernel)⟩⟩
theorem mlL_159 : Cond.methodLink R_law 159 yX10_row ∈ ab_T := ab_Tm 1529 (by decide +kernel) (by decide +kernel)
theorem yvLX10_row : ab_YV yX10_row cX10_row 5 (some .int) 3 := ⟨ab_Tm 1530 (by decide +kernel) (by decide +kernel), ab_Tm 1531 (by decide +kernel) (by decide +kernel), ab_Tm 12 (by decide +kernel) (by decide +kernel), ab_Tm 1532 (by decide +kernel) (by decide +kernel), ⟨(by decide +kernel), (by decide +kernel), (by decide +kernel)⟩⟩
theorem mlL_162 : Cond.methodLink R_law 162 yX9_put ∈ ab_T := ab_Tm 964 (by decide +kernel) (by decide +kernel)
theorem yvLX9_put : ab_YV yX9_put cX9_put 6 (some .int) 3 := ⟨ab_Tm 965 (by decide +kernel) (by decide +kernel), ab_Tm 966 (by decide +kernel) (by decide +kernel), ab_Tm 1 (by decide +kernel) (by decide +kernel), ab_Tm 967 (by decide +kernel) (by decide +kernel), ⟨(by decide +kernel), (by decide +kernel), (by decide +kernel)⟩⟩
theorem mlL_166 : Cond.methodLink R_law 166 yX10_put ∈ ab_T := ab_Tm 1533 (by decide +kernel) (by decide +kernel)
theorem yvLX10_put : ab_YV yX10_put cX10_put 6 (some .int) 3 := ⟨ab_Tm 1534 (by decide +kernel) (by decide +kernel), ab_Tm 1535 (by decide +kernel) (by decide +kernel), ab_Tm 12 (by decide +kernel) (by decide +kernel), ab_Tm 1536 (by decide +kernel) (by decide +kernel), ⟨(by decide +kernel), (by decide +kernel), (by decide +kernel)⟩⟩
theorem mlL_167 : Cond.methodLink R_law 167 yX9_element ∈ ab_T := ab_Tm 980 (by decide +kernel) (by decide +kernel)
theorem yvLX9_element : ab_YV yX9_element cX9_element 3 (some .long) 2 := ⟨ab_Tm 981 (by decide +kernel) (by decide +kernel), ab_Tm 982 (by decide +kernel) (by decide +kernel), ab_Tm 1 (by decide +kernel) (by decide +kernel), ab_Tm 983 (by decide +kernel) (by decide +kernel), ⟨(by decide +kernel), (by decide +kernel), (by decide +kernel)⟩⟩
theorem mlL_170 : Cond.methodLink R_law 170 yX10_element ∈ ab_T := ab_Tm 1544 (by decide +kernel) (by decide +kernel)
theorem yvLX10_element : ab_YV yX10_element cX10_element 3 (some .long) 2 := ⟨ab_Tm 1545 (by decide +kernel) (by decide +kernel), ab_Tm 1546 (by decide +kernel) (by decide +kernel), ab_Tm 12 (by decide +kernel) (by decide +kernel), ab_Tm 1547 (by decide +kernel) (by decide +kernel), ⟨(by decide +kernel), (by decide +kernel), (by decide +kernel)⟩⟩
theorem mlL_171 : Cond.methodLink R_law 171 yX9_shift ∈ ab_T := ab_Tm 984 (by decide +kernel) (by decide +kernel)
theorem yvLX9_shift : ab_YV yX9_shift cX9_shift 6 (some .int) 5 := ⟨ab_Tm 985 (by decide +kernel) (by decide +kernel), ab_Tm 986 (by decide +kernel) (by decide +kernel), ab_Tm 1 (by decide +kernel) (by decide +kernel), ab_Tm 987 (by decide +kernel) (by decide +kernel), ⟨(by decide +kernel), (by decide +kernel), (by decide +kernel)⟩⟩
theorem mlL_175 : Cond.methodLink R_law 175 yX10_shift ∈ ab_T := ab_Tm 1548 (by decide +kernel) (by decide +kernel)
theorem yvLX10_shift : ab_YV yX10_shift cX10_shift 7 (some .int) 5 := ⟨ab_Tm 1549 (by decide +kernel) (by decide +kernel), ab_Tm 1550 (by decide +kernel) (by decide +kernel), ab_Tm 12 (by decide +kernel) (by decide +kernel), ab_Tm 1551 (by decide +kernel) (by decide +kernel), ⟨(by decide +kernel), (by decide +kernel), (by decide +kernel)⟩⟩
theorem mlL_176 : Cond.methodLink R_law 176 yX9_taken ∈ ab_T := ab_Tm 997 (by decide +kernel) (by decide +kernel)
theorem yvLX9_taken : ab_YV yX9_taken cX9_taken 4 (some .int) 2 := ⟨ab_Tm 998 (by decide +kernel) (by decide +kernel), ab_Tm 999 (by decide +kernel) (by decide +kernel), ab_Tm 1 (by decide +kernel) (by decide +kernel), ab_Tm 1000 (by decide +kernel) (by decide +kernel), ⟨(by decide +kernel), (by decide +kernel), (by decide +kernel)⟩⟩
theorem mlL_179 : Cond.methodLink R_law 179 yX10_taken ∈ ab_T := ab_Tm 1552 (by decide +kernel) (by decide +kernel)
theorem yvLX10_taken : ab_YV yX10_taken cX10_taken 4 (some .int) 2 := ⟨ab_Tm 1553 (by decide +kernel) (by decide +kernel), ab_Tm 1554 (by decide +kernel) (by decide +kernel), ab_Tm 12 (by decide +kernel) (by decide +kernel), ab_Tm 1555 (by decide +kernel) (by decide +kernel), ⟨(by decide +kernel), (by decide +kernel), (by decide +kernel)⟩⟩
theorem mlL_180 : Cond.methodLink R_law 180 yX9_count ∈ ab_T := ab_Tm 1014 (by decide +kernel) (by decide +kernel)
theorem yvLX9_count : ab_YV yX9_count cX9_count 2 (some .int) 1 := ⟨ab_Tm 1015 (by decide +kernel) (by decide +kernel), ab_Tm 1016 (by decide +kernel) (by decide +kernel), ab_Tm 1 (by decide +kernel) (by decide +kernel), ab_Tm 1017 (by decide +kernel) (by decide +kernel), ⟨(by decide +kernel), (by decide +kernel), (by decide +kernel)⟩⟩
theorem mlL_183 : Cond.methodLink R_law 183 yX10_count ∈ ab_T := ab_Tm 1563 (by decide +kernel) (by decide +kernel)
theorem yvLX10_count : ab_YV yX10_count cX10_count 2 (some .int) 1 := ⟨ab_Tm 1564 (by decide +kernel) (by decide +kernel), ab_Tm 1565 (by decide +kernel) (by decide +kernel), ab_Tm 12 (by decide +kernel) (by decide +kernel), ab_Tm 1566 (by decide +kernel) (by decide +kernel), ⟨(by decide +kernel), (by decide +kernel), (by decide +kernel)⟩⟩
theorem cwL_160 : Jvm.Cond.constantLong R_law 160 (4294967295) ∈ ab_T := ab_Tm 1567 (by decide +kernel) (by decide +kernel)
section LW
variable {p : Program} {l : Launch} {e : Env} {s : State} {m : MethodId} {below : List Frame} {meth : Method} {c : Code} {b L : Nat} {xs : Nat → Int32} {D : va_G} {cA : Nat → ClassId} {adC adM : Nat → Nat → Nat}
set_option maxHeartbeats 4000000 in
theorem lw_c0 (I : lw_I p s m meth c b L xs D cA adC adM) {i : Nat} (hi : i + 6 ≤ L) (hL : L ≤ 3072) {x3 : Int32} (ex : x3 = nI i) {σc σm : ab_S} (hR : Rel i σc σm) (K : ∀ σc σm, Rel (i + 6) σc σm → lw_G p l e s m below meth c b D cA adC adM x3 1438 σc σm) : lw_G p l e s m below meth c b D cA adC adM x3 208 σc σm := by
  intro H locs ls hP hP2 hS hl
  obtain ⟨⟨hx, hb, hr, hml, hown, hts0, hX, hbl, hlk, hgv⟩, hK, hDC, hDM, hdis, hSt, hNw⟩ := I
  have hts : ∀ w ∈ ab_T, w.before #[Value.ref b] s = true := fun w h => hts0 w (List.mem_filter.mp h).1
  have hbA : ¬ lw_A s b := Nat.not_le.mpr hbl
  refine lv_aload_n hx hb dL_208 rfl (lv_at hl 1 rfl) ?_
  refine lv_aload_n hx hb dL_209 rfl (lv_at hl 0 rfl) ?_
  refine lv_iload_n hx hb dL_210 rfl (lv_at hl 3 rfl) ?_
  refine lv_iconst (v := 1) hx hb dL_211 rfl ?_
  refine lv_iadd hx hb dL_212 ?_
  refine va_sld hx hb hX hbl hbA hS (lw_in hi hL ex 1 (by decide) _ rfl) dL_213 ?_
  obtain ⟨r, σc1, σm1, h1, h2, hR1⟩ := pp_doors hR (by omega) (xs (x3 + 1).toNatClampNeg)
  refine lw_call (ad := adC) (ad2 := adM) hx hb hml hown hts hK hDC hDM hSt hNw hdis hP hP2 hS hl.1 dL_214 mlL_13 yvLX9_doors rkC_0 ⟨_, _, rfl⟩ mmC_0 (tX9_doors l _ _ h1) ⟨Nat.le_of_ble_eq_true rfl, Nat.le_of_ble_eq_true rfl⟩ (Nat.le_of_ble_eq_true rfl) rfl (Nat.le_of_ble_eq_true rfl) (fun H locs hP hP2 hS => ?_)
  refine lv_aload_n hx hb dL_217 rfl (lv_at hl 2 rfl) ?_
  refine lv_aload_n hx hb dL_218 rfl (lv_at hl 0 rfl) ?_
  refine lv_iload_n hx hb dL_219 rfl (lv_at hl 3 rfl) ?_
  refine lv_iconst (v := 1) hx hb dL_220 rfl ?_
  refine lv_iadd hx hb dL_221 ?_
  refine va_sld hx hb hX hbl hbA hS (lw_in hi hL ex 1 (by decide) _ rfl) dL_222 ?_
  refine lw_call (ad := adM) (ad2 := adC) hx hb hml hown hts hK hDM hDC (fun q h => absurd h List.not_mem_nil) hNw (fun c1 h1 c2 h2 e => hdis c2 h2 c1 h1 e.symm) hP2 hP hS hl.1 dL_223 mlL_17 yvLX10_doors rkM_0 ⟨_, _, rfl⟩ mmM_0 (tX10_doors l _ _ h2) ⟨Nat.le_of_ble_eq_true rfl, Nat.le_of_ble_eq_true rfl⟩ (Nat.le_of_ble_eq_true rfl) rfl (Nat.le_of_ble_eq_true rfl) (fun H locs hP2 hP hS => ?_)
  refine lv_icmp_eq (tgt := 1438) hx hb dL_226 (by decide) (fun _ => ?_) (fun hne => absurd rfl hne)
  exact K _ _ hR1 H locs ls hP hP2 hS hl
set_option maxHeartbeats 4000000 in
theorem lw_c1 (I : lw_I p s m meth c b L xs D cA adC adM) {i : Nat} (hi : i + 6 ≤ L) (hL : L ≤ 3072) {x3 : Int32} (ex : x3 = nI i) {σc σm : ab_S} (hR : Rel i σc σm) (K : ∀ σc σm, Rel (i + 6) σc σm → lw_G p l e s m below meth c b D cA adC adM x3 1438 σc σm) : lw_G p l e s m below meth c b D cA adC adM x3 231 σc σm := by
  intro H locs ls hP hP2 hS hl
  obtain ⟨⟨hx, hb, hr, hml, hown, hts0, hX, hbl, hlk, hgv⟩, hK, hDC, hDM, hdis, hSt, hNw⟩ := I
  have hts : ∀ w ∈ ab_T, w.before #[Value.ref b] s = true := fun w h => hts0 w (List.mem_filter.mp h).1
  have hbA : ¬ lw_A s b := Nat.not_le.mpr hbl
  refine lv_aload_n hx hb dL_231 rfl (lv_at hl 1 rfl) ?_
  refine lv_aload_n hx hb dL_232 rfl (lv_at hl 0 rfl) ?_
  refine lv_iload_n hx hb dL_233 rfl (lv_at hl 3 rfl) ?_
  refine lv_iconst (v := 1) hx hb dL_234 rfl ?_
  refine lv_iadd hx hb dL_235 ?_
  refine va_sld hx hb hX hbl hbA hS (lw_in hi hL ex 1 (by decide) _ rfl) dL_236 ?_
  refine lv_aload_n hx hb dL_237 rfl (lv_at hl 0 rfl) ?_
  refine lv_iload_n hx hb dL_238 rfl (lv_at hl 3 rfl) ?_
  refine lv_iconst (v := 2) hx hb dL_239 rfl ?_
  refine lv_iadd hx hb dL_240 ?_
  refine va_sld hx hb hX hbl hbA hS (lw_in hi hL ex 2 (by decide) _ rfl) dL_241 ?_
  refine lv_aload_n hx hb dL_242 rfl (lv_at hl 0 rfl) ?_
  refine lv_iload_n hx hb dL_243 rfl (lv_at hl 3 rfl) ?_
  refine lv_iconst (v := 3) hx hb dL_244 rfl ?_
  refine lv_iadd hx hb dL_245 ?_
  refine va_sld hx hb hX hbl hbA hS (lw_in hi hL ex 3 (by decide) _ rfl) dL_246 ?_
  obtain ⟨r, σc1, σm1, h1, h2, hR1⟩ := pp_weights hR (by omega) (xs (x3 + 1).toNatClampNeg) (xs (x3 + 2).toNatClampNeg) (xs (x3 + 3).toNatClampNeg)
  refine lw_call (ad := adC) (ad2 := adM) hx hb hml hown hts hK hDC hDM hSt hNw hdis hP hP2 hS hl.1 dL_247 mlL_18 yvLX9_weights rkC_0 ⟨_, _, rfl⟩ mmC_0 (tX9_weights l _ _ _ _ h1) ⟨Nat.le_of_ble_eq_true rfl, Nat.le_of_ble_eq_true rfl⟩ (Nat.le_of_ble_eq_true rfl) rfl (Nat.le_of_ble_eq_true rfl) (fun H locs hP hP2 hS => ?_)
  refine lv_aload_n hx hb dL_250 rfl (lv_at hl 2 rfl) ?_
  refine lv_aload_n hx hb dL_251 rfl (lv_at hl 0 rfl) ?_
  refine lv_iload_n hx hb dL_252 rfl (lv_at hl 3 rfl) ?_
  refine lv_iconst (v := 1) hx hb dL_253 rfl ?_
  refine lv_iadd hx hb dL_254 ?_
  refine va_sld hx hb hX hbl hbA hS (lw_in hi hL ex 1 (by decide) _ rfl) dL_255 ?_
  refine lv_aload_n hx hb dL_256 rfl (lv_at hl 0 rfl) ?_
  refine lv_iload_n hx hb dL_257 rfl (lv_at hl 3 rfl) ?_
  refine lv_iconst (v := 2) hx hb dL_258 rfl ?_
  refine lv_iadd hx hb dL_259 ?_
  refine va_sld hx hb hX hbl hbA hS (lw_in hi hL ex 2 (by decide) _ rfl) dL_260 ?_
  refine lv_aload_n hx hb dL_261 rfl (lv_at hl 0 rfl) ?_
  refine lv_iload_n hx hb dL_262 rfl (lv_at hl 3 rfl) ?_
  refine lv_iconst (v := 3) hx hb dL_263 rfl ?_
  refine lv_iadd hx hb dL_264 ?_
  refine va_sld hx hb hX hbl hbA hS (lw_in hi hL ex 3 (by decide) _ rfl) dL_265 ?_
  refine lw_call (ad := adM) (ad2 := adC) hx hb hml hown hts hK hDM hDC (fun q h => absurd h List.not_mem_nil) hNw (fun c1 h1 c2 h2 e => hdis c2 h2 c1 h1 e.symm) hP2 hP hS hl.1 dL_266 mlL_22 yvLX10_weights rkM_0 ⟨_, _, rfl⟩ mmM_0 (tX10_weights l _ _ _ _ h2) ⟨Nat.le_of_ble_eq_true rfl, Nat.le_of_ble_eq_true rfl⟩ (Nat.le_of_ble_eq_true rfl) rfl (Nat.le_of_ble_eq_true rfl) (fun H locs hP2 hP hS => ?_)
  refine lv_icmp_eq (tgt := 1438) hx hb dL_269 (by decide) (fun _ => ?_) (fun hne => absurd rfl hne)
  exact K _ _ hR1 H locs ls hP hP2 hS hl
set_option maxHeartbeats 4000000 in
theorem lw_c2 (I : lw_I p s m meth c b L xs D cA adC adM) {i : Nat} (hi : i + 6 ≤ L) (hL : L ≤ 3072) {x3 : Int32} (ex : x3 = nI i) {σc σm : ab_S} (hR : Rel i σc σm) (K : ∀ σc σm, Rel (i + 6) σc σm → lw_G p l e s m below meth c b D cA adC adM x3 1438 σc σm) : lw_G p l e s m below meth c b D cA adC adM x3 274 σc σm := by
  intro H locs ls hP hP2 hS hl
  obtain ⟨⟨hx, hb, hr, hml, hown, hts0, hX, hbl, hlk, hgv⟩, hK, hDC, hDM, hdis, hSt, hNw⟩ := I
  have hts : ∀ w ∈ ab_T, w.before #[Value.ref b] s = true := fun w h => hts0 w (List.mem_filter.mp h).1
  have hbA : ¬ lw_A s b := Nat.not_le.mpr hbl
  refine lv_aload_n hx hb dL_274 rfl (lv_at hl 1 rfl) ?_
  refine lv_aload_n hx hb dL_275 rfl (lv_at hl 0 rfl) ?_
  refine lv_iload_n hx hb dL_276 rfl (lv_at hl 3 rfl) ?_
  refine lv_iconst (v := 1) hx hb dL_277 rfl ?_
  refine lv_iadd hx hb dL_278 ?_
  refine va_sld hx hb hX hbl hbA hS (lw_in hi hL ex 1 (by decide) _ rfl) dL_279 ?_
  refine lv_aload_n hx hb dL_280 rfl (lv_at hl 0 rfl) ?_
  refine lv_iload_n hx hb dL_281 rfl (lv_at hl 3 rfl) ?_
  refine lv_iconst (v := 2) hx hb dL_282 rfl ?_
  refine lv_iadd hx hb dL_283 ?_
  refine va_sld hx hb hX hbl hbA hS (lw_in hi hL ex 2 (by decide) _ rfl) dL_284 ?_
  refine lv_aload_n hx hb dL_285 rfl (lv_at hl 0 rfl) ?_
  refine lv_iload_n hx hb dL_286 rfl (lv_at hl 3 rfl) ?_
  refine lv_iconst (v := 3) hx hb dL_287 rfl ?_
  refine lv_iadd hx hb dL_288 ?_
  refine va_sld hx hb hX hbl hbA hS (lw_in hi hL ex 3 (by decide) _ rfl) dL_289 ?_
  obtain ⟨r, σc1, σm1, h1, h2, hR1⟩ := pp_mend hR (by omega) (xs (x3 + 1).toNatClampNeg) (xs (x3 + 2).toNatClampNeg) (xs (x3 + 3).toNatClampNeg)
  refine lw_call (ad := adC) (ad2 := adM) hx hb hml hown hts hK hDC hDM hSt hNw hdis hP hP2 hS hl.1 dL_290 mlL_23 yvLX9_mend rkC_0 ⟨_, _, rfl⟩ mmC_0 (tX9_mend l _ _ _ _ h1) ⟨Nat.le_of_ble_eq_true rfl, Nat.le_of_ble_eq_true rfl⟩ (Nat.le_of_ble_eq_true rfl) rfl (Nat.le_of_ble_eq_true rfl) (fun H locs hP hP2 hS => ?_)
  refine lv_aload_n hx hb dL_293 rfl (lv_at hl 2 rfl) ?_
  refine lv_aload_n hx hb dL_294 rfl (lv_at hl 0 rfl) ?_
  refine lv_iload_n hx hb dL_295 rfl (lv_at hl 3 rfl) ?_
  refine lv_iconst (v := 1) hx hb dL_296 rfl ?_
  refine lv_iadd hx hb dL_297 ?_
  refine va_sld hx hb hX hbl hbA hS (lw_in hi hL ex 1 (by decide) _ rfl) dL_298 ?_
  refine lv_aload_n hx hb dL_299 rfl (lv_at hl 0 rfl) ?_
  refine lv_iload_n hx hb dL_300 rfl (lv_at hl 3 rfl) ?_
  refine lv_iconst (v := 2) hx hb dL_301 rfl ?_
  refine lv_iadd hx hb dL_302 ?_
  refine va_sld hx hb hX hbl hbA hS (lw_in hi hL ex 2 (by decide) _ rfl) dL_303 ?_
  refine lv_aload_n hx hb dL_304 rfl (lv_at hl 0 rfl) ?_
  refine lv_iload_n hx hb dL_305 rfl (lv_at hl 3 rfl) ?_
  refine lv_iconst (v := 3) hx hb dL_306 rfl ?_
  refine lv_iadd hx hb dL_307 ?_
  refine va_sld hx hb hX hbl hbA hS (lw_in hi hL ex 3 (by decide) _ rfl) dL_308 ?_
  refine lw_call (ad := adM) (ad2 := adC) hx hb hml hown hts hK hDM hDC (fun q h => absurd h List.not_mem_nil) hNw (fun c1 h1 c2 h2 e => hdis c2 h2 c1 h1 e.symm) hP2 hP hS hl.1 dL_309 mlL_26 yvLX10_mend rkM_0 ⟨_, _, rfl⟩ mmM_0 (tX10_mend l _ _ _ _ h2) ⟨Nat.le_of_ble_eq_true rfl, Nat.le_of_ble_eq_true rfl⟩ (Nat.le_of_ble_eq_true rfl) rfl (Nat.le_of_ble_eq_true rfl) (fun H locs hP2 hP hS => ?_)
  refine lv_icmp_eq (tgt := 1438) hx hb dL_312 (by decide) (fun _ => ?_) (fun hne => absurd rfl hne)
  exact K _ _ hR1 H locs ls hP hP2 hS hl
set_option maxHeartbeats 4000000 in
theorem lw_c3 (I : lw_I p s m meth c b L xs D cA adC adM) {i : Nat} (hi : i + 6 ≤ L) (hL : L ≤ 3072) {x3 : Int32} (ex : x3 = nI i) {σc σm : ab_S} (hR : Rel i σc σm) (K : ∀ σc σm, Rel (i + 6) σc σm → lw_G p l e s m below meth c b D cA adC adM x3 1438 σc σm) : lw_G p l e s m below meth c b D cA adC adM x3 317 σc σm := by
  intro H locs ls hP hP2 hS hl
  obtain ⟨⟨hx, hb, hr, hml, hown, hts0, hX, hbl, hlk, hgv⟩, hK, hDC, hDM, hdis, hSt, hNw⟩ := I
  have hts : ∀ w ∈ ab_T, w.before #[Value.ref b] s = true := fun w h => hts0 w (List.mem_filter.mp h).1
  have hbA : ¬ lw_A s b := Nat.not_le.mpr hbl
  refine lv_aload_n hx hb dL_317 rfl (lv_at hl 1 rfl) ?_
  refine lv_aload_n hx hb dL_318 rfl (lv_at hl 0 rfl) ?_
  refine lv_iload_n hx hb dL_319 rfl (lv_at hl 3 rfl) ?_
  refine lv_iconst (v := 1) hx hb dL_320 rfl ?_
  refine lv_iadd hx hb dL_321 ?_
  refine va_sld hx hb hX hbl hbA hS (lw_in hi hL ex 1 (by decide) _ rfl) dL_322 ?_
  refine lv_aload_n hx hb dL_323 rfl (lv_at hl 0 rfl) ?_
  refine lv_iload_n hx hb dL_324 rfl (lv_at hl 3 rfl) ?_
  refine lv_iconst (v := 2) hx hb dL_325 rfl ?_
  refine lv_iadd hx hb dL_326 ?_
  refine va_sld hx hb hX hbl hbA hS (lw_in hi hL ex 2 (by decide) _ rfl) dL_327 ?_
  obtain ⟨r, h1, h2, hR1⟩ := pp_of hR (by omega) (xs (x3 + 1).toNatClampNeg) (xs (x3 + 2).toNatClampNeg)
  refine lw_call (ad := adC) (ad2 := adM) hx hb hml hown hts hK hDC hDM hSt hNw hdis hP hP2 hS hl.1 dL_328 mlL_27 yvLX9_of rkC_0 ⟨_, _, rfl⟩ mmC_0 (tX9_of l _ _ _ h1) ⟨Nat.le_of_ble_eq_true rfl, Nat.le_of_ble_eq_true rfl⟩ (Nat.le_of_ble_eq_true rfl) rfl (Nat.le_of_ble_eq_true rfl) (fun H locs hP hP2 hS => ?_)
  refine lv_aload_n hx hb dL_331 rfl (lv_at hl 2 rfl) ?_
  refine lv_aload_n hx hb dL_332 rfl (lv_at hl 0 rfl) ?_
  refine lv_iload_n hx hb dL_333 rfl (lv_at hl 3 rfl) ?_
  refine lv_iconst (v := 1) hx hb dL_334 rfl ?_
  refine lv_iadd hx hb dL_335 ?_
  refine va_sld hx hb hX hbl hbA hS (lw_in hi hL ex 1 (by decide) _ rfl) dL_336 ?_
  refine lv_aload_n hx hb dL_337 rfl (lv_at hl 0 rfl) ?_
  refine lv_iload_n hx hb dL_338 rfl (lv_at hl 3 rfl) ?_
  refine lv_iconst (v := 2) hx hb dL_339 rfl ?_
  refine lv_iadd hx hb dL_340 ?_
  refine va_sld hx hb hX hbl hbA hS (lw_in hi hL ex 2 (by decide) _ rfl) dL_341 ?_
  refine lw_call (ad := adM) (ad2 := adC) hx hb hml hown hts hK hDM hDC (fun q h => absurd h List.not_mem_nil) hNw (fun c1 h1 c2 h2 e => hdis c2 h2 c1 h1 e.symm) hP2 hP hS hl.1 dL_342 mlL_31 yvLX10_of rkM_0 ⟨_, _, rfl⟩ mmM_0 (tX10_of l _ _ _ h2) ⟨Nat.le_of_ble_eq_true rfl, Nat.le_of_ble_eq_true rfl⟩ (Nat.le_of_ble_eq_true rfl) rfl (Nat.le_of_ble_eq_true rfl) (fun H locs hP2 hP hS => ?_)
  refine lv_icmp_eq (tgt := 1438) hx hb dL_345 (by decide) (fun _ => ?_) (fun hne => absurd rfl hne)
  exact K _ _ hR1 H locs ls hP hP2 hS hl
set_option maxHeartbeats 4000000 in
theorem lw_c4 (I : lw_I p s m meth c b L xs D cA adC adM) {i : Nat} (hi : i + 6 ≤ L) (hL : L ≤ 3072) {x3 : Int32} (ex : x3 = nI i) {σc σm : ab_S} (hR : Rel i σc σm) (K : ∀ σc σm, Rel (i + 6) σc σm → lw_G p l e s m below meth c b D cA adC adM x3 1438 σc σm) : lw_G p l e s m below meth c b D cA adC adM x3 350 σc σm := by
  intro H locs ls hP hP2 hS hl
  obtain ⟨⟨hx, hb, hr, hml, hown, hts0, hX, hbl, hlk, hgv⟩, hK, hDC, hDM, hdis, hSt, hNw⟩ := I
  have hts : ∀ w ∈ ab_T, w.before #[Value.ref b] s = true := fun w h => hts0 w (List.mem_filter.mp h).1
  have hbA : ¬ lw_A s b := Nat.not_le.mpr hbl
  refine lv_aload_n hx hb dL_350 rfl (lv_at hl 1 rfl) ?_
  refine lv_aload_n hx hb dL_351 rfl (lv_at hl 0 rfl) ?_
  refine lv_iload_n hx hb dL_352 rfl (lv_at hl 3 rfl) ?_
  refine lv_iconst (v := 1) hx hb dL_353 rfl ?_
  refine lv_iadd hx hb dL_354 ?_
  refine va_sld hx hb hX hbl hbA hS (lw_in hi hL ex 1 (by decide) _ rfl) dL_355 ?_
  obtain ⟨r, σc1, σm1, h1, h2, hR1⟩ := pp_feed hR (by omega) (xs (x3 + 1).toNatClampNeg)
  refine lw_call (ad := adC) (ad2 := adM) hx hb hml hown hts hK hDC hDM hSt hNw hdis hP hP2 hS hl.1 dL_356 mlL_32 yvLX9_feed rkC_0 ⟨_, _, rfl⟩ mmC_0 (tX9_feed l _ _ h1) ⟨Nat.le_of_ble_eq_true rfl, Nat.le_of_ble_eq_true rfl⟩ (Nat.le_of_ble_eq_true rfl) rfl (Nat.le_of_ble_eq_true rfl) (fun H locs hP hP2 hS => ?_)
  refine lv_aload_n hx hb dL_359 rfl (lv_at hl 2 rfl) ?_
  refine lv_aload_n hx hb dL_360 rfl (lv_at hl 0 rfl) ?_
  refine lv_iload_n hx hb dL_361 rfl (lv_at hl 3 rfl) ?_
  refine lv_iconst (v := 1) hx hb dL_362 rfl ?_
  refine lv_iadd hx hb dL_363 ?_
  refine va_sld hx hb hX hbl hbA hS (lw_in hi hL ex 1 (by decide) _ rfl) dL_364 ?_
  refine lw_call (ad := adM) (ad2 := adC) hx hb hml hown hts hK hDM hDC (fun q h => absurd h List.not_mem_nil) hNw (fun c1 h1 c2 h2 e => hdis c2 h2 c1 h1 e.symm) hP2 hP hS hl.1 dL_365 mlL_35 yvLX10_feed rkM_0 ⟨_, _, rfl⟩ mmM_0 (tX10_feed l _ _ h2) ⟨Nat.le_of_ble_eq_true rfl, Nat.le_of_ble_eq_true rfl⟩ (Nat.le_of_ble_eq_true rfl) rfl (Nat.le_of_ble_eq_true rfl) (fun H locs hP2 hP hS => ?_)
  refine lv_icmp_eq (tgt := 1438) hx hb dL_368 (by decide) (fun _ => ?_) (fun hne => absurd rfl hne)
  exact K _ _ hR1 H locs ls hP hP2 hS hl
set_option maxHeartbeats 4000000 in
theorem lw_c5 (I : lw_I p s m meth c b L xs D cA adC adM) {i : Nat} (hi : i + 6 ≤ L) (hL : L ≤ 3072) {x3 : Int32} (ex : x3 = nI i) {σc σm : ab_S} (hR : Rel i σc σm) (K : ∀ σc σm, Rel (i + 6) σc σm → lw_G p l e s m below meth c b D cA adC adM x3 1438 σc σm) : lw_G p l e s m below meth c b D cA adC adM x3 373 σc σm := by
  intro H locs ls hP hP2 hS hl
  obtain ⟨⟨hx, hb, hr, hml, hown, hts0, hX, hbl, hlk, hgv⟩, hK, hDC, hDM, hdis, hSt, hNw⟩ := I
  have hts : ∀ w ∈ ab_T, w.before #[Value.ref b] s = true := fun w h => hts0 w (List.mem_filter.mp h).1
  have hbA : ¬ lw_A s b := Nat.not_le.mpr hbl
  refine lv_aload_n hx hb dL_373 rfl (lv_at hl 1 rfl) ?_
  refine lv_aload_n hx hb dL_374 rfl (lv_at hl 0 rfl) ?_
  refine lv_iload_n hx hb dL_375 rfl (lv_at hl 3 rfl) ?_
  refine lv_iconst (v := 1) hx hb dL_376 rfl ?_
  refine lv_iadd hx hb dL_377 ?_
  refine va_sld hx hb hX hbl hbA hS (lw_in hi hL ex 1 (by decide) _ rfl) dL_378 ?_
  obtain ⟨r, σc1, σm1, h1, h2, hR1⟩ := pp_law hR (by omega) (xs (x3 + 1).toNatClampNeg)
  refine lw_call (ad := adC) (ad2 := adM) hx hb hml hown hts hK hDC hDM hSt hNw hdis hP hP2 hS hl.1 dL_379 mlL_36 yvLX9_law rkC_0 ⟨_, _, rfl⟩ mmC_0 (tX9_law l _ _ h1) ⟨Nat.le_of_ble_eq_true rfl, Nat.le_of_ble_eq_true rfl⟩ (Nat.le_of_ble_eq_true rfl) rfl (Nat.le_of_ble_eq_true rfl) (fun H locs hP hP2 hS => ?_)
  refine lv_aload_n hx hb dL_382 rfl (lv_at hl 2 rfl) ?_
  refine lv_aload_n hx hb dL_383 rfl (lv_at hl 0 rfl) ?_
  refine lv_iload_n hx hb dL_384 rfl (lv_at hl 3 rfl) ?_
  refine lv_iconst (v := 1) hx hb dL_385 rfl ?_
  refine lv_iadd hx hb dL_386 ?_
  refine va_sld hx hb hX hbl hbA hS (lw_in hi hL ex 1 (by decide) _ rfl) dL_387 ?_
  refine lw_call (ad := adM) (ad2 := adC) hx hb hml hown hts hK hDM hDC (fun q h => absurd h List.not_mem_nil) hNw (fun c1 h1 c2 h2 e => hdis c2 h2 c1 h1 e.symm) hP2 hP hS hl.1 dL_388 mlL_39 yvLX10_law rkM_0 ⟨_, _, rfl⟩ mmM_0 (tX10_law l _ _ h2) ⟨Nat.le_of_ble_eq_true rfl, Nat.le_of_ble_eq_true rfl⟩ (Nat.le_of_ble_eq_true rfl) rfl (Nat.le_of_ble_eq_true rfl) (fun H locs hP2 hP hS => ?_)
  refine lv_icmp_eq (tgt := 1438) hx hb dL_391 (by decide) (fun _ => ?_) (fun hne => absurd rfl hne)
  exact K _ _ hR1 H locs ls hP hP2 hS hl
set_option maxHeartbeats 4000000 in
theorem lw_c6 (I : lw_I p s m meth c b L xs D cA adC adM) {i : Nat} (hi : i + 6 ≤ L) (hL : L ≤ 3072) {x3 : Int32} (ex : x3 = nI i) {σc σm : ab_S} (hR : Rel i σc σm) (K : ∀ σc σm, Rel (i + 6) σc σm → lw_G p l e s m below meth c b D cA adC adM x3 1438 σc σm) : lw_G p l e s m below meth c b D cA adC adM x3 396 σc σm := by
  intro H locs ls hP hP2 hS hl
  obtain ⟨⟨hx, hb, hr, hml, hown, hts0, hX, hbl, hlk, hgv⟩, hK, hDC, hDM, hdis, hSt, hNw⟩ := I
  have hts : ∀ w ∈ ab_T, w.before #[Value.ref b] s = true := fun w h => hts0 w (List.mem_filter.mp h).1
  have hbA : ¬ lw_A s b := Nat.not_le.mpr hbl
  refine lv_aload_n hx hb dL_396 rfl (lv_at hl 1 rfl) ?_
  refine lv_aload_n hx hb dL_397 rfl (lv_at hl 0 rfl) ?_
  refine lv_iload_n hx hb dL_398 rfl (lv_at hl 3 rfl) ?_
  refine lv_iconst (v := 1) hx hb dL_399 rfl ?_
  refine lv_iadd hx hb dL_400 ?_
  refine va_sld hx hb hX hbl hbA hS (lw_in hi hL ex 1 (by decide) _ rfl) dL_401 ?_
  obtain ⟨r, σc1, σm1, h1, h2, hR1⟩ := pp_opens hR (by omega) (xs (x3 + 1).toNatClampNeg)
  refine lw_call (ad := adC) (ad2 := adM) hx hb hml hown hts hK hDC hDM hSt hNw hdis hP hP2 hS hl.1 dL_402 mlL_40 yvLX9_opens rkC_0 ⟨_, _, rfl⟩ mmC_0 (tX9_opens l _ _ h1) ⟨Nat.le_of_ble_eq_true rfl, Nat.le_of_ble_eq_true rfl⟩ (Nat.le_of_ble_eq_true rfl) rfl (Nat.le_of_ble_eq_true rfl) (fun H locs hP hP2 hS => ?_)
  refine lv_aload_n hx hb dL_405 rfl (lv_at hl 2 rfl) ?_
  refine lv_aload_n hx hb dL_406 rfl (lv_at hl 0 rfl) ?_
  refine lv_iload_n hx hb dL_407 rfl (lv_at hl 3 rfl) ?_
  refine lv_iconst (v := 1) hx hb dL_408 rfl ?_
  refine lv_iadd hx hb dL_409 ?_
  refine va_sld hx hb hX hbl hbA hS (lw_in hi hL ex 1 (by decide) _ rfl) dL_410 ?_
  refine lw_call (ad := adM) (ad2 := adC) hx hb hml hown hts hK hDM hDC (fun q h => absurd h List.not_mem_nil) hNw (fun c1 h1 c2 h2 e => hdis c2 h2 c1 h1 e.symm) hP2 hP hS hl.1 dL_411 mlL_43 yvLX10_opens rkM_0 ⟨_, _, rfl⟩ mmM_0 (tX10_opens l _ _ h2) ⟨Nat.le_of_ble_eq_true rfl, Nat.le_of_ble_eq_true rfl⟩ (Nat.le_of_ble_eq_true rfl) rfl (Nat.le_of_ble_eq_true rfl) (fun H locs hP2 hP hS => ?_)
  refine lv_icmp_eq (tgt := 1438) hx hb dL_414 (by decide) (fun _ => ?_) (fun hne => absurd rfl hne)
  exact K _ _ hR1 H locs ls hP hP2 hS hl
set_option maxHeartbeats 4000000 in
theorem lw_c7 (I : lw_I p s m meth c b L xs D cA adC adM) {i : Nat} (hi : i + 6 ≤ L) (hL : L ≤ 3072) {x3 : Int32} (ex : x3 = nI i) {σc σm : ab_S} (hR : Rel i σc σm) (K : ∀ σc σm, Rel (i + 6) σc σm → lw_G p l e s m below meth c b D cA adC adM x3 1438 σc σm) : lw_G p l e s m below meth c b D cA adC adM x3 419 σc σm := by
  intro H locs ls hP hP2 hS hl
  obtain ⟨⟨hx, hb, hr, hml, hown, hts0, hX, hbl, hlk, hgv⟩, hK, hDC, hDM, hdis, hSt, hNw⟩ := I
  have hts : ∀ w ∈ ab_T, w.before #[Value.ref b] s = true := fun w h => hts0 w (List.mem_filter.mp h).1
  have hbA : ¬ lw_A s b := Nat.not_le.mpr hbl
  refine lv_aload_n hx hb dL_419 rfl (lv_at hl 1 rfl) ?_
  refine lv_aload_n hx hb dL_420 rfl (lv_at hl 0 rfl) ?_
  refine lv_iload_n hx hb dL_421 rfl (lv_at hl 3 rfl) ?_
  refine lv_iconst (v := 1) hx hb dL_422 rfl ?_
  refine lv_iadd hx hb dL_423 ?_
  refine va_sld hx hb hX hbl hbA hS (lw_in hi hL ex 1 (by decide) _ rfl) dL_424 ?_
  obtain ⟨r, σc1, σm1, h1, h2, hR1⟩ := pp_choose hR (by omega) (xs (x3 + 1).toNatClampNeg)
  refine lw_call (ad := adC) (ad2 := adM) hx hb hml hown hts hK hDC hDM hSt hNw hdis hP hP2 hS hl.1 dL_425 mlL_44 yvLX9_choose rkC_0 ⟨_, _, rfl⟩ mmC_0 (tX9_choose l _ _ h1) ⟨Nat.le_of_ble_eq_true rfl, Nat.le_of_ble_eq_true rfl⟩ (Nat.le_of_ble_eq_true rfl) rfl (Nat.le_of_ble_eq_true rfl) (fun H locs hP hP2 hS => ?_)
  refine lv_aload_n hx hb dL_428 rfl (lv_at hl 2 rfl) ?_
  refine lv_aload_n hx hb dL_429 rfl (lv_at hl 0 rfl) ?_
  refine lv_iload_n hx hb dL_430 rfl (lv_at hl 3 rfl) ?_
  refine lv_iconst (v := 1) hx hb dL_431 rfl ?_
  refine lv_iadd hx hb dL_432 ?_
  refine va_sld hx hb hX hbl hbA hS (lw_in hi hL ex 1 (by decide) _ rfl) dL_433 ?_
  refine lw_call (ad := adM) (ad2 := adC) hx hb hml hown hts hK hDM hDC (fun q h => absurd h List.not_mem_nil) hNw (fun c1 h1 c2 h2 e => hdis c2 h2 c1 h1 e.symm) hP2 hP hS hl.1 dL_434 mlL_47 yvLX10_choose rkM_0 ⟨_, _, rfl⟩ mmM_0 (tX10_choose l _ _ h2) ⟨Nat.le_of_ble_eq_true rfl, Nat.le_of_ble_eq_true rfl⟩ (Nat.le_of_ble_eq_true rfl) rfl (Nat.le_of_ble_eq_true rfl) (fun H locs hP2 hP hS => ?_)
  refine lv_icmp_eq (tgt := 1438) hx hb dL_437 (by decide) (fun _ => ?_) (fun hne => absurd rfl hne)
  exact K _ _ hR1 H locs ls hP hP2 hS hl
set_option maxHeartbeats 4000000 in
theorem lw_c8 (I : lw_I p s m meth c b L xs D cA adC adM) {i : Nat} (hi : i + 6 ≤ L) (hL : L ≤ 3072) {x3 : Int32} (ex : x3 = nI i) {σc σm : ab_S} (hR : Rel i σc σm) (K : ∀ σc σm, Rel (i + 6) σc σm → lw_G p l e s m below meth c b D cA adC adM x3 1438 σc σm) : lw_G p l e s m below meth c b D cA adC adM x3 442 σc σm := by
  intro H locs ls hP hP2 hS hl
  obtain ⟨⟨hx, hb, hr, hml, hown, hts0, hX, hbl, hlk, hgv⟩, hK, hDC, hDM, hdis, hSt, hNw⟩ := I
  have hts : ∀ w ∈ ab_T, w.before #[Value.ref b] s = true := fun w h => hts0 w (List.mem_filter.mp h).1
  have hbA : ¬ lw_A s b := Nat.not_le.mpr hbl
  refine lv_aload_n hx hb dL_442 rfl (lv_at hl 1 rfl) ?_
  refine lv_aload_n hx hb dL_443 rfl (lv_at hl 0 rfl) ?_
  refine lv_iload_n hx hb dL_444 rfl (lv_at hl 3 rfl) ?_
  refine lv_iconst (v := 1) hx hb dL_445 rfl ?_
  refine lv_iadd hx hb dL_446 ?_
  refine va_sld hx hb hX hbl hbA hS (lw_in hi hL ex 1 (by decide) _ rfl) dL_447 ?_
  obtain ⟨r, σc1, σm1, h1, h2, hR1⟩ := pp_opened hR (by omega) (xs (x3 + 1).toNatClampNeg)
  refine lw_call (ad := adC) (ad2 := adM) hx hb hml hown hts hK hDC hDM hSt hNw hdis hP hP2 hS hl.1 dL_448 mlL_48 yvLX9_opened rkC_0 ⟨_, _, rfl⟩ mmC_0 (tX9_opened l _ _ h1) ⟨Nat.le_of_ble_eq_true rfl, Nat.le_of_ble_eq_true rfl⟩ (Nat.le_of_ble_eq_true rfl) rfl (Nat.le_of_ble_eq_true rfl) (fun H locs hP hP2 hS => ?_)
  refine lv_aload_n hx hb dL_451 rfl (lv_at hl 2 rfl) ?_
  refine lv_aload_n hx hb dL_452 rfl (lv_at hl 0 rfl) ?_
  refine lv_iload_n hx hb dL_453 rfl (lv_at hl 3 rfl) ?_
  refine lv_iconst (v := 1) hx hb dL_454 rfl ?_
  refine lv_iadd hx hb dL_455 ?_
  refine va_sld hx hb hX hbl hbA hS (lw_in hi hL ex 1 (by decide) _ rfl) dL_456 ?_
  refine lw_call (ad := adM) (ad2 := adC) hx hb hml hown hts hK hDM hDC (fun q h => absurd h List.not_mem_nil) hNw (fun c1 h1 c2 h2 e => hdis c2 h2 c1 h1 e.symm) hP2 hP hS hl.1 dL_457 mlL_51 yvLX10_opened rkM_0 ⟨_, _, rfl⟩ mmM_0 (tX10_opened l _ _ h2) ⟨Nat.le_of_ble_eq_true rfl, Nat.le_of_ble_eq_true rfl⟩ (Nat.le_of_ble_eq_true rfl) rfl (Nat.le_of_ble_eq_true rfl) (fun H locs hP2 hP hS => ?_)
  refine lv_icmp_eq (tgt := 1438) hx hb dL_460 (by decide) (fun _ => ?_) (fun hne => absurd rfl hne)
  exact K _ _ hR1 H locs ls hP hP2 hS hl
set_option maxHeartbeats 4000000 in
theorem lw_c9 (I : lw_I p s m meth c b L xs D cA adC adM) {i : Nat} (hi : i + 6 ≤ L) (hL : L ≤ 3072) {x3 : Int32} (ex : x3 = nI i) {σc σm : ab_S} (hR : Rel i σc σm) (K : ∀ σc σm, Rel (i + 6) σc σm → lw_G p l e s m below meth c b D cA adC adM x3 1438 σc σm) : lw_G p l e s m below meth c b D cA adC adM x3 465 σc σm := by
  intro H locs ls hP hP2 hS hl
  obtain ⟨⟨hx, hb, hr, hml, hown, hts0, hX, hbl, hlk, hgv⟩, hK, hDC, hDM, hdis, hSt, hNw⟩ := I
  have hts : ∀ w ∈ ab_T, w.before #[Value.ref b] s = true := fun w h => hts0 w (List.mem_filter.mp h).1
  have hbA : ¬ lw_A s b := Nat.not_le.mpr hbl
  refine lv_aload_n hx hb dL_465 rfl (lv_at hl 1 rfl) ?_
  obtain ⟨r, σc1, σm1, h1, h2, hR1⟩ := pp_anew hR (by omega) 
  refine lw_call (ad := adC) (ad2 := adM) hx hb hml hown hts hK hDC hDM hSt hNw hdis hP hP2 hS hl.1 dL_466 mlL_52 yvLX9_anew rkC_0 ⟨_, _, rfl⟩ mmC_0 (tX9_anew l _ h1) ⟨Nat.le_of_ble_eq_true rfl, Nat.le_of_ble_eq_true rfl⟩ (Nat.le_of_ble_eq_true rfl) rfl (Nat.le_of_ble_eq_true rfl) (fun H locs hP hP2 hS => ?_)
  refine lv_aload_n hx hb dL_469 rfl (lv_at hl 2 rfl) ?_
  refine lw_call (ad := adM) (ad2 := adC) hx hb hml hown hts hK hDM hDC (fun q h => absurd h List.not_mem_nil) hNw (fun c1 h1 c2 h2 e => hdis c2 h2 c1 h1 e.symm) hP2 hP hS hl.1 dL_470 mlL_56 yvLX10_anew rkM_0 ⟨_, _, rfl⟩ mmM_0 (tX10_anew l _ h2) ⟨Nat.le_of_ble_eq_true rfl, Nat.le_of_ble_eq_true rfl⟩ (Nat.le_of_ble_eq_true rfl) rfl (Nat.le_of_ble_eq_true rfl) (fun H locs hP2 hP hS => ?_)
  refine lv_icmp_eq (tgt := 1438) hx hb dL_473 (by decide) (fun _ => ?_) (fun hne => absurd rfl hne)
  exact K _ _ hR1 H locs ls hP hP2 hS hl
set_option maxHeartbeats 4000000 in
theorem lw_c10 (I : lw_I p s m meth c b L xs D cA adC adM) {i : Nat} (hi : i + 6 ≤ L) (hL : L ≤ 3072) {x3 : Int32} (ex : x3 = nI i) {σc σm : ab_S} (hR : Rel i σc σm) (K : ∀ σc σm, Rel (i + 6) σc σm → lw_G p l e s m below meth c b D cA adC adM x3 1438 σc σm) : lw_G p l e s m below meth c b D cA adC adM x3 478 σc σm := by
  intro H locs ls hP hP2 hS hl
  obtain ⟨⟨hx, hb, hr, hml, hown, hts0, hX, hbl, hlk, hgv⟩, hK, hDC, hDM, hdis, hSt, hNw⟩ := I
  have hts : ∀ w ∈ ab_T, w.before #[Value.ref b] s = true := fun w h => hts0 w (List.mem_filter.mp h).1
  have hbA : ¬ lw_A s b := Nat.not_le.mpr hbl
  refine lv_aload_n hx hb dL_478 rfl (lv_at hl 1 rfl) ?_
  refine lv_aload_n hx hb dL_479 rfl (lv_at hl 0 rfl) ?_
  refine lv_iload_n hx hb dL_480 rfl (lv_at hl 3 rfl) ?_
  refine lv_iconst (v := 1) hx hb dL_481 rfl ?_
  refine lv_iadd hx hb dL_482 ?_
  refine va_sld hx hb hX hbl hbA hS (lw_in hi hL ex 1 (by decide) _ rfl) dL_483 ?_
  refine lv_aload_n hx hb dL_484 rfl (lv_at hl 0 rfl) ?_
  refine lv_iload_n hx hb dL_485 rfl (lv_at hl 3 rfl) ?_
  refine lv_iconst (v := 2) hx hb dL_486 rfl ?_
  refine lv_iadd hx hb dL_487 ?_
  refine va_sld hx hb hX hbl hbA hS (lw_in hi hL ex 2 (by decide) _ rfl) dL_488 ?_
  obtain ⟨r, σc1, σm1, h1, h2, hR1⟩ := pp_likely hR (by omega) (xs (x3 + 1).toNatClampNeg) (xs (x3 + 2).toNatClampNeg)
  refine lw_call (ad := adC) (ad2 := adM) hx hb hml hown hts hK hDC hDM hSt hNw hdis hP hP2 hS hl.1 dL_489 mlL_57 yvLX9_likely rkC_0 ⟨_, _, rfl⟩ mmC_0 (tX9_likely l _ _ _ h1) ⟨Nat.le_of_ble_eq_true rfl, Nat.le_of_ble_eq_true rfl⟩ (Nat.le_of_ble_eq_true rfl) rfl (Nat.le_of_ble_eq_true rfl) (fun H locs hP hP2 hS => ?_)
  refine lv_aload_n hx hb dL_492 rfl (lv_at hl 2 rfl) ?_
  refine lv_aload_n hx hb dL_493 rfl (lv_at hl 0 rfl) ?_
  refine lv_iload_n hx hb dL_494 rfl (lv_at hl 3 rfl) ?_
  refine lv_iconst (v := 1) hx hb dL_495 rfl ?_
  refine lv_iadd hx hb dL_496 ?_
  refine va_sld hx hb hX hbl hbA hS (lw_in hi hL ex 1 (by decide) _ rfl) dL_497 ?_
  refine lv_aload_n hx hb dL_498 rfl (lv_at hl 0 rfl) ?_
  refine lv_iload_n hx hb dL_499 rfl (lv_at hl 3 rfl) ?_
  refine lv_iconst (v := 2) hx hb dL_500 rfl ?_
  refine lv_iadd hx hb dL_501 ?_
  refine va_sld hx hb hX hbl hbA hS (lw_in hi hL ex 2 (by decide) _ rfl) dL_502 ?_
  refine lw_call (ad := adM) (ad2 := adC) hx hb hml hown hts hK hDM hDC (fun q h => absurd h List.not_mem_nil) hNw (fun c1 h1 c2 h2 e => hdis c2 h2 c1 h1 e.symm) hP2 hP hS hl.1 dL_503 mlL_61 yvLX10_likely rkM_0 ⟨_, _, rfl⟩ mmM_0 (tX10_likely l _ _ _ h2) ⟨Nat.le_of_ble_eq_true rfl, Nat.le_of_ble_eq_true rfl⟩ (Nat.le_of_ble_eq_true rfl) rfl (Nat.le_of_ble_eq_true rfl) (fun H locs hP2 hP hS => ?_)
  refine W.lcmp hx hb dL_506 ?_
  refine lv_if_eq (tgt := 1438) hx hb dL_507 (by decide) (fun _ => ?_) (fun hne => absurd ((lg_cmp_eq _ _).mpr rfl) hne)
  exact K _ _ hR1 H locs ls hP hP2 hS hl
set_option maxHeartbeats 4000000 in
theorem lw_c11 (I : lw_I p s m meth c b L xs D cA adC adM) {i : Nat} (hi : i + 6 ≤ L) (hL : L ≤ 3072) {x3 : Int32} (ex : x3 = nI i) {σc σm : ab_S} (hR : Rel i σc σm) (K : ∀ σc σm, Rel (i + 6) σc σm → lw_G p l e s m below meth c b D cA adC adM x3 1438 σc σm) : lw_G p l e s m below meth c b D cA adC adM x3 512 σc σm := by
  intro H locs ls hP hP2 hS hl
  obtain ⟨⟨hx, hb, hr, hml, hown, hts0, hX, hbl, hlk, hgv⟩, hK, hDC, hDM, hdis, hSt, hNw⟩ := I
  have hts : ∀ w ∈ ab_T, w.before #[Value.ref b] s = true := fun w h => hts0 w (List.mem_filter.mp h).1
  have hbA : ¬ lw_A s b := Nat.not_le.mpr hbl
  refine lv_aload_n hx hb dL_512 rfl (lv_at hl 1 rfl) ?_
  obtain ⟨r, σc1, σm1, h1, h2, hR1⟩ := pp_best hR (by omega) 
  refine lw_call (ad := adC) (ad2 := adM) hx hb hml hown hts hK hDC hDM hSt hNw hdis hP hP2 hS hl.1 dL_513 mlL_62 yvLX9_best rkC_0 ⟨_, _, rfl⟩ mmC_0 (tX9_best l _ h1) ⟨Nat.le_of_ble_eq_true rfl, Nat.le_of_ble_eq_true rfl⟩ (Nat.le_of_ble_eq_true rfl) rfl (Nat.le_of_ble_eq_true rfl) (fun H locs hP hP2 hS => ?_)
  refine lv_aload_n hx hb dL_516 rfl (lv_at hl 2 rfl) ?_
  refine lw_call (ad := adM) (ad2 := adC) hx hb hml hown hts hK hDM hDC (fun q h => absurd h List.not_mem_nil) hNw (fun c1 h1 c2 h2 e => hdis c2 h2 c1 h1 e.symm) hP2 hP hS hl.1 dL_517 mlL_65 yvLX10_best rkM_0 ⟨_, _, rfl⟩ mmM_0 (tX10_best l _ h2) ⟨Nat.le_of_ble_eq_true rfl, Nat.le_of_ble_eq_true rfl⟩ (Nat.le_of_ble_eq_true rfl) rfl (Nat.le_of_ble_eq_true rfl) (fun H locs hP2 hP hS => ?_)
  refine lv_icmp_eq (tgt := 1438) hx hb dL_520 (by decide) (fun _ => ?_) (fun hne => absurd rfl hne)
  exact K _ _ hR1 H locs ls hP hP2 hS hl
set_option maxHeartbeats 4000000 in
theorem lw_c12 (I : lw_I p s m meth c b L xs D cA adC adM) {i : Nat} (hi : i + 6 ≤ L) (hL : L ≤ 3072) {x3 : Int32} (ex : x3 = nI i) {σc σm : ab_S} (hR : Rel i σc σm) (K : ∀ σc σm, Rel (i + 6) σc σm → lw_G p l e s m below meth c b D cA adC adM x3 1438 σc σm) : lw_G p l e s m below meth c b D cA adC adM x3 525 σc σm := by
  intro H locs ls hP hP2 hS hl
  obtain ⟨⟨hx, hb, hr, hml, hown, hts0, hX, hbl, hlk, hgv⟩, hK, hDC, hDM, hdis, hSt, hNw⟩ := I
  have hts : ∀ w ∈ ab_T, w.before #[Value.ref b] s = true := fun w h => hts0 w (List.mem_filter.mp h).1
  have hbA : ¬ lw_A s b := Nat.not_le.mpr hbl
  refine lv_aload_n hx hb dL_525 rfl (lv_at hl 1 rfl) ?_
  refine lv_aload_n hx hb dL_526 rfl (lv_at hl 0 rfl) ?_
  refine lv_iload_n hx hb dL_527 rfl (lv_at hl 3 rfl) ?_
  refine lv_iconst (v := 1) hx hb dL_528 rfl ?_
  refine lv_iadd hx hb dL_529 ?_
  refine va_sld hx hb hX hbl hbA hS (lw_in hi hL ex 1 (by decide) _ rfl) dL_530 ?_
  obtain ⟨r, σc1, σm1, h1, h2, hR1⟩ := pp_gain hR (by omega) (xs (x3 + 1).toNatClampNeg)
  refine lw_call (ad := adC) (ad2 := adM) hx hb hml hown hts hK hDC hDM hSt hNw hdis hP hP2 hS hl.1 dL_531 mlL_66 yvLX9_gain rkC_0 ⟨_, _, rfl⟩ mmC_0 (tX9_gain l _ _ h1) ⟨Nat.le_of_ble_eq_true rfl, Nat.le_of_ble_eq_true rfl⟩ (Nat.le_of_ble_eq_true rfl) rfl (Nat.le_of_ble_eq_true rfl) (fun H locs hP hP2 hS => ?_)
  refine lv_aload_n hx hb dL_534 rfl (lv_at hl 2 rfl) ?_
  refine lv_aload_n hx hb dL_535 rfl (lv_at hl 0 rfl) ?_
  refine lv_iload_n hx hb dL_536 rfl (lv_at hl 3 rfl) ?_
  refine lv_iconst (v := 1) hx hb dL_537 rfl ?_
  refine lv_iadd hx hb dL_538 ?_
  refine va_sld hx hb hX hbl hbA hS (lw_in hi hL ex 1 (by decide) _ rfl) dL_539 ?_
  refine lw_call (ad := adM) (ad2 := adC) hx hb hml hown hts hK hDM hDC (fun q h => absurd h List.not_mem_nil) hNw (fun c1 h1 c2 h2 e => hdis c2 h2 c1 h1 e.symm) hP2 hP hS hl.1 dL_540 mlL_70 yvLX10_gain rkM_0 ⟨_, _, rfl⟩ mmM_0 (tX10_gain l _ _ h2) ⟨Nat.le_of_ble_eq_true rfl, Nat.le_of_ble_eq_true rfl⟩ (Nat.le_of_ble_eq_true rfl) rfl (Nat.le_of_ble_eq_true rfl) (fun H locs hP2 hP hS => ?_)
  refine W.lcmp hx hb dL_543 ?_
  refine lv_if_eq (tgt := 1438) hx hb dL_544 (by decide) (fun _ => ?_) (fun hne => absurd ((lg_cmp_eq _ _).mpr rfl) hne)
  exact K _ _ hR1 H locs ls hP hP2 hS hl
set_option maxHeartbeats 4000000 in
theorem lw_c13 (I : lw_I p s m meth c b L xs D cA adC adM) {i : Nat} (hi : i + 6 ≤ L) (hL : L ≤ 3072) {x3 : Int32} (ex : x3 = nI i) {σc σm : ab_S} (hR : Rel i σc σm) (K : ∀ σc σm, Rel (i + 6) σc σm → lw_G p l e s m below meth c b D cA adC adM x3 1438 σc σm) : lw_G p l e s m below meth c b D cA adC adM x3 549 σc σm := by
  intro H locs ls hP hP2 hS hl
  obtain ⟨⟨hx, hb, hr, hml, hown, hts0, hX, hbl, hlk, hgv⟩, hK, hDC, hDM, hdis, hSt, hNw⟩ := I
  have hts : ∀ w ∈ ab_T, w.before #[Value.ref b] s = true := fun w h => hts0 w (List.mem_filter.mp h).1
  have hbA : ¬ lw_A s b := Nat.not_le.mpr hbl
  refine lv_aload_n hx hb dL_549 rfl (lv_at hl 1 rfl) ?_
  refine lv_aload_n hx hb dL_550 rfl (lv_at hl 0 rfl) ?_
  refine lv_iload_n hx hb dL_551 rfl (lv_at hl 3 rfl) ?_
  refine lv_iconst (v := 1) hx hb dL_552 rfl ?_
  refine lv_iadd hx hb dL_553 ?_
  refine va_sld hx hb hX hbl hbA hS (lw_in hi hL ex 1 (by decide) _ rfl) dL_554 ?_
  refine lv_aload_n hx hb dL_555 rfl (lv_at hl 0 rfl) ?_
  refine lv_iload_n hx hb dL_556 rfl (lv_at hl 3 rfl) ?_
  refine lv_iconst (v := 2) hx hb dL_557 rfl ?_
  refine lv_iadd hx hb dL_558 ?_
  refine va_sld hx hb hX hbl hbA hS (lw_in hi hL ex 2 (by decide) _ rfl) dL_559 ?_
  obtain ⟨r, σc1, σm1, h1, h2, hR1⟩ := pp_next hR (by omega) (xs (x3 + 1).toNatClampNeg) (xs (x3 + 2).toNatClampNeg)
  refine lw_call (ad := adC) (ad2 := adM) hx hb hml hown hts hK hDC hDM hSt hNw hdis hP hP2 hS hl.1 dL_560 mlL_71 yvLX9_next rkC_0 ⟨_, _, rfl⟩ mmC_0 (tX9_next l _ _ _ h1) ⟨Nat.le_of_ble_eq_true rfl, Nat.le_of_ble_eq_true rfl⟩ (Nat.le_of_ble_eq_true rfl) rfl (Nat.le_of_ble_eq_true rfl) (fun H locs hP hP2 hS => ?_)
  refine lv_aload_n hx hb dL_563 rfl (lv_at hl 2 rfl) ?_
  refine lv_aload_n hx hb dL_564 rfl (lv_at hl 0 rfl) ?_
  refine lv_iload_n hx hb dL_565 rfl (lv_at hl 3 rfl) ?_
  refine lv_iconst (v := 1) hx hb dL_566 rfl ?_
  refine lv_iadd hx hb dL_567 ?_
  refine va_sld hx hb hX hbl hbA hS (lw_in hi hL ex 1 (by decide) _ rfl) dL_568 ?_
  refine lv_aload_n hx hb dL_569 rfl (lv_at hl 0 rfl) ?_
  refine lv_iload_n hx hb dL_570 rfl (lv_at hl 3 rfl) ?_
  refine lv_iconst (v := 2) hx hb dL_571 rfl ?_
  refine lv_iadd hx hb dL_572 ?_
  refine va_sld hx hb hX hbl hbA hS (lw_in hi hL ex 2 (by decide) _ rfl) dL_573 ?_
  refine lw_call (ad := adM) (ad2 := adC) hx hb hml hown hts hK hDM hDC (fun q h => absurd h List.not_mem_nil) hNw (fun c1 h1 c2 h2 e => hdis c2 h2 c1 h1 e.symm) hP2 hP hS hl.1 dL_574 mlL_74 yvLX10_next rkM_0 ⟨_, _, rfl⟩ mmM_0 (tX10_next l _ _ _ h2) ⟨Nat.le_of_ble_eq_true rfl, Nat.le_of_ble_eq_true rfl⟩ (Nat.le_of_ble_eq_true rfl) rfl (Nat.le_of_ble_eq_true rfl) (fun H locs hP2 hP hS => ?_)
  refine W.lcmp hx hb dL_577 ?_
  refine lv_if_eq (tgt := 1438) hx hb dL_578 (by decide) (fun _ => ?_) (fun hne => absurd ((lg_cmp_eq _ _).mpr rfl) hne)
  exact K _ _ hR1 H locs ls hP hP2 hS hl
set_option maxHeartbeats 4000000 in
theorem lw_c14 (I : lw_I p s m meth c b L xs D cA adC adM) {i : Nat} (hi : i + 6 ≤ L) (hL : L ≤ 3072) {x3 : Int32} (ex : x3 = nI i) {σc σm : ab_S} (hR : Rel i σc σm) (K : ∀ σc σm, Rel (i + 6) σc σm → lw_G p l e s m below meth c b D cA adC adM x3 1438 σc σm) : lw_G p l e s m below meth c b D cA adC adM x3 583 σc σm := by
  intro H locs ls hP hP2 hS hl
  obtain ⟨⟨hx, hb, hr, hml, hown, hts0, hX, hbl, hlk, hgv⟩, hK, hDC, hDM, hdis, hSt, hNw⟩ := I
  have hts : ∀ w ∈ ab_T, w.before #[Value.ref b] s = true := fun w h => hts0 w (List.mem_filter.mp h).1
  have hbA : ¬ lw_A s b := Nat.not_le.mpr hbl
  refine lv_aload_n hx hb dL_583 rfl (lv_at hl 1 rfl) ?_
  refine lv_aload_n hx hb dL_584 rfl (lv_at hl 0 rfl) ?_
  refine lv_iload_n hx hb dL_585 rfl (lv_at hl 3 rfl) ?_
  refine lv_iconst (v := 1) hx hb dL_586 rfl ?_
  refine lv_iadd hx hb dL_587 ?_
  refine va_sld hx hb hX hbl hbA hS (lw_in hi hL ex 1 (by decide) _ rfl) dL_588 ?_
  refine lv_aload_n hx hb dL_589 rfl (lv_at hl 0 rfl) ?_
  refine lv_iload_n hx hb dL_590 rfl (lv_at hl 3 rfl) ?_
  refine lv_iconst (v := 2) hx hb dL_591 rfl ?_
  refine lv_iadd hx hb dL_592 ?_
  refine va_sld hx hb hX hbl hbA hS (lw_in hi hL ex 2 (by decide) _ rfl) dL_593 ?_
  refine lv_aload_n hx hb dL_594 rfl (lv_at hl 0 rfl) ?_
  refine lv_iload_n hx hb dL_595 rfl (lv_at hl 3 rfl) ?_
  refine lv_iconst (v := 3) hx hb dL_596 rfl ?_
  refine lv_iadd hx hb dL_597 ?_
  refine va_sld hx hb hX hbl hbA hS (lw_in hi hL ex 3 (by decide) _ rfl) dL_598 ?_
  obtain ⟨r, σc1, σm1, h1, h2, hR1⟩ := pp_worth hR (by omega) (xs (x3 + 1).toNatClampNeg) (xs (x3 + 2).toNatClampNeg) (xs (x3 + 3).toNatClampNeg)
  refine lw_call (ad := adC) (ad2 := adM) hx hb hml hown hts hK hDC hDM hSt hNw hdis hP hP2 hS hl.1 dL_599 mlL_75 yvLX9_worth rkC_0 ⟨_, _, rfl⟩ mmC_0 (tX9_worth l _ _ _ _ h1) ⟨Nat.le_of_ble_eq_true rfl, Nat.le_of_ble_eq_true rfl⟩ (Nat.le_of_ble_eq_true rfl) rfl (Nat.le_of_ble_eq_true rfl) (fun H locs hP hP2 hS => ?_)
  refine lv_aload_n hx hb dL_602 rfl (lv_at hl 2 rfl) ?_
  refine lv_aload_n hx hb dL_603 rfl (lv_at hl 0 rfl) ?_
  refine lv_iload_n hx hb dL_604 rfl (lv_at hl 3 rfl) ?_
  refine lv_iconst (v := 1) hx hb dL_605 rfl ?_
  refine lv_iadd hx hb dL_606 ?_
  refine va_sld hx hb hX hbl hbA hS (lw_in hi hL ex 1 (by decide) _ rfl) dL_607 ?_
  refine lv_aload_n hx hb dL_608 rfl (lv_at hl 0 rfl) ?_
  refine lv_iload_n hx hb dL_609 rfl (lv_at hl 3 rfl) ?_
  refine lv_iconst (v := 2) hx hb dL_610 rfl ?_
  refine lv_iadd hx hb dL_611 ?_
  refine va_sld hx hb hX hbl hbA hS (lw_in hi hL ex 2 (by decide) _ rfl) dL_612 ?_
  refine lv_aload_n hx hb dL_613 rfl (lv_at hl 0 rfl) ?_
  refine lv_iload_n hx hb dL_614 rfl (lv_at hl 3 rfl) ?_
  refine lv_iconst (v := 3) hx hb dL_615 rfl ?_
  refine lv_iadd hx hb dL_616 ?_
  refine va_sld hx hb hX hbl hbA hS (lw_in hi hL ex 3 (by decide) _ rfl) dL_617 ?_
  refine lw_call (ad := adM) (ad2 := adC) hx hb hml hown hts hK hDM hDC (fun q h => absurd h List.not_mem_nil) hNw (fun c1 h1 c2 h2 e => hdis c2 h2 c1 h1 e.symm) hP2 hP hS hl.1 dL_618 mlL_79 yvLX10_worth rkM_0 ⟨_, _, rfl⟩ mmM_0 (tX10_worth l _ _ _ _ h2) ⟨Nat.le_of_ble_eq_true rfl, Nat.le_of_ble_eq_true rfl⟩ (Nat.le_of_ble_eq_true rfl) rfl (Nat.le_of_ble_eq_true rfl) (fun H locs hP2 hP hS => ?_)
  refine W.lcmp hx hb dL_621 ?_
  refine lv_if_eq (tgt := 1438) hx hb dL_622 (by decide) (fun _ => ?_) (fun hne => absurd ((lg_cmp_eq _ _).mpr rfl) hne)
  exact K _ _ hR1 H locs ls hP hP2 hS hl
set_option maxHeartbeats 4000000 in
theorem lw_c15 (I : lw_I p s m meth c b L xs D cA adC adM) {i : Nat} (hi : i + 6 ≤ L) (hL : L ≤ 3072) {x3 : Int32} (ex : x3 = nI i) {σc σm : ab_S} (hR : Rel i σc σm) (K : ∀ σc σm, Rel (i + 6) σc σm → lw_G p l e s m below meth c b D cA adC adM x3 1438 σc σm) : lw_G p l e s m below meth c b D cA adC adM x3 627 σc σm := by
  intro H locs ls hP hP2 hS hl
  obtain ⟨⟨hx, hb, hr, hml, hown, hts0, hX, hbl, hlk, hgv⟩, hK, hDC, hDM, hdis, hSt, hNw⟩ := I
  have hts : ∀ w ∈ ab_T, w.before #[Value.ref b] s = true := fun w h => hts0 w (List.mem_filter.mp h).1
  have hbA : ¬ lw_A s b := Nat.not_le.mpr hbl
  refine lv_aload_n hx hb dL_627 rfl (lv_at hl 1 rfl) ?_
  refine lv_aload_n hx hb dL_628 rfl (lv_at hl 0 rfl) ?_
  refine lv_iload_n hx hb dL_629 rfl (lv_at hl 3 rfl) ?_
  refine lv_iconst (v := 1) hx hb dL_630 rfl ?_
  refine lv_iadd hx hb dL_631 ?_
  refine va_sld hx hb hX hbl hbA hS (lw_in hi hL ex 1 (by decide) _ rfl) dL_632 ?_
  obtain ⟨r, σc1, σm1, h1, h2, hR1⟩ := pp_theBest hR (by omega) (xs (x3 + 1).toNatClampNeg)
  refine lw_call (ad := adC) (ad2 := adM) hx hb hml hown hts hK hDC hDM hSt hNw hdis hP hP2 hS hl.1 dL_633 mlL_80 yvLX9_theBest rkC_0 ⟨_, _, rfl⟩ mmC_0 (tX9_theBest l _ _ h1) ⟨Nat.le_of_ble_eq_true rfl, Nat.le_of_ble_eq_true rfl⟩ (Nat.le_of_ble_eq_true rfl) rfl (Nat.le_of_ble_eq_true rfl) (fun H locs hP hP2 hS => ?_)
  refine lv_aload_n hx hb dL_636 rfl (lv_at hl 2 rfl) ?_
  refine lv_aload_n hx hb dL_637 rfl (lv_at hl 0 rfl) ?_
  refine lv_iload_n hx hb dL_638 rfl (lv_at hl 3 rfl) ?_
  refine lv_iconst (v := 1) hx hb dL_639 rfl ?_
  refine lv_iadd hx hb dL_640 ?_
  refine va_sld hx hb hX hbl hbA hS (lw_in hi hL ex 1 (by decide) _ rfl) dL_641 ?_
  refine lw_call (ad := adM) (ad2 := adC) hx hb hml hown hts hK hDM hDC (fun q h => absurd h List.not_mem_nil) hNw (fun c1 h1 c2 h2 e => hdis c2 h2 c1 h1 e.symm) hP2 hP hS hl.1 dL_642 mlL_83 yvLX10_theBest rkM_0 ⟨_, _, rfl⟩ mmM_0 (tX10_theBest l _ _ h2) ⟨Nat.le_of_ble_eq_true rfl, Nat.le_of_ble_eq_true rfl⟩ (Nat.le_of_ble_eq_true rfl) rfl (Nat.le_of_ble_eq_true rfl) (fun H locs hP2 hP hS => ?_)
  refine W.lcmp hx hb dL_645 ?_
  refine lv_if_eq (tgt := 1438) hx hb dL_646 (by decide) (fun _ => ?_) (fun hne => absurd ((lg_cmp_eq _ _).mpr rfl) hne)
  exact K _ _ hR1 H locs ls hP hP2 hS hl
set_option maxHeartbeats 4000000 in
theorem lw_c16 (I : lw_I p s m meth c b L xs D cA adC adM) {i : Nat} (hi : i + 6 ≤ L) (hL : L ≤ 3072) {x3 : Int32} (ex : x3 = nI i) {σc σm : ab_S} (hR : Rel i σc σm) (K : ∀ σc σm, Rel (i + 6) σc σm → lw_G p l e s m below meth c b D cA adC adM x3 1438 σc σm) : lw_G p l e s m below meth c b D cA adC adM x3 651 σc σm := by
  intro H locs ls hP hP2 hS hl
  obtain ⟨⟨hx, hb, hr, hml, hown, hts0, hX, hbl, hlk, hgv⟩, hK, hDC, hDM, hdis, hSt, hNw⟩ := I
  have hts : ∀ w ∈ ab_T, w.before #[Value.ref b] s = true := fun w h => hts0 w (List.mem_filter.mp h).1
  have hbA : ¬ lw_A s b := Nat.not_le.mpr hbl
  refine lv_aload_n hx hb dL_651 rfl (lv_at hl 1 rfl) ?_
  refine lv_aload_n hx hb dL_652 rfl (lv_at hl 0 rfl) ?_
  refine lv_iload_n hx hb dL_653 rfl (lv_at hl 3 rfl) ?_
  refine lv_iconst (v := 1) hx hb dL_654 rfl ?_
  refine lv_iadd hx hb dL_655 ?_
  refine va_sld hx hb hX hbl hbA hS (lw_in hi hL ex 1 (by decide) _ rfl) dL_656 ?_
  refine lv_aload_n hx hb dL_657 rfl (lv_at hl 0 rfl) ?_
  refine lv_iload_n hx hb dL_658 rfl (lv_at hl 3 rfl) ?_
  refine lv_iconst (v := 2) hx hb dL_659 rfl ?_
  refine lv_iadd hx hb dL_660 ?_
  refine va_sld hx hb hX hbl hbA hS (lw_in hi hL ex 2 (by decide) _ rfl) dL_661 ?_
  refine lv_aload_n hx hb dL_662 rfl (lv_at hl 0 rfl) ?_
  refine lv_iload_n hx hb dL_663 rfl (lv_at hl 3 rfl) ?_
  refine lv_iconst (v := 3) hx hb dL_664 rfl ?_
  refine lv_iadd hx hb dL_665 ?_
  refine va_sld hx hb hX hbl hbA hS (lw_in hi hL ex 3 (by decide) _ rfl) dL_666 ?_
  obtain ⟨r, σc1, σm1, h1, h2, hR1⟩ := pp_sure hR (by omega) (xs (x3 + 1).toNatClampNeg) (xs (x3 + 2).toNatClampNeg) (xs (x3 + 3).toNatClampNeg)
  refine lw_call (ad := adC) (ad2 := adM) hx hb hml hown hts hK hDC hDM hSt hNw hdis hP hP2 hS hl.1 dL_667 mlL_84 yvLX9_sure rkC_0 ⟨_, _, rfl⟩ mmC_0 (tX9_sure l _ _ _ _ h1) ⟨Nat.le_of_ble_eq_true rfl, Nat.le_of_ble_eq_true rfl⟩ (Nat.le_of_ble_eq_true rfl) rfl (Nat.le_of_ble_eq_true rfl) (fun H locs hP hP2 hS => ?_)
  refine lv_aload_n hx hb dL_670 rfl (lv_at hl 2 rfl) ?_
  refine lv_aload_n hx hb dL_671 rfl (lv_at hl 0 rfl) ?_
  refine lv_iload_n hx hb dL_672 rfl (lv_at hl 3 rfl) ?_
  refine lv_iconst (v := 1) hx hb dL_673 rfl ?_
  refine lv_iadd hx hb dL_674 ?_
  refine va_sld hx hb hX hbl hbA hS (lw_in hi hL ex 1 (by decide) _ rfl) dL_675 ?_
  refine lv_aload_n hx hb dL_676 rfl (lv_at hl 0 rfl) ?_
  refine lv_iload_n hx hb dL_677 rfl (lv_at hl 3 rfl) ?_
  refine lv_iconst (v := 2) hx hb dL_678 rfl ?_
  refine lv_iadd hx hb dL_679 ?_
  refine va_sld hx hb hX hbl hbA hS (lw_in hi hL ex 2 (by decide) _ rfl) dL_680 ?_
  refine lv_aload_n hx hb dL_681 rfl (lv_at hl 0 rfl) ?_
  refine lv_iload_n hx hb dL_682 rfl (lv_at hl 3 rfl) ?_
  refine lv_iconst (v := 3) hx hb dL_683 rfl ?_
  refine lv_iadd hx hb dL_684 ?_
  refine va_sld hx hb hX hbl hbA hS (lw_in hi hL ex 3 (by decide) _ rfl) dL_685 ?_
  refine lw_call (ad := adM) (ad2 := adC) hx hb hml hown hts hK hDM hDC (fun q h => absurd h List.not_mem_nil) hNw (fun c1 h1 c2 h2 e => hdis c2 h2 c1 h1 e.symm) hP2 hP hS hl.1 dL_686 mlL_87 yvLX10_sure rkM_0 ⟨_, _, rfl⟩ mmM_0 (tX10_sure l _ _ _ _ h2) ⟨Nat.le_of_ble_eq_true rfl, Nat.le_of_ble_eq_true rfl⟩ (Nat.le_of_ble_eq_true rfl) rfl (Nat.le_of_ble_eq_true rfl) (fun H locs hP2 hP hS => ?_)
  refine W.lcmp hx hb dL_689 ?_
  refine lv_if_eq (tgt := 1438) hx hb dL_690 (by decide) (fun _ => ?_) (fun hne => absurd ((lg_cmp_eq _ _).mpr rfl) hne)
  exact K _ _ hR1 H locs ls hP hP2 hS hl
set_option maxHeartbeats 4000000 in
theorem lw_c17 (I : lw_I p s m meth c b L xs D cA adC adM) {i : Nat} (hi : i + 6 ≤ L) (hL : L ≤ 3072) {x3 : Int32} (ex : x3 = nI i) {σc σm : ab_S} (hR : Rel i σc σm) (K : ∀ σc σm, Rel (i + 6) σc σm → lw_G p l e s m below meth c b D cA adC adM x3 1438 σc σm) : lw_G p l e s m below meth c b D cA adC adM x3 695 σc σm := by
  intro H locs ls hP hP2 hS hl
  obtain ⟨⟨hx, hb, hr, hml, hown, hts0, hX, hbl, hlk, hgv⟩, hK, hDC, hDM, hdis, hSt, hNw⟩ := I
  have hts : ∀ w ∈ ab_T, w.before #[Value.ref b] s = true := fun w h => hts0 w (List.mem_filter.mp h).1
  have hbA : ¬ lw_A s b := Nat.not_le.mpr hbl
  refine lv_aload_n hx hb dL_695 rfl (lv_at hl 1 rfl) ?_
  refine lv_aload_n hx hb dL_696 rfl (lv_at hl 0 rfl) ?_
  refine lv_iload_n hx hb dL_697 rfl (lv_at hl 3 rfl) ?_
  refine lv_iconst (v := 1) hx hb dL_698 rfl ?_
  refine lv_iadd hx hb dL_699 ?_
  refine va_sld hx hb hX hbl hbA hS (lw_in hi hL ex 1 (by decide) _ rfl) dL_700 ?_
  refine lv_aload_n hx hb dL_701 rfl (lv_at hl 0 rfl) ?_
  refine lv_iload_n hx hb dL_702 rfl (lv_at hl 3 rfl) ?_
  refine lv_iconst (v := 2) hx hb dL_703 rfl ?_
  refine lv_iadd hx hb dL_704 ?_
  refine va_sld hx hb hX hbl hbA hS (lw_in hi hL ex 2 (by decide) _ rfl) dL_705 ?_
  obtain ⟨r, σc1, σm1, h1, h2, hR1⟩ := pp_hardest hR (by omega) (xs (x3 + 1).toNatClampNeg) (xs (x3 + 2).toNatClampNeg)
  refine lw_call (ad := adC) (ad2 := adM) hx hb hml hown hts hK hDC hDM hSt hNw hdis hP hP2 hS hl.1 dL_706 mlL_88 yvLX9_hardest rkC_0 ⟨_, _, rfl⟩ mmC_0 (tX9_hardest l _ _ _ h1) ⟨Nat.le_of_ble_eq_true rfl, Nat.le_of_ble_eq_true rfl⟩ (Nat.le_of_ble_eq_true rfl) rfl (Nat.le_of_ble_eq_true rfl) (fun H locs hP hP2 hS => ?_)
  refine lv_aload_n hx hb dL_709 rfl (lv_at hl 2 rfl) ?_
  refine lv_aload_n hx hb dL_710 rfl (lv_at hl 0 rfl) ?_
  refine lv_iload_n hx hb dL_711 rfl (lv_at hl 3 rfl) ?_
  refine lv_iconst (v := 1) hx hb dL_712 rfl ?_
  refine lv_iadd hx hb dL_713 ?_
  refine va_sld hx hb hX hbl hbA hS (lw_in hi hL ex 1 (by decide) _ rfl) dL_714 ?_
  refine lv_aload_n hx hb dL_715 rfl (lv_at hl 0 rfl) ?_
  refine lv_iload_n hx hb dL_716 rfl (lv_at hl 3 rfl) ?_
  refine lv_iconst (v := 2) hx hb dL_717 rfl ?_
  refine lv_iadd hx hb dL_718 ?_
  refine va_sld hx hb hX hbl hbA hS (lw_in hi hL ex 2 (by decide) _ rfl) dL_719 ?_
  refine lw_call (ad := adM) (ad2 := adC) hx hb hml hown hts hK hDM hDC (fun q h => absurd h List.not_mem_nil) hNw (fun c1 h1 c2 h2 e => hdis c2 h2 c1 h1 e.symm) hP2 hP hS hl.1 dL_720 mlL_91 yvLX10_hardest rkM_0 ⟨_, _, rfl⟩ mmM_0 (tX10_hardest l _ _ _ h2) ⟨Nat.le_of_ble_eq_true rfl, Nat.le_of_ble_eq_true rfl⟩ (Nat.le_of_ble_eq_true rfl) rfl (Nat.le_of_ble_eq_true rfl) (fun H locs hP2 hP hS => ?_)
  refine W.lcmp hx hb dL_723 ?_
  refine lv_if_eq (tgt := 1438) hx hb dL_724 (by decide) (fun _ => ?_) (fun hne => absurd ((lg_cmp_eq _ _).mpr rfl) hne)
  exact K _ _ hR1 H locs ls hP hP2 hS hl
set_option maxHeartbeats 4000000 in
theorem lw_c18 (I : lw_I p s m meth c b L xs D cA adC adM) {i : Nat} (hi : i + 6 ≤ L) (hL : L ≤ 3072) {x3 : Int32} (ex : x3 = nI i) {σc σm : ab_S} (hR : Rel i σc σm) (K : ∀ σc σm, Rel (i + 6) σc σm → lw_G p l e s m below meth c b D cA adC adM x3 1438 σc σm) : lw_G p l e s m below meth c b D cA adC adM x3 729 σc σm := by
  intro H locs ls hP hP2 hS hl
  obtain ⟨⟨hx, hb, hr, hml, hown, hts0, hX, hbl, hlk, hgv⟩, hK, hDC, hDM, hdis, hSt, hNw⟩ := I
  have hts : ∀ w ∈ ab_T, w.before #[Value.ref b] s = true := fun w h => hts0 w (List.mem_filter.mp h).1
  have hbA : ¬ lw_A s b := Nat.not_le.mpr hbl
  refine lv_aload_n hx hb dL_729 rfl (lv_at hl 1 rfl) ?_
  refine lv_aload_n hx hb dL_730 rfl (lv_at hl 0 rfl) ?_
  refine lv_iload_n hx hb dL_731 rfl (lv_at hl 3 rfl) ?_
  refine lv_iconst (v := 1) hx hb dL_732 rfl ?_
  refine lv_iadd hx hb dL_733 ?_
  refine va_sld hx hb hX hbl hbA hS (lw_in hi hL ex 1 (by decide) _ rfl) dL_734 ?_
  refine lv_aload_n hx hb dL_735 rfl (lv_at hl 0 rfl) ?_
  refine lv_iload_n hx hb dL_736 rfl (lv_at hl 3 rfl) ?_
  refine lv_iconst (v := 2) hx hb dL_737 rfl ?_
  refine lv_iadd hx hb dL_738 ?_
  refine va_sld hx hb hX hbl hbA hS (lw_in hi hL ex 2 (by decide) _ rfl) dL_739 ?_
  refine lv_aload_n hx hb dL_740 rfl (lv_at hl 0 rfl) ?_
  refine lv_iload_n hx hb dL_741 rfl (lv_at hl 3 rfl) ?_
  refine lv_iconst (v := 3) hx hb dL_742 rfl ?_
  refine lv_iadd hx hb dL_743 ?_
  refine va_sld hx hb hX hbl hbA hS (lw_in hi hL ex 3 (by decide) _ rfl) dL_744 ?_
  obtain ⟨r, σc1, σm1, h1, h2, hR1⟩ := pp_which hR (by omega) (xs (x3 + 1).toNatClampNeg) (xs (x3 + 2).toNatClampNeg) (xs (x3 + 3).toNatClampNeg)
  refine lw_call (ad := adC) (ad2 := adM) hx hb hml hown hts hK hDC hDM hSt hNw hdis hP hP2 hS hl.1 dL_745 mlL_92 yvLX9_which rkC_0 ⟨_, _, rfl⟩ mmC_0 (tX9_which l _ _ _ _ h1) ⟨Nat.le_of_ble_eq_true rfl, Nat.le_of_ble_eq_true rfl⟩ (Nat.le_of_ble_eq_true rfl) rfl (Nat.le_of_ble_eq_true rfl) (fun H locs hP hP2 hS => ?_)
  refine lv_aload_n hx hb dL_748 rfl (lv_at hl 2 rfl) ?_
  refine lv_aload_n hx hb dL_749 rfl (lv_at hl 0 rfl) ?_
  refine lv_iload_n hx hb dL_750 rfl (lv_at hl 3 rfl) ?_
  refine lv_iconst (v := 1) hx hb dL_751 rfl ?_
  refine lv_iadd hx hb dL_752 ?_
  refine va_sld hx hb hX hbl hbA hS (lw_in hi hL ex 1 (by decide) _ rfl) dL_753 ?_
  refine lv_aload_n hx hb dL_754 rfl (lv_at hl 0 rfl) ?_
  refine lv_iload_n hx hb dL_755 rfl (lv_at hl 3 rfl) ?_
  refine lv_iconst (v := 2) hx hb dL_756 rfl ?_
  refine lv_iadd hx hb dL_757 ?_
  refine va_sld hx hb hX hbl hbA hS (lw_in hi hL ex 2 (by decide) _ rfl) dL_758 ?_
  refine lv_aload_n hx hb dL_759 rfl (lv_at hl 0 rfl) ?_
  refine lv_iload_n hx hb dL_760 rfl (lv_at hl 3 rfl) ?_
  refine lv_iconst (v := 3) hx hb dL_761 rfl ?_
  refine lv_iadd hx hb dL_762 ?_
  refine va_sld hx hb hX hbl hbA hS (lw_in hi hL ex 3 (by decide) _ rfl) dL_763 ?_
  refine lw_call (ad := adM) (ad2 := adC) hx hb hml hown hts hK hDM hDC (fun q h => absurd h List.not_mem_nil) hNw (fun c1 h1 c2 h2 e => hdis c2 h2 c1 h1 e.symm) hP2 hP hS hl.1 dL_764 mlL_95 yvLX10_which rkM_0 ⟨_, _, rfl⟩ mmM_0 (tX10_which l _ _ _ _ h2) ⟨Nat.le_of_ble_eq_true rfl, Nat.le_of_ble_eq_true rfl⟩ (Nat.le_of_ble_eq_true rfl) rfl (Nat.le_of_ble_eq_true rfl) (fun H locs hP2 hP hS => ?_)
  refine W.lcmp hx hb dL_767 ?_
  refine lv_if_eq (tgt := 1438) hx hb dL_768 (by decide) (fun _ => ?_) (fun hne => absurd ((lg_cmp_eq _ _).mpr rfl) hne)
  exact K _ _ hR1 H locs ls hP hP2 hS hl
set_option maxHeartbeats 4000000 in
theorem lw_c19 (I : lw_I p s m meth c b L xs D cA adC adM) {i : Nat} (hi : i + 6 ≤ L) (hL : L ≤ 3072) {x3 : Int32} (ex : x3 = nI i) {σc σm : ab_S} (hR : Rel i σc σm) (K : ∀ σc σm, Rel (i + 6) σc σm → lw_G p l e s m below meth c b D cA adC adM x3 1438 σc σm) : lw_G p l e s m below meth c b D cA adC adM x3 773 σc σm := by
  intro H locs ls hP hP2 hS hl
  obtain ⟨⟨hx, hb, hr, hml, hown, hts0, hX, hbl, hlk, hgv⟩, hK, hDC, hDM, hdis, hSt, hNw⟩ := I
  have hts : ∀ w ∈ ab_T, w.before #[Value.ref b] s = true := fun w h => hts0 w (List.mem_filter.mp h).1
  have hbA : ¬ lw_A s b := Nat.not_le.mpr hbl
  refine lv_aload_n hx hb dL_773 rfl (lv_at hl 1 rfl) ?_
  refine lv_aload_n hx hb dL_774 rfl (lv_at hl 0 rfl) ?_
  refine lv_iload_n hx hb dL_775 rfl (lv_at hl 3 rfl) ?_
  refine lv_iconst (v := 1) hx hb dL_776 rfl ?_
  refine lv_iadd hx hb dL_777 ?_
  refine va_sld hx hb hX hbl hbA hS (lw_in hi hL ex 1 (by decide) _ rfl) dL_778 ?_
  refine lv_aload_n hx hb dL_779 rfl (lv_at hl 0 rfl) ?_
  refine lv_iload_n hx hb dL_780 rfl (lv_at hl 3 rfl) ?_
  refine lv_iconst (v := 2) hx hb dL_781 rfl ?_
  refine lv_iadd hx hb dL_782 ?_
  refine va_sld hx hb hX hbl hbA hS (lw_in hi hL ex 2 (by decide) _ rfl) dL_783 ?_
  obtain ⟨r, σc1, σm1, h1, h2, hR1⟩ := pp_judge hR (by omega) (xs (x3 + 1).toNatClampNeg) (xs (x3 + 2).toNatClampNeg)
  refine lw_call (ad := adC) (ad2 := adM) hx hb hml hown hts hK hDC hDM hSt hNw hdis hP hP2 hS hl.1 dL_784 mlL_96 yvLX9_judge rkC_0 ⟨_, _, rfl⟩ mmC_0 (tX9_judge l _ _ _ h1) ⟨Nat.le_of_ble_eq_true rfl, Nat.le_of_ble_eq_true rfl⟩ (Nat.le_of_ble_eq_true rfl) rfl (Nat.le_of_ble_eq_true rfl) (fun H locs hP hP2 hS => ?_)
  refine lv_aload_n hx hb dL_787 rfl (lv_at hl 2 rfl) ?_
  refine lv_aload_n hx hb dL_788 rfl (lv_at hl 0 rfl) ?_
  refine lv_iload_n hx hb dL_789 rfl (lv_at hl 3 rfl) ?_
  refine lv_iconst (v := 1) hx hb dL_790 rfl ?_
  refine lv_iadd hx hb dL_791 ?_
  refine va_sld hx hb hX hbl hbA hS (lw_in hi hL ex 1 (by decide) _ rfl) dL_792 ?_
  refine lv_aload_n hx hb dL_793 rfl (lv_at hl 0 rfl) ?_
  refine lv_iload_n hx hb dL_794 rfl (lv_at hl 3 rfl) ?_
  refine lv_iconst (v := 2) hx hb dL_795 rfl ?_
  refine lv_iadd hx hb dL_796 ?_
  refine va_sld hx hb hX hbl hbA hS (lw_in hi hL ex 2 (by decide) _ rfl) dL_797 ?_
  refine lw_call (ad := adM) (ad2 := adC) hx hb hml hown hts hK hDM hDC (fun q h => absurd h List.not_mem_nil) hNw (fun c1 h1 c2 h2 e => hdis c2 h2 c1 h1 e.symm) hP2 hP hS hl.1 dL_798 mlL_99 yvLX10_judge rkM_0 ⟨_, _, rfl⟩ mmM_0 (tX10_judge l _ _ _ h2) ⟨Nat.le_of_ble_eq_true rfl, Nat.le_of_ble_eq_true rfl⟩ (Nat.le_of_ble_eq_true rfl) rfl (Nat.le_of_ble_eq_true rfl) (fun H locs hP2 hP hS => ?_)
  refine lv_icmp_eq (tgt := 1438) hx hb dL_801 (by decide) (fun _ => ?_) (fun hne => absurd rfl hne)
  exact K _ _ hR1 H locs ls hP hP2 hS hl
set_option maxHeartbeats 4000000 in
theorem lw_c20 (I : lw_I p s m meth c b L xs D cA adC adM) {i : Nat} (hi : i + 6 ≤ L) (hL : L ≤ 3072) {x3 : Int32} (ex : x3 = nI i) {σc σm : ab_S} (hR : Rel i σc σm) (K : ∀ σc σm, Rel (i + 6) σc σm → lw_G p l e s m below meth c b D cA adC adM x3 1438 σc σm) : lw_G p l e s m below meth c b D cA adC adM x3 806 σc σm := by
  intro H locs ls hP hP2 hS hl
  obtain ⟨⟨hx, hb, hr, hml, hown, hts0, hX, hbl, hlk, hgv⟩, hK, hDC, hDM, hdis, hSt, hNw⟩ := I
  have hts : ∀ w ∈ ab_T, w.before #[Value.ref b] s = true := fun w h => hts0 w (List.mem_filter.mp h).1
  have hbA : ¬ lw_A s b := Nat.not_le.mpr hbl
  refine lv_aload_n hx hb dL_806 rfl (lv_at hl 1 rfl) ?_
  refine lv_aload_n hx hb dL_807 rfl (lv_at hl 0 rfl) ?_
  refine lv_iload_n hx hb dL_808 rfl (lv_at hl 3 rfl) ?_
  refine lv_iconst (v := 1) hx hb dL_809 rfl ?_
  refine lv_iadd hx hb dL_810 ?_
  refine va_sld hx hb hX hbl hbA hS (lw_in hi hL ex 1 (by decide) _ rfl) dL_811 ?_
  refine lv_aload_n hx hb dL_812 rfl (lv_at hl 0 rfl) ?_
  refine lv_iload_n hx hb dL_813 rfl (lv_at hl 3 rfl) ?_
  refine lv_iconst (v := 2) hx hb dL_814 rfl ?_
  refine lv_iadd hx hb dL_815 ?_
  refine va_sld hx hb hX hbl hbA hS (lw_in hi hL ex 2 (by decide) _ rfl) dL_816 ?_
  obtain ⟨r, σc1, σm1, h1, h2, hR1⟩ := pp_apart hR (by omega) (xs (x3 + 1).toNatClampNeg) (xs (x3 + 2).toNatClampNeg)
  refine lw_call (ad := adC) (ad2 := adM) hx hb hml hown hts hK hDC hDM hSt hNw hdis hP hP2 hS hl.1 dL_817 mlL_100 yvLX9_apart rkC_0 ⟨_, _, rfl⟩ mmC_0 (tX9_apart l _ _ _ h1) ⟨Nat.le_of_ble_eq_true rfl, Nat.le_of_ble_eq_true rfl⟩ (Nat.le_of_ble_eq_true rfl) rfl (Nat.le_of_ble_eq_true rfl) (fun H locs hP hP2 hS => ?_)
  refine lv_aload_n hx hb dL_820 rfl (lv_at hl 2 rfl) ?_
  refine lv_aload_n hx hb dL_821 rfl (lv_at hl 0 rfl) ?_
  refine lv_iload_n hx hb dL_822 rfl (lv_at hl 3 rfl) ?_
  refine lv_iconst (v := 1) hx hb dL_823 rfl ?_
  refine lv_iadd hx hb dL_824 ?_
  refine va_sld hx hb hX hbl hbA hS (lw_in hi hL ex 1 (by decide) _ rfl) dL_825 ?_
  refine lv_aload_n hx hb dL_826 rfl (lv_at hl 0 rfl) ?_
  refine lv_iload_n hx hb dL_827 rfl (lv_at hl 3 rfl) ?_
  refine lv_iconst (v := 2) hx hb dL_828 rfl ?_
  refine lv_iadd hx hb dL_829 ?_
  refine va_sld hx hb hX hbl hbA hS (lw_in hi hL ex 2 (by decide) _ rfl) dL_830 ?_
  refine lw_call (ad := adM) (ad2 := adC) hx hb hml hown hts hK hDM hDC (fun q h => absurd h List.not_mem_nil) hNw (fun c1 h1 c2 h2 e => hdis c2 h2 c1 h1 e.symm) hP2 hP hS hl.1 dL_831 mlL_103 yvLX10_apart rkM_0 ⟨_, _, rfl⟩ mmM_0 (tX10_apart l _ _ _ h2) ⟨Nat.le_of_ble_eq_true rfl, Nat.le_of_ble_eq_true rfl⟩ (Nat.le_of_ble_eq_true rfl) rfl (Nat.le_of_ble_eq_true rfl) (fun H locs hP2 hP hS => ?_)
  refine lv_icmp_eq (tgt := 1438) hx hb dL_834 (by decide) (fun _ => ?_) (fun hne => absurd rfl hne)
  exact K _ _ hR1 H locs ls hP hP2 hS hl
set_option maxHeartbeats 4000000 in
theorem lw_c21 (I : lw_I p s m meth c b L xs D cA adC adM) {i : Nat} (hi : i + 6 ≤ L) (hL : L ≤ 3072) {x3 : Int32} (ex : x3 = nI i) {σc σm : ab_S} (hR : Rel i σc σm) (K : ∀ σc σm, Rel (i + 6) σc σm → lw_G p l e s m below meth c b D cA adC adM x3 1438 σc σm) : lw_G p l e s m below meth c b D cA adC adM x3 839 σc σm := by
  intro H locs ls hP hP2 hS hl
  obtain ⟨⟨hx, hb, hr, hml, hown, hts0, hX, hbl, hlk, hgv⟩, hK, hDC, hDM, hdis, hSt, hNw⟩ := I
  have hts : ∀ w ∈ ab_T, w.before #[Value.ref b] s = true := fun w h => hts0 w (List.mem_filter.mp h).1
  have hbA : ¬ lw_A s b := Nat.not_le.mpr hbl
  refine lv_aload_n hx hb dL_839 rfl (lv_at hl 1 rfl) ?_
  refine lv_aload_n hx hb dL_840 rfl (lv_at hl 0 rfl) ?_
  refine lv_iload_n hx hb dL_841 rfl (lv_at hl 3 rfl) ?_
  refine lv_iconst (v := 1) hx hb dL_842 rfl ?_
  refine lv_iadd hx hb dL_843 ?_
  refine va_sld hx hb hX hbl hbA hS (lw_in hi hL ex 1 (by decide) _ rfl) dL_844 ?_
  refine lv_aload_n hx hb dL_845 rfl (lv_at hl 0 rfl) ?_
  refine lv_iload_n hx hb dL_846 rfl (lv_at hl 3 rfl) ?_
  refine lv_iconst (v := 2) hx hb dL_847 rfl ?_
  refine lv_iadd hx hb dL_848 ?_
  refine va_sld hx hb hX hbl hbA hS (lw_in hi hL ex 2 (by decide) _ rfl) dL_849 ?_
  refine lv_aload_n hx hb dL_850 rfl (lv_at hl 0 rfl) ?_
  refine lv_iload_n hx hb dL_851 rfl (lv_at hl 3 rfl) ?_
  refine lv_iconst (v := 3) hx hb dL_852 rfl ?_
  refine lv_iadd hx hb dL_853 ?_
  refine va_sld hx hb hX hbl hbA hS (lw_in hi hL ex 3 (by decide) _ rfl) dL_854 ?_
  obtain ⟨r, σc1, σm1, h1, h2, hR1⟩ := pp_drawn hR (by omega) (xs (x3 + 1).toNatClampNeg) (xs (x3 + 2).toNatClampNeg) (xs (x3 + 3).toNatClampNeg)
  refine lw_call (ad := adC) (ad2 := adM) hx hb hml hown hts hK hDC hDM hSt hNw hdis hP hP2 hS hl.1 dL_855 mlL_104 yvLX9_drawn rkC_0 ⟨_, _, rfl⟩ mmC_0 (tX9_drawn l _ _ _ _ h1) ⟨Nat.le_of_ble_eq_true rfl, Nat.le_of_ble_eq_true rfl⟩ (Nat.le_of_ble_eq_true rfl) rfl (Nat.le_of_ble_eq_true rfl) (fun H locs hP hP2 hS => ?_)
  refine lv_aload_n hx hb dL_858 rfl (lv_at hl 2 rfl) ?_
  refine lv_aload_n hx hb dL_859 rfl (lv_at hl 0 rfl) ?_
  refine lv_iload_n hx hb dL_860 rfl (lv_at hl 3 rfl) ?_
  refine lv_iconst (v := 1) hx hb dL_861 rfl ?_
  refine lv_iadd hx hb dL_862 ?_
  refine va_sld hx hb hX hbl hbA hS (lw_in hi hL ex 1 (by decide) _ rfl) dL_863 ?_
  refine lv_aload_n hx hb dL_864 rfl (lv_at hl 0 rfl) ?_
  refine lv_iload_n hx hb dL_865 rfl (lv_at hl 3 rfl) ?_
  refine lv_iconst (v := 2) hx hb dL_866 rfl ?_
  refine lv_iadd hx hb dL_867 ?_
  refine va_sld hx hb hX hbl hbA hS (lw_in hi hL ex 2 (by decide) _ rfl) dL_868 ?_
  refine lv_aload_n hx hb dL_869 rfl (lv_at hl 0 rfl) ?_
  refine lv_iload_n hx hb dL_870 rfl (lv_at hl 3 rfl) ?_
  refine lv_iconst (v := 3) hx hb dL_871 rfl ?_
  refine lv_iadd hx hb dL_872 ?_
  refine va_sld hx hb hX hbl hbA hS (lw_in hi hL ex 3 (by decide) _ rfl) dL_873 ?_
  refine lw_call (ad := adM) (ad2 := adC) hx hb hml hown hts hK hDM hDC (fun q h => absurd h List.not_mem_nil) hNw (fun c1 h1 c2 h2 e => hdis c2 h2 c1 h1 e.symm) hP2 hP hS hl.1 dL_874 mlL_107 yvLX10_drawn rkM_0 ⟨_, _, rfl⟩ mmM_0 (tX10_drawn l _ _ _ _ h2) ⟨Nat.le_of_ble_eq_true rfl, Nat.le_of_ble_eq_true rfl⟩ (Nat.le_of_ble_eq_true rfl) rfl (Nat.le_of_ble_eq_true rfl) (fun H locs hP2 hP hS => ?_)
  refine lv_icmp_eq (tgt := 1438) hx hb dL_877 (by decide) (fun _ => ?_) (fun hne => absurd rfl hne)
  exact K _ _ hR1 H locs ls hP hP2 hS hl
set_option maxHeartbeats 4000000 in
theorem lw_c22 (I : lw_I p s m meth c b L xs D cA adC adM) {i : Nat} (hi : i + 6 ≤ L) (hL : L ≤ 3072) {x3 : Int32} (ex : x3 = nI i) {σc σm : ab_S} (hR : Rel i σc σm) (K : ∀ σc σm, Rel (i + 6) σc σm → lw_G p l e s m below meth c b D cA adC adM x3 1438 σc σm) : lw_G p l e s m below meth c b D cA adC adM x3 882 σc σm := by
  intro H locs ls hP hP2 hS hl
  obtain ⟨⟨hx, hb, hr, hml, hown, hts0, hX, hbl, hlk, hgv⟩, hK, hDC, hDM, hdis, hSt, hNw⟩ := I
  have hts : ∀ w ∈ ab_T, w.before #[Value.ref b] s = true := fun w h => hts0 w (List.mem_filter.mp h).1
  have hbA : ¬ lw_A s b := Nat.not_le.mpr hbl
  refine lv_aload_n hx hb dL_882 rfl (lv_at hl 1 rfl) ?_
  refine lv_aload_n hx hb dL_883 rfl (lv_at hl 0 rfl) ?_
  refine lv_iload_n hx hb dL_884 rfl (lv_at hl 3 rfl) ?_
  refine lv_iconst (v := 1) hx hb dL_885 rfl ?_
  refine lv_iadd hx hb dL_886 ?_
  refine va_sld hx hb hX hbl hbA hS (lw_in hi hL ex 1 (by decide) _ rfl) dL_887 ?_
  refine lv_aload_n hx hb dL_888 rfl (lv_at hl 0 rfl) ?_
  refine lv_iload_n hx hb dL_889 rfl (lv_at hl 3 rfl) ?_
  refine lv_iconst (v := 2) hx hb dL_890 rfl ?_
  refine lv_iadd hx hb dL_891 ?_
  refine va_sld hx hb hX hbl hbA hS (lw_in hi hL ex 2 (by decide) _ rfl) dL_892 ?_
  obtain ⟨r, σc1, σm1, h1, h2, hR1⟩ := pp_code hR (by omega) (xs (x3 + 1).toNatClampNeg) (xs (x3 + 2).toNatClampNeg)
  refine lw_call (ad := adC) (ad2 := adM) hx hb hml hown hts hK hDC hDM hSt hNw hdis hP hP2 hS hl.1 dL_893 mlL_108 yvLX9_code rkC_0 ⟨_, _, rfl⟩ mmC_0 (tX9_code l _ _ _ h1) ⟨Nat.le_of_ble_eq_true rfl, Nat.le_of_ble_eq_true rfl⟩ (Nat.le_of_ble_eq_true rfl) rfl (Nat.le_of_ble_eq_true rfl) (fun H locs hP hP2 hS => ?_)
  refine lv_aload_n hx hb dL_896 rfl (lv_at hl 2 rfl) ?_
  refine lv_aload_n hx hb dL_897 rfl (lv_at hl 0 rfl) ?_
  refine lv_iload_n hx hb dL_898 rfl (lv_at hl 3 rfl) ?_
  refine lv_iconst (v := 1) hx hb dL_899 rfl ?_
  refine lv_iadd hx hb dL_900 ?_
  refine va_sld hx hb hX hbl hbA hS (lw_in hi hL ex 1 (by decide) _ rfl) dL_901 ?_
  refine lv_aload_n hx hb dL_902 rfl (lv_at hl 0 rfl) ?_
  refine lv_iload_n hx hb dL_903 rfl (lv_at hl 3 rfl) ?_
  refine lv_iconst (v := 2) hx hb dL_904 rfl ?_
  refine lv_iadd hx hb dL_905 ?_
  refine va_sld hx hb hX hbl hbA hS (lw_in hi hL ex 2 (by decide) _ rfl) dL_906 ?_
  refine lw_call (ad := adM) (ad2 := adC) hx hb hml hown hts hK hDM hDC (fun q h => absurd h List.not_mem_nil) hNw (fun c1 h1 c2 h2 e => hdis c2 h2 c1 h1 e.symm) hP2 hP hS hl.1 dL_907 mlL_111 yvLX10_code rkM_0 ⟨_, _, rfl⟩ mmM_0 (tX10_code l _ _ _ h2) ⟨Nat.le_of_ble_eq_true rfl, Nat.le_of_ble_eq_true rfl⟩ (Nat.le_of_ble_eq_true rfl) rfl (Nat.le_of_ble_eq_true rfl) (fun H locs hP2 hP hS => ?_)
  refine lv_icmp_eq (tgt := 1438) hx hb dL_910 (by decide) (fun _ => ?_) (fun hne => absurd rfl hne)
  exact K _ _ hR1 H locs ls hP hP2 hS hl
set_option maxHeartbeats 4000000 in
theorem lw_c23 (I : lw_I p s m meth c b L xs D cA adC adM) {i : Nat} (hi : i + 6 ≤ L) (hL : L ≤ 3072) {x3 : Int32} (ex : x3 = nI i) {σc σm : ab_S} (hR : Rel i σc σm) (K : ∀ σc σm, Rel (i + 6) σc σm → lw_G p l e s m below meth c b D cA adC adM x3 1438 σc σm) : lw_G p l e s m below meth c b D cA adC adM x3 915 σc σm := by
  intro H locs ls hP hP2 hS hl
  obtain ⟨⟨hx, hb, hr, hml, hown, hts0, hX, hbl, hlk, hgv⟩, hK, hDC, hDM, hdis, hSt, hNw⟩ := I
  have hts : ∀ w ∈ ab_T, w.before #[Value.ref b] s = true := fun w h => hts0 w (List.mem_filter.mp h).1
  have hbA : ¬ lw_A s b := Nat.not_le.mpr hbl
  refine lv_aload_n hx hb dL_915 rfl (lv_at hl 1 rfl) ?_
  refine lv_aload_n hx hb dL_916 rfl (lv_at hl 0 rfl) ?_
  refine lv_iload_n hx hb dL_917 rfl (lv_at hl 3 rfl) ?_
  refine lv_iconst (v := 1) hx hb dL_918 rfl ?_
  refine lv_iadd hx hb dL_919 ?_
  refine va_sld hx hb hX hbl hbA hS (lw_in hi hL ex 1 (by decide) _ rfl) dL_920 ?_
  refine lv_aload_n hx hb dL_921 rfl (lv_at hl 0 rfl) ?_
  refine lv_iload_n hx hb dL_922 rfl (lv_at hl 3 rfl) ?_
  refine lv_iconst (v := 2) hx hb dL_923 rfl ?_
  refine lv_iadd hx hb dL_924 ?_
  refine va_sld hx hb hX hbl hbA hS (lw_in hi hL ex 2 (by decide) _ rfl) dL_925 ?_
  obtain ⟨r, σc1, h1, h2, hR1⟩ := pp_partner hR (by omega) (xs (x3 + 1).toNatClampNeg) (xs (x3 + 2).toNatClampNeg)
  refine lw_call (ad := adC) (ad2 := adM) hx hb hml hown hts hK hDC hDM hSt hNw hdis hP hP2 hS hl.1 dL_926 mlL_112 yvLX9_partner rkC_0 ⟨_, _, rfl⟩ mmC_0 (tX9_partner l _ _ _ h1) ⟨Nat.le_of_ble_eq_true rfl, Nat.le_of_ble_eq_true rfl⟩ (Nat.le_of_ble_eq_true rfl) rfl (Nat.le_of_ble_eq_true rfl) (fun H locs hP hP2 hS => ?_)
  refine lv_aload_n hx hb dL_929 rfl (lv_at hl 2 rfl) ?_
  refine lv_aload_n hx hb dL_930 rfl (lv_at hl 0 rfl) ?_
  refine lv_iload_n hx hb dL_931 rfl (lv_at hl 3 rfl) ?_
  refine lv_iconst (v := 1) hx hb dL_932 rfl ?_
  refine lv_iadd hx hb dL_933 ?_
  refine va_sld hx hb hX hbl hbA hS (lw_in hi hL ex 1 (by decide) _ rfl) dL_934 ?_
  refine lv_aload_n hx hb dL_935 rfl (lv_at hl 0 rfl) ?_
  refine lv_iload_n hx hb dL_936 rfl (lv_at hl 3 rfl) ?_
  refine lv_iconst (v := 2) hx hb dL_937 rfl ?_
  refine lv_iadd hx hb dL_938 ?_
  refine va_sld hx hb hX hbl hbA hS (lw_in hi hL ex 2 (by decide) _ rfl) dL_939 ?_
  refine lw_call (ad := adM) (ad2 := adC) hx hb hml hown hts hK hDM hDC (fun q h => absurd h List.not_mem_nil) hNw (fun c1 h1 c2 h2 e => hdis c2 h2 c1 h1 e.symm) hP2 hP hS hl.1 dL_940 mlL_115 yvLX10_partner rkM_0 ⟨_, _, rfl⟩ mmM_0 (tX10_partner l _ _ _ h2) ⟨Nat.le_of_ble_eq_true rfl, Nat.le_of_ble_eq_true rfl⟩ (Nat.le_of_ble_eq_true rfl) rfl (Nat.le_of_ble_eq_true rfl) (fun H locs hP2 hP hS => ?_)
  refine W.lcmp hx hb dL_943 ?_
  refine lv_if_eq (tgt := 1438) hx hb dL_944 (by decide) (fun _ => ?_) (fun hne => absurd ((lg_cmp_eq _ _).mpr rfl) hne)
  exact K _ _ hR1 H locs ls hP hP2 hS hl
set_option maxHeartbeats 4000000 in
theorem lw_c24 (I : lw_I p s m meth c b L xs D cA adC adM) {i : Nat} (hi : i + 6 ≤ L) (hL : L ≤ 3072) {x3 : Int32} (ex : x3 = nI i) {σc σm : ab_S} (hR : Rel i σc σm) (K : ∀ σc σm, Rel (i + 6) σc σm → lw_G p l e s m below meth c b D cA adC adM x3 1438 σc σm) : lw_G p l e s m below meth c b D cA adC adM x3 949 σc σm := by
  intro H locs ls hP hP2 hS hl
  obtain ⟨⟨hx, hb, hr, hml, hown, hts0, hX, hbl, hlk, hgv⟩, hK, hDC, hDM, hdis, hSt, hNw⟩ := I
  have hts : ∀ w ∈ ab_T, w.before #[Value.ref b] s = true := fun w h => hts0 w (List.mem_filter.mp h).1
  have hbA : ¬ lw_A s b := Nat.not_le.mpr hbl
  refine lv_aload_n hx hb dL_949 rfl (lv_at hl 1 rfl) ?_
  refine lv_aload_n hx hb dL_950 rfl (lv_at hl 0 rfl) ?_
  refine lv_iload_n hx hb dL_951 rfl (lv_at hl 3 rfl) ?_
  refine lv_iconst (v := 1) hx hb dL_952 rfl ?_
  refine lv_iadd hx hb dL_953 ?_
  refine va_sld hx hb hX hbl hbA hS (lw_in hi hL ex 1 (by decide) _ rfl) dL_954 ?_
  obtain ⟨r, σc1, σm1, h1, h2, hR1⟩ := pp_win hR (by omega) (xs (x3 + 1).toNatClampNeg)
  refine lw_call (ad := adC) (ad2 := adM) hx hb hml hown hts hK hDC hDM hSt hNw hdis hP hP2 hS hl.1 dL_955 mlL_116 yvLX9_win rkC_0 ⟨_, _, rfl⟩ mmC_0 (tX9_win l _ _ h1) ⟨Nat.le_of_ble_eq_true rfl, Nat.le_of_ble_eq_true rfl⟩ (Nat.le_of_ble_eq_true rfl) rfl (Nat.le_of_ble_eq_true rfl) (fun H locs hP hP2 hS => ?_)
  refine lv_aload_n hx hb dL_958 rfl (lv_at hl 2 rfl) ?_
  refine lv_aload_n hx hb dL_959 rfl (lv_at hl 0 rfl) ?_
  refine lv_iload_n hx hb dL_960 rfl (lv_at hl 3 rfl) ?_
  refine lv_iconst (v := 1) hx hb dL_961 rfl ?_
  refine lv_iadd hx hb dL_962 ?_
  refine va_sld hx hb hX hbl hbA hS (lw_in hi hL ex 1 (by decide) _ rfl) dL_963 ?_
  refine lw_call (ad := adM) (ad2 := adC) hx hb hml hown hts hK hDM hDC (fun q h => absurd h List.not_mem_nil) hNw (fun c1 h1 c2 h2 e => hdis c2 h2 c1 h1 e.symm) hP2 hP hS hl.1 dL_964 mlL_119 yvLX10_win rkM_0 ⟨_, _, rfl⟩ mmM_0 (tX10_win l _ _ h2) ⟨Nat.le_of_ble_eq_true rfl, Nat.le_of_ble_eq_true rfl⟩ (Nat.le_of_ble_eq_true rfl) rfl (Nat.le_of_ble_eq_true rfl) (fun H locs hP2 hP hS => ?_)
  refine lv_icmp_eq (tgt := 1438) hx hb dL_967 (by decide) (fun _ => ?_) (fun hne => absurd rfl hne)
  exact K _ _ hR1 H locs ls hP hP2 hS hl
set_option maxHeartbeats 4000000 in
theorem lw_c25 (I : lw_I p s m meth c b L xs D cA adC adM) {i : Nat} (hi : i + 6 ≤ L) (hL : L ≤ 3072) {x3 : Int32} (ex : x3 = nI i) {σc σm : ab_S} (hR : Rel i σc σm) (K : ∀ σc σm, Rel (i + 6) σc σm → lw_G p l e s m below meth c b D cA adC adM x3 1438 σc σm) : lw_G p l e s m below meth c b D cA adC adM x3 972 σc σm := by
  intro H locs ls hP hP2 hS hl
  obtain ⟨⟨hx, hb, hr, hml, hown, hts0, hX, hbl, hlk, hgv⟩, hK, hDC, hDM, hdis, hSt, hNw⟩ := I
  have hts : ∀ w ∈ ab_T, w.before #[Value.ref b] s = true := fun w h => hts0 w (List.mem_filter.mp h).1
  have hbA : ¬ lw_A s b := Nat.not_le.mpr hbl
  refine lv_aload_n hx hb dL_972 rfl (lv_at hl 1 rfl) ?_
  refine lv_aload_n hx hb dL_973 rfl (lv_at hl 0 rfl) ?_
  refine lv_iload_n hx hb dL_974 rfl (lv_at hl 3 rfl) ?_
  refine lv_iconst (v := 1) hx hb dL_975 rfl ?_
  refine lv_iadd hx hb dL_976 ?_
  refine va_sld hx hb hX hbl hbA hS (lw_in hi hL ex 1 (by decide) _ rfl) dL_977 ?_
  obtain ⟨r, h1, h2, hR1⟩ := pp_led hR (by omega) (xs (x3 + 1).toNatClampNeg)
  refine lw_call (ad := adC) (ad2 := adM) hx hb hml hown hts hK hDC hDM hSt hNw hdis hP hP2 hS hl.1 dL_978 mlL_120 yvLX9_led rkC_0 ⟨_, _, rfl⟩ mmC_0 (tX9_led l _ _ h1) ⟨Nat.le_of_ble_eq_true rfl, Nat.le_of_ble_eq_true rfl⟩ (Nat.le_of_ble_eq_true rfl) rfl (Nat.le_of_ble_eq_true rfl) (fun H locs hP hP2 hS => ?_)
  refine lv_aload_n hx hb dL_981 rfl (lv_at hl 2 rfl) ?_
  refine lv_aload_n hx hb dL_982 rfl (lv_at hl 0 rfl) ?_
  refine lv_iload_n hx hb dL_983 rfl (lv_at hl 3 rfl) ?_
  refine lv_iconst (v := 1) hx hb dL_984 rfl ?_
  refine lv_iadd hx hb dL_985 ?_
  refine va_sld hx hb hX hbl hbA hS (lw_in hi hL ex 1 (by decide) _ rfl) dL_986 ?_
  refine lw_call (ad := adM) (ad2 := adC) hx hb hml hown hts hK hDM hDC (fun q h => absurd h List.not_mem_nil) hNw (fun c1 h1 c2 h2 e => hdis c2 h2 c1 h1 e.symm) hP2 hP hS hl.1 dL_987 mlL_123 yvLX10_led rkM_0 ⟨_, _, rfl⟩ mmM_0 (tX10_led l _ _ h2) ⟨Nat.le_of_ble_eq_true rfl, Nat.le_of_ble_eq_true rfl⟩ (Nat.le_of_ble_eq_true rfl) rfl (Nat.le_of_ble_eq_true rfl) (fun H locs hP2 hP hS => ?_)
  refine lv_icmp_eq (tgt := 1438) hx hb dL_990 (by decide) (fun _ => ?_) (fun hne => absurd rfl hne)
  exact K _ _ hR1 H locs ls hP hP2 hS hl
set_option maxHeartbeats 4000000 in
theorem lw_c26 (I : lw_I p s m meth c b L xs D cA adC adM) {i : Nat} (hi : i + 6 ≤ L) (hL : L ≤ 3072) {x3 : Int32} (ex : x3 = nI i) {σc σm : ab_S} (hR : Rel i σc σm) (K : ∀ σc σm, Rel (i + 6) σc σm → lw_G p l e s m below meth c b D cA adC adM x3 1438 σc σm) : lw_G p l e s m below meth c b D cA adC adM x3 995 σc σm := by
  intro H locs ls hP hP2 hS hl
  obtain ⟨⟨hx, hb, hr, hml, hown, hts0, hX, hbl, hlk, hgv⟩, hK, hDC, hDM, hdis, hSt, hNw⟩ := I
  have hts : ∀ w ∈ ab_T, w.before #[Value.ref b] s = true := fun w h => hts0 w (List.mem_filter.mp h).1
  have hbA : ¬ lw_A s b := Nat.not_le.mpr hbl
  refine lv_aload_n hx hb dL_995 rfl (lv_at hl 1 rfl) ?_
  obtain ⟨r, σc1, σm1, h1, h2, hR1⟩ := pp_image hR (by omega) 
  refine lw_call (ad := adC) (ad2 := adM) hx hb hml hown hts hK hDC hDM hSt hNw hdis hP hP2 hS hl.1 dL_996 mlL_124 yvLX9_image rkC_0 ⟨_, _, rfl⟩ mmC_0 (tX9_image l _ h1) ⟨Nat.le_of_ble_eq_true rfl, Nat.le_of_ble_eq_true rfl⟩ (Nat.le_of_ble_eq_true rfl) rfl (Nat.le_of_ble_eq_true rfl) (fun H locs hP hP2 hS => ?_)
  refine lv_aload_n hx hb dL_999 rfl (lv_at hl 2 rfl) ?_
  refine lw_call (ad := adM) (ad2 := adC) hx hb hml hown hts hK hDM hDC (fun q h => absurd h List.not_mem_nil) hNw (fun c1 h1 c2 h2 e => hdis c2 h2 c1 h1 e.symm) hP2 hP hS hl.1 dL_1000 mlL_127 yvLX10_image rkM_0 ⟨_, _, rfl⟩ mmM_0 (tX10_image l _ h2) ⟨Nat.le_of_ble_eq_true rfl, Nat.le_of_ble_eq_true rfl⟩ (Nat.le_of_ble_eq_true rfl) rfl (Nat.le_of_ble_eq_true rfl) (fun H locs hP2 hP hS => ?_)
  refine lv_icmp_eq (tgt := 1438) hx hb dL_1003 (by decide) (fun _ => ?_) (fun hne => absurd rfl hne)
  exact K _ _ hR1 H locs ls hP hP2 hS hl
set_option maxHeartbeats 4000000 in
theorem lw_c27 (I : lw_I p s m meth c b L xs D cA adC adM) {i : Nat} (hi : i + 6 ≤ L) (hL : L ≤ 3072) {x3 : Int32} (ex : x3 = nI i) {σc σm : ab_S} (hR : Rel i σc σm) (K : ∀ σc σm, Rel (i + 6) σc σm → lw_G p l e s m below meth c b D cA adC adM x3 1438 σc σm) : lw_G p l e s m below meth c b D cA adC adM x3 1008 σc σm := by
  intro H locs ls hP hP2 hS hl
  obtain ⟨⟨hx, hb, hr, hml, hown, hts0, hX, hbl, hlk, hgv⟩, hK, hDC, hDM, hdis, hSt, hNw⟩ := I
  have hts : ∀ w ∈ ab_T, w.before #[Value.ref b] s = true := fun w h => hts0 w (List.mem_filter.mp h).1
  have hbA : ¬ lw_A s b := Nat.not_le.mpr hbl
  refine lv_aload_n hx hb dL_1008 rfl (lv_at hl 1 rfl) ?_
  obtain ⟨r, σc1, σm1, h1, h2, hR1⟩ := pp_back hR (by omega) 
  refine lw_call (ad := adC) (ad2 := adM) hx hb hml hown hts hK hDC hDM hSt hNw hdis hP hP2 hS hl.1 dL_1009 mlL_128 yvLX9_back rkC_0 ⟨_, _, rfl⟩ mmC_0 (tX9_back l _ h1) ⟨Nat.le_of_ble_eq_true rfl, Nat.le_of_ble_eq_true rfl⟩ (Nat.le_of_ble_eq_true rfl) rfl (Nat.le_of_ble_eq_true rfl) (fun H locs hP hP2 hS => ?_)
  refine lv_aload_n hx hb dL_1012 rfl (lv_at hl 2 rfl) ?_
  refine lw_call (ad := adM) (ad2 := adC) hx hb hml hown hts hK hDM hDC (fun q h => absurd h List.not_mem_nil) hNw (fun c1 h1 c2 h2 e => hdis c2 h2 c1 h1 e.symm) hP2 hP hS hl.1 dL_1013 mlL_131 yvLX10_back rkM_0 ⟨_, _, rfl⟩ mmM_0 (tX10_back l _ h2) ⟨Nat.le_of_ble_eq_true rfl, Nat.le_of_ble_eq_true rfl⟩ (Nat.le_of_ble_eq_true rfl) rfl (Nat.le_of_ble_eq_true rfl) (fun H locs hP2 hP hS => ?_)
  refine lv_icmp_eq (tgt := 1438) hx hb dL_1016 (by decide) (fun _ => ?_) (fun hne => absurd rfl hne)
  exact K _ _ hR1 H locs ls hP hP2 hS hl
set_option maxHeartbeats 4000000 in
theorem lw_c28 (I : lw_I p s m meth c b L xs D cA adC adM) {i : Nat} (hi : i + 6 ≤ L) (hL : L ≤ 3072) {x3 : Int32} (ex : x3 = nI i) {σc σm : ab_S} (hR : Rel i σc σm) (K : ∀ σc σm, Rel (i + 6) σc σm → lw_G p l e s m below meth c b D cA adC adM x3 1438 σc σm) : lw_G p l e s m below meth c b D cA adC adM x3 1021 σc σm := by
  intro H locs ls hP hP2 hS hl
  obtain ⟨⟨hx, hb, hr, hml, hown, hts0, hX, hbl, hlk, hgv⟩, hK, hDC, hDM, hdis, hSt, hNw⟩ := I
  have hts : ∀ w ∈ ab_T, w.before #[Value.ref b] s = true := fun w h => hts0 w (List.mem_filter.mp h).1
  have hbA : ¬ lw_A s b := Nat.not_le.mpr hbl
  refine lv_aload_n hx hb dL_1021 rfl (lv_at hl 1 rfl) ?_
  obtain ⟨r, σc1, σm1, h1, h2, hR1⟩ := pp_undo hR (by omega) 
  refine lw_call (ad := adC) (ad2 := adM) hx hb hml hown hts hK hDC hDM hSt hNw hdis hP hP2 hS hl.1 dL_1022 mlL_132 yvLX9_undo rkC_0 ⟨_, _, rfl⟩ mmC_0 (tX9_undo l _ h1) ⟨Nat.le_of_ble_eq_true rfl, Nat.le_of_ble_eq_true rfl⟩ (Nat.le_of_ble_eq_true rfl) rfl (Nat.le_of_ble_eq_true rfl) (fun H locs hP hP2 hS => ?_)
  refine lv_aload_n hx hb dL_1025 rfl (lv_at hl 2 rfl) ?_
  refine lw_call (ad := adM) (ad2 := adC) hx hb hml hown hts hK hDM hDC (fun q h => absurd h List.not_mem_nil) hNw (fun c1 h1 c2 h2 e => hdis c2 h2 c1 h1 e.symm) hP2 hP hS hl.1 dL_1026 mlL_135 yvLX10_undo rkM_0 ⟨_, _, rfl⟩ mmM_0 (tX10_undo l _ h2) ⟨Nat.le_of_ble_eq_true rfl, Nat.le_of_ble_eq_true rfl⟩ (Nat.le_of_ble_eq_true rfl) rfl (Nat.le_of_ble_eq_true rfl) (fun H locs hP2 hP hS => ?_)
  refine lv_icmp_eq (tgt := 1438) hx hb dL_1029 (by decide) (fun _ => ?_) (fun hne => absurd rfl hne)
  exact K _ _ hR1 H locs ls hP hP2 hS hl
set_option maxHeartbeats 4000000 in
theorem lw_c29 (I : lw_I p s m meth c b L xs D cA adC adM) {i : Nat} (hi : i + 6 ≤ L) (hL : L ≤ 3072) {x3 : Int32} (ex : x3 = nI i) {σc σm : ab_S} (hR : Rel i σc σm) (K : ∀ σc σm, Rel (i + 6) σc σm → lw_G p l e s m below meth c b D cA adC adM x3 1438 σc σm) : lw_G p l e s m below meth c b D cA adC adM x3 1034 σc σm := by
  intro H locs ls hP hP2 hS hl
  obtain ⟨⟨hx, hb, hr, hml, hown, hts0, hX, hbl, hlk, hgv⟩, hK, hDC, hDM, hdis, hSt, hNw⟩ := I
  have hts : ∀ w ∈ ab_T, w.before #[Value.ref b] s = true := fun w h => hts0 w (List.mem_filter.mp h).1
  have hbA : ¬ lw_A s b := Nat.not_le.mpr hbl
  refine lv_aload_n hx hb dL_1034 rfl (lv_at hl 1 rfl) ?_
  obtain ⟨r, σc1, σm1, h1, h2, hR1⟩ := pp_redo hR (by omega) 
  refine lw_call (ad := adC) (ad2 := adM) hx hb hml hown hts hK hDC hDM hSt hNw hdis hP hP2 hS hl.1 dL_1035 mlL_136 yvLX9_redo rkC_0 ⟨_, _, rfl⟩ mmC_0 (tX9_redo l _ h1) ⟨Nat.le_of_ble_eq_true rfl, Nat.le_of_ble_eq_true rfl⟩ (Nat.le_of_ble_eq_true rfl) rfl (Nat.le_of_ble_eq_true rfl) (fun H locs hP hP2 hS => ?_)
  refine lv_aload_n hx hb dL_1038 rfl (lv_at hl 2 rfl) ?_
  refine lw_call (ad := adM) (ad2 := adC) hx hb hml hown hts hK hDM hDC (fun q h => absurd h List.not_mem_nil) hNw (fun c1 h1 c2 h2 e => hdis c2 h2 c1 h1 e.symm) hP2 hP hS hl.1 dL_1039 mlL_139 yvLX10_redo rkM_0 ⟨_, _, rfl⟩ mmM_0 (tX10_redo l _ h2) ⟨Nat.le_of_ble_eq_true rfl, Nat.le_of_ble_eq_true rfl⟩ (Nat.le_of_ble_eq_true rfl) rfl (Nat.le_of_ble_eq_true rfl) (fun H locs hP2 hP hS => ?_)
  refine lv_icmp_eq (tgt := 1438) hx hb dL_1042 (by decide) (fun _ => ?_) (fun hne => absurd rfl hne)
  exact K _ _ hR1 H locs ls hP hP2 hS hl
set_option maxHeartbeats 4000000 in
theorem lw_c30 (I : lw_I p s m meth c b L xs D cA adC adM) {i : Nat} (hi : i + 6 ≤ L) (hL : L ≤ 3072) {x3 : Int32} (ex : x3 = nI i) {σc σm : ab_S} (hR : Rel i σc σm) (K : ∀ σc σm, Rel (i + 6) σc σm → lw_G p l e s m below meth c b D cA adC adM x3 1438 σc σm) : lw_G p l e s m below meth c b D cA adC adM x3 1047 σc σm := by
  intro H locs ls hP hP2 hS hl
  obtain ⟨⟨hx, hb, hr, hml, hown, hts0, hX, hbl, hlk, hgv⟩, hK, hDC, hDM, hdis, hSt, hNw⟩ := I
  have hts : ∀ w ∈ ab_T, w.before #[Value.ref b] s = true := fun w h => hts0 w (List.mem_filter.mp h).1
  have hbA : ¬ lw_A s b := Nat.not_le.mpr hbl
  refine lv_aload_n hx hb dL_1047 rfl (lv_at hl 1 rfl) ?_
  refine lv_aload_n hx hb dL_1048 rfl (lv_at hl 0 rfl) ?_
  refine lv_iload_n hx hb dL_1049 rfl (lv_at hl 3 rfl) ?_
  refine lv_iconst (v := 1) hx hb dL_1050 rfl ?_
  refine lv_iadd hx hb dL_1051 ?_
  refine va_sld hx hb hX hbl hbA hS (lw_in hi hL ex 1 (by decide) _ rfl) dL_1052 ?_
  obtain ⟨r, σc1, σm1, h1, h2, hR1⟩ := pp_body hR (by omega) (xs (x3 + 1).toNatClampNeg)
  refine lw_call (ad := adC) (ad2 := adM) hx hb hml hown hts hK hDC hDM hSt hNw hdis hP hP2 hS hl.1 dL_1053 mlL_140 yvLX9_body rkC_0 ⟨_, _, rfl⟩ mmC_0 (tX9_body l _ _ h1) ⟨Nat.le_of_ble_eq_true rfl, Nat.le_of_ble_eq_true rfl⟩ (Nat.le_of_ble_eq_true rfl) rfl (Nat.le_of_ble_eq_true rfl) (fun H locs hP hP2 hS => ?_)
  refine lv_aload_n hx hb dL_1056 rfl (lv_at hl 2 rfl) ?_
  refine lv_aload_n hx hb dL_1057 rfl (lv_at hl 0 rfl) ?_
  refine lv_iload_n hx hb dL_1058 rfl (lv_at hl 3 rfl) ?_
  refine lv_iconst (v := 1) hx hb dL_1059 rfl ?_
  refine lv_iadd hx hb dL_1060 ?_
  refine va_sld hx hb hX hbl hbA hS (lw_in hi hL ex 1 (by decide) _ rfl) dL_1061 ?_
  refine lw_call (ad := adM) (ad2 := adC) hx hb hml hown hts hK hDM hDC (fun q h => absurd h List.not_mem_nil) hNw (fun c1 h1 c2 h2 e => hdis c2 h2 c1 h1 e.symm) hP2 hP hS hl.1 dL_1062 mlL_143 yvLX10_body rkM_0 ⟨_, _, rfl⟩ mmM_0 (tX10_body l _ _ h2) ⟨Nat.le_of_ble_eq_true rfl, Nat.le_of_ble_eq_true rfl⟩ (Nat.le_of_ble_eq_true rfl) rfl (Nat.le_of_ble_eq_true rfl) (fun H locs hP2 hP hS => ?_)
  refine lv_icmp_eq (tgt := 1438) hx hb dL_1065 (by decide) (fun _ => ?_) (fun hne => absurd rfl hne)
  exact K _ _ hR1 H locs ls hP hP2 hS hl
set_option maxHeartbeats 4000000 in
theorem lw_c31 (I : lw_I p s m meth c b L xs D cA adC adM) {i : Nat} (hi : i + 6 ≤ L) (hL : L ≤ 3072) {x3 : Int32} (ex : x3 = nI i) {σc σm : ab_S} (hR : Rel i σc σm) (K : ∀ σc σm, Rel (i + 6) σc σm → lw_G p l e s m below meth c b D cA adC adM x3 1438 σc σm) : lw_G p l e s m below meth c b D cA adC adM x3 1070 σc σm := by
  intro H locs ls hP hP2 hS hl
  obtain ⟨⟨hx, hb, hr, hml, hown, hts0, hX, hbl, hlk, hgv⟩, hK, hDC, hDM, hdis, hSt, hNw⟩ := I
  have hts : ∀ w ∈ ab_T, w.before #[Value.ref b] s = true := fun w h => hts0 w (List.mem_filter.mp h).1
  have hbA : ¬ lw_A s b := Nat.not_le.mpr hbl
  refine lv_aload_n hx hb dL_1070 rfl (lv_at hl 1 rfl) ?_
  refine lv_aload_n hx hb dL_1071 rfl (lv_at hl 0 rfl) ?_
  refine lv_iload_n hx hb dL_1072 rfl (lv_at hl 3 rfl) ?_
  refine lv_iconst (v := 1) hx hb dL_1073 rfl ?_
  refine lv_iadd hx hb dL_1074 ?_
  refine va_sld hx hb hX hbl hbA hS (lw_in hi hL ex 1 (by decide) _ rfl) dL_1075 ?_
  refine lv_aload_n hx hb dL_1076 rfl (lv_at hl 0 rfl) ?_
  refine lv_iload_n hx hb dL_1077 rfl (lv_at hl 3 rfl) ?_
  refine lv_iconst (v := 2) hx hb dL_1078 rfl ?_
  refine lv_iadd hx hb dL_1079 ?_
  refine va_sld hx hb hX hbl hbA hS (lw_in hi hL ex 2 (by decide) _ rfl) dL_1080 ?_
  refine lv_aload_n hx hb dL_1081 rfl (lv_at hl 0 rfl) ?_
  refine lv_iload_n hx hb dL_1082 rfl (lv_at hl 3 rfl) ?_
  refine lv_iconst (v := 3) hx hb dL_1083 rfl ?_
  refine lv_iadd hx hb dL_1084 ?_
  refine va_sld hx hb hX hbl hbA hS (lw_in hi hL ex 3 (by decide) _ rfl) dL_1085 ?_
  obtain ⟨r, σc1, σm1, h1, h2, hR1⟩ := pp_act hR (by omega) (xs (x3 + 1).toNatClampNeg) (xs (x3 + 2).toNatClampNeg) (xs (x3 + 3).toNatClampNeg)
  refine lw_call (ad := adC) (ad2 := adM) hx hb hml hown hts hK hDC hDM hSt hNw hdis hP hP2 hS hl.1 dL_1086 mlL_144 yvLX9_act rkC_0 ⟨_, _, rfl⟩ mmC_0 (tX9_act l _ _ _ _ h1) ⟨Nat.le_of_ble_eq_true rfl, Nat.le_of_ble_eq_true rfl⟩ (Nat.le_of_ble_eq_true rfl) rfl (Nat.le_of_ble_eq_true rfl) (fun H locs hP hP2 hS => ?_)
  refine lv_aload_n hx hb dL_1089 rfl (lv_at hl 2 rfl) ?_
  refine lv_aload_n hx hb dL_1090 rfl (lv_at hl 0 rfl) ?_
  refine lv_iload_n hx hb dL_1091 rfl (lv_at hl 3 rfl) ?_
  refine lv_iconst (v := 1) hx hb dL_1092 rfl ?_
  refine lv_iadd hx hb dL_1093 ?_
  refine va_sld hx hb hX hbl hbA hS (lw_in hi hL ex 1 (by decide) _ rfl) dL_1094 ?_
  refine lv_aload_n hx hb dL_1095 rfl (lv_at hl 0 rfl) ?_
  refine lv_iload_n hx hb dL_1096 rfl (lv_at hl 3 rfl) ?_
  refine lv_iconst (v := 2) hx hb dL_1097 rfl ?_
  refine lv_iadd hx hb dL_1098 ?_
  refine va_sld hx hb hX hbl hbA hS (lw_in hi hL ex 2 (by decide) _ rfl) dL_1099 ?_
  refine lv_aload_n hx hb dL_1100 rfl (lv_at hl 0 rfl) ?_
  refine lv_iload_n hx hb dL_1101 rfl (lv_at hl 3 rfl) ?_
  refine lv_iconst (v := 3) hx hb dL_1102 rfl ?_
  refine lv_iadd hx hb dL_1103 ?_
  refine va_sld hx hb hX hbl hbA hS (lw_in hi hL ex 3 (by decide) _ rfl) dL_1104 ?_
  refine lw_call (ad := adM) (ad2 := adC) hx hb hml hown hts hK hDM hDC (fun q h => absurd h List.not_mem_nil) hNw (fun c1 h1 c2 h2 e => hdis c2 h2 c1 h1 e.symm) hP2 hP hS hl.1 dL_1105 mlL_147 yvLX10_act rkM_0 ⟨_, _, rfl⟩ mmM_0 (tX10_act l _ _ _ _ h2) ⟨Nat.le_of_ble_eq_true rfl, Nat.le_of_ble_eq_true rfl⟩ (Nat.le_of_ble_eq_true rfl) rfl (Nat.le_of_ble_eq_true rfl) (fun H locs hP2 hP hS => ?_)
  refine lv_icmp_eq (tgt := 1438) hx hb dL_1108 (by decide) (fun _ => ?_) (fun hne => absurd rfl hne)
  exact K _ _ hR1 H locs ls hP hP2 hS hl
set_option maxHeartbeats 4000000 in
theorem lw_c32 (I : lw_I p s m meth c b L xs D cA adC adM) {i : Nat} (hi : i + 6 ≤ L) (hL : L ≤ 3072) {x3 : Int32} (ex : x3 = nI i) {σc σm : ab_S} (hR : Rel i σc σm) (K : ∀ σc σm, Rel (i + 6) σc σm → lw_G p l e s m below meth c b D cA adC adM x3 1438 σc σm) : lw_G p l e s m below meth c b D cA adC adM x3 1113 σc σm := by
  intro H locs ls hP hP2 hS hl
  obtain ⟨⟨hx, hb, hr, hml, hown, hts0, hX, hbl, hlk, hgv⟩, hK, hDC, hDM, hdis, hSt, hNw⟩ := I
  have hts : ∀ w ∈ ab_T, w.before #[Value.ref b] s = true := fun w h => hts0 w (List.mem_filter.mp h).1
  have hbA : ¬ lw_A s b := Nat.not_le.mpr hbl
  refine lv_aload_n hx hb dL_1113 rfl (lv_at hl 1 rfl) ?_
  refine lv_aload_n hx hb dL_1114 rfl (lv_at hl 0 rfl) ?_
  refine lv_iload_n hx hb dL_1115 rfl (lv_at hl 3 rfl) ?_
  refine lv_iconst (v := 1) hx hb dL_1116 rfl ?_
  refine lv_iadd hx hb dL_1117 ?_
  refine va_sld hx hb hX hbl hbA hS (lw_in hi hL ex 1 (by decide) _ rfl) dL_1118 ?_
  obtain ⟨r, h1, h2, hR1⟩ := pp_trace hR (by omega) (xs (x3 + 1).toNatClampNeg)
  refine lw_call (ad := adC) (ad2 := adM) hx hb hml hown hts hK hDC hDM hSt hNw hdis hP hP2 hS hl.1 dL_1119 mlL_148 yvLX9_trace rkC_0 ⟨_, _, rfl⟩ mmC_0 (tX9_trace l _ _ h1) ⟨Nat.le_of_ble_eq_true rfl, Nat.le_of_ble_eq_true rfl⟩ (Nat.le_of_ble_eq_true rfl) rfl (Nat.le_of_ble_eq_true rfl) (fun H locs hP hP2 hS => ?_)
  refine lv_aload_n hx hb dL_1122 rfl (lv_at hl 2 rfl) ?_
  refine lv_aload_n hx hb dL_1123 rfl (lv_at hl 0 rfl) ?_
  refine lv_iload_n hx hb dL_1124 rfl (lv_at hl 3 rfl) ?_
  refine lv_iconst (v := 1) hx hb dL_1125 rfl ?_
  refine lv_iadd hx hb dL_1126 ?_
  refine va_sld hx hb hX hbl hbA hS (lw_in hi hL ex 1 (by decide) _ rfl) dL_1127 ?_
  refine lw_call (ad := adM) (ad2 := adC) hx hb hml hown hts hK hDM hDC (fun q h => absurd h List.not_mem_nil) hNw (fun c1 h1 c2 h2 e => hdis c2 h2 c1 h1 e.symm) hP2 hP hS hl.1 dL_1128 mlL_151 yvLX10_trace rkM_0 ⟨_, _, rfl⟩ mmM_0 (tX10_trace l _ _ h2) ⟨Nat.le_of_ble_eq_true rfl, Nat.le_of_ble_eq_true rfl⟩ (Nat.le_of_ble_eq_true rfl) rfl (Nat.le_of_ble_eq_true rfl) (fun H locs hP2 hP hS => ?_)
  refine lv_icmp_eq (tgt := 1438) hx hb dL_1131 (by decide) (fun _ => ?_) (fun hne => absurd rfl hne)
  exact K _ _ hR1 H locs ls hP hP2 hS hl
set_option maxHeartbeats 4000000 in
theorem lw_c33 (I : lw_I p s m meth c b L xs D cA adC adM) {i : Nat} (hi : i + 6 ≤ L) (hL : L ≤ 3072) {x3 : Int32} (ex : x3 = nI i) {σc σm : ab_S} (hR : Rel i σc σm) (K : ∀ σc σm, Rel (i + 6) σc σm → lw_G p l e s m below meth c b D cA adC adM x3 1438 σc σm) : lw_G p l e s m below meth c b D cA adC adM x3 1136 σc σm := by
  intro H locs ls hP hP2 hS hl
  obtain ⟨⟨hx, hb, hr, hml, hown, hts0, hX, hbl, hlk, hgv⟩, hK, hDC, hDM, hdis, hSt, hNw⟩ := I
  have hts : ∀ w ∈ ab_T, w.before #[Value.ref b] s = true := fun w h => hts0 w (List.mem_filter.mp h).1
  have hbA : ¬ lw_A s b := Nat.not_le.mpr hbl
  refine lv_aload_n hx hb dL_1136 rfl (lv_at hl 1 rfl) ?_
  refine lv_aload_n hx hb dL_1137 rfl (lv_at hl 0 rfl) ?_
  refine lv_iload_n hx hb dL_1138 rfl (lv_at hl 3 rfl) ?_
  refine lv_iconst (v := 1) hx hb dL_1139 rfl ?_
  refine lv_iadd hx hb dL_1140 ?_
  refine va_sld hx hb hX hbl hbA hS (lw_in hi hL ex 1 (by decide) _ rfl) dL_1141 ?_
  refine lv_aload_n hx hb dL_1142 rfl (lv_at hl 0 rfl) ?_
  refine lv_iload_n hx hb dL_1143 rfl (lv_at hl 3 rfl) ?_
  refine lv_iconst (v := 2) hx hb dL_1144 rfl ?_
  refine lv_iadd hx hb dL_1145 ?_
  refine va_sld hx hb hX hbl hbA hS (lw_in hi hL ex 2 (by decide) _ rfl) dL_1146 ?_
  obtain ⟨r, σc1, σm1, h1, h2, hR1⟩ := pp_keep hR (by omega) (xs (x3 + 1).toNatClampNeg) (xs (x3 + 2).toNatClampNeg)
  refine lw_call (ad := adC) (ad2 := adM) hx hb hml hown hts hK hDC hDM hSt hNw hdis hP hP2 hS hl.1 dL_1147 mlL_152 yvLX9_keep rkC_0 ⟨_, _, rfl⟩ mmC_0 (tX9_keep l _ _ _ h1) ⟨Nat.le_of_ble_eq_true rfl, Nat.le_of_ble_eq_true rfl⟩ (Nat.le_of_ble_eq_true rfl) rfl (Nat.le_of_ble_eq_true rfl) (fun H locs hP hP2 hS => ?_)
  refine lv_aload_n hx hb dL_1150 rfl (lv_at hl 2 rfl) ?_
  refine lv_aload_n hx hb dL_1151 rfl (lv_at hl 0 rfl) ?_
  refine lv_iload_n hx hb dL_1152 rfl (lv_at hl 3 rfl) ?_
  refine lv_iconst (v := 1) hx hb dL_1153 rfl ?_
  refine lv_iadd hx hb dL_1154 ?_
  refine va_sld hx hb hX hbl hbA hS (lw_in hi hL ex 1 (by decide) _ rfl) dL_1155 ?_
  refine lv_aload_n hx hb dL_1156 rfl (lv_at hl 0 rfl) ?_
  refine lv_iload_n hx hb dL_1157 rfl (lv_at hl 3 rfl) ?_
  refine lv_iconst (v := 2) hx hb dL_1158 rfl ?_
  refine lv_iadd hx hb dL_1159 ?_
  refine va_sld hx hb hX hbl hbA hS (lw_in hi hL ex 2 (by decide) _ rfl) dL_1160 ?_
  refine lw_call (ad := adM) (ad2 := adC) hx hb hml hown hts hK hDM hDC (fun q h => absurd h List.not_mem_nil) hNw (fun c1 h1 c2 h2 e => hdis c2 h2 c1 h1 e.symm) hP2 hP hS hl.1 dL_1161 mlL_155 yvLX10_keep rkM_0 ⟨_, _, rfl⟩ mmM_0 (tX10_keep l _ _ _ h2) ⟨Nat.le_of_ble_eq_true rfl, Nat.le_of_ble_eq_true rfl⟩ (Nat.le_of_ble_eq_true rfl) rfl (Nat.le_of_ble_eq_true rfl) (fun H locs hP2 hP hS => ?_)
  refine lv_icmp_eq (tgt := 1438) hx hb dL_1164 (by decide) (fun _ => ?_) (fun hne => absurd rfl hne)
  exact K _ _ hR1 H locs ls hP hP2 hS hl
set_option maxHeartbeats 4000000 in
theorem lw_c34 (I : lw_I p s m meth c b L xs D cA adC adM) {i : Nat} (hi : i + 6 ≤ L) (hL : L ≤ 3072) {x3 : Int32} (ex : x3 = nI i) {σc σm : ab_S} (hR : Rel i σc σm) (K : ∀ σc σm, Rel (i + 6) σc σm → lw_G p l e s m below meth c b D cA adC adM x3 1438 σc σm) : lw_G p l e s m below meth c b D cA adC adM x3 1169 σc σm := by
  intro H locs ls hP hP2 hS hl
  obtain ⟨⟨hx, hb, hr, hml, hown, hts0, hX, hbl, hlk, hgv⟩, hK, hDC, hDM, hdis, hSt, hNw⟩ := I
  have hts : ∀ w ∈ ab_T, w.before #[Value.ref b] s = true := fun w h => hts0 w (List.mem_filter.mp h).1
  have hbA : ¬ lw_A s b := Nat.not_le.mpr hbl
  refine lv_aload_n hx hb dL_1169 rfl (lv_at hl 1 rfl) ?_
  refine lv_aload_n hx hb dL_1170 rfl (lv_at hl 0 rfl) ?_
  refine lv_iload_n hx hb dL_1171 rfl (lv_at hl 3 rfl) ?_
  refine lv_iconst (v := 1) hx hb dL_1172 rfl ?_
  refine lv_iadd hx hb dL_1173 ?_
  refine va_sld hx hb hX hbl hbA hS (lw_in hi hL ex 1 (by decide) _ rfl) dL_1174 ?_
  refine lv_aload_n hx hb dL_1175 rfl (lv_at hl 0 rfl) ?_
  refine lv_iload_n hx hb dL_1176 rfl (lv_at hl 3 rfl) ?_
  refine lv_iconst (v := 2) hx hb dL_1177 rfl ?_
  refine lv_iadd hx hb dL_1178 ?_
  refine va_sld hx hb hX hbl hbA hS (lw_in hi hL ex 2 (by decide) _ rfl) dL_1179 ?_
  refine lv_aload_n hx hb dL_1180 rfl (lv_at hl 0 rfl) ?_
  refine lv_iload_n hx hb dL_1181 rfl (lv_at hl 3 rfl) ?_
  refine lv_iconst (v := 3) hx hb dL_1182 rfl ?_
  refine lv_iadd hx hb dL_1183 ?_
  refine va_sld hx hb hX hbl hbA hS (lw_in hi hL ex 3 (by decide) _ rfl) dL_1184 ?_
  obtain ⟨r, σc1, σm1, h1, h2, hR1⟩ := pp_row hR (by omega) (xs (x3 + 1).toNatClampNeg) (xs (x3 + 2).toNatClampNeg) (xs (x3 + 3).toNatClampNeg)
  refine lw_call (ad := adC) (ad2 := adM) hx hb hml hown hts hK hDC hDM hSt hNw hdis hP hP2 hS hl.1 dL_1185 mlL_156 yvLX9_row rkC_0 ⟨_, _, rfl⟩ mmC_0 (tX9_row l _ _ _ _ h1) ⟨Nat.le_of_ble_eq_true rfl, Nat.le_of_ble_eq_true rfl⟩ (Nat.le_of_ble_eq_true rfl) rfl (Nat.le_of_ble_eq_true rfl) (fun H locs hP hP2 hS => ?_)
  refine lv_aload_n hx hb dL_1188 rfl (lv_at hl 2 rfl) ?_
  refine lv_aload_n hx hb dL_1189 rfl (lv_at hl 0 rfl) ?_
  refine lv_iload_n hx hb dL_1190 rfl (lv_at hl 3 rfl) ?_
  refine lv_iconst (v := 1) hx hb dL_1191 rfl ?_
  refine lv_iadd hx hb dL_1192 ?_
  refine va_sld hx hb hX hbl hbA hS (lw_in hi hL ex 1 (by decide) _ rfl) dL_1193 ?_
  refine lv_aload_n hx hb dL_1194 rfl (lv_at hl 0 rfl) ?_
  refine lv_iload_n hx hb dL_1195 rfl (lv_at hl 3 rfl) ?_
  refine lv_iconst (v := 2) hx hb dL_1196 rfl ?_
  refine lv_iadd hx hb dL_1197 ?_
  refine va_sld hx hb hX hbl hbA hS (lw_in hi hL ex 2 (by decide) _ rfl) dL_1198 ?_
  refine lv_aload_n hx hb dL_1199 rfl (lv_at hl 0 rfl) ?_
  refine lv_iload_n hx hb dL_1200 rfl (lv_at hl 3 rfl) ?_
  refine lv_iconst (v := 3) hx hb dL_1201 rfl ?_
  refine lv_iadd hx hb dL_1202 ?_
  refine va_sld hx hb hX hbl hbA hS (lw_in hi hL ex 3 (by decide) _ rfl) dL_1203 ?_
  refine lw_call (ad := adM) (ad2 := adC) hx hb hml hown hts hK hDM hDC (fun q h => absurd h List.not_mem_nil) hNw (fun c1 h1 c2 h2 e => hdis c2 h2 c1 h1 e.symm) hP2 hP hS hl.1 dL_1204 mlL_159 yvLX10_row rkM_0 ⟨_, _, rfl⟩ mmM_0 (tX10_row l _ _ _ _ h2) ⟨Nat.le_of_ble_eq_true rfl, Nat.le_of_ble_eq_true rfl⟩ (Nat.le_of_ble_eq_true rfl) rfl (Nat.le_of_ble_eq_true rfl) (fun H locs hP2 hP hS => ?_)
  refine lv_icmp_eq (tgt := 1438) hx hb dL_1207 (by decide) (fun _ => ?_) (fun hne => absurd rfl hne)
  exact K _ _ hR1 H locs ls hP hP2 hS hl
set_option maxHeartbeats 4000000 in
theorem lw_c35 (I : lw_I p s m meth c b L xs D cA adC adM) {i : Nat} (hi : i + 6 ≤ L) (hL : L ≤ 3072) {x3 : Int32} (ex : x3 = nI i) {σc σm : ab_S} (hR : Rel i σc σm) (K : ∀ σc σm, Rel (i + 6) σc σm → lw_G p l e s m below meth c b D cA adC adM x3 1438 σc σm) : lw_G p l e s m below meth c b D cA adC adM x3 1212 σc σm := by
  intro H locs ls hP hP2 hS hl
  obtain ⟨⟨hx, hb, hr, hml, hown, hts0, hX, hbl, hlk, hgv⟩, hK, hDC, hDM, hdis, hSt, hNw⟩ := I
  have hts : ∀ w ∈ ab_T, w.before #[Value.ref b] s = true := fun w h => hts0 w (List.mem_filter.mp h).1
  have hbA : ¬ lw_A s b := Nat.not_le.mpr hbl
  refine lv_aload_n hx hb dL_1212 rfl (lv_at hl 1 rfl) ?_
  refine lv_aload_n hx hb dL_1213 rfl (lv_at hl 0 rfl) ?_
  refine lv_iload_n hx hb dL_1214 rfl (lv_at hl 3 rfl) ?_
  refine lv_iconst (v := 1) hx hb dL_1215 rfl ?_
  refine lv_iadd hx hb dL_1216 ?_
  refine va_sld hx hb hX hbl hbA hS (lw_in hi hL ex 1 (by decide) _ rfl) dL_1217 ?_
  refine lv_aload_n hx hb dL_1218 rfl (lv_at hl 0 rfl) ?_
  refine lv_iload_n hx hb dL_1219 rfl (lv_at hl 3 rfl) ?_
  refine lv_iconst (v := 2) hx hb dL_1220 rfl ?_
  refine lv_iadd hx hb dL_1221 ?_
  refine va_sld hx hb hX hbl hbA hS (lw_in hi hL ex 2 (by decide) _ rfl) dL_1222 ?_
  refine lv_aload_n hx hb dL_1223 rfl (lv_at hl 0 rfl) ?_
  refine lv_iload_n hx hb dL_1224 rfl (lv_at hl 3 rfl) ?_
  refine lv_iconst (v := 3) hx hb dL_1225 rfl ?_
  refine lv_iadd hx hb dL_1226 ?_
  refine va_sld hx hb hX hbl hbA hS (lw_in hi hL ex 3 (by decide) _ rfl) dL_1227 ?_
  refine lv_i2l hx hb dL_1228 rfl ?_
  refine lv_bipush (v := 32) hx hb dL_1229 rfl ?_
  refine lv_lshl hx hb dL_1231 rfl ?_
  refine lv_aload_n hx hb dL_1232 rfl (lv_at hl 0 rfl) ?_
  refine lv_iload_n hx hb dL_1233 rfl (lv_at hl 3 rfl) ?_
  refine lv_iconst (v := 4) hx hb dL_1234 rfl ?_
  refine lv_iadd hx hb dL_1235 ?_
  refine va_sld hx hb hX hbl hbA hS (lw_in hi hL ex 4 (by decide) _ rfl) dL_1236 ?_
  refine lv_i2l hx hb dL_1237 rfl ?_
  refine lv_ldc2 hx hb hown (hts _ cwL_160) dL_1238 ?_
  refine lv_land hx hb dL_1241 ?_
  refine lv_lor hx hb dL_1242 ?_
  obtain ⟨r, σc1, σm1, h1, h2, hR1⟩ := pp_put hR (by omega) (xs (x3 + 1).toNatClampNeg) (xs (x3 + 2).toNatClampNeg) (((xs (x3 + 3).toNatClampNeg).toInt64 <<< ((32 : Int32).toInt64 &&& 63)) ||| ((xs (x3 + 4).toNatClampNeg).toInt64 &&& (4294967295 : Int64)))
  refine lw_call (ad := adC) (ad2 := adM) hx hb hml hown hts hK hDC hDM hSt hNw hdis hP hP2 hS hl.1 dL_1243 mlL_162 yvLX9_put rkC_0 ⟨_, _, rfl⟩ mmC_0 (tX9_put l _ _ _ _ h1) ⟨Nat.le_of_ble_eq_true rfl, Nat.le_of_ble_eq_true rfl⟩ (Nat.le_of_ble_eq_true rfl) rfl (Nat.le_of_ble_eq_true rfl) (fun H locs hP hP2 hS => ?_)
  refine lv_aload_n hx hb dL_1246 rfl (lv_at hl 2 rfl) ?_
  refine lv_aload_n hx hb dL_1247 rfl (lv_at hl 0 rfl) ?_
  refine lv_iload_n hx hb dL_1248 rfl (lv_at hl 3 rfl) ?_
  refine lv_iconst (v := 1) hx hb dL_1249 rfl ?_
  refine lv_iadd hx hb dL_1250 ?_
  refine va_sld hx hb hX hbl hbA hS (lw_in hi hL ex 1 (by decide) _ rfl) dL_1251 ?_
  refine lv_aload_n hx hb dL_1252 rfl (lv_at hl 0 rfl) ?_
  refine lv_iload_n hx hb dL_1253 rfl (lv_at hl 3 rfl) ?_
  refine lv_iconst (v := 2) hx hb dL_1254 rfl ?_
  refine lv_iadd hx hb dL_1255 ?_
  refine va_sld hx hb hX hbl hbA hS (lw_in hi hL ex 2 (by decide) _ rfl) dL_1256 ?_
  refine lv_aload_n hx hb dL_1257 rfl (lv_at hl 0 rfl) ?_
  refine lv_iload_n hx hb dL_1258 rfl (lv_at hl 3 rfl) ?_
  refine lv_iconst (v := 3) hx hb dL_1259 rfl ?_
  refine lv_iadd hx hb dL_1260 ?_
  refine va_sld hx hb hX hbl hbA hS (lw_in hi hL ex 3 (by decide) _ rfl) dL_1261 ?_
  refine lv_i2l hx hb dL_1262 rfl ?_
  refine lv_bipush (v := 32) hx hb dL_1263 rfl ?_
  refine lv_lshl hx hb dL_1265 rfl ?_
  refine lv_aload_n hx hb dL_1266 rfl (lv_at hl 0 rfl) ?_
  refine lv_iload_n hx hb dL_1267 rfl (lv_at hl 3 rfl) ?_
  refine lv_iconst (v := 4) hx hb dL_1268 rfl ?_
  refine lv_iadd hx hb dL_1269 ?_
  refine va_sld hx hb hX hbl hbA hS (lw_in hi hL ex 4 (by decide) _ rfl) dL_1270 ?_
  refine lv_i2l hx hb dL_1271 rfl ?_
  refine lv_ldc2 hx hb hown (hts _ cwL_160) dL_1272 ?_
  refine lv_land hx hb dL_1275 ?_
  refine lv_lor hx hb dL_1276 ?_
  refine lw_call (ad := adM) (ad2 := adC) hx hb hml hown hts hK hDM hDC (fun q h => absurd h List.not_mem_nil) hNw (fun c1 h1 c2 h2 e => hdis c2 h2 c1 h1 e.symm) hP2 hP hS hl.1 dL_1277 mlL_166 yvLX10_put rkM_0 ⟨_, _, rfl⟩ mmM_0 (tX10_put l _ _ _ _ h2) ⟨Nat.le_of_ble_eq_true rfl, Nat.le_of_ble_eq_true rfl⟩ (Nat.le_of_ble_eq_true rfl) rfl (Nat.le_of_ble_eq_true rfl) (fun H locs hP2 hP hS => ?_)
  refine lv_icmp_eq (tgt := 1438) hx hb dL_1280 (by decide) (fun _ => ?_) (fun hne => absurd rfl hne)
  exact K _ _ hR1 H locs ls hP hP2 hS hl
set_option maxHeartbeats 4000000 in
theorem lw_c36 (I : lw_I p s m meth c b L xs D cA adC adM) {i : Nat} (hi : i + 6 ≤ L) (hL : L ≤ 3072) {x3 : Int32} (ex : x3 = nI i) {σc σm : ab_S} (hR : Rel i σc σm) (K : ∀ σc σm, Rel (i + 6) σc σm → lw_G p l e s m below meth c b D cA adC adM x3 1438 σc σm) : lw_G p l e s m below meth c b D cA adC adM x3 1285 σc σm := by
  intro H locs ls hP hP2 hS hl
  obtain ⟨⟨hx, hb, hr, hml, hown, hts0, hX, hbl, hlk, hgv⟩, hK, hDC, hDM, hdis, hSt, hNw⟩ := I
  have hts : ∀ w ∈ ab_T, w.before #[Value.ref b] s = true := fun w h => hts0 w (List.mem_filter.mp h).1
  have hbA : ¬ lw_A s b := Nat.not_le.mpr hbl
  refine lv_aload_n hx hb dL_1285 rfl (lv_at hl 1 rfl) ?_
  refine lv_aload_n hx hb dL_1286 rfl (lv_at hl 0 rfl) ?_
  refine lv_iload_n hx hb dL_1287 rfl (lv_at hl 3 rfl) ?_
  refine lv_iconst (v := 1) hx hb dL_1288 rfl ?_
  refine lv_iadd hx hb dL_1289 ?_
  refine va_sld hx hb hX hbl hbA hS (lw_in hi hL ex 1 (by decide) _ rfl) dL_1290 ?_
  refine lv_aload_n hx hb dL_1291 rfl (lv_at hl 0 rfl) ?_
  refine lv_iload_n hx hb dL_1292 rfl (lv_at hl 3 rfl) ?_
  refine lv_iconst (v := 2) hx hb dL_1293 rfl ?_
  refine lv_iadd hx hb dL_1294 ?_
  refine va_sld hx hb hX hbl hbA hS (lw_in hi hL ex 2 (by decide) _ rfl) dL_1295 ?_
  obtain ⟨r, h1, h2, hR1⟩ := pp_element hR (by omega) (xs (x3 + 1).toNatClampNeg) (xs (x3 + 2).toNatClampNeg)
  refine lw_call (ad := adC) (ad2 := adM) hx hb hml hown hts hK hDC hDM hSt hNw hdis hP hP2 hS hl.1 dL_1296 mlL_167 yvLX9_element rkC_0 ⟨_, _, rfl⟩ mmC_0 (tX9_element l _ _ _ h1) ⟨Nat.le_of_ble_eq_true rfl, Nat.le_of_ble_eq_true rfl⟩ (Nat.le_of_ble_eq_true rfl) rfl (Nat.le_of_ble_eq_true rfl) (fun H locs hP hP2 hS => ?_)
  refine lv_aload_n hx hb dL_1299 rfl (lv_at hl 2 rfl) ?_
  refine lv_aload_n hx hb dL_1300 rfl (lv_at hl 0 rfl) ?_
  refine lv_iload_n hx hb dL_1301 rfl (lv_at hl 3 rfl) ?_
  refine lv_iconst (v := 1) hx hb dL_1302 rfl ?_
  refine lv_iadd hx hb dL_1303 ?_
  refine va_sld hx hb hX hbl hbA hS (lw_in hi hL ex 1 (by decide) _ rfl) dL_1304 ?_
  refine lv_aload_n hx hb dL_1305 rfl (lv_at hl 0 rfl) ?_
  refine lv_iload_n hx hb dL_1306 rfl (lv_at hl 3 rfl) ?_
  refine lv_iconst (v := 2) hx hb dL_1307 rfl ?_
  refine lv_iadd hx hb dL_1308 ?_
  refine va_sld hx hb hX hbl hbA hS (lw_in hi hL ex 2 (by decide) _ rfl) dL_1309 ?_
  refine lw_call (ad := adM) (ad2 := adC) hx hb hml hown hts hK hDM hDC (fun q h => absurd h List.not_mem_nil) hNw (fun c1 h1 c2 h2 e => hdis c2 h2 c1 h1 e.symm) hP2 hP hS hl.1 dL_1310 mlL_170 yvLX10_element rkM_0 ⟨_, _, rfl⟩ mmM_0 (tX10_element l _ _ _ h2) ⟨Nat.le_of_ble_eq_true rfl, Nat.le_of_ble_eq_true rfl⟩ (Nat.le_of_ble_eq_true rfl) rfl (Nat.le_of_ble_eq_true rfl) (fun H locs hP2 hP hS => ?_)
  refine W.lcmp hx hb dL_1313 ?_
  refine lv_if_eq (tgt := 1438) hx hb dL_1314 (by decide) (fun _ => ?_) (fun hne => absurd ((lg_cmp_eq _ _).mpr rfl) hne)
  exact K _ _ hR1 H locs ls hP hP2 hS hl
set_option maxHeartbeats 4000000 in
theorem lw_c37 (I : lw_I p s m meth c b L xs D cA adC adM) {i : Nat} (hi : i + 6 ≤ L) (hL : L ≤ 3072) {x3 : Int32} (ex : x3 = nI i) {σc σm : ab_S} (hR : Rel i σc σm) (K : ∀ σc σm, Rel (i + 6) σc σm → lw_G p l e s m below meth c b D cA adC adM x3 1438 σc σm) : lw_G p l e s m below meth c b D cA adC adM x3 1319 σc σm := by
  intro H locs ls hP hP2 hS hl
  obtain ⟨⟨hx, hb, hr, hml, hown, hts0, hX, hbl, hlk, hgv⟩, hK, hDC, hDM, hdis, hSt, hNw⟩ := I
  have hts : ∀ w ∈ ab_T, w.before #[Value.ref b] s = true := fun w h => hts0 w (List.mem_filter.mp h).1
  have hbA : ¬ lw_A s b := Nat.not_le.mpr hbl
  refine lv_aload_n hx hb dL_1319 rfl (lv_at hl 1 rfl) ?_
  refine lv_aload_n hx hb dL_1320 rfl (lv_at hl 0 rfl) ?_
  refine lv_iload_n hx hb dL_1321 rfl (lv_at hl 3 rfl) ?_
  refine lv_iconst (v := 1) hx hb dL_1322 rfl ?_
  refine lv_iadd hx hb dL_1323 ?_
  refine va_sld hx hb hX hbl hbA hS (lw_in hi hL ex 1 (by decide) _ rfl) dL_1324 ?_
  refine lv_aload_n hx hb dL_1325 rfl (lv_at hl 0 rfl) ?_
  refine lv_iload_n hx hb dL_1326 rfl (lv_at hl 3 rfl) ?_
  refine lv_iconst (v := 2) hx hb dL_1327 rfl ?_
  refine lv_iadd hx hb dL_1328 ?_
  refine va_sld hx hb hX hbl hbA hS (lw_in hi hL ex 2 (by decide) _ rfl) dL_1329 ?_
  refine lv_aload_n hx hb dL_1330 rfl (lv_at hl 0 rfl) ?_
  refine lv_iload_n hx hb dL_1331 rfl (lv_at hl 3 rfl) ?_
  refine lv_iconst (v := 3) hx hb dL_1332 rfl ?_
  refine lv_iadd hx hb dL_1333 ?_
  refine va_sld hx hb hX hbl hbA hS (lw_in hi hL ex 3 (by decide) _ rfl) dL_1334 ?_
  refine lv_aload_n hx hb dL_1335 rfl (lv_at hl 0 rfl) ?_
  refine lv_iload_n hx hb dL_1336 rfl (lv_at hl 3 rfl) ?_
  refine lv_iconst (v := 4) hx hb dL_1337 rfl ?_
  refine lv_iadd hx hb dL_1338 ?_
  refine va_sld hx hb hX hbl hbA hS (lw_in hi hL ex 4 (by decide) _ rfl) dL_1339 ?_
  refine lv_aload_n hx hb dL_1340 rfl (lv_at hl 0 rfl) ?_
  refine lv_iload_n hx hb dL_1341 rfl (lv_at hl 3 rfl) ?_
  refine lv_iconst (v := 5) hx hb dL_1342 rfl ?_
  refine lv_iadd hx hb dL_1343 ?_
  refine va_sld hx hb hX hbl hbA hS (lw_in hi hL ex 5 (by decide) _ rfl) dL_1344 ?_
  obtain ⟨r, σc1, σm1, h1, h2, hR1⟩ := pp_shift hR (by omega) (xs (x3 + 1).toNatClampNeg) (xs (x3 + 2).toNatClampNeg) (xs (x3 + 3).toNatClampNeg) (xs (x3 + 4).toNatClampNeg) (xs (x3 + 5).toNatClampNeg)
  refine lw_call (ad := adC) (ad2 := adM) hx hb hml hown hts hK hDC hDM hSt hNw hdis hP hP2 hS hl.1 dL_1345 mlL_171 yvLX9_shift rkC_0 ⟨_, _, rfl⟩ mmC_0 (tX9_shift l _ _ _ _ _ _ h1) ⟨Nat.le_of_ble_eq_true rfl, Nat.le_of_ble_eq_true rfl⟩ (Nat.le_of_ble_eq_true rfl) rfl (Nat.le_of_ble_eq_true rfl) (fun H locs hP hP2 hS => ?_)
  refine lv_aload_n hx hb dL_1348 rfl (lv_at hl 2 rfl) ?_
  refine lv_aload_n hx hb dL_1349 rfl (lv_at hl 0 rfl) ?_
  refine lv_iload_n hx hb dL_1350 rfl (lv_at hl 3 rfl) ?_
  refine lv_iconst (v := 1) hx hb dL_1351 rfl ?_
  refine lv_iadd hx hb dL_1352 ?_
  refine va_sld hx hb hX hbl hbA hS (lw_in hi hL ex 1 (by decide) _ rfl) dL_1353 ?_
  refine lv_aload_n hx hb dL_1354 rfl (lv_at hl 0 rfl) ?_
  refine lv_iload_n hx hb dL_1355 rfl (lv_at hl 3 rfl) ?_
  refine lv_iconst (v := 2) hx hb dL_1356 rfl ?_
  refine lv_iadd hx hb dL_1357 ?_
  refine va_sld hx hb hX hbl hbA hS (lw_in hi hL ex 2 (by decide) _ rfl) dL_1358 ?_
  refine lv_aload_n hx hb dL_1359 rfl (lv_at hl 0 rfl) ?_
  refine lv_iload_n hx hb dL_1360 rfl (lv_at hl 3 rfl) ?_
  refine lv_iconst (v := 3) hx hb dL_1361 rfl ?_
  refine lv_iadd hx hb dL_1362 ?_
  refine va_sld hx hb hX hbl hbA hS (lw_in hi hL ex 3 (by decide) _ rfl) dL_1363 ?_
  refine lv_aload_n hx hb dL_1364 rfl (lv_at hl 0 rfl) ?_
  refine lv_iload_n hx hb dL_1365 rfl (lv_at hl 3 rfl) ?_
  refine lv_iconst (v := 4) hx hb dL_1366 rfl ?_
  refine lv_iadd hx hb dL_1367 ?_
  refine va_sld hx hb hX hbl hbA hS (lw_in hi hL ex 4 (by decide) _ rfl) dL_1368 ?_
  refine lv_aload_n hx hb dL_1369 rfl (lv_at hl 0 rfl) ?_
  refine lv_iload_n hx hb dL_1370 rfl (lv_at hl 3 rfl) ?_
  refine lv_iconst (v := 5) hx hb dL_1371 rfl ?_
  refine lv_iadd hx hb dL_1372 ?_
  refine va_sld hx hb hX hbl hbA hS (lw_in hi hL ex 5 (by decide) _ rfl) dL_1373 ?_
  refine lw_call (ad := adM) (ad2 := adC) hx hb hml hown hts hK hDM hDC (fun q h => absurd h List.not_mem_nil) hNw (fun c1 h1 c2 h2 e => hdis c2 h2 c1 h1 e.symm) hP2 hP hS hl.1 dL_1374 mlL_175 yvLX10_shift rkM_0 ⟨_, _, rfl⟩ mmM_0 (tX10_shift l _ _ _ _ _ _ h2) ⟨Nat.le_of_ble_eq_true rfl, Nat.le_of_ble_eq_true rfl⟩ (Nat.le_of_ble_eq_true rfl) rfl (Nat.le_of_ble_eq_true rfl) (fun H locs hP2 hP hS => ?_)
  refine lv_icmp_eq (tgt := 1438) hx hb dL_1377 (by decide) (fun _ => ?_) (fun hne => absurd rfl hne)
  exact K _ _ hR1 H locs ls hP hP2 hS hl
set_option maxHeartbeats 4000000 in
theorem lw_c38 (I : lw_I p s m meth c b L xs D cA adC adM) {i : Nat} (hi : i + 6 ≤ L) (hL : L ≤ 3072) {x3 : Int32} (ex : x3 = nI i) {σc σm : ab_S} (hR : Rel i σc σm) (K : ∀ σc σm, Rel (i + 6) σc σm → lw_G p l e s m below meth c b D cA adC adM x3 1438 σc σm) : lw_G p l e s m below meth c b D cA adC adM x3 1382 σc σm := by
  intro H locs ls hP hP2 hS hl
  obtain ⟨⟨hx, hb, hr, hml, hown, hts0, hX, hbl, hlk, hgv⟩, hK, hDC, hDM, hdis, hSt, hNw⟩ := I
  have hts : ∀ w ∈ ab_T, w.before #[Value.ref b] s = true := fun w h => hts0 w (List.mem_filter.mp h).1
  have hbA : ¬ lw_A s b := Nat.not_le.mpr hbl
  refine lv_aload_n hx hb dL_1382 rfl (lv_at hl 1 rfl) ?_
  refine lv_aload_n hx hb dL_1383 rfl (lv_at hl 0 rfl) ?_
  refine lv_iload_n hx hb dL_1384 rfl (lv_at hl 3 rfl) ?_
  refine lv_iconst (v := 1) hx hb dL_1385 rfl ?_
  refine lv_iadd hx hb dL_1386 ?_
  refine va_sld hx hb hX hbl hbA hS (lw_in hi hL ex 1 (by decide) _ rfl) dL_1387 ?_
  refine lv_aload_n hx hb dL_1388 rfl (lv_at hl 0 rfl) ?_
  refine lv_iload_n hx hb dL_1389 rfl (lv_at hl 3 rfl) ?_
  refine lv_iconst (v := 2) hx hb dL_1390 rfl ?_
  refine lv_iadd hx hb dL_1391 ?_
  refine va_sld hx hb hX hbl hbA hS (lw_in hi hL ex 2 (by decide) _ rfl) dL_1392 ?_
  obtain ⟨r, h1, h2, hR1⟩ := pp_taken hR (by omega) (xs (x3 + 1).toNatClampNeg) (xs (x3 + 2).toNatClampNeg)
  refine lw_call (ad := adC) (ad2 := adM) hx hb hml hown hts hK hDC hDM hSt hNw hdis hP hP2 hS hl.1 dL_1393 mlL_176 yvLX9_taken rkC_0 ⟨_, _, rfl⟩ mmC_0 (tX9_taken l _ _ _ h1) ⟨Nat.le_of_ble_eq_true rfl, Nat.le_of_ble_eq_true rfl⟩ (Nat.le_of_ble_eq_true rfl) rfl (Nat.le_of_ble_eq_true rfl) (fun H locs hP hP2 hS => ?_)
  refine lv_aload_n hx hb dL_1396 rfl (lv_at hl 2 rfl) ?_
  refine lv_aload_n hx hb dL_1397 rfl (lv_at hl 0 rfl) ?_
  refine lv_iload_n hx hb dL_1398 rfl (lv_at hl 3 rfl) ?_
  refine lv_iconst (v := 1) hx hb dL_1399 rfl ?_
  refine lv_iadd hx hb dL_1400 ?_
  refine va_sld hx hb hX hbl hbA hS (lw_in hi hL ex 1 (by decide) _ rfl) dL_1401 ?_
  refine lv_aload_n hx hb dL_1402 rfl (lv_at hl 0 rfl) ?_
  refine lv_iload_n hx hb dL_1403 rfl (lv_at hl 3 rfl) ?_
  refine lv_iconst (v := 2) hx hb dL_1404 rfl ?_
  refine lv_iadd hx hb dL_1405 ?_
  refine va_sld hx hb hX hbl hbA hS (lw_in hi hL ex 2 (by decide) _ rfl) dL_1406 ?_
  refine lw_call (ad := adM) (ad2 := adC) hx hb hml hown hts hK hDM hDC (fun q h => absurd h List.not_mem_nil) hNw (fun c1 h1 c2 h2 e => hdis c2 h2 c1 h1 e.symm) hP2 hP hS hl.1 dL_1407 mlL_179 yvLX10_taken rkM_0 ⟨_, _, rfl⟩ mmM_0 (tX10_taken l _ _ _ h2) ⟨Nat.le_of_ble_eq_true rfl, Nat.le_of_ble_eq_true rfl⟩ (Nat.le_of_ble_eq_true rfl) rfl (Nat.le_of_ble_eq_true rfl) (fun H locs hP2 hP hS => ?_)
  refine lv_icmp_eq (tgt := 1438) hx hb dL_1410 (by decide) (fun _ => ?_) (fun hne => absurd rfl hne)
  exact K _ _ hR1 H locs ls hP hP2 hS hl
set_option maxHeartbeats 4000000 in
theorem lw_c39 (I : lw_I p s m meth c b L xs D cA adC adM) {i : Nat} (hi : i + 6 ≤ L) (hL : L ≤ 3072) {x3 : Int32} (ex : x3 = nI i) {σc σm : ab_S} (hR : Rel i σc σm) (K : ∀ σc σm, Rel (i + 6) σc σm → lw_G p l e s m below meth c b D cA adC adM x3 1438 σc σm) : lw_G p l e s m below meth c b D cA adC adM x3 1415 σc σm := by
  intro H locs ls hP hP2 hS hl
  obtain ⟨⟨hx, hb, hr, hml, hown, hts0, hX, hbl, hlk, hgv⟩, hK, hDC, hDM, hdis, hSt, hNw⟩ := I
  have hts : ∀ w ∈ ab_T, w.before #[Value.ref b] s = true := fun w h => hts0 w (List.mem_filter.mp h).1
  have hbA : ¬ lw_A s b := Nat.not_le.mpr hbl
  refine lv_aload_n hx hb dL_1415 rfl (lv_at hl 1 rfl) ?_
  refine lv_aload_n hx hb dL_1416 rfl (lv_at hl 0 rfl) ?_
  refine lv_iload_n hx hb dL_1417 rfl (lv_at hl 3 rfl) ?_
  refine lv_iconst (v := 1) hx hb dL_1418 rfl ?_
  refine lv_iadd hx hb dL_1419 ?_
  refine va_sld hx hb hX hbl hbA hS (lw_in hi hL ex 1 (by decide) _ rfl) dL_1420 ?_
  obtain ⟨r, h1, h2, hR1⟩ := pp_count hR (by omega) (xs (x3 + 1).toNatClampNeg)
  refine lw_call (ad := adC) (ad2 := adM) hx hb hml hown hts hK hDC hDM hSt hNw hdis hP hP2 hS hl.1 dL_1421 mlL_180 yvLX9_count rkC_0 ⟨_, _, rfl⟩ mmC_0 (tX9_count l _ _ h1) ⟨Nat.le_of_ble_eq_true rfl, Nat.le_of_ble_eq_true rfl⟩ (Nat.le_of_ble_eq_true rfl) rfl (Nat.le_of_ble_eq_true rfl) (fun H locs hP hP2 hS => ?_)
  refine lv_aload_n hx hb dL_1424 rfl (lv_at hl 2 rfl) ?_
  refine lv_aload_n hx hb dL_1425 rfl (lv_at hl 0 rfl) ?_
  refine lv_iload_n hx hb dL_1426 rfl (lv_at hl 3 rfl) ?_
  refine lv_iconst (v := 1) hx hb dL_1427 rfl ?_
  refine lv_iadd hx hb dL_1428 ?_
  refine va_sld hx hb hX hbl hbA hS (lw_in hi hL ex 1 (by decide) _ rfl) dL_1429 ?_
  refine lw_call (ad := adM) (ad2 := adC) hx hb hml hown hts hK hDM hDC (fun q h => absurd h List.not_mem_nil) hNw (fun c1 h1 c2 h2 e => hdis c2 h2 c1 h1 e.symm) hP2 hP hS hl.1 dL_1430 mlL_183 yvLX10_count rkM_0 ⟨_, _, rfl⟩ mmM_0 (tX10_count l _ _ h2) ⟨Nat.le_of_ble_eq_true rfl, Nat.le_of_ble_eq_true rfl⟩ (Nat.le_of_ble_eq_true rfl) rfl (Nat.le_of_ble_eq_true rfl) (fun H locs hP2 hP hS => ?_)
  refine lv_icmp_eq (tgt := 1438) hx hb dL_1433 (by decide) (fun _ => ?_) (fun hne => absurd rfl hne)
  exact K _ _ hR1 H locs ls hP hP2 hS hl
end LW
