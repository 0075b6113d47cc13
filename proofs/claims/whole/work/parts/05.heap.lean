/-! rows that touch the heap; calls; returns -/
theorem ab_E_congr {rk : Nat → ab_K} {ad : Nat → Nat → Nat} {cA : Nat → ClassId} {σ σ' : ab_S} {a b : Nat} (h1 : σ'.1 a b = σ.1 a b) (h2 : σ'.2 a b = σ.2 a b) : ab_E rk ad cA σ' a b = ab_E rk ad cA σ a b := by
  unfold ab_E
  rw [h1, h2]
theorem ab_si_o {σ : ab_S} {r k j : Nat} {v : Int32} {a b : Nat} (h : (a, b) ≠ (r, k)) : (ab_si σ r k j v).1 a b = σ.1 a b := by
  funext x
  exact if_neg (fun q => h (by rw [q.1, q.2.1]))
theorem ab_si_s {σ : ab_S} {r k j : Nat} {v : Int32} : (ab_si σ r k j v).1 r k = upd (σ.1 r k) j v := by
  funext x
  simp [ab_si, upd]
theorem ab_sl_o {σ : ab_S} {r k j : Nat} {v : Int64} {a b : Nat} (h : (a, b) ≠ (r, k)) : (ab_sl σ r k j v).2 a b = σ.2 a b := by
  funext x
  exact if_neg (fun q => h (by rw [q.1, q.2.1]))
theorem ab_sl_s {σ : ab_S} {r k j : Nat} {v : Int64} : (ab_sl σ r k j v).2 r k = vp_updL (σ.2 r k) j v := by
  funext x
  simp [ab_sl, vp_updL]
theorem ab_ci_o {σ : ab_S} {r0 k0 sp r k dp n : Nat} {a b : Nat} (h : (a, b) ≠ (r, k)) : (ab_ci σ r0 k0 sp r k dp n).1 a b = σ.1 a b := by
  funext x
  exact if_neg (fun q => h (by rw [q.1, q.2.1]))
theorem ab_ci_s {σ : ab_S} {r0 k0 sp r k dp n : Nat} : (ab_ci σ r0 k0 sp r k dp n).1 r k = va_cpy (σ.1 r0 k0) (σ.1 r k) sp dp n := by
  funext x
  simp [ab_ci, va_cpy]
theorem ab_cl_o {σ : ab_S} {r0 k0 sp r k dp n : Nat} {a b : Nat} (h : (a, b) ≠ (r, k)) : (ab_cl σ r0 k0 sp r k dp n).2 a b = σ.2 a b := by
  funext x
  exact if_neg (fun q => h (by rw [q.1, q.2.1]))
theorem ab_cl_s {σ : ab_S} {r0 k0 sp r k dp n : Nat} : (ab_cl σ r0 k0 sp r k dp n).2 r k = va_cpy (σ.2 r0 k0) (σ.2 r k) sp dp n := by
  funext x
  simp [ab_cl, va_cpy]
/-- a field's word: class number ci, place j -/
def ab_FL (own : String) (idx ci j : Nat) : Prop := ∃ (C : String) (T : u_T) (N : Nat), vwCl[ci]? = some (C, T, N) ∧ (∀ w ∈ u_ws C T N, w ∈ ab_T) ∧ j < N ∧ Cond.fieldLink own idx (T j).1 (T j).2.1 (T j).2.2.1 ∈ ab_T
def ab_FP (own : String) (idx ci j : Nat) (ty : FieldType) : Prop := ∃ (C : String) (T : u_T) (N : Nat) (ty0 : Nat → FieldType), vwCl[ci]? = some (C, T, N) ∧ (∀ w ∈ u_ws C T N, w ∈ ab_T) ∧ (∀ k, k < N → parseFieldDescriptor (T k).2.2.1 = some (ty0 k)) ∧ (∀ a, a < N → ∀ b, b < N → a ≠ b → (T a).2.1 ≠ (T b).2.1) ∧ j < N ∧ Cond.fieldLink own idx (T j).1 (T j).2.1 (T j).2.2.1 ∈ ab_T ∧ (T j).2.2.2 = false ∧ parseFieldDescriptor (T j).2.2.1 = some ty
def ab_cpb (sp dp n : Int32) (n0 n1 : Nat) : Bool := decide (¬ sp < 0 ∧ ¬ dp < 0 ∧ ¬ n < 0 ∧ sp.toNatClampNeg + n.toNatClampNeg ≤ n0 ∧ dp.toNatClampNeg + n.toNatClampNeg ≤ n1)
/-- a method's words -/
def ab_YO (y : MethodName) (n : Nat) : Prop := y.cls ≠ "java/lang/invoke/MethodHandle" ∧ y.cls ≠ "java/lang/invoke/VarHandle" ∧ (parseMethodDescriptor y.desc).map (fun d => d.parameters.length) = some n
def ab_YV (y : MethodName) (cc : ByteArray) (nL : Nat) (ret : Option FieldType) (n : Nat) : Prop := Cond.instanceMethod y ∈ ab_T ∧ Cond.selects y.cls y y ∈ ab_T ∧ Cond.initialized y.cls ∈ ab_T ∧ Cond.code y cc nL ret ∈ ab_T ∧ ab_YO y n
def ab_YS (y : MethodName) (cc : ByteArray) (nL : Nat) (ret : Option FieldType) (n : Nat) : Prop := Cond.static y ∈ ab_T ∧ Cond.initialized y.cls ∈ ab_T ∧ Cond.code y cc nL ret ∈ ab_T ∧ ab_YO y n
theorem ab_T_good : GoodIn ab_T ab_T := fun w h => ⟨h, good_of_word (List.mem_filter.mp h).2⟩
theorem ab_T_good2 {w : Cond} (h : w ∈ ab_T) : w ∈ ab_T ∧ ((w.onTables && w.keeps) = true ∨ ∃ ty, w = .arrayClass ty) := ab_T_good w h
theorem ab_blind (Y : ab_Y) (D : va_G) (cA : Nat → ClassId) (ad : Nat → Nat → Nat) (σ : ab_S) (av : List Value) (sz : Nat) : FrameBlind (va_Pc av (fun U => U.heap.size = sz ∧ ab_Pre Y D cA ad σ U)) := by
  intro a U g mk q
  obtain ⟨h0, hz, hP, hD, hK, hSt, hNw⟩ := q
  exact ⟨h0, hz, hP, hD, va_K.moved (u := U) (U := U.calling g mk a) (Vm.Alike.refl U.vm) hK, fun q hq => ⟨va_Z.moved (u := U) (U := U.calling g mk a) (Vm.Alike.refl U.vm) (hSt q hq).1, va_T.moved (u := U) (U := U.calling g mk a) (Vm.Alike.refl U.vm) (hSt q hq).2⟩, fun q hq => va_Nw.same rfl rfl (hNw q hq)⟩
section AB
variable {Y : ab_Y} {p : Program} {l : Launch} {e : Env} {s : State} {m : MethodId} {args : Array Value} {below : List Frame} {meth : Method} {c : Code} {D : va_G} {cA : Nat → ClassId} {ad : Nat → Nat → Nat} {cc : ByteArray} {nL d : Nat} {own : String} {ret : Option FieldType} {rv : Option ab_V} {σf : ab_S} {pc nxt : Nat} {lv : List (Option ab_V)} {st : List ab_V} {σ : ab_S}
theorem ab_pre (C : ab_C Y p s m args meth c D cA ad cc nL own ret) {H : Heap} {locs : List Loc} (hP : va_P D vwCl (ab_ws Y ad cA σ) H) (hS : va_S (ab_A Y ad s.heap.size) s.heap H locs) (U : State) (hU : U.heap = H) (hW : s.WarmedH U.vm) : U.heap.size = H.size ∧ ab_Pre Y D cA ad σ U := by
  obtain ⟨hx, hb, hr, hml, hts, hown, hlk, hK, hD, hSt, hNw, hnd⟩ := C
  have hsub : ∀ q, ab_A Y ad H.size q → ab_A Y ad s.heap.size q := ab_A_mono hS.1
  subst hU
  exact ⟨rfl, hP, (hD σ).weaken (fun _ _ _ _ => trivial), va_K.moved hW.alike hK, fun q hq => ⟨((va_Z.moved hW.alike (hSt q hq).1).kept hS.2.1).narrow hsub, ((va_T.moved hW.alike (hSt q hq).2).kept hS.2.1).narrow hsub⟩, fun q hq => va_Nw.warmM hW (hNw q hq)⟩
theorem ab_go (C : ab_C Y p s m args meth c D cA ad cc nL own ret) {H : Heap} {locs : List Loc} {ls : Array Slot} {st0 : List Value} {rv1 : Option ab_V} {σ1 : ab_S} {av : Array Value} (hS : va_S (ab_A Y ad s.heap.size) s.heap H locs) (hL : ab_L ad nL ls lv)
    (hr : va_Run p l e (ab_R d) s m args below meth c H locs 0 0 0 0 (F0 m pc ls st0) (st.map (ab_cv ad)) (ab_Q Y D cA ad rv1 σ1 (ab_A Y ad H.size) av) (ab_A Y ad H.size))
    (k : ab_G Y p l e s m args below meth c D cA ad nL d rv σf (pc + 3) lv (rv1.toList ++ st) σ1) : W p l e (ab_R d) s m args below meth c H locs 0 0 (MQ below (ab_Q Y D cA ad rv σf (ab_A Y ad s.heap.size)) args s 0 0 (ab_A Y ad s.heap.size)) (F0 m pc ls st0) := by
  intro T hT X
  obtain ⟨v, st₀, t, T', L, h0, X', hL', e1, e2, ⟨hv, hPt, hz, hk⟩, step⟩ := hr T hT X
  cases hv
  rw [h0] at hz hk
  have hsub : ∀ q, ab_A Y ad H.size q → ab_A Y ad s.heap.size q := ab_A_mono hS.1
  obtain ⟨t2, a1, b1⟩ := k T'.heap (locs ++ L) ls (by rw [e1]; exact hPt)
    ⟨Nat.le_trans hS.1 (by rw [e1]; exact hz), fun q h1 h2 => by rw [e1, hk q (Nat.lt_of_lt_of_le h1 hS.1) (fun z => h2 (hsub q z))]; exact hS.2.1 q h1 h2, fun q hq => by
      rcases List.mem_append.mp hq with h | h
      · exact hS.2.2 q h
      · exact hsub _ (hL' q h)⟩ hL T' rfl X'
  refine ⟨t2, step t2 ?_, b1⟩
  have ee : (rv1.map (ab_cv ad)).toList ++ st.map (ab_cv ad) = (rv1.toList ++ st).map (ab_cv ad) := by
    cases rv1 <;> simp
  show Steps p.tables e below (T'.setTop (F0 m (pc + 3) ls ((rv1.map (ab_cv ad)).toList ++ st.map (ab_cv ad)))) t2
  rw [ee]
  exact a1
theorem ab_sumcat (st : List ab_V) : ((st.map (ab_cv ad)).map fun v => v.category) = st.map ab_cat := by
  rw [List.map_map]
  exact List.map_congr_left (fun v _ => ab_cat_cv ad v)
theorem ab_inv (C : ab_C Y p s m args meth c D cA ad cc nL own ret) {y : MethodName} {cc' : ByteArray} {nL' d' idx r k ci : Nat} {ret' : Option FieldType} {as : List ab_V} {σ1 : ab_S} {rv1 : Option ab_V} {st0 : List ab_V} {fl : List (Option Nat)} (hd : ab_D cc pc (.invokevirtual idx) 3 nxt) (hl : Cond.methodLink own idx y ∈ ab_T) (hy : ab_YV y cc' nL' ret' as.length)
    (hrk : Y.1 r = .inl (ci, fl)) (hcl : ∃ T N, vwCl[ci]? = some (y.cls, T, N)) (hm : (r, k) ∈ Y.2.1) (hM : ab_M l Y y cc' nL' ret' d' (.inr (.inr (r, k)) :: as) σ rv1 σ1) (hdd : d' + 1 ≤ d) (hnn : nL' ≤ 40) (hst : st0 = as.reverse ++ .inr (.inr (r, k)) :: st) (hw : (st.map ab_cat).sum ≤ 8)
    (kk : ab_G Y p l e s m args below meth c D cA ad nL d rv σf nxt lv (rv1.toList ++ st) σ1) : ab_G Y p l e s m args below meth c D cA ad nL d rv σf pc lv st0 σ := by
  obtain ⟨hd, rfl⟩ := hd
  subst hst
  intro H locs ls hP hS hL
  obtain ⟨hi, hse, hin, hco, hyo⟩ := hy
  obtain ⟨T, N, hcl⟩ := hcl
  have C' := C
  obtain ⟨hx, hb, hr, hml, hts, hown, hlk, hK, hD, hSt, hNw, hnd⟩ := C
  obtain ⟨q, hq, hqe⟩ := ab_at hm ad cA σ
  have hE : ab_E Y.1 ad cA σ r k = .inr (ci, ab_fs ad (σ.1 r k) k 0 fl) := by simp [ab_E, hrk]
  rw [hE] at hqe
  have run := va_runV (As := as.map (ab_cv ad)) (rest := st.map (ab_cv ad)) (g := F0 m pc ls ((as.reverse ++ .inr (.inr (r, k)) :: st).map (ab_cv ad))) (cells := 0) (slots := 0) (locs := locs) (e := e) (below := below) (meth := meth) (R := ab_R d) (H := H) ⟨hx, hb, hml, hown, hts⟩ (hM D cA ad H.size)
    (cwV (C := y.cls) as.length hts (fun w h => by
      simp only [wsV, List.mem_append, List.mem_cons, List.not_mem_nil, or_false] at h
      rcases h with (rfl | rfl | rfl | rfl) | rfl | h
      · exact ab_T_good2 hl
      · exact ab_T_good2 hi
      · exact ab_T_good2 hse
      · exact ab_T_good2 hin
      · exact ab_T_good2 hco
      · exact ab_T_good2 h) rfl rfl rfl ⟨rfl, hyo⟩ ⟨hdd, by simp only [ab_R]; omega⟩)
    ⟨ab_blind Y D cA ad σ _ _, va_recv hK hP hcl hqe, fun U hU hW => ⟨rfl, ab_pre C' hP hS U hU hW⟩⟩ rfl (by simp) hL.1 (by simp [ab_cv]) (by rw [ab_sumcat]; show 2 * 0 + _ ≤ 8; omega) hd ⟨Nat.le_refl _, Nat.le_refl _⟩
  exact ab_go C' hS hL run kk
theorem ab_invS (C : ab_C Y p s m args meth c D cA ad cc nL own ret) {y : MethodName} {cc' : ByteArray} {nL' d' idx : Nat} {ret' : Option FieldType} {as : List ab_V} {σ1 : ab_S} {rv1 : Option ab_V} {st0 : List ab_V} (hd : ab_D cc pc (.invokestatic idx) 3 nxt) (hl : Cond.methodLink own idx y ∈ ab_T) (hy : ab_YS y cc' nL' ret' as.length)
    (hM : ab_M l Y y cc' nL' ret' d' as σ rv1 σ1) (hdd : d' + 1 ≤ d) (hnn : nL' ≤ 40) (hst : st0 = as.reverse ++ st) (hw : (st.map ab_cat).sum ≤ 8)
    (kk : ab_G Y p l e s m args below meth c D cA ad nL d rv σf nxt lv (rv1.toList ++ st) σ1) : ab_G Y p l e s m args below meth c D cA ad nL d rv σf pc lv st0 σ := by
  obtain ⟨hd, rfl⟩ := hd
  subst hst
  intro H locs ls hP hS hL
  obtain ⟨hi, hin, hco, hyo⟩ := hy
  have C' := C
  obtain ⟨hx, hb, hr, hml, hts, hown, hlk, hK, hD, hSt, hNw, hnd⟩ := C
  have run := va_runS (As := as.map (ab_cv ad)) (rest := st.map (ab_cv ad)) (g := F0 m pc ls ((as.reverse ++ st).map (ab_cv ad))) (cells := 0) (slots := 0) (locs := locs) (e := e) (below := below) (meth := meth) (R := ab_R d) (H := H) ⟨hx, hb, hml, hown, hts⟩ (hM D cA ad H.size)
    (va_cwS as.length hts (fun w h => by
      simp only [va_wsS, List.mem_append, List.mem_cons, List.not_mem_nil, or_false] at h
      rcases h with (rfl | rfl | rfl) | rfl | h
      · exact ab_T_good2 hl
      · exact ab_T_good2 hi
      · exact ab_T_good2 hin
      · exact ab_T_good2 hco
      · exact ab_T_good2 h) rfl rfl rfl hyo ⟨hdd, by simp only [ab_R]; omega⟩)
    ⟨ab_blind Y D cA ad σ _ _, fun U hU hW => ⟨rfl, ab_pre C' hP hS U hU hW⟩⟩ rfl (by simp) hL.1 (by simp) (by rw [ab_sumcat]; show 2 * 0 + _ ≤ 8; omega) hd ⟨Nat.le_refl _, Nat.le_refl _⟩
  exact ab_go C' hS hL run kk
theorem ab_invSN (C : ab_C Y p s m args meth c D cA ad cc nL own ret) {y : MethodName} {cc' : ByteArray} {nL' d' idx : Nat} {host : String} {ret' : Option FieldType} {as : List ab_V} {σ1 : ab_S} {rv1 : Option ab_V} {st0 : List ab_V} (hd : ab_D cc pc (.invokestatic idx) 3 nxt) (hl : (own, idx, y, host) ∈ ab_nl) (hy : ab_YS y cc' nL' ret' as.length)
    (hM : ab_M l Y y cc' nL' ret' d' as σ rv1 σ1) (hdd : d' + 1 ≤ d) (hnn : nL' ≤ 40) (hst : st0 = as.reverse ++ st) (hw : (st.map ab_cat).sum ≤ 8)
    (kk : ab_G Y p l e s m args below meth c D cA ad nL d rv σf nxt lv (rv1.toList ++ st) σ1) : ab_G Y p l e s m args below meth c D cA ad nL d rv σf pc lv st0 σ := by
  obtain ⟨hd, rfl⟩ := hd
  subst hst
  intro H locs ls hP hS hL
  obtain ⟨hi, hin, hco, hyo⟩ := hy
  have C' := C
  obtain ⟨hx, hb, hr, hml, hts, hown, hlk, hK, hD, hSt, hNw, hnd⟩ := C
  have run := va_runSN (As := as.map (ab_cv ad)) (rest := st.map (ab_cv ad)) (g := F0 m pc ls ((as.reverse ++ st).map (ab_cv ad))) (cells := 0) (slots := 0) (locs := locs) (e := e) (below := below) (meth := meth) (R := ab_R d) (H := H) ⟨hx, hb, hml, hown, hts⟩ (hM D cA ad H.size)
    ⟨va_cnB (host := host) as.length hts (fun w h => by
      rcases List.mem_cons.mp h with rfl | h
      · exact ab_T_good2 hco
      · exact ab_T_good2 h) rfl rfl rfl (hNw _ hl) (hts _ hin) hyo ⟨hdd, by simp only [ab_R]; omega⟩, hts _ hi, trivial⟩
    ⟨ab_blind Y D cA ad σ _ _, fun U hU hW => ⟨rfl, ab_pre C' hP hS U hU hW⟩⟩ rfl (by simp) hL.1 (by simp) (by rw [ab_sumcat]; show 2 * 0 + _ ≤ 8; omega) hd ⟨Nat.le_refl _, Nat.le_refl _⟩
  exact ab_go C' hS hL run kk
theorem ab_getI (C : ab_C Y p s m args meth c D cA ad cc nL own ret) {r k j ci idx : Nat} {fl : List (Option Nat)} (hd : ab_D cc pc (.getfield idx) 3 nxt) (hf : ab_FL own idx ci j) (hrk : Y.1 r = .inl (ci, fl)) (hj : fl[j]? = some none) (hm : (r, k) ∈ Y.2.1)
    (kk : ab_G Y p l e s m args below meth c D cA ad nL d rv σf nxt lv (.inl (σ.1 r k j) :: st) σ) : ab_G Y p l e s m args below meth c D cA ad nL d rv σf pc lv (.inr (.inr (r, k)) :: st) σ := by
  obtain ⟨hd, rfl⟩ := hd
  intro H locs ls hP hS hL
  obtain ⟨Cn, T, N, hc, hin, hjN, hlk⟩ := hf
  obtain ⟨hx, hb, hr, hml, hts, hown, -, hK, hD, hSt, hNw, hnd⟩ := C
  obtain ⟨q, hq, hqe⟩ := ab_at hm ad cA σ
  rw [show ab_E Y.1 ad cA σ r k = .inr (ci, ab_fs ad (σ.1 r k) k 0 fl) by simp [ab_E, hrk]] at hqe
  have hv := ab_fs_int ad (σ.1 r k) k fl 0 j hj
  rw [Nat.zero_add] at hv
  exact va_get hx hb hts hin hown hK hP q hqe hc j hjN (hts _ hlk) (fun _ h => h) hv hd (kk H locs ls hP hS hL)
theorem ab_getR (C : ab_C Y p s m args meth c D cA ad cc nL own ret) {r k j ci idx r' : Nat} {fl : List (Option Nat)} (hd : ab_D cc pc (.getfield idx) 3 nxt) (hf : ab_FL own idx ci j) (hrk : Y.1 r = .inl (ci, fl)) (hj : fl[j]? = some (some r')) (hm : (r, k) ∈ Y.2.1)
    (kk : ab_G Y p l e s m args below meth c D cA ad nL d rv σf nxt lv (.inr (.inr (r', k)) :: st) σ) : ab_G Y p l e s m args below meth c D cA ad nL d rv σf pc lv (.inr (.inr (r, k)) :: st) σ := by
  obtain ⟨hd, rfl⟩ := hd
  intro H locs ls hP hS hL
  obtain ⟨Cn, T, N, hc, hin, hjN, hlk⟩ := hf
  obtain ⟨hx, hb, hr, hml, hts, hown, -, hK, hD, hSt, hNw, hnd⟩ := C
  obtain ⟨q, hq, hqe⟩ := ab_at hm ad cA σ
  rw [show ab_E Y.1 ad cA σ r k = .inr (ci, ab_fs ad (σ.1 r k) k 0 fl) by simp [ab_E, hrk]] at hqe
  have hv := ab_fs_ref ad (σ.1 r k) k fl 0 j hj
  exact va_get hx hb hts hin hown hK hP q hqe hc j hjN (hts _ hlk) (fun _ h => h) hv hd (kk H locs ls hP hS hL)
theorem ab_putI (C : ab_C Y p s m args meth c D cA ad cc nL own ret) {r k j ci idx : Nat} {fl : List (Option Nat)} {ty : FieldType} {v : Int32} (hd : ab_D cc pc (.putfield idx) 3 nxt) (hf : ab_FP own idx ci j ty) (hrk : Y.1 r = .inl (ci, fl)) (hj : fl[j]? = some none) (hm : (r, k) ∈ Y.2.1) (hn : narrow ty (.int v) = .int v) (hfit : fits ty (.int v) = true)
    (kk : ab_G Y p l e s m args below meth c D cA ad nL d rv σf nxt lv st (ab_si σ r k j v)) : ab_G Y p l e s m args below meth c D cA ad nL d rv σf pc lv (.inl v :: .inr (.inr (r, k)) :: st) σ := by
  obtain ⟨hd, rfl⟩ := hd
  intro H locs ls hP hS hL
  obtain ⟨Cn, T, N, ty0, hc, hin, hty, hnm, hjN, hlk, hfin, hpd⟩ := hf
  obtain ⟨hx, hb, hr, hml, hts, hown, -, hK, hD, hSt, hNw, hnd⟩ := C
  obtain ⟨q, hq, hqe⟩ := ab_at hm ad cA σ
  rw [show ab_E Y.1 ad cA σ r k = .inr (ci, ab_fs ad (σ.1 r k) k 0 fl) by simp [ab_E, hrk]] at hqe
  have hset : (ab_ws Y ad cA σ).set q (ad r k, .inr (ci, (ab_fs ad (σ.1 r k) k 0 fl).set j (.int v))) = ab_ws Y ad cA (ab_si σ r k j v) := by
    rw [← ab_ws_set hnd (σ' := ab_si σ r k j v) hq (fun a b _ hne => ab_E_congr (ab_si_o hne) rfl)]
    congr 2
    simp only [ab_E, hrk]
    rw [ab_fs_set ad _ k v fl 0 j hj, Nat.zero_add, ab_si_s]
  refine va_put hx hb hts hin ty0 hty hnm hown hK hP (hD σ) hS q hqe hc j hjN (hts _ hlk) (fun _ h => h) hfin hpd hn hfit (by rw [ab_fs_len]; exact (List.getElem?_eq_some_iff.mp hj).1) hd (fun H1 locs1 hP1 _ hS1 => ?_)
  have hP2 : va_P D vwCl ((ab_ws Y ad cA σ).set q (ad r k, .inr (ci, (ab_fs ad (σ.1 r k) k 0 fl).set j (.int v)))) H1 := hP1
  rw [hset] at hP2
  exact kk H1 locs1 ls hP2 hS1 hL
theorem ab_iald (C : ab_C Y p s m args meth c D cA ad cc nL own ret) {r k n q0 : Nat} {i : Int32} (hd : ab_D cc pc .iaload 1 nxt) (hrk : Y.1 r = .inr (0, n, q0)) (hm : (r, k) ∈ Y.2.1) (hi : ab_inb i n = true)
    (kk : ab_G Y p l e s m args below meth c D cA ad nL d rv σf nxt lv (.inl (σ.1 r k i.toNatClampNeg) :: st) σ) : ab_G Y p l e s m args below meth c D cA ad nL d rv σf pc lv (.inl i :: .inr (.inr (r, k)) :: st) σ := by
  obtain ⟨hd, rfl⟩ := hd
  intro H locs ls hP hS hL
  obtain ⟨hx, hb, hr, hml, hts, hown, -, hK, hD, hSt, hNw, hnd⟩ := C
  obtain ⟨q, hq, hqe⟩ := ab_at hm ad cA σ
  rw [show ab_E Y.1 ad cA σ r k = .inl (cA 0, n, .inl (σ.1 r k)) by simp [ab_E, hrk]] at hqe
  exact va_iald hx hb hK hP q 0 hqe rfl (ab_inb_in hi) hd (kk H locs ls hP hS hL)
theorem ab_bald (C : ab_C Y p s m args meth c D cA ad cc nL own ret) {r k n q0 : Nat} {i : Int32} (hd : ab_D cc pc .baload 1 nxt) (hrk : Y.1 r = .inr (1, n, q0)) (hm : (r, k) ∈ Y.2.1) (hi : ab_inb i n = true)
    (kk : ab_G Y p l e s m args below meth c D cA ad nL d rv σf nxt lv (.inl (σ.1 r k i.toNatClampNeg) :: st) σ) : ab_G Y p l e s m args below meth c D cA ad nL d rv σf pc lv (.inl i :: .inr (.inr (r, k)) :: st) σ := by
  obtain ⟨hd, rfl⟩ := hd
  intro H locs ls hP hS hL
  obtain ⟨hx, hb, hr, hml, hts, hown, -, hK, hD, hSt, hNw, hnd⟩ := C
  obtain ⟨q, hq, hqe⟩ := ab_at hm ad cA σ
  rw [show ab_E Y.1 ad cA σ r k = .inl (cA 1, n, .inl (σ.1 r k)) by simp [ab_E, hrk]] at hqe
  exact va_bald hx hb hK hP q 1 hqe rfl (ab_inb_in hi) hd (kk H locs ls hP hS hL)
theorem ab_lald (C : ab_C Y p s m args meth c D cA ad cc nL own ret) {r k n q0 : Nat} {i : Int32} (hd : ab_D cc pc .laload 1 nxt) (hrk : Y.1 r = .inr (2, n, q0)) (hm : (r, k) ∈ Y.2.1) (hi : ab_inb i n = true)
    (kk : ab_G Y p l e s m args below meth c D cA ad nL d rv σf nxt lv (.inr (.inl (σ.2 r k i.toNatClampNeg)) :: st) σ) : ab_G Y p l e s m args below meth c D cA ad nL d rv σf pc lv (.inl i :: .inr (.inr (r, k)) :: st) σ := by
  obtain ⟨hd, rfl⟩ := hd
  intro H locs ls hP hS hL
  obtain ⟨hx, hb, hr, hml, hts, hown, -, hK, hD, hSt, hNw, hnd⟩ := C
  obtain ⟨q, hq, hqe⟩ := ab_at hm ad cA σ
  rw [show ab_E Y.1 ad cA σ r k = .inl (cA 2, n, .inr (.inl (σ.2 r k))) by simp [ab_E, hrk]] at hqe
  exact va_lald hx hb hK hP q 2 hqe rfl (ab_inb_in hi) hd (kk H locs ls hP hS hL)
theorem ab_aald3 (C : ab_C Y p s m args meth c D cA ad cc nL own ret) {r k n q0 : Nat} {i : Int32} (hd : ab_D cc pc .aaload 1 nxt) (hrk : Y.1 r = .inr (3, n, q0)) (hm : (r, k) ∈ Y.2.1) (hi : ab_inb i n = true)
    (kk : ab_G Y p l e s m args below meth c D cA ad nL d rv σf nxt lv (.inr (.inr (q0, i.toNatClampNeg)) :: st) σ) : ab_G Y p l e s m args below meth c D cA ad nL d rv σf pc lv (.inl i :: .inr (.inr (r, k)) :: st) σ := by
  obtain ⟨hd, rfl⟩ := hd
  intro H locs ls hP hS hL
  obtain ⟨hx, hb, hr, hml, hts, hown, -, hK, hD, hSt, hNw, hnd⟩ := C
  obtain ⟨q, hq, hqe⟩ := ab_at hm ad cA σ
  rw [show ab_E Y.1 ad cA σ r k = .inl (cA 3, n, .inr (.inr (.inr (.inr (fun i => some (ad q0 i)))))) by simp [ab_E, hrk]] at hqe
  exact va_aldq hx hb hK hP q 3 hqe rfl (ab_inb_in hi) hd (kk H locs ls hP hS hL)
theorem ab_aald4 (C : ab_C Y p s m args meth c D cA ad cc nL own ret) {r k n q0 : Nat} {i : Int32} (hd : ab_D cc pc .aaload 1 nxt) (hrk : Y.1 r = .inr (4, n, q0)) (hm : (r, k) ∈ Y.2.1) (hi : ab_inb i n = true)
    (kk : ab_G Y p l e s m args below meth c D cA ad nL d rv σf nxt lv (.inr (.inr (q0, i.toNatClampNeg)) :: st) σ) : ab_G Y p l e s m args below meth c D cA ad nL d rv σf pc lv (.inl i :: .inr (.inr (r, k)) :: st) σ := by
  obtain ⟨hd, rfl⟩ := hd
  intro H locs ls hP hS hL
  obtain ⟨hx, hb, hr, hml, hts, hown, -, hK, hD, hSt, hNw, hnd⟩ := C
  obtain ⟨q, hq, hqe⟩ := ab_at hm ad cA σ
  rw [show ab_E Y.1 ad cA σ r k = .inl (cA 4, n, .inr (.inr (.inr (.inr (fun i => some (ad q0 i)))))) by simp [ab_E, hrk]] at hqe
  have hlt : i.toNatClampNeg < n := ab_inb_lt hi
  exact W.aald (v := .ref (ad q0 i.toNatClampNeg)) (ty := .array .long) hx hb (hP q _ hqe) ((hK.2 4 _ rfl).1 n (fun j => va_rf (some (ad q0 j)))) rfl (fun q => by cases q) (by show ¬ (i < 0 ∨ (arrV _ _ _).slots.size ≤ _); rw [arrV_size]; exact ab_inb_in hi) (by show (arrV _ _ _).slots[_]? = _; rw [arrV_read _ _ hlt]; rfl) rfl rfl hd (kk H locs ls hP hS hL)
theorem ab_alen (C : ab_C Y p s m args meth c D cA ad cc nL own ret) {r k t n q0 : Nat} (hd : ab_D cc pc .arraylength 1 nxt) (hrk : Y.1 r = .inr (t, n, q0)) (ht : t < 3) (hm : (r, k) ∈ Y.2.1)
    (kk : ab_G Y p l e s m args below meth c D cA ad nL d rv σf nxt lv (.inl (Int32.ofNat n) :: st) σ) : ab_G Y p l e s m args below meth c D cA ad nL d rv σf pc lv (.inr (.inr (r, k)) :: st) σ := by
  obtain ⟨hd, rfl⟩ := hd
  intro H locs ls hP hS hL
  obtain ⟨hx, hb, hr, hml, hts, hown, -, hK, hD, hSt, hNw, hnd⟩ := C
  obtain ⟨q, hq, hqe⟩ := ab_at hm ad cA σ
  match t, ht with
  | 0, _ =>
    rw [show ab_E Y.1 ad cA σ r k = .inl (cA 0, n, .inl (σ.1 r k)) by simp [ab_E, hrk]] at hqe
    exact va_alen hx hb hK hP q 0 hqe rfl rfl hd (kk H locs ls hP hS hL)
  | 1, _ =>
    rw [show ab_E Y.1 ad cA σ r k = .inl (cA 1, n, .inl (σ.1 r k)) by simp [ab_E, hrk]] at hqe
    exact va_alen hx hb hK hP q 1 hqe rfl rfl hd (kk H locs ls hP hS hL)
  | 2, _ =>
    rw [show ab_E Y.1 ad cA σ r k = .inl (cA 2, n, .inr (.inl (σ.2 r k))) by simp [ab_E, hrk]] at hqe
    exact va_alen hx hb hK hP q 2 hqe rfl rfl hd (kk H locs ls hP hS hL)
theorem ab_iast (C : ab_C Y p s m args meth c D cA ad cc nL own ret) {r k n q0 : Nat} {i : Int32} {v : Int32} (hd : ab_D cc pc .iastore 1 nxt) (hrk : Y.1 r = .inr (0, n, q0)) (hm : (r, k) ∈ Y.2.1) (hi : ab_inb i n = true)
    (kk : ab_G Y p l e s m args below meth c D cA ad nL d rv σf nxt lv st (ab_si σ r k i.toNatClampNeg v)) : ab_G Y p l e s m args below meth c D cA ad nL d rv σf pc lv (.inl v :: .inl i :: .inr (.inr (r, k)) :: st) σ := by
  obtain ⟨hd, rfl⟩ := hd
  intro H locs ls hP hS hL
  obtain ⟨hx, hb, hr, hml, hts, hown, -, hK, hD, hSt, hNw, hnd⟩ := C
  obtain ⟨q, hq, hqe⟩ := ab_at hm ad cA σ
  rw [show ab_E Y.1 ad cA σ r k = .inl (cA 0, n, .inl (σ.1 r k)) by simp [ab_E, hrk]] at hqe
  have hset : (ab_ws Y ad cA σ).set q (ad r k, .inl (cA 0, n, .inl (upd (σ.1 r k) i.toNatClampNeg v))) = ab_ws Y ad cA (ab_si σ r k i.toNatClampNeg v) := by
    rw [← ab_ws_set hnd (σ' := ab_si σ r k i.toNatClampNeg v) hq (fun a b _ hne => ab_E_congr (ab_si_o hne) rfl)]
    congr 2
    simp only [ab_E, hrk]
    rw [ab_si_s]
  refine va_iast hx hb hK hP (hD σ) hS q 0 hqe rfl (ab_inb_in hi) hd (fun H1 locs1 hP1 _ hS1 => ?_)
  rw [hset] at hP1
  exact kk H1 locs1 ls hP1 hS1 hL
theorem ab_bast (C : ab_C Y p s m args meth c D cA ad cc nL own ret) {r k n q0 : Nat} {i : Int32} {v : Int32} (hd : ab_D cc pc .bastore 1 nxt) (hrk : Y.1 r = .inr (1, n, q0)) (hm : (r, k) ∈ Y.2.1) (hi : ab_inb i n = true)
    (kk : ab_G Y p l e s m args below meth c D cA ad nL d rv σf nxt lv st (ab_si σ r k i.toNatClampNeg (vp_nar .byte v))) : ab_G Y p l e s m args below meth c D cA ad nL d rv σf pc lv (.inl v :: .inl i :: .inr (.inr (r, k)) :: st) σ := by
  obtain ⟨hd, rfl⟩ := hd
  intro H locs ls hP hS hL
  obtain ⟨hx, hb, hr, hml, hts, hown, -, hK, hD, hSt, hNw, hnd⟩ := C
  obtain ⟨q, hq, hqe⟩ := ab_at hm ad cA σ
  rw [show ab_E Y.1 ad cA σ r k = .inl (cA 1, n, .inl (σ.1 r k)) by simp [ab_E, hrk]] at hqe
  have hset : (ab_ws Y ad cA σ).set q (ad r k, .inl (cA 1, n, .inl (upd (σ.1 r k) i.toNatClampNeg (vp_nar .byte v)))) = ab_ws Y ad cA (ab_si σ r k i.toNatClampNeg (vp_nar .byte v)) := by
    rw [← ab_ws_set hnd (σ' := ab_si σ r k i.toNatClampNeg (vp_nar .byte v)) hq (fun a b _ hne => ab_E_congr (ab_si_o hne) rfl)]
    congr 2
    simp only [ab_E, hrk]
    rw [ab_si_s]
  refine va_bast hx hb hK hP (hD σ) hS q 1 hqe rfl (ab_inb_in hi) hd (fun H1 locs1 hP1 _ hS1 => ?_)
  rw [hset] at hP1
  exact kk H1 locs1 ls hP1 hS1 hL
theorem ab_last (C : ab_C Y p s m args meth c D cA ad cc nL own ret) {r k n q0 : Nat} {i : Int32} {v : Int64} (hd : ab_D cc pc .lastore 1 nxt) (hrk : Y.1 r = .inr (2, n, q0)) (hm : (r, k) ∈ Y.2.1) (hi : ab_inb i n = true)
    (kk : ab_G Y p l e s m args below meth c D cA ad nL d rv σf nxt lv st (ab_sl σ r k i.toNatClampNeg v)) : ab_G Y p l e s m args below meth c D cA ad nL d rv σf pc lv (.inr (.inl v) :: .inl i :: .inr (.inr (r, k)) :: st) σ := by
  obtain ⟨hd, rfl⟩ := hd
  intro H locs ls hP hS hL
  obtain ⟨hx, hb, hr, hml, hts, hown, -, hK, hD, hSt, hNw, hnd⟩ := C
  obtain ⟨q, hq, hqe⟩ := ab_at hm ad cA σ
  rw [show ab_E Y.1 ad cA σ r k = .inl (cA 2, n, .inr (.inl (σ.2 r k))) by simp [ab_E, hrk]] at hqe
  have hset : (ab_ws Y ad cA σ).set q (ad r k, .inl (cA 2, n, .inr (.inl (vp_updL (σ.2 r k) i.toNatClampNeg v)))) = ab_ws Y ad cA (ab_sl σ r k i.toNatClampNeg v) := by
    rw [← ab_ws_set hnd (σ' := ab_sl σ r k i.toNatClampNeg v) hq (fun a b _ hne => ab_E_congr (σ := σ) rfl (ab_sl_o hne))]
    congr 2
    simp only [ab_E, hrk]
    rw [ab_sl_s]
  refine va_last hx hb hK hP (hD σ) hS q 2 hqe rfl (ab_inb_in hi) hd (fun H1 locs1 hP1 _ hS1 => ?_)
  rw [hset] at hP1
  exact kk H1 locs1 ls hP1 hS1 hL
theorem ab_gets (C : ab_C Y p s m args meth c D cA ad cc nL own ret) {idx : Nat} {z : ab_Z} (hd : ab_D cc pc (.getstatic idx) 3 nxt) (hz : z ∈ Y.2.2) (hl : Cond.fieldLink own idx z.2.1 z.2.2.1 "[I" ∈ ab_T)
    (kk : ab_G Y p l e s m args below meth c D cA ad nL d rv σf nxt lv (.inr (.inr (z.1, 0)) :: st) σ) : ab_G Y p l e s m args below meth c D cA ad nL d rv σf pc lv st σ := by
  obtain ⟨hd, rfl⟩ := hd
  intro H locs ls hP hS hL
  obtain ⟨hx, hb, hr, hml, hts, hown, -, hK, hD, hSt, hNw, hnd⟩ := C
  exact va_gets hx hb (hSt z hz).1 hS hown (hts _ hl) (fun _ h => h) hd (kk H locs ls hP hS hL)
theorem ab_sald (C : ab_C Y p s m args meth c D cA ad cc nL own ret) {z : ab_Z} {i : Int32} (hd : ab_D cc pc .iaload 1 nxt) (hz : z ∈ Y.2.2) (hi : ab_inb i z.2.2.2.1 = true)
    (kk : ab_G Y p l e s m args below meth c D cA ad nL d rv σf nxt lv (.inl (z.2.2.2.2 i.toNatClampNeg) :: st) σ) : ab_G Y p l e s m args below meth c D cA ad nL d rv σf pc lv (.inl i :: .inr (.inr (z.1, 0)) :: st) σ := by
  obtain ⟨hd, rfl⟩ := hd
  intro H locs ls hP hS hL
  obtain ⟨hx, hb, hr, hml, hts, hown, -, hK, hD, hSt, hNw, hnd⟩ := C
  exact va_ti hx hb (hSt z hz).2 hS (ab_inb_in hi) rfl hd (kk H locs ls hP hS hL)
theorem ab_copyi (C : ab_C Y p s m args meth c D cA ad cc nL own ret) {r0 k0 r k n0 n1 x0 x1 idx : Nat} {sp dp n : Int32} (hd : ab_D cc pc (.invokestatic idx) 3 nxt) (hl : Cond.methodLink own idx arraycopyName ∈ ab_T) (hrk0 : Y.1 r0 = .inr (0, n0, x0)) (hm0 : (r0, k0) ∈ Y.2.1) (hrk : Y.1 r = .inr (0, n1, x1)) (hm : (r, k) ∈ Y.2.1) (hg : ab_cpb sp dp n n0 n1 = true) (hdd : 1 ≤ d) (hw : (st.map ab_cat).sum ≤ 8)
    (kk : ab_G Y p l e s m args below meth c D cA ad nL d rv σf nxt lv st (ab_ci σ r0 k0 sp.toNatClampNeg r k dp.toNatClampNeg n.toNatClampNeg)) : ab_G Y p l e s m args below meth c D cA ad nL d rv σf pc lv (.inl n :: .inl dp :: .inr (.inr (r, k)) :: .inl sp :: .inr (.inr (r0, k0)) :: st) σ := by
  obtain ⟨hd, rfl⟩ := hd
  intro H locs ls hP hS hL
  obtain ⟨hx, hb, hr, hml, hts, hown, -, hK, hD, hSt, hNw, hnd⟩ := C
  obtain ⟨q0, -, hqe0⟩ := ab_at hm0 ad cA σ
  rw [show ab_E Y.1 ad cA σ r0 k0 = .inl (cA 0, n0, .inl (σ.1 r0 k0)) by simp [ab_E, hrk0]] at hqe0
  obtain ⟨q, hq, hqe⟩ := ab_at hm ad cA σ
  rw [show ab_E Y.1 ad cA σ r k = .inl (cA 0, n1, .inl (σ.1 r k)) by simp [ab_E, hrk]] at hqe
  obtain ⟨g1, g2, g3, g4, g5⟩ := of_decide_eq_true hg
  have hset : (ab_ws Y ad cA σ).set q (ad r k, .inl (cA 0, n1, .inl (va_cpy (σ.1 r0 k0) (σ.1 r k) sp.toNatClampNeg dp.toNatClampNeg n.toNatClampNeg))) = ab_ws Y ad cA (ab_ci σ r0 k0 sp.toNatClampNeg r k dp.toNatClampNeg n.toNatClampNeg) := by
    rw [← ab_ws_set hnd (σ' := ab_ci σ r0 k0 sp.toNatClampNeg r k dp.toNatClampNeg n.toNatClampNeg) hq (fun a b _ hne => ab_E_congr (ab_ci_o hne) rfl)]
    congr 2
    simp only [ab_E, hrk]
    rw [ab_ci_s]
  refine va_copyi hx hb (hml.trans hL.1.symm) hown (hts _ hl) (hts _ ab_w_native) (hts _ ab_w_copy) (hts _ ab_w_sys) hK hP (hD σ) hS q0 q 0 0 hqe0 hqe rfl rfl rfl g1 g2 g3 g4 g5 (fun _ _ => rfl) hdd (by rw [ab_sumcat, show nativeFrameWords "java/lang/System" "arraycopy" 5 = 7 by decide]; simp only [ab_R]; omega) hd (fun H1 locs1 hP1 _ hS1 => ?_)
  rw [hset] at hP1
  exact kk H1 locs1 ls hP1 hS1 hL
theorem ab_copyl (C : ab_C Y p s m args meth c D cA ad cc nL own ret) {r0 k0 r k n0 n1 x0 x1 idx : Nat} {sp dp n : Int32} (hd : ab_D cc pc (.invokestatic idx) 3 nxt) (hl : Cond.methodLink own idx arraycopyName ∈ ab_T) (hrk0 : Y.1 r0 = .inr (2, n0, x0)) (hm0 : (r0, k0) ∈ Y.2.1) (hrk : Y.1 r = .inr (2, n1, x1)) (hm : (r, k) ∈ Y.2.1) (hg : ab_cpb sp dp n n0 n1 = true) (hdd : 1 ≤ d) (hw : (st.map ab_cat).sum ≤ 8)
    (kk : ab_G Y p l e s m args below meth c D cA ad nL d rv σf nxt lv st (ab_cl σ r0 k0 sp.toNatClampNeg r k dp.toNatClampNeg n.toNatClampNeg)) : ab_G Y p l e s m args below meth c D cA ad nL d rv σf pc lv (.inl n :: .inl dp :: .inr (.inr (r, k)) :: .inl sp :: .inr (.inr (r0, k0)) :: st) σ := by
  obtain ⟨hd, rfl⟩ := hd
  intro H locs ls hP hS hL
  obtain ⟨hx, hb, hr, hml, hts, hown, -, hK, hD, hSt, hNw, hnd⟩ := C
  obtain ⟨q0, -, hqe0⟩ := ab_at hm0 ad cA σ
  rw [show ab_E Y.1 ad cA σ r0 k0 = .inl (cA 2, n0, .inr (.inl (σ.2 r0 k0))) by simp [ab_E, hrk0]] at hqe0
  obtain ⟨q, hq, hqe⟩ := ab_at hm ad cA σ
  rw [show ab_E Y.1 ad cA σ r k = .inl (cA 2, n1, .inr (.inl (σ.2 r k))) by simp [ab_E, hrk]] at hqe
  obtain ⟨g1, g2, g3, g4, g5⟩ := of_decide_eq_true hg
  have hset : (ab_ws Y ad cA σ).set q (ad r k, .inl (cA 2, n1, .inr (.inl (va_cpy (σ.2 r0 k0) (σ.2 r k) sp.toNatClampNeg dp.toNatClampNeg n.toNatClampNeg)))) = ab_ws Y ad cA (ab_cl σ r0 k0 sp.toNatClampNeg r k dp.toNatClampNeg n.toNatClampNeg) := by
    rw [← ab_ws_set hnd (σ' := ab_cl σ r0 k0 sp.toNatClampNeg r k dp.toNatClampNeg n.toNatClampNeg) hq (fun a b _ hne => ab_E_congr (σ := σ) rfl (ab_cl_o hne))]
    congr 2
    simp only [ab_E, hrk]
    rw [ab_cl_s]
  refine va_copyl hx hb (hml.trans hL.1.symm) hown (hts _ hl) (hts _ ab_w_native) (hts _ ab_w_copy) (hts _ ab_w_sys) hK hP (hD σ) hS q0 q 2 2 hqe0 hqe rfl rfl rfl g1 g2 g3 g4 g5 (fun _ _ => rfl) hdd (by rw [ab_sumcat, show nativeFrameWords "java/lang/System" "arraycopy" 5 = 7 by decide]; simp only [ab_R]; omega) hd (fun H1 locs1 hP1 _ hS1 => ?_)
  rw [hset] at hP1
  exact kk H1 locs1 ls hP1 hS1 hL
theorem ab_mmax (C : ab_C Y p s m args meth c D cA ad cc nL own ret) {idx : Nat} {x y : Int32} (hd : ab_D cc pc (.invokestatic idx) 3 nxt) (hl : Cond.methodLink own idx Lib.Math.max.name ∈ ab_T) (hst : Cond.static Lib.Math.max.name ∈ ab_T) (hco : Cond.code Lib.Math.max.name Lib.Math.max.code 2 (some .int) ∈ ab_T) (hdd : 1 ≤ d) (hw : (st.map ab_cat).sum ≤ 8)
    (kk : ab_G Y p l e s m args below meth c D cA ad nL d rv σf nxt lv ((.inl (if x < y then y else x)) :: st) σ) : ab_G Y p l e s m args below meth c D cA ad nL d rv σf pc lv ((.inl y) :: (.inl x) :: st) σ := by
  obtain ⟨hd, rfl⟩ := hd
  intro H locs ls hP hS hL
  obtain ⟨hx, hb, hr, hml, hts, hown, -, hK, hD, hSt, hNw, hnd⟩ := C
  exact va_mmax hx hb (hml.trans hL.1.symm) hown (hts _ hl) (hts _ hst) (hts _ ab_w_math) (hts _ hco) hdd (by rw [ab_sumcat]; simp only [ab_R]; omega) (Nat.le_refl _) (Nat.le_refl _) hd (kk H locs ls hP hS hL)
theorem ab_mmin (C : ab_C Y p s m args meth c D cA ad cc nL own ret) {idx : Nat} {x y : Int32} (hd : ab_D cc pc (.invokestatic idx) 3 nxt) (hl : Cond.methodLink own idx Lib.Math.min.name ∈ ab_T) (hst : Cond.static Lib.Math.min.name ∈ ab_T) (hco : Cond.code Lib.Math.min.name Lib.Math.min.code 2 (some .int) ∈ ab_T) (hdd : 1 ≤ d) (hw : (st.map ab_cat).sum ≤ 8)
    (kk : ab_G Y p l e s m args below meth c D cA ad nL d rv σf nxt lv ((.inl (if y < x then y else x)) :: st) σ) : ab_G Y p l e s m args below meth c D cA ad nL d rv σf pc lv ((.inl y) :: (.inl x) :: st) σ := by
  obtain ⟨hd, rfl⟩ := hd
  intro H locs ls hP hS hL
  obtain ⟨hx, hb, hr, hml, hts, hown, -, hK, hD, hSt, hNw, hnd⟩ := C
  exact va_mmin hx hb (hml.trans hL.1.symm) hown (hts _ hl) (hts _ hst) (hts _ ab_w_math) (hts _ hco) hdd (by rw [ab_sumcat]; simp only [ab_R]; omega) (Nat.le_refl _) (Nat.le_refl _) hd (kk H locs ls hP hS hL)
theorem ab_lmax (C : ab_C Y p s m args meth c D cA ad cc nL own ret) {idx : Nat} {x y : Int64} (hd : ab_D cc pc (.invokestatic idx) 3 nxt) (hl : Cond.methodLink own idx Lib.MathLoose.max_long.x ∈ ab_T) (hst : Cond.static Lib.MathLoose.max_long.x ∈ ab_T) (hco : Cond.code Lib.MathLoose.max_long.x Lib.MathLoose.max_long.code 4 (some .long) ∈ ab_T) (hdd : 1 ≤ d) (hw : (st.map ab_cat).sum ≤ 8)
    (kk : ab_G Y p l e s m args below meth c D cA ad nL d rv σf nxt lv ((.inr <| .inl (if y < x then x else y)) :: st) σ) : ab_G Y p l e s m args below meth c D cA ad nL d rv σf pc lv ((.inr <| .inl y) :: (.inr <| .inl x) :: st) σ := by
  obtain ⟨hd, rfl⟩ := hd
  intro H locs ls hP hS hL
  obtain ⟨hx, hb, hr, hml, hts, hown, -, hK, hD, hSt, hNw, hnd⟩ := C
  exact va_mmax_long hx hb (hml.trans hL.1.symm) hown (hts _ hl) (hts _ hst) (hts _ ab_w_math) (hts _ hco) hdd (by rw [ab_sumcat]; simp only [ab_R]; omega) (Nat.le_refl _) (Nat.le_refl _) hd (kk H locs ls hP hS hL)
theorem ab_lmin (C : ab_C Y p s m args meth c D cA ad cc nL own ret) {idx : Nat} {x y : Int64} (hd : ab_D cc pc (.invokestatic idx) 3 nxt) (hl : Cond.methodLink own idx Lib.MathLoose.min_long.x ∈ ab_T) (hst : Cond.static Lib.MathLoose.min_long.x ∈ ab_T) (hco : Cond.code Lib.MathLoose.min_long.x Lib.MathLoose.min_long.code 4 (some .long) ∈ ab_T) (hdd : 1 ≤ d) (hw : (st.map ab_cat).sum ≤ 8)
    (kk : ab_G Y p l e s m args below meth c D cA ad nL d rv σf nxt lv ((.inr <| .inl (if y < x then y else x)) :: st) σ) : ab_G Y p l e s m args below meth c D cA ad nL d rv σf pc lv ((.inr <| .inl y) :: (.inr <| .inl x) :: st) σ := by
  obtain ⟨hd, rfl⟩ := hd
  intro H locs ls hP hS hL
  obtain ⟨hx, hb, hr, hml, hts, hown, -, hK, hD, hSt, hNw, hnd⟩ := C
  exact va_mmin_long hx hb (hml.trans hL.1.symm) hown (hts _ hl) (hts _ hst) (hts _ ab_w_math) (hts _ hco) hdd (by rw [ab_sumcat]; simp only [ab_R]; omega) (Nat.le_refl _) (Nat.le_refl _) hd (kk H locs ls hP hS hL)
theorem ab_iret (C : ab_C Y p s m args meth c D cA ad cc nL own (some .int)) {v : Int32} (hd : ab_D cc pc .ireturn 1 nxt) : ab_G Y p l e s m args below meth c D cA ad nL d (some (.inl v)) σ pc lv [.inl v] σ :=
  fun H locs ls hP hS hL => W.iret C.1 C.2.1 C.2.2.1 (fun t ht hW => ⟨rfl, by rw [ht]; exact hP, hS.F ht⟩) hS.2.2 hd.1 (hlocks := C.2.2.2.2.2.2.1)
theorem ab_zret (C : ab_C Y p s m args meth c D cA ad cc nL own (some .boolean)) {v : Int32} (hd : ab_D cc pc .ireturn 1 nxt) (hv : ab_isb v = true) : ab_G Y p l e s m args below meth c D cA ad nL d (some (.inl v)) σ pc lv [.inl v] σ :=
  fun H locs ls hP hS hL => W.zret C.1 C.2.1 C.2.2.1 (by
    simp only [ab_isb, Bool.or_eq_true, decide_eq_true_eq] at hv
    rcases hv with rfl | rfl <;> rfl) (fun t ht hW => ⟨rfl, by rw [ht]; exact hP, hS.F ht⟩) hS.2.2 hd.1 (hlocks := C.2.2.2.2.2.2.1)
theorem ab_lret (C : ab_C Y p s m args meth c D cA ad cc nL own (some .long)) {v : Int64} (hd : ab_D cc pc .lreturn 1 nxt) : ab_G Y p l e s m args below meth c D cA ad nL d (some (.inr (.inl v))) σ pc lv [.inr (.inl v)] σ :=
  fun H locs ls hP hS hL => W.lret C.1 C.2.1 C.2.2.1 (fun t ht hW => ⟨rfl, by rw [ht]; exact hP, hS.F ht⟩) hS.2.2 hd.1 (hlocks := C.2.2.2.2.2.2.1)
theorem ab_vret (C : ab_C Y p s m args meth c D cA ad cc nL own (none)) (hd : ab_D cc pc .return_ 1 nxt) : ab_G Y p l e s m args below meth c D cA ad nL d (none) σ pc lv [] σ :=
  fun H locs ls hP hS hL => W.vret C.1 C.2.1 C.2.2.1 (fun t ht hW => ⟨rfl, by rw [ht]; exact hP, hS.F ht⟩) hS.2.2 hd.1 (hlocks := C.2.2.2.2.2.2.1)
end AB
