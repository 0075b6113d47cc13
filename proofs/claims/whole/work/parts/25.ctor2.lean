/-! calls of the abstract machine's methods out of a constructor; arrays of arrays -/
theorem ac_A_iff {Y : ab_Y} {ad : Nat → Nat → Nat} {cA : Nat → ClassId} {σ : ab_S} {sz q : Nat} : va_A (ab_ws Y ad cA σ) sz q ↔ ab_A Y ad sz q := by
  constructor
  · rintro (⟨k, e, h⟩ | h)
    · simp only [ab_ws, List.getElem?_map] at h
      cases hc : Y.2.1[k]? with
      | none => rw [hc] at h; cases h
      | some x =>
        rw [hc] at h
        simp only [Option.map_some, Option.some.injEq, Prod.mk.injEq] at h
        exact Or.inl ⟨x, List.mem_of_getElem? hc, h.1.symm⟩
    · exact Or.inr h
  · rintro (⟨x, hx, rfl⟩ | h)
    · obtain ⟨k, -, hk⟩ := ab_at (r := x.1) (k := x.2) hx ad cA σ
      exact Or.inl ⟨k, _, hk⟩
    · exact Or.inr h
section AC
variable {p : Program} {l : Launch} {e : Env} {R : Room} {s : State} {m : MethodId} {args : Array Value} {below : List Frame} {meth : Method} {c : Code} {D : va_G} {cA : Nat → ClassId} {A : Nat → Prop} {Q : State → Prop} {cc : ByteArray} {nL : Nat} {own : String} {pc nxt : Nat} {lv : List (Nat × Value)} {st : List Value} {cells slots : Nat} {ws : va_W}
theorem ac_conv {Y : ab_Y} {ad : Nat → Nat → Nat} {σ σ1 : ab_S} {H : Heap} {locs : List Loc} {ls : Array Slot} {st0 : List Value} {av : Array Value} {A0 : Nat → Prop} (hD : va_D A0 (ab_ws Y ad cA σ)) (hr : va_Run p l e R s m args below meth c H locs cells slots 0 0 (F0 m pc ls st0) st (ab_Q Y D cA ad none σ1 (ab_A Y ad H.size) av) (ab_A Y ad H.size)) :
    va_Run p l e R s m args below meth c H locs cells slots 0 0 (F0 m pc ls st0) st (fun st o t => o = .returned none ∧ (∃ ws', ws' = ab_ws Y ad cA σ1 ∧ va_P D vwCl ws' t.heap ∧ va_D (va_A (ab_ws Y ad cA σ) H.size) ws') ∧ va_F (va_A (ab_ws Y ad cA σ) H.size) st t) (va_A (ab_ws Y ad cA σ) H.size) := by
  intro T hT X
  obtain ⟨v, st₀, t, T', L, h0, X', hL', e1, e2, ⟨hv, hPt, hz, hk⟩, step⟩ := hr T hT X
  refine ⟨v, st₀, t, T', L, h0, X', fun q hq => ac_A_iff.mpr (hL' q hq), e1, e2, ⟨hv, ⟨_, rfl, hPt, ?_⟩, hz, fun q h1 h2 => hk q h1 (fun z => h2 (ac_A_iff.mpr z))⟩, step⟩
  exact ab_D_any (σ := σ) hD.self
theorem ac_callV (C : ac_C p s m args meth c D cA A cc nL own) {Y : ab_Y} {ad : Nat → Nat → Nat} {σ σ1 : ab_S} {y : MethodName} {cc' : ByteArray} {nL' d' idx r k ci : Nat} {as : List ab_V} {wr : va_W} {st0 : List Value} {fl : List (Option Nat)} (hd : decode cc pc = .ok (.invokevirtual idx, 3)) (hl : Cond.methodLink own idx y ∈ ab_T) (hy : ab_YV y cc' nL' none as.length)
    (hrk : Y.1 r = .inl (ci, fl)) (hcl : ∃ T N, vwCl[ci]? = some (y.cls, T, N)) (hm : (r, k) ∈ Y.2.1) (hz : Y.2.2 = []) (hM : ab_M l Y y cc' nL' none d' (.inr (.inr (r, k)) :: as) σ none σ1) (hfr : d' + 1 ≤ R.frames) (hlo : 8 + (nL' + 11) + 64 * d' ≤ R.locals) (hcc : cells ≤ R.cells) (hss : slots ≤ R.slots) (hst : st0 = (as.map (ab_cv ad)).reverse ++ .ref (ad r k) :: st) (hw : (st.map fun v => v.category).sum ≤ 8)
    (isC isR : List Nat) (hCf : isC.filterMap (fun i => ws[i]?) = ab_ws Y ad cA σ) (hCn : va_nd isC = true) (hC : isC.map (fun i => ws[i]?) = (ab_ws Y ad cA σ).map some) (hR : isR.map (fun i => ws[i]?) = wr.map some) (hn : va_nd isR = true) (hdis : ∀ i ∈ isR, i ∉ isC)
    (kk : ac_G p l e R s m args below meth c D A Q nL (pc + 3) lv st cells slots (wr ++ ab_ws Y ad cA σ1)) : ac_G p l e R s m args below meth c D A Q nL pc lv st0 cells slots ws := by
  subst hst
  intro H locs ls hP hD hS hL
  have C' := C
  obtain ⟨hx, hb, hr, hml, hts, hown, hlk, hK, hNw, hA, hin9⟩ := C
  obtain ⟨hi, hse, hin, hco, hyo⟩ := hy
  obtain ⟨T, N, hcl⟩ := hcl
  have hPc := hP.sub isC hCf
  have hDc := hD.sub isC hCn hC
  obtain ⟨q, hq, hqe⟩ := ab_at hm ad cA σ
  rw [show ab_E Y.1 ad cA σ r k = .inr (ci, ab_fs ad (σ.1 r k) k 0 fl) by simp [ab_E, hrk]] at hqe
  refine ac_go C' hP hD hS hL isC isR hC hR hn hdis (P := fun w => w = ab_ws Y ad cA σ1) (mc := 0) (ms := 0) ?_ (fun w1 e1 => by rw [e1]; exact kk)
  refine ac_conv hDc (av := (Value.ref (ad r k) :: as.map (ab_cv ad)).toArray) ?_
  exact va_runV (As := as.map (ab_cv ad)) (rest := st) ⟨hx, hb, hml, hown, hts⟩ (hM D cA ad H.size)
    (cwV (C := y.cls) as.length hts (fun w h => by
      simp only [wsV, List.mem_append, List.mem_cons, List.not_mem_nil, or_false] at h
      rcases h with (rfl | rfl | rfl | rfl) | rfl | h
      · exact ab_T_good2 hl
      · exact ab_T_good2 hi
      · exact ab_T_good2 hse
      · exact ab_T_good2 hin
      · exact ab_T_good2 hco
      · exact ab_T_good2 h) rfl rfl rfl ⟨rfl, hyo⟩ ⟨hfr, hlo⟩)
    ⟨ab_blind Y D cA ad σ _ _, va_recv hK hPc hcl hqe, fun U hU hW => ⟨rfl, by
      subst hU
      exact ⟨rfl, hPc, hDc.weaken (fun _ _ _ _ => trivial), va_K.moved hW.alike hK, fun q hq => (by rw [hz] at hq; cases hq), fun q hq => va_Nw.warmM hW (hNw.1 q hq)⟩⟩⟩ rfl (by simp) hL.1 rfl (by show 2 * 0 + _ ≤ 8; omega) hd ⟨hcc, hss⟩
theorem ac_callS (C : ac_C p s m args meth c D cA A cc nL own) {Y : ab_Y} {ad : Nat → Nat → Nat} {σ σ1 : ab_S} {y : MethodName} {cc' : ByteArray} {nL' d' idx : Nat} {as : List ab_V} {wr : va_W} {st0 : List Value} (hd : decode cc pc = .ok (.invokestatic idx, 3)) (hl : Cond.methodLink own idx y ∈ ab_T) (hy : ab_YS y cc' nL' none as.length)
    (hz : Y.2.2 = []) (hM : ab_M l Y y cc' nL' none d' as σ none σ1) (hfr : d' + 1 ≤ R.frames) (hlo : 8 + (nL' + 11) + 64 * d' ≤ R.locals) (hcc : cells ≤ R.cells) (hss : slots ≤ R.slots) (hst : st0 = (as.map (ab_cv ad)).reverse ++ st) (hw : (st.map fun v => v.category).sum ≤ 8)
    (isC isR : List Nat) (hCf : isC.filterMap (fun i => ws[i]?) = ab_ws Y ad cA σ) (hCn : va_nd isC = true) (hC : isC.map (fun i => ws[i]?) = (ab_ws Y ad cA σ).map some) (hR : isR.map (fun i => ws[i]?) = wr.map some) (hn : va_nd isR = true) (hdis : ∀ i ∈ isR, i ∉ isC)
    (kk : ac_G p l e R s m args below meth c D A Q nL (pc + 3) lv st cells slots (wr ++ ab_ws Y ad cA σ1)) : ac_G p l e R s m args below meth c D A Q nL pc lv st0 cells slots ws := by
  subst hst
  intro H locs ls hP hD hS hL
  have C' := C
  obtain ⟨hx, hb, hr, hml, hts, hown, hlk, hK, hNw, hA, hin9⟩ := C
  obtain ⟨hi, hin, hco, hyo⟩ := hy
  have hPc := hP.sub isC hCf
  have hDc := hD.sub isC hCn hC
  refine ac_go C' hP hD hS hL isC isR hC hR hn hdis (P := fun w => w = ab_ws Y ad cA σ1) (mc := 0) (ms := 0) ?_ (fun w1 e1 => by rw [e1]; exact kk)
  refine ac_conv hDc (av := (as.map (ab_cv ad)).toArray) ?_
  exact va_runS (As := as.map (ab_cv ad)) (rest := st) ⟨hx, hb, hml, hown, hts⟩ (hM D cA ad H.size)
    (va_cwS as.length hts (fun w h => by
      simp only [va_wsS, List.mem_append, List.mem_cons, List.not_mem_nil, or_false] at h
      rcases h with (rfl | rfl | rfl) | rfl | h
      · exact ab_T_good2 hl
      · exact ab_T_good2 hi
      · exact ab_T_good2 hin
      · exact ab_T_good2 hco
      · exact ab_T_good2 h) rfl rfl rfl hyo ⟨hfr, hlo⟩)
    ⟨ab_blind Y D cA ad σ _ _, fun U hU hW => ⟨rfl, by
      subst hU
      exact ⟨rfl, hPc, hDc.weaken (fun _ _ _ _ => trivial), va_K.moved hW.alike hK, fun q hq => (by rw [hz] at hq; cases hq), fun q hq => va_Nw.warmM hW (hNw.1 q hq)⟩⟩⟩ rfl (by simp) hL.1 rfl (by show 2 * 0 + _ ≤ 8; omega) hd ⟨hcc, hss⟩
end AC
