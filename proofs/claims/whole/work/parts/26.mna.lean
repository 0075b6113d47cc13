/-! new long[n][k] -/
theorem ac_outer (c : ClassId) (N h0 : Nat) : ∀ i : Nat, Jvm.Free.Multi.outerC c N h0 i = arrV c N (fun j => va_rf (if j < i then some (h0 + 1 + j) else none))
  | 0 => by
    show ({ cls := c, slots := Array.replicate N .null, vm := .none } : Cell) = _
    rw [arrV_new]
    refine congrArg (arrV c N) (funext fun j => ?_)
    simp [va_rf]
  | i + 1 => by
    show (Jvm.Free.Multi.outerC c N h0 i).setSlot i (.ref (h0 + 1 + i)) = _
    rw [ac_outer c N h0 i, arrV_store]
    refine congrArg (arrV c N) (funext fun j => ?_)
    by_cases e : j = i
    · subst e
      simp [updV, va_rf]
    · by_cases h : j < i
      · simp [updV, e, h, Nat.lt_succ_of_lt h]
      · simp [updV, e, h, show ¬ j < i + 1 by omega]
theorem ac_arrV_congr {c : ClassId} {N : Nat} {f g : Nat → Value} (h : ∀ j, j < N → f j = g j) : arrV c N f = arrV c N g := by
  unfold arrV
  congr 1
  apply Array.ext
  · simp
  · intro i h1 h2
    simp at h1
    simp [h i h1]
section AC
variable {p : Program} {l : Launch} {e : Env} {R : Room} {s : State} {m : MethodId} {args : Array Value} {below : List Frame} {meth : Method} {c : Code} {D : va_G} {cA : Nat → ClassId} {A : Nat → Prop} {Q : State → Prop} {cc : ByteArray} {nL : Nat} {own : String} {pc nxt : Nat} {lv : List (Nat × Value)} {st : List Value} {cells slots : Nat} {ws : va_W}
theorem ac_mna (C : ac_C p s m args meth c D cA A cc nL own) {n k : Int32} {N K idx : Nat} (hd : decode cc pc = .ok (.multianewarray idx 2, 4)) (hl : Cond.classLink own idx "[[J" ∈ ab_T) (hw : Cond.arrayClass .long ∈ ab_T) (hn : ¬ n < 0) (hk : ¬ k < 0) (hN : n.toNatClampNeg = N) (hKk : k.toNatClampNeg = K) (hb1 : N * 4 ≤ 536870912) (hb2 : K * 8 ≤ 536870912) (hc : cells + (1 + N) ≤ R.cells) (hs : slots + (N + N * K) ≤ R.slots)
    (kk : ∀ q, ac_G p l e R s m args below meth c D A Q nL (pc + 4) lv (.ref q :: st) (cells + 1 + N) (slots + N + N * K) (ws ++ ((q, .inl (cA 4, N, .inr (.inr (.inr (.inr (fun i => some (q + 1 + i))))))) :: (List.range N).map (fun i => (q + 1 + i, .inl (cA 2, K, .inr (.inl (fun _ => 0)))))))) : ac_G p l e R s m args below meth c D A Q nL pc lv (.int k :: .int n :: st) cells slots ws := by
  subst hN
  subst hKk
  intro H locs ls hP hD hS hL T hT X
  obtain ⟨hx, hb, hr, hml, hts, hown, hlk, hK, hNw, hA, hin⟩ := C
  obtain ⟨vm₁, cB, comp, -, fA, fC, hO, -, X', step⟩ := X.multianewarray2F (ty := .long) hx hown (hts _ hl) (arrayOver_alikeB (Vm.Alike.refl s.vm) hNw.2.2) (hts _ hw) (g := F0 m pc ls (.int k :: .int n :: st)) rfl (by rw [hb]; exact hd) rfl hn hk hb1 hb2 (by omega) rfl rfl hc hs
  have ecomp : comp = cA 2 := Option.some.inj (fC.symm.trans (hK.2 2 _ rfl).2)
  have eB : cB = cA 4 := Option.some.inj (fA.symm.trans (hK.2 4 _ rfl).2)
  subst ecomp
  subst eB
  generalize hF : Jvm.Free.Multi.fill (T.setVm vm₁) (cA 4) (cA 2) n.toNatClampNeg k.toNatClampNeg (defaultValue .long) n.toNatClampNeg = F at X' step
  have hTh : (T.setVm vm₁).heap = H := hT
  obtain ⟨f1, f2, -, -⟩ := Jvm.Free.Multi.fill_facts (T.setVm vm₁) (cA 4) (cA 2) n.toNatClampNeg k.toNatClampNeg (defaultValue .long) n.toNatClampNeg
  rw [hF, hTh] at f1 f2
  have hold : ∀ x : Nat, x < H.size → F.heap[x]? = H[x]? := fun x hx => by
    have := Jvm.Free.Multi.fill_old (T.setVm vm₁) (cA 4) (cA 2) n.toNatClampNeg k.toNatClampNeg (defaultValue .long) (a := x) (by rw [hTh]; exact hx) n.toNatClampNeg
    rw [hF, hTh] at this
    exact this
  have hrow : ∀ j : Nat, j < n.toNatClampNeg → F.heap[H.size + 1 + j]? = some (vp_cell (cA 2) (k.toNatClampNeg, .inr (.inl (fun _ => 0)))) := fun j hj => by
    have := Jvm.Free.Multi.fill_inner (T.setVm vm₁) (cA 4) (cA 2) n.toNatClampNeg k.toNatClampNeg (defaultValue .long) n.toNatClampNeg j hj
    rw [hF, hTh] at this
    rw [this, vp_cell_l, ← arrV_new]
    rfl
  have hout : F.heap[H.size]? = some (vp_cell (cA 4) (n.toNatClampNeg, .inr (.inr (.inr (.inr (fun i => some (H.size + 1 + i))))))) := by
    rw [f2, ac_outer, vp_cell_q]
    congr 1
    apply ac_arrV_congr
    intro j hj
    rw [if_pos hj]
  have hw2 : ∀ (i : Nat) (x : Nat × va_E), (((H.size, .inl (cA 4, n.toNatClampNeg, .inr (.inr (.inr (.inr (fun i => some (H.size + 1 + i))))))) :: (List.range n.toNatClampNeg).map (fun i => (H.size + 1 + i, .inl (cA 2, k.toNatClampNeg, .inr (.inl (fun _ => 0)))))) : va_W)[i]? = some x → x.1 = H.size + i ∧ va_at D vwCl x F.heap := by
    intro i x hi
    cases i with
    | zero =>
      simp only [List.getElem?_cons_zero, Option.some.injEq] at hi
      subst hi
      exact ⟨rfl, hout⟩
    | succ i =>
      simp only [List.getElem?_cons_succ, List.getElem?_map] at hi
      by_cases h9 : i < n.toNatClampNeg
      · rw [List.getElem?_range h9] at hi
        simp only [Option.map_some, Option.some.injEq] at hi
        subst hi
        exact ⟨by show H.size + 1 + i = H.size + (i + 1); omega, hrow i h9⟩
      · rw [List.getElem?_eq_none (by rw [List.length_range]; omega)] at hi
        cases hi
  have hP1 := va_P.app (hP.kept (H1 := F.heap) (fun i x hx => hold x.1 (hP i x hx).lt)) (fun i x hi => (hw2 i x hi).2)
  have hD1 := ac_grow hD (ac_lt hP) (fun i x hi => (hw2 i x hi).1) (fun q hq => hA q (Nat.le_trans hS.1 hq))
  obtain ⟨t, a1, b1⟩ := kk H.size F.heap locs ls hP1 hD1 ⟨by rw [f1]; have := hS.1; omega, fun x h1 h2 => (hold x (Nat.lt_of_lt_of_le h1 hS.1)).trans (hS.2.1 x h1 h2), hS.2.2⟩ hL F rfl X'
  refine ⟨t, step t ?_, b1⟩
  have ee : T.heap.size = H.size := by rw [hT]
  rw [ee]
  exact a1
end AC
