/-! The abstract machine: values, stores, worlds of a fixed shape. A reference is (region, copy). -/
abbrev ab_V : Type := Int32 ⊕ (Int64 ⊕ (Nat × Nat))
abbrev ab_S : Type := (Nat → Nat → Nat → Int32) × (Nat → Nat → Nat → Int64)
/-- a region: objects of a class number with fields (none: a number; some r: the cell of region r, same copy), or arrays (kind, length, region of what it holds) -/
abbrev ab_K : Type := (Nat × List (Option Nat)) ⊕ (Nat × Nat × Nat)
abbrev ab_Z : Type := Nat × String × String × Nat × (Nat → Int32)
abbrev ab_Y : Type := (Nat → ab_K) × List (Nat × Nat) × List ab_Z
def ab_cv (ad : Nat → Nat → Nat) : ab_V → Value
  | .inl x => .int x
  | .inr (.inl x) => .long x
  | .inr (.inr q) => .ref (ad q.1 q.2)
def ab_cat : ab_V → Nat
  | .inl _ => 1
  | .inr (.inl _) => 2
  | .inr (.inr _) => 1
theorem ab_cat_cv (ad : Nat → Nat → Nat) (v : ab_V) : (ab_cv ad v).category = ab_cat v := by
  rcases v with x | x | q <;> rfl
def ab_fs (ad : Nat → Nat → Nat) (f : Nat → Int32) (k : Nat) : Nat → List (Option Nat) → List Value
  | _, [] => []
  | j, none :: l => .int (f j) :: ab_fs ad f k (j + 1) l
  | j, some r :: l => .ref (ad r k) :: ab_fs ad f k (j + 1) l
theorem ab_fs_len (ad : Nat → Nat → Nat) (f : Nat → Int32) (k : Nat) : ∀ (l : List (Option Nat)) (j : Nat), (ab_fs ad f k j l).length = l.length
  | [], _ => rfl
  | none :: l, j => by simp [ab_fs, ab_fs_len ad f k l]
  | some r :: l, j => by simp [ab_fs, ab_fs_len ad f k l]
theorem ab_fs_int (ad : Nat → Nat → Nat) (f : Nat → Int32) (k : Nat) : ∀ (l : List (Option Nat)) (j i : Nat), l[i]? = some none → (ab_fs ad f k j l)[i]? = some (.int (f (j + i)))
  | [], _, i, h => by simp at h
  | none :: l, j, 0, h => by simp [ab_fs]
  | some r :: l, j, 0, h => by simp at h
  | none :: l, j, i + 1, h => by
    simp only [ab_fs, List.getElem?_cons_succ] at h ⊢
    rw [ab_fs_int ad f k l (j + 1) i h, show j + 1 + i = j + (i + 1) by omega]
  | some r :: l, j, i + 1, h => by
    simp only [ab_fs, List.getElem?_cons_succ] at h ⊢
    rw [ab_fs_int ad f k l (j + 1) i h, show j + 1 + i = j + (i + 1) by omega]
theorem ab_fs_ref (ad : Nat → Nat → Nat) (f : Nat → Int32) (k : Nat) {r : Nat} : ∀ (l : List (Option Nat)) (j i : Nat), l[i]? = some (some r) → (ab_fs ad f k j l)[i]? = some (.ref (ad r k))
  | [], _, i, h => by simp at h
  | none :: l, j, 0, h => by simp at h
  | some r' :: l, j, 0, h => by simp at h; simp [ab_fs, h]
  | none :: l, j, i + 1, h => by
    simp only [ab_fs, List.getElem?_cons_succ] at h ⊢
    exact ab_fs_ref ad f k l (j + 1) i h
  | some r' :: l, j, i + 1, h => by
    simp only [ab_fs, List.getElem?_cons_succ] at h ⊢
    exact ab_fs_ref ad f k l (j + 1) i h
theorem ab_fs_congr (ad : Nat → Nat → Nat) (f g : Nat → Int32) (k : Nat) : ∀ (l : List (Option Nat)) (j : Nat), (∀ i, j ≤ i → f i = g i) → ab_fs ad f k j l = ab_fs ad g k j l
  | [], _, _ => rfl
  | none :: l, j, h => by simp only [ab_fs]; rw [h j (Nat.le_refl j), ab_fs_congr ad f g k l (j + 1) (fun i hi => h i (by omega))]
  | some r :: l, j, h => by simp only [ab_fs]; rw [ab_fs_congr ad f g k l (j + 1) (fun i hi => h i (by omega))]
theorem ab_fs_set (ad : Nat → Nat → Nat) (f : Nat → Int32) (k : Nat) (v : Int32) : ∀ (l : List (Option Nat)) (j i : Nat), l[i]? = some none → (ab_fs ad f k j l).set i (.int v) = ab_fs ad (upd f (j + i) v) k j l
  | [], _, i, h => by simp at h
  | none :: l, j, 0, h => by
    simp only [ab_fs, List.set_cons_zero, Nat.add_zero]
    rw [show upd f j v j = v from if_pos rfl, ab_fs_congr ad f (upd f j v) k l (j + 1) (fun i hi => (if_neg (by omega)).symm)]
  | some r :: l, j, 0, h => by simp at h
  | none :: l, j, i + 1, h => by
    simp only [ab_fs, List.getElem?_cons_succ, List.set_cons_succ] at h ⊢
    rw [ab_fs_set ad f k v l (j + 1) i h, show j + 1 + i = j + (i + 1) by omega, show upd f (j + (i + 1)) v j = f j from if_neg (by omega)]
  | some r :: l, j, i + 1, h => by
    simp only [ab_fs, List.getElem?_cons_succ, List.set_cons_succ] at h ⊢
    rw [ab_fs_set ad f k v l (j + 1) i h, show j + 1 + i = j + (i + 1) by omega]
/-- the cell of a region's copy -/
def ab_E (rk : Nat → ab_K) (ad : Nat → Nat → Nat) (cA : Nat → ClassId) (σ : ab_S) (r k : Nat) : va_E := match rk r with
  | .inl (ci, fl) => .inr (ci, ab_fs ad (σ.1 r k) k 0 fl)
  | .inr (0, n, _) => .inl (cA 0, n, .inl (σ.1 r k))
  | .inr (1, n, _) => .inl (cA 1, n, .inl (σ.1 r k))
  | .inr (2, n, _) => .inl (cA 2, n, .inr (.inl (σ.2 r k)))
  | .inr (t + 3, n, q) => .inl (cA (t + 3), n, .inr (.inr (.inr (.inr (fun i => some (ad q i))))))
def ab_ws (Y : ab_Y) (ad : Nat → Nat → Nat) (cA : Nat → ClassId) (σ : ab_S) : va_W := Y.2.1.map (fun q => (ad q.1 q.2, ab_E Y.1 ad cA σ q.1 q.2))
def ab_ty (cA : Nat → ClassId) : List (ClassId × FieldType) := [(cA 0, .int), (cA 1, .byte), (cA 2, .long), (cA 3, .object "ChangeDoors$Law"), (cA 4, .array .long)]
/-- which addresses may change: the world's own, and new ones -/
def ab_A (Y : ab_Y) (ad : Nat → Nat → Nat) (sz : Nat) : Nat → Prop := fun q => (∃ c ∈ Y.2.1, q = ad c.1 c.2) ∨ sz ≤ q
def ab_St (Y : ab_Y) (ad : Nat → Nat → Nat) (A : Nat → Prop) (U : State) (H : Heap) : Prop := ∀ q ∈ Y.2.2, va_Z q.2.1 q.2.2.1 "[I" (.ref (ad q.1 0)) A U H ∧ va_T .int (ad q.1 0) q.2.2.2.1 (fun j => .int (q.2.2.2.2 j)) A U H
def ab_Nw (U : State) : Prop := ∀ q ∈ ab_nl, va_Nw (.methodLinkNest q.1 q.2.1 q.2.2.1 q.2.2.2) U
def ab_Pre (Y : ab_Y) (D : va_G) (cA : Nat → ClassId) (ad : Nat → Nat → Nat) (σ : ab_S) (U : State) : Prop :=
  va_P D vwCl (ab_ws Y ad cA σ) U.heap ∧ va_D (fun _ => True) (ab_ws Y ad cA σ) ∧ va_K D vwCl (ab_ty cA) U ∧ ab_St Y ad (ab_A Y ad U.heap.size) U U.heap ∧ ab_Nw U
def ab_R (d : Nat) : Room := { frames := d, cells := 0, slots := 0, locals := 64 * d }
def ab_Q (Y : ab_Y) (D : va_G) (cA : Nat → ClassId) (ad : Nat → Nat → Nat) (rv : Option ab_V) (σf : ab_S) (A : Nat → Prop) : Array Value → State → Outcome → State → Prop :=
  fun _ st o t => o = .returned (rv.map (ab_cv ad)) ∧ va_P D vwCl (ab_ws Y ad cA σf) t.heap ∧ va_F A st t
/-- A CONTRACT: from every heap that holds σ, with these arguments: the method returns rv, the heap holds σf, nothing else changed; it needs d frames -/
def ab_M (l : Launch) (Y : ab_Y) (y : MethodName) (cc : ByteArray) (nL : Nat) (ret : Option FieldType) (d : Nat) (as : List ab_V) (σ : ab_S) (rv : Option ab_V) (σf : ab_S) : Prop :=
  ∀ (D : va_G) (cA : Nat → ClassId) (ad : Nat → Nat → Nat) (sz : Nat), Met l y (.code y cc nL ret :: ab_T) (ab_R d) (va_Pc (as.map (ab_cv ad)) (fun U => U.heap.size = sz ∧ ab_Pre Y D cA ad σ U)) (ab_Q Y D cA ad rv σf (ab_A Y ad sz)) 0 0 (ab_A Y ad sz)
/-- what holds all through a body -/
def ab_C (Y : ab_Y) (p : Program) (s : State) (m : MethodId) (args : Array Value) (meth : Method) (c : Code) (D : va_G) (cA : Nat → ClassId) (ad : Nat → Nat → Nat) (cc : ByteArray) (nL : Nat) (own : String) (ret : Option FieldType) : Prop :=
  p.tables.exec = Jvm.exec ∧ c.code = cc ∧ meth.sig.returnType = ret ∧ c.maxLocals = nL ∧ (∀ w ∈ ab_T, w.before args s = true) ∧ s.vm.findClass own = some m.cls ∧ meth.locks = false ∧ va_K D vwCl (ab_ty cA) s ∧ (∀ σ, va_D (ab_A Y ad s.heap.size) (ab_ws Y ad cA σ)) ∧ ab_St Y ad (ab_A Y ad s.heap.size) s s.heap ∧ ab_Nw s ∧ Y.2.1.Nodup
def ab_L (ad : Nat → Nat → Nat) (nL : Nat) (ls : Array Slot) (lv : List (Option ab_V)) : Prop := ls.size = nL ∧ lv_wf ls ∧ ∀ (i : Nat) (v : ab_V), lv[i]? = some (some v) → ls[i]? = some (.val (ab_cv ad v))
def ab_G (Y : ab_Y) (p : Program) (l : Launch) (e : Env) (s : State) (m : MethodId) (args : Array Value) (below : List Frame) (meth : Method) (c : Code) (D : va_G) (cA : Nat → ClassId) (ad : Nat → Nat → Nat) (nL d : Nat) (rv : Option ab_V) (σf : ab_S) (pc : Nat) (lv : List (Option ab_V)) (st : List ab_V) (σ : ab_S) : Prop :=
  ∀ (H : Heap) (locs : List Loc) (ls : Array Slot), va_P D vwCl (ab_ws Y ad cA σ) H → va_S (ab_A Y ad s.heap.size) s.heap H locs → ab_L ad nL ls lv →
    W p l e (ab_R d) s m args below meth c H locs 0 0 (MQ below (ab_Q Y D cA ad rv σf (ab_A Y ad s.heap.size)) args s 0 0 (ab_A Y ad s.heap.size)) (F0 m pc ls (st.map (ab_cv ad)))
/-! places of cells -/
theorem ab_at {Y : ab_Y} {r k : Nat} (h : (r, k) ∈ Y.2.1) (ad : Nat → Nat → Nat) (cA : Nat → ClassId) (σ : ab_S) : ∃ q : Nat, Y.2.1[q]? = some (r, k) ∧ (ab_ws Y ad cA σ)[q]? = some (ad r k, ab_E Y.1 ad cA σ r k) := by
  obtain ⟨q, hq⟩ := List.getElem?_of_mem h
  exact ⟨q, hq, by simp [ab_ws, hq]⟩
theorem ab_nodup {α : Type} {l : List α} (h : l.Nodup) {i j : Nat} {x : α} (hi : l[i]? = some x) (hj : l[j]? = some x) : i = j := by
  obtain ⟨h1, e1⟩ := List.getElem?_eq_some_iff.mp hi
  obtain ⟨h2, e2⟩ := List.getElem?_eq_some_iff.mp hj
  rcases Nat.lt_trichotomy i j with z | z | z
  · exact absurd (e1.trans e2.symm) ((List.pairwise_iff_getElem.mp h) i j h1 h2 z)
  · exact z
  · exact absurd (e2.trans e1.symm) ((List.pairwise_iff_getElem.mp h) j i h2 h1 z)
theorem ab_ws_set {Y : ab_Y} (hn : Y.2.1.Nodup) {ad : Nat → Nat → Nat} {cA : Nat → ClassId} {σ σ' : ab_S} {q r k : Nat} (hq : Y.2.1[q]? = some (r, k)) (ho : ∀ a b, (a, b) ∈ Y.2.1 → (a, b) ≠ (r, k) → ab_E Y.1 ad cA σ' a b = ab_E Y.1 ad cA σ a b) :
    (ab_ws Y ad cA σ).set q (ad r k, ab_E Y.1 ad cA σ' r k) = ab_ws Y ad cA σ' := by
  apply List.ext_getElem?
  intro i
  by_cases hi : i = q
  · subst hi
    have hl : i < (ab_ws Y ad cA σ).length := by
      have := (List.getElem?_eq_some_iff.mp hq).1
      simpa [ab_ws] using this
    rw [List.getElem?_set_self hl]
    simp [ab_ws, hq]
  · rw [List.getElem?_set_ne (Ne.symm hi)]
    simp only [ab_ws, List.getElem?_map]
    cases hc : Y.2.1[i]? with
    | none => rfl
    | some x =>
      obtain ⟨a, b⟩ := x
      have hne : (a, b) ≠ (r, k) := fun e => hi (ab_nodup hn hc (e ▸ hq))
      simp only [Option.map_some]
      rw [ho a b (List.mem_of_getElem? hc) hne]
theorem ab_A_mono {Y : ab_Y} {ad : Nat → Nat → Nat} {a b : Nat} (h : a ≤ b) : ∀ q, ab_A Y ad b q → ab_A Y ad a q := fun q hq => hq.elim Or.inl (fun z => Or.inr (Nat.le_trans h z))
theorem ab_D_any {Y : ab_Y} {ad : Nat → Nat → Nat} {cA : Nat → ClassId} {A : Nat → Prop} {σ σ' : ab_S} (h : va_D A (ab_ws Y ad cA σ)) : va_D A (ab_ws Y ad cA σ') := by
  have key : ∀ (i : Nat) (p : Nat × va_E), (ab_ws Y ad cA σ')[i]? = some p → ∃ p', (ab_ws Y ad cA σ)[i]? = some p' ∧ p'.1 = p.1 := by
    intro i p hp
    simp only [ab_ws, List.getElem?_map] at hp ⊢
    cases hc : Y.2.1[i]? with
    | none => rw [hc] at hp; cases hp
    | some x =>
      rw [hc] at hp
      simp only [Option.map_some, Option.some.injEq] at hp
      exact ⟨_, rfl, by rw [← hp]⟩
  refine ⟨fun i j p q hi hj e => ?_, fun i p hp => ?_⟩
  · obtain ⟨p', h1, e1⟩ := key i p hi
    obtain ⟨q', h2, e2⟩ := key j q hj
    exact h.1 i j p' q' h1 h2 (e1.trans (e.trans e2.symm))
  · obtain ⟨p', h1, e1⟩ := key i p hp
    rw [← e1]
    exact h.2 i p' h1
theorem ab_D_A {Y : ab_Y} {ad : Nat → Nat → Nat} {cA : Nat → ClassId} {A : Nat → Prop} {σ : ab_S} {sz : Nat} (h : va_D A (ab_ws Y ad cA σ)) : va_D (ab_A Y ad sz) (ab_ws Y ad cA σ) := by
  refine ⟨h.1, fun i p hp => ?_⟩
  simp only [ab_ws, List.getElem?_map] at hp
  cases hc : Y.2.1[i]? with
  | none => rw [hc] at hp; cases hp
  | some x =>
    rw [hc] at hp
    simp only [Option.map_some, Option.some.injEq] at hp
    exact Or.inl ⟨x, List.mem_of_getElem? hc, by rw [← hp]⟩
/-! locals -/
def ab_ll (ad : Nat → Nat → Nat) : Nat → List (Option ab_V) → List (Nat × Value)
  | _, [] => []
  | i, none :: l => ab_ll ad (i + 1) l
  | i, some v :: l => (i, ab_cv ad v) :: ab_ll ad (i + 1) l
theorem ab_ll_mem (ad : Nat → Nat → Nat) : ∀ (l : List (Option ab_V)) (i : Nat) (q : Nat × Value), q ∈ ab_ll ad i l → ∃ (j : Nat) (v : ab_V), l[j]? = some (some v) ∧ q = (i + j, ab_cv ad v)
  | [], i, q, h => by simp [ab_ll] at h
  | none :: l, i, q, h => by
    obtain ⟨j, v, h1, h2⟩ := ab_ll_mem ad l (i + 1) q h
    exact ⟨j + 1, v, by simpa using h1, by rw [h2]; simp; omega⟩
  | some w :: l, i, q, h => by
    simp only [ab_ll, List.mem_cons] at h
    rcases h with h | h
    · exact ⟨0, w, rfl, by simpa using h⟩
    · obtain ⟨j, v, h1, h2⟩ := ab_ll_mem ad l (i + 1) q h
      exact ⟨j + 1, v, by simpa using h1, by rw [h2]; simp; omega⟩
theorem ab_ll_in (ad : Nat → Nat → Nat) : ∀ (l : List (Option ab_V)) (i j : Nat) (v : ab_V), l[j]? = some (some v) → (i + j, ab_cv ad v) ∈ ab_ll ad i l
  | [], i, j, v, h => by simp at h
  | none :: l, i, 0, v, h => by simp at h
  | some w :: l, i, 0, v, h => by simp at h; simp [ab_ll, h]
  | none :: l, i, j + 1, v, h => by
    have := ab_ll_in ad l (i + 1) j v (by simpa using h)
    rw [show i + (j + 1) = i + 1 + j by omega]
    exact this
  | some w :: l, i, j + 1, v, h => by
    have := ab_ll_in ad l (i + 1) j v (by simpa using h)
    rw [show i + (j + 1) = i + 1 + j by omega]
    exact List.mem_cons_of_mem _ this
theorem ab_L_has {ad : Nat → Nat → Nat} {nL : Nat} {ls : Array Slot} {lv : List (Option ab_V)} (h : ab_L ad nL ls lv) : lv_has ls nL (ab_ll ad 0 lv) :=
  ⟨h.1, h.2.1, fun q hq => by
    obtain ⟨j, v, h1, h2⟩ := ab_ll_mem ad lv 0 q hq
    rw [h2, Nat.zero_add]
    exact h.2.2 j v h1⟩
def ab_kill (lv : List (Option ab_V)) (i : Nat) : List (Option ab_V) := match i with
  | 0 => lv
  | j + 1 => match lv[j]? with
    | some (some (.inr (.inl _))) => lv.set j none
    | _ => lv
def ab_st1 (lv : List (Option ab_V)) (i : Nat) (v : ab_V) : List (Option ab_V) := (ab_kill lv i).set i (some v)
def ab_st2 (lv : List (Option ab_V)) (i : Nat) (v : ab_V) : List (Option ab_V) := ((ab_kill lv i).set i (some v)).set (i + 1) none
theorem ab_kill_get {lv : List (Option ab_V)} {i j : Nat} {w : ab_V} (h : (ab_kill lv i)[j]? = some (some w)) : lv[j]? = some (some w) ∧ (j + 1 = i → ab_cat w ≠ 2) := by
  cases i with
  | zero => exact ⟨h, fun e => by omega⟩
  | succ a =>
    unfold ab_kill at h
    dsimp only at h
    split at h
    · by_cases e : j = a
      · subst e
        rw [List.getElem?_set] at h
        simp at h
      · rw [List.getElem?_set_ne (Ne.symm e)] at h
        exact ⟨h, fun z => absurd (by omega) e⟩
    · next hno =>
      refine ⟨h, fun z => ?_⟩
      have e : j = a := by omega
      subst e
      intro hc
      rcases w with x | x | x
      · simp [ab_cat] at hc
      · exact hno x h
      · simp [ab_cat] at hc
theorem ab_st1_get {lv : List (Option ab_V)} {i j : Nat} {v w : ab_V} (h : (ab_st1 lv i v)[j]? = some (some w)) : (j = i ∧ w = v) ∨ (j ≠ i ∧ lv[j]? = some (some w) ∧ (j + 1 = i → ab_cat w ≠ 2)) := by
  unfold ab_st1 at h
  by_cases e : j = i
  · subst e
    rw [List.getElem?_set] at h
    simp at h
    exact Or.inl ⟨rfl, h.2.symm⟩
  · rw [List.getElem?_set_ne (Ne.symm e)] at h
    exact Or.inr ⟨e, ab_kill_get h⟩
theorem ab_st2_get {lv : List (Option ab_V)} {i j : Nat} {v w : ab_V} (h : (ab_st2 lv i v)[j]? = some (some w)) : (j = i ∧ w = v) ∨ (j ≠ i ∧ j ≠ i + 1 ∧ lv[j]? = some (some w) ∧ (j + 1 = i → ab_cat w ≠ 2)) := by
  unfold ab_st2 at h
  by_cases e : j = i + 1
  · subst e
    rw [List.getElem?_set] at h
    simp at h
  · rw [List.getElem?_set_ne (Ne.symm e)] at h
    rcases ab_st1_get (v := v) h with z | z
    · exact Or.inl z
    · exact Or.inr ⟨z.1, e, z.2⟩
theorem ab_L_st1 {ad : Nat → Nat → Nat} {nL : Nat} {ls' : Array Slot} {lv : List (Option ab_V)} {i : Nat} {v : ab_V} (h : lv_has ls' nL ((i, ab_cv ad v) :: (ab_ll ad 0 lv).filter (fun q => !(q.1 == i) && !(q.1 + 1 == i && q.2.category == 2)))) : ab_L ad nL ls' (ab_st1 lv i v) := by
  refine ⟨h.1, h.2.1, fun j w hj => ?_⟩
  rcases ab_st1_get hj with ⟨e1, e2⟩ | ⟨e1, e2, e3⟩
  · subst e1; subst e2
    exact h.2.2 _ List.mem_cons_self
  · refine h.2.2 (j, ab_cv ad w) (List.mem_cons_of_mem _ (List.mem_filter.mpr ⟨?_, ?_⟩))
    · have := ab_ll_in ad lv 0 j w e2
      rwa [Nat.zero_add] at this
    · simp only [ab_cat_cv]
      by_cases z : j + 1 = i
      · simp [e1, z, e3 z]
      · simp [e1, z]
theorem ab_L_st2 {ad : Nat → Nat → Nat} {nL : Nat} {ls' : Array Slot} {lv : List (Option ab_V)} {i : Nat} {v : ab_V} (h : lv_has ls' nL ((i, ab_cv ad v) :: (ab_ll ad 0 lv).filter (fun q => !(q.1 == i) && (!(q.1 == i + 1) && !(q.1 + 1 == i && q.2.category == 2))))) : ab_L ad nL ls' (ab_st2 lv i v) := by
  refine ⟨h.1, h.2.1, fun j w hj => ?_⟩
  rcases ab_st2_get hj with ⟨e1, e2⟩ | ⟨e1, e4, e2, e3⟩
  · subst e1; subst e2
    exact h.2.2 _ List.mem_cons_self
  · refine h.2.2 (j, ab_cv ad w) (List.mem_cons_of_mem _ (List.mem_filter.mpr ⟨?_, ?_⟩))
    · have := ab_ll_in ad lv 0 j w e2
      rwa [Nat.zero_add] at this
    · simp only [ab_cat_cv]
      by_cases z : j + 1 = i
      · simp [e1, e4, z, e3 z]
      · simp [e1, e4, z]
def ab_en (as : List ab_V) : List (Option ab_V) := as.flatMap (fun v => if ab_cat v = 2 then [some v, none] else [some v])
def ab_pad (n : Nat) (l : List (Option ab_V)) : List (Option ab_V) := l ++ List.replicate (n - l.length) none
theorem ab_en_len (ad : Nat → Nat → Nat) : ∀ as : List ab_V, (lg_sl (as.map (ab_cv ad))).length = (ab_en as).length
  | [] => rfl
  | v :: as => by
    have ih := ab_en_len ad as
    simp only [lg_sl, ab_en, List.map_cons, List.flatMap_cons, List.length_append, ab_cat_cv] at ih ⊢
    rw [ih]
    by_cases h : ab_cat v = 2 <;> simp [h]
theorem ab_en_get (ad : Nat → Nat → Nat) : ∀ (as : List ab_V) (i j : Nat) (w : ab_V), (ab_en as)[j]? = some (some w) → (i + j, ab_cv ad w) ∈ lv_args i (as.map (ab_cv ad))
  | [], i, j, w, h => by simp [ab_en] at h
  | v :: as, i, j, w, h => by
    have ih := ab_en_get ad as
    simp only [ab_en, List.flatMap_cons] at h
    by_cases hc : ab_cat v = 2
    · rw [if_pos hc] at h
      match j, h with
      | 0, h => simp at h; simp [lv_args, h]
      | 1, h => simp at h
      | j + 2, h =>
        have h2 : (ab_en as)[j]? = some (some w) := by simpa [ab_en] using h
        have := ih (i + 2) j w h2
        simp only [lv_args, List.map_cons, ab_cat_cv, hc, if_true]
        rw [show i + (j + 2) = i + 2 + j by omega]
        exact List.mem_cons_of_mem _ this
    · rw [if_neg hc] at h
      match j, h with
      | 0, h => simp at h; simp [lv_args, h]
      | j + 1, h =>
        have h2 : (ab_en as)[j]? = some (some w) := by simpa [ab_en] using h
        have := ih (i + 1) j w h2
        simp only [lv_args, List.map_cons, ab_cat_cv, hc, if_false]
        rw [show i + (j + 1) = i + 1 + j by omega]
        exact List.mem_cons_of_mem _ this
theorem ab_pad_get {n j : Nat} {l : List (Option ab_V)} {w : ab_V} (h : (ab_pad n l)[j]? = some (some w)) : l[j]? = some (some w) := by
  unfold ab_pad at h
  by_cases hj : j < l.length
  · rwa [List.getElem?_append_left hj] at h
  · rw [List.getElem?_append_right (by omega)] at h
    have := List.eq_of_mem_replicate (List.mem_of_getElem? h)
    cases this
/-- A METHOD'S CONTRACT out of its body -/
theorem ab_M_intro {l : Launch} {Y : ab_Y} {y : MethodName} {cc : ByteArray} {nL : Nat} {ret : Option FieldType} {d : Nat} {as : List ab_V} {σ : ab_S} {rv : Option ab_V} {σf : ab_S} (hnd : Y.2.1.Nodup) (hy : plainName y.cls = true) (hn : (ab_en as).length ≤ nL)
    (body : ∀ (p : Program) (e : Env) (s : State) (m : MethodId) (args : Array Value) (below : List Frame) (meth : Method) (c : Code) (D : va_G) (cA : Nat → ClassId) (ad : Nat → Nat → Nat), ab_C Y p s m args meth c D cA ad cc nL y.cls ret → ab_G Y p l e s m args below meth c D cA ad nL d rv σf 0 (ab_pad nL (ab_en as)) [] σ) : ab_M l Y y cc nL ret d as σ rv σf := by
  intro D cA ad sz
  refine Met.ofW (cc := cc) (maxL := nL) (ret := ret) hy rfl ?_
  intro p e s m args below meth c s₁ B hml hv
  obtain ⟨rfl, hsz, hP, hD0, hK, hSt, hNw⟩ := hv
  have hts := atoms_spec (ws := .code y cc nL ret :: ab_T) B.pre
  have hown : s.vm.findClass y.cls = some m.cls := findClass_of_methodNamed B.named
  subst hsz
  have hl := lv_entry (as.map (ab_cv ad)) (n := nL) (by rw [ab_en_len]; exact hn)
  rw [lg_entry_eq]
  exact body p e s m _ below meth c D cA ad ⟨B.exec, B.bytes, B.returns, hml, fun w h => hts w (List.mem_cons_of_mem _ h), hown, B.notSynchronized, hK, fun σ' => ab_D_A (ab_D_any hD0), hSt, hNw, hnd⟩ s.heap [] _ hP va_S.rf
    ⟨hl.1, hl.2.1, fun i v h => by
      have h2 := ab_en_get ad as 0 i v (ab_pad_get h)
      rw [Nat.zero_add] at h2
      exact hl.2.2 _ h2⟩
