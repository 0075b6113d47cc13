/-! the two worlds; small rows that the printed proofs use -/
def ab_N : Nat := 1024
def ab_k {α β : Type} (x : α) (f : α → β) : β := f x
theorem ab_kh {α β : Type} {x y : α} {F : α → Option β} {r : β} (e : y = x) (h : ab_k x F = some r) : F y = some r := by
  subst e
  exact h
theorem ab_grn {β : Type} {q : Prop} [Decidable q] {o : Option β} {r : β} (h : (if q then none else o) = some r) : ¬ q ∧ o = some r := by
  by_cases hq : q
  · rw [if_pos hq] at h; cases h
  · rw [if_neg hq] at h; exact ⟨hq, h⟩
section AB
variable {Y : ab_Y} {p : Program} {l : Launch} {e : Env} {s : State} {m : MethodId} {args : Array Value} {below : List Frame} {meth : Method} {c : Code} {D : va_G} {cA : Nat → ClassId} {ad : Nat → Nat → Nat} {cc : ByteArray} {nL d : Nat} {own : String} {ret : Option FieldType} {rv : Option ab_V} {σf : ab_S} {pc nxt : Nat} {lv : List (Option ab_V)} {st : List ab_V} {σ : ab_S}
theorem ab_nmS (k : ∀ σ1 : ab_S, σ1 = σ → ab_G Y p l e s m args below meth c D cA ad nL d rv σf pc lv st σ1) : ab_G Y p l e s m args below meth c D cA ad nL d rv σf pc lv st σ := k σ rfl
theorem ab_nmI {x : Int32} (k : ∀ y : Int32, y = x → ab_G Y p l e s m args below meth c D cA ad nL d rv σf pc lv (.inl y :: st) σ) : ab_G Y p l e s m args below meth c D cA ad nL d rv σf pc lv (.inl x :: st) σ := k x rfl
theorem ab_nmJ {x : Int64} (k : ∀ y : Int64, y = x → ab_G Y p l e s m args below meth c D cA ad nL d rv σf pc lv (.inr (.inl y) :: st) σ) : ab_G Y p l e s m args below meth c D cA ad nL d rv σf pc lv (.inr (.inl x) :: st) σ := k x rfl
theorem ab_inv1 (C : ab_C Y p s m args meth c D cA ad cc nL own ret) {y : MethodName} {cc' : ByteArray} {nL' d' idx r k ci : Nat} {ret' : Option FieldType} {as : List ab_V} {σ1 : ab_S} {v1 : ab_V} {st0 : List ab_V} {fl : List (Option Nat)} (hd : ab_D cc pc (.invokevirtual idx) 3 nxt) (hl : Cond.methodLink own idx y ∈ ab_T) (hy : ab_YV y cc' nL' ret' as.length)
    (hrk : Y.1 r = .inl (ci, fl)) (hcl : ∃ T N, vwCl[ci]? = some (y.cls, T, N)) (hm : (r, k) ∈ Y.2.1) (hM : ab_M l Y y cc' nL' ret' d' (.inr (.inr (r, k)) :: as) σ (some v1) σ1) (hdd : d' + 1 ≤ d) (hnn : nL' ≤ 40) (hst : st0 = as.reverse ++ .inr (.inr (r, k)) :: st) (hw : (st.map ab_cat).sum ≤ 8)
    (kk : ab_G Y p l e s m args below meth c D cA ad nL d rv σf nxt lv (v1 :: st) σ1) : ab_G Y p l e s m args below meth c D cA ad nL d rv σf pc lv st0 σ := ab_inv C hd hl hy hrk hcl hm hM hdd hnn hst hw kk
theorem ab_inv0 (C : ab_C Y p s m args meth c D cA ad cc nL own ret) {y : MethodName} {cc' : ByteArray} {nL' d' idx r k ci : Nat} {ret' : Option FieldType} {as : List ab_V} {σ1 : ab_S} {st0 : List ab_V} {fl : List (Option Nat)} (hd : ab_D cc pc (.invokevirtual idx) 3 nxt) (hl : Cond.methodLink own idx y ∈ ab_T) (hy : ab_YV y cc' nL' ret' as.length)
    (hrk : Y.1 r = .inl (ci, fl)) (hcl : ∃ T N, vwCl[ci]? = some (y.cls, T, N)) (hm : (r, k) ∈ Y.2.1) (hM : ab_M l Y y cc' nL' ret' d' (.inr (.inr (r, k)) :: as) σ none σ1) (hdd : d' + 1 ≤ d) (hnn : nL' ≤ 40) (hst : st0 = as.reverse ++ .inr (.inr (r, k)) :: st) (hw : (st.map ab_cat).sum ≤ 8)
    (kk : ab_G Y p l e s m args below meth c D cA ad nL d rv σf nxt lv st σ1) : ab_G Y p l e s m args below meth c D cA ad nL d rv σf pc lv st0 σ := ab_inv C hd hl hy hrk hcl hm hM hdd hnn hst hw kk
theorem ab_invS1 (C : ab_C Y p s m args meth c D cA ad cc nL own ret) {y : MethodName} {cc' : ByteArray} {nL' d' idx : Nat} {ret' : Option FieldType} {as : List ab_V} {σ1 : ab_S} {v1 : ab_V} {st0 : List ab_V} (hd : ab_D cc pc (.invokestatic idx) 3 nxt) (hl : Cond.methodLink own idx y ∈ ab_T) (hy : ab_YS y cc' nL' ret' as.length)
    (hM : ab_M l Y y cc' nL' ret' d' as σ (some v1) σ1) (hdd : d' + 1 ≤ d) (hnn : nL' ≤ 40) (hst : st0 = as.reverse ++ st) (hw : (st.map ab_cat).sum ≤ 8)
    (kk : ab_G Y p l e s m args below meth c D cA ad nL d rv σf nxt lv (v1 :: st) σ1) : ab_G Y p l e s m args below meth c D cA ad nL d rv σf pc lv st0 σ := ab_invS C hd hl hy hM hdd hnn hst hw kk
theorem ab_invS0 (C : ab_C Y p s m args meth c D cA ad cc nL own ret) {y : MethodName} {cc' : ByteArray} {nL' d' idx : Nat} {ret' : Option FieldType} {as : List ab_V} {σ1 : ab_S} {st0 : List ab_V} (hd : ab_D cc pc (.invokestatic idx) 3 nxt) (hl : Cond.methodLink own idx y ∈ ab_T) (hy : ab_YS y cc' nL' ret' as.length)
    (hM : ab_M l Y y cc' nL' ret' d' as σ none σ1) (hdd : d' + 1 ≤ d) (hnn : nL' ≤ 40) (hst : st0 = as.reverse ++ st) (hw : (st.map ab_cat).sum ≤ 8)
    (kk : ab_G Y p l e s m args below meth c D cA ad nL d rv σf nxt lv st σ1) : ab_G Y p l e s m args below meth c D cA ad nL d rv σf pc lv st0 σ := ab_invS C hd hl hy hM hdd hnn hst hw kk
theorem ab_invSN1 (C : ab_C Y p s m args meth c D cA ad cc nL own ret) {y : MethodName} {cc' : ByteArray} {nL' d' idx : Nat} {ret' : Option FieldType} {as : List ab_V} {σ1 : ab_S} {v1 : ab_V} {st0 : List ab_V} (hd : ab_D cc pc (.invokestatic idx) 3 nxt) {host : String} (hl : (own, idx, y, host) ∈ ab_nl) (hy : ab_YS y cc' nL' ret' as.length)
    (hM : ab_M l Y y cc' nL' ret' d' as σ (some v1) σ1) (hdd : d' + 1 ≤ d) (hnn : nL' ≤ 40) (hst : st0 = as.reverse ++ st) (hw : (st.map ab_cat).sum ≤ 8)
    (kk : ab_G Y p l e s m args below meth c D cA ad nL d rv σf nxt lv (v1 :: st) σ1) : ab_G Y p l e s m args below meth c D cA ad nL d rv σf pc lv st0 σ := ab_invSN C hd hl hy hM hdd hnn hst hw kk
theorem ab_invSN0 (C : ab_C Y p s m args meth c D cA ad cc nL own ret) {y : MethodName} {cc' : ByteArray} {nL' d' idx : Nat} {ret' : Option FieldType} {as : List ab_V} {σ1 : ab_S} {st0 : List ab_V} (hd : ab_D cc pc (.invokestatic idx) 3 nxt) {host : String} (hl : (own, idx, y, host) ∈ ab_nl) (hy : ab_YS y cc' nL' ret' as.length)
    (hM : ab_M l Y y cc' nL' ret' d' as σ none σ1) (hdd : d' + 1 ≤ d) (hnn : nL' ≤ 40) (hst : st0 = as.reverse ++ st) (hw : (st.map ab_cat).sum ≤ 8)
    (kk : ab_G Y p l e s m args below meth c D cA ad nL d rv σf nxt lv st σ1) : ab_G Y p l e s m args below meth c D cA ad nL d rv σf pc lv st0 σ := ab_invSN C hd hl hy hM hdd hnn hst hw kk
end AB
def rgC : List ab_K := [.inl (9, [some 1, some 5, some 9, none, some 13, some 18, some 21, some 35, some 36, some 39]), .inl (7, [some 2, some 3, some 4, none, none, none, none]), .inr (0, 5, 0), .inr (0, 5, 0), .inr (0, 5, 0), .inl (4, [some 6, some 7, some 8, none, none, none]), .inr (0, 3, 0), .inr (0, 3, 0), .inr (0, 3, 0), .inl (4, [some 10, some 11, some 12, none, none, none]), .inr (0, 3, 0), .inr (0, 3, 0), .inr (0, 3, 0), .inl (2, [some 14, some 15, some 16, some 17, none, none]), .inr (0, 40, 0), .inr (0, 40, 0), .inr (0, 40, 0), .inr (0, 40, 0), .inl (8, [some 19, some 20, none, none, none, none]), .inr (0, 120, 0), .inr (0, 121, 0), .inl (1, [some 1, some 22, some 27, some 28, some 30, some 32, some 33, some 34]), .inr (3, 4, 23), .inl (5, [some 24, some 25, some 26, none, none, none, none]), .inr (0, 121, 0), .inr (0, 121, 0), .inr (1, 750, 0), .inr (2, 5, 0), .inr (4, 4, 29), .inr (2, 5, 0), .inr (4, 3, 31), .inr (2, 5, 0), .inr (2, 4, 0), .inr (0, 4, 0), .inr (0, 4, 0), .inl (3, [some 1, some 21, none]), .inl (0, [some 37, some 38, none, none, none, none]), .inr (0, 50, 0), .inr (0, 24, 0), .inl (6, [some 40, some 41, some 42]), .inr (0, 6, 0), .inr (0, 6, 0), .inr (4, 6, 43), .inr (2, 60, 0)]
def csC : List (Nat × Nat) := [(0, 0), (1, 0), (2, 0), (3, 0), (4, 0), (5, 0), (6, 0), (7, 0), (8, 0), (9, 0), (10, 0), (11, 0), (12, 0), (13, 0), (14, 0), (15, 0), (16, 0), (17, 0), (18, 0), (19, 0), (20, 0), (21, 0), (22, 0), (23, 0), (23, 1), (23, 2), (23, 3), (24, 0), (24, 1), (24, 2), (24, 3), (25, 0), (25, 1), (25, 2), (25, 3), (26, 0), (26, 1), (26, 2), (26, 3), (27, 0), (28, 0), (29, 0), (29, 1), (29, 2), (29, 3), (30, 0), (31, 0), (31, 1), (31, 2), (32, 0), (33, 0), (34, 0), (35, 0), (36, 0), (37, 0), (38, 0), (39, 0), (40, 0), (41, 0), (42, 0), (43, 0), (43, 1), (43, 2), (43, 3), (43, 4), (43, 5)]
def svC_50 : Nat → Int32 := fun j => ([1, 10, 11, 2, 20, 0, 0, 0, 0, 30, 0, 0, 0, 41, 40, 0, 0, 0, 50, 0, 0, 0, 0, 60, 70, 0, 0, 0, 0, 80, 0, 81] : List Int32).getD j 0
def svC_51 : Nat → Int32 := fun j => ([-1, 0, 0, 2, 1, 3, 0, 4] : List Int32).getD j 0
def zsC : List ab_Z := [(50, "ChangeDoors$Bodies", "OWN", 32, svC_50), (51, "ChangeDoors$Bodies", "ABOVE", 8, svC_51)]
def yC : ab_Y := (fun r => (rgC[r]?).getD (.inr (0, 0, 0)), csC, zsC)
theorem ndC : yC.2.1.Nodup := by decide +kernel
theorem rkC_0 : yC.1 0 = .inl (9, [some 1, some 5, some 9, none, some 13, some 18, some 21, some 35, some 36, some 39]) := rfl
theorem mmC_0 : ((0, 0) : Nat × Nat) ∈ yC.2.1 := by decide +kernel
theorem rkC_1 : yC.1 1 = .inl (7, [some 2, some 3, some 4, none, none, none, none]) := rfl
theorem mmC_1 : ((1, 0) : Nat × Nat) ∈ yC.2.1 := by decide +kernel
theorem rkC_2 : yC.1 2 = .inr (0, 5, 0) := rfl
theorem mmC_2 : ((2, 0) : Nat × Nat) ∈ yC.2.1 := by decide +kernel
theorem rkC_3 : yC.1 3 = .inr (0, 5, 0) := rfl
theorem mmC_3 : ((3, 0) : Nat × Nat) ∈ yC.2.1 := by decide +kernel
theorem rkC_4 : yC.1 4 = .inr (0, 5, 0) := rfl
theorem mmC_4 : ((4, 0) : Nat × Nat) ∈ yC.2.1 := by decide +kernel
theorem rkC_5 : yC.1 5 = .inl (4, [some 6, some 7, some 8, none, none, none]) := rfl
theorem mmC_5 : ((5, 0) : Nat × Nat) ∈ yC.2.1 := by decide +kernel
theorem rkC_6 : yC.1 6 = .inr (0, 3, 0) := rfl
theorem mmC_6 : ((6, 0) : Nat × Nat) ∈ yC.2.1 := by decide +kernel
theorem rkC_7 : yC.1 7 = .inr (0, 3, 0) := rfl
theorem mmC_7 : ((7, 0) : Nat × Nat) ∈ yC.2.1 := by decide +kernel
theorem rkC_8 : yC.1 8 = .inr (0, 3, 0) := rfl
theorem mmC_8 : ((8, 0) : Nat × Nat) ∈ yC.2.1 := by decide +kernel
theorem rkC_9 : yC.1 9 = .inl (4, [some 10, some 11, some 12, none, none, none]) := rfl
theorem mmC_9 : ((9, 0) : Nat × Nat) ∈ yC.2.1 := by decide +kernel
theorem rkC_10 : yC.1 10 = .inr (0, 3, 0) := rfl
theorem mmC_10 : ((10, 0) : Nat × Nat) ∈ yC.2.1 := by decide +kernel
theorem rkC_11 : yC.1 11 = .inr (0, 3, 0) := rfl
theorem mmC_11 : ((11, 0) : Nat × Nat) ∈ yC.2.1 := by decide +kernel
theorem rkC_12 : yC.1 12 = .inr (0, 3, 0) := rfl
theorem mmC_12 : ((12, 0) : Nat × Nat) ∈ yC.2.1 := by decide +kernel
theorem rkC_13 : yC.1 13 = .inl (2, [some 14, some 15, some 16, some 17, none, none]) := rfl
theorem mmC_13 : ((13, 0) : Nat × Nat) ∈ yC.2.1 := by decide +kernel
theorem rkC_14 : yC.1 14 = .inr (0, 40, 0) := rfl
theorem mmC_14 : ((14, 0) : Nat × Nat) ∈ yC.2.1 := by decide +kernel
theorem rkC_15 : yC.1 15 = .inr (0, 40, 0) := rfl
theorem mmC_15 : ((15, 0) : Nat × Nat) ∈ yC.2.1 := by decide +kernel
theorem rkC_16 : yC.1 16 = .inr (0, 40, 0) := rfl
theorem mmC_16 : ((16, 0) : Nat × Nat) ∈ yC.2.1 := by decide +kernel
theorem rkC_17 : yC.1 17 = .inr (0, 40, 0) := rfl
theorem mmC_17 : ((17, 0) : Nat × Nat) ∈ yC.2.1 := by decide +kernel
theorem rkC_18 : yC.1 18 = .inl (8, [some 19, some 20, none, none, none, none]) := rfl
theorem mmC_18 : ((18, 0) : Nat × Nat) ∈ yC.2.1 := by decide +kernel
theorem rkC_19 : yC.1 19 = .inr (0, 120, 0) := rfl
theorem mmC_19 : ((19, 0) : Nat × Nat) ∈ yC.2.1 := by decide +kernel
theorem rkC_20 : yC.1 20 = .inr (0, 121, 0) := rfl
theorem mmC_20 : ((20, 0) : Nat × Nat) ∈ yC.2.1 := by decide +kernel
theorem rkC_21 : yC.1 21 = .inl (1, [some 1, some 22, some 27, some 28, some 30, some 32, some 33, some 34]) := rfl
theorem mmC_21 : ((21, 0) : Nat × Nat) ∈ yC.2.1 := by decide +kernel
theorem rkC_22 : yC.1 22 = .inr (3, 4, 23) := rfl
theorem mmC_22 : ((22, 0) : Nat × Nat) ∈ yC.2.1 := by decide +kernel
theorem rkC_23 : yC.1 23 = .inl (5, [some 24, some 25, some 26, none, none, none, none]) := rfl
theorem mmC_23 {k : Nat} (h : k < 4) : ((23, k) : Nat × Nat) ∈ yC.2.1 := by
  rcases (show k = 0 ∨ k = 1 ∨ k = 2 ∨ k = 3 by omega) with rfl | rfl | rfl | rfl
  all_goals decide +kernel
theorem rkC_24 : yC.1 24 = .inr (0, 121, 0) := rfl
theorem mmC_24 {k : Nat} (h : k < 4) : ((24, k) : Nat × Nat) ∈ yC.2.1 := by
  rcases (show k = 0 ∨ k = 1 ∨ k = 2 ∨ k = 3 by omega) with rfl | rfl | rfl | rfl
  all_goals decide +kernel
theorem rkC_25 : yC.1 25 = .inr (0, 121, 0) := rfl
theorem mmC_25 {k : Nat} (h : k < 4) : ((25, k) : Nat × Nat) ∈ yC.2.1 := by
  rcases (show k = 0 ∨ k = 1 ∨ k = 2 ∨ k = 3 by omega) with rfl | rfl | rfl | rfl
  all_goals decide +kernel
theorem rkC_26 : yC.1 26 = .inr (1, 750, 0) := rfl
theorem mmC_26 {k : Nat} (h : k < 4) : ((26, k) : Nat × Nat) ∈ yC.2.1 := by
  rcases (show k = 0 ∨ k = 1 ∨ k = 2 ∨ k = 3 by omega) with rfl | rfl | rfl | rfl
  all_goals decide +kernel
theorem rkC_27 : yC.1 27 = .inr (2, 5, 0) := rfl
theorem mmC_27 : ((27, 0) : Nat × Nat) ∈ yC.2.1 := by decide +kernel
theorem rkC_28 : yC.1 28 = .inr (4, 4, 29) := rfl
theorem mmC_28 : ((28, 0) : Nat × Nat) ∈ yC.2.1 := by decide +kernel
theorem rkC_29 : yC.1 29 = .inr (2, 5, 0) := rfl
theorem mmC_29 {k : Nat} (h : k < 4) : ((29, k) : Nat × Nat) ∈ yC.2.1 := by
  rcases (show k = 0 ∨ k = 1 ∨ k = 2 ∨ k = 3 by omega) with rfl | rfl | rfl | rfl
  all_goals decide +kernel
theorem rkC_30 : yC.1 30 = .inr (4, 3, 31) := rfl
theorem mmC_30 : ((30, 0) : Nat × Nat) ∈ yC.2.1 := by decide +kernel
theorem rkC_31 : yC.1 31 = .inr (2, 5, 0) := rfl
theorem mmC_31 {k : Nat} (h : k < 3) : ((31, k) : Nat × Nat) ∈ yC.2.1 := by
  rcases (show k = 0 ∨ k = 1 ∨ k = 2 by omega) with rfl | rfl | rfl
  all_goals decide +kernel
theorem rkC_32 : yC.1 32 = .inr (2, 4, 0) := rfl
theorem mmC_32 : ((32, 0) : Nat × Nat) ∈ yC.2.1 := by decide +kernel
theorem rkC_33 : yC.1 33 = .inr (0, 4, 0) := rfl
theorem mmC_33 : ((33, 0) : Nat × Nat) ∈ yC.2.1 := by decide +kernel
theorem rkC_34 : yC.1 34 = .inr (0, 4, 0) := rfl
theorem mmC_34 : ((34, 0) : Nat × Nat) ∈ yC.2.1 := by decide +kernel
theorem rkC_35 : yC.1 35 = .inl (3, [some 1, some 21, none]) := rfl
theorem mmC_35 : ((35, 0) : Nat × Nat) ∈ yC.2.1 := by decide +kernel
theorem rkC_36 : yC.1 36 = .inl (0, [some 37, some 38, none, none, none, none]) := rfl
theorem mmC_36 : ((36, 0) : Nat × Nat) ∈ yC.2.1 := by decide +kernel
theorem rkC_37 : yC.1 37 = .inr (0, 50, 0) := rfl
theorem mmC_37 : ((37, 0) : Nat × Nat) ∈ yC.2.1 := by decide +kernel
theorem rkC_38 : yC.1 38 = .inr (0, 24, 0) := rfl
theorem mmC_38 : ((38, 0) : Nat × Nat) ∈ yC.2.1 := by decide +kernel
theorem rkC_39 : yC.1 39 = .inl (6, [some 40, some 41, some 42]) := rfl
theorem mmC_39 : ((39, 0) : Nat × Nat) ∈ yC.2.1 := by decide +kernel
theorem rkC_40 : yC.1 40 = .inr (0, 6, 0) := rfl
theorem mmC_40 : ((40, 0) : Nat × Nat) ∈ yC.2.1 := by decide +kernel
theorem rkC_41 : yC.1 41 = .inr (0, 6, 0) := rfl
theorem mmC_41 : ((41, 0) : Nat × Nat) ∈ yC.2.1 := by decide +kernel
theorem rkC_42 : yC.1 42 = .inr (4, 6, 43) := rfl
theorem mmC_42 : ((42, 0) : Nat × Nat) ∈ yC.2.1 := by decide +kernel
theorem rkC_43 : yC.1 43 = .inr (2, 60, 0) := rfl
theorem mmC_43 {k : Nat} (h : k < 6) : ((43, k) : Nat × Nat) ∈ yC.2.1 := by
  rcases (show k = 0 ∨ k = 1 ∨ k = 2 ∨ k = 3 ∨ k = 4 ∨ k = 5 by omega) with rfl | rfl | rfl | rfl | rfl | rfl
  all_goals decide +kernel
theorem zmC_50 : ((50, "ChangeDoors$Bodies", "OWN", 32, svC_50) : ab_Z) ∈ yC.2.2 := List.mem_cons_self
theorem zmC_51 : ((51, "ChangeDoors$Bodies", "ABOVE", 8, svC_51) : ab_Z) ∈ yC.2.2 := List.mem_cons_of_mem _ List.mem_cons_self
def rgM : List ab_K := [.inl (10, [some 1, some 2, some 3, some 4, none, none, none, none, none, none, some 5, some 6, some 7, some 8, none, some 9, some 10, none, none, none, none, none, some 11, some 12, some 13, none, none, some 14, none, none, none, none, some 15, some 16, some 17, none, some 18, some 19, none, none, none, some 20, some 21, some 22, some 23]), .inr (0, 7, 0), .inr (0, 40, 0), .inr (0, 40, 0), .inr (0, 40, 0), .inr (0, 3, 0), .inr (0, 3, 0), .inr (0, 5, 0), .inr (0, 120, 0), .inr (0, 480, 0), .inr (0, 4, 0), .inr (0, 6, 0), .inr (2, 5, 0), .inr (2, 20, 0), .inr (0, 3, 0), .inr (0, 3, 0), .inr (0, 3, 0), .inr (0, 3, 0), .inr (0, 50, 0), .inr (0, 24, 0), .inr (0, 6, 0), .inr (0, 6, 0), .inr (2, 360, 0), .inr (2, 60, 0)]
def csM : List (Nat × Nat) := [(0, 0), (1, 0), (2, 0), (3, 0), (4, 0), (5, 0), (6, 0), (7, 0), (8, 0), (9, 0), (10, 0), (11, 0), (12, 0), (13, 0), (14, 0), (15, 0), (16, 0), (17, 0), (18, 0), (19, 0), (20, 0), (21, 0), (22, 0), (23, 0)]
def zsM : List ab_Z := []
def yM : ab_Y := (fun r => (rgM[r]?).getD (.inr (0, 0, 0)), csM, zsM)
theorem ndM : yM.2.1.Nodup := by decide +kernel
theorem rkM_0 : yM.1 0 = .inl (10, [some 1, some 2, some 3, some 4, none, none, none, none, none, none, some 5, some 6, some 7, some 8, none, some 9, some 10, none, none, none, none, none, some 11, some 12, some 13, none, none, some 14, none, none, none, none, some 15, some 16, some 17, none, some 18, some 19, none, none, none, some 20, some 21, some 22, some 23]) := rfl
theorem mmM_0 : ((0, 0) : Nat × Nat) ∈ yM.2.1 := by decide +kernel
theorem rkM_1 : yM.1 1 = .inr (0, 7, 0) := rfl
theorem mmM_1 : ((1, 0) : Nat × Nat) ∈ yM.2.1 := by decide +kernel
theorem rkM_2 : yM.1 2 = .inr (0, 40, 0) := rfl
theorem mmM_2 : ((2, 0) : Nat × Nat) ∈ yM.2.1 := by decide +kernel
theorem rkM_3 : yM.1 3 = .inr (0, 40, 0) := rfl
theorem mmM_3 : ((3, 0) : Nat × Nat) ∈ yM.2.1 := by decide +kernel
theorem rkM_4 : yM.1 4 = .inr (0, 40, 0) := rfl
theorem mmM_4 : ((4, 0) : Nat × Nat) ∈ yM.2.1 := by decide +kernel
theorem rkM_5 : yM.1 5 = .inr (0, 3, 0) := rfl
theorem mmM_5 : ((5, 0) : Nat × Nat) ∈ yM.2.1 := by decide +kernel
theorem rkM_6 : yM.1 6 = .inr (0, 3, 0) := rfl
theorem mmM_6 : ((6, 0) : Nat × Nat) ∈ yM.2.1 := by decide +kernel
theorem rkM_7 : yM.1 7 = .inr (0, 5, 0) := rfl
theorem mmM_7 : ((7, 0) : Nat × Nat) ∈ yM.2.1 := by decide +kernel
theorem rkM_8 : yM.1 8 = .inr (0, 120, 0) := rfl
theorem mmM_8 : ((8, 0) : Nat × Nat) ∈ yM.2.1 := by decide +kernel
theorem rkM_9 : yM.1 9 = .inr (0, 480, 0) := rfl
theorem mmM_9 : ((9, 0) : Nat × Nat) ∈ yM.2.1 := by decide +kernel
theorem rkM_10 : yM.1 10 = .inr (0, 4, 0) := rfl
theorem mmM_10 : ((10, 0) : Nat × Nat) ∈ yM.2.1 := by decide +kernel
theorem rkM_11 : yM.1 11 = .inr (0, 6, 0) := rfl
theorem mmM_11 : ((11, 0) : Nat × Nat) ∈ yM.2.1 := by decide +kernel
theorem rkM_12 : yM.1 12 = .inr (2, 5, 0) := rfl
theorem mmM_12 : ((12, 0) : Nat × Nat) ∈ yM.2.1 := by decide +kernel
theorem rkM_13 : yM.1 13 = .inr (2, 20, 0) := rfl
theorem mmM_13 : ((13, 0) : Nat × Nat) ∈ yM.2.1 := by decide +kernel
theorem rkM_14 : yM.1 14 = .inr (0, 3, 0) := rfl
theorem mmM_14 : ((14, 0) : Nat × Nat) ∈ yM.2.1 := by decide +kernel
theorem rkM_15 : yM.1 15 = .inr (0, 3, 0) := rfl
theorem mmM_15 : ((15, 0) : Nat × Nat) ∈ yM.2.1 := by decide +kernel
theorem rkM_16 : yM.1 16 = .inr (0, 3, 0) := rfl
theorem mmM_16 : ((16, 0) : Nat × Nat) ∈ yM.2.1 := by decide +kernel
theorem rkM_17 : yM.1 17 = .inr (0, 3, 0) := rfl
theorem mmM_17 : ((17, 0) : Nat × Nat) ∈ yM.2.1 := by decide +kernel
theorem rkM_18 : yM.1 18 = .inr (0, 50, 0) := rfl
theorem mmM_18 : ((18, 0) : Nat × Nat) ∈ yM.2.1 := by decide +kernel
theorem rkM_19 : yM.1 19 = .inr (0, 24, 0) := rfl
theorem mmM_19 : ((19, 0) : Nat × Nat) ∈ yM.2.1 := by decide +kernel
theorem rkM_20 : yM.1 20 = .inr (0, 6, 0) := rfl
theorem mmM_20 : ((20, 0) : Nat × Nat) ∈ yM.2.1 := by decide +kernel
theorem rkM_21 : yM.1 21 = .inr (0, 6, 0) := rfl
theorem mmM_21 : ((21, 0) : Nat × Nat) ∈ yM.2.1 := by decide +kernel
theorem rkM_22 : yM.1 22 = .inr (2, 360, 0) := rfl
theorem mmM_22 : ((22, 0) : Nat × Nat) ∈ yM.2.1 := by decide +kernel
theorem rkM_23 : yM.1 23 = .inr (2, 60, 0) := rfl
theorem mmM_23 : ((23, 0) : Nat × Nat) ∈ yM.2.1 := by decide +kernel
