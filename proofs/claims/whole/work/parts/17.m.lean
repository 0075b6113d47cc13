def fX9_put (x1 : Int32) (x2 : Int32) (x3 : Int64) (σ : ab_S) : Option (Int32 × ab_S) := (fX9_rowRefusal x1 x2 σ).bind fun q1 => (if q1 = 0 then (fX6_set x1 x2 x3 σ).bind fun q3 => some (1, q3) else some (q1, σ))
section
variable {p : Program} {l : Launch} {e : Env} {s : State} {m : MethodId} {args : Array Value} {below : List Frame} {meth : Method} {c : Code} {D : va_G} {cA : Nat → ClassId} {ad : Nat → Nat → Nat}
set_option maxRecDepth 100000 in
set_option maxHeartbeats 4000000 in
theorem tX9_put (l : Launch) (x1 : Int32) (x2 : Int32) (x3 : Int64) (σ : ab_S) {R : (Int32 × ab_S)} (h : fX9_put x1 x2 x3 σ = some R) : ab_M l yC yX9_put cX9_put 6 (some .int) 5 [.inr (.inr (0, 0)), .inl x1, .inl x2, .inr (.inl x3)] σ (some (.inl R.1)) R.2 := by
  refine ab_M_intro ndC (by decide) (Nat.le_of_ble_eq_true rfl) ?_
  intro p e s m args below meth c D cA ad C
  have C : ab_C yC p s m args meth c D cA ad cX9_put 6 RX9 (some .int) := C
  refine ab_weak (lv' := [some (.inr (.inr (0, 0))), some (.inl x1), some (.inl x2), some (.inr (.inl x3)), none, none]) ⟨.inr rfl, ⟨.inr rfl, ⟨.inr rfl, ⟨.inr rfl, ⟨.inl rfl, ⟨.inl rfl, trivial⟩⟩⟩⟩⟩⟩ ?_
  refine ab_aload_n C dX9_put_0 rfl ?_
  refine ab_iload_n C dX9_put_1 rfl ?_
  refine ab_iload_n C dX9_put_2 rfl ?_
  obtain ⟨q1, hq1, h⟩ := ab_bind h
  refine ab_inv1 C dX9_put_3 mlX9_340 yvX9_rowRefusal rkC_0 ⟨_, _, rfl⟩ mmC_0 (tX9_rowRefusal l _ _ _ hq1) (Nat.le_of_ble_eq_true rfl) (Nat.le_of_ble_eq_true rfl) rfl (Nat.le_of_ble_eq_true rfl) ?_
  refine ab_istore C dX9_put_6 (Nat.le_of_ble_eq_true rfl) ?_
  refine ab_iload C dX9_put_8 rfl ?_
  refine ab_if_eq C (tgt := 16) dX9_put_10 (by decide) (fun hc2 => ?_) (fun hc2 => ?_)
  · replace h := ab_pos hc2 h
    refine ab_aload_n C dX9_put_16 rfl ?_
    refine ab_getR C dX9_put_17 flX9_72 rkC_0 rfl mmC_0 ?_
    refine ab_iload_n C dX9_put_20 rfl ?_
    refine ab_iload_n C dX9_put_21 rfl ?_
    refine ab_lload_n C dX9_put_22 rfl ?_
    obtain ⟨q3, hq3, h⟩ := ab_bind h
    refine ab_inv0 C dX9_put_23 mlX9_343 yvX6_set rkC_39 ⟨_, _, rfl⟩ mmC_39 (tX6_set l _ _ _ _ hq3) (Nat.le_of_ble_eq_true rfl) (Nat.le_of_ble_eq_true rfl) rfl (Nat.le_of_ble_eq_true rfl) ?_
    refine ab_iconst C dX9_put_26 (v := 1) rfl ?_
    obtain rfl := Option.some.inj h
    exact ab_iret C dX9_put_27
  · replace h := ab_neg hc2 h
    refine ab_iload C dX9_put_13 rfl ?_
    obtain rfl := Option.some.inj h
    exact ab_iret C dX9_put_15
end
def fX9_redo (σ : ab_S) : Option (Int32 × ab_S) := (fX2_makeAgain σ).bind fun q1 => some (q1.1, q1.2)
section
variable {p : Program} {l : Launch} {e : Env} {s : State} {m : MethodId} {args : Array Value} {below : List Frame} {meth : Method} {c : Code} {D : va_G} {cA : Nat → ClassId} {ad : Nat → Nat → Nat}
set_option maxRecDepth 100000 in
set_option maxHeartbeats 4000000 in
theorem tX9_redo (l : Launch) (σ : ab_S) {R : (Int32 × ab_S)} (h : fX9_redo σ = some R) : ab_M l yC yX9_redo cX9_redo 1 (some .int) 4 [.inr (.inr (0, 0))] σ (some (.inl R.1)) R.2 := by
  refine ab_M_intro ndC (by decide) (Nat.le_of_ble_eq_true rfl) ?_
  intro p e s m args below meth c D cA ad C
  have C : ab_C yC p s m args meth c D cA ad cX9_redo 1 RX9 (some .int) := C
  refine ab_weak (lv' := [some (.inr (.inr (0, 0)))]) ⟨.inr rfl, trivial⟩ ?_
  refine ab_aload_n C dX9_redo_0 rfl ?_
  refine ab_getR C dX9_redo_1 flX9_33 rkC_0 rfl mmC_0 ?_
  refine ab_aload_n C dX9_redo_4 rfl ?_
  refine ab_getR C dX9_redo_5 flX9_10 rkC_0 rfl mmC_0 ?_
  obtain ⟨q1, hq1, h⟩ := ab_bind h
  refine ab_inv1 C dX9_redo_8 mlX9_312 yvX2_makeAgain rkC_13 ⟨_, _, rfl⟩ mmC_13 (tX2_makeAgain l _ hq1) (Nat.le_of_ble_eq_true rfl) (Nat.le_of_ble_eq_true rfl) rfl (Nat.le_of_ble_eq_true rfl) ?_
  obtain rfl := Option.some.inj h
  exact ab_iret C dX9_redo_11
end
def fX9_row_b24 (σ : ab_S) : Option (Int32 × ab_S) := some ((-1), σ)
def fX9_row (x1 : Int32) (x2 : Int32) (x3 : Int32) (σ : ab_S) : Option (Int32 × ab_S) := (fX6_has x1).bind fun q1 => (if q1 = 0 then fX9_row_b24 σ else (fX6_isSort x2).bind fun q3 => (if q3 = 0 then fX9_row_b24 σ else (if x3 ≤ 60 then (if 0 ≤ x3 then (fX6_holdRow x1 x2 x3 σ).bind fun q7 => some (1, q7) else some ((-14), σ)) else fX9_row_b24 σ)))
section
variable {p : Program} {l : Launch} {e : Env} {s : State} {m : MethodId} {args : Array Value} {below : List Frame} {meth : Method} {c : Code} {D : va_G} {cA : Nat → ClassId} {ad : Nat → Nat → Nat}
set_option maxRecDepth 100000 in
set_option maxHeartbeats 4000000 in
theorem gX9_row_b24 {R : (Int32 × ab_S)} (C : ab_C yC p s m args meth c D cA ad cX9_row 4 RX9 (some .int)) (σ : ab_S) (h : fX9_row_b24 σ = some R) : ab_G yC p l e s m args below meth c D cA ad 4 2 (some (.inl R.1)) R.2 24 [none, none, none, none] [] σ := by
  refine ab_iconst C dX9_row_24 (v := (-1)) rfl ?_
  obtain rfl := Option.some.inj h
  exact ab_iret C dX9_row_25
set_option maxRecDepth 100000 in
set_option maxHeartbeats 4000000 in
theorem tX9_row (l : Launch) (x1 : Int32) (x2 : Int32) (x3 : Int32) (σ : ab_S) {R : (Int32 × ab_S)} (h : fX9_row x1 x2 x3 σ = some R) : ab_M l yC yX9_row cX9_row 4 (some .int) 2 [.inr (.inr (0, 0)), .inl x1, .inl x2, .inl x3] σ (some (.inl R.1)) R.2 := by
  refine ab_M_intro ndC (by decide) (Nat.le_of_ble_eq_true rfl) ?_
  intro p e s m args below meth c D cA ad C
  have C : ab_C yC p s m args meth c D cA ad cX9_row 4 RX9 (some .int) := C
  refine ab_weak (lv' := [some (.inr (.inr (0, 0))), some (.inl x1), some (.inl x2), some (.inl x3)]) ⟨.inr rfl, ⟨.inr rfl, ⟨.inr rfl, ⟨.inr rfl, trivial⟩⟩⟩⟩ ?_
  refine ab_aload_n C dX9_row_0 rfl ?_
  refine ab_getR C dX9_row_1 flX9_72 rkC_0 rfl mmC_0 ?_
  refine ab_iload_n C dX9_row_4 rfl ?_
  obtain ⟨q1, hq1, h⟩ := ab_bind h
  refine ab_inv1 C dX9_row_5 mlX9_93 yvX6_has rkC_39 ⟨_, _, rfl⟩ mmC_39 (tX6_has l _ _ hq1) (Nat.le_of_ble_eq_true rfl) (Nat.le_of_ble_eq_true rfl) rfl (Nat.le_of_ble_eq_true rfl) ?_
  refine ab_if_eq C (tgt := 24) dX9_row_8 (by decide) (fun hc2 => ?_) (fun hc2 => ?_)
  · replace h := ab_pos hc2 h
    refine ab_weak (lv' := [none, none, none, none]) ⟨.inl rfl, ⟨.inl rfl, ⟨.inl rfl, ⟨.inl rfl, trivial⟩⟩⟩⟩ ?_
    exact gX9_row_b24 C _ h
  · replace h := ab_neg hc2 h
    refine ab_iload_n C dX9_row_11 rfl ?_
    obtain ⟨q3, hq3, h⟩ := ab_bind h
    refine ab_invS1 C dX9_row_12 mlX9_334 ysX6_isSort (tX6_isSort l _ _ hq3) (Nat.le_of_ble_eq_true rfl) (Nat.le_of_ble_eq_true rfl) rfl (Nat.le_of_ble_eq_true rfl) ?_
    refine ab_if_eq C (tgt := 24) dX9_row_15 (by decide) (fun hc4 => ?_) (fun hc4 => ?_)
    · replace h := ab_pos hc4 h
      refine ab_weak (lv' := [none, none, none, none]) ⟨.inl rfl, ⟨.inl rfl, ⟨.inl rfl, ⟨.inl rfl, trivial⟩⟩⟩⟩ ?_
      exact gX9_row_b24 C _ h
    · replace h := ab_neg hc4 h
      refine ab_iload_n C dX9_row_18 rfl ?_
      refine ab_bipush C dX9_row_19 (v := 60) rfl ?_
      refine ab_icmp_le C (tgt := 26) dX9_row_21 (by decide) (fun hc5 => ?_) (fun hc5 => ?_)
      · replace h := ab_pos hc5 h
        refine ab_iload_n C dX9_row_26 rfl ?_
        refine ab_if_ge C (tgt := 33) dX9_row_27 (by decide) (fun hc6 => ?_) (fun hc6 => ?_)
        · replace h := ab_pos hc6 h
          refine ab_aload_n C dX9_row_33 rfl ?_
          refine ab_getR C dX9_row_34 flX9_72 rkC_0 rfl mmC_0 ?_
          refine ab_iload_n C dX9_row_37 rfl ?_
          refine ab_iload_n C dX9_row_38 rfl ?_
          refine ab_iload_n C dX9_row_39 rfl ?_
          obtain ⟨q7, hq7, h⟩ := ab_bind h
          refine ab_inv0 C dX9_row_40 mlX9_337 yvX6_holdRow rkC_39 ⟨_, _, rfl⟩ mmC_39 (tX6_holdRow l _ _ _ _ hq7) (Nat.le_of_ble_eq_true rfl) (Nat.le_of_ble_eq_true rfl) rfl (Nat.le_of_ble_eq_true rfl) ?_
          refine ab_iconst C dX9_row_43 (v := 1) rfl ?_
          obtain rfl := Option.some.inj h
          exact ab_iret C dX9_row_44
        · replace h := ab_neg hc6 h
          refine ab_bipush C dX9_row_30 (v := (-14)) rfl ?_
          obtain rfl := Option.some.inj h
          exact ab_iret C dX9_row_32
      · replace h := ab_neg hc5 h
        refine ab_weak (lv' := [none, none, none, none]) ⟨.inl rfl, ⟨.inl rfl, ⟨.inl rfl, ⟨.inl rfl, trivial⟩⟩⟩⟩ ?_
        exact gX9_row_b24 C _ h
end
def fX9_shareOfBook_b43 (v4 : Int64) (σ : ab_S) : Option (Int64 × ab_S) := some (v4, σ)
def fX9_shareOfBook_b12_o (kk12 : Int32 → Int32 → Int32 → Int64 → Int32 → ab_S → Option (Int64 × ab_S)) (v1 : Int32) (v2 : Int32) (v3 : Int32) (v4 : Int64) (v6 : Int32) (σ : ab_S) : Option (Int64 × ab_S) := (if v3 ≤ v6 then fX9_shareOfBook_b43 v4 σ else (if 4 ≤ v6 then fX9_shareOfBook_b43 v4 σ else (fX9_shareOfThree v1 v6 v2 σ).bind fun q3 => kk12 v1 v2 v3 (v4 * q3.1) (v6 + 1) q3.2))
def fX9_shareOfBook_b12 : Nat → Int32 → Int32 → Int32 → Int64 → Int32 → ab_S → Option (Int64 × ab_S)
  | 0 => fun _ _ _ _ _ _ => none
  | n + 1 => fX9_shareOfBook_b12_o  (fX9_shareOfBook_b12 n)
def fX9_shareOfBook (x1 : Int32) (x2 : Int32) (σ : ab_S) : Option (Int64 × ab_S) := (fX9_threesOn x1 σ).bind fun q1 => fX9_shareOfBook_b12 ab_N x1 x2 q1 1 0 σ
section
variable {p : Program} {l : Launch} {e : Env} {s : State} {m : MethodId} {args : Array Value} {below : List Frame} {meth : Method} {c : Code} {D : va_G} {cA : Nat → ClassId} {ad : Nat → Nat → Nat}
set_option maxRecDepth 100000 in
set_option maxHeartbeats 4000000 in
theorem gX9_shareOfBook_b43 {R : (Int64 × ab_S)} (C : ab_C yC p s m args meth c D cA ad cX9_shareOfBook 7 RX9 (some .long)) (v4 : Int64) (σ : ab_S) (h : fX9_shareOfBook_b43 v4 σ = some R) : ab_G yC p l e s m args below meth c D cA ad 7 6 (some (.inr (.inl R.1))) R.2 43 [none, none, none, none, some (.inr (.inl v4)), none, none] [] σ := by
  refine ab_lload C dX9_shareOfBook_43 rfl ?_
  obtain rfl := Option.some.inj h
  exact ab_lret C dX9_shareOfBook_45
set_option maxRecDepth 100000 in
set_option maxHeartbeats 4000000 in
theorem gX9_shareOfBook_b12_o {R : (Int64 × ab_S)} (C : ab_C yC p s m args meth c D cA ad cX9_shareOfBook 7 RX9 (some .long)) {kk12 : Int32 → Int32 → Int32 → Int64 → Int32 → ab_S → Option (Int64 × ab_S)} (hk12 : ∀ (v1 : Int32) (v2 : Int32) (v3 : Int32) (v4 : Int64) (v6 : Int32) (σ : ab_S), kk12 v1 v2 v3 v4 v6 σ = some R → ab_G yC p l e s m args below meth c D cA ad 7 6 (some (.inr (.inl R.1))) R.2 12 [some (.inr (.inr (0, 0))), some (.inl v1), some (.inl v2), some (.inl v3), some (.inr (.inl v4)), none, some (.inl v6)] [] σ) (v1 : Int32) (v2 : Int32) (v3 : Int32) (v4 : Int64) (v6 : Int32) (σ : ab_S) (h : fX9_shareOfBook_b12_o kk12 v1 v2 v3 v4 v6 σ = some R) : ab_G yC p l e s m args below meth c D cA ad 7 6 (some (.inr (.inl R.1))) R.2 12 [some (.inr (.inr (0, 0))), some (.inl v1), some (.inl v2), some (.inl v3), some (.inr (.inl v4)), none, some (.inl v6)] [] σ := by
  refine ab_iload C dX9_shareOfBook_12 rfl ?_
  refine ab_iload_n C dX9_shareOfBook_14 rfl ?_
  refine ab_icmp_ge C (tgt := 43) dX9_shareOfBook_15 (by decide) (fun hc1 => ?_) (fun hc1 => ?_)
  · replace h := ab_pos hc1 h
    refine ab_weak (lv' := [none, none, none, none, some (.inr (.inl v4)), none, none]) ⟨.inl rfl, ⟨.inl rfl, ⟨.inl rfl, ⟨.inl rfl, ⟨.inr rfl, ⟨.inl rfl, ⟨.inl rfl, trivial⟩⟩⟩⟩⟩⟩⟩ ?_
    exact gX9_shareOfBook_b43 C _ _ h
  · replace h := ab_neg hc1 h
    refine ab_iload C dX9_shareOfBook_18 rfl ?_
    refine ab_iconst C dX9_shareOfBook_20 (v := 4) rfl ?_
    refine ab_icmp_ge C (tgt := 43) dX9_shareOfBook_21 (by decide) (fun hc2 => ?_) (fun hc2 => ?_)
    · replace h := ab_pos hc2 h
      refine ab_weak (lv' := [none, none, none, none, some (.inr (.inl v4)), none, none]) ⟨.inl rfl, ⟨.inl rfl, ⟨.inl rfl, ⟨.inl rfl, ⟨.inr rfl, ⟨.inl rfl, ⟨.inl rfl, trivial⟩⟩⟩⟩⟩⟩⟩ ?_
      exact gX9_shareOfBook_b43 C _ _ h
    · replace h := ab_neg hc2 h
      refine ab_lload C dX9_shareOfBook_24 rfl ?_
      refine ab_aload_n C dX9_shareOfBook_26 rfl ?_
      refine ab_iload_n C dX9_shareOfBook_27 rfl ?_
      refine ab_iload C dX9_shareOfBook_28 rfl ?_
      refine ab_iload_n C dX9_shareOfBook_30 rfl ?_
      obtain ⟨q3, hq3, h⟩ := ab_bind h
      refine ab_inv1 C dX9_shareOfBook_31 mlX9_268 yvX9_shareOfThree rkC_0 ⟨_, _, rfl⟩ mmC_0 (tX9_shareOfThree l _ _ _ _ hq3) (Nat.le_of_ble_eq_true rfl) (Nat.le_of_ble_eq_true rfl) rfl (Nat.le_of_ble_eq_true rfl) ?_
      refine ab_lmul C dX9_shareOfBook_34  ?_
      refine ab_lstore C dX9_shareOfBook_35 (Nat.le_of_ble_eq_true rfl) ?_
      refine ab_iinc C dX9_shareOfBook_37 rfl (v := 1) rfl (Nat.le_of_ble_eq_true rfl) ?_
      refine ab_goto C (tgt := 12) dX9_shareOfBook_40 (by decide) ?_
      refine ab_weak (lv' := [some (.inr (.inr (0, 0))), some (.inl v1), some (.inl v2), some (.inl v3), some (.inr (.inl (v4 * q3.1))), none, some (.inl (v6 + 1))]) ⟨.inr rfl, ⟨.inr rfl, ⟨.inr rfl, ⟨.inr rfl, ⟨.inr rfl, ⟨.inl rfl, ⟨.inr rfl, trivial⟩⟩⟩⟩⟩⟩⟩ ?_
      exact hk12 _ _ _ _ _ _ h
theorem gX9_shareOfBook_b12 {R : (Int64 × ab_S)} (C : ab_C yC p s m args meth c D cA ad cX9_shareOfBook 7 RX9 (some .long)) : ∀ (j : Nat) (v1 : Int32) (v2 : Int32) (v3 : Int32) (v4 : Int64) (v6 : Int32) (σ : ab_S), fX9_shareOfBook_b12 j v1 v2 v3 v4 v6 σ = some R → ab_G yC p l e s m args below meth c D cA ad 7 6 (some (.inr (.inl R.1))) R.2 12 [some (.inr (.inr (0, 0))), some (.inl v1), some (.inl v2), some (.inl v3), some (.inr (.inl v4)), none, some (.inl v6)] [] σ := by
  intro j
  induction j with
  | zero => intro v1 v2 v3 v4 v6 σ  h; cases h
  | succ j ih => intro v1 v2 v3 v4 v6 σ  h; exact gX9_shareOfBook_b12_o C ih _ _ _ _ _ _ h
set_option maxRecDepth 100000 in
set_option maxHeartbeats 4000000 in
theorem tX9_shareOfBook (l : Launch) (x1 : Int32) (x2 : Int32) (σ : ab_S) {R : (Int64 × ab_S)} (h : fX9_shareOfBook x1 x2 σ = some R) : ab_M l yC yX9_shareOfBook cX9_shareOfBook 7 (some .long) 6 [.inr (.inr (0, 0)), .inl x1, .inl x2] σ (some (.inr (.inl R.1))) R.2 := by
  refine ab_M_intro ndC (by decide) (Nat.le_of_ble_eq_true rfl) ?_
  intro p e s m args below meth c D cA ad C
  have C : ab_C yC p s m args meth c D cA ad cX9_shareOfBook 7 RX9 (some .long) := C
  refine ab_weak (lv' := [some (.inr (.inr (0, 0))), some (.inl x1), some (.inl x2), none, none, none, none]) ⟨.inr rfl, ⟨.inr rfl, ⟨.inr rfl, ⟨.inl rfl, ⟨.inl rfl, ⟨.inl rfl, ⟨.inl rfl, trivial⟩⟩⟩⟩⟩⟩⟩ ?_
  refine ab_aload_n C dX9_shareOfBook_0 rfl ?_
  refine ab_iload_n C dX9_shareOfBook_1 rfl ?_
  obtain ⟨q1, hq1, h⟩ := ab_bind h
  refine ab_inv1 C dX9_shareOfBook_2 mlX9_259 yvX9_threesOn rkC_0 ⟨_, _, rfl⟩ mmC_0 (tX9_threesOn l _ _ hq1) (Nat.le_of_ble_eq_true rfl) (Nat.le_of_ble_eq_true rfl) rfl (Nat.le_of_ble_eq_true rfl) ?_
  refine ab_istore_n C dX9_shareOfBook_5 (Nat.le_of_ble_eq_true rfl) ?_
  refine ab_lconst C dX9_shareOfBook_6 (v := 1) rfl ?_
  refine ab_lstore C dX9_shareOfBook_7 (Nat.le_of_ble_eq_true rfl) ?_
  refine ab_iconst C dX9_shareOfBook_9 (v := 0) rfl ?_
  refine ab_istore C dX9_shareOfBook_10 (Nat.le_of_ble_eq_true rfl) ?_
  refine ab_weak (lv' := [some (.inr (.inr (0, 0))), some (.inl x1), some (.inl x2), some (.inl q1), some (.inr (.inl 1)), none, some (.inl 0)]) ⟨.inr rfl, ⟨.inr rfl, ⟨.inr rfl, ⟨.inr rfl, ⟨.inr rfl, ⟨.inl rfl, ⟨.inr rfl, trivial⟩⟩⟩⟩⟩⟩⟩ ?_
  refine ab_weak (lv' := [some (.inr (.inr (0, 0))), some (.inl x1), some (.inl x2), some (.inl q1), some (.inr (.inl 1)), none, some (.inl 0)]) ⟨.inr rfl, ⟨.inr rfl, ⟨.inr rfl, ⟨.inr rfl, ⟨.inr rfl, ⟨.inl rfl, ⟨.inr rfl, trivial⟩⟩⟩⟩⟩⟩⟩ ?_
  exact gX9_shareOfBook_b12 C ab_N _ _ _ _ _ _ h
end
def fX9_shift_b22 (σ : ab_S) : Option (Int32 × ab_S) := some ((-1), σ)
def fX9_shift_b46 (σ : ab_S) : Option (Int32 × ab_S) := some ((-11), σ)
def fX9_shift_b72 (σ : ab_S) : Option (Int32 × ab_S) := some ((-12), σ)
def fX9_shift_b104 (σ : ab_S) : Option (Int32 × ab_S) := some ((-13), σ)
def fX9_shift (x1 : Int32) (x2 : Int32) (x3 : Int32) (x4 : Int32) (x5 : Int32) (σ : ab_S) : Option (Int32 × ab_S) := (fX6_has x1).bind fun q1 => (if q1 = 0 then fX9_shift_b22 σ else (fX6_has x3).bind fun q3 => (if q3 = 0 then fX9_shift_b22 σ else (fX6_isEmpty x1 σ).bind fun q5 => (if q5 = 0 then (fX6_isEmpty x3 σ).bind fun q7 => (if q7 = 0 then (fX6_isRow x1 σ).bind fun q9 => (if q9 = 0 then fX9_shift_b72 σ else (fX6_areAlike x1 x3 σ).bind fun q11 => (if q11 = 0 then fX9_shift_b72 σ else (fX6_hasPlaces x1 x2 x5 σ).bind fun q13 => (if q13 = 0 then fX9_shift_b104 σ else (fX6_hasPlaces x3 x4 x5 σ).bind fun q15 => (if q15 = 0 then fX9_shift_b104 σ else (fX6_move x1 x2 x3 x4 x5 σ).bind fun q17 => some (x5, q17))))) else fX9_shift_b46 σ) else fX9_shift_b46 σ)))
section
variable {p : Program} {l : Launch} {e : Env} {s : State} {m : MethodId} {args : Array Value} {below : List Frame} {meth : Method} {c : Code} {D : va_G} {cA : Nat → ClassId} {ad : Nat → Nat → Nat}
set_option maxRecDepth 100000 in
set_option maxHeartbeats 4000000 in
theorem gX9_shift_b22 {R : (Int32 × ab_S)} (C : ab_C yC p s m args meth c D cA ad cX9_shift 6 RX9 (some .int)) (σ : ab_S) (h : fX9_shift_b22 σ = some R) : ab_G yC p l e s m args below meth c D cA ad 6 5 (some (.inl R.1)) R.2 22 [none, none, none, none, none, none] [] σ := by
  refine ab_iconst C dX9_shift_22 (v := (-1)) rfl ?_
  obtain rfl := Option.some.inj h
  exact ab_iret C dX9_shift_23
set_option maxRecDepth 100000 in
set_option maxHeartbeats 4000000 in
theorem gX9_shift_b46 {R : (Int32 × ab_S)} (C : ab_C yC p s m args meth c D cA ad cX9_shift 6 RX9 (some .int)) (σ : ab_S) (h : fX9_shift_b46 σ = some R) : ab_G yC p l e s m args below meth c D cA ad 6 5 (some (.inl R.1)) R.2 46 [none, none, none, none, none, none] [] σ := by
  refine ab_bipush C dX9_shift_46 (v := (-11)) rfl ?_
  obtain rfl := Option.some.inj h
  exact ab_iret C dX9_shift_48
set_option maxRecDepth 100000 in
set_option maxHeartbeats 4000000 in
theorem gX9_shift_b72 {R : (Int32 × ab_S)} (C : ab_C yC p s m args meth c D cA ad cX9_shift 6 RX9 (some .int)) (σ : ab_S) (h : fX9_shift_b72 σ = some R) : ab_G yC p l e s m args below meth c D cA ad 6 5 (some (.inl R.1)) R.2 72 [none, none, none, none, none, none] [] σ := by
  refine ab_bipush C dX9_shift_72 (v := (-12)) rfl ?_
  obtain rfl := Option.some.inj h
  exact ab_iret C dX9_shift_74
set_option maxRecDepth 100000 in
set_option maxHeartbeats 4000000 in
theorem gX9_shift_b104 {R : (Int32 × ab_S)} (C : ab_C yC p s m args meth c D cA ad cX9_shift 6 RX9 (some .int)) (σ : ab_S) (h : fX9_shift_b104 σ = some R) : ab_G yC p l e s m args below meth c D cA ad 6 5 (some (.inl R.1)) R.2 104 [none, none, none, none, none, none] [] σ := by
  refine ab_bipush C dX9_shift_104 (v := (-13)) rfl ?_
  obtain rfl := Option.some.inj h
  exact ab_iret C dX9_shift_106
set_option maxRecDepth 100000 in
set_option maxHeartbeats 4000000 in
theorem tX9_shift (l : Launch) (x1 : Int32) (x2 : Int32) (x3 : Int32) (x4 : Int32) (x5 : Int32) (σ : ab_S) {R : (Int32 × ab_S)} (h : fX9_shift x1 x2 x3 x4 x5 σ = some R) : ab_M l yC yX9_shift cX9_shift 6 (some .int) 5 [.inr (.inr (0, 0)), .inl x1, .inl x2, .inl x3, .inl x4, .inl x5] σ (some (.inl R.1)) R.2 := by
  refine ab_M_intro ndC (by decide) (Nat.le_of_ble_eq_true rfl) ?_
  intro p e s m args below meth c D cA ad C
  have C : ab_C yC p s m args meth c D cA ad cX9_shift 6 RX9 (some .int) := C
  refine ab_weak (lv' := [some (.inr (.inr (0, 0))), some (.inl x1), some (.inl x2), some (.inl x3), some (.inl x4), some (.inl x5)]) ⟨.inr rfl, ⟨.inr rfl, ⟨.inr rfl, ⟨.inr rfl, ⟨.inr rfl, ⟨.inr rfl, trivial⟩⟩⟩⟩⟩⟩ ?_
  refine ab_aload_n C dX9_shift_0 rfl ?_
  refine ab_getR C dX9_shift_1 flX9_72 rkC_0 rfl mmC_0 ?_
  refine ab_iload_n C dX9_shift_4 rfl ?_
  obtain ⟨q1, hq1, h⟩ := ab_bind h
  refine ab_inv1 C dX9_shift_5 mlX9_93 yvX6_has rkC_39 ⟨_, _, rfl⟩ mmC_39 (tX6_has l _ _ hq1) (Nat.le_of_ble_eq_true rfl) (Nat.le_of_ble_eq_true rfl) rfl (Nat.le_of_ble_eq_true rfl) ?_
  refine ab_if_eq C (tgt := 22) dX9_shift_8 (by decide) (fun hc2 => ?_) (fun hc2 => ?_)
  · replace h := ab_pos hc2 h
    refine ab_weak (lv' := [none, none, none, none, none, none]) ⟨.inl rfl, ⟨.inl rfl, ⟨.inl rfl, ⟨.inl rfl, ⟨.inl rfl, ⟨.inl rfl, trivial⟩⟩⟩⟩⟩⟩ ?_
    exact gX9_shift_b22 C _ h
  · replace h := ab_neg hc2 h
    refine ab_aload_n C dX9_shift_11 rfl ?_
    refine ab_getR C dX9_shift_12 flX9_72 rkC_0 rfl mmC_0 ?_
    refine ab_iload_n C dX9_shift_15 rfl ?_
    obtain ⟨q3, hq3, h⟩ := ab_bind h
    refine ab_inv1 C dX9_shift_16 mlX9_93 yvX6_has rkC_39 ⟨_, _, rfl⟩ mmC_39 (tX6_has l _ _ hq3) (Nat.le_of_ble_eq_true rfl) (Nat.le_of_ble_eq_true rfl) rfl (Nat.le_of_ble_eq_true rfl) ?_
    refine ab_if_ne C (tgt := 24) dX9_shift_19 (by decide) (fun hc4 => ?_) (fun hc4 => ?_)
    · replace h := ab_neg hc4 h
      refine ab_aload_n C dX9_shift_24 rfl ?_
      refine ab_getR C dX9_shift_25 flX9_72 rkC_0 rfl mmC_0 ?_
      refine ab_iload_n C dX9_shift_28 rfl ?_
      obtain ⟨q5, hq5, h⟩ := ab_bind h
      refine ab_inv1 C dX9_shift_29 mlX9_97 yvX6_isEmpty rkC_39 ⟨_, _, rfl⟩ mmC_39 (tX6_isEmpty l _ _ hq5) (Nat.le_of_ble_eq_true rfl) (Nat.le_of_ble_eq_true rfl) rfl (Nat.le_of_ble_eq_true rfl) ?_
      refine ab_if_ne C (tgt := 46) dX9_shift_32 (by decide) (fun hc6 => ?_) (fun hc6 => ?_)
      · replace h := ab_neg hc6 h
        refine ab_weak (lv' := [none, none, none, none, none, none]) ⟨.inl rfl, ⟨.inl rfl, ⟨.inl rfl, ⟨.inl rfl, ⟨.inl rfl, ⟨.inl rfl, trivial⟩⟩⟩⟩⟩⟩ ?_
        exact gX9_shift_b46 C _ h
      · replace h := ab_pos hc6 h
        refine ab_aload_n C dX9_shift_35 rfl ?_
        refine ab_getR C dX9_shift_36 flX9_72 rkC_0 rfl mmC_0 ?_
        refine ab_iload_n C dX9_shift_39 rfl ?_
        obtain ⟨q7, hq7, h⟩ := ab_bind h
        refine ab_inv1 C dX9_shift_40 mlX9_97 yvX6_isEmpty rkC_39 ⟨_, _, rfl⟩ mmC_39 (tX6_isEmpty l _ _ hq7) (Nat.le_of_ble_eq_true rfl) (Nat.le_of_ble_eq_true rfl) rfl (Nat.le_of_ble_eq_true rfl) ?_
        refine ab_if_eq C (tgt := 49) dX9_shift_43 (by decide) (fun hc8 => ?_) (fun hc8 => ?_)
        · replace h := ab_pos hc8 h
          refine ab_aload_n C dX9_shift_49 rfl ?_
          refine ab_getR C dX9_shift_50 flX9_72 rkC_0 rfl mmC_0 ?_
          refine ab_iload_n C dX9_shift_53 rfl ?_
          obtain ⟨q9, hq9, h⟩ := ab_bind h
          refine ab_inv1 C dX9_shift_54 mlX9_347 yvX6_isRow rkC_39 ⟨_, _, rfl⟩ mmC_39 (tX6_isRow l _ _ hq9) (Nat.le_of_ble_eq_true rfl) (Nat.le_of_ble_eq_true rfl) rfl (Nat.le_of_ble_eq_true rfl) ?_
          refine ab_if_eq C (tgt := 72) dX9_shift_57 (by decide) (fun hc10 => ?_) (fun hc10 => ?_)
          · replace h := ab_pos hc10 h
            refine ab_weak (lv' := [none, none, none, none, none, none]) ⟨.inl rfl, ⟨.inl rfl, ⟨.inl rfl, ⟨.inl rfl, ⟨.inl rfl, ⟨.inl rfl, trivial⟩⟩⟩⟩⟩⟩ ?_
            exact gX9_shift_b72 C _ h
          · replace h := ab_neg hc10 h
            refine ab_aload_n C dX9_shift_60 rfl ?_
            refine ab_getR C dX9_shift_61 flX9_72 rkC_0 rfl mmC_0 ?_
            refine ab_iload_n C dX9_shift_64 rfl ?_
            refine ab_iload_n C dX9_shift_65 rfl ?_
            obtain ⟨q11, hq11, h⟩ := ab_bind h
            refine ab_inv1 C dX9_shift_66 mlX9_350 yvX6_areAlike rkC_39 ⟨_, _, rfl⟩ mmC_39 (tX6_areAlike l _ _ _ hq11) (Nat.le_of_ble_eq_true rfl) (Nat.le_of_ble_eq_true rfl) rfl (Nat.le_of_ble_eq_true rfl) ?_
            refine ab_if_ne C (tgt := 75) dX9_shift_69 (by decide) (fun hc12 => ?_) (fun hc12 => ?_)
            · replace h := ab_neg hc12 h
              refine ab_aload_n C dX9_shift_75 rfl ?_
              refine ab_getR C dX9_shift_76 flX9_72 rkC_0 rfl mmC_0 ?_
              refine ab_iload_n C dX9_shift_79 rfl ?_
              refine ab_iload_n C dX9_shift_80 rfl ?_
              refine ab_iload C dX9_shift_81 rfl ?_
              obtain ⟨q13, hq13, h⟩ := ab_bind h
              refine ab_inv1 C dX9_shift_83 mlX9_104 yvX6_hasPlaces rkC_39 ⟨_, _, rfl⟩ mmC_39 (tX6_hasPlaces l _ _ _ _ hq13) (Nat.le_of_ble_eq_true rfl) (Nat.le_of_ble_eq_true rfl) rfl (Nat.le_of_ble_eq_true rfl) ?_
              refine ab_if_eq C (tgt := 104) dX9_shift_86 (by decide) (fun hc14 => ?_) (fun hc14 => ?_)
              · replace h := ab_pos hc14 h
                refine ab_weak (lv' := [none, none, none, none, none, none]) ⟨.inl rfl, ⟨.inl rfl, ⟨.inl rfl, ⟨.inl rfl, ⟨.inl rfl, ⟨.inl rfl, trivial⟩⟩⟩⟩⟩⟩ ?_
                exact gX9_shift_b104 C _ h
              · replace h := ab_neg hc14 h
                refine ab_aload_n C dX9_shift_89 rfl ?_
                refine ab_getR C dX9_shift_90 flX9_72 rkC_0 rfl mmC_0 ?_
                refine ab_iload_n C dX9_shift_93 rfl ?_
                refine ab_iload C dX9_shift_94 rfl ?_
                refine ab_iload C dX9_shift_96 rfl ?_
                obtain ⟨q15, hq15, h⟩ := ab_bind h
                refine ab_inv1 C dX9_shift_98 mlX9_104 yvX6_hasPlaces rkC_39 ⟨_, _, rfl⟩ mmC_39 (tX6_hasPlaces l _ _ _ _ hq15) (Nat.le_of_ble_eq_true rfl) (Nat.le_of_ble_eq_true rfl) rfl (Nat.le_of_ble_eq_true rfl) ?_
                refine ab_if_ne C (tgt := 107) dX9_shift_101 (by decide) (fun hc16 => ?_) (fun hc16 => ?_)
                · replace h := ab_neg hc16 h
                  refine ab_aload_n C dX9_shift_107 rfl ?_
                  refine ab_getR C dX9_shift_108 flX9_72 rkC_0 rfl mmC_0 ?_
                  refine ab_iload_n C dX9_shift_111 rfl ?_
                  refine ab_iload_n C dX9_shift_112 rfl ?_
                  refine ab_iload_n C dX9_shift_113 rfl ?_
                  refine ab_iload C dX9_shift_114 rfl ?_
                  refine ab_iload C dX9_shift_116 rfl ?_
                  obtain ⟨q17, hq17, h⟩ := ab_bind h
                  refine ab_inv0 C dX9_shift_118 mlX9_353 yvX6_move rkC_39 ⟨_, _, rfl⟩ mmC_39 (tX6_move l _ _ _ _ _ _ hq17) (Nat.le_of_ble_eq_true rfl) (Nat.le_of_ble_eq_true rfl) rfl (Nat.le_of_ble_eq_true rfl) ?_
                  refine ab_iload C dX9_shift_121 rfl ?_
                  obtain rfl := Option.some.inj h
                  exact ab_iret C dX9_shift_123
                · replace h := ab_pos hc16 h
                  refine ab_weak (lv' := [none, none, none, none, none, none]) ⟨.inl rfl, ⟨.inl rfl, ⟨.inl rfl, ⟨.inl rfl, ⟨.inl rfl, ⟨.inl rfl, trivial⟩⟩⟩⟩⟩⟩ ?_
                  exact gX9_shift_b104 C _ h
            · replace h := ab_pos hc12 h
              refine ab_weak (lv' := [none, none, none, none, none, none]) ⟨.inl rfl, ⟨.inl rfl, ⟨.inl rfl, ⟨.inl rfl, ⟨.inl rfl, ⟨.inl rfl, trivial⟩⟩⟩⟩⟩⟩ ?_
              exact gX9_shift_b72 C _ h
        · replace h := ab_neg hc8 h
          refine ab_weak (lv' := [none, none, none, none, none, none]) ⟨.inl rfl, ⟨.inl rfl, ⟨.inl rfl, ⟨.inl rfl, ⟨.inl rfl, ⟨.inl rfl, trivial⟩⟩⟩⟩⟩⟩ ?_
          exact gX9_shift_b46 C _ h
    · replace h := ab_pos hc4 h
      refine ab_weak (lv' := [none, none, none, none, none, none]) ⟨.inl rfl, ⟨.inl rfl, ⟨.inl rfl, ⟨.inl rfl, ⟨.inl rfl, ⟨.inl rfl, trivial⟩⟩⟩⟩⟩⟩ ?_
      exact gX9_shift_b22 C _ h
end
def fX9_sure_b30 (σ : ab_S) : Option (Int64 × ab_S) := some ((-9223372036854775808), σ)
def fX9_sure_b135 (t0 : Int64) (σ : ab_S) : Option (Int64 × ab_S) := some (t0, σ)
def fX9_sure_b111 (kk78 : Int32 → Int32 → Int32 → Int64 → Int64 → Int32 → ab_S → Option (Int64 × ab_S)) (v1 : Int32) (v2 : Int32) (v3 : Int32) (v4 : Int64) (v6 : Int64) (v8 : Int32) (σ : ab_S) : Option (Int64 × ab_S) := kk78 v1 v2 v3 v4 v6 (v8 + 1) σ
def fX9_sure_b78_o (kk78 : Int32 → Int32 → Int32 → Int64 → Int64 → Int32 → ab_S → Option (Int64 × ab_S)) (v1 : Int32) (v2 : Int32) (v3 : Int32) (v4 : Int64) (v6 : Int64) (v8 : Int32) (σ : ab_S) : Option (Int64 × ab_S) := (if 4 ≤ v8 then (if v3 = 2 then (if (lg_cmp v6 v4) ≤ 0 then fX9_sure_b135 0 σ else fX9_sure_b135 1 σ) else (fX7_wholeWorth σ).bind fun q3 => (fX9_lowest (if v6 < v4 then v4 else v6) q3 v3).bind fun q4 => some (q4, σ)) else (fX9_isIn v1 v8).bind fun q6 => (if q6 = 0 then fX9_sure_b111 kk78 v1 v2 v3 v4 v6 v8 σ else (fX1_worthOf v8 1 v2 σ).bind fun q8 => fX9_sure_b111 kk78 v1 v2 v3 v4 (if q8.1 < v6 then q8.1 else v6) v8 q8.2))
def fX9_sure_b78 : Nat → Int32 → Int32 → Int32 → Int64 → Int64 → Int32 → ab_S → Option (Int64 × ab_S)
  | 0 => fun _ _ _ _ _ _ _ => none
  | n + 1 => fX9_sure_b78_o  (fX9_sure_b78 n)
def fX9_sure_b34 (v1 : Int32) (v2 : Int32) (v3 : Int32) (σ : ab_S) : Option (Int64 × ab_S) := (fX7_together σ).bind fun q1 => (if q1 = 0 then some ((-2), σ) else (fX1_worthOf (σ.1 1 0 4) 0 v2 σ).bind fun q3 => (fX7_wholeWorth q3.2).bind fun q4 => fX9_sure_b78 ab_N v1 v2 v3 q3.1 q4 0 q3.2)
def fX9_sure (x1 : Int32) (x2 : Int32) (x3 : Int32) (σ : ab_S) : Option (Int64 × ab_S) := (fX9_areHosts x1).bind fun q1 => (if q1 = 0 then fX9_sure_b30 σ else (fX7_has x2 σ).bind fun q3 => (if q3 = 0 then fX9_sure_b30 σ else (fX9_isPart x3).bind fun q5 => (if q5 = 0 then (if x3 = 2 then fX9_sure_b34 x1 x2 x3 σ else fX9_sure_b30 σ) else fX9_sure_b34 x1 x2 x3 σ)))
section
variable {p : Program} {l : Launch} {e : Env} {s : State} {m : MethodId} {args : Array Value} {below : List Frame} {meth : Method} {c : Code} {D : va_G} {cA : Nat → ClassId} {ad : Nat → Nat → Nat}
set_option maxRecDepth 100000 in
set_option maxHeartbeats 4000000 in
theorem gX9_sure_b30 {R : (Int64 × ab_S)} (C : ab_C yC p s m args meth c D cA ad cX9_sure 9 RX9 (some .long)) (σ : ab_S) (h : fX9_sure_b30 σ = some R) : ab_G yC p l e s m args below meth c D cA ad 9 70 (some (.inr (.inl R.1))) R.2 30 [none, none, none, none, none, none, none, none, none] [] σ := by
  refine ab_ldc2 C dX9_sure_30 cwX9_199 ?_
  obtain rfl := Option.some.inj h
  exact ab_lret C dX9_sure_33
set_option maxRecDepth 100000 in
set_option maxHeartbeats 4000000 in
theorem gX9_sure_b135 {R : (Int64 × ab_S)} (C : ab_C yC p s m args meth c D cA ad cX9_sure 9 RX9 (some .long)) (t0 : Int64) (σ : ab_S) (h : fX9_sure_b135 t0 σ = some R) : ab_G yC p l e s m args below meth c D cA ad 9 70 (some (.inr (.inl R.1))) R.2 135 [none, none, none, none, none, none, none, none, none] [.inr (.inl t0)] σ := by
  obtain rfl := Option.some.inj h
  exact ab_lret C dX9_sure_135
set_option maxRecDepth 100000 in
set_option maxHeartbeats 4000000 in
theorem gX9_sure_b111 {R : (Int64 × ab_S)} (C : ab_C yC p s m args meth c D cA ad cX9_sure 9 RX9 (some .long)) {kk78 : Int32 → Int32 → Int32 → Int64 → Int64 → Int32 → ab_S → Option (Int64 × ab_S)} (hk78 : ∀ (v1 : Int32) (v2 : Int32) (v3 : Int32) (v4 : Int64) (v6 : Int64) (v8 : Int32) (σ : ab_S), kk78 v1 v2 v3 v4 v6 v8 σ = some R → ab_G yC p l e s m args below meth c D cA ad 9 70 (some (.inr (.inl R.1))) R.2 78 [some (.inr (.inr (0, 0))), some (.inl v1), some (.inl v2), some (.inl v3), some (.inr (.inl v4)), none, some (.inr (.inl v6)), none, some (.inl v8)] [] σ) (v1 : Int32) (v2 : Int32) (v3 : Int32) (v4 : Int64) (v6 : Int64) (v8 : Int32) (σ : ab_S) (h : fX9_sure_b111 kk78 v1 v2 v3 v4 v6 v8 σ = some R) : ab_G yC p l e s m args below meth c D cA ad 9 70 (some (.inr (.inl R.1))) R.2 111 [some (.inr (.inr (0, 0))), some (.inl v1), some (.inl v2), some (.inl v3), some (.inr (.inl v4)), none, some (.inr (.inl v6)), none, some (.inl v8)] [] σ := by
  refine ab_iinc C dX9_sure_111 rfl (v := 1) rfl (Nat.le_of_ble_eq_true rfl) ?_
  refine ab_goto C (tgt := 78) dX9_sure_114 (by decide) ?_
  refine ab_weak (lv' := [some (.inr (.inr (0, 0))), some (.inl v1), some (.inl v2), some (.inl v3), some (.inr (.inl v4)), none, some (.inr (.inl v6)), none, some (.inl (v8 + 1))]) ⟨.inr rfl, ⟨.inr rfl, ⟨.inr rfl, ⟨.inr rfl, ⟨.inr rfl, ⟨.inl rfl, ⟨.inr rfl, ⟨.inl rfl, ⟨.inr rfl, trivial⟩⟩⟩⟩⟩⟩⟩⟩⟩ ?_
  exact hk78 _ _ _ _ _ _ _ h
set_option maxRecDepth 100000 in
set_option maxHeartbeats 4000000 in
theorem gX9_sure_b78_o {R : (Int64 × ab_S)} (C : ab_C yC p s m args meth c D cA ad cX9_sure 9 RX9 (some .long)) {kk78 : Int32 → Int32 → Int32 → Int64 → Int64 → Int32 → ab_S → Option (Int64 × ab_S)} (hk78 : ∀ (v1 : Int32) (v2 : Int32) (v3 : Int32) (v4 : Int64) (v6 : Int64) (v8 : Int32) (σ : ab_S), kk78 v1 v2 v3 v4 v6 v8 σ = some R → ab_G yC p l e s m args below meth c D cA ad 9 70 (some (.inr (.inl R.1))) R.2 78 [some (.inr (.inr (0, 0))), some (.inl v1), some (.inl v2), some (.inl v3), some (.inr (.inl v4)), none, some (.inr (.inl v6)), none, some (.inl v8)] [] σ) (v1 : Int32) (v2 : Int32) (v3 : Int32) (v4 : Int64) (v6 : Int64) (v8 : Int32) (σ : ab_S) (h : fX9_sure_b78_o kk78 v1 v2 v3 v4 v6 v8 σ = some R) : ab_G yC p l e s m args below meth c D cA ad 9 70 (some (.inr (.inl R.1))) R.2 78 [some (.inr (.inr (0, 0))), some (.inl v1), some (.inl v2), some (.inl v3), some (.inr (.inl v4)), none, some (.inr (.inl v6)), none, some (.inl v8)] [] σ := by
  refine ab_iload C dX9_sure_78 rfl ?_
  refine ab_iconst C dX9_sure_80 (v := 4) rfl ?_
  refine ab_icmp_ge C (tgt := 117) dX9_sure_81 (by decide) (fun hc1 => ?_) (fun hc1 => ?_)
  · replace h := ab_pos hc1 h
    refine ab_iload_n C dX9_sure_117 rfl ?_
    refine ab_iconst C dX9_sure_118 (v := 2) rfl ?_
    refine ab_icmp_ne C (tgt := 136) dX9_sure_119 (by decide) (fun hc2 => ?_) (fun hc2 => ?_)
    · replace h := ab_neg hc2 h
      refine ab_lload C dX9_sure_136 rfl ?_
      refine ab_lload C dX9_sure_138 rfl ?_
      refine ab_lmax C dX9_sure_140 mlX9_256 sw_lmax kw_lmax (Nat.le_of_ble_eq_true rfl) (Nat.le_of_ble_eq_true rfl) ?_
      refine ab_aload_n C dX9_sure_143 rfl ?_
      refine ab_getR C dX9_sure_144 flX9_10 rkC_0 rfl mmC_0 ?_
      obtain ⟨q3, hq3, h⟩ := ab_bind h
      refine ab_inv1 C dX9_sure_147 mlX9_234 yvX7_wholeWorth rkC_1 ⟨_, _, rfl⟩ mmC_1 (tX7_wholeWorth l _ hq3) (Nat.le_of_ble_eq_true rfl) (Nat.le_of_ble_eq_true rfl) rfl (Nat.le_of_ble_eq_true rfl) ?_
      refine ab_iload_n C dX9_sure_150 rfl ?_
      obtain ⟨q4, hq4, h⟩ := ab_bind h
      refine ab_invS1 C dX9_sure_151 mlX9_211 ysX9_lowest (tX9_lowest l _ _ _ _ hq4) (Nat.le_of_ble_eq_true rfl) (Nat.le_of_ble_eq_true rfl) rfl (Nat.le_of_ble_eq_true rfl) ?_
      obtain rfl := Option.some.inj h
      exact ab_lret C dX9_sure_154
    · replace h := ab_pos hc2 h
      refine ab_lload C dX9_sure_122 rfl ?_
      refine ab_lload C dX9_sure_124 rfl ?_
      refine ab_lcmp C dX9_sure_126  ?_
      refine ab_if_le C (tgt := 134) dX9_sure_127 (by decide) (fun hc5 => ?_) (fun hc5 => ?_)
      · replace h := ab_pos hc5 h
        refine ab_lconst C dX9_sure_134 (v := 0) rfl ?_
        refine ab_weak (lv' := [none, none, none, none, none, none, none, none, none]) ⟨.inl rfl, ⟨.inl rfl, ⟨.inl rfl, ⟨.inl rfl, ⟨.inl rfl, ⟨.inl rfl, ⟨.inl rfl, ⟨.inl rfl, ⟨.inl rfl, trivial⟩⟩⟩⟩⟩⟩⟩⟩⟩ ?_
        exact gX9_sure_b135 C _ _ h
      · replace h := ab_neg hc5 h
        refine ab_lconst C dX9_sure_130 (v := 1) rfl ?_
        refine ab_goto C (tgt := 135) dX9_sure_131 (by decide) ?_
        refine ab_weak (lv' := [none, none, none, none, none, none, none, none, none]) ⟨.inl rfl, ⟨.inl rfl, ⟨.inl rfl, ⟨.inl rfl, ⟨.inl rfl, ⟨.inl rfl, ⟨.inl rfl, ⟨.inl rfl, ⟨.inl rfl, trivial⟩⟩⟩⟩⟩⟩⟩⟩⟩ ?_
        exact gX9_sure_b135 C _ _ h
  · replace h := ab_neg hc1 h
    refine ab_iload_n C dX9_sure_84 rfl ?_
    refine ab_iload C dX9_sure_85 rfl ?_
    obtain ⟨q6, hq6, h⟩ := ab_bind h
    refine ab_invS1 C dX9_sure_87 mlX9_246 ysX9_isIn (tX9_isIn l _ _ _ hq6) (Nat.le_of_ble_eq_true rfl) (Nat.le_of_ble_eq_true rfl) rfl (Nat.le_of_ble_eq_true rfl) ?_
    refine ab_if_eq C (tgt := 111) dX9_sure_90 (by decide) (fun hc7 => ?_) (fun hc7 => ?_)
    · replace h := ab_pos hc7 h
      refine ab_weak (lv' := [some (.inr (.inr (0, 0))), some (.inl v1), some (.inl v2), some (.inl v3), some (.inr (.inl v4)), none, some (.inr (.inl v6)), none, some (.inl v8)]) ⟨.inr rfl, ⟨.inr rfl, ⟨.inr rfl, ⟨.inr rfl, ⟨.inr rfl, ⟨.inl rfl, ⟨.inr rfl, ⟨.inl rfl, ⟨.inr rfl, trivial⟩⟩⟩⟩⟩⟩⟩⟩⟩ ?_
      exact gX9_sure_b111 C hk78 _ _ _ _ _ _ _ h
    · replace h := ab_neg hc7 h
      refine ab_lload C dX9_sure_93 rfl ?_
      refine ab_aload_n C dX9_sure_95 rfl ?_
      refine ab_getR C dX9_sure_96 flX9_49 rkC_0 rfl mmC_0 ?_
      refine ab_iload C dX9_sure_99 rfl ?_
      refine ab_iconst C dX9_sure_101 (v := 1) rfl ?_
      refine ab_iload_n C dX9_sure_102 rfl ?_
      obtain ⟨q8, hq8, h⟩ := ab_bind h
      refine ab_inv1 C dX9_sure_103 mlX9_230 yvX1_worthOf rkC_21 ⟨_, _, rfl⟩ mmC_21 (tX1_worthOf l _ _ _ _ hq8) (Nat.le_of_ble_eq_true rfl) (Nat.le_of_ble_eq_true rfl) rfl (Nat.le_of_ble_eq_true rfl) ?_
      refine ab_lmin C dX9_sure_106 mlX9_250 sw_lmin kw_lmin (Nat.le_of_ble_eq_true rfl) (Nat.le_of_ble_eq_true rfl) ?_
      refine ab_lstore C dX9_sure_109 (Nat.le_of_ble_eq_true rfl) ?_
      refine ab_weak (lv' := [some (.inr (.inr (0, 0))), some (.inl v1), some (.inl v2), some (.inl v3), some (.inr (.inl v4)), none, some (.inr (.inl (if q8.1 < v6 then q8.1 else v6))), none, some (.inl v8)]) ⟨.inr rfl, ⟨.inr rfl, ⟨.inr rfl, ⟨.inr rfl, ⟨.inr rfl, ⟨.inl rfl, ⟨.inr rfl, ⟨.inl rfl, ⟨.inr rfl, trivial⟩⟩⟩⟩⟩⟩⟩⟩⟩ ?_
      exact gX9_sure_b111 C hk78 _ _ _ _ _ _ _ h
theorem gX9_sure_b78 {R : (Int64 × ab_S)} (C : ab_C yC p s m args meth c D cA ad cX9_sure 9 RX9 (some .long)) : ∀ (j : Nat) (v1 : Int32) (v2 : Int32) (v3 : Int32) (v4 : Int64) (v6 : Int64) (v8 : Int32) (σ : ab_S), fX9_sure_b78 j v1 v2 v3 v4 v6 v8 σ = some R → ab_G yC p l e s m args below meth c D cA ad 9 70 (some (.inr (.inl R.1))) R.2 78 [some (.inr (.inr (0, 0))), some (.inl v1), some (.inl v2), some (.inl v3), some (.inr (.inl v4)), none, some (.inr (.inl v6)), none, some (.inl v8)] [] σ := by
  intro j
  induction j with
  | zero => intro v1 v2 v3 v4 v6 v8 σ  h; cases h
  | succ j ih => intro v1 v2 v3 v4 v6 v8 σ  h; exact gX9_sure_b78_o C ih _ _ _ _ _ _ _ h
set_option maxRecDepth 100000 in
set_option maxHeartbeats 4000000 in
theorem gX9_sure_b34 {R : (Int64 × ab_S)} (C : ab_C yC p s m args meth c D cA ad cX9_sure 9 RX9 (some .long)) (v1 : Int32) (v2 : Int32) (v3 : Int32) (σ : ab_S) (h : fX9_sure_b34 v1 v2 v3 σ = some R) : ab_G yC p l e s m args below meth c D cA ad 9 70 (some (.inr (.inl R.1))) R.2 34 [some (.inr (.inr (0, 0))), some (.inl v1), some (.inl v2), some (.inl v3), none, none, none, none, none] [] σ := by
  refine ab_aload_n C dX9_sure_34 rfl ?_
  refine ab_getR C dX9_sure_35 flX9_10 rkC_0 rfl mmC_0 ?_
  obtain ⟨q1, hq1, h⟩ := ab_bind h
  refine ab_inv1 C dX9_sure_38 mlX9_227 yvX7_together rkC_1 ⟨_, _, rfl⟩ mmC_1 (tX7_together l _ hq1) (Nat.le_of_ble_eq_true rfl) (Nat.le_of_ble_eq_true rfl) rfl (Nat.le_of_ble_eq_true rfl) ?_
  refine ab_if_ne C (tgt := 48) dX9_sure_41 (by decide) (fun hc2 => ?_) (fun hc2 => ?_)
  · replace h := ab_neg hc2 h
    refine ab_aload_n C dX9_sure_48 rfl ?_
    refine ab_getR C dX9_sure_49 flX9_49 rkC_0 rfl mmC_0 ?_
    refine ab_aload_n C dX9_sure_52 rfl ?_
    refine ab_getR C dX9_sure_53 flX9_10 rkC_0 rfl mmC_0 ?_
    refine ab_getI C dX9_sure_56 flX9_156 rkC_1 rfl mmC_1 ?_
    refine ab_iconst C dX9_sure_59 (v := 0) rfl ?_
    refine ab_iload_n C dX9_sure_60 rfl ?_
    obtain ⟨q3, hq3, h⟩ := ab_bind h
    refine ab_inv1 C dX9_sure_61 mlX9_230 yvX1_worthOf rkC_21 ⟨_, _, rfl⟩ mmC_21 (tX1_worthOf l _ _ _ _ hq3) (Nat.le_of_ble_eq_true rfl) (Nat.le_of_ble_eq_true rfl) rfl (Nat.le_of_ble_eq_true rfl) ?_
    refine ab_lstore C dX9_sure_64 (Nat.le_of_ble_eq_true rfl) ?_
    refine ab_aload_n C dX9_sure_66 rfl ?_
    refine ab_getR C dX9_sure_67 flX9_10 rkC_0 rfl mmC_0 ?_
    obtain ⟨q4, hq4, h⟩ := ab_bind h
    refine ab_inv1 C dX9_sure_70 mlX9_234 yvX7_wholeWorth rkC_1 ⟨_, _, rfl⟩ mmC_1 (tX7_wholeWorth l _ hq4) (Nat.le_of_ble_eq_true rfl) (Nat.le_of_ble_eq_true rfl) rfl (Nat.le_of_ble_eq_true rfl) ?_
    refine ab_lstore C dX9_sure_73 (Nat.le_of_ble_eq_true rfl) ?_
    refine ab_iconst C dX9_sure_75 (v := 0) rfl ?_
    refine ab_istore C dX9_sure_76 (Nat.le_of_ble_eq_true rfl) ?_
    refine ab_weak (lv' := [some (.inr (.inr (0, 0))), some (.inl v1), some (.inl v2), some (.inl v3), some (.inr (.inl q3.1)), none, some (.inr (.inl q4)), none, some (.inl 0)]) ⟨.inr rfl, ⟨.inr rfl, ⟨.inr rfl, ⟨.inr rfl, ⟨.inr rfl, ⟨.inl rfl, ⟨.inr rfl, ⟨.inl rfl, ⟨.inr rfl, trivial⟩⟩⟩⟩⟩⟩⟩⟩⟩ ?_
    refine ab_weak (lv' := [some (.inr (.inr (0, 0))), some (.inl v1), some (.inl v2), some (.inl v3), some (.inr (.inl q3.1)), none, some (.inr (.inl q4)), none, some (.inl 0)]) ⟨.inr rfl, ⟨.inr rfl, ⟨.inr rfl, ⟨.inr rfl, ⟨.inr rfl, ⟨.inl rfl, ⟨.inr rfl, ⟨.inl rfl, ⟨.inr rfl, trivial⟩⟩⟩⟩⟩⟩⟩⟩⟩ ?_
    exact gX9_sure_b78 C ab_N _ _ _ _ _ _ _ h
  · replace h := ab_pos hc2 h
    refine ab_ldc2 C dX9_sure_44 cwX9_205 ?_
    obtain rfl := Option.some.inj h
    exact ab_lret C dX9_sure_47
set_option maxRecDepth 100000 in
set_option maxHeartbeats 4000000 in
theorem tX9_sure (l : Launch) (x1 : Int32) (x2 : Int32) (x3 : Int32) (σ : ab_S) {R : (Int64 × ab_S)} (h : fX9_sure x1 x2 x3 σ = some R) : ab_M l yC yX9_sure cX9_sure 9 (some .long) 70 [.inr (.inr (0, 0)), .inl x1, .inl x2, .inl x3] σ (some (.inr (.inl R.1))) R.2 := by
  refine ab_M_intro ndC (by decide) (Nat.le_of_ble_eq_true rfl) ?_
  intro p e s m args below meth c D cA ad C
  have C : ab_C yC p s m args meth c D cA ad cX9_sure 9 RX9 (some .long) := C
  refine ab_weak (lv' := [some (.inr (.inr (0, 0))), some (.inl x1), some (.inl x2), some (.inl x3), none, none, none, none, none]) ⟨.inr rfl, ⟨.inr rfl, ⟨.inr rfl, ⟨.inr rfl, ⟨.inl rfl, ⟨.inl rfl, ⟨.inl rfl, ⟨.inl rfl, ⟨.inl rfl, trivial⟩⟩⟩⟩⟩⟩⟩⟩⟩ ?_
  refine ab_iload_n C dX9_sure_0 rfl ?_
  obtain ⟨q1, hq1, h⟩ := ab_bind h
  refine ab_invS1 C dX9_sure_1 mlX9_243 ysX9_areHosts (tX9_areHosts l _ _ hq1) (Nat.le_of_ble_eq_true rfl) (Nat.le_of_ble_eq_true rfl) rfl (Nat.le_of_ble_eq_true rfl) ?_
  refine ab_if_eq C (tgt := 30) dX9_sure_4 (by decide) (fun hc2 => ?_) (fun hc2 => ?_)
  · replace h := ab_pos hc2 h
    refine ab_weak (lv' := [none, none, none, none, none, none, none, none, none]) ⟨.inl rfl, ⟨.inl rfl, ⟨.inl rfl, ⟨.inl rfl, ⟨.inl rfl, ⟨.inl rfl, ⟨.inl rfl, ⟨.inl rfl, ⟨.inl rfl, trivial⟩⟩⟩⟩⟩⟩⟩⟩⟩ ?_
    exact gX9_sure_b30 C _ h
  · replace h := ab_neg hc2 h
    refine ab_aload_n C dX9_sure_7 rfl ?_
    refine ab_getR C dX9_sure_8 flX9_10 rkC_0 rfl mmC_0 ?_
    refine ab_iload_n C dX9_sure_11 rfl ?_
    obtain ⟨q3, hq3, h⟩ := ab_bind h
    refine ab_inv1 C dX9_sure_12 mlX9_103 yvX7_has rkC_1 ⟨_, _, rfl⟩ mmC_1 (tX7_has l _ _ hq3) (Nat.le_of_ble_eq_true rfl) (Nat.le_of_ble_eq_true rfl) rfl (Nat.le_of_ble_eq_true rfl) ?_
    refine ab_if_eq C (tgt := 30) dX9_sure_15 (by decide) (fun hc4 => ?_) (fun hc4 => ?_)
    · replace h := ab_pos hc4 h
      refine ab_weak (lv' := [none, none, none, none, none, none, none, none, none]) ⟨.inl rfl, ⟨.inl rfl, ⟨.inl rfl, ⟨.inl rfl, ⟨.inl rfl, ⟨.inl rfl, ⟨.inl rfl, ⟨.inl rfl, ⟨.inl rfl, trivial⟩⟩⟩⟩⟩⟩⟩⟩⟩ ?_
      exact gX9_sure_b30 C _ h
    · replace h := ab_neg hc4 h
      refine ab_iload_n C dX9_sure_18 rfl ?_
      obtain ⟨q5, hq5, h⟩ := ab_bind h
      refine ab_invS1 C dX9_sure_19 mlX9_196 ysX9_isPart (tX9_isPart l _ _ hq5) (Nat.le_of_ble_eq_true rfl) (Nat.le_of_ble_eq_true rfl) rfl (Nat.le_of_ble_eq_true rfl) ?_
      refine ab_if_ne C (tgt := 34) dX9_sure_22 (by decide) (fun hc6 => ?_) (fun hc6 => ?_)
      · replace h := ab_neg hc6 h
        refine ab_weak (lv' := [some (.inr (.inr (0, 0))), some (.inl x1), some (.inl x2), some (.inl x3), none, none, none, none, none]) ⟨.inr rfl, ⟨.inr rfl, ⟨.inr rfl, ⟨.inr rfl, ⟨.inl rfl, ⟨.inl rfl, ⟨.inl rfl, ⟨.inl rfl, ⟨.inl rfl, trivial⟩⟩⟩⟩⟩⟩⟩⟩⟩ ?_
        exact gX9_sure_b34 C _ _ _ _ h
      · replace h := ab_pos hc6 h
        refine ab_iload_n C dX9_sure_25 rfl ?_
        refine ab_iconst C dX9_sure_26 (v := 2) rfl ?_
        refine ab_icmp_eq C (tgt := 34) dX9_sure_27 (by decide) (fun hc7 => ?_) (fun hc7 => ?_)
        · replace h := ab_pos hc7 h
          refine ab_weak (lv' := [some (.inr (.inr (0, 0))), some (.inl x1), some (.inl x2), some (.inl x3), none, none, none, none, none]) ⟨.inr rfl, ⟨.inr rfl, ⟨.inr rfl, ⟨.inr rfl, ⟨.inl rfl, ⟨.inl rfl, ⟨.inl rfl, ⟨.inl rfl, ⟨.inl rfl, trivial⟩⟩⟩⟩⟩⟩⟩⟩⟩ ?_
          exact gX9_sure_b34 C _ _ _ _ h
        · replace h := ab_neg hc7 h
          refine ab_weak (lv' := [none, none, none, none, none, none, none, none, none]) ⟨.inl rfl, ⟨.inl rfl, ⟨.inl rfl, ⟨.inl rfl, ⟨.inl rfl, ⟨.inl rfl, ⟨.inl rfl, ⟨.inl rfl, ⟨.inl rfl, trivial⟩⟩⟩⟩⟩⟩⟩⟩⟩ ?_
          exact gX9_sure_b30 C _ h
end
def fX9_taken_b18 (σ : ab_S) : Option Int32 := some ((-1))
def fX9_taken_b79 (t0 : Int32) (σ : ab_S) : Option Int32 := some t0
def fX9_taken_b77 (σ : ab_S) : Option Int32 := fX9_taken_b79 ((-12)) σ
def fX9_taken (x1 : Int32) (x2 : Int32) (σ : ab_S) : Option Int32 := (fX6_has x1).bind fun q1 => (if q1 = 0 then fX9_taken_b18 σ else (fX0_isKind x2).bind fun q3 => (if q3 = 0 then fX9_taken_b18 σ else (fX6_isEmpty x1 σ).bind fun q5 => (if q5 = 0 then (fX6_bodyOn x1 σ).bind fun q7 => (fX0_has q7 σ).bind fun q8 => (if q8 = 0 then fX9_taken_b77 σ else (fX0_isUnder q7 x2 σ).bind fun q10 => (if q10 = 0 then fX9_taken_b77 σ else (fX0_kindOf q7 σ).bind fun q12 => fX9_taken_b79 q12 σ)) else some ((-11)))))
section
variable {p : Program} {l : Launch} {e : Env} {s : State} {m : MethodId} {args : Array Value} {below : List Frame} {meth : Method} {c : Code} {D : va_G} {cA : Nat → ClassId} {ad : Nat → Nat → Nat}
set_option maxRecDepth 100000 in
set_option maxHeartbeats 4000000 in
theorem gX9_taken_b18 {R : Int32} (C : ab_C yC p s m args meth c D cA ad cX9_taken 4 RX9 (some .int)) (σ : ab_S) (h : fX9_taken_b18 σ = some R) : ab_G yC p l e s m args below meth c D cA ad 4 3 (some (.inl R)) σ 18 [none, none, none, none] [] σ := by
  refine ab_iconst C dX9_taken_18 (v := (-1)) rfl ?_
  obtain rfl := Option.some.inj h
  exact ab_iret C dX9_taken_19
set_option maxRecDepth 100000 in
set_option maxHeartbeats 4000000 in
theorem gX9_taken_b79 {R : Int32} (C : ab_C yC p s m args meth c D cA ad cX9_taken 4 RX9 (some .int)) (σ : ab_S) (t0 : Int32) (h : fX9_taken_b79 t0 σ = some R) : ab_G yC p l e s m args below meth c D cA ad 4 3 (some (.inl R)) σ 79 [none, none, none, none] [.inl t0] σ := by
  obtain rfl := Option.some.inj h
  exact ab_iret C dX9_taken_79
set_option maxRecDepth 100000 in
set_option maxHeartbeats 4000000 in
theorem gX9_taken_b77 {R : Int32} (C : ab_C yC p s m args meth c D cA ad cX9_taken 4 RX9 (some .int)) (σ : ab_S) (h : fX9_taken_b77 σ = some R) : ab_G yC p l e s m args below meth c D cA ad 4 3 (some (.inl R)) σ 77 [none, none, none, none] [] σ := by
  refine ab_bipush C dX9_taken_77 (v := (-12)) rfl ?_
  refine ab_weak (lv' := [none, none, none, none]) ⟨.inl rfl, ⟨.inl rfl, ⟨.inl rfl, ⟨.inl rfl, trivial⟩⟩⟩⟩ ?_
  exact gX9_taken_b79 C _ _ h
set_option maxRecDepth 100000 in
set_option maxHeartbeats 4000000 in
theorem tX9_taken (l : Launch) (x1 : Int32) (x2 : Int32) (σ : ab_S) {R : Int32} (h : fX9_taken x1 x2 σ = some R) : ab_M l yC yX9_taken cX9_taken 4 (some .int) 3 [.inr (.inr (0, 0)), .inl x1, .inl x2] σ (some (.inl R)) σ := by
  refine ab_M_intro ndC (by decide) (Nat.le_of_ble_eq_true rfl) ?_
  intro p e s m args below meth c D cA ad C
  have C : ab_C yC p s m args meth c D cA ad cX9_taken 4 RX9 (some .int) := C
  refine ab_weak (lv' := [some (.inr (.inr (0, 0))), some (.inl x1), some (.inl x2), none]) ⟨.inr rfl, ⟨.inr rfl, ⟨.inr rfl, ⟨.inl rfl, trivial⟩⟩⟩⟩ ?_
  refine ab_aload_n C dX9_taken_0 rfl ?_
  refine ab_getR C dX9_taken_1 flX9_72 rkC_0 rfl mmC_0 ?_
  refine ab_iload_n C dX9_taken_4 rfl ?_
  obtain ⟨q1, hq1, h⟩ := ab_bind h
  refine ab_inv1 C dX9_taken_5 mlX9_93 yvX6_has rkC_39 ⟨_, _, rfl⟩ mmC_39 (tX6_has l _ _ hq1) (Nat.le_of_ble_eq_true rfl) (Nat.le_of_ble_eq_true rfl) rfl (Nat.le_of_ble_eq_true rfl) ?_
  refine ab_if_eq C (tgt := 18) dX9_taken_8 (by decide) (fun hc2 => ?_) (fun hc2 => ?_)
  · replace h := ab_pos hc2 h
    refine ab_weak (lv' := [none, none, none, none]) ⟨.inl rfl, ⟨.inl rfl, ⟨.inl rfl, ⟨.inl rfl, trivial⟩⟩⟩⟩ ?_
    exact gX9_taken_b18 C _ h
  · replace h := ab_neg hc2 h
    refine ab_iload_n C dX9_taken_11 rfl ?_
    obtain ⟨q3, hq3, h⟩ := ab_bind h
    refine ab_invS1 C dX9_taken_12 mlX9_315 ysX0_isKind (tX0_isKind l _ _ hq3) (Nat.le_of_ble_eq_true rfl) (Nat.le_of_ble_eq_true rfl) rfl (Nat.le_of_ble_eq_true rfl) ?_
    refine ab_if_ne C (tgt := 20) dX9_taken_15 (by decide) (fun hc4 => ?_) (fun hc4 => ?_)
    · replace h := ab_neg hc4 h
      refine ab_aload_n C dX9_taken_20 rfl ?_
      refine ab_getR C dX9_taken_21 flX9_72 rkC_0 rfl mmC_0 ?_
      refine ab_iload_n C dX9_taken_24 rfl ?_
      obtain ⟨q5, hq5, h⟩ := ab_bind h
      refine ab_inv1 C dX9_taken_25 mlX9_97 yvX6_isEmpty rkC_39 ⟨_, _, rfl⟩ mmC_39 (tX6_isEmpty l _ _ hq5) (Nat.le_of_ble_eq_true rfl) (Nat.le_of_ble_eq_true rfl) rfl (Nat.le_of_ble_eq_true rfl) ?_
      refine ab_if_eq C (tgt := 34) dX9_taken_28 (by decide) (fun hc6 => ?_) (fun hc6 => ?_)
      · replace h := ab_pos hc6 h
        refine ab_aload_n C dX9_taken_34 rfl ?_
        refine ab_getR C dX9_taken_35 flX9_72 rkC_0 rfl mmC_0 ?_
        refine ab_iload_n C dX9_taken_38 rfl ?_
        obtain ⟨q7, hq7, h⟩ := ab_bind h
        refine ab_inv1 C dX9_taken_39 mlX9_357 yvX6_bodyOn rkC_39 ⟨_, _, rfl⟩ mmC_39 (tX6_bodyOn l _ _ hq7) (Nat.le_of_ble_eq_true rfl) (Nat.le_of_ble_eq_true rfl) rfl (Nat.le_of_ble_eq_true rfl) ?_
        refine ab_istore_n C dX9_taken_42 (Nat.le_of_ble_eq_true rfl) ?_
        refine ab_aload_n C dX9_taken_43 rfl ?_
        refine ab_getR C dX9_taken_44 flX9_65 rkC_0 rfl mmC_0 ?_
        refine ab_iload_n C dX9_taken_47 rfl ?_
        obtain ⟨q8, hq8, h⟩ := ab_bind h
        refine ab_inv1 C dX9_taken_48 mlX9_327 yvX0_has rkC_36 ⟨_, _, rfl⟩ mmC_36 (tX0_has l _ _ hq8) (Nat.le_of_ble_eq_true rfl) (Nat.le_of_ble_eq_true rfl) rfl (Nat.le_of_ble_eq_true rfl) ?_
        refine ab_if_eq C (tgt := 77) dX9_taken_51 (by decide) (fun hc9 => ?_) (fun hc9 => ?_)
        · replace h := ab_pos hc9 h
          refine ab_weak (lv' := [none, none, none, none]) ⟨.inl rfl, ⟨.inl rfl, ⟨.inl rfl, ⟨.inl rfl, trivial⟩⟩⟩⟩ ?_
          exact gX9_taken_b77 C _ h
        · replace h := ab_neg hc9 h
          refine ab_aload_n C dX9_taken_54 rfl ?_
          refine ab_getR C dX9_taken_55 flX9_65 rkC_0 rfl mmC_0 ?_
          refine ab_iload_n C dX9_taken_58 rfl ?_
          refine ab_iload_n C dX9_taken_59 rfl ?_
          obtain ⟨q10, hq10, h⟩ := ab_bind h
          refine ab_inv1 C dX9_taken_60 mlX9_360 yvX0_isUnder rkC_36 ⟨_, _, rfl⟩ mmC_36 (tX0_isUnder l _ _ _ hq10) (Nat.le_of_ble_eq_true rfl) (Nat.le_of_ble_eq_true rfl) rfl (Nat.le_of_ble_eq_true rfl) ?_
          refine ab_if_eq C (tgt := 77) dX9_taken_63 (by decide) (fun hc11 => ?_) (fun hc11 => ?_)
          · replace h := ab_pos hc11 h
            refine ab_weak (lv' := [none, none, none, none]) ⟨.inl rfl, ⟨.inl rfl, ⟨.inl rfl, ⟨.inl rfl, trivial⟩⟩⟩⟩ ?_
            exact gX9_taken_b77 C _ h
          · replace h := ab_neg hc11 h
            refine ab_aload_n C dX9_taken_66 rfl ?_
            refine ab_getR C dX9_taken_67 flX9_65 rkC_0 rfl mmC_0 ?_
            refine ab_iload_n C dX9_taken_70 rfl ?_
            obtain ⟨q12, hq12, h⟩ := ab_bind h
            refine ab_inv1 C dX9_taken_71 mlX9_363 yvX0_kindOf rkC_36 ⟨_, _, rfl⟩ mmC_36 (tX0_kindOf l _ _ hq12) (Nat.le_of_ble_eq_true rfl) (Nat.le_of_ble_eq_true rfl) rfl (Nat.le_of_ble_eq_true rfl) ?_
            refine ab_goto C (tgt := 79) dX9_taken_74 (by decide) ?_
            refine ab_weak (lv' := [none, none, none, none]) ⟨.inl rfl, ⟨.inl rfl, ⟨.inl rfl, ⟨.inl rfl, trivial⟩⟩⟩⟩ ?_
            exact gX9_taken_b79 C _ _ h
      · replace h := ab_neg hc6 h
        refine ab_bipush C dX9_taken_31 (v := (-11)) rfl ?_
        obtain rfl := Option.some.inj h
        exact ab_iret C dX9_taken_33
    · replace h := ab_pos hc4 h
      refine ab_weak (lv' := [none, none, none, none]) ⟨.inl rfl, ⟨.inl rfl, ⟨.inl rfl, ⟨.inl rfl, trivial⟩⟩⟩⟩ ?_
      exact gX9_taken_b18 C _ h
end
def fX9_theBest_b80 (t0 : Int64) (σ : ab_S) : Option (Int64 × ab_S) := some (t0, σ)
def fX9_theBest_b16 (v1 : Int32) (σ : ab_S) : Option (Int64 × ab_S) := (fX7_together σ).bind fun q1 => (if q1 = 0 then some ((-2), σ) else (fX1_greatestWorth (σ.1 1 0 4) σ).bind fun q3 => (if v1 = 2 then (fX1_firstDoor (q3.2.1 1 0 4) q3.2).bind fun q7 => fX9_theBest_b80 ((q7 : Int32).toInt64) q3.2 else (fX7_wholeWorth q3.2).bind fun q5 => (fX9_lowest q3.1 q5 v1).bind fun q6 => fX9_theBest_b80 q6 q3.2))
def fX9_theBest (x1 : Int32) (σ : ab_S) : Option (Int64 × ab_S) := (fX9_isPart x1).bind fun q1 => (if q1 = 0 then (if x1 = 2 then fX9_theBest_b16 x1 σ else some ((-9223372036854775808), σ)) else fX9_theBest_b16 x1 σ)
section
variable {p : Program} {l : Launch} {e : Env} {s : State} {m : MethodId} {args : Array Value} {below : List Frame} {meth : Method} {c : Code} {D : va_G} {cA : Nat → ClassId} {ad : Nat → Nat → Nat}
set_option maxRecDepth 100000 in
set_option maxHeartbeats 4000000 in
theorem gX9_theBest_b80 {R : (Int64 × ab_S)} (C : ab_C yC p s m args meth c D cA ad cX9_theBest 4 RX9 (some .long)) (t0 : Int64) (σ : ab_S) (h : fX9_theBest_b80 t0 σ = some R) : ab_G yC p l e s m args below meth c D cA ad 4 70 (some (.inr (.inl R.1))) R.2 80 [none, none, none, none] [.inr (.inl t0)] σ := by
  obtain rfl := Option.some.inj h
  exact ab_lret C dX9_theBest_80
set_option maxRecDepth 100000 in
set_option maxHeartbeats 4000000 in
theorem gX9_theBest_b16 {R : (Int64 × ab_S)} (C : ab_C yC p s m args meth c D cA ad cX9_theBest 4 RX9 (some .long)) (v1 : Int32) (σ : ab_S) (h : fX9_theBest_b16 v1 σ = some R) : ab_G yC p l e s m args below meth c D cA ad 4 70 (some (.inr (.inl R.1))) R.2 16 [some (.inr (.inr (0, 0))), some (.inl v1), none, none] [] σ := by
  refine ab_aload_n C dX9_theBest_16 rfl ?_
  refine ab_getR C dX9_theBest_17 flX9_10 rkC_0 rfl mmC_0 ?_
  obtain ⟨q1, hq1, h⟩ := ab_bind h
  refine ab_inv1 C dX9_theBest_20 mlX9_227 yvX7_together rkC_1 ⟨_, _, rfl⟩ mmC_1 (tX7_together l _ hq1) (Nat.le_of_ble_eq_true rfl) (Nat.le_of_ble_eq_true rfl) rfl (Nat.le_of_ble_eq_true rfl) ?_
  refine ab_if_ne C (tgt := 30) dX9_theBest_23 (by decide) (fun hc2 => ?_) (fun hc2 => ?_)
  · replace h := ab_neg hc2 h
    refine ab_aload_n C dX9_theBest_30 rfl ?_
    refine ab_getR C dX9_theBest_31 flX9_49 rkC_0 rfl mmC_0 ?_
    refine ab_aload_n C dX9_theBest_34 rfl ?_
    refine ab_getR C dX9_theBest_35 flX9_10 rkC_0 rfl mmC_0 ?_
    refine ab_getI C dX9_theBest_38 flX9_156 rkC_1 rfl mmC_1 ?_
    obtain ⟨q3, hq3, h⟩ := ab_bind h
    refine ab_inv1 C dX9_theBest_41 mlX9_237 yvX1_greatestWorth rkC_21 ⟨_, _, rfl⟩ mmC_21 (tX1_greatestWorth l _ _ hq3) (Nat.le_of_ble_eq_true rfl) (Nat.le_of_ble_eq_true rfl) rfl (Nat.le_of_ble_eq_true rfl) ?_
    refine ab_lstore_n C dX9_theBest_44 (Nat.le_of_ble_eq_true rfl) ?_
    refine ab_iload_n C dX9_theBest_45 rfl ?_
    refine ab_iconst C dX9_theBest_46 (v := 2) rfl ?_
    refine ab_icmp_ne C (tgt := 68) dX9_theBest_47 (by decide) (fun hc4 => ?_) (fun hc4 => ?_)
    · replace h := ab_neg hc4 h
      refine ab_lload_n C dX9_theBest_68 rfl ?_
      refine ab_aload_n C dX9_theBest_69 rfl ?_
      refine ab_getR C dX9_theBest_70 flX9_10 rkC_0 rfl mmC_0 ?_
      obtain ⟨q5, hq5, h⟩ := ab_bind h
      refine ab_inv1 C dX9_theBest_73 mlX9_234 yvX7_wholeWorth rkC_1 ⟨_, _, rfl⟩ mmC_1 (tX7_wholeWorth l _ hq5) (Nat.le_of_ble_eq_true rfl) (Nat.le_of_ble_eq_true rfl) rfl (Nat.le_of_ble_eq_true rfl) ?_
      refine ab_iload_n C dX9_theBest_76 rfl ?_
      obtain ⟨q6, hq6, h⟩ := ab_bind h
      refine ab_invS1 C dX9_theBest_77 mlX9_211 ysX9_lowest (tX9_lowest l _ _ _ _ hq6) (Nat.le_of_ble_eq_true rfl) (Nat.le_of_ble_eq_true rfl) rfl (Nat.le_of_ble_eq_true rfl) ?_
      refine ab_weak (lv' := [none, none, none, none]) ⟨.inl rfl, ⟨.inl rfl, ⟨.inl rfl, ⟨.inl rfl, trivial⟩⟩⟩⟩ ?_
      exact gX9_theBest_b80 C _ _ h
    · replace h := ab_pos hc4 h
      refine ab_aload_n C dX9_theBest_50 rfl ?_
      refine ab_getR C dX9_theBest_51 flX9_49 rkC_0 rfl mmC_0 ?_
      refine ab_aload_n C dX9_theBest_54 rfl ?_
      refine ab_getR C dX9_theBest_55 flX9_10 rkC_0 rfl mmC_0 ?_
      refine ab_getI C dX9_theBest_58 flX9_156 rkC_1 rfl mmC_1 ?_
      obtain ⟨q7, hq7, h⟩ := ab_bind h
      refine ab_inv1 C dX9_theBest_61 mlX9_240 yvX1_firstDoor rkC_21 ⟨_, _, rfl⟩ mmC_21 (tX1_firstDoor l _ _ hq7) (Nat.le_of_ble_eq_true rfl) (Nat.le_of_ble_eq_true rfl) rfl (Nat.le_of_ble_eq_true rfl) ?_
      refine ab_i2l C dX9_theBest_64  ?_
      refine ab_goto C (tgt := 80) dX9_theBest_65 (by decide) ?_
      refine ab_weak (lv' := [none, none, none, none]) ⟨.inl rfl, ⟨.inl rfl, ⟨.inl rfl, ⟨.inl rfl, trivial⟩⟩⟩⟩ ?_
      exact gX9_theBest_b80 C _ _ h
  · replace h := ab_pos hc2 h
    refine ab_ldc2 C dX9_theBest_26 cwX9_205 ?_
    obtain rfl := Option.some.inj h
    exact ab_lret C dX9_theBest_29
set_option maxRecDepth 100000 in
set_option maxHeartbeats 4000000 in
theorem tX9_theBest (l : Launch) (x1 : Int32) (σ : ab_S) {R : (Int64 × ab_S)} (h : fX9_theBest x1 σ = some R) : ab_M l yC yX9_theBest cX9_theBest 4 (some .long) 70 [.inr (.inr (0, 0)), .inl x1] σ (some (.inr (.inl R.1))) R.2 := by
  refine ab_M_intro ndC (by decide) (Nat.le_of_ble_eq_true rfl) ?_
  intro p e s m args below meth c D cA ad C
  have C : ab_C yC p s m args meth c D cA ad cX9_theBest 4 RX9 (some .long) := C
  refine ab_weak (lv' := [some (.inr (.inr (0, 0))), some (.inl x1), none, none]) ⟨.inr rfl, ⟨.inr rfl, ⟨.inl rfl, ⟨.inl rfl, trivial⟩⟩⟩⟩ ?_
  refine ab_iload_n C dX9_theBest_0 rfl ?_
  obtain ⟨q1, hq1, h⟩ := ab_bind h
  refine ab_invS1 C dX9_theBest_1 mlX9_196 ysX9_isPart (tX9_isPart l _ _ hq1) (Nat.le_of_ble_eq_true rfl) (Nat.le_of_ble_eq_true rfl) rfl (Nat.le_of_ble_eq_true rfl) ?_
  refine ab_if_ne C (tgt := 16) dX9_theBest_4 (by decide) (fun hc2 => ?_) (fun hc2 => ?_)
  · replace h := ab_neg hc2 h
    refine ab_weak (lv' := [some (.inr (.inr (0, 0))), some (.inl x1), none, none]) ⟨.inr rfl, ⟨.inr rfl, ⟨.inl rfl, ⟨.inl rfl, trivial⟩⟩⟩⟩ ?_
    exact gX9_theBest_b16 C _ _ h
  · replace h := ab_pos hc2 h
    refine ab_iload_n C dX9_theBest_7 rfl ?_
    refine ab_iconst C dX9_theBest_8 (v := 2) rfl ?_
    refine ab_icmp_eq C (tgt := 16) dX9_theBest_9 (by decide) (fun hc3 => ?_) (fun hc3 => ?_)
    · replace h := ab_pos hc3 h
      refine ab_weak (lv' := [some (.inr (.inr (0, 0))), some (.inl x1), none, none]) ⟨.inr rfl, ⟨.inr rfl, ⟨.inl rfl, ⟨.inl rfl, trivial⟩⟩⟩⟩ ?_
      exact gX9_theBest_b16 C _ _ h
    · replace h := ab_neg hc3 h
      refine ab_ldc2 C dX9_theBest_12 cwX9_199 ?_
      obtain rfl := Option.some.inj h
      exact ab_lret C dX9_theBest_15
end
def fX9_trace (x1 : Int32) (σ : ab_S) : Option Int32 := (fX0_ranAt x1 σ).bind fun q1 => some q1
section
variable {p : Program} {l : Launch} {e : Env} {s : State} {m : MethodId} {args : Array Value} {below : List Frame} {meth : Method} {c : Code} {D : va_G} {cA : Nat → ClassId} {ad : Nat → Nat → Nat}
set_option maxRecDepth 100000 in
set_option maxHeartbeats 4000000 in
theorem tX9_trace (l : Launch) (x1 : Int32) (σ : ab_S) {R : Int32} (h : fX9_trace x1 σ = some R) : ab_M l yC yX9_trace cX9_trace 2 (some .int) 1 [.inr (.inr (0, 0)), .inl x1] σ (some (.inl R)) σ := by
  refine ab_M_intro ndC (by decide) (Nat.le_of_ble_eq_true rfl) ?_
  intro p e s m args below meth c D cA ad C
  have C : ab_C yC p s m args meth c D cA ad cX9_trace 2 RX9 (some .int) := C
  refine ab_weak (lv' := [some (.inr (.inr (0, 0))), some (.inl x1)]) ⟨.inr rfl, ⟨.inr rfl, trivial⟩⟩ ?_
  refine ab_aload_n C dX9_trace_0 rfl ?_
  refine ab_getR C dX9_trace_1 flX9_65 rkC_0 rfl mmC_0 ?_
  refine ab_iload_n C dX9_trace_4 rfl ?_
  obtain ⟨q1, hq1, h⟩ := ab_bind h
  refine ab_inv1 C dX9_trace_5 mlX9_324 yvX0_ranAt rkC_36 ⟨_, _, rfl⟩ mmC_36 (tX0_ranAt l _ _ hq1) (Nat.le_of_ble_eq_true rfl) (Nat.le_of_ble_eq_true rfl) rfl (Nat.le_of_ble_eq_true rfl) ?_
  obtain rfl := Option.some.inj h
  exact ab_iret C dX9_trace_8
end
def fX9_undo (σ : ab_S) : Option (Int32 × ab_S) := (fX2_takeBack σ).bind fun q1 => some (q1.1, q1.2)
section
variable {p : Program} {l : Launch} {e : Env} {s : State} {m : MethodId} {args : Array Value} {below : List Frame} {meth : Method} {c : Code} {D : va_G} {cA : Nat → ClassId} {ad : Nat → Nat → Nat}
set_option maxRecDepth 100000 in
set_option maxHeartbeats 4000000 in
theorem tX9_undo (l : Launch) (σ : ab_S) {R : (Int32 × ab_S)} (h : fX9_undo σ = some R) : ab_M l yC yX9_undo cX9_undo 1 (some .int) 4 [.inr (.inr (0, 0))] σ (some (.inl R.1)) R.2 := by
  refine ab_M_intro ndC (by decide) (Nat.le_of_ble_eq_true rfl) ?_
  intro p e s m args below meth c D cA ad C
  have C : ab_C yC p s m args meth c D cA ad cX9_undo 1 RX9 (some .int) := C
  refine ab_weak (lv' := [some (.inr (.inr (0, 0)))]) ⟨.inr rfl, trivial⟩ ?_
  refine ab_aload_n C dX9_undo_0 rfl ?_
  refine ab_getR C dX9_undo_1 flX9_33 rkC_0 rfl mmC_0 ?_
  refine ab_aload_n C dX9_undo_4 rfl ?_
  refine ab_getR C dX9_undo_5 flX9_10 rkC_0 rfl mmC_0 ?_
  obtain ⟨q1, hq1, h⟩ := ab_bind h
  refine ab_inv1 C dX9_undo_8 mlX9_308 yvX2_takeBack rkC_13 ⟨_, _, rfl⟩ mmC_13 (tX2_takeBack l _ hq1) (Nat.le_of_ble_eq_true rfl) (Nat.le_of_ble_eq_true rfl) rfl (Nat.le_of_ble_eq_true rfl) ?_
  obtain rfl := Option.some.inj h
  exact ab_iret C dX9_undo_11
end
def fX9_weights_b21 (σ : ab_S) : Option (Int32 × ab_S) := some ((-1), σ)
def fX9_weights_b139 (v4 : Int32) (σ : ab_S) : Option (Int32 × ab_S) := some (v4, σ)
def fX9_weights_b56_o (kk56 : Int32 → Int32 → Int32 → Int32 → Int32 → ab_S → Option (Int32 × ab_S)) (v1 : Int32) (v2 : Int32) (v3 : Int32) (v4 : Int32) (v5 : Int32) (σ : ab_S) : Option (Int32 × ab_S) := (if v3 ≤ v5 then fX9_weights_b139 v4 σ else (fX7_has v5 σ).bind fun q2 => (if q2 = 0 then fX9_weights_b139 v4 σ else (fX6_hasPlaces v1 v2 (v5 + 1) σ).bind fun q4 => (if q4 = 0 then fX9_weights_b139 v4 σ else (fX6_at v1 (v2 + v5) σ).bind fun q6 => (fX9_isWeight ((q6 : Int64).toInt32)).bind fun q7 => (if q7 = 0 then fX9_weights_b139 v4 σ else (fX7_weigh v5 ((q6 : Int64).toInt32) σ).bind fun q9 => kk56 v1 v2 v3 (v4 + 1) (v5 + 1) q9))))
def fX9_weights_b56 : Nat → Int32 → Int32 → Int32 → Int32 → Int32 → ab_S → Option (Int32 × ab_S)
  | 0 => fun _ _ _ _ _ _ => none
  | n + 1 => fX9_weights_b56_o  (fX9_weights_b56 n)
def fX9_weights (x1 : Int32) (x2 : Int32) (x3 : Int32) (σ : ab_S) : Option (Int32 × ab_S) := (fX6_has x1).bind fun q1 => (if q1 = 0 then fX9_weights_b21 σ else (if x3 < 1 then fX9_weights_b21 σ else (if x3 ≤ 5 then (fX6_isEmpty x1 σ).bind fun q5 => (if q5 = 0 then (fX6_isBytes x1 σ).bind fun q7 => (if q7 = 0 then some ((-12), σ) else fX9_weights_b56 ab_N x1 x2 x3 0 0 σ) else some (0, σ)) else fX9_weights_b21 σ)))
section
variable {p : Program} {l : Launch} {e : Env} {s : State} {m : MethodId} {args : Array Value} {below : List Frame} {meth : Method} {c : Code} {D : va_G} {cA : Nat → ClassId} {ad : Nat → Nat → Nat}
set_option maxRecDepth 100000 in
set_option maxHeartbeats 4000000 in
theorem gX9_weights_b21 {R : (Int32 × ab_S)} (C : ab_C yC p s m args meth c D cA ad cX9_weights 7 RX9 (some .int)) (σ : ab_S) (h : fX9_weights_b21 σ = some R) : ab_G yC p l e s m args below meth c D cA ad 7 5 (some (.inl R.1)) R.2 21 [none, none, none, none, none, none, none] [] σ := by
  refine ab_iconst C dX9_weights_21 (v := (-1)) rfl ?_
  obtain rfl := Option.some.inj h
  exact ab_iret C dX9_weights_22
set_option maxRecDepth 100000 in
set_option maxHeartbeats 4000000 in
theorem gX9_weights_b139 {R : (Int32 × ab_S)} (C : ab_C yC p s m args meth c D cA ad cX9_weights 7 RX9 (some .int)) (v4 : Int32) (σ : ab_S) (h : fX9_weights_b139 v4 σ = some R) : ab_G yC p l e s m args below meth c D cA ad 7 5 (some (.inl R.1)) R.2 139 [none, none, none, none, some (.inl v4), none, none] [] σ := by
  refine ab_iload C dX9_weights_139 rfl ?_
  obtain rfl := Option.some.inj h
  exact ab_iret C dX9_weights_141
set_option maxRecDepth 100000 in
set_option maxHeartbeats 4000000 in
theorem gX9_weights_b56_o {R : (Int32 × ab_S)} (C : ab_C yC p s m args meth c D cA ad cX9_weights 7 RX9 (some .int)) {kk56 : Int32 → Int32 → Int32 → Int32 → Int32 → ab_S → Option (Int32 × ab_S)} (hk56 : ∀ (v1 : Int32) (v2 : Int32) (v3 : Int32) (v4 : Int32) (v5 : Int32) (σ : ab_S), kk56 v1 v2 v3 v4 v5 σ = some R → ab_G yC p l e s m args below meth c D cA ad 7 5 (some (.inl R.1)) R.2 56 [some (.inr (.inr (0, 0))), some (.inl v1), some (.inl v2), some (.inl v3), some (.inl v4), some (.inl v5), none] [] σ) (v1 : Int32) (v2 : Int32) (v3 : Int32) (v4 : Int32) (v5 : Int32) (σ : ab_S) (h : fX9_weights_b56_o kk56 v1 v2 v3 v4 v5 σ = some R) : ab_G yC p l e s m args below meth c D cA ad 7 5 (some (.inl R.1)) R.2 56 [some (.inr (.inr (0, 0))), some (.inl v1), some (.inl v2), some (.inl v3), some (.inl v4), some (.inl v5), none] [] σ := by
  refine ab_iload C dX9_weights_56 rfl ?_
  refine ab_iload_n C dX9_weights_58 rfl ?_
  refine ab_icmp_ge C (tgt := 139) dX9_weights_59 (by decide) (fun hc1 => ?_) (fun hc1 => ?_)
  · replace h := ab_pos hc1 h
    refine ab_weak (lv' := [none, none, none, none, some (.inl v4), none, none]) ⟨.inl rfl, ⟨.inl rfl, ⟨.inl rfl, ⟨.inl rfl, ⟨.inr rfl, ⟨.inl rfl, ⟨.inl rfl, trivial⟩⟩⟩⟩⟩⟩⟩ ?_
    exact gX9_weights_b139 C _ _ h
  · replace h := ab_neg hc1 h
    refine ab_aload_n C dX9_weights_62 rfl ?_
    refine ab_getR C dX9_weights_63 flX9_10 rkC_0 rfl mmC_0 ?_
    refine ab_iload C dX9_weights_66 rfl ?_
    obtain ⟨q2, hq2, h⟩ := ab_bind h
    refine ab_inv1 C dX9_weights_68 mlX9_103 yvX7_has rkC_1 ⟨_, _, rfl⟩ mmC_1 (tX7_has l _ _ hq2) (Nat.le_of_ble_eq_true rfl) (Nat.le_of_ble_eq_true rfl) rfl (Nat.le_of_ble_eq_true rfl) ?_
    refine ab_if_eq C (tgt := 139) dX9_weights_71 (by decide) (fun hc3 => ?_) (fun hc3 => ?_)
    · replace h := ab_pos hc3 h
      refine ab_weak (lv' := [none, none, none, none, some (.inl v4), none, none]) ⟨.inl rfl, ⟨.inl rfl, ⟨.inl rfl, ⟨.inl rfl, ⟨.inr rfl, ⟨.inl rfl, ⟨.inl rfl, trivial⟩⟩⟩⟩⟩⟩⟩ ?_
      exact gX9_weights_b139 C _ _ h
    · replace h := ab_neg hc3 h
      refine ab_aload_n C dX9_weights_74 rfl ?_
      refine ab_getR C dX9_weights_75 flX9_72 rkC_0 rfl mmC_0 ?_
      refine ab_iload_n C dX9_weights_78 rfl ?_
      refine ab_iload_n C dX9_weights_79 rfl ?_
      refine ab_iload C dX9_weights_80 rfl ?_
      refine ab_iconst C dX9_weights_82 (v := 1) rfl ?_
      refine ab_iadd C dX9_weights_83  ?_
      obtain ⟨q4, hq4, h⟩ := ab_bind h
      refine ab_inv1 C dX9_weights_84 mlX9_104 yvX6_hasPlaces rkC_39 ⟨_, _, rfl⟩ mmC_39 (tX6_hasPlaces l _ _ _ _ hq4) (Nat.le_of_ble_eq_true rfl) (Nat.le_of_ble_eq_true rfl) rfl (Nat.le_of_ble_eq_true rfl) ?_
      refine ab_if_ne C (tgt := 93) dX9_weights_87 (by decide) (fun hc5 => ?_) (fun hc5 => ?_)
      · replace h := ab_neg hc5 h
        refine ab_aload_n C dX9_weights_93 rfl ?_
        refine ab_getR C dX9_weights_94 flX9_72 rkC_0 rfl mmC_0 ?_
        refine ab_iload_n C dX9_weights_97 rfl ?_
        refine ab_iload_n C dX9_weights_98 rfl ?_
        refine ab_iload C dX9_weights_99 rfl ?_
        refine ab_iadd C dX9_weights_101  ?_
        obtain ⟨q6, hq6, h⟩ := ab_bind h
        refine ab_inv1 C dX9_weights_102 mlX9_108 yvX6_at rkC_39 ⟨_, _, rfl⟩ mmC_39 (tX6_at l _ _ _ hq6) (Nat.le_of_ble_eq_true rfl) (Nat.le_of_ble_eq_true rfl) rfl (Nat.le_of_ble_eq_true rfl) ?_
        refine ab_l2i C dX9_weights_105  ?_
        refine ab_istore C dX9_weights_106 (Nat.le_of_ble_eq_true rfl) ?_
        refine ab_iload C dX9_weights_108 rfl ?_
        obtain ⟨q7, hq7, h⟩ := ab_bind h
        refine ab_invS1 C dX9_weights_110 mlX9_112 ysX9_isWeight (tX9_isWeight l _ _ hq7) (Nat.le_of_ble_eq_true rfl) (Nat.le_of_ble_eq_true rfl) rfl (Nat.le_of_ble_eq_true rfl) ?_
        refine ab_if_ne C (tgt := 119) dX9_weights_113 (by decide) (fun hc8 => ?_) (fun hc8 => ?_)
        · replace h := ab_neg hc8 h
          refine ab_aload_n C dX9_weights_119 rfl ?_
          refine ab_getR C dX9_weights_120 flX9_10 rkC_0 rfl mmC_0 ?_
          refine ab_iload C dX9_weights_123 rfl ?_
          refine ab_iload C dX9_weights_125 rfl ?_
          obtain ⟨q9, hq9, h⟩ := ab_bind h
          refine ab_inv0 C dX9_weights_127 mlX9_115 yvX7_weigh rkC_1 ⟨_, _, rfl⟩ mmC_1 (tX7_weigh l _ _ _ hq9) (Nat.le_of_ble_eq_true rfl) (Nat.le_of_ble_eq_true rfl) rfl (Nat.le_of_ble_eq_true rfl) ?_
          refine ab_iinc C dX9_weights_130 rfl (v := 1) rfl (Nat.le_of_ble_eq_true rfl) ?_
          refine ab_iinc C dX9_weights_133 rfl (v := 1) rfl (Nat.le_of_ble_eq_true rfl) ?_
          refine ab_weak (lv' := [some (.inr (.inr (0, 0))), some (.inl v1), some (.inl v2), some (.inl v3), some (.inl (v4 + 1)), some (.inl (v5 + 1)), some (.inl ((q6 : Int64).toInt32))]) ⟨.inr rfl, ⟨.inr rfl, ⟨.inr rfl, ⟨.inr rfl, ⟨.inr rfl, ⟨.inr rfl, ⟨.inr rfl, trivial⟩⟩⟩⟩⟩⟩⟩ ?_
          refine ab_goto C (tgt := 56) dX9_weights_136 (by decide) ?_
          refine ab_weak (lv' := [some (.inr (.inr (0, 0))), some (.inl v1), some (.inl v2), some (.inl v3), some (.inl (v4 + 1)), some (.inl (v5 + 1)), none]) ⟨.inr rfl, ⟨.inr rfl, ⟨.inr rfl, ⟨.inr rfl, ⟨.inr rfl, ⟨.inr rfl, ⟨.inl rfl, trivial⟩⟩⟩⟩⟩⟩⟩ ?_
          exact hk56 _ _ _ _ _ _ h
        · replace h := ab_pos hc8 h
          refine ab_goto C (tgt := 139) dX9_weights_116 (by decide) ?_
          refine ab_weak (lv' := [none, none, none, none, some (.inl v4), none, none]) ⟨.inl rfl, ⟨.inl rfl, ⟨.inl rfl, ⟨.inl rfl, ⟨.inr rfl, ⟨.inl rfl, ⟨.inl rfl, trivial⟩⟩⟩⟩⟩⟩⟩ ?_
          exact gX9_weights_b139 C _ _ h
      · replace h := ab_pos hc5 h
        refine ab_goto C (tgt := 139) dX9_weights_90 (by decide) ?_
        refine ab_weak (lv' := [none, none, none, none, some (.inl v4), none, none]) ⟨.inl rfl, ⟨.inl rfl, ⟨.inl rfl, ⟨.inl rfl, ⟨.inr rfl, ⟨.inl rfl, ⟨.inl rfl, trivial⟩⟩⟩⟩⟩⟩⟩ ?_
        exact gX9_weights_b139 C _ _ h
theorem gX9_weights_b56 {R : (Int32 × ab_S)} (C : ab_C yC p s m args meth c D cA ad cX9_weights 7 RX9 (some .int)) : ∀ (j : Nat) (v1 : Int32) (v2 : Int32) (v3 : Int32) (v4 : Int32) (v5 : Int32) (σ : ab_S), fX9_weights_b56 j v1 v2 v3 v4 v5 σ = some R → ab_G yC p l e s m args below meth c D cA ad 7 5 (some (.inl R.1)) R.2 56 [some (.inr (.inr (0, 0))), some (.inl v1), some (.inl v2), some (.inl v3), some (.inl v4), some (.inl v5), none] [] σ := by
  intro j
  induction j with
  | zero => intro v1 v2 v3 v4 v5 σ  h; cases h
  | succ j ih => intro v1 v2 v3 v4 v5 σ  h; exact gX9_weights_b56_o C ih _ _ _ _ _ _ h
set_option maxRecDepth 100000 in
set_option maxHeartbeats 4000000 in
theorem tX9_weights (l : Launch) (x1 : Int32) (x2 : Int32) (x3 : Int32) (σ : ab_S) {R : (Int32 × ab_S)} (h : fX9_weights x1 x2 x3 σ = some R) : ab_M l yC yX9_weights cX9_weights 7 (some .int) 5 [.inr (.inr (0, 0)), .inl x1, .inl x2, .inl x3] σ (some (.inl R.1)) R.2 := by
  refine ab_M_intro ndC (by decide) (Nat.le_of_ble_eq_true rfl) ?_
  intro p e s m args below meth c D cA ad C
  have C : ab_C yC p s m args meth c D cA ad cX9_weights 7 RX9 (some .int) := C
  refine ab_weak (lv' := [some (.inr (.inr (0, 0))), some (.inl x1), some (.inl x2), some (.inl x3), none, none, none]) ⟨.inr rfl, ⟨.inr rfl, ⟨.inr rfl, ⟨.inr rfl, ⟨.inl rfl, ⟨.inl rfl, ⟨.inl rfl, trivial⟩⟩⟩⟩⟩⟩⟩ ?_
  refine ab_aload_n C dX9_weights_0 rfl ?_
  refine ab_getR C dX9_weights_1 flX9_72 rkC_0 rfl mmC_0 ?_
  refine ab_iload_n C dX9_weights_4 rfl ?_
  obtain ⟨q1, hq1, h⟩ := ab_bind h
  refine ab_inv1 C dX9_weights_5 mlX9_93 yvX6_has rkC_39 ⟨_, _, rfl⟩ mmC_39 (tX6_has l _ _ hq1) (Nat.le_of_ble_eq_true rfl) (Nat.le_of_ble_eq_true rfl) rfl (Nat.le_of_ble_eq_true rfl) ?_
  refine ab_if_eq C (tgt := 21) dX9_weights_8 (by decide) (fun hc2 => ?_) (fun hc2 => ?_)
  · replace h := ab_pos hc2 h
    refine ab_weak (lv' := [none, none, none, none, none, none, none]) ⟨.inl rfl, ⟨.inl rfl, ⟨.inl rfl, ⟨.inl rfl, ⟨.inl rfl, ⟨.inl rfl, ⟨.inl rfl, trivial⟩⟩⟩⟩⟩⟩⟩ ?_
    exact gX9_weights_b21 C _ h
  · replace h := ab_neg hc2 h
    refine ab_iload_n C dX9_weights_11 rfl ?_
    refine ab_iconst C dX9_weights_12 (v := 1) rfl ?_
    refine ab_icmp_lt C (tgt := 21) dX9_weights_13 (by decide) (fun hc3 => ?_) (fun hc3 => ?_)
    · replace h := ab_pos hc3 h
      refine ab_weak (lv' := [none, none, none, none, none, none, none]) ⟨.inl rfl, ⟨.inl rfl, ⟨.inl rfl, ⟨.inl rfl, ⟨.inl rfl, ⟨.inl rfl, ⟨.inl rfl, trivial⟩⟩⟩⟩⟩⟩⟩ ?_
      exact gX9_weights_b21 C _ h
    · replace h := ab_neg hc3 h
      refine ab_iload_n C dX9_weights_16 rfl ?_
      refine ab_iconst C dX9_weights_17 (v := 5) rfl ?_
      refine ab_icmp_le C (tgt := 23) dX9_weights_18 (by decide) (fun hc4 => ?_) (fun hc4 => ?_)
      · replace h := ab_pos hc4 h
        refine ab_aload_n C dX9_weights_23 rfl ?_
        refine ab_getR C dX9_weights_24 flX9_72 rkC_0 rfl mmC_0 ?_
        refine ab_iload_n C dX9_weights_27 rfl ?_
        obtain ⟨q5, hq5, h⟩ := ab_bind h
        refine ab_inv1 C dX9_weights_28 mlX9_97 yvX6_isEmpty rkC_39 ⟨_, _, rfl⟩ mmC_39 (tX6_isEmpty l _ _ hq5) (Nat.le_of_ble_eq_true rfl) (Nat.le_of_ble_eq_true rfl) rfl (Nat.le_of_ble_eq_true rfl) ?_
        refine ab_if_eq C (tgt := 36) dX9_weights_31 (by decide) (fun hc6 => ?_) (fun hc6 => ?_)
        · replace h := ab_pos hc6 h
          refine ab_aload_n C dX9_weights_36 rfl ?_
          refine ab_getR C dX9_weights_37 flX9_72 rkC_0 rfl mmC_0 ?_
          refine ab_iload_n C dX9_weights_40 rfl ?_
          obtain ⟨q7, hq7, h⟩ := ab_bind h
          refine ab_inv1 C dX9_weights_41 mlX9_100 yvX6_isBytes rkC_39 ⟨_, _, rfl⟩ mmC_39 (tX6_isBytes l _ _ hq7) (Nat.le_of_ble_eq_true rfl) (Nat.le_of_ble_eq_true rfl) rfl (Nat.le_of_ble_eq_true rfl) ?_
          refine ab_if_ne C (tgt := 50) dX9_weights_44 (by decide) (fun hc8 => ?_) (fun hc8 => ?_)
          · replace h := ab_neg hc8 h
            refine ab_iconst C dX9_weights_50 (v := 0) rfl ?_
            refine ab_istore C dX9_weights_51 (Nat.le_of_ble_eq_true rfl) ?_
            refine ab_iconst C dX9_weights_53 (v := 0) rfl ?_
            refine ab_istore C dX9_weights_54 (Nat.le_of_ble_eq_true rfl) ?_
            refine ab_weak (lv' := [some (.inr (.inr (0, 0))), some (.inl x1), some (.inl x2), some (.inl x3), some (.inl 0), some (.inl 0), none]) ⟨.inr rfl, ⟨.inr rfl, ⟨.inr rfl, ⟨.inr rfl, ⟨.inr rfl, ⟨.inr rfl, ⟨.inl rfl, trivial⟩⟩⟩⟩⟩⟩⟩ ?_
            exact gX9_weights_b56 C ab_N _ _ _ _ _ _ h
          · replace h := ab_pos hc8 h
            refine ab_bipush C dX9_weights_47 (v := (-12)) rfl ?_
            obtain rfl := Option.some.inj h
            exact ab_iret C dX9_weights_49
        · replace h := ab_neg hc6 h
          refine ab_iconst C dX9_weights_34 (v := 0) rfl ?_
          obtain rfl := Option.some.inj h
          exact ab_iret C dX9_weights_35
      · replace h := ab_neg hc4 h
        refine ab_weak (lv' := [none, none, none, none, none, none, none]) ⟨.inl rfl, ⟨.inl rfl, ⟨.inl rfl, ⟨.inl rfl, ⟨.inl rfl, ⟨.inl rfl, ⟨.inl rfl, trivial⟩⟩⟩⟩⟩⟩⟩ ?_
        exact gX9_weights_b21 C _ h
end
def fX9_which_b42 (σ : ab_S) : Option (Int64 × ab_S) := some ((-9223372036854775808), σ)
def fX9_which_b74 (σ : ab_S) : Option (Int64 × ab_S) := some ((-9223372036854775808), σ)
def fX9_which_b156 (t0 : Int64) (σ : ab_S) : Option (Int64 × ab_S) := some (t0, σ)
def fX9_which_b125 (kk97 : Int32 → Int32 → Int32 → Int32 → Int64 → Int32 → ab_S → Option (Int64 × ab_S)) (v1 : Int32) (v3 : Int32) (v4 : Int32) (v5 : Int32) (v6 : Int64) (v8 : Int32) (σ : ab_S) : Option (Int64 × ab_S) := kk97 v1 v3 v4 v5 v6 (v8 + 1) σ
def fX9_which_b97_o (kk97 : Int32 → Int32 → Int32 → Int32 → Int64 → Int32 → ab_S → Option (Int64 × ab_S)) (v1 : Int32) (v3 : Int32) (v4 : Int32) (v5 : Int32) (v6 : Int64) (v8 : Int32) (σ : ab_S) : Option (Int64 × ab_S) := (if 4 ≤ v8 then (if (lg_cmp v6 0) = 0 then fX9_which_b156 ((v3 : Int32).toInt64) σ else (fX9_shareOfBook v1 v5 σ).bind fun q3 => (fX9_lowest q3.1 v6 v3).bind fun q4 => fX9_which_b156 q4 q3.2) else (fX9_isIn v4 v8).bind fun q5 => (if q5 = 0 then fX9_which_b125 kk97 v1 v3 v4 v5 v6 v8 σ else (fX9_shareOfBook v1 v8 σ).bind fun q7 => fX9_which_b125 kk97 v1 v3 v4 v5 (v6 + q7.1) v8 q7.2))
def fX9_which_b97 : Nat → Int32 → Int32 → Int32 → Int32 → Int64 → Int32 → ab_S → Option (Int64 × ab_S)
  | 0 => fun _ _ _ _ _ _ _ => none
  | n + 1 => fX9_which_b97_o  (fX9_which_b97 n)
def fX9_which (x1 : Int32) (x2 : Int32) (x3 : Int32) (σ : ab_S) : Option (Int64 × ab_S) := (fX6_has x1).bind fun q1 => (if q1 = 0 then fX9_which_b42 σ else (fX9_areHosts (x2 / 10)).bind fun q3 => (if q3 = 0 then fX9_which_b42 σ else (if (ab_mod x2 10) < 0 then fX9_which_b42 σ else (if (ab_mod x2 10) < 4 then (fX9_isIn (x2 / 10) (ab_mod x2 10)).bind fun q7 => (if q7 = 0 then fX9_which_b74 σ else (fX9_isPart x3).bind fun q9 => (if q9 = 0 then fX9_which_b74 σ else (fX6_isBytes x1 σ).bind fun q11 => (if q11 = 0 then fX9_which_b74 σ else (fX9_threesOn x1 σ).bind fun q13 => (if q13 ≤ 4 then fX9_which_b97 ab_N x1 x3 (x2 / 10) (ab_mod x2 10) 0 0 σ else some ((-9223372036854775808), σ))))) else fX9_which_b42 σ))))
section
variable {p : Program} {l : Launch} {e : Env} {s : State} {m : MethodId} {args : Array Value} {below : List Frame} {meth : Method} {c : Code} {D : va_G} {cA : Nat → ClassId} {ad : Nat → Nat → Nat}
set_option maxRecDepth 100000 in
set_option maxHeartbeats 4000000 in
theorem gX9_which_b42 {R : (Int64 × ab_S)} (C : ab_C yC p s m args meth c D cA ad cX9_which 9 RX9 (some .long)) (σ : ab_S) (h : fX9_which_b42 σ = some R) : ab_G yC p l e s m args below meth c D cA ad 9 7 (some (.inr (.inl R.1))) R.2 42 [none, none, none, none, none, none, none, none, none] [] σ := by
  refine ab_ldc2 C dX9_which_42 cwX9_199 ?_
  obtain rfl := Option.some.inj h
  exact ab_lret C dX9_which_45
set_option maxRecDepth 100000 in
set_option maxHeartbeats 4000000 in
theorem gX9_which_b74 {R : (Int64 × ab_S)} (C : ab_C yC p s m args meth c D cA ad cX9_which 9 RX9 (some .long)) (σ : ab_S) (h : fX9_which_b74 σ = some R) : ab_G yC p l e s m args below meth c D cA ad 9 7 (some (.inr (.inl R.1))) R.2 74 [none, none, none, none, none, none, none, none, none] [] σ := by
  refine ab_ldc2 C dX9_which_74 cwX9_199 ?_
  obtain rfl := Option.some.inj h
  exact ab_lret C dX9_which_77
set_option maxRecDepth 100000 in
set_option maxHeartbeats 4000000 in
theorem gX9_which_b156 {R : (Int64 × ab_S)} (C : ab_C yC p s m args meth c D cA ad cX9_which 9 RX9 (some .long)) (t0 : Int64) (σ : ab_S) (h : fX9_which_b156 t0 σ = some R) : ab_G yC p l e s m args below meth c D cA ad 9 7 (some (.inr (.inl R.1))) R.2 156 [none, none, none, none, none, none, none, none, none] [.inr (.inl t0)] σ := by
  obtain rfl := Option.some.inj h
  exact ab_lret C dX9_which_156
set_option maxRecDepth 100000 in
set_option maxHeartbeats 4000000 in
theorem gX9_which_b125 {R : (Int64 × ab_S)} (C : ab_C yC p s m args meth c D cA ad cX9_which 9 RX9 (some .long)) {kk97 : Int32 → Int32 → Int32 → Int32 → Int64 → Int32 → ab_S → Option (Int64 × ab_S)} (hk97 : ∀ (v1 : Int32) (v3 : Int32) (v4 : Int32) (v5 : Int32) (v6 : Int64) (v8 : Int32) (σ : ab_S), kk97 v1 v3 v4 v5 v6 v8 σ = some R → ab_G yC p l e s m args below meth c D cA ad 9 7 (some (.inr (.inl R.1))) R.2 97 [some (.inr (.inr (0, 0))), some (.inl v1), none, some (.inl v3), some (.inl v4), some (.inl v5), some (.inr (.inl v6)), none, some (.inl v8)] [] σ) (v1 : Int32) (v3 : Int32) (v4 : Int32) (v5 : Int32) (v6 : Int64) (v8 : Int32) (σ : ab_S) (h : fX9_which_b125 kk97 v1 v3 v4 v5 v6 v8 σ = some R) : ab_G yC p l e s m args below meth c D cA ad 9 7 (some (.inr (.inl R.1))) R.2 125 [some (.inr (.inr (0, 0))), some (.inl v1), none, some (.inl v3), some (.inl v4), some (.inl v5), some (.inr (.inl v6)), none, some (.inl v8)] [] σ := by
  refine ab_iinc C dX9_which_125 rfl (v := 1) rfl (Nat.le_of_ble_eq_true rfl) ?_
  refine ab_goto C (tgt := 97) dX9_which_128 (by decide) ?_
  refine ab_weak (lv' := [some (.inr (.inr (0, 0))), some (.inl v1), none, some (.inl v3), some (.inl v4), some (.inl v5), some (.inr (.inl v6)), none, some (.inl (v8 + 1))]) ⟨.inr rfl, ⟨.inr rfl, ⟨.inl rfl, ⟨.inr rfl, ⟨.inr rfl, ⟨.inr rfl, ⟨.inr rfl, ⟨.inl rfl, ⟨.inr rfl, trivial⟩⟩⟩⟩⟩⟩⟩⟩⟩ ?_
  exact hk97 _ _ _ _ _ _ _ h
set_option maxRecDepth 100000 in
set_option maxHeartbeats 4000000 in
theorem gX9_which_b97_o {R : (Int64 × ab_S)} (C : ab_C yC p s m args meth c D cA ad cX9_which 9 RX9 (some .long)) {kk97 : Int32 → Int32 → Int32 → Int32 → Int64 → Int32 → ab_S → Option (Int64 × ab_S)} (hk97 : ∀ (v1 : Int32) (v3 : Int32) (v4 : Int32) (v5 : Int32) (v6 : Int64) (v8 : Int32) (σ : ab_S), kk97 v1 v3 v4 v5 v6 v8 σ = some R → ab_G yC p l e s m args below meth c D cA ad 9 7 (some (.inr (.inl R.1))) R.2 97 [some (.inr (.inr (0, 0))), some (.inl v1), none, some (.inl v3), some (.inl v4), some (.inl v5), some (.inr (.inl v6)), none, some (.inl v8)] [] σ) (v1 : Int32) (v3 : Int32) (v4 : Int32) (v5 : Int32) (v6 : Int64) (v8 : Int32) (σ : ab_S) (h : fX9_which_b97_o kk97 v1 v3 v4 v5 v6 v8 σ = some R) : ab_G yC p l e s m args below meth c D cA ad 9 7 (some (.inr (.inl R.1))) R.2 97 [some (.inr (.inr (0, 0))), some (.inl v1), none, some (.inl v3), some (.inl v4), some (.inl v5), some (.inr (.inl v6)), none, some (.inl v8)] [] σ := by
  refine ab_iload C dX9_which_97 rfl ?_
  refine ab_iconst C dX9_which_99 (v := 4) rfl ?_
  refine ab_icmp_ge C (tgt := 131) dX9_which_100 (by decide) (fun hc1 => ?_) (fun hc1 => ?_)
  · replace h := ab_pos hc1 h
    refine ab_lload C dX9_which_131 rfl ?_
    refine ab_lconst C dX9_which_133 (v := 0) rfl ?_
    refine ab_lcmp C dX9_which_134  ?_
    refine ab_if_ne C (tgt := 143) dX9_which_135 (by decide) (fun hc2 => ?_) (fun hc2 => ?_)
    · replace h := ab_neg hc2 h
      refine ab_aload_n C dX9_which_143 rfl ?_
      refine ab_iload_n C dX9_which_144 rfl ?_
      refine ab_iload C dX9_which_145 rfl ?_
      obtain ⟨q3, hq3, h⟩ := ab_bind h
      refine ab_inv1 C dX9_which_147 mlX9_262 yvX9_shareOfBook rkC_0 ⟨_, _, rfl⟩ mmC_0 (tX9_shareOfBook l _ _ _ hq3) (Nat.le_of_ble_eq_true rfl) (Nat.le_of_ble_eq_true rfl) rfl (Nat.le_of_ble_eq_true rfl) ?_
      refine ab_lload C dX9_which_150 rfl ?_
      refine ab_iload_n C dX9_which_152 rfl ?_
      obtain ⟨q4, hq4, h⟩ := ab_bind h
      refine ab_invS1 C dX9_which_153 mlX9_211 ysX9_lowest (tX9_lowest l _ _ _ _ hq4) (Nat.le_of_ble_eq_true rfl) (Nat.le_of_ble_eq_true rfl) rfl (Nat.le_of_ble_eq_true rfl) ?_
      refine ab_weak (lv' := [none, none, none, none, none, none, none, none, none]) ⟨.inl rfl, ⟨.inl rfl, ⟨.inl rfl, ⟨.inl rfl, ⟨.inl rfl, ⟨.inl rfl, ⟨.inl rfl, ⟨.inl rfl, ⟨.inl rfl, trivial⟩⟩⟩⟩⟩⟩⟩⟩⟩ ?_
      exact gX9_which_b156 C _ _ h
    · replace h := ab_pos hc2 h
      refine ab_iload_n C dX9_which_138 rfl ?_
      refine ab_i2l C dX9_which_139  ?_
      refine ab_goto C (tgt := 156) dX9_which_140 (by decide) ?_
      refine ab_weak (lv' := [none, none, none, none, none, none, none, none, none]) ⟨.inl rfl, ⟨.inl rfl, ⟨.inl rfl, ⟨.inl rfl, ⟨.inl rfl, ⟨.inl rfl, ⟨.inl rfl, ⟨.inl rfl, ⟨.inl rfl, trivial⟩⟩⟩⟩⟩⟩⟩⟩⟩ ?_
      exact gX9_which_b156 C _ _ h
  · replace h := ab_neg hc1 h
    refine ab_iload C dX9_which_103 rfl ?_
    refine ab_iload C dX9_which_105 rfl ?_
    obtain ⟨q5, hq5, h⟩ := ab_bind h
    refine ab_invS1 C dX9_which_107 mlX9_246 ysX9_isIn (tX9_isIn l _ _ _ hq5) (Nat.le_of_ble_eq_true rfl) (Nat.le_of_ble_eq_true rfl) rfl (Nat.le_of_ble_eq_true rfl) ?_
    refine ab_if_eq C (tgt := 125) dX9_which_110 (by decide) (fun hc6 => ?_) (fun hc6 => ?_)
    · replace h := ab_pos hc6 h
      refine ab_weak (lv' := [some (.inr (.inr (0, 0))), some (.inl v1), none, some (.inl v3), some (.inl v4), some (.inl v5), some (.inr (.inl v6)), none, some (.inl v8)]) ⟨.inr rfl, ⟨.inr rfl, ⟨.inl rfl, ⟨.inr rfl, ⟨.inr rfl, ⟨.inr rfl, ⟨.inr rfl, ⟨.inl rfl, ⟨.inr rfl, trivial⟩⟩⟩⟩⟩⟩⟩⟩⟩ ?_
      exact gX9_which_b125 C hk97 _ _ _ _ _ _ _ h
    · replace h := ab_neg hc6 h
      refine ab_lload C dX9_which_113 rfl ?_
      refine ab_aload_n C dX9_which_115 rfl ?_
      refine ab_iload_n C dX9_which_116 rfl ?_
      refine ab_iload C dX9_which_117 rfl ?_
      obtain ⟨q7, hq7, h⟩ := ab_bind h
      refine ab_inv1 C dX9_which_119 mlX9_262 yvX9_shareOfBook rkC_0 ⟨_, _, rfl⟩ mmC_0 (tX9_shareOfBook l _ _ _ hq7) (Nat.le_of_ble_eq_true rfl) (Nat.le_of_ble_eq_true rfl) rfl (Nat.le_of_ble_eq_true rfl) ?_
      refine ab_ladd C dX9_which_122  ?_
      refine ab_lstore C dX9_which_123 (Nat.le_of_ble_eq_true rfl) ?_
      refine ab_weak (lv' := [some (.inr (.inr (0, 0))), some (.inl v1), none, some (.inl v3), some (.inl v4), some (.inl v5), some (.inr (.inl (v6 + q7.1))), none, some (.inl v8)]) ⟨.inr rfl, ⟨.inr rfl, ⟨.inl rfl, ⟨.inr rfl, ⟨.inr rfl, ⟨.inr rfl, ⟨.inr rfl, ⟨.inl rfl, ⟨.inr rfl, trivial⟩⟩⟩⟩⟩⟩⟩⟩⟩ ?_
      exact gX9_which_b125 C hk97 _ _ _ _ _ _ _ h
theorem gX9_which_b97 {R : (Int64 × ab_S)} (C : ab_C yC p s m args meth c D cA ad cX9_which 9 RX9 (some .long)) : ∀ (j : Nat) (v1 : Int32) (v3 : Int32) (v4 : Int32) (v5 : Int32) (v6 : Int64) (v8 : Int32) (σ : ab_S), fX9_which_b97 j v1 v3 v4 v5 v6 v8 σ = some R → ab_G yC p l e s m args below meth c D cA ad 9 7 (some (.inr (.inl R.1))) R.2 97 [some (.inr (.inr (0, 0))), some (.inl v1), none, some (.inl v3), some (.inl v4), some (.inl v5), some (.inr (.inl v6)), none, some (.inl v8)] [] σ := by
  intro j
  induction j with
  | zero => intro v1 v3 v4 v5 v6 v8 σ  h; cases h
  | succ j ih => intro v1 v3 v4 v5 v6 v8 σ  h; exact gX9_which_b97_o C ih _ _ _ _ _ _ _ h
set_option maxRecDepth 100000 in
set_option maxHeartbeats 4000000 in
theorem tX9_which (l : Launch) (x1 : Int32) (x2 : Int32) (x3 : Int32) (σ : ab_S) {R : (Int64 × ab_S)} (h : fX9_which x1 x2 x3 σ = some R) : ab_M l yC yX9_which cX9_which 9 (some .long) 7 [.inr (.inr (0, 0)), .inl x1, .inl x2, .inl x3] σ (some (.inr (.inl R.1))) R.2 := by
  refine ab_M_intro ndC (by decide) (Nat.le_of_ble_eq_true rfl) ?_
  intro p e s m args below meth c D cA ad C
  have C : ab_C yC p s m args meth c D cA ad cX9_which 9 RX9 (some .long) := C
  refine ab_weak (lv' := [some (.inr (.inr (0, 0))), some (.inl x1), some (.inl x2), some (.inl x3), none, none, none, none, none]) ⟨.inr rfl, ⟨.inr rfl, ⟨.inr rfl, ⟨.inr rfl, ⟨.inl rfl, ⟨.inl rfl, ⟨.inl rfl, ⟨.inl rfl, ⟨.inl rfl, trivial⟩⟩⟩⟩⟩⟩⟩⟩⟩ ?_
  refine ab_iload_n C dX9_which_0 rfl ?_
  refine ab_bipush C dX9_which_1 (v := 10) rfl ?_
  refine ab_idiv C dX9_which_3 (by decide) ?_
  refine ab_istore C dX9_which_4 (Nat.le_of_ble_eq_true rfl) ?_
  refine ab_iload_n C dX9_which_6 rfl ?_
  refine ab_bipush C dX9_which_7 (v := 10) rfl ?_
  refine ab_irem C dX9_which_9 (by decide) ?_
  refine ab_istore C dX9_which_10 (Nat.le_of_ble_eq_true rfl) ?_
  refine ab_aload_n C dX9_which_12 rfl ?_
  refine ab_getR C dX9_which_13 flX9_72 rkC_0 rfl mmC_0 ?_
  refine ab_iload_n C dX9_which_16 rfl ?_
  obtain ⟨q1, hq1, h⟩ := ab_bind h
  refine ab_inv1 C dX9_which_17 mlX9_93 yvX6_has rkC_39 ⟨_, _, rfl⟩ mmC_39 (tX6_has l _ _ hq1) (Nat.le_of_ble_eq_true rfl) (Nat.le_of_ble_eq_true rfl) rfl (Nat.le_of_ble_eq_true rfl) ?_
  refine ab_if_eq C (tgt := 42) dX9_which_20 (by decide) (fun hc2 => ?_) (fun hc2 => ?_)
  · replace h := ab_pos hc2 h
    refine ab_weak (lv' := [none, none, none, none, none, none, none, none, none]) ⟨.inl rfl, ⟨.inl rfl, ⟨.inl rfl, ⟨.inl rfl, ⟨.inl rfl, ⟨.inl rfl, ⟨.inl rfl, ⟨.inl rfl, ⟨.inl rfl, trivial⟩⟩⟩⟩⟩⟩⟩⟩⟩ ?_
    exact gX9_which_b42 C _ h
  · replace h := ab_neg hc2 h
    refine ab_iload C dX9_which_23 rfl ?_
    obtain ⟨q3, hq3, h⟩ := ab_bind h
    refine ab_invS1 C dX9_which_25 mlX9_243 ysX9_areHosts (tX9_areHosts l _ _ hq3) (Nat.le_of_ble_eq_true rfl) (Nat.le_of_ble_eq_true rfl) rfl (Nat.le_of_ble_eq_true rfl) ?_
    refine ab_if_eq C (tgt := 42) dX9_which_28 (by decide) (fun hc4 => ?_) (fun hc4 => ?_)
    · replace h := ab_pos hc4 h
      refine ab_weak (lv' := [none, none, none, none, none, none, none, none, none]) ⟨.inl rfl, ⟨.inl rfl, ⟨.inl rfl, ⟨.inl rfl, ⟨.inl rfl, ⟨.inl rfl, ⟨.inl rfl, ⟨.inl rfl, ⟨.inl rfl, trivial⟩⟩⟩⟩⟩⟩⟩⟩⟩ ?_
      exact gX9_which_b42 C _ h
    · replace h := ab_neg hc4 h
      refine ab_iload C dX9_which_31 rfl ?_
      refine ab_if_lt C (tgt := 42) dX9_which_33 (by decide) (fun hc5 => ?_) (fun hc5 => ?_)
      · replace h := ab_pos hc5 h
        refine ab_weak (lv' := [none, none, none, none, none, none, none, none, none]) ⟨.inl rfl, ⟨.inl rfl, ⟨.inl rfl, ⟨.inl rfl, ⟨.inl rfl, ⟨.inl rfl, ⟨.inl rfl, ⟨.inl rfl, ⟨.inl rfl, trivial⟩⟩⟩⟩⟩⟩⟩⟩⟩ ?_
        exact gX9_which_b42 C _ h
      · replace h := ab_neg hc5 h
        refine ab_iload C dX9_which_36 rfl ?_
        refine ab_iconst C dX9_which_38 (v := 4) rfl ?_
        refine ab_icmp_lt C (tgt := 46) dX9_which_39 (by decide) (fun hc6 => ?_) (fun hc6 => ?_)
        · replace h := ab_pos hc6 h
          refine ab_iload C dX9_which_46 rfl ?_
          refine ab_iload C dX9_which_48 rfl ?_
          obtain ⟨q7, hq7, h⟩ := ab_bind h
          refine ab_invS1 C dX9_which_50 mlX9_246 ysX9_isIn (tX9_isIn l _ _ _ hq7) (Nat.le_of_ble_eq_true rfl) (Nat.le_of_ble_eq_true rfl) rfl (Nat.le_of_ble_eq_true rfl) ?_
          refine ab_if_eq C (tgt := 74) dX9_which_53 (by decide) (fun hc8 => ?_) (fun hc8 => ?_)
          · replace h := ab_pos hc8 h
            refine ab_weak (lv' := [none, none, none, none, none, none, none, none, none]) ⟨.inl rfl, ⟨.inl rfl, ⟨.inl rfl, ⟨.inl rfl, ⟨.inl rfl, ⟨.inl rfl, ⟨.inl rfl, ⟨.inl rfl, ⟨.inl rfl, trivial⟩⟩⟩⟩⟩⟩⟩⟩⟩ ?_
            exact gX9_which_b74 C _ h
          · replace h := ab_neg hc8 h
            refine ab_iload_n C dX9_which_56 rfl ?_
            obtain ⟨q9, hq9, h⟩ := ab_bind h
            refine ab_invS1 C dX9_which_57 mlX9_196 ysX9_isPart (tX9_isPart l _ _ hq9) (Nat.le_of_ble_eq_true rfl) (Nat.le_of_ble_eq_true rfl) rfl (Nat.le_of_ble_eq_true rfl) ?_
            refine ab_if_eq C (tgt := 74) dX9_which_60 (by decide) (fun hc10 => ?_) (fun hc10 => ?_)
            · replace h := ab_pos hc10 h
              refine ab_weak (lv' := [none, none, none, none, none, none, none, none, none]) ⟨.inl rfl, ⟨.inl rfl, ⟨.inl rfl, ⟨.inl rfl, ⟨.inl rfl, ⟨.inl rfl, ⟨.inl rfl, ⟨.inl rfl, ⟨.inl rfl, trivial⟩⟩⟩⟩⟩⟩⟩⟩⟩ ?_
              exact gX9_which_b74 C _ h
            · replace h := ab_neg hc10 h
              refine ab_aload_n C dX9_which_63 rfl ?_
              refine ab_getR C dX9_which_64 flX9_72 rkC_0 rfl mmC_0 ?_
              refine ab_iload_n C dX9_which_67 rfl ?_
              obtain ⟨q11, hq11, h⟩ := ab_bind h
              refine ab_inv1 C dX9_which_68 mlX9_100 yvX6_isBytes rkC_39 ⟨_, _, rfl⟩ mmC_39 (tX6_isBytes l _ _ hq11) (Nat.le_of_ble_eq_true rfl) (Nat.le_of_ble_eq_true rfl) rfl (Nat.le_of_ble_eq_true rfl) ?_
              refine ab_if_ne C (tgt := 78) dX9_which_71 (by decide) (fun hc12 => ?_) (fun hc12 => ?_)
              · replace h := ab_neg hc12 h
                refine ab_aload_n C dX9_which_78 rfl ?_
                refine ab_iload_n C dX9_which_79 rfl ?_
                obtain ⟨q13, hq13, h⟩ := ab_bind h
                refine ab_inv1 C dX9_which_80 mlX9_259 yvX9_threesOn rkC_0 ⟨_, _, rfl⟩ mmC_0 (tX9_threesOn l _ _ hq13) (Nat.le_of_ble_eq_true rfl) (Nat.le_of_ble_eq_true rfl) rfl (Nat.le_of_ble_eq_true rfl) ?_
                refine ab_iconst C dX9_which_83 (v := 4) rfl ?_
                refine ab_icmp_le C (tgt := 91) dX9_which_84 (by decide) (fun hc14 => ?_) (fun hc14 => ?_)
                · replace h := ab_pos hc14 h
                  refine ab_lconst C dX9_which_91 (v := 0) rfl ?_
                  refine ab_lstore C dX9_which_92 (Nat.le_of_ble_eq_true rfl) ?_
                  refine ab_weak (lv' := [some (.inr (.inr (0, 0))), some (.inl x1), some (.inl x2), some (.inl x3), some (.inl (x2 / 10)), some (.inl (ab_mod x2 10)), some (.inr (.inl 0)), none, none]) ⟨.inr rfl, ⟨.inr rfl, ⟨.inr rfl, ⟨.inr rfl, ⟨.inr rfl, ⟨.inr rfl, ⟨.inr rfl, ⟨.inl rfl, ⟨.inl rfl, trivial⟩⟩⟩⟩⟩⟩⟩⟩⟩ ?_
                  refine ab_iconst C dX9_which_94 (v := 0) rfl ?_
                  refine ab_istore C dX9_which_95 (Nat.le_of_ble_eq_true rfl) ?_
                  refine ab_weak (lv' := [some (.inr (.inr (0, 0))), some (.inl x1), none, some (.inl x3), some (.inl (x2 / 10)), some (.inl (ab_mod x2 10)), some (.inr (.inl 0)), none, some (.inl 0)]) ⟨.inr rfl, ⟨.inr rfl, ⟨.inl rfl, ⟨.inr rfl, ⟨.inr rfl, ⟨.inr rfl, ⟨.inr rfl, ⟨.inl rfl, ⟨.inr rfl, trivial⟩⟩⟩⟩⟩⟩⟩⟩⟩ ?_
                  exact gX9_which_b97 C ab_N _ _ _ _ _ _ _ h
                · replace h := ab_neg hc14 h
                  refine ab_ldc2 C dX9_which_87 cwX9_199 ?_
                  obtain rfl := Option.some.inj h
                  exact ab_lret C dX9_which_90
              · replace h := ab_pos hc12 h
                refine ab_weak (lv' := [none, none, none, none, none, none, none, none, none]) ⟨.inl rfl, ⟨.inl rfl, ⟨.inl rfl, ⟨.inl rfl, ⟨.inl rfl, ⟨.inl rfl, ⟨.inl rfl, ⟨.inl rfl, ⟨.inl rfl, trivial⟩⟩⟩⟩⟩⟩⟩⟩⟩ ?_
                exact gX9_which_b74 C _ h
        · replace h := ab_neg hc6 h
          refine ab_weak (lv' := [none, none, none, none, none, none, none, none, none]) ⟨.inl rfl, ⟨.inl rfl, ⟨.inl rfl, ⟨.inl rfl, ⟨.inl rfl, ⟨.inl rfl, ⟨.inl rfl, ⟨.inl rfl, ⟨.inl rfl, trivial⟩⟩⟩⟩⟩⟩⟩⟩⟩ ?_
          exact gX9_which_b42 C _ h
end
def fX9_win (x1 : Int32) (σ : ab_S) : Option (Int32 × ab_S) := (fX7_has x1 σ).bind fun q1 => (if q1 = 0 then some ((-1), σ) else (fX4_end x1 σ).bind fun q3 => some (q3.1, q3.2))
section
variable {p : Program} {l : Launch} {e : Env} {s : State} {m : MethodId} {args : Array Value} {below : List Frame} {meth : Method} {c : Code} {D : va_G} {cA : Nat → ClassId} {ad : Nat → Nat → Nat}
set_option maxRecDepth 100000 in
set_option maxHeartbeats 4000000 in
theorem tX9_win (l : Launch) (x1 : Int32) (σ : ab_S) {R : (Int32 × ab_S)} (h : fX9_win x1 σ = some R) : ab_M l yC yX9_win cX9_win 2 (some .int) 3 [.inr (.inr (0, 0)), .inl x1] σ (some (.inl R.1)) R.2 := by
  refine ab_M_intro ndC (by decide) (Nat.le_of_ble_eq_true rfl) ?_
  intro p e s m args below meth c D cA ad C
  have C : ab_C yC p s m args meth c D cA ad cX9_win 2 RX9 (some .int) := C
  refine ab_weak (lv' := [some (.inr (.inr (0, 0))), some (.inl x1)]) ⟨.inr rfl, ⟨.inr rfl, trivial⟩⟩ ?_
  refine ab_aload_n C dX9_win_0 rfl ?_
  refine ab_getR C dX9_win_1 flX9_10 rkC_0 rfl mmC_0 ?_
  refine ab_iload_n C dX9_win_4 rfl ?_
  obtain ⟨q1, hq1, h⟩ := ab_bind h
  refine ab_inv1 C dX9_win_5 mlX9_103 yvX7_has rkC_1 ⟨_, _, rfl⟩ mmC_1 (tX7_has l _ _ hq1) (Nat.le_of_ble_eq_true rfl) (Nat.le_of_ble_eq_true rfl) rfl (Nat.le_of_ble_eq_true rfl) ?_
  refine ab_if_ne C (tgt := 13) dX9_win_8 (by decide) (fun hc2 => ?_) (fun hc2 => ?_)
  · replace h := ab_neg hc2 h
    refine ab_aload_n C dX9_win_13 rfl ?_
    refine ab_getR C dX9_win_14 flX9_19 rkC_0 rfl mmC_0 ?_
    refine ab_iload_n C dX9_win_17 rfl ?_
    obtain ⟨q3, hq3, h⟩ := ab_bind h
    refine ab_inv1 C dX9_win_18 mlX9_298 yvX4_end rkC_5 ⟨_, _, rfl⟩ mmC_5 (tX4_end l _ _ hq3) (Nat.le_of_ble_eq_true rfl) (Nat.le_of_ble_eq_true rfl) rfl (Nat.le_of_ble_eq_true rfl) ?_
    obtain rfl := Option.some.inj h
    exact ab_iret C dX9_win_21
  · replace h := ab_pos hc2 h
    refine ab_iconst C dX9_win_11 (v := (-1)) rfl ?_
    obtain rfl := Option.some.inj h
    exact ab_iret C dX9_win_12
end
def fX9_worth_b27 (σ : ab_S) : Option (Int64 × ab_S) := some ((-9223372036854775808), σ)
def fX9_worth (x1 : Int32) (x2 : Int32) (x3 : Int32) (σ : ab_S) : Option (Int64 × ab_S) := (if x1 < 0 then fX9_worth_b27 σ else (if 2 < x1 then fX9_worth_b27 σ else (fX7_has x2 σ).bind fun q3 => (if q3 = 0 then fX9_worth_b27 σ else (fX9_isPart x3).bind fun q5 => (if q5 = 0 then fX9_worth_b27 σ else (fX7_together σ).bind fun q7 => (if q7 = 0 then some ((-2), σ) else (fX1_worthOf (σ.1 1 0 4) x1 x2 σ).bind fun q9 => (fX7_wholeWorth q9.2).bind fun q10 => (fX9_lowest q9.1 q10 x3).bind fun q11 => some (q11, q9.2))))))
section
variable {p : Program} {l : Launch} {e : Env} {s : State} {m : MethodId} {args : Array Value} {below : List Frame} {meth : Method} {c : Code} {D : va_G} {cA : Nat → ClassId} {ad : Nat → Nat → Nat}
set_option maxRecDepth 100000 in
set_option maxHeartbeats 4000000 in
theorem gX9_worth_b27 {R : (Int64 × ab_S)} (C : ab_C yC p s m args meth c D cA ad cX9_worth 4 RX9 (some .long)) (σ : ab_S) (h : fX9_worth_b27 σ = some R) : ab_G yC p l e s m args below meth c D cA ad 4 70 (some (.inr (.inl R.1))) R.2 27 [none, none, none, none] [] σ := by
  refine ab_ldc2 C dX9_worth_27 cwX9_199 ?_
  obtain rfl := Option.some.inj h
  exact ab_lret C dX9_worth_30
set_option maxRecDepth 100000 in
set_option maxHeartbeats 4000000 in
theorem tX9_worth (l : Launch) (x1 : Int32) (x2 : Int32) (x3 : Int32) (σ : ab_S) {R : (Int64 × ab_S)} (h : fX9_worth x1 x2 x3 σ = some R) : ab_M l yC yX9_worth cX9_worth 4 (some .long) 70 [.inr (.inr (0, 0)), .inl x1, .inl x2, .inl x3] σ (some (.inr (.inl R.1))) R.2 := by
  refine ab_M_intro ndC (by decide) (Nat.le_of_ble_eq_true rfl) ?_
  intro p e s m args below meth c D cA ad C
  have C : ab_C yC p s m args meth c D cA ad cX9_worth 4 RX9 (some .long) := C
  refine ab_weak (lv' := [some (.inr (.inr (0, 0))), some (.inl x1), some (.inl x2), some (.inl x3)]) ⟨.inr rfl, ⟨.inr rfl, ⟨.inr rfl, ⟨.inr rfl, trivial⟩⟩⟩⟩ ?_
  refine ab_iload_n C dX9_worth_0 rfl ?_
  refine ab_if_lt C (tgt := 27) dX9_worth_1 (by decide) (fun hc1 => ?_) (fun hc1 => ?_)
  · replace h := ab_pos hc1 h
    refine ab_weak (lv' := [none, none, none, none]) ⟨.inl rfl, ⟨.inl rfl, ⟨.inl rfl, ⟨.inl rfl, trivial⟩⟩⟩⟩ ?_
    exact gX9_worth_b27 C _ h
  · replace h := ab_neg hc1 h
    refine ab_iload_n C dX9_worth_4 rfl ?_
    refine ab_iconst C dX9_worth_5 (v := 2) rfl ?_
    refine ab_icmp_gt C (tgt := 27) dX9_worth_6 (by decide) (fun hc2 => ?_) (fun hc2 => ?_)
    · replace h := ab_pos hc2 h
      refine ab_weak (lv' := [none, none, none, none]) ⟨.inl rfl, ⟨.inl rfl, ⟨.inl rfl, ⟨.inl rfl, trivial⟩⟩⟩⟩ ?_
      exact gX9_worth_b27 C _ h
    · replace h := ab_neg hc2 h
      refine ab_aload_n C dX9_worth_9 rfl ?_
      refine ab_getR C dX9_worth_10 flX9_10 rkC_0 rfl mmC_0 ?_
      refine ab_iload_n C dX9_worth_13 rfl ?_
      obtain ⟨q3, hq3, h⟩ := ab_bind h
      refine ab_inv1 C dX9_worth_14 mlX9_103 yvX7_has rkC_1 ⟨_, _, rfl⟩ mmC_1 (tX7_has l _ _ hq3) (Nat.le_of_ble_eq_true rfl) (Nat.le_of_ble_eq_true rfl) rfl (Nat.le_of_ble_eq_true rfl) ?_
      refine ab_if_eq C (tgt := 27) dX9_worth_17 (by decide) (fun hc4 => ?_) (fun hc4 => ?_)
      · replace h := ab_pos hc4 h
        refine ab_weak (lv' := [none, none, none, none]) ⟨.inl rfl, ⟨.inl rfl, ⟨.inl rfl, ⟨.inl rfl, trivial⟩⟩⟩⟩ ?_
        exact gX9_worth_b27 C _ h
      · replace h := ab_neg hc4 h
        refine ab_iload_n C dX9_worth_20 rfl ?_
        obtain ⟨q5, hq5, h⟩ := ab_bind h
        refine ab_invS1 C dX9_worth_21 mlX9_196 ysX9_isPart (tX9_isPart l _ _ hq5) (Nat.le_of_ble_eq_true rfl) (Nat.le_of_ble_eq_true rfl) rfl (Nat.le_of_ble_eq_true rfl) ?_
        refine ab_if_ne C (tgt := 31) dX9_worth_24 (by decide) (fun hc6 => ?_) (fun hc6 => ?_)
        · replace h := ab_neg hc6 h
          refine ab_aload_n C dX9_worth_31 rfl ?_
          refine ab_getR C dX9_worth_32 flX9_10 rkC_0 rfl mmC_0 ?_
          obtain ⟨q7, hq7, h⟩ := ab_bind h
          refine ab_inv1 C dX9_worth_35 mlX9_227 yvX7_together rkC_1 ⟨_, _, rfl⟩ mmC_1 (tX7_together l _ hq7) (Nat.le_of_ble_eq_true rfl) (Nat.le_of_ble_eq_true rfl) rfl (Nat.le_of_ble_eq_true rfl) ?_
          refine ab_if_ne C (tgt := 45) dX9_worth_38 (by decide) (fun hc8 => ?_) (fun hc8 => ?_)
          · replace h := ab_neg hc8 h
            refine ab_aload_n C dX9_worth_45 rfl ?_
            refine ab_getR C dX9_worth_46 flX9_49 rkC_0 rfl mmC_0 ?_
            refine ab_aload_n C dX9_worth_49 rfl ?_
            refine ab_getR C dX9_worth_50 flX9_10 rkC_0 rfl mmC_0 ?_
            refine ab_getI C dX9_worth_53 flX9_156 rkC_1 rfl mmC_1 ?_
            refine ab_iload_n C dX9_worth_56 rfl ?_
            refine ab_iload_n C dX9_worth_57 rfl ?_
            obtain ⟨q9, hq9, h⟩ := ab_bind h
            refine ab_inv1 C dX9_worth_58 mlX9_230 yvX1_worthOf rkC_21 ⟨_, _, rfl⟩ mmC_21 (tX1_worthOf l _ _ _ _ hq9) (Nat.le_of_ble_eq_true rfl) (Nat.le_of_ble_eq_true rfl) rfl (Nat.le_of_ble_eq_true rfl) ?_
            refine ab_aload_n C dX9_worth_61 rfl ?_
            refine ab_getR C dX9_worth_62 flX9_10 rkC_0 rfl mmC_0 ?_
            obtain ⟨q10, hq10, h⟩ := ab_bind h
            refine ab_inv1 C dX9_worth_65 mlX9_234 yvX7_wholeWorth rkC_1 ⟨_, _, rfl⟩ mmC_1 (tX7_wholeWorth l _ hq10) (Nat.le_of_ble_eq_true rfl) (Nat.le_of_ble_eq_true rfl) rfl (Nat.le_of_ble_eq_true rfl) ?_
            refine ab_iload_n C dX9_worth_68 rfl ?_
            obtain ⟨q11, hq11, h⟩ := ab_bind h
            refine ab_invS1 C dX9_worth_69 mlX9_211 ysX9_lowest (tX9_lowest l _ _ _ _ hq11) (Nat.le_of_ble_eq_true rfl) (Nat.le_of_ble_eq_true rfl) rfl (Nat.le_of_ble_eq_true rfl) ?_
            obtain rfl := Option.some.inj h
            exact ab_lret C dX9_worth_72
          · replace h := ab_pos hc8 h
            refine ab_ldc2 C dX9_worth_41 cwX9_205 ?_
            obtain rfl := Option.some.inj h
            exact ab_lret C dX9_worth_44
        · replace h := ab_pos hc6 h
          refine ab_weak (lv' := [none, none, none, none]) ⟨.inl rfl, ⟨.inl rfl, ⟨.inl rfl, ⟨.inl rfl, trivial⟩⟩⟩⟩ ?_
          exact gX9_worth_b27 C _ h
end
def fX10_above_b38 (t0 : Int32) : Option Int32 := some t0
def fX10_above (x0 : Int32) : Option Int32 := (if x0 = 3 then fX10_above_b38 2 else (if x0 = 4 then fX10_above_b38 1 else (if x0 = 5 then fX10_above_b38 3 else (if x0 = 7 then fX10_above_b38 4 else fX10_above_b38 0))))
section
variable {p : Program} {l : Launch} {e : Env} {s : State} {m : MethodId} {args : Array Value} {below : List Frame} {meth : Method} {c : Code} {D : va_G} {cA : Nat → ClassId} {ad : Nat → Nat → Nat}
set_option maxRecDepth 100000 in
set_option maxHeartbeats 4000000 in
theorem gX10_above_b38 {R : Int32} (C : ab_C yM p s m args meth c D cA ad cX10_above 1 RX10 (some .int)) {σ : ab_S} (t0 : Int32) (h : fX10_above_b38 t0 = some R) : ab_G yM p l e s m args below meth c D cA ad 1 0 (some (.inl R)) σ 38 [none] [.inl t0] σ := by
  obtain rfl := Option.some.inj h
  exact ab_iret C dX10_above_38
set_option maxRecDepth 100000 in
set_option maxHeartbeats 4000000 in
theorem tX10_above (l : Launch) (x0 : Int32) (σ : ab_S) {R : Int32} (h : fX10_above x0 = some R) : ab_M l yM yX10_above cX10_above 1 (some .int) 0 [.inl x0] σ (some (.inl R)) σ := by
  refine ab_M_intro ndM (by decide) (Nat.le_of_ble_eq_true rfl) ?_
  intro p e s m args below meth c D cA ad C
  have C : ab_C yM p s m args meth c D cA ad cX10_above 1 RX10 (some .int) := C
  refine ab_weak (lv' := [some (.inl x0)]) ⟨.inr rfl, trivial⟩ ?_
  refine ab_iload_n C dX10_above_0 rfl ?_
  refine ab_iconst C dX10_above_1 (v := 3) rfl ?_
  refine ab_icmp_ne C (tgt := 9) dX10_above_2 (by decide) (fun hc1 => ?_) (fun hc1 => ?_)
  · replace h := ab_neg hc1 h
    refine ab_iload_n C dX10_above_9 rfl ?_
    refine ab_iconst C dX10_above_10 (v := 4) rfl ?_
    refine ab_icmp_ne C (tgt := 18) dX10_above_11 (by decide) (fun hc2 => ?_) (fun hc2 => ?_)
    · replace h := ab_neg hc2 h
      refine ab_iload_n C dX10_above_18 rfl ?_
      refine ab_iconst C dX10_above_19 (v := 5) rfl ?_
      refine ab_icmp_ne C (tgt := 27) dX10_above_20 (by decide) (fun hc3 => ?_) (fun hc3 => ?_)
      · replace h := ab_neg hc3 h
        refine ab_iload_n C dX10_above_27 rfl ?_
        refine ab_bipush C dX10_above_28 (v := 7) rfl ?_
        refine ab_icmp_ne C (tgt := 37) dX10_above_30 (by decide) (fun hc4 => ?_) (fun hc4 => ?_)
        · replace h := ab_neg hc4 h
          refine ab_iconst C dX10_above_37 (v := 0) rfl ?_
          refine ab_weak (lv' := [none]) ⟨.inl rfl, trivial⟩ ?_
          exact gX10_above_b38 C _ h
        · replace h := ab_pos hc4 h
          refine ab_iconst C dX10_above_33 (v := 4) rfl ?_
          refine ab_goto C (tgt := 38) dX10_above_34 (by decide) ?_
          refine ab_weak (lv' := [none]) ⟨.inl rfl, trivial⟩ ?_
          exact gX10_above_b38 C _ h
      · replace h := ab_pos hc3 h
        refine ab_iconst C dX10_above_23 (v := 3) rfl ?_
        refine ab_goto C (tgt := 38) dX10_above_24 (by decide) ?_
        refine ab_weak (lv' := [none]) ⟨.inl rfl, trivial⟩ ?_
        exact gX10_above_b38 C _ h
    · replace h := ab_pos hc2 h
      refine ab_iconst C dX10_above_14 (v := 1) rfl ?_
      refine ab_goto C (tgt := 38) dX10_above_15 (by decide) ?_
      refine ab_weak (lv' := [none]) ⟨.inl rfl, trivial⟩ ?_
      exact gX10_above_b38 C _ h
  · replace h := ab_pos hc1 h
    refine ab_iconst C dX10_above_5 (v := 2) rfl ?_
    refine ab_goto C (tgt := 38) dX10_above_6 (by decide) ?_
    refine ab_weak (lv' := [none]) ⟨.inl rfl, trivial⟩ ?_
    exact gX10_above_b38 C _ h
end
def fX10_begins_b19 (σ : ab_S) : Option ab_S := ab_k (ab_si σ 0 0 38 ((σ.1 0 0 38) + 1)) fun σ1 => some σ1
def fX10_begins (x1 : Int32) (σ : ab_S) : Option ab_S := (if 24 ≤ (σ.1 0 0 38) then fX10_begins_b19 σ else (if ab_inb (σ.1 0 0 38) 24 = true then ab_k (ab_si σ 19 0 ((σ.1 0 0 38).toNatClampNeg) x1) fun σ3 => fX10_begins_b19 σ3 else none))
section
variable {p : Program} {l : Launch} {e : Env} {s : State} {m : MethodId} {args : Array Value} {below : List Frame} {meth : Method} {c : Code} {D : va_G} {cA : Nat → ClassId} {ad : Nat → Nat → Nat}
set_option maxRecDepth 100000 in
set_option maxHeartbeats 4000000 in
theorem gX10_begins_b19 {R : ab_S} (C : ab_C yM p s m args meth c D cA ad cX10_begins 2 RX10 none) (σ : ab_S) (h : fX10_begins_b19 σ = some R) : ab_G yM p l e s m args below meth c D cA ad 2 0 none R 19 [some (.inr (.inr (0, 0))), none] [] σ := by
  refine ab_aload_n C dX10_begins_19 rfl ?_
  refine ab_dup C dX10_begins_20 rfl ?_
  refine ab_getI C dX10_begins_21 flX10_346 rkM_0 rfl mmM_0 ?_
  refine ab_iconst C dX10_begins_24 (v := 1) rfl ?_
  refine ab_iadd C dX10_begins_25  ?_
  refine ab_putI C dX10_begins_26 fpX10_346 rkM_0 rfl mmM_0 rfl rfl ?_
  refine ab_nmS (fun σ1 eσ1 => ?_)
  replace h := ab_kh eσ1 h
  obtain rfl := Option.some.inj h
  exact ab_vret C dX10_begins_29
set_option maxRecDepth 100000 in
set_option maxHeartbeats 4000000 in
theorem tX10_begins (l : Launch) (x1 : Int32) (σ : ab_S) {R : ab_S} (h : fX10_begins x1 σ = some R) : ab_M l yM yX10_begins cX10_begins 2 none 0 [.inr (.inr (0, 0)), .inl x1] σ none R := by
  refine ab_M_intro ndM (by decide) (Nat.le_of_ble_eq_true rfl) ?_
  intro p e s m args below meth c D cA ad C
  have C : ab_C yM p s m args meth c D cA ad cX10_begins 2 RX10 none := C
  refine ab_weak (lv' := [some (.inr (.inr (0, 0))), some (.inl x1)]) ⟨.inr rfl, ⟨.inr rfl, trivial⟩⟩ ?_
  refine ab_aload_n C dX10_begins_0 rfl ?_
  refine ab_getI C dX10_begins_1 flX10_346 rkM_0 rfl mmM_0 ?_
  refine ab_bipush C dX10_begins_4 (v := 24) rfl ?_
  refine ab_icmp_ge C (tgt := 19) dX10_begins_6 (by decide) (fun hc1 => ?_) (fun hc1 => ?_)
  · replace h := ab_pos hc1 h
    refine ab_weak (lv' := [some (.inr (.inr (0, 0))), none]) ⟨.inr rfl, ⟨.inl rfl, trivial⟩⟩ ?_
    exact gX10_begins_b19 C _ h
  · replace h := ab_neg hc1 h
    refine ab_aload_n C dX10_begins_9 rfl ?_
    refine ab_getR C dX10_begins_10 flX10_67 rkM_0 rfl mmM_0 ?_
    refine ab_aload_n C dX10_begins_13 rfl ?_
    refine ab_getI C dX10_begins_14 flX10_346 rkM_0 rfl mmM_0 ?_
    refine ab_iload_n C dX10_begins_17 rfl ?_
    obtain ⟨hg2, h⟩ := ab_grd h
    refine ab_iast C dX10_begins_18 rkM_19 mmM_19 hg2 ?_
    refine ab_nmS (fun σ3 eσ3 => ?_)
    replace h := ab_kh eσ3 h
    refine ab_weak (lv' := [some (.inr (.inr (0, 0))), none]) ⟨.inr rfl, ⟨.inl rfl, trivial⟩⟩ ?_
    exact gX10_begins_b19 C _ h
end
def fX10_hidesAs_b16 (rc0 : Int32 → Int32 → ab_S → Option (Int32 × ab_S)) (v2 : Int32) (σ : ab_S) : Option (Int32 × ab_S) := (fX10_begins 20 σ).bind fun q1 => (rc0 0 v2 q1).bind fun q2 => some (q2.1 + 3, q2.2)
def fX10_hidesAs_o (rc0 : Int32 → Int32 → ab_S → Option (Int32 × ab_S)) (x1 : Int32) (x2 : Int32) (σ : ab_S) : Option (Int32 × ab_S) := (if x1 = 1 then fX10_hidesAs_b16 rc0 x2 σ else (if x1 = 4 then fX10_hidesAs_b16 rc0 x2 σ else (if x1 = 7 then fX10_hidesAs_b16 rc0 x2 σ else (if x1 = 6 then (fX10_begins 70 σ).bind fun q6 => (rc0 0 x2 q6).bind fun q7 => some (q7.1 * 2, q7.2) else (fX10_begins 1 σ).bind fun q5 => some (x2 + (q5.1 0 0 40), q5)))))
def fzX10_hidesAs : Nat → (Int32 → Int32 → ab_S → Option (Int32 × ab_S))
  | 0 => fun _ _ _ => none
  | n + 1 => fX10_hidesAs_o ((fzX10_hidesAs n))
def fX10_hidesAs (n : Nat) (x1 : Int32) (x2 : Int32) (σ : ab_S) : Option (Int32 × ab_S) := (fzX10_hidesAs n) x1 x2 σ
section
variable {p : Program} {l : Launch} {e : Env} {s : State} {m : MethodId} {args : Array Value} {below : List Frame} {meth : Method} {c : Code} {D : va_G} {cA : Nat → ClassId} {ad : Nat → Nat → Nat}
set_option maxRecDepth 100000 in
set_option maxHeartbeats 4000000 in
theorem gX10_hidesAs_b16 {n : Nat} {R : (Int32 × ab_S)} {rc0 : Int32 → Int32 → ab_S → Option (Int32 × ab_S)} (C : ab_C yM p s m args meth c D cA ad cX10_hidesAs 3 RX10 (some .int)) (hrec : (∀ (x1 : Int32) (x2 : Int32) (σ : ab_S), ∀ (R : (Int32 × ab_S)), rc0 x1 x2 σ = some R → ab_M l yM yX10_hidesAs cX10_hidesAs 3 (some .int) (1 + n) [.inr (.inr (0, 0)), .inl x1, .inl x2] σ (some (.inl R.1)) R.2)) (v2 : Int32) (σ : ab_S) (h : fX10_hidesAs_b16 rc0 v2 σ = some R) : ab_G yM p l e s m args below meth c D cA ad 3 (1 + n + 1) (some (.inl R.1)) R.2 16 [some (.inr (.inr (0, 0))), none, some (.inl v2)] [] σ := by
  refine ab_aload_n C dX10_hidesAs_16 rfl ?_
  refine ab_bipush C dX10_hidesAs_17 (v := 20) rfl ?_
  obtain ⟨q1, hq1, h⟩ := ab_bind h
  refine ab_inv0 C dX10_hidesAs_19 mlX10_349 yvX10_begins rkM_0 ⟨_, _, rfl⟩ mmM_0 (tX10_begins l _ _ hq1) (by omega) (Nat.le_of_ble_eq_true rfl) rfl (Nat.le_of_ble_eq_true rfl) ?_
  refine ab_aload_n C dX10_hidesAs_22 rfl ?_
  refine ab_iconst C dX10_hidesAs_23 (v := 0) rfl ?_
  refine ab_iload_n C dX10_hidesAs_24 rfl ?_
  obtain ⟨q2, hq2, h⟩ := ab_bind h
  refine ab_inv1 C dX10_hidesAs_25 mlX10_352 yvX10_hidesAs rkM_0 ⟨_, _, rfl⟩ mmM_0 (hrec _ _ _ _ hq2) (by omega) (Nat.le_of_ble_eq_true rfl) rfl (Nat.le_of_ble_eq_true rfl) ?_
  refine ab_iconst C dX10_hidesAs_28 (v := 3) rfl ?_
  refine ab_iadd C dX10_hidesAs_29  ?_
  obtain rfl := Option.some.inj h
  exact ab_iret C dX10_hidesAs_30
set_option maxRecDepth 100000 in
set_option maxHeartbeats 4000000 in
theorem tX10_hidesAs_o (l : Launch) {n : Nat} {rc0 : Int32 → Int32 → ab_S → Option (Int32 × ab_S)} (hrec : (∀ (x1 : Int32) (x2 : Int32) (σ : ab_S), ∀ (R : (Int32 × ab_S)), rc0 x1 x2 σ = some R → ab_M l yM yX10_hidesAs cX10_hidesAs 3 (some .int) (1 + n) [.inr (.inr (0, 0)), .inl x1, .inl x2] σ (some (.inl R.1)) R.2)) (x1 : Int32) (x2 : Int32) (σ : ab_S) {R : (Int32 × ab_S)} (h : fX10_hidesAs_o rc0 x1 x2 σ = some R) : ab_M l yM yX10_hidesAs cX10_hidesAs 3 (some .int) (1 + n + 1) [.inr (.inr (0, 0)), .inl x1, .inl x2] σ (some (.inl R.1)) R.2 := by
  refine ab_M_intro ndM (by decide) (Nat.le_of_ble_eq_true rfl) ?_
  intro p e s m args below meth c D cA ad C
  have C : ab_C yM p s m args meth c D cA ad cX10_hidesAs 3 RX10 (some .int) := C
  refine ab_weak (lv' := [some (.inr (.inr (0, 0))), some (.inl x1), some (.inl x2)]) ⟨.inr rfl, ⟨.inr rfl, ⟨.inr rfl, trivial⟩⟩⟩ ?_
  refine ab_iload_n C dX10_hidesAs_0 rfl ?_
  refine ab_iconst C dX10_hidesAs_1 (v := 1) rfl ?_
  refine ab_icmp_eq C (tgt := 16) dX10_hidesAs_2 (by decide) (fun hc1 => ?_) (fun hc1 => ?_)
  · replace h := ab_pos hc1 h
    refine ab_weak (lv' := [some (.inr (.inr (0, 0))), none, some (.inl x2)]) ⟨.inr rfl, ⟨.inl rfl, ⟨.inr rfl, trivial⟩⟩⟩ ?_
    exact gX10_hidesAs_b16 C hrec _ _ h
  · replace h := ab_neg hc1 h
    refine ab_iload_n C dX10_hidesAs_5 rfl ?_
    refine ab_iconst C dX10_hidesAs_6 (v := 4) rfl ?_
    refine ab_icmp_eq C (tgt := 16) dX10_hidesAs_7 (by decide) (fun hc2 => ?_) (fun hc2 => ?_)
    · replace h := ab_pos hc2 h
      refine ab_weak (lv' := [some (.inr (.inr (0, 0))), none, some (.inl x2)]) ⟨.inr rfl, ⟨.inl rfl, ⟨.inr rfl, trivial⟩⟩⟩ ?_
      exact gX10_hidesAs_b16 C hrec _ _ h
    · replace h := ab_neg hc2 h
      refine ab_iload_n C dX10_hidesAs_10 rfl ?_
      refine ab_bipush C dX10_hidesAs_11 (v := 7) rfl ?_
      refine ab_icmp_ne C (tgt := 31) dX10_hidesAs_13 (by decide) (fun hc3 => ?_) (fun hc3 => ?_)
      · replace h := ab_neg hc3 h
        refine ab_iload_n C dX10_hidesAs_31 rfl ?_
        refine ab_bipush C dX10_hidesAs_32 (v := 6) rfl ?_
        refine ab_icmp_ne C (tgt := 52) dX10_hidesAs_34 (by decide) (fun hc4 => ?_) (fun hc4 => ?_)
        · replace h := ab_neg hc4 h
          refine ab_aload_n C dX10_hidesAs_52 rfl ?_
          refine ab_iconst C dX10_hidesAs_53 (v := 1) rfl ?_
          obtain ⟨q5, hq5, h⟩ := ab_bind h
          refine ab_inv0 C dX10_hidesAs_54 mlX10_349 yvX10_begins rkM_0 ⟨_, _, rfl⟩ mmM_0 (tX10_begins l _ _ hq5) (by omega) (Nat.le_of_ble_eq_true rfl) rfl (Nat.le_of_ble_eq_true rfl) ?_
          refine ab_iload_n C dX10_hidesAs_57 rfl ?_
          refine ab_aload_n C dX10_hidesAs_58 rfl ?_
          refine ab_getI C dX10_hidesAs_59 flX10_355 rkM_0 rfl mmM_0 ?_
          refine ab_iadd C dX10_hidesAs_62  ?_
          obtain rfl := Option.some.inj h
          exact ab_iret C dX10_hidesAs_63
        · replace h := ab_pos hc4 h
          refine ab_aload_n C dX10_hidesAs_37 rfl ?_
          refine ab_bipush C dX10_hidesAs_38 (v := 70) rfl ?_
          obtain ⟨q6, hq6, h⟩ := ab_bind h
          refine ab_inv0 C dX10_hidesAs_40 mlX10_349 yvX10_begins rkM_0 ⟨_, _, rfl⟩ mmM_0 (tX10_begins l _ _ hq6) (by omega) (Nat.le_of_ble_eq_true rfl) rfl (Nat.le_of_ble_eq_true rfl) ?_
          refine ab_aload_n C dX10_hidesAs_43 rfl ?_
          refine ab_iconst C dX10_hidesAs_44 (v := 0) rfl ?_
          refine ab_iload_n C dX10_hidesAs_45 rfl ?_
          obtain ⟨q7, hq7, h⟩ := ab_bind h
          refine ab_inv1 C dX10_hidesAs_46 mlX10_352 yvX10_hidesAs rkM_0 ⟨_, _, rfl⟩ mmM_0 (hrec _ _ _ _ hq7) (by omega) (Nat.le_of_ble_eq_true rfl) rfl (Nat.le_of_ble_eq_true rfl) ?_
          refine ab_iconst C dX10_hidesAs_49 (v := 2) rfl ?_
          refine ab_imul C dX10_hidesAs_50  ?_
          obtain rfl := Option.some.inj h
          exact ab_iret C dX10_hidesAs_51
      · replace h := ab_pos hc3 h
        refine ab_weak (lv' := [some (.inr (.inr (0, 0))), none, some (.inl x2)]) ⟨.inr rfl, ⟨.inl rfl, ⟨.inr rfl, trivial⟩⟩⟩ ?_
        exact gX10_hidesAs_b16 C hrec _ _ h
end
theorem tzX10_hidesAs (l : Launch) : ∀ n : Nat, (∀ (x1 : Int32) (x2 : Int32) (σ : ab_S), ∀ (R : (Int32 × ab_S)), fX10_hidesAs n x1 x2 σ = some R → ab_M l yM yX10_hidesAs cX10_hidesAs 3 (some .int) (1 + n) [.inr (.inr (0, 0)), .inl x1, .inl x2] σ (some (.inl R.1)) R.2) := by
  intro n
  induction n with
  | zero => exact fun _ _ _ _ h => (by cases h)
  | succ n ih => exact fun a0 a1 a2 R h => tX10_hidesAs_o l ih a0 a1 a2 h
theorem tX10_hidesAs (n : Nat) (l : Launch) (x1 : Int32) (x2 : Int32) (σ : ab_S) {R : (Int32 × ab_S)} (h : fX10_hidesAs n x1 x2 σ = some R) : ab_M l yM yX10_hidesAs cX10_hidesAs 3 (some .int) (1 + n) [.inr (.inr (0, 0)), .inl x1, .inl x2] σ (some (.inl R.1)) R.2 := (tzX10_hidesAs l n) x1 x2 σ  R h
def fX10_asksAs_b10 (rc0 : Int32 → Int32 → ab_S → Option (Int32 × ab_S)) (v2 : Int32) (σ : ab_S) : Option (Int32 × ab_S) := (fX10_begins 40 σ).bind fun q1 => (rc0 2 v2 q1).bind fun q2 => some (q2.1 * 3, q2.2)
def fX10_asksAs_b36 (rc0 : Int32 → Int32 → ab_S → Option (Int32 × ab_S)) (v2 : Int32) (σ : ab_S) : Option (Int32 × ab_S) := (fX10_begins 50 σ).bind fun q1 => (rc0 1 v2 q1).bind fun q2 => ((fX10_hidesAs 64) (q2.2.1 0 0 39) 2 q2.2).bind fun q3 => some (q2.1 - q3.1, q3.2)
def fX10_asksAs_o (rc0 : Int32 → Int32 → ab_S → Option (Int32 × ab_S)) (x1 : Int32) (x2 : Int32) (σ : ab_S) : Option (Int32 × ab_S) := (if x1 = 3 then fX10_asksAs_b10 rc0 x2 σ else (if x1 = 5 then fX10_asksAs_b10 rc0 x2 σ else (if x1 = 4 then fX10_asksAs_b36 rc0 x2 σ else (if x1 = 7 then fX10_asksAs_b36 rc0 x2 σ else (fX10_begins 11 σ).bind fun q5 => some (x2 ^^^ (q5.1 0 0 40), q5)))))
def fzX10_asksAs : Nat → (Int32 → Int32 → ab_S → Option (Int32 × ab_S))
  | 0 => fun _ _ _ => none
  | n + 1 => fX10_asksAs_o ((fzX10_asksAs n))
def fX10_asksAs (n : Nat) (x1 : Int32) (x2 : Int32) (σ : ab_S) : Option (Int32 × ab_S) := (fzX10_asksAs n) x1 x2 σ
section
variable {p : Program} {l : Launch} {e : Env} {s : State} {m : MethodId} {args : Array Value} {below : List Frame} {meth : Method} {c : Code} {D : va_G} {cA : Nat → ClassId} {ad : Nat → Nat → Nat}
set_option maxRecDepth 100000 in
set_option maxHeartbeats 4000000 in
theorem gX10_asksAs_b10 {n : Nat} {R : (Int32 × ab_S)} {rc0 : Int32 → Int32 → ab_S → Option (Int32 × ab_S)} (C : ab_C yM p s m args meth c D cA ad cX10_asksAs 4 RX10 (some .int)) (hrec : (∀ (x1 : Int32) (x2 : Int32) (σ : ab_S), ∀ (R : (Int32 × ab_S)), rc0 x1 x2 σ = some R → ab_M l yM yX10_asksAs cX10_asksAs 4 (some .int) (66 + n) [.inr (.inr (0, 0)), .inl x1, .inl x2] σ (some (.inl R.1)) R.2)) (v2 : Int32) (σ : ab_S) (h : fX10_asksAs_b10 rc0 v2 σ = some R) : ab_G yM p l e s m args below meth c D cA ad 4 (66 + n + 1) (some (.inl R.1)) R.2 10 [some (.inr (.inr (0, 0))), none, some (.inl v2), none] [] σ := by
  refine ab_aload_n C dX10_asksAs_10 rfl ?_
  refine ab_bipush C dX10_asksAs_11 (v := 40) rfl ?_
  obtain ⟨q1, hq1, h⟩ := ab_bind h
  refine ab_inv0 C dX10_asksAs_13 mlX10_349 yvX10_begins rkM_0 ⟨_, _, rfl⟩ mmM_0 (tX10_begins l _ _ hq1) (by omega) (Nat.le_of_ble_eq_true rfl) rfl (Nat.le_of_ble_eq_true rfl) ?_
  refine ab_aload_n C dX10_asksAs_16 rfl ?_
  refine ab_iconst C dX10_asksAs_17 (v := 2) rfl ?_
  refine ab_iload_n C dX10_asksAs_18 rfl ?_
  obtain ⟨q2, hq2, h⟩ := ab_bind h
  refine ab_inv1 C dX10_asksAs_19 mlX10_364 yvX10_asksAs rkM_0 ⟨_, _, rfl⟩ mmM_0 (hrec _ _ _ _ hq2) (by omega) (Nat.le_of_ble_eq_true rfl) rfl (Nat.le_of_ble_eq_true rfl) ?_
  refine ab_iconst C dX10_asksAs_22 (v := 3) rfl ?_
  refine ab_imul C dX10_asksAs_23  ?_
  obtain rfl := Option.some.inj h
  exact ab_iret C dX10_asksAs_24
set_option maxRecDepth 100000 in
set_option maxHeartbeats 4000000 in
theorem gX10_asksAs_b36 {n : Nat} {R : (Int32 × ab_S)} {rc0 : Int32 → Int32 → ab_S → Option (Int32 × ab_S)} (C : ab_C yM p s m args meth c D cA ad cX10_asksAs 4 RX10 (some .int)) (hrec : (∀ (x1 : Int32) (x2 : Int32) (σ : ab_S), ∀ (R : (Int32 × ab_S)), rc0 x1 x2 σ = some R → ab_M l yM yX10_asksAs cX10_asksAs 4 (some .int) (66 + n) [.inr (.inr (0, 0)), .inl x1, .inl x2] σ (some (.inl R.1)) R.2)) (v2 : Int32) (σ : ab_S) (h : fX10_asksAs_b36 rc0 v2 σ = some R) : ab_G yM p l e s m args below meth c D cA ad 4 (66 + n + 1) (some (.inl R.1)) R.2 36 [some (.inr (.inr (0, 0))), none, some (.inl v2), none] [] σ := by
  refine ab_aload_n C dX10_asksAs_36 rfl ?_
  refine ab_bipush C dX10_asksAs_37 (v := 50) rfl ?_
  obtain ⟨q1, hq1, h⟩ := ab_bind h
  refine ab_inv0 C dX10_asksAs_39 mlX10_349 yvX10_begins rkM_0 ⟨_, _, rfl⟩ mmM_0 (tX10_begins l _ _ hq1) (by omega) (Nat.le_of_ble_eq_true rfl) rfl (Nat.le_of_ble_eq_true rfl) ?_
  refine ab_aload_n C dX10_asksAs_42 rfl ?_
  refine ab_iconst C dX10_asksAs_43 (v := 1) rfl ?_
  refine ab_iload_n C dX10_asksAs_44 rfl ?_
  obtain ⟨q2, hq2, h⟩ := ab_bind h
  refine ab_inv1 C dX10_asksAs_45 mlX10_364 yvX10_asksAs rkM_0 ⟨_, _, rfl⟩ mmM_0 (hrec _ _ _ _ hq2) (by omega) (Nat.le_of_ble_eq_true rfl) rfl (Nat.le_of_ble_eq_true rfl) ?_
  refine ab_istore_n C dX10_asksAs_48 (Nat.le_of_ble_eq_true rfl) ?_
  refine ab_iload_n C dX10_asksAs_49 rfl ?_
  refine ab_aload_n C dX10_asksAs_50 rfl ?_
  refine ab_aload_n C dX10_asksAs_51 rfl ?_
  refine ab_getI C dX10_asksAs_52 flX10_361 rkM_0 rfl mmM_0 ?_
  refine ab_iconst C dX10_asksAs_55 (v := 2) rfl ?_
  obtain ⟨q3, hq3, h⟩ := ab_bind h
  refine ab_inv1 C dX10_asksAs_56 mlX10_352 yvX10_hidesAs rkM_0 ⟨_, _, rfl⟩ mmM_0 (tX10_hidesAs 64 l _ _ _ hq3) (by omega) (Nat.le_of_ble_eq_true rfl) rfl (Nat.le_of_ble_eq_true rfl) ?_
  refine ab_isub C dX10_asksAs_59  ?_
  obtain rfl := Option.some.inj h
  exact ab_iret C dX10_asksAs_60
set_option maxRecDepth 100000 in
set_option maxHeartbeats 4000000 in
theorem tX10_asksAs_o (l : Launch) {n : Nat} {rc0 : Int32 → Int32 → ab_S → Option (Int32 × ab_S)} (hrec : (∀ (x1 : Int32) (x2 : Int32) (σ : ab_S), ∀ (R : (Int32 × ab_S)), rc0 x1 x2 σ = some R → ab_M l yM yX10_asksAs cX10_asksAs 4 (some .int) (66 + n) [.inr (.inr (0, 0)), .inl x1, .inl x2] σ (some (.inl R.1)) R.2)) (x1 : Int32) (x2 : Int32) (σ : ab_S) {R : (Int32 × ab_S)} (h : fX10_asksAs_o rc0 x1 x2 σ = some R) : ab_M l yM yX10_asksAs cX10_asksAs 4 (some .int) (66 + n + 1) [.inr (.inr (0, 0)), .inl x1, .inl x2] σ (some (.inl R.1)) R.2 := by
  refine ab_M_intro ndM (by decide) (Nat.le_of_ble_eq_true rfl) ?_
  intro p e s m args below meth c D cA ad C
  have C : ab_C yM p s m args meth c D cA ad cX10_asksAs 4 RX10 (some .int) := C
  refine ab_weak (lv' := [some (.inr (.inr (0, 0))), some (.inl x1), some (.inl x2), none]) ⟨.inr rfl, ⟨.inr rfl, ⟨.inr rfl, ⟨.inl rfl, trivial⟩⟩⟩⟩ ?_
  refine ab_iload_n C dX10_asksAs_0 rfl ?_
  refine ab_iconst C dX10_asksAs_1 (v := 3) rfl ?_
  refine ab_icmp_eq C (tgt := 10) dX10_asksAs_2 (by decide) (fun hc1 => ?_) (fun hc1 => ?_)
  · replace h := ab_pos hc1 h
    refine ab_weak (lv' := [some (.inr (.inr (0, 0))), none, some (.inl x2), none]) ⟨.inr rfl, ⟨.inl rfl, ⟨.inr rfl, ⟨.inl rfl, trivial⟩⟩⟩⟩ ?_
    exact gX10_asksAs_b10 C hrec _ _ h
  · replace h := ab_neg hc1 h
    refine ab_iload_n C dX10_asksAs_5 rfl ?_
    refine ab_iconst C dX10_asksAs_6 (v := 5) rfl ?_
    refine ab_icmp_ne C (tgt := 25) dX10_asksAs_7 (by decide) (fun hc2 => ?_) (fun hc2 => ?_)
    · replace h := ab_neg hc2 h
      refine ab_iload_n C dX10_asksAs_25 rfl ?_
      refine ab_iconst C dX10_asksAs_26 (v := 4) rfl ?_
      refine ab_icmp_eq C (tgt := 36) dX10_asksAs_27 (by decide) (fun hc3 => ?_) (fun hc3 => ?_)
      · replace h := ab_pos hc3 h
        refine ab_weak (lv' := [some (.inr (.inr (0, 0))), none, some (.inl x2), none]) ⟨.inr rfl, ⟨.inl rfl, ⟨.inr rfl, ⟨.inl rfl, trivial⟩⟩⟩⟩ ?_
        exact gX10_asksAs_b36 C hrec _ _ h
      · replace h := ab_neg hc3 h
        refine ab_iload_n C dX10_asksAs_30 rfl ?_
        refine ab_bipush C dX10_asksAs_31 (v := 7) rfl ?_
        refine ab_icmp_ne C (tgt := 61) dX10_asksAs_33 (by decide) (fun hc4 => ?_) (fun hc4 => ?_)
        · replace h := ab_neg hc4 h
          refine ab_aload_n C dX10_asksAs_61 rfl ?_
          refine ab_bipush C dX10_asksAs_62 (v := 11) rfl ?_
          obtain ⟨q5, hq5, h⟩ := ab_bind h
          refine ab_inv0 C dX10_asksAs_64 mlX10_349 yvX10_begins rkM_0 ⟨_, _, rfl⟩ mmM_0 (tX10_begins l _ _ hq5) (by omega) (Nat.le_of_ble_eq_true rfl) rfl (Nat.le_of_ble_eq_true rfl) ?_
          refine ab_iload_n C dX10_asksAs_67 rfl ?_
          refine ab_aload_n C dX10_asksAs_68 rfl ?_
          refine ab_getI C dX10_asksAs_69 flX10_355 rkM_0 rfl mmM_0 ?_
          refine ab_ixor C dX10_asksAs_72  ?_
          obtain rfl := Option.some.inj h
          exact ab_iret C dX10_asksAs_73
        · replace h := ab_pos hc4 h
          refine ab_weak (lv' := [some (.inr (.inr (0, 0))), none, some (.inl x2), none]) ⟨.inr rfl, ⟨.inl rfl, ⟨.inr rfl, ⟨.inl rfl, trivial⟩⟩⟩⟩ ?_
          exact gX10_asksAs_b36 C hrec _ _ h
    · replace h := ab_pos hc2 h
      refine ab_weak (lv' := [some (.inr (.inr (0, 0))), none, some (.inl x2), none]) ⟨.inr rfl, ⟨.inl rfl, ⟨.inr rfl, ⟨.inl rfl, trivial⟩⟩⟩⟩ ?_
      exact gX10_asksAs_b10 C hrec _ _ h
end
theorem tzX10_asksAs (l : Launch) : ∀ n : Nat, (∀ (x1 : Int32) (x2 : Int32) (σ : ab_S), ∀ (R : (Int32 × ab_S)), fX10_asksAs n x1 x2 σ = some R → ab_M l yM yX10_asksAs cX10_asksAs 4 (some .int) (66 + n) [.inr (.inr (0, 0)), .inl x1, .inl x2] σ (some (.inl R.1)) R.2) := by
  intro n
  induction n with
  | zero => exact fun _ _ _ _ h => (by cases h)
  | succ n ih => exact fun a0 a1 a2 R h => tX10_asksAs_o l ih a0 a1 a2 h
theorem tX10_asksAs (n : Nat) (l : Launch) (x1 : Int32) (x2 : Int32) (σ : ab_S) {R : (Int32 × ab_S)} (h : fX10_asksAs n x1 x2 σ = some R) : ab_M l yM yX10_asksAs cX10_asksAs 4 (some .int) (66 + n) [.inr (.inr (0, 0)), .inl x1, .inl x2] σ (some (.inl R.1)) R.2 := (tzX10_asksAs l n) x1 x2 σ  R h
