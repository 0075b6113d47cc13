def fX10_isShelf (x0 : Int32) : Option Int32 := (fX10_within ((x0 : Int32).toInt64) 0 5).bind fun q1 => (if ab_isb q1 = true then some q1 else none)
section
variable {p : Program} {l : Launch} {e : Env} {s : State} {m : MethodId} {args : Array Value} {below : List Frame} {meth : Method} {c : Code} {D : va_G} {cA : Nat → ClassId} {ad : Nat → Nat → Nat}
set_option maxRecDepth 100000 in
set_option maxHeartbeats 4000000 in
theorem tX10_isShelf (l : Launch) (x0 : Int32) (σ : ab_S) {R : Int32} (h : fX10_isShelf x0 = some R) : ab_M l yM yX10_isShelf cX10_isShelf 1 (some .boolean) 1 [.inl x0] σ (some (.inl R)) σ := by
  refine ab_M_intro ndM (by decide) (Nat.le_of_ble_eq_true rfl) ?_
  intro p e s m args below meth c D cA ad C
  have C : ab_C yM p s m args meth c D cA ad cX10_isShelf 1 RX10 (some .boolean) := C
  refine ab_weak (lv' := [some (.inl x0)]) ⟨.inr rfl, trivial⟩ ?_
  refine ab_iload_n C dX10_isShelf_0 rfl ?_
  refine ab_i2l C dX10_isShelf_1  ?_
  refine ab_lconst C dX10_isShelf_2 (v := 0) rfl ?_
  refine ab_ldc2 C dX10_isShelf_3 cwX10_111 ?_
  obtain ⟨q1, hq1, h⟩ := ab_bind h
  refine ab_invS1 C dX10_isShelf_6 mlX10_105 ysX10_within (tX10_within l _ _ _ _ hq1) (Nat.le_of_ble_eq_true rfl) (Nat.le_of_ble_eq_true rfl) rfl (Nat.le_of_ble_eq_true rfl) ?_
  obtain ⟨hg2, h⟩ := ab_grd h
  obtain rfl := Option.some.inj h
  exact ab_zret C dX10_isShelf_9 hg2
end
def fX10_refusal_b55 (t0 : Int32) (σ : ab_S) : Option Int32 := some t0
def fX10_refusal_b53 (σ : ab_S) : Option Int32 := fX10_refusal_b55 ((-13)) σ
def fX10_refusal (x1 : Int32) (x2 : Int32) (σ : ab_S) : Option Int32 := (fX10_isShelf x1).bind fun q1 => (if q1 = 0 then some ((-1)) else (if ab_inb x1 6 = true then (if 0 ≤ (σ.1 20 0 x1.toNatClampNeg) then (if ab_inb x1 6 = true then (if 50 ≤ (σ.1 20 0 x1.toNatClampNeg) then (if x2 < 0 then fX10_refusal_b53 σ else (if ab_inb x1 6 = true then (if (σ.1 21 0 x1.toNatClampNeg) ≤ x2 then fX10_refusal_b53 σ else fX10_refusal_b55 0 σ) else none)) else some ((-12))) else none) else some ((-11))) else none))
section
variable {p : Program} {l : Launch} {e : Env} {s : State} {m : MethodId} {args : Array Value} {below : List Frame} {meth : Method} {c : Code} {D : va_G} {cA : Nat → ClassId} {ad : Nat → Nat → Nat}
set_option maxRecDepth 100000 in
set_option maxHeartbeats 4000000 in
theorem gX10_refusal_b55 {R : Int32} (C : ab_C yM p s m args meth c D cA ad cX10_refusal 3 RX10 (some .int)) (σ : ab_S) (t0 : Int32) (h : fX10_refusal_b55 t0 σ = some R) : ab_G yM p l e s m args below meth c D cA ad 3 2 (some (.inl R)) σ 55 [none, none, none] [.inl t0] σ := by
  obtain rfl := Option.some.inj h
  exact ab_iret C dX10_refusal_55
set_option maxRecDepth 100000 in
set_option maxHeartbeats 4000000 in
theorem gX10_refusal_b53 {R : Int32} (C : ab_C yM p s m args meth c D cA ad cX10_refusal 3 RX10 (some .int)) (σ : ab_S) (h : fX10_refusal_b53 σ = some R) : ab_G yM p l e s m args below meth c D cA ad 3 2 (some (.inl R)) σ 53 [none, none, none] [] σ := by
  refine ab_bipush C dX10_refusal_53 (v := (-13)) rfl ?_
  refine ab_weak (lv' := [none, none, none]) ⟨.inl rfl, ⟨.inl rfl, ⟨.inl rfl, trivial⟩⟩⟩ ?_
  exact gX10_refusal_b55 C _ _ h
set_option maxRecDepth 100000 in
set_option maxHeartbeats 4000000 in
theorem tX10_refusal (l : Launch) (x1 : Int32) (x2 : Int32) (σ : ab_S) {R : Int32} (h : fX10_refusal x1 x2 σ = some R) : ab_M l yM yX10_refusal cX10_refusal 3 (some .int) 2 [.inr (.inr (0, 0)), .inl x1, .inl x2] σ (some (.inl R)) σ := by
  refine ab_M_intro ndM (by decide) (Nat.le_of_ble_eq_true rfl) ?_
  intro p e s m args below meth c D cA ad C
  have C : ab_C yM p s m args meth c D cA ad cX10_refusal 3 RX10 (some .int) := C
  refine ab_weak (lv' := [some (.inr (.inr (0, 0))), some (.inl x1), some (.inl x2)]) ⟨.inr rfl, ⟨.inr rfl, ⟨.inr rfl, trivial⟩⟩⟩ ?_
  refine ab_iload_n C dX10_refusal_0 rfl ?_
  obtain ⟨q1, hq1, h⟩ := ab_bind h
  refine ab_invS1 C dX10_refusal_1 mlX10_113 ysX10_isShelf (tX10_isShelf l _ _ hq1) (Nat.le_of_ble_eq_true rfl) (Nat.le_of_ble_eq_true rfl) rfl (Nat.le_of_ble_eq_true rfl) ?_
  refine ab_if_ne C (tgt := 9) dX10_refusal_4 (by decide) (fun hc2 => ?_) (fun hc2 => ?_)
  · replace h := ab_neg hc2 h
    refine ab_aload_n C dX10_refusal_9 rfl ?_
    refine ab_getR C dX10_refusal_10 flX10_70 rkM_0 rfl mmM_0 ?_
    refine ab_iload_n C dX10_refusal_13 rfl ?_
    obtain ⟨hg3, h⟩ := ab_grd h
    refine ab_iald C dX10_refusal_14 rkM_20 mmM_20 hg3 ?_
    refine ab_if_ge C (tgt := 21) dX10_refusal_15 (by decide) (fun hc4 => ?_) (fun hc4 => ?_)
    · replace h := ab_pos hc4 h
      refine ab_aload_n C dX10_refusal_21 rfl ?_
      refine ab_getR C dX10_refusal_22 flX10_70 rkM_0 rfl mmM_0 ?_
      refine ab_iload_n C dX10_refusal_25 rfl ?_
      obtain ⟨hg5, h⟩ := ab_grd h
      refine ab_iald C dX10_refusal_26 rkM_20 mmM_20 hg5 ?_
      refine ab_bipush C dX10_refusal_27 (v := 50) rfl ?_
      refine ab_icmp_ge C (tgt := 35) dX10_refusal_29 (by decide) (fun hc6 => ?_) (fun hc6 => ?_)
      · replace h := ab_pos hc6 h
        refine ab_iload_n C dX10_refusal_35 rfl ?_
        refine ab_if_lt C (tgt := 53) dX10_refusal_36 (by decide) (fun hc7 => ?_) (fun hc7 => ?_)
        · replace h := ab_pos hc7 h
          refine ab_weak (lv' := [none, none, none]) ⟨.inl rfl, ⟨.inl rfl, ⟨.inl rfl, trivial⟩⟩⟩ ?_
          exact gX10_refusal_b53 C _ h
        · replace h := ab_neg hc7 h
          refine ab_iload_n C dX10_refusal_39 rfl ?_
          refine ab_aload_n C dX10_refusal_40 rfl ?_
          refine ab_getR C dX10_refusal_41 flX10_73 rkM_0 rfl mmM_0 ?_
          refine ab_iload_n C dX10_refusal_44 rfl ?_
          obtain ⟨hg8, h⟩ := ab_grd h
          refine ab_iald C dX10_refusal_45 rkM_21 mmM_21 hg8 ?_
          refine ab_icmp_ge C (tgt := 53) dX10_refusal_46 (by decide) (fun hc9 => ?_) (fun hc9 => ?_)
          · replace h := ab_pos hc9 h
            refine ab_weak (lv' := [none, none, none]) ⟨.inl rfl, ⟨.inl rfl, ⟨.inl rfl, trivial⟩⟩⟩ ?_
            exact gX10_refusal_b53 C _ h
          · replace h := ab_neg hc9 h
            refine ab_iconst C dX10_refusal_49 (v := 0) rfl ?_
            refine ab_goto C (tgt := 55) dX10_refusal_50 (by decide) ?_
            refine ab_weak (lv' := [none, none, none]) ⟨.inl rfl, ⟨.inl rfl, ⟨.inl rfl, trivial⟩⟩⟩ ?_
            exact gX10_refusal_b55 C _ _ h
      · replace h := ab_neg hc6 h
        refine ab_bipush C dX10_refusal_32 (v := (-12)) rfl ?_
        obtain rfl := Option.some.inj h
        exact ab_iret C dX10_refusal_34
    · replace h := ab_neg hc4 h
      refine ab_bipush C dX10_refusal_18 (v := (-11)) rfl ?_
      obtain rfl := Option.some.inj h
      exact ab_iret C dX10_refusal_20
  · replace h := ab_pos hc2 h
    refine ab_iconst C dX10_refusal_7 (v := (-1)) rfl ?_
    obtain rfl := Option.some.inj h
    exact ab_iret C dX10_refusal_8
end
def fX10_element_b26 (t0 : Int64) (σ : ab_S) : Option Int64 := some t0
def fX10_element (x1 : Int32) (x2 : Int32) (σ : ab_S) : Option Int64 := (fX10_refusal x1 x2 σ).bind fun q1 => (if q1 = 0 then (if ab_inb ((60 * x1) + x2) 360 = true then fX10_element_b26 (σ.2 22 0 (((60 * x1) + x2).toNatClampNeg)) σ else none) else fX10_element_b26 ((-9223372036854775808)) σ)
section
variable {p : Program} {l : Launch} {e : Env} {s : State} {m : MethodId} {args : Array Value} {below : List Frame} {meth : Method} {c : Code} {D : va_G} {cA : Nat → ClassId} {ad : Nat → Nat → Nat}
set_option maxRecDepth 100000 in
set_option maxHeartbeats 4000000 in
theorem gX10_element_b26 {R : Int64} (C : ab_C yM p s m args meth c D cA ad cX10_element 3 RX10 (some .long)) (σ : ab_S) (t0 : Int64) (h : fX10_element_b26 t0 σ = some R) : ab_G yM p l e s m args below meth c D cA ad 3 3 (some (.inr (.inl R))) σ 26 [none, none, none] [.inr (.inl t0)] σ := by
  obtain rfl := Option.some.inj h
  exact ab_lret C dX10_element_26
set_option maxRecDepth 100000 in
set_option maxHeartbeats 4000000 in
theorem tX10_element (l : Launch) (x1 : Int32) (x2 : Int32) (σ : ab_S) {R : Int64} (h : fX10_element x1 x2 σ = some R) : ab_M l yM yX10_element cX10_element 3 (some .long) 3 [.inr (.inr (0, 0)), .inl x1, .inl x2] σ (some (.inr (.inl R))) σ := by
  refine ab_M_intro ndM (by decide) (Nat.le_of_ble_eq_true rfl) ?_
  intro p e s m args below meth c D cA ad C
  have C : ab_C yM p s m args meth c D cA ad cX10_element 3 RX10 (some .long) := C
  refine ab_weak (lv' := [some (.inr (.inr (0, 0))), some (.inl x1), some (.inl x2)]) ⟨.inr rfl, ⟨.inr rfl, ⟨.inr rfl, trivial⟩⟩⟩ ?_
  refine ab_aload_n C dX10_element_0 rfl ?_
  refine ab_iload_n C dX10_element_1 rfl ?_
  refine ab_iload_n C dX10_element_2 rfl ?_
  obtain ⟨q1, hq1, h⟩ := ab_bind h
  refine ab_inv1 C dX10_element_3 mlX10_373 yvX10_refusal rkM_0 ⟨_, _, rfl⟩ mmM_0 (tX10_refusal l _ _ _ hq1) (Nat.le_of_ble_eq_true rfl) (Nat.le_of_ble_eq_true rfl) rfl (Nat.le_of_ble_eq_true rfl) ?_
  refine ab_if_eq C (tgt := 15) dX10_element_6 (by decide) (fun hc2 => ?_) (fun hc2 => ?_)
  · replace h := ab_pos hc2 h
    refine ab_aload_n C dX10_element_15 rfl ?_
    refine ab_getR C dX10_element_16 flX10_76 rkM_0 rfl mmM_0 ?_
    refine ab_bipush C dX10_element_19 (v := 60) rfl ?_
    refine ab_iload_n C dX10_element_21 rfl ?_
    refine ab_imul C dX10_element_22  ?_
    refine ab_iload_n C dX10_element_23 rfl ?_
    refine ab_iadd C dX10_element_24  ?_
    obtain ⟨hg3, h⟩ := ab_grd h
    refine ab_lald C dX10_element_25 rkM_22 mmM_22 hg3 ?_
    refine ab_weak (lv' := [none, none, none]) ⟨.inl rfl, ⟨.inl rfl, ⟨.inl rfl, trivial⟩⟩⟩ ?_
    exact gX10_element_b26 C _ _ h
  · replace h := ab_neg hc2 h
    refine ab_ldc2 C dX10_element_9 cwX10_220 ?_
    refine ab_goto C (tgt := 26) dX10_element_12 (by decide) ?_
    refine ab_weak (lv' := [none, none, none]) ⟨.inl rfl, ⟨.inl rfl, ⟨.inl rfl, trivial⟩⟩⟩ ?_
    exact gX10_element_b26 C _ _ h
end
def fX10_feed (x1 : Int32) (σ : ab_S) : Option (Int32 × ab_S) := (fX10_within ((x1 : Int32).toInt64) 0 255).bind fun q1 => (if q1 = 0 then some ((-1), σ) else (if (σ.1 0 0 14) = 120 then some ((-3), σ) else (if ab_inb (σ.1 0 0 14) 120 = true then ab_k (ab_si σ 8 0 ((σ.1 0 0 14).toNatClampNeg) x1) fun σ5 => ab_k (ab_si σ5 0 0 14 ((σ5.1 0 0 14) + 1)) fun σ6 => some (σ6.1 0 0 14, σ6) else none)))
section
variable {p : Program} {l : Launch} {e : Env} {s : State} {m : MethodId} {args : Array Value} {below : List Frame} {meth : Method} {c : Code} {D : va_G} {cA : Nat → ClassId} {ad : Nat → Nat → Nat}
set_option maxRecDepth 100000 in
set_option maxHeartbeats 4000000 in
theorem tX10_feed (l : Launch) (x1 : Int32) (σ : ab_S) {R : (Int32 × ab_S)} (h : fX10_feed x1 σ = some R) : ab_M l yM yX10_feed cX10_feed 2 (some .int) 1 [.inr (.inr (0, 0)), .inl x1] σ (some (.inl R.1)) R.2 := by
  refine ab_M_intro ndM (by decide) (Nat.le_of_ble_eq_true rfl) ?_
  intro p e s m args below meth c D cA ad C
  have C : ab_C yM p s m args meth c D cA ad cX10_feed 2 RX10 (some .int) := C
  refine ab_weak (lv' := [some (.inr (.inr (0, 0))), some (.inl x1)]) ⟨.inr rfl, ⟨.inr rfl, trivial⟩⟩ ?_
  refine ab_iload_n C dX10_feed_0 rfl ?_
  refine ab_i2l C dX10_feed_1  ?_
  refine ab_lconst C dX10_feed_2 (v := 0) rfl ?_
  refine ab_ldc2 C dX10_feed_3 cwX10_149 ?_
  obtain ⟨q1, hq1, h⟩ := ab_bind h
  refine ab_invS1 C dX10_feed_6 mlX10_105 ysX10_within (tX10_within l _ _ _ _ hq1) (Nat.le_of_ble_eq_true rfl) (Nat.le_of_ble_eq_true rfl) rfl (Nat.le_of_ble_eq_true rfl) ?_
  refine ab_if_ne C (tgt := 14) dX10_feed_9 (by decide) (fun hc2 => ?_) (fun hc2 => ?_)
  · replace h := ab_neg hc2 h
    refine ab_aload_n C dX10_feed_14 rfl ?_
    refine ab_getI C dX10_feed_15 flX10_151 rkM_0 rfl mmM_0 ?_
    refine ab_bipush C dX10_feed_18 (v := 120) rfl ?_
    refine ab_icmp_ne C (tgt := 26) dX10_feed_20 (by decide) (fun hc3 => ?_) (fun hc3 => ?_)
    · replace h := ab_neg hc3 h
      refine ab_aload_n C dX10_feed_26 rfl ?_
      refine ab_getR C dX10_feed_27 flX10_33 rkM_0 rfl mmM_0 ?_
      refine ab_aload_n C dX10_feed_30 rfl ?_
      refine ab_getI C dX10_feed_31 flX10_151 rkM_0 rfl mmM_0 ?_
      refine ab_iload_n C dX10_feed_34 rfl ?_
      obtain ⟨hg4, h⟩ := ab_grd h
      refine ab_iast C dX10_feed_35 rkM_8 mmM_8 hg4 ?_
      refine ab_nmS (fun σ5 eσ5 => ?_)
      replace h := ab_kh eσ5 h
      refine ab_aload_n C dX10_feed_36 rfl ?_
      refine ab_dup C dX10_feed_37 rfl ?_
      refine ab_getI C dX10_feed_38 flX10_151 rkM_0 rfl mmM_0 ?_
      refine ab_iconst C dX10_feed_41 (v := 1) rfl ?_
      refine ab_iadd C dX10_feed_42  ?_
      refine ab_putI C dX10_feed_43 fpX10_151 rkM_0 rfl mmM_0 rfl rfl ?_
      refine ab_nmS (fun σ6 eσ6 => ?_)
      replace h := ab_kh eσ6 h
      refine ab_aload_n C dX10_feed_46 rfl ?_
      refine ab_getI C dX10_feed_47 flX10_151 rkM_0 rfl mmM_0 ?_
      obtain rfl := Option.some.inj h
      exact ab_iret C dX10_feed_50
    · replace h := ab_pos hc3 h
      refine ab_bipush C dX10_feed_23 (v := (-3)) rfl ?_
      obtain rfl := Option.some.inj h
      exact ab_iret C dX10_feed_25
  · replace h := ab_pos hc2 h
    refine ab_iconst C dX10_feed_12 (v := (-1)) rfl ?_
    obtain rfl := Option.some.inj h
    exact ab_iret C dX10_feed_13
end
def fX10_partOf_b33 (t0 : Int64) : Option Int64 := some t0
def fX10_partOf (x0 : Int64) (x2 : Int64) (x4 : Int32) : Option Int64 := (if (lg_cmp x0 0) = 0 then some ((x4 : Int32).toInt64) else (fX10_commonOf x2 x0).bind fun q2 => (if x4 = 0 then (if q2 = 0 then none else fX10_partOf_b33 (x0 / q2)) else (if q2 = 0 then none else fX10_partOf_b33 (x2 / q2))))
section
variable {p : Program} {l : Launch} {e : Env} {s : State} {m : MethodId} {args : Array Value} {below : List Frame} {meth : Method} {c : Code} {D : va_G} {cA : Nat → ClassId} {ad : Nat → Nat → Nat}
set_option maxRecDepth 100000 in
set_option maxHeartbeats 4000000 in
theorem gX10_partOf_b33 {R : Int64} (C : ab_C yM p s m args meth c D cA ad cX10_partOf 7 RX10 (some .long)) {σ : ab_S} (t0 : Int64) (h : fX10_partOf_b33 t0 = some R) : ab_G yM p l e s m args below meth c D cA ad 7 1 (some (.inr (.inl R))) σ 33 [none, none, none, none, none, none, none] [.inr (.inl t0)] σ := by
  obtain rfl := Option.some.inj h
  exact ab_lret C dX10_partOf_33
set_option maxRecDepth 100000 in
set_option maxHeartbeats 4000000 in
theorem tX10_partOf (l : Launch) (x0 : Int64) (x2 : Int64) (x4 : Int32) (σ : ab_S) {R : Int64} (h : fX10_partOf x0 x2 x4 = some R) : ab_M l yM yX10_partOf cX10_partOf 7 (some .long) 1 [.inr (.inl x0), .inr (.inl x2), .inl x4] σ (some (.inr (.inl R))) σ := by
  refine ab_M_intro ndM (by decide) (Nat.le_of_ble_eq_true rfl) ?_
  intro p e s m args below meth c D cA ad C
  have C : ab_C yM p s m args meth c D cA ad cX10_partOf 7 RX10 (some .long) := C
  refine ab_weak (lv' := [some (.inr (.inl x0)), none, some (.inr (.inl x2)), none, some (.inl x4), none, none]) ⟨.inr rfl, ⟨.inl rfl, ⟨.inr rfl, ⟨.inl rfl, ⟨.inr rfl, ⟨.inl rfl, ⟨.inl rfl, trivial⟩⟩⟩⟩⟩⟩⟩ ?_
  refine ab_lload_n C dX10_partOf_0 rfl ?_
  refine ab_lconst C dX10_partOf_1 (v := 0) rfl ?_
  refine ab_lcmp C dX10_partOf_2  ?_
  refine ab_if_ne C (tgt := 10) dX10_partOf_3 (by decide) (fun hc1 => ?_) (fun hc1 => ?_)
  · replace h := ab_neg hc1 h
    refine ab_lload_n C dX10_partOf_10 rfl ?_
    refine ab_lload_n C dX10_partOf_11 rfl ?_
    obtain ⟨q2, hq2, h⟩ := ab_bind h
    refine ab_invS1 C dX10_partOf_12 mlX10_209 ysX10_commonOf (tX10_commonOf l _ _ _ hq2) (Nat.le_of_ble_eq_true rfl) (Nat.le_of_ble_eq_true rfl) rfl (Nat.le_of_ble_eq_true rfl) ?_
    refine ab_lstore C dX10_partOf_15 (Nat.le_of_ble_eq_true rfl) ?_
    refine ab_iload C dX10_partOf_17 rfl ?_
    refine ab_if_ne C (tgt := 29) dX10_partOf_19 (by decide) (fun hc3 => ?_) (fun hc3 => ?_)
    · replace h := ab_neg hc3 h
      refine ab_lload_n C dX10_partOf_29 rfl ?_
      refine ab_lload C dX10_partOf_30 rfl ?_
      obtain ⟨hg4, h⟩ := ab_grn h
      refine ab_ldiv C dX10_partOf_32 hg4 ?_
      refine ab_weak (lv' := [none, none, none, none, none, none, none]) ⟨.inl rfl, ⟨.inl rfl, ⟨.inl rfl, ⟨.inl rfl, ⟨.inl rfl, ⟨.inl rfl, ⟨.inl rfl, trivial⟩⟩⟩⟩⟩⟩⟩ ?_
      exact gX10_partOf_b33 C _ h
    · replace h := ab_pos hc3 h
      refine ab_lload_n C dX10_partOf_22 rfl ?_
      refine ab_lload C dX10_partOf_23 rfl ?_
      obtain ⟨hg5, h⟩ := ab_grn h
      refine ab_ldiv C dX10_partOf_25 hg5 ?_
      refine ab_goto C (tgt := 33) dX10_partOf_26 (by decide) ?_
      refine ab_weak (lv' := [none, none, none, none, none, none, none]) ⟨.inl rfl, ⟨.inl rfl, ⟨.inl rfl, ⟨.inl rfl, ⟨.inl rfl, ⟨.inl rfl, ⟨.inl rfl, trivial⟩⟩⟩⟩⟩⟩⟩ ?_
      exact gX10_partOf_b33 C _ h
  · replace h := ab_pos hc1 h
    refine ab_iload C dX10_partOf_6 rfl ?_
    refine ab_i2l C dX10_partOf_8  ?_
    obtain rfl := Option.some.inj h
    exact ab_lret C dX10_partOf_9
end
def fX10_gain_b55 (t0 : Int64) (σ : ab_S) : Option (Int64 × ab_S) := some (t0, σ)
def fX10_gain (x1 : Int32) (σ : ab_S) : Option (Int64 × ab_S) := (fX10_within ((x1 : Int32).toInt64) 0 1).bind fun q1 => (if q1 = 0 then some ((-9223372036854775808), σ) else (fX10_comes σ).bind fun q3 => (if (lg_cmp q3.1 0) = 0 then fX10_gain_b55 ((-2)) q3.2 else (fX10_bestCome q3.2).bind fun q5 => (if ab_inb q5 5 = true then (if ab_inb (q3.2.1 0 0 8) 5 = true then (fX10_partOf ((q3.2.2 12 0 q5.toNatClampNeg) - (q3.2.2 12 0 ((q3.2.1 0 0 8).toNatClampNeg))) q3.1 x1).bind fun q8 => fX10_gain_b55 q8 q3.2 else none) else none)))
section
variable {p : Program} {l : Launch} {e : Env} {s : State} {m : MethodId} {args : Array Value} {below : List Frame} {meth : Method} {c : Code} {D : va_G} {cA : Nat → ClassId} {ad : Nat → Nat → Nat}
set_option maxRecDepth 100000 in
set_option maxHeartbeats 4000000 in
theorem gX10_gain_b55 {R : (Int64 × ab_S)} (C : ab_C yM p s m args meth c D cA ad cX10_gain 4 RX10 (some .long)) (t0 : Int64) (σ : ab_S) (h : fX10_gain_b55 t0 σ = some R) : ab_G yM p l e s m args below meth c D cA ad 4 71 (some (.inr (.inl R.1))) R.2 55 [none, none, none, none] [.inr (.inl t0)] σ := by
  obtain rfl := Option.some.inj h
  exact ab_lret C dX10_gain_55
set_option maxRecDepth 100000 in
set_option maxHeartbeats 4000000 in
theorem tX10_gain (l : Launch) (x1 : Int32) (σ : ab_S) {R : (Int64 × ab_S)} (h : fX10_gain x1 σ = some R) : ab_M l yM yX10_gain cX10_gain 4 (some .long) 71 [.inr (.inr (0, 0)), .inl x1] σ (some (.inr (.inl R.1))) R.2 := by
  refine ab_M_intro ndM (by decide) (Nat.le_of_ble_eq_true rfl) ?_
  intro p e s m args below meth c D cA ad C
  have C : ab_C yM p s m args meth c D cA ad cX10_gain 4 RX10 (some .long) := C
  refine ab_weak (lv' := [some (.inr (.inr (0, 0))), some (.inl x1), none, none]) ⟨.inr rfl, ⟨.inr rfl, ⟨.inl rfl, ⟨.inl rfl, trivial⟩⟩⟩⟩ ?_
  refine ab_iload_n C dX10_gain_0 rfl ?_
  refine ab_i2l C dX10_gain_1  ?_
  refine ab_lconst C dX10_gain_2 (v := 0) rfl ?_
  refine ab_lconst C dX10_gain_3 (v := 1) rfl ?_
  obtain ⟨q1, hq1, h⟩ := ab_bind h
  refine ab_invS1 C dX10_gain_4 mlX10_105 ysX10_within (tX10_within l _ _ _ _ hq1) (Nat.le_of_ble_eq_true rfl) (Nat.le_of_ble_eq_true rfl) rfl (Nat.le_of_ble_eq_true rfl) ?_
  refine ab_if_ne C (tgt := 14) dX10_gain_7 (by decide) (fun hc2 => ?_) (fun hc2 => ?_)
  · replace h := ab_neg hc2 h
    refine ab_aload_n C dX10_gain_14 rfl ?_
    obtain ⟨q3, hq3, h⟩ := ab_bind h
    refine ab_inv1 C dX10_gain_15 mlX10_222 yvX10_comes rkM_0 ⟨_, _, rfl⟩ mmM_0 (tX10_comes l _ hq3) (Nat.le_of_ble_eq_true rfl) (Nat.le_of_ble_eq_true rfl) rfl (Nat.le_of_ble_eq_true rfl) ?_
    refine ab_lstore_n C dX10_gain_18 (Nat.le_of_ble_eq_true rfl) ?_
    refine ab_lload_n C dX10_gain_19 rfl ?_
    refine ab_lconst C dX10_gain_20 (v := 0) rfl ?_
    refine ab_lcmp C dX10_gain_21  ?_
    refine ab_if_ne C (tgt := 31) dX10_gain_22 (by decide) (fun hc4 => ?_) (fun hc4 => ?_)
    · replace h := ab_neg hc4 h
      refine ab_aload_n C dX10_gain_31 rfl ?_
      refine ab_getR C dX10_gain_32 flX10_45 rkM_0 rfl mmM_0 ?_
      refine ab_aload_n C dX10_gain_35 rfl ?_
      obtain ⟨q5, hq5, h⟩ := ab_bind h
      refine ab_inv1 C dX10_gain_36 mlX10_232 yvX10_bestCome rkM_0 ⟨_, _, rfl⟩ mmM_0 (tX10_bestCome l _ hq5) (Nat.le_of_ble_eq_true rfl) (Nat.le_of_ble_eq_true rfl) rfl (Nat.le_of_ble_eq_true rfl) ?_
      obtain ⟨hg6, h⟩ := ab_grd h
      refine ab_lald C dX10_gain_39 rkM_12 mmM_12 hg6 ?_
      refine ab_aload_n C dX10_gain_40 rfl ?_
      refine ab_getR C dX10_gain_41 flX10_45 rkM_0 rfl mmM_0 ?_
      refine ab_aload_n C dX10_gain_44 rfl ?_
      refine ab_getI C dX10_gain_45 flX10_90 rkM_0 rfl mmM_0 ?_
      obtain ⟨hg7, h⟩ := ab_grd h
      refine ab_lald C dX10_gain_48 rkM_12 mmM_12 hg7 ?_
      refine ab_lsub C dX10_gain_49  ?_
      refine ab_lload_n C dX10_gain_50 rfl ?_
      refine ab_iload_n C dX10_gain_51 rfl ?_
      obtain ⟨q8, hq8, h⟩ := ab_bind h
      refine ab_invS1 C dX10_gain_52 mlX10_228 ysX10_partOf (tX10_partOf l _ _ _ _ hq8) (Nat.le_of_ble_eq_true rfl) (Nat.le_of_ble_eq_true rfl) rfl (Nat.le_of_ble_eq_true rfl) ?_
      refine ab_weak (lv' := [none, none, none, none]) ⟨.inl rfl, ⟨.inl rfl, ⟨.inl rfl, ⟨.inl rfl, trivial⟩⟩⟩⟩ ?_
      exact gX10_gain_b55 C _ _ h
    · replace h := ab_pos hc4 h
      refine ab_ldc2 C dX10_gain_25 cwX10_226 ?_
      refine ab_goto C (tgt := 55) dX10_gain_28 (by decide) ?_
      refine ab_weak (lv' := [none, none, none, none]) ⟨.inl rfl, ⟨.inl rfl, ⟨.inl rfl, ⟨.inl rfl, trivial⟩⟩⟩⟩ ?_
      exact gX10_gain_b55 C _ _ h
  · replace h := ab_pos hc2 h
    refine ab_ldc2 C dX10_gain_10 cwX10_220 ?_
    obtain rfl := Option.some.inj h
    exact ab_lret C dX10_gain_13
end
def fX10_wholeAct : Option Int64 := some 20736
section
variable {p : Program} {l : Launch} {e : Env} {s : State} {m : MethodId} {args : Array Value} {below : List Frame} {meth : Method} {c : Code} {D : va_G} {cA : Nat → ClassId} {ad : Nat → Nat → Nat}
set_option maxRecDepth 100000 in
set_option maxHeartbeats 4000000 in
theorem tX10_wholeAct (l : Launch)  (σ : ab_S) {R : Int64} (h : fX10_wholeAct  = some R) : ab_M l yM yX10_wholeAct cX10_wholeAct 0 (some .long) 0 [] σ (some (.inr (.inl R))) σ := by
  refine ab_M_intro ndM (by decide) (Nat.le_of_ble_eq_true rfl) ?_
  intro p e s m args below meth c D cA ad C
  have C : ab_C yM p s m args meth c D cA ad cX10_wholeAct 0 RX10 (some .long) := C
  refine ab_weak (lv' := []) trivial ?_
  refine ab_ldc2 C dX10_wholeAct_0 cwX10_238 ?_
  obtain rfl := Option.some.inj h
  exact ab_lret C dX10_wholeAct_3
end
def fX10_wholeOf_b8_o (kk8 : Int64 → Int32 → ab_S → Option Int64) (v1 : Int64) (v3 : Int32) (σ : ab_S) : Option Int64 := (if ab_inb 6 7 = true then (if (σ.1 1 0 ((6 : Int32).toNatClampNeg)) ≤ v3 then some v1 else (fX10_wholeAct ).bind fun q3 => kk8 (v1 * q3) (v3 + 1) σ) else none)
def fX10_wholeOf_b8 : Nat → Int64 → Int32 → ab_S → Option Int64
  | 0 => fun _ _ _ => none
  | n + 1 => fX10_wholeOf_b8_o  (fX10_wholeOf_b8 n)
def fX10_wholeOf (σ : ab_S) : Option Int64 := (fX10_allWeights σ).bind fun q1 => fX10_wholeOf_b8 ab_N ((q1 : Int32).toInt64) 0 σ
section
variable {p : Program} {l : Launch} {e : Env} {s : State} {m : MethodId} {args : Array Value} {below : List Frame} {meth : Method} {c : Code} {D : va_G} {cA : Nat → ClassId} {ad : Nat → Nat → Nat}
set_option maxRecDepth 100000 in
set_option maxHeartbeats 4000000 in
theorem gX10_wholeOf_b8_o {R : Int64} (C : ab_C yM p s m args meth c D cA ad cX10_wholeOf 4 RX10 (some .long)) (σ : ab_S) {kk8 : Int64 → Int32 → ab_S → Option Int64} (hk8 : ∀ (v1 : Int64) (v3 : Int32), kk8 v1 v3 σ = some R → ab_G yM p l e s m args below meth c D cA ad 4 1 (some (.inr (.inl R))) σ 8 [some (.inr (.inr (0, 0))), some (.inr (.inl v1)), none, some (.inl v3)] [] σ) (v1 : Int64) (v3 : Int32) (h : fX10_wholeOf_b8_o kk8 v1 v3 σ = some R) : ab_G yM p l e s m args below meth c D cA ad 4 1 (some (.inr (.inl R))) σ 8 [some (.inr (.inr (0, 0))), some (.inr (.inl v1)), none, some (.inl v3)] [] σ := by
  refine ab_iload_n C dX10_wholeOf_8 rfl ?_
  refine ab_aload_n C dX10_wholeOf_9 rfl ?_
  refine ab_getR C dX10_wholeOf_10 flX10_11 rkM_0 rfl mmM_0 ?_
  refine ab_bipush C dX10_wholeOf_13 (v := 6) rfl ?_
  obtain ⟨hg1, h⟩ := ab_grd h
  refine ab_iald C dX10_wholeOf_15 rkM_1 mmM_1 hg1 ?_
  refine ab_icmp_ge C (tgt := 31) dX10_wholeOf_16 (by decide) (fun hc2 => ?_) (fun hc2 => ?_)
  · replace h := ab_pos hc2 h
    refine ab_lload_n C dX10_wholeOf_31 rfl ?_
    obtain rfl := Option.some.inj h
    exact ab_lret C dX10_wholeOf_32
  · replace h := ab_neg hc2 h
    refine ab_lload_n C dX10_wholeOf_19 rfl ?_
    obtain ⟨q3, hq3, h⟩ := ab_bind h
    refine ab_invS1 C dX10_wholeOf_20 mlX10_235 ysX10_wholeAct (tX10_wholeAct l _ hq3) (Nat.le_of_ble_eq_true rfl) (Nat.le_of_ble_eq_true rfl) rfl (Nat.le_of_ble_eq_true rfl) ?_
    refine ab_lmul C dX10_wholeOf_23  ?_
    refine ab_lstore_n C dX10_wholeOf_24 (Nat.le_of_ble_eq_true rfl) ?_
    refine ab_iinc C dX10_wholeOf_25 rfl (v := 1) rfl (Nat.le_of_ble_eq_true rfl) ?_
    refine ab_goto C (tgt := 8) dX10_wholeOf_28 (by decide) ?_
    refine ab_weak (lv' := [some (.inr (.inr (0, 0))), some (.inr (.inl (v1 * q3))), none, some (.inl (v3 + 1))]) ⟨.inr rfl, ⟨.inr rfl, ⟨.inl rfl, ⟨.inr rfl, trivial⟩⟩⟩⟩ ?_
    exact hk8 _ _ h
theorem gX10_wholeOf_b8 {R : Int64} (C : ab_C yM p s m args meth c D cA ad cX10_wholeOf 4 RX10 (some .long)) (σ : ab_S) : ∀ (j : Nat) (v1 : Int64) (v3 : Int32), fX10_wholeOf_b8 j v1 v3 σ = some R → ab_G yM p l e s m args below meth c D cA ad 4 1 (some (.inr (.inl R))) σ 8 [some (.inr (.inr (0, 0))), some (.inr (.inl v1)), none, some (.inl v3)] [] σ := by
  intro j
  induction j with
  | zero => intro v1 v3  h; cases h
  | succ j ih => intro v1 v3  h; exact gX10_wholeOf_b8_o C σ ih _ _ h
set_option maxRecDepth 100000 in
set_option maxHeartbeats 4000000 in
theorem tX10_wholeOf (l : Launch) (σ : ab_S) {R : Int64} (h : fX10_wholeOf σ = some R) : ab_M l yM yX10_wholeOf cX10_wholeOf 4 (some .long) 1 [.inr (.inr (0, 0))] σ (some (.inr (.inl R))) σ := by
  refine ab_M_intro ndM (by decide) (Nat.le_of_ble_eq_true rfl) ?_
  intro p e s m args below meth c D cA ad C
  have C : ab_C yM p s m args meth c D cA ad cX10_wholeOf 4 RX10 (some .long) := C
  refine ab_weak (lv' := [some (.inr (.inr (0, 0))), none, none, none]) ⟨.inr rfl, ⟨.inl rfl, ⟨.inl rfl, ⟨.inl rfl, trivial⟩⟩⟩⟩ ?_
  refine ab_aload_n C dX10_wholeOf_0 rfl ?_
  obtain ⟨q1, hq1, h⟩ := ab_bind h
  refine ab_inv1 C dX10_wholeOf_1 mlX10_259 yvX10_allWeights rkM_0 ⟨_, _, rfl⟩ mmM_0 (tX10_allWeights l _ hq1) (Nat.le_of_ble_eq_true rfl) (Nat.le_of_ble_eq_true rfl) rfl (Nat.le_of_ble_eq_true rfl) ?_
  refine ab_i2l C dX10_wholeOf_4  ?_
  refine ab_lstore_n C dX10_wholeOf_5 (Nat.le_of_ble_eq_true rfl) ?_
  refine ab_iconst C dX10_wholeOf_6 (v := 0) rfl ?_
  refine ab_istore_n C dX10_wholeOf_7 (Nat.le_of_ble_eq_true rfl) ?_
  refine ab_weak (lv' := [some (.inr (.inr (0, 0))), some (.inr (.inl ((q1 : Int32).toInt64))), none, some (.inl 0)]) ⟨.inr rfl, ⟨.inr rfl, ⟨.inl rfl, ⟨.inr rfl, trivial⟩⟩⟩⟩ ?_
  exact gX10_wholeOf_b8 C _ ab_N _ _ h
end
def fX10_hardest_b19 (σ : ab_S) : Option (Int64 × ab_S) := some ((-9223372036854775808), σ)
def fX10_hardest_b141 (t0 : Int64) (σ : ab_S) : Option (Int64 × ab_S) := some (t0, σ)
def fX10_hardest_b114 (kk44 : Int32 → Int32 → Int64 → Int32 → Int32 → ab_S → Option (Int64 × ab_S)) (v1 : Int32) (v2 : Int32) (v5 : Int32) (v6 : Int32) (t0 : Int64) (σ : ab_S) : Option (Int64 × ab_S) := kk44 v1 v2 t0 v5 (v6 + 1) σ
def fX10_hardest_b108 (kk44 : Int32 → Int32 → Int64 → Int32 → Int32 → ab_S → Option (Int64 × ab_S)) (v1 : Int32) (v2 : Int32) (v5 : Int32) (v6 : Int32) (v7 : Int64) (σ : ab_S) : Option (Int64 × ab_S) := fX10_hardest_b114 kk44 v1 v2 v5 v6 v7 σ
def fX10_hardest_b93 (kk44 : Int32 → Int32 → Int64 → Int32 → Int32 → ab_S → Option (Int64 × ab_S)) (v1 : Int32) (v2 : Int32) (v3 : Int64) (v6 : Int32) (v7 : Int64) (t0 : Int32) (σ : ab_S) : Option (Int64 × ab_S) := (if (lg_cmp v3 0) < 0 then fX10_hardest_b108 kk44 v1 v2 t0 v6 v7 σ else (if 0 ≤ (lg_cmp v7 v3) then fX10_hardest_b114 kk44 v1 v2 t0 v6 v3 σ else fX10_hardest_b108 kk44 v1 v2 t0 v6 v7 σ))
def fX10_hardest_b86 (kk44 : Int32 → Int32 → Int64 → Int32 → Int32 → ab_S → Option (Int64 × ab_S)) (v1 : Int32) (v2 : Int32) (v3 : Int64) (v6 : Int32) (v7 : Int64) (σ : ab_S) : Option (Int64 × ab_S) := fX10_hardest_b93 kk44 v1 v2 v3 v6 v7 v6 σ
def fX10_hardest_b71 (kk44 : Int32 → Int32 → Int64 → Int32 → Int32 → ab_S → Option (Int64 × ab_S)) (v1 : Int32) (v2 : Int32) (v3 : Int64) (v5 : Int32) (v6 : Int32) (t0 : Int64) (σ : ab_S) : Option (Int64 × ab_S) := (if (lg_cmp v3 0) < 0 then fX10_hardest_b86 kk44 v1 v2 v3 v6 t0 σ else (if 0 ≤ (lg_cmp t0 v3) then fX10_hardest_b93 kk44 v1 v2 v3 v6 t0 v5 σ else fX10_hardest_b86 kk44 v1 v2 v3 v6 t0 σ))
def fX10_hardest_b44_o (kk44 : Int32 → Int32 → Int64 → Int32 → Int32 → ab_S → Option (Int64 × ab_S)) (v1 : Int32) (v2 : Int32) (v3 : Int64) (v5 : Int32) (v6 : Int32) (σ : ab_S) : Option (Int64 × ab_S) := (if 4 ≤ v6 then (if v2 = 2 then fX10_hardest_b141 ((v5 : Int32).toInt64) σ else (fX10_wholeOf σ).bind fun q3 => (fX10_partOf v3 q3 v2).bind fun q4 => fX10_hardest_b141 q4 σ) else (fX10_isIn v1 v6).bind fun q5 => (if q5 = 0 then fX10_hardest_b71 kk44 v1 v2 v3 v5 v6 9223372036854775807 σ else (fX10_bestAgainst v6 σ).bind fun q7 => fX10_hardest_b71 kk44 v1 v2 v3 v5 v6 q7.1 q7.2))
def fX10_hardest_b44 : Nat → Int32 → Int32 → Int64 → Int32 → Int32 → ab_S → Option (Int64 × ab_S)
  | 0 => fun _ _ _ _ _ _ => none
  | n + 1 => fX10_hardest_b44_o  (fX10_hardest_b44 n)
def fX10_hardest (x1 : Int32) (x2 : Int32) (σ : ab_S) : Option (Int64 × ab_S) := (fX10_areHosts x1).bind fun q1 => (if q1 = 0 then fX10_hardest_b19 σ else (fX10_within ((x2 : Int32).toInt64) 0 2).bind fun q3 => (if q3 = 0 then fX10_hardest_b19 σ else (fX10_allWeights σ).bind fun q5 => (if q5 = 0 then some ((-2), σ) else fX10_hardest_b44 ab_N x1 x2 ((-1)) 0 0 σ)))
section
variable {p : Program} {l : Launch} {e : Env} {s : State} {m : MethodId} {args : Array Value} {below : List Frame} {meth : Method} {c : Code} {D : va_G} {cA : Nat → ClassId} {ad : Nat → Nat → Nat}
set_option maxRecDepth 100000 in
set_option maxHeartbeats 4000000 in
theorem gX10_hardest_b19 {R : (Int64 × ab_S)} (C : ab_C yM p s m args meth c D cA ad cX10_hardest 9 RX10 (some .long)) (σ : ab_S) (h : fX10_hardest_b19 σ = some R) : ab_G yM p l e s m args below meth c D cA ad 9 137 (some (.inr (.inl R.1))) R.2 19 [none, none, none, none, none, none, none, none, none] [] σ := by
  refine ab_ldc2 C dX10_hardest_19 cwX10_220 ?_
  obtain rfl := Option.some.inj h
  exact ab_lret C dX10_hardest_22
set_option maxRecDepth 100000 in
set_option maxHeartbeats 4000000 in
theorem gX10_hardest_b141 {R : (Int64 × ab_S)} (C : ab_C yM p s m args meth c D cA ad cX10_hardest 9 RX10 (some .long)) (t0 : Int64) (σ : ab_S) (h : fX10_hardest_b141 t0 σ = some R) : ab_G yM p l e s m args below meth c D cA ad 9 137 (some (.inr (.inl R.1))) R.2 141 [none, none, none, none, none, none, none, none, none] [.inr (.inl t0)] σ := by
  obtain rfl := Option.some.inj h
  exact ab_lret C dX10_hardest_141
set_option maxRecDepth 100000 in
set_option maxHeartbeats 4000000 in
theorem gX10_hardest_b114 {R : (Int64 × ab_S)} (C : ab_C yM p s m args meth c D cA ad cX10_hardest 9 RX10 (some .long)) {kk44 : Int32 → Int32 → Int64 → Int32 → Int32 → ab_S → Option (Int64 × ab_S)} (hk44 : ∀ (v1 : Int32) (v2 : Int32) (v3 : Int64) (v5 : Int32) (v6 : Int32) (σ : ab_S), kk44 v1 v2 v3 v5 v6 σ = some R → ab_G yM p l e s m args below meth c D cA ad 9 137 (some (.inr (.inl R.1))) R.2 44 [some (.inr (.inr (0, 0))), some (.inl v1), some (.inl v2), some (.inr (.inl v3)), none, some (.inl v5), some (.inl v6), none, none] [] σ) (v1 : Int32) (v2 : Int32) (v5 : Int32) (v6 : Int32) (t0 : Int64) (σ : ab_S) (h : fX10_hardest_b114 kk44 v1 v2 v5 v6 t0 σ = some R) : ab_G yM p l e s m args below meth c D cA ad 9 137 (some (.inr (.inl R.1))) R.2 114 [some (.inr (.inr (0, 0))), some (.inl v1), some (.inl v2), none, none, some (.inl v5), some (.inl v6), none, none] [.inr (.inl t0)] σ := by
  refine ab_lstore_n C dX10_hardest_114 (Nat.le_of_ble_eq_true rfl) ?_
  refine ab_iinc C dX10_hardest_115 rfl (v := 1) rfl (Nat.le_of_ble_eq_true rfl) ?_
  refine ab_goto C (tgt := 44) dX10_hardest_118 (by decide) ?_
  refine ab_weak (lv' := [some (.inr (.inr (0, 0))), some (.inl v1), some (.inl v2), some (.inr (.inl t0)), none, some (.inl v5), some (.inl (v6 + 1)), none, none]) ⟨.inr rfl, ⟨.inr rfl, ⟨.inr rfl, ⟨.inr rfl, ⟨.inl rfl, ⟨.inr rfl, ⟨.inr rfl, ⟨.inl rfl, ⟨.inl rfl, trivial⟩⟩⟩⟩⟩⟩⟩⟩⟩ ?_
  exact hk44 _ _ _ _ _ _ h
set_option maxRecDepth 100000 in
set_option maxHeartbeats 4000000 in
theorem gX10_hardest_b108 {R : (Int64 × ab_S)} (C : ab_C yM p s m args meth c D cA ad cX10_hardest 9 RX10 (some .long)) {kk44 : Int32 → Int32 → Int64 → Int32 → Int32 → ab_S → Option (Int64 × ab_S)} (hk44 : ∀ (v1 : Int32) (v2 : Int32) (v3 : Int64) (v5 : Int32) (v6 : Int32) (σ : ab_S), kk44 v1 v2 v3 v5 v6 σ = some R → ab_G yM p l e s m args below meth c D cA ad 9 137 (some (.inr (.inl R.1))) R.2 44 [some (.inr (.inr (0, 0))), some (.inl v1), some (.inl v2), some (.inr (.inl v3)), none, some (.inl v5), some (.inl v6), none, none] [] σ) (v1 : Int32) (v2 : Int32) (v5 : Int32) (v6 : Int32) (v7 : Int64) (σ : ab_S) (h : fX10_hardest_b108 kk44 v1 v2 v5 v6 v7 σ = some R) : ab_G yM p l e s m args below meth c D cA ad 9 137 (some (.inr (.inl R.1))) R.2 108 [some (.inr (.inr (0, 0))), some (.inl v1), some (.inl v2), none, none, some (.inl v5), some (.inl v6), some (.inr (.inl v7)), none] [] σ := by
  refine ab_lload C dX10_hardest_108 rfl ?_
  refine ab_goto C (tgt := 114) dX10_hardest_110 (by decide) ?_
  refine ab_weak (lv' := [some (.inr (.inr (0, 0))), some (.inl v1), some (.inl v2), none, none, some (.inl v5), some (.inl v6), none, none]) ⟨.inr rfl, ⟨.inr rfl, ⟨.inr rfl, ⟨.inl rfl, ⟨.inl rfl, ⟨.inr rfl, ⟨.inr rfl, ⟨.inl rfl, ⟨.inl rfl, trivial⟩⟩⟩⟩⟩⟩⟩⟩⟩ ?_
  exact gX10_hardest_b114 C hk44 _ _ _ _ _ _ h
set_option maxRecDepth 100000 in
set_option maxHeartbeats 4000000 in
theorem gX10_hardest_b93 {R : (Int64 × ab_S)} (C : ab_C yM p s m args meth c D cA ad cX10_hardest 9 RX10 (some .long)) {kk44 : Int32 → Int32 → Int64 → Int32 → Int32 → ab_S → Option (Int64 × ab_S)} (hk44 : ∀ (v1 : Int32) (v2 : Int32) (v3 : Int64) (v5 : Int32) (v6 : Int32) (σ : ab_S), kk44 v1 v2 v3 v5 v6 σ = some R → ab_G yM p l e s m args below meth c D cA ad 9 137 (some (.inr (.inl R.1))) R.2 44 [some (.inr (.inr (0, 0))), some (.inl v1), some (.inl v2), some (.inr (.inl v3)), none, some (.inl v5), some (.inl v6), none, none] [] σ) (v1 : Int32) (v2 : Int32) (v3 : Int64) (v6 : Int32) (v7 : Int64) (t0 : Int32) (σ : ab_S) (h : fX10_hardest_b93 kk44 v1 v2 v3 v6 v7 t0 σ = some R) : ab_G yM p l e s m args below meth c D cA ad 9 137 (some (.inr (.inl R.1))) R.2 93 [some (.inr (.inr (0, 0))), some (.inl v1), some (.inl v2), some (.inr (.inl v3)), none, none, some (.inl v6), some (.inr (.inl v7)), none] [.inl t0] σ := by
  refine ab_istore C dX10_hardest_93 (Nat.le_of_ble_eq_true rfl) ?_
  refine ab_lload_n C dX10_hardest_95 rfl ?_
  refine ab_lconst C dX10_hardest_96 (v := 0) rfl ?_
  refine ab_lcmp C dX10_hardest_97  ?_
  refine ab_if_lt C (tgt := 108) dX10_hardest_98 (by decide) (fun hc1 => ?_) (fun hc1 => ?_)
  · replace h := ab_pos hc1 h
    refine ab_weak (lv' := [some (.inr (.inr (0, 0))), some (.inl v1), some (.inl v2), none, none, some (.inl t0), some (.inl v6), some (.inr (.inl v7)), none]) ⟨.inr rfl, ⟨.inr rfl, ⟨.inr rfl, ⟨.inl rfl, ⟨.inl rfl, ⟨.inr rfl, ⟨.inr rfl, ⟨.inr rfl, ⟨.inl rfl, trivial⟩⟩⟩⟩⟩⟩⟩⟩⟩ ?_
    exact gX10_hardest_b108 C hk44 _ _ _ _ _ _ h
  · replace h := ab_neg hc1 h
    refine ab_lload C dX10_hardest_101 rfl ?_
    refine ab_lload_n C dX10_hardest_103 rfl ?_
    refine ab_lcmp C dX10_hardest_104  ?_
    refine ab_if_ge C (tgt := 113) dX10_hardest_105 (by decide) (fun hc2 => ?_) (fun hc2 => ?_)
    · replace h := ab_pos hc2 h
      refine ab_lload_n C dX10_hardest_113 rfl ?_
      refine ab_weak (lv' := [some (.inr (.inr (0, 0))), some (.inl v1), some (.inl v2), none, none, some (.inl t0), some (.inl v6), none, none]) ⟨.inr rfl, ⟨.inr rfl, ⟨.inr rfl, ⟨.inl rfl, ⟨.inl rfl, ⟨.inr rfl, ⟨.inr rfl, ⟨.inl rfl, ⟨.inl rfl, trivial⟩⟩⟩⟩⟩⟩⟩⟩⟩ ?_
      exact gX10_hardest_b114 C hk44 _ _ _ _ _ _ h
    · replace h := ab_neg hc2 h
      refine ab_weak (lv' := [some (.inr (.inr (0, 0))), some (.inl v1), some (.inl v2), none, none, some (.inl t0), some (.inl v6), some (.inr (.inl v7)), none]) ⟨.inr rfl, ⟨.inr rfl, ⟨.inr rfl, ⟨.inl rfl, ⟨.inl rfl, ⟨.inr rfl, ⟨.inr rfl, ⟨.inr rfl, ⟨.inl rfl, trivial⟩⟩⟩⟩⟩⟩⟩⟩⟩ ?_
      exact gX10_hardest_b108 C hk44 _ _ _ _ _ _ h
set_option maxRecDepth 100000 in
set_option maxHeartbeats 4000000 in
theorem gX10_hardest_b86 {R : (Int64 × ab_S)} (C : ab_C yM p s m args meth c D cA ad cX10_hardest 9 RX10 (some .long)) {kk44 : Int32 → Int32 → Int64 → Int32 → Int32 → ab_S → Option (Int64 × ab_S)} (hk44 : ∀ (v1 : Int32) (v2 : Int32) (v3 : Int64) (v5 : Int32) (v6 : Int32) (σ : ab_S), kk44 v1 v2 v3 v5 v6 σ = some R → ab_G yM p l e s m args below meth c D cA ad 9 137 (some (.inr (.inl R.1))) R.2 44 [some (.inr (.inr (0, 0))), some (.inl v1), some (.inl v2), some (.inr (.inl v3)), none, some (.inl v5), some (.inl v6), none, none] [] σ) (v1 : Int32) (v2 : Int32) (v3 : Int64) (v6 : Int32) (v7 : Int64) (σ : ab_S) (h : fX10_hardest_b86 kk44 v1 v2 v3 v6 v7 σ = some R) : ab_G yM p l e s m args below meth c D cA ad 9 137 (some (.inr (.inl R.1))) R.2 86 [some (.inr (.inr (0, 0))), some (.inl v1), some (.inl v2), some (.inr (.inl v3)), none, none, some (.inl v6), some (.inr (.inl v7)), none] [] σ := by
  refine ab_iload C dX10_hardest_86 rfl ?_
  refine ab_goto C (tgt := 93) dX10_hardest_88 (by decide) ?_
  refine ab_weak (lv' := [some (.inr (.inr (0, 0))), some (.inl v1), some (.inl v2), some (.inr (.inl v3)), none, none, some (.inl v6), some (.inr (.inl v7)), none]) ⟨.inr rfl, ⟨.inr rfl, ⟨.inr rfl, ⟨.inr rfl, ⟨.inl rfl, ⟨.inl rfl, ⟨.inr rfl, ⟨.inr rfl, ⟨.inl rfl, trivial⟩⟩⟩⟩⟩⟩⟩⟩⟩ ?_
  exact gX10_hardest_b93 C hk44 _ _ _ _ _ _ _ h
set_option maxRecDepth 100000 in
set_option maxHeartbeats 4000000 in
theorem gX10_hardest_b71 {R : (Int64 × ab_S)} (C : ab_C yM p s m args meth c D cA ad cX10_hardest 9 RX10 (some .long)) {kk44 : Int32 → Int32 → Int64 → Int32 → Int32 → ab_S → Option (Int64 × ab_S)} (hk44 : ∀ (v1 : Int32) (v2 : Int32) (v3 : Int64) (v5 : Int32) (v6 : Int32) (σ : ab_S), kk44 v1 v2 v3 v5 v6 σ = some R → ab_G yM p l e s m args below meth c D cA ad 9 137 (some (.inr (.inl R.1))) R.2 44 [some (.inr (.inr (0, 0))), some (.inl v1), some (.inl v2), some (.inr (.inl v3)), none, some (.inl v5), some (.inl v6), none, none] [] σ) (v1 : Int32) (v2 : Int32) (v3 : Int64) (v5 : Int32) (v6 : Int32) (t0 : Int64) (σ : ab_S) (h : fX10_hardest_b71 kk44 v1 v2 v3 v5 v6 t0 σ = some R) : ab_G yM p l e s m args below meth c D cA ad 9 137 (some (.inr (.inl R.1))) R.2 71 [some (.inr (.inr (0, 0))), some (.inl v1), some (.inl v2), some (.inr (.inl v3)), none, some (.inl v5), some (.inl v6), none, none] [.inr (.inl t0)] σ := by
  refine ab_lstore C dX10_hardest_71 (Nat.le_of_ble_eq_true rfl) ?_
  refine ab_lload_n C dX10_hardest_73 rfl ?_
  refine ab_lconst C dX10_hardest_74 (v := 0) rfl ?_
  refine ab_lcmp C dX10_hardest_75  ?_
  refine ab_if_lt C (tgt := 86) dX10_hardest_76 (by decide) (fun hc1 => ?_) (fun hc1 => ?_)
  · replace h := ab_pos hc1 h
    refine ab_weak (lv' := [some (.inr (.inr (0, 0))), some (.inl v1), some (.inl v2), some (.inr (.inl v3)), none, none, some (.inl v6), some (.inr (.inl t0)), none]) ⟨.inr rfl, ⟨.inr rfl, ⟨.inr rfl, ⟨.inr rfl, ⟨.inl rfl, ⟨.inl rfl, ⟨.inr rfl, ⟨.inr rfl, ⟨.inl rfl, trivial⟩⟩⟩⟩⟩⟩⟩⟩⟩ ?_
    exact gX10_hardest_b86 C hk44 _ _ _ _ _ _ h
  · replace h := ab_neg hc1 h
    refine ab_lload C dX10_hardest_79 rfl ?_
    refine ab_lload_n C dX10_hardest_81 rfl ?_
    refine ab_lcmp C dX10_hardest_82  ?_
    refine ab_if_ge C (tgt := 91) dX10_hardest_83 (by decide) (fun hc2 => ?_) (fun hc2 => ?_)
    · replace h := ab_pos hc2 h
      refine ab_iload C dX10_hardest_91 rfl ?_
      refine ab_weak (lv' := [some (.inr (.inr (0, 0))), some (.inl v1), some (.inl v2), some (.inr (.inl v3)), none, none, some (.inl v6), some (.inr (.inl t0)), none]) ⟨.inr rfl, ⟨.inr rfl, ⟨.inr rfl, ⟨.inr rfl, ⟨.inl rfl, ⟨.inl rfl, ⟨.inr rfl, ⟨.inr rfl, ⟨.inl rfl, trivial⟩⟩⟩⟩⟩⟩⟩⟩⟩ ?_
      exact gX10_hardest_b93 C hk44 _ _ _ _ _ _ _ h
    · replace h := ab_neg hc2 h
      refine ab_weak (lv' := [some (.inr (.inr (0, 0))), some (.inl v1), some (.inl v2), some (.inr (.inl v3)), none, none, some (.inl v6), some (.inr (.inl t0)), none]) ⟨.inr rfl, ⟨.inr rfl, ⟨.inr rfl, ⟨.inr rfl, ⟨.inl rfl, ⟨.inl rfl, ⟨.inr rfl, ⟨.inr rfl, ⟨.inl rfl, trivial⟩⟩⟩⟩⟩⟩⟩⟩⟩ ?_
      exact gX10_hardest_b86 C hk44 _ _ _ _ _ _ h
set_option maxRecDepth 100000 in
set_option maxHeartbeats 4000000 in
theorem gX10_hardest_b44_o {R : (Int64 × ab_S)} (C : ab_C yM p s m args meth c D cA ad cX10_hardest 9 RX10 (some .long)) {kk44 : Int32 → Int32 → Int64 → Int32 → Int32 → ab_S → Option (Int64 × ab_S)} (hk44 : ∀ (v1 : Int32) (v2 : Int32) (v3 : Int64) (v5 : Int32) (v6 : Int32) (σ : ab_S), kk44 v1 v2 v3 v5 v6 σ = some R → ab_G yM p l e s m args below meth c D cA ad 9 137 (some (.inr (.inl R.1))) R.2 44 [some (.inr (.inr (0, 0))), some (.inl v1), some (.inl v2), some (.inr (.inl v3)), none, some (.inl v5), some (.inl v6), none, none] [] σ) (v1 : Int32) (v2 : Int32) (v3 : Int64) (v5 : Int32) (v6 : Int32) (σ : ab_S) (h : fX10_hardest_b44_o kk44 v1 v2 v3 v5 v6 σ = some R) : ab_G yM p l e s m args below meth c D cA ad 9 137 (some (.inr (.inl R.1))) R.2 44 [some (.inr (.inr (0, 0))), some (.inl v1), some (.inl v2), some (.inr (.inl v3)), none, some (.inl v5), some (.inl v6), none, none] [] σ := by
  refine ab_iload C dX10_hardest_44 rfl ?_
  refine ab_iconst C dX10_hardest_46 (v := 4) rfl ?_
  refine ab_icmp_ge C (tgt := 121) dX10_hardest_47 (by decide) (fun hc1 => ?_) (fun hc1 => ?_)
  · replace h := ab_pos hc1 h
    refine ab_iload_n C dX10_hardest_121 rfl ?_
    refine ab_iconst C dX10_hardest_122 (v := 2) rfl ?_
    refine ab_icmp_ne C (tgt := 132) dX10_hardest_123 (by decide) (fun hc2 => ?_) (fun hc2 => ?_)
    · replace h := ab_neg hc2 h
      refine ab_lload_n C dX10_hardest_132 rfl ?_
      refine ab_aload_n C dX10_hardest_133 rfl ?_
      obtain ⟨q3, hq3, h⟩ := ab_bind h
      refine ab_inv1 C dX10_hardest_134 mlX10_268 yvX10_wholeOf rkM_0 ⟨_, _, rfl⟩ mmM_0 (tX10_wholeOf l _ hq3) (Nat.le_of_ble_eq_true rfl) (Nat.le_of_ble_eq_true rfl) rfl (Nat.le_of_ble_eq_true rfl) ?_
      refine ab_iload_n C dX10_hardest_137 rfl ?_
      obtain ⟨q4, hq4, h⟩ := ab_bind h
      refine ab_invS1 C dX10_hardest_138 mlX10_228 ysX10_partOf (tX10_partOf l _ _ _ _ hq4) (Nat.le_of_ble_eq_true rfl) (Nat.le_of_ble_eq_true rfl) rfl (Nat.le_of_ble_eq_true rfl) ?_
      refine ab_weak (lv' := [none, none, none, none, none, none, none, none, none]) ⟨.inl rfl, ⟨.inl rfl, ⟨.inl rfl, ⟨.inl rfl, ⟨.inl rfl, ⟨.inl rfl, ⟨.inl rfl, ⟨.inl rfl, ⟨.inl rfl, trivial⟩⟩⟩⟩⟩⟩⟩⟩⟩ ?_
      exact gX10_hardest_b141 C _ _ h
    · replace h := ab_pos hc2 h
      refine ab_iload C dX10_hardest_126 rfl ?_
      refine ab_i2l C dX10_hardest_128  ?_
      refine ab_goto C (tgt := 141) dX10_hardest_129 (by decide) ?_
      refine ab_weak (lv' := [none, none, none, none, none, none, none, none, none]) ⟨.inl rfl, ⟨.inl rfl, ⟨.inl rfl, ⟨.inl rfl, ⟨.inl rfl, ⟨.inl rfl, ⟨.inl rfl, ⟨.inl rfl, ⟨.inl rfl, trivial⟩⟩⟩⟩⟩⟩⟩⟩⟩ ?_
      exact gX10_hardest_b141 C _ _ h
  · replace h := ab_neg hc1 h
    refine ab_iload_n C dX10_hardest_50 rfl ?_
    refine ab_iload C dX10_hardest_51 rfl ?_
    obtain ⟨q5, hq5, h⟩ := ab_bind h
    refine ab_invS1 C dX10_hardest_53 mlX10_138 ysX10_isIn (tX10_isIn l _ _ _ hq5) (Nat.le_of_ble_eq_true rfl) (Nat.le_of_ble_eq_true rfl) rfl (Nat.le_of_ble_eq_true rfl) ?_
    refine ab_if_eq C (tgt := 68) dX10_hardest_56 (by decide) (fun hc6 => ?_) (fun hc6 => ?_)
    · replace h := ab_pos hc6 h
      refine ab_ldc2 C dX10_hardest_68 cwX10_288 ?_
      refine ab_weak (lv' := [some (.inr (.inr (0, 0))), some (.inl v1), some (.inl v2), some (.inr (.inl v3)), none, some (.inl v5), some (.inl v6), none, none]) ⟨.inr rfl, ⟨.inr rfl, ⟨.inr rfl, ⟨.inr rfl, ⟨.inl rfl, ⟨.inr rfl, ⟨.inr rfl, ⟨.inl rfl, ⟨.inl rfl, trivial⟩⟩⟩⟩⟩⟩⟩⟩⟩ ?_
      exact gX10_hardest_b71 C hk44 _ _ _ _ _ _ _ h
    · replace h := ab_neg hc6 h
      refine ab_aload_n C dX10_hardest_59 rfl ?_
      refine ab_iload C dX10_hardest_60 rfl ?_
      obtain ⟨q7, hq7, h⟩ := ab_bind h
      refine ab_inv1 C dX10_hardest_62 mlX10_276 yvX10_bestAgainst rkM_0 ⟨_, _, rfl⟩ mmM_0 (tX10_bestAgainst l _ _ hq7) (Nat.le_of_ble_eq_true rfl) (Nat.le_of_ble_eq_true rfl) rfl (Nat.le_of_ble_eq_true rfl) ?_
      refine ab_goto C (tgt := 71) dX10_hardest_65 (by decide) ?_
      refine ab_weak (lv' := [some (.inr (.inr (0, 0))), some (.inl v1), some (.inl v2), some (.inr (.inl v3)), none, some (.inl v5), some (.inl v6), none, none]) ⟨.inr rfl, ⟨.inr rfl, ⟨.inr rfl, ⟨.inr rfl, ⟨.inl rfl, ⟨.inr rfl, ⟨.inr rfl, ⟨.inl rfl, ⟨.inl rfl, trivial⟩⟩⟩⟩⟩⟩⟩⟩⟩ ?_
      exact gX10_hardest_b71 C hk44 _ _ _ _ _ _ _ h
theorem gX10_hardest_b44 {R : (Int64 × ab_S)} (C : ab_C yM p s m args meth c D cA ad cX10_hardest 9 RX10 (some .long)) : ∀ (j : Nat) (v1 : Int32) (v2 : Int32) (v3 : Int64) (v5 : Int32) (v6 : Int32) (σ : ab_S), fX10_hardest_b44 j v1 v2 v3 v5 v6 σ = some R → ab_G yM p l e s m args below meth c D cA ad 9 137 (some (.inr (.inl R.1))) R.2 44 [some (.inr (.inr (0, 0))), some (.inl v1), some (.inl v2), some (.inr (.inl v3)), none, some (.inl v5), some (.inl v6), none, none] [] σ := by
  intro j
  induction j with
  | zero => intro v1 v2 v3 v5 v6 σ  h; cases h
  | succ j ih => intro v1 v2 v3 v5 v6 σ  h; exact gX10_hardest_b44_o C ih _ _ _ _ _ _ h
set_option maxRecDepth 100000 in
set_option maxHeartbeats 4000000 in
theorem tX10_hardest (l : Launch) (x1 : Int32) (x2 : Int32) (σ : ab_S) {R : (Int64 × ab_S)} (h : fX10_hardest x1 x2 σ = some R) : ab_M l yM yX10_hardest cX10_hardest 9 (some .long) 137 [.inr (.inr (0, 0)), .inl x1, .inl x2] σ (some (.inr (.inl R.1))) R.2 := by
  refine ab_M_intro ndM (by decide) (Nat.le_of_ble_eq_true rfl) ?_
  intro p e s m args below meth c D cA ad C
  have C : ab_C yM p s m args meth c D cA ad cX10_hardest 9 RX10 (some .long) := C
  refine ab_weak (lv' := [some (.inr (.inr (0, 0))), some (.inl x1), some (.inl x2), none, none, none, none, none, none]) ⟨.inr rfl, ⟨.inr rfl, ⟨.inr rfl, ⟨.inl rfl, ⟨.inl rfl, ⟨.inl rfl, ⟨.inl rfl, ⟨.inl rfl, ⟨.inl rfl, trivial⟩⟩⟩⟩⟩⟩⟩⟩⟩ ?_
  refine ab_iload_n C dX10_hardest_0 rfl ?_
  obtain ⟨q1, hq1, h⟩ := ab_bind h
  refine ab_invS1 C dX10_hardest_1 mlX10_282 ysX10_areHosts (tX10_areHosts l _ _ hq1) (Nat.le_of_ble_eq_true rfl) (Nat.le_of_ble_eq_true rfl) rfl (Nat.le_of_ble_eq_true rfl) ?_
  refine ab_if_eq C (tgt := 19) dX10_hardest_4 (by decide) (fun hc2 => ?_) (fun hc2 => ?_)
  · replace h := ab_pos hc2 h
    refine ab_weak (lv' := [none, none, none, none, none, none, none, none, none]) ⟨.inl rfl, ⟨.inl rfl, ⟨.inl rfl, ⟨.inl rfl, ⟨.inl rfl, ⟨.inl rfl, ⟨.inl rfl, ⟨.inl rfl, ⟨.inl rfl, trivial⟩⟩⟩⟩⟩⟩⟩⟩⟩ ?_
    exact gX10_hardest_b19 C _ h
  · replace h := ab_neg hc2 h
    refine ab_iload_n C dX10_hardest_7 rfl ?_
    refine ab_i2l C dX10_hardest_8  ?_
    refine ab_lconst C dX10_hardest_9 (v := 0) rfl ?_
    refine ab_ldc2 C dX10_hardest_10 cwX10_109 ?_
    obtain ⟨q3, hq3, h⟩ := ab_bind h
    refine ab_invS1 C dX10_hardest_13 mlX10_105 ysX10_within (tX10_within l _ _ _ _ hq3) (Nat.le_of_ble_eq_true rfl) (Nat.le_of_ble_eq_true rfl) rfl (Nat.le_of_ble_eq_true rfl) ?_
    refine ab_if_ne C (tgt := 23) dX10_hardest_16 (by decide) (fun hc4 => ?_) (fun hc4 => ?_)
    · replace h := ab_neg hc4 h
      refine ab_aload_n C dX10_hardest_23 rfl ?_
      obtain ⟨q5, hq5, h⟩ := ab_bind h
      refine ab_inv1 C dX10_hardest_24 mlX10_259 yvX10_allWeights rkM_0 ⟨_, _, rfl⟩ mmM_0 (tX10_allWeights l _ hq5) (Nat.le_of_ble_eq_true rfl) (Nat.le_of_ble_eq_true rfl) rfl (Nat.le_of_ble_eq_true rfl) ?_
      refine ab_if_ne C (tgt := 34) dX10_hardest_27 (by decide) (fun hc6 => ?_) (fun hc6 => ?_)
      · replace h := ab_neg hc6 h
        refine ab_ldc2 C dX10_hardest_34 cwX10_271 ?_
        refine ab_lstore_n C dX10_hardest_37 (Nat.le_of_ble_eq_true rfl) ?_
        refine ab_iconst C dX10_hardest_38 (v := 0) rfl ?_
        refine ab_istore C dX10_hardest_39 (Nat.le_of_ble_eq_true rfl) ?_
        refine ab_iconst C dX10_hardest_41 (v := 0) rfl ?_
        refine ab_istore C dX10_hardest_42 (Nat.le_of_ble_eq_true rfl) ?_
        refine ab_weak (lv' := [some (.inr (.inr (0, 0))), some (.inl x1), some (.inl x2), some (.inr (.inl ((-1)))), none, some (.inl 0), some (.inl 0), none, none]) ⟨.inr rfl, ⟨.inr rfl, ⟨.inr rfl, ⟨.inr rfl, ⟨.inl rfl, ⟨.inr rfl, ⟨.inr rfl, ⟨.inl rfl, ⟨.inl rfl, trivial⟩⟩⟩⟩⟩⟩⟩⟩⟩ ?_
        refine ab_weak (lv' := [some (.inr (.inr (0, 0))), some (.inl x1), some (.inl x2), some (.inr (.inl ((-1)))), none, some (.inl 0), some (.inl 0), none, none]) ⟨.inr rfl, ⟨.inr rfl, ⟨.inr rfl, ⟨.inr rfl, ⟨.inl rfl, ⟨.inr rfl, ⟨.inr rfl, ⟨.inl rfl, ⟨.inl rfl, trivial⟩⟩⟩⟩⟩⟩⟩⟩⟩ ?_
        exact gX10_hardest_b44 C ab_N _ _ _ _ _ _ h
      · replace h := ab_pos hc6 h
        refine ab_ldc2 C dX10_hardest_30 cwX10_226 ?_
        obtain rfl := Option.some.inj h
        exact ab_lret C dX10_hardest_33
    · replace h := ab_pos hc4 h
      refine ab_weak (lv' := [none, none, none, none, none, none, none, none, none]) ⟨.inl rfl, ⟨.inl rfl, ⟨.inl rfl, ⟨.inl rfl, ⟨.inl rfl, ⟨.inl rfl, ⟨.inl rfl, ⟨.inl rfl, ⟨.inl rfl, trivial⟩⟩⟩⟩⟩⟩⟩⟩⟩ ?_
      exact gX10_hardest_b19 C _ h
end
def fX10_image_b31_o (kk31 : Int32 → ab_S → Option (Int32 × ab_S)) (v1 : Int32) (σ : ab_S) : Option (Int32 × ab_S) := (if 3 ≤ v1 then some (σ.1 0 0 9, σ) else (if ab_inb v1 3 = true then (if ab_inb v1 3 = true then ab_k (ab_si σ 15 0 v1.toNatClampNeg (σ.1 5 0 v1.toNatClampNeg)) fun σ4 => (if ab_inb v1 3 = true then (if ab_inb v1 3 = true then ab_k (ab_si σ4 16 0 v1.toNatClampNeg (σ4.1 6 0 v1.toNatClampNeg)) fun σ7 => (if ab_inb v1 3 = true then (if ab_inb v1 3 = true then ab_k (ab_si σ7 17 0 v1.toNatClampNeg (σ7.1 14 0 v1.toNatClampNeg)) fun σ10 => kk31 (v1 + 1) σ10 else none) else none) else none) else none) else none) else none))
def fX10_image_b31 : Nat → Int32 → ab_S → Option (Int32 × ab_S)
  | 0 => fun _ _ => none
  | n + 1 => fX10_image_b31_o  (fX10_image_b31 n)
def fX10_image (σ : ab_S) : Option (Int32 × ab_S) := ab_k (ab_si σ 0 0 28 1) fun σ1 => ab_k (ab_si σ1 0 0 29 (σ1.1 0 0 7)) fun σ2 => ab_k (ab_si σ2 0 0 30 (σ2.1 0 0 8)) fun σ3 => ab_k (ab_si σ3 0 0 31 (σ3.1 0 0 9)) fun σ4 => fX10_image_b31 ab_N 0 σ4
section
variable {p : Program} {l : Launch} {e : Env} {s : State} {m : MethodId} {args : Array Value} {below : List Frame} {meth : Method} {c : Code} {D : va_G} {cA : Nat → ClassId} {ad : Nat → Nat → Nat}
set_option maxRecDepth 100000 in
set_option maxHeartbeats 4000000 in
theorem gX10_image_b31_o {R : (Int32 × ab_S)} (C : ab_C yM p s m args meth c D cA ad cX10_image 2 RX10 (some .int)) {kk31 : Int32 → ab_S → Option (Int32 × ab_S)} (hk31 : ∀ (v1 : Int32) (σ : ab_S), kk31 v1 σ = some R → ab_G yM p l e s m args below meth c D cA ad 2 0 (some (.inl R.1)) R.2 31 [some (.inr (.inr (0, 0))), some (.inl v1)] [] σ) (v1 : Int32) (σ : ab_S) (h : fX10_image_b31_o kk31 v1 σ = some R) : ab_G yM p l e s m args below meth c D cA ad 2 0 (some (.inl R.1)) R.2 31 [some (.inr (.inr (0, 0))), some (.inl v1)] [] σ := by
  refine ab_iload_n C dX10_image_31 rfl ?_
  refine ab_iconst C dX10_image_32 (v := 3) rfl ?_
  refine ab_icmp_ge C (tgt := 78) dX10_image_33 (by decide) (fun hc1 => ?_) (fun hc1 => ?_)
  · replace h := ab_pos hc1 h
    refine ab_aload_n C dX10_image_78 rfl ?_
    refine ab_getI C dX10_image_79 flX10_93 rkM_0 rfl mmM_0 ?_
    obtain rfl := Option.some.inj h
    exact ab_iret C dX10_image_82
  · replace h := ab_neg hc1 h
    refine ab_aload_n C dX10_image_36 rfl ?_
    refine ab_getR C dX10_image_37 flX10_55 rkM_0 rfl mmM_0 ?_
    refine ab_iload_n C dX10_image_40 rfl ?_
    refine ab_aload_n C dX10_image_41 rfl ?_
    refine ab_getR C dX10_image_42 flX10_24 rkM_0 rfl mmM_0 ?_
    refine ab_iload_n C dX10_image_45 rfl ?_
    obtain ⟨hg2, h⟩ := ab_grd h
    refine ab_iald C dX10_image_46 rkM_5 mmM_5 hg2 ?_
    obtain ⟨hg3, h⟩ := ab_grd h
    refine ab_iast C dX10_image_47 rkM_15 mmM_15 hg3 ?_
    refine ab_nmS (fun σ4 eσ4 => ?_)
    replace h := ab_kh eσ4 h
    refine ab_aload_n C dX10_image_48 rfl ?_
    refine ab_getR C dX10_image_49 flX10_58 rkM_0 rfl mmM_0 ?_
    refine ab_iload_n C dX10_image_52 rfl ?_
    refine ab_aload_n C dX10_image_53 rfl ?_
    refine ab_getR C dX10_image_54 flX10_27 rkM_0 rfl mmM_0 ?_
    refine ab_iload_n C dX10_image_57 rfl ?_
    obtain ⟨hg5, h⟩ := ab_grd h
    refine ab_iald C dX10_image_58 rkM_6 mmM_6 hg5 ?_
    obtain ⟨hg6, h⟩ := ab_grd h
    refine ab_iast C dX10_image_59 rkM_16 mmM_16 hg6 ?_
    refine ab_nmS (fun σ7 eσ7 => ?_)
    replace h := ab_kh eσ7 h
    refine ab_aload_n C dX10_image_60 rfl ?_
    refine ab_getR C dX10_image_61 flX10_61 rkM_0 rfl mmM_0 ?_
    refine ab_iload_n C dX10_image_64 rfl ?_
    refine ab_aload_n C dX10_image_65 rfl ?_
    refine ab_getR C dX10_image_66 flX10_52 rkM_0 rfl mmM_0 ?_
    refine ab_iload_n C dX10_image_69 rfl ?_
    obtain ⟨hg8, h⟩ := ab_grd h
    refine ab_iald C dX10_image_70 rkM_14 mmM_14 hg8 ?_
    obtain ⟨hg9, h⟩ := ab_grd h
    refine ab_iast C dX10_image_71 rkM_17 mmM_17 hg9 ?_
    refine ab_nmS (fun σ10 eσ10 => ?_)
    replace h := ab_kh eσ10 h
    refine ab_iinc C dX10_image_72 rfl (v := 1) rfl (Nat.le_of_ble_eq_true rfl) ?_
    refine ab_goto C (tgt := 31) dX10_image_75 (by decide) ?_
    refine ab_weak (lv' := [some (.inr (.inr (0, 0))), some (.inl (v1 + 1))]) ⟨.inr rfl, ⟨.inr rfl, trivial⟩⟩ ?_
    exact hk31 _ _ h
theorem gX10_image_b31 {R : (Int32 × ab_S)} (C : ab_C yM p s m args meth c D cA ad cX10_image 2 RX10 (some .int)) : ∀ (j : Nat) (v1 : Int32) (σ : ab_S), fX10_image_b31 j v1 σ = some R → ab_G yM p l e s m args below meth c D cA ad 2 0 (some (.inl R.1)) R.2 31 [some (.inr (.inr (0, 0))), some (.inl v1)] [] σ := by
  intro j
  induction j with
  | zero => intro v1 σ  h; cases h
  | succ j ih => intro v1 σ  h; exact gX10_image_b31_o C ih _ _ h
set_option maxRecDepth 100000 in
set_option maxHeartbeats 4000000 in
theorem tX10_image (l : Launch) (σ : ab_S) {R : (Int32 × ab_S)} (h : fX10_image σ = some R) : ab_M l yM yX10_image cX10_image 2 (some .int) 0 [.inr (.inr (0, 0))] σ (some (.inl R.1)) R.2 := by
  refine ab_M_intro ndM (by decide) (Nat.le_of_ble_eq_true rfl) ?_
  intro p e s m args below meth c D cA ad C
  have C : ab_C yM p s m args meth c D cA ad cX10_image 2 RX10 (some .int) := C
  refine ab_weak (lv' := [some (.inr (.inr (0, 0))), none]) ⟨.inr rfl, ⟨.inl rfl, trivial⟩⟩ ?_
  refine ab_aload_n C dX10_image_0 rfl ?_
  refine ab_iconst C dX10_image_1 (v := 1) rfl ?_
  refine ab_putI C dX10_image_2 fpX10_328 rkM_0 rfl mmM_0 rfl rfl ?_
  refine ab_nmS (fun σ1 eσ1 => ?_)
  replace h := ab_kh eσ1 h
  refine ab_aload_n C dX10_image_5 rfl ?_
  refine ab_aload_n C dX10_image_6 rfl ?_
  refine ab_getI C dX10_image_7 flX10_102 rkM_0 rfl mmM_0 ?_
  refine ab_putI C dX10_image_10 fpX10_332 rkM_0 rfl mmM_0 rfl rfl ?_
  refine ab_nmS (fun σ2 eσ2 => ?_)
  replace h := ab_kh eσ2 h
  refine ab_aload_n C dX10_image_13 rfl ?_
  refine ab_aload_n C dX10_image_14 rfl ?_
  refine ab_getI C dX10_image_15 flX10_90 rkM_0 rfl mmM_0 ?_
  refine ab_putI C dX10_image_18 fpX10_335 rkM_0 rfl mmM_0 rfl rfl ?_
  refine ab_nmS (fun σ3 eσ3 => ?_)
  replace h := ab_kh eσ3 h
  refine ab_aload_n C dX10_image_21 rfl ?_
  refine ab_aload_n C dX10_image_22 rfl ?_
  refine ab_getI C dX10_image_23 flX10_93 rkM_0 rfl mmM_0 ?_
  refine ab_putI C dX10_image_26 fpX10_338 rkM_0 rfl mmM_0 rfl rfl ?_
  refine ab_nmS (fun σ4 eσ4 => ?_)
  replace h := ab_kh eσ4 h
  refine ab_iconst C dX10_image_29 (v := 0) rfl ?_
  refine ab_istore_n C dX10_image_30 (Nat.le_of_ble_eq_true rfl) ?_
  refine ab_weak (lv' := [some (.inr (.inr (0, 0))), some (.inl 0)]) ⟨.inr rfl, ⟨.inr rfl, trivial⟩⟩ ?_
  exact gX10_image_b31 C ab_N _ _ h
end
def fX10_rowIs_b42 (t0 : Int32) (σ : ab_S) : Option Int32 := some t0
def fX10_rowIs (x1 : Int32) (σ : ab_S) : Option Int32 := (fX10_isShelf x1).bind fun q1 => (if q1 = 0 then fX10_rowIs_b42 ((-1)) σ else (if ab_inb x1 6 = true then (if 0 ≤ (σ.1 20 0 x1.toNatClampNeg) then (if ab_inb x1 6 = true then (if (σ.1 20 0 x1.toNatClampNeg) = 50 then fX10_rowIs_b42 1 σ else fX10_rowIs_b42 ((-12)) σ) else none) else fX10_rowIs_b42 ((-11)) σ) else none))
section
variable {p : Program} {l : Launch} {e : Env} {s : State} {m : MethodId} {args : Array Value} {below : List Frame} {meth : Method} {c : Code} {D : va_G} {cA : Nat → ClassId} {ad : Nat → Nat → Nat}
set_option maxRecDepth 100000 in
set_option maxHeartbeats 4000000 in
theorem gX10_rowIs_b42 {R : Int32} (C : ab_C yM p s m args meth c D cA ad cX10_rowIs 2 RX10 (some .int)) (σ : ab_S) (t0 : Int32) (h : fX10_rowIs_b42 t0 σ = some R) : ab_G yM p l e s m args below meth c D cA ad 2 2 (some (.inl R)) σ 42 [none, none] [.inl t0] σ := by
  obtain rfl := Option.some.inj h
  exact ab_iret C dX10_rowIs_42
set_option maxRecDepth 100000 in
set_option maxHeartbeats 4000000 in
theorem tX10_rowIs (l : Launch) (x1 : Int32) (σ : ab_S) {R : Int32} (h : fX10_rowIs x1 σ = some R) : ab_M l yM yX10_rowIs cX10_rowIs 2 (some .int) 2 [.inr (.inr (0, 0)), .inl x1] σ (some (.inl R)) σ := by
  refine ab_M_intro ndM (by decide) (Nat.le_of_ble_eq_true rfl) ?_
  intro p e s m args below meth c D cA ad C
  have C : ab_C yM p s m args meth c D cA ad cX10_rowIs 2 RX10 (some .int) := C
  refine ab_weak (lv' := [some (.inr (.inr (0, 0))), some (.inl x1)]) ⟨.inr rfl, ⟨.inr rfl, trivial⟩⟩ ?_
  refine ab_iload_n C dX10_rowIs_0 rfl ?_
  obtain ⟨q1, hq1, h⟩ := ab_bind h
  refine ab_invS1 C dX10_rowIs_1 mlX10_113 ysX10_isShelf (tX10_isShelf l _ _ hq1) (Nat.le_of_ble_eq_true rfl) (Nat.le_of_ble_eq_true rfl) rfl (Nat.le_of_ble_eq_true rfl) ?_
  refine ab_if_ne C (tgt := 11) dX10_rowIs_4 (by decide) (fun hc2 => ?_) (fun hc2 => ?_)
  · replace h := ab_neg hc2 h
    refine ab_aload_n C dX10_rowIs_11 rfl ?_
    refine ab_getR C dX10_rowIs_12 flX10_70 rkM_0 rfl mmM_0 ?_
    refine ab_iload_n C dX10_rowIs_15 rfl ?_
    obtain ⟨hg3, h⟩ := ab_grd h
    refine ab_iald C dX10_rowIs_16 rkM_20 mmM_20 hg3 ?_
    refine ab_if_ge C (tgt := 25) dX10_rowIs_17 (by decide) (fun hc4 => ?_) (fun hc4 => ?_)
    · replace h := ab_pos hc4 h
      refine ab_aload_n C dX10_rowIs_25 rfl ?_
      refine ab_getR C dX10_rowIs_26 flX10_70 rkM_0 rfl mmM_0 ?_
      refine ab_iload_n C dX10_rowIs_29 rfl ?_
      obtain ⟨hg5, h⟩ := ab_grd h
      refine ab_iald C dX10_rowIs_30 rkM_20 mmM_20 hg5 ?_
      refine ab_bipush C dX10_rowIs_31 (v := 50) rfl ?_
      refine ab_icmp_ne C (tgt := 40) dX10_rowIs_33 (by decide) (fun hc6 => ?_) (fun hc6 => ?_)
      · replace h := ab_neg hc6 h
        refine ab_bipush C dX10_rowIs_40 (v := (-12)) rfl ?_
        refine ab_weak (lv' := [none, none]) ⟨.inl rfl, ⟨.inl rfl, trivial⟩⟩ ?_
        exact gX10_rowIs_b42 C _ _ h
      · replace h := ab_pos hc6 h
        refine ab_iconst C dX10_rowIs_36 (v := 1) rfl ?_
        refine ab_goto C (tgt := 42) dX10_rowIs_37 (by decide) ?_
        refine ab_weak (lv' := [none, none]) ⟨.inl rfl, ⟨.inl rfl, trivial⟩⟩ ?_
        exact gX10_rowIs_b42 C _ _ h
    · replace h := ab_neg hc4 h
      refine ab_bipush C dX10_rowIs_20 (v := (-11)) rfl ?_
      refine ab_goto C (tgt := 42) dX10_rowIs_22 (by decide) ?_
      refine ab_weak (lv' := [none, none]) ⟨.inl rfl, ⟨.inl rfl, trivial⟩⟩ ?_
      exact gX10_rowIs_b42 C _ _ h
  · replace h := ab_pos hc2 h
    refine ab_iconst C dX10_rowIs_7 (v := (-1)) rfl ?_
    refine ab_goto C (tgt := 42) dX10_rowIs_8 (by decide) ?_
    refine ab_weak (lv' := [none, none]) ⟨.inl rfl, ⟨.inl rfl, trivial⟩⟩ ?_
    exact gX10_rowIs_b42 C _ _ h
end
def fX10_threeAt_b58 (t0 : Int64) (σ : ab_S) : Option (Int64 × ab_S) := some (t0, σ)
def fX10_threeAt (x1 : Int32) (x2 : Int32) (x3 : Int32) (σ : ab_S) : Option (Int64 × ab_S) := (if ab_inb x2 6 = true then (if (σ.1 21 0 x2.toNatClampNeg) ≤ ((3 * x3) + 2) then fX10_threeAt_b58 0 σ else (if ab_inb ((60 * x2) + (3 * x3)) 360 = true then (if ab_inb (((60 * x2) + (3 * x3)) + 1) 360 = true then (if ab_inb (((60 * x2) + (3 * x3)) + 2) 360 = true then (fX10_threeBy x1 (σ.2 22 0 (((60 * x2) + (3 * x3)).toNatClampNeg)) (σ.2 22 0 ((((60 * x2) + (3 * x3)) + 1).toNatClampNeg)) (σ.2 22 0 ((((60 * x2) + (3 * x3)) + 2).toNatClampNeg)) σ).bind fun q6 => fX10_threeAt_b58 q6.1 q6.2 else none) else none) else none)) else none)
section
variable {p : Program} {l : Launch} {e : Env} {s : State} {m : MethodId} {args : Array Value} {below : List Frame} {meth : Method} {c : Code} {D : va_G} {cA : Nat → ClassId} {ad : Nat → Nat → Nat}
set_option maxRecDepth 100000 in
set_option maxHeartbeats 4000000 in
theorem gX10_threeAt_b58 {R : (Int64 × ab_S)} (C : ab_C yM p s m args meth c D cA ad cX10_threeAt 5 RX10 (some .long)) (t0 : Int64) (σ : ab_S) (h : fX10_threeAt_b58 t0 σ = some R) : ab_G yM p l e s m args below meth c D cA ad 5 71 (some (.inr (.inl R.1))) R.2 58 [none, none, none, none, none] [.inr (.inl t0)] σ := by
  obtain rfl := Option.some.inj h
  exact ab_lret C dX10_threeAt_58
set_option maxRecDepth 100000 in
set_option maxHeartbeats 4000000 in
theorem tX10_threeAt (l : Launch) (x1 : Int32) (x2 : Int32) (x3 : Int32) (σ : ab_S) {R : (Int64 × ab_S)} (h : fX10_threeAt x1 x2 x3 σ = some R) : ab_M l yM yX10_threeAt cX10_threeAt 5 (some .long) 71 [.inr (.inr (0, 0)), .inl x1, .inl x2, .inl x3] σ (some (.inr (.inl R.1))) R.2 := by
  refine ab_M_intro ndM (by decide) (Nat.le_of_ble_eq_true rfl) ?_
  intro p e s m args below meth c D cA ad C
  have C : ab_C yM p s m args meth c D cA ad cX10_threeAt 5 RX10 (some .long) := C
  refine ab_weak (lv' := [some (.inr (.inr (0, 0))), some (.inl x1), some (.inl x2), some (.inl x3), none]) ⟨.inr rfl, ⟨.inr rfl, ⟨.inr rfl, ⟨.inr rfl, ⟨.inl rfl, trivial⟩⟩⟩⟩⟩ ?_
  refine ab_bipush C dX10_threeAt_0 (v := 60) rfl ?_
  refine ab_iload_n C dX10_threeAt_2 rfl ?_
  refine ab_imul C dX10_threeAt_3  ?_
  refine ab_iconst C dX10_threeAt_4 (v := 3) rfl ?_
  refine ab_iload_n C dX10_threeAt_5 rfl ?_
  refine ab_imul C dX10_threeAt_6  ?_
  refine ab_iadd C dX10_threeAt_7  ?_
  refine ab_istore C dX10_threeAt_8 (Nat.le_of_ble_eq_true rfl) ?_
  refine ab_iconst C dX10_threeAt_10 (v := 3) rfl ?_
  refine ab_iload_n C dX10_threeAt_11 rfl ?_
  refine ab_imul C dX10_threeAt_12  ?_
  refine ab_iconst C dX10_threeAt_13 (v := 2) rfl ?_
  refine ab_iadd C dX10_threeAt_14  ?_
  refine ab_aload_n C dX10_threeAt_15 rfl ?_
  refine ab_getR C dX10_threeAt_16 flX10_73 rkM_0 rfl mmM_0 ?_
  refine ab_iload_n C dX10_threeAt_19 rfl ?_
  obtain ⟨hg1, h⟩ := ab_grd h
  refine ab_iald C dX10_threeAt_20 rkM_21 mmM_21 hg1 ?_
  refine ab_icmp_ge C (tgt := 57) dX10_threeAt_21 (by decide) (fun hc2 => ?_) (fun hc2 => ?_)
  · replace h := ab_pos hc2 h
    refine ab_lconst C dX10_threeAt_57 (v := 0) rfl ?_
    refine ab_weak (lv' := [none, none, none, none, none]) ⟨.inl rfl, ⟨.inl rfl, ⟨.inl rfl, ⟨.inl rfl, ⟨.inl rfl, trivial⟩⟩⟩⟩⟩ ?_
    exact gX10_threeAt_b58 C _ _ h
  · replace h := ab_neg hc2 h
    refine ab_aload_n C dX10_threeAt_24 rfl ?_
    refine ab_iload_n C dX10_threeAt_25 rfl ?_
    refine ab_aload_n C dX10_threeAt_26 rfl ?_
    refine ab_getR C dX10_threeAt_27 flX10_76 rkM_0 rfl mmM_0 ?_
    refine ab_iload C dX10_threeAt_30 rfl ?_
    obtain ⟨hg3, h⟩ := ab_grd h
    refine ab_lald C dX10_threeAt_32 rkM_22 mmM_22 hg3 ?_
    refine ab_aload_n C dX10_threeAt_33 rfl ?_
    refine ab_getR C dX10_threeAt_34 flX10_76 rkM_0 rfl mmM_0 ?_
    refine ab_iload C dX10_threeAt_37 rfl ?_
    refine ab_iconst C dX10_threeAt_39 (v := 1) rfl ?_
    refine ab_iadd C dX10_threeAt_40  ?_
    obtain ⟨hg4, h⟩ := ab_grd h
    refine ab_lald C dX10_threeAt_41 rkM_22 mmM_22 hg4 ?_
    refine ab_aload_n C dX10_threeAt_42 rfl ?_
    refine ab_getR C dX10_threeAt_43 flX10_76 rkM_0 rfl mmM_0 ?_
    refine ab_iload C dX10_threeAt_46 rfl ?_
    refine ab_iconst C dX10_threeAt_48 (v := 2) rfl ?_
    refine ab_iadd C dX10_threeAt_49  ?_
    obtain ⟨hg5, h⟩ := ab_grd h
    refine ab_lald C dX10_threeAt_50 rkM_22 mmM_22 hg5 ?_
    obtain ⟨q6, hq6, h⟩ := ab_bind h
    refine ab_inv1 C dX10_threeAt_51 mlX10_290 yvX10_threeBy rkM_0 ⟨_, _, rfl⟩ mmM_0 (tX10_threeBy l _ _ _ _ _ hq6) (Nat.le_of_ble_eq_true rfl) (Nat.le_of_ble_eq_true rfl) rfl (Nat.le_of_ble_eq_true rfl) ?_
    refine ab_goto C (tgt := 58) dX10_threeAt_54 (by decide) ?_
    refine ab_weak (lv' := [none, none, none, none, none]) ⟨.inl rfl, ⟨.inl rfl, ⟨.inl rfl, ⟨.inl rfl, ⟨.inl rfl, trivial⟩⟩⟩⟩⟩ ?_
    exact gX10_threeAt_b58 C _ _ h
end
def fX10_judge_b16 (σ : ab_S) : Option (Int32 × ab_S) := some ((-1), σ)
def fX10_judge_b87 (kk34 : Int32 → Int32 → Int32 → ab_S → Option (Int32 × ab_S)) (kk52 : Int32 → Int32 → Int32 → Int32 → Int32 → ab_S → Option (Int32 × ab_S)) (v1 : Int32) (v2 : Int32) (v3 : Int32) (v5 : Int32) (t0 : Int32) (t1 : Int32) (σ : ab_S) : Option (Int32 × ab_S) := kk52 v1 v2 v3 (t0 ||| t1) (v5 + 1) σ
def fX10_judge_b86 (kk34 : Int32 → Int32 → Int32 → ab_S → Option (Int32 × ab_S)) (kk52 : Int32 → Int32 → Int32 → Int32 → Int32 → ab_S → Option (Int32 × ab_S)) (v1 : Int32) (v2 : Int32) (v3 : Int32) (v5 : Int32) (t0 : Int32) (σ : ab_S) : Option (Int32 × ab_S) := fX10_judge_b87 kk34 kk52 v1 v2 v3 v5 t0 0 σ
def fX10_judge_b52_o (kk34 : Int32 → Int32 → Int32 → ab_S → Option (Int32 × ab_S)) (kk52 : Int32 → Int32 → Int32 → Int32 → Int32 → ab_S → Option (Int32 × ab_S)) (v1 : Int32) (v2 : Int32) (v3 : Int32) (v4 : Int32) (v5 : Int32) (σ : ab_S) : Option (Int32 × ab_S) := (if 4 ≤ v5 then (if v4 = 0 then some (v3, σ) else kk34 v1 v2 (v3 + 1) σ) else (fX10_isIn v2 v5).bind fun q3 => (if q3 = 0 then fX10_judge_b86 kk34 kk52 v1 v2 v3 v5 v4 σ else (fX10_threeAt v5 v1 v3 σ).bind fun q5 => (if (lg_cmp q5.1 0) ≤ 0 then fX10_judge_b86 kk34 kk52 v1 v2 v3 v5 v4 q5.2 else fX10_judge_b87 kk34 kk52 v1 v2 v3 v5 v4 1 q5.2)))
def fX10_judge_b52 (kk34 : Int32 → Int32 → Int32 → ab_S → Option (Int32 × ab_S)) : Nat → Int32 → Int32 → Int32 → Int32 → Int32 → ab_S → Option (Int32 × ab_S)
  | 0 => fun _ _ _ _ _ _ => none
  | n + 1 => fX10_judge_b52_o kk34 (fX10_judge_b52 kk34 n)
def fX10_judge_b34_o (kk34 : Int32 → Int32 → Int32 → ab_S → Option (Int32 × ab_S)) (v1 : Int32) (v2 : Int32) (v3 : Int32) (σ : ab_S) : Option (Int32 × ab_S) := (if ab_inb v1 6 = true then (if (σ.1 21 0 v1.toNatClampNeg) ≤ (3 * v3) then some ((-2), σ) else fX10_judge_b52 kk34 ab_N v1 v2 v3 0 0 σ) else none)
def fX10_judge_b34 : Nat → Int32 → Int32 → Int32 → ab_S → Option (Int32 × ab_S)
  | 0 => fun _ _ _ _ => none
  | n + 1 => fX10_judge_b34_o  (fX10_judge_b34 n)
def fX10_judge (x1 : Int32) (x2 : Int32) (σ : ab_S) : Option (Int32 × ab_S) := (fX10_rowIs x1 σ).bind fun q1 => (if q1 = ((-1)) then fX10_judge_b16 σ else (fX10_areHosts x2).bind fun q3 => (if q3 = 0 then fX10_judge_b16 σ else (fX10_rowIs x1 σ).bind fun q5 => (if 0 ≤ q5 then fX10_judge_b34 ab_N x1 x2 0 σ else (fX10_rowIs x1 σ).bind fun q7 => some (q7, σ))))
section
variable {p : Program} {l : Launch} {e : Env} {s : State} {m : MethodId} {args : Array Value} {below : List Frame} {meth : Method} {c : Code} {D : va_G} {cA : Nat → ClassId} {ad : Nat → Nat → Nat}
set_option maxRecDepth 100000 in
set_option maxHeartbeats 4000000 in
theorem gX10_judge_b16 {R : (Int32 × ab_S)} (C : ab_C yM p s m args meth c D cA ad cX10_judge 6 RX10 (some .int)) (σ : ab_S) (h : fX10_judge_b16 σ = some R) : ab_G yM p l e s m args below meth c D cA ad 6 72 (some (.inl R.1)) R.2 16 [none, none, none, none, none, none] [] σ := by
  refine ab_iconst C dX10_judge_16 (v := (-1)) rfl ?_
  obtain rfl := Option.some.inj h
  exact ab_iret C dX10_judge_17
set_option maxRecDepth 100000 in
set_option maxHeartbeats 4000000 in
theorem gX10_judge_b87 {R : (Int32 × ab_S)} (C : ab_C yM p s m args meth c D cA ad cX10_judge 6 RX10 (some .int)) {kk34 : Int32 → Int32 → Int32 → ab_S → Option (Int32 × ab_S)} (hk34 : ∀ (v1 : Int32) (v2 : Int32) (v3 : Int32) (σ : ab_S), kk34 v1 v2 v3 σ = some R → ab_G yM p l e s m args below meth c D cA ad 6 72 (some (.inl R.1)) R.2 34 [some (.inr (.inr (0, 0))), some (.inl v1), some (.inl v2), some (.inl v3), none, none] [] σ) {kk52 : Int32 → Int32 → Int32 → Int32 → Int32 → ab_S → Option (Int32 × ab_S)} (hk52 : ∀ (v1 : Int32) (v2 : Int32) (v3 : Int32) (v4 : Int32) (v5 : Int32) (σ : ab_S), kk52 v1 v2 v3 v4 v5 σ = some R → ab_G yM p l e s m args below meth c D cA ad 6 72 (some (.inl R.1)) R.2 52 [some (.inr (.inr (0, 0))), some (.inl v1), some (.inl v2), some (.inl v3), some (.inl v4), some (.inl v5)] [] σ) (v1 : Int32) (v2 : Int32) (v3 : Int32) (v5 : Int32) (t0 : Int32) (t1 : Int32) (σ : ab_S) (h : fX10_judge_b87 kk34 kk52 v1 v2 v3 v5 t0 t1 σ = some R) : ab_G yM p l e s m args below meth c D cA ad 6 72 (some (.inl R.1)) R.2 87 [some (.inr (.inr (0, 0))), some (.inl v1), some (.inl v2), some (.inl v3), none, some (.inl v5)] [.inl t1, .inl t0] σ := by
  refine ab_ior C dX10_judge_87  ?_
  refine ab_istore C dX10_judge_88 (Nat.le_of_ble_eq_true rfl) ?_
  refine ab_iinc C dX10_judge_90 rfl (v := 1) rfl (Nat.le_of_ble_eq_true rfl) ?_
  refine ab_goto C (tgt := 52) dX10_judge_93 (by decide) ?_
  refine ab_weak (lv' := [some (.inr (.inr (0, 0))), some (.inl v1), some (.inl v2), some (.inl v3), some (.inl (t0 ||| t1)), some (.inl (v5 + 1))]) ⟨.inr rfl, ⟨.inr rfl, ⟨.inr rfl, ⟨.inr rfl, ⟨.inr rfl, ⟨.inr rfl, trivial⟩⟩⟩⟩⟩⟩ ?_
  exact hk52 _ _ _ _ _ _ h
set_option maxRecDepth 100000 in
set_option maxHeartbeats 4000000 in
theorem gX10_judge_b86 {R : (Int32 × ab_S)} (C : ab_C yM p s m args meth c D cA ad cX10_judge 6 RX10 (some .int)) {kk34 : Int32 → Int32 → Int32 → ab_S → Option (Int32 × ab_S)} (hk34 : ∀ (v1 : Int32) (v2 : Int32) (v3 : Int32) (σ : ab_S), kk34 v1 v2 v3 σ = some R → ab_G yM p l e s m args below meth c D cA ad 6 72 (some (.inl R.1)) R.2 34 [some (.inr (.inr (0, 0))), some (.inl v1), some (.inl v2), some (.inl v3), none, none] [] σ) {kk52 : Int32 → Int32 → Int32 → Int32 → Int32 → ab_S → Option (Int32 × ab_S)} (hk52 : ∀ (v1 : Int32) (v2 : Int32) (v3 : Int32) (v4 : Int32) (v5 : Int32) (σ : ab_S), kk52 v1 v2 v3 v4 v5 σ = some R → ab_G yM p l e s m args below meth c D cA ad 6 72 (some (.inl R.1)) R.2 52 [some (.inr (.inr (0, 0))), some (.inl v1), some (.inl v2), some (.inl v3), some (.inl v4), some (.inl v5)] [] σ) (v1 : Int32) (v2 : Int32) (v3 : Int32) (v5 : Int32) (t0 : Int32) (σ : ab_S) (h : fX10_judge_b86 kk34 kk52 v1 v2 v3 v5 t0 σ = some R) : ab_G yM p l e s m args below meth c D cA ad 6 72 (some (.inl R.1)) R.2 86 [some (.inr (.inr (0, 0))), some (.inl v1), some (.inl v2), some (.inl v3), none, some (.inl v5)] [.inl t0] σ := by
  refine ab_iconst C dX10_judge_86 (v := 0) rfl ?_
  refine ab_weak (lv' := [some (.inr (.inr (0, 0))), some (.inl v1), some (.inl v2), some (.inl v3), none, some (.inl v5)]) ⟨.inr rfl, ⟨.inr rfl, ⟨.inr rfl, ⟨.inr rfl, ⟨.inl rfl, ⟨.inr rfl, trivial⟩⟩⟩⟩⟩⟩ ?_
  exact gX10_judge_b87 C hk34 hk52 _ _ _ _ _ _ _ h
set_option maxRecDepth 100000 in
set_option maxHeartbeats 4000000 in
theorem gX10_judge_b52_o {R : (Int32 × ab_S)} (C : ab_C yM p s m args meth c D cA ad cX10_judge 6 RX10 (some .int)) {kk34 : Int32 → Int32 → Int32 → ab_S → Option (Int32 × ab_S)} (hk34 : ∀ (v1 : Int32) (v2 : Int32) (v3 : Int32) (σ : ab_S), kk34 v1 v2 v3 σ = some R → ab_G yM p l e s m args below meth c D cA ad 6 72 (some (.inl R.1)) R.2 34 [some (.inr (.inr (0, 0))), some (.inl v1), some (.inl v2), some (.inl v3), none, none] [] σ) {kk52 : Int32 → Int32 → Int32 → Int32 → Int32 → ab_S → Option (Int32 × ab_S)} (hk52 : ∀ (v1 : Int32) (v2 : Int32) (v3 : Int32) (v4 : Int32) (v5 : Int32) (σ : ab_S), kk52 v1 v2 v3 v4 v5 σ = some R → ab_G yM p l e s m args below meth c D cA ad 6 72 (some (.inl R.1)) R.2 52 [some (.inr (.inr (0, 0))), some (.inl v1), some (.inl v2), some (.inl v3), some (.inl v4), some (.inl v5)] [] σ) (v1 : Int32) (v2 : Int32) (v3 : Int32) (v4 : Int32) (v5 : Int32) (σ : ab_S) (h : fX10_judge_b52_o kk34 kk52 v1 v2 v3 v4 v5 σ = some R) : ab_G yM p l e s m args below meth c D cA ad 6 72 (some (.inl R.1)) R.2 52 [some (.inr (.inr (0, 0))), some (.inl v1), some (.inl v2), some (.inl v3), some (.inl v4), some (.inl v5)] [] σ := by
  refine ab_iload C dX10_judge_52 rfl ?_
  refine ab_iconst C dX10_judge_54 (v := 4) rfl ?_
  refine ab_icmp_ge C (tgt := 96) dX10_judge_55 (by decide) (fun hc1 => ?_) (fun hc1 => ?_)
  · replace h := ab_pos hc1 h
    refine ab_iload C dX10_judge_96 rfl ?_
    refine ab_if_ne C (tgt := 103) dX10_judge_98 (by decide) (fun hc2 => ?_) (fun hc2 => ?_)
    · replace h := ab_neg hc2 h
      refine ab_iinc C dX10_judge_103 rfl (v := 1) rfl (Nat.le_of_ble_eq_true rfl) ?_
      refine ab_goto C (tgt := 34) dX10_judge_106 (by decide) ?_
      refine ab_weak (lv' := [some (.inr (.inr (0, 0))), some (.inl v1), some (.inl v2), some (.inl (v3 + 1)), none, none]) ⟨.inr rfl, ⟨.inr rfl, ⟨.inr rfl, ⟨.inr rfl, ⟨.inl rfl, ⟨.inl rfl, trivial⟩⟩⟩⟩⟩⟩ ?_
      exact hk34 _ _ _ _ h
    · replace h := ab_pos hc2 h
      refine ab_iload_n C dX10_judge_101 rfl ?_
      obtain rfl := Option.some.inj h
      exact ab_iret C dX10_judge_102
  · replace h := ab_neg hc1 h
    refine ab_iload C dX10_judge_58 rfl ?_
    refine ab_iload_n C dX10_judge_60 rfl ?_
    refine ab_iload C dX10_judge_61 rfl ?_
    obtain ⟨q3, hq3, h⟩ := ab_bind h
    refine ab_invS1 C dX10_judge_63 mlX10_138 ysX10_isIn (tX10_isIn l _ _ _ hq3) (Nat.le_of_ble_eq_true rfl) (Nat.le_of_ble_eq_true rfl) rfl (Nat.le_of_ble_eq_true rfl) ?_
    refine ab_if_eq C (tgt := 86) dX10_judge_66 (by decide) (fun hc4 => ?_) (fun hc4 => ?_)
    · replace h := ab_pos hc4 h
      refine ab_weak (lv' := [some (.inr (.inr (0, 0))), some (.inl v1), some (.inl v2), some (.inl v3), none, some (.inl v5)]) ⟨.inr rfl, ⟨.inr rfl, ⟨.inr rfl, ⟨.inr rfl, ⟨.inl rfl, ⟨.inr rfl, trivial⟩⟩⟩⟩⟩⟩ ?_
      exact gX10_judge_b86 C hk34 hk52 _ _ _ _ _ _ h
    · replace h := ab_neg hc4 h
      refine ab_aload_n C dX10_judge_69 rfl ?_
      refine ab_iload C dX10_judge_70 rfl ?_
      refine ab_iload_n C dX10_judge_72 rfl ?_
      refine ab_iload_n C dX10_judge_73 rfl ?_
      obtain ⟨q5, hq5, h⟩ := ab_bind h
      refine ab_inv1 C dX10_judge_74 mlX10_294 yvX10_threeAt rkM_0 ⟨_, _, rfl⟩ mmM_0 (tX10_threeAt l _ _ _ _ hq5) (Nat.le_of_ble_eq_true rfl) (Nat.le_of_ble_eq_true rfl) rfl (Nat.le_of_ble_eq_true rfl) ?_
      refine ab_lconst C dX10_judge_77 (v := 0) rfl ?_
      refine ab_lcmp C dX10_judge_78  ?_
      refine ab_if_le C (tgt := 86) dX10_judge_79 (by decide) (fun hc6 => ?_) (fun hc6 => ?_)
      · replace h := ab_pos hc6 h
        refine ab_weak (lv' := [some (.inr (.inr (0, 0))), some (.inl v1), some (.inl v2), some (.inl v3), none, some (.inl v5)]) ⟨.inr rfl, ⟨.inr rfl, ⟨.inr rfl, ⟨.inr rfl, ⟨.inl rfl, ⟨.inr rfl, trivial⟩⟩⟩⟩⟩⟩ ?_
        exact gX10_judge_b86 C hk34 hk52 _ _ _ _ _ _ h
      · replace h := ab_neg hc6 h
        refine ab_iconst C dX10_judge_82 (v := 1) rfl ?_
        refine ab_goto C (tgt := 87) dX10_judge_83 (by decide) ?_
        refine ab_weak (lv' := [some (.inr (.inr (0, 0))), some (.inl v1), some (.inl v2), some (.inl v3), none, some (.inl v5)]) ⟨.inr rfl, ⟨.inr rfl, ⟨.inr rfl, ⟨.inr rfl, ⟨.inl rfl, ⟨.inr rfl, trivial⟩⟩⟩⟩⟩⟩ ?_
        exact gX10_judge_b87 C hk34 hk52 _ _ _ _ _ _ _ h
theorem gX10_judge_b52 {R : (Int32 × ab_S)} (C : ab_C yM p s m args meth c D cA ad cX10_judge 6 RX10 (some .int)) {kk34 : Int32 → Int32 → Int32 → ab_S → Option (Int32 × ab_S)} (hk34 : ∀ (v1 : Int32) (v2 : Int32) (v3 : Int32) (σ : ab_S), kk34 v1 v2 v3 σ = some R → ab_G yM p l e s m args below meth c D cA ad 6 72 (some (.inl R.1)) R.2 34 [some (.inr (.inr (0, 0))), some (.inl v1), some (.inl v2), some (.inl v3), none, none] [] σ) : ∀ (j : Nat) (v1 : Int32) (v2 : Int32) (v3 : Int32) (v4 : Int32) (v5 : Int32) (σ : ab_S), fX10_judge_b52 kk34 j v1 v2 v3 v4 v5 σ = some R → ab_G yM p l e s m args below meth c D cA ad 6 72 (some (.inl R.1)) R.2 52 [some (.inr (.inr (0, 0))), some (.inl v1), some (.inl v2), some (.inl v3), some (.inl v4), some (.inl v5)] [] σ := by
  intro j
  induction j with
  | zero => intro v1 v2 v3 v4 v5 σ  h; cases h
  | succ j ih => intro v1 v2 v3 v4 v5 σ  h; exact gX10_judge_b52_o C hk34 ih _ _ _ _ _ _ h
set_option maxRecDepth 100000 in
set_option maxHeartbeats 4000000 in
theorem gX10_judge_b34_o {R : (Int32 × ab_S)} (C : ab_C yM p s m args meth c D cA ad cX10_judge 6 RX10 (some .int)) {kk34 : Int32 → Int32 → Int32 → ab_S → Option (Int32 × ab_S)} (hk34 : ∀ (v1 : Int32) (v2 : Int32) (v3 : Int32) (σ : ab_S), kk34 v1 v2 v3 σ = some R → ab_G yM p l e s m args below meth c D cA ad 6 72 (some (.inl R.1)) R.2 34 [some (.inr (.inr (0, 0))), some (.inl v1), some (.inl v2), some (.inl v3), none, none] [] σ) (v1 : Int32) (v2 : Int32) (v3 : Int32) (σ : ab_S) (h : fX10_judge_b34_o kk34 v1 v2 v3 σ = some R) : ab_G yM p l e s m args below meth c D cA ad 6 72 (some (.inl R.1)) R.2 34 [some (.inr (.inr (0, 0))), some (.inl v1), some (.inl v2), some (.inl v3), none, none] [] σ := by
  refine ab_iconst C dX10_judge_34 (v := 3) rfl ?_
  refine ab_iload_n C dX10_judge_35 rfl ?_
  refine ab_imul C dX10_judge_36  ?_
  refine ab_aload_n C dX10_judge_37 rfl ?_
  refine ab_getR C dX10_judge_38 flX10_73 rkM_0 rfl mmM_0 ?_
  refine ab_iload_n C dX10_judge_41 rfl ?_
  obtain ⟨hg1, h⟩ := ab_grd h
  refine ab_iald C dX10_judge_42 rkM_21 mmM_21 hg1 ?_
  refine ab_icmp_ge C (tgt := 109) dX10_judge_43 (by decide) (fun hc2 => ?_) (fun hc2 => ?_)
  · replace h := ab_pos hc2 h
    refine ab_bipush C dX10_judge_109 (v := (-2)) rfl ?_
    obtain rfl := Option.some.inj h
    exact ab_iret C dX10_judge_111
  · replace h := ab_neg hc2 h
    refine ab_iconst C dX10_judge_46 (v := 0) rfl ?_
    refine ab_istore C dX10_judge_47 (Nat.le_of_ble_eq_true rfl) ?_
    refine ab_iconst C dX10_judge_49 (v := 0) rfl ?_
    refine ab_istore C dX10_judge_50 (Nat.le_of_ble_eq_true rfl) ?_
    refine ab_weak (lv' := [some (.inr (.inr (0, 0))), some (.inl v1), some (.inl v2), some (.inl v3), some (.inl 0), some (.inl 0)]) ⟨.inr rfl, ⟨.inr rfl, ⟨.inr rfl, ⟨.inr rfl, ⟨.inr rfl, ⟨.inr rfl, trivial⟩⟩⟩⟩⟩⟩ ?_
    exact gX10_judge_b52 C hk34 ab_N _ _ _ _ _ _ h
theorem gX10_judge_b34 {R : (Int32 × ab_S)} (C : ab_C yM p s m args meth c D cA ad cX10_judge 6 RX10 (some .int)) : ∀ (j : Nat) (v1 : Int32) (v2 : Int32) (v3 : Int32) (σ : ab_S), fX10_judge_b34 j v1 v2 v3 σ = some R → ab_G yM p l e s m args below meth c D cA ad 6 72 (some (.inl R.1)) R.2 34 [some (.inr (.inr (0, 0))), some (.inl v1), some (.inl v2), some (.inl v3), none, none] [] σ := by
  intro j
  induction j with
  | zero => intro v1 v2 v3 σ  h; cases h
  | succ j ih => intro v1 v2 v3 σ  h; exact gX10_judge_b34_o C ih _ _ _ _ h
set_option maxRecDepth 100000 in
set_option maxHeartbeats 4000000 in
theorem tX10_judge (l : Launch) (x1 : Int32) (x2 : Int32) (σ : ab_S) {R : (Int32 × ab_S)} (h : fX10_judge x1 x2 σ = some R) : ab_M l yM yX10_judge cX10_judge 6 (some .int) 72 [.inr (.inr (0, 0)), .inl x1, .inl x2] σ (some (.inl R.1)) R.2 := by
  refine ab_M_intro ndM (by decide) (Nat.le_of_ble_eq_true rfl) ?_
  intro p e s m args below meth c D cA ad C
  have C : ab_C yM p s m args meth c D cA ad cX10_judge 6 RX10 (some .int) := C
  refine ab_weak (lv' := [some (.inr (.inr (0, 0))), some (.inl x1), some (.inl x2), none, none, none]) ⟨.inr rfl, ⟨.inr rfl, ⟨.inr rfl, ⟨.inl rfl, ⟨.inl rfl, ⟨.inl rfl, trivial⟩⟩⟩⟩⟩⟩ ?_
  refine ab_aload_n C dX10_judge_0 rfl ?_
  refine ab_iload_n C dX10_judge_1 rfl ?_
  obtain ⟨q1, hq1, h⟩ := ab_bind h
  refine ab_inv1 C dX10_judge_2 mlX10_297 yvX10_rowIs rkM_0 ⟨_, _, rfl⟩ mmM_0 (tX10_rowIs l _ _ hq1) (Nat.le_of_ble_eq_true rfl) (Nat.le_of_ble_eq_true rfl) rfl (Nat.le_of_ble_eq_true rfl) ?_
  refine ab_iconst C dX10_judge_5 (v := (-1)) rfl ?_
  refine ab_icmp_eq C (tgt := 16) dX10_judge_6 (by decide) (fun hc2 => ?_) (fun hc2 => ?_)
  · replace h := ab_pos hc2 h
    refine ab_weak (lv' := [none, none, none, none, none, none]) ⟨.inl rfl, ⟨.inl rfl, ⟨.inl rfl, ⟨.inl rfl, ⟨.inl rfl, ⟨.inl rfl, trivial⟩⟩⟩⟩⟩⟩ ?_
    exact gX10_judge_b16 C _ h
  · replace h := ab_neg hc2 h
    refine ab_iload_n C dX10_judge_9 rfl ?_
    obtain ⟨q3, hq3, h⟩ := ab_bind h
    refine ab_invS1 C dX10_judge_10 mlX10_282 ysX10_areHosts (tX10_areHosts l _ _ hq3) (Nat.le_of_ble_eq_true rfl) (Nat.le_of_ble_eq_true rfl) rfl (Nat.le_of_ble_eq_true rfl) ?_
    refine ab_if_ne C (tgt := 18) dX10_judge_13 (by decide) (fun hc4 => ?_) (fun hc4 => ?_)
    · replace h := ab_neg hc4 h
      refine ab_aload_n C dX10_judge_18 rfl ?_
      refine ab_iload_n C dX10_judge_19 rfl ?_
      obtain ⟨q5, hq5, h⟩ := ab_bind h
      refine ab_inv1 C dX10_judge_20 mlX10_297 yvX10_rowIs rkM_0 ⟨_, _, rfl⟩ mmM_0 (tX10_rowIs l _ _ hq5) (Nat.le_of_ble_eq_true rfl) (Nat.le_of_ble_eq_true rfl) rfl (Nat.le_of_ble_eq_true rfl) ?_
      refine ab_if_ge C (tgt := 32) dX10_judge_23 (by decide) (fun hc6 => ?_) (fun hc6 => ?_)
      · replace h := ab_pos hc6 h
        refine ab_iconst C dX10_judge_32 (v := 0) rfl ?_
        refine ab_istore_n C dX10_judge_33 (Nat.le_of_ble_eq_true rfl) ?_
        refine ab_weak (lv' := [some (.inr (.inr (0, 0))), some (.inl x1), some (.inl x2), some (.inl 0), none, none]) ⟨.inr rfl, ⟨.inr rfl, ⟨.inr rfl, ⟨.inr rfl, ⟨.inl rfl, ⟨.inl rfl, trivial⟩⟩⟩⟩⟩⟩ ?_
        exact gX10_judge_b34 C ab_N _ _ _ _ h
      · replace h := ab_neg hc6 h
        refine ab_aload_n C dX10_judge_26 rfl ?_
        refine ab_iload_n C dX10_judge_27 rfl ?_
        obtain ⟨q7, hq7, h⟩ := ab_bind h
        refine ab_inv1 C dX10_judge_28 mlX10_297 yvX10_rowIs rkM_0 ⟨_, _, rfl⟩ mmM_0 (tX10_rowIs l _ _ hq7) (Nat.le_of_ble_eq_true rfl) (Nat.le_of_ble_eq_true rfl) rfl (Nat.le_of_ble_eq_true rfl) ?_
        obtain rfl := Option.some.inj h
        exact ab_iret C dX10_judge_31
    · replace h := ab_pos hc4 h
      refine ab_weak (lv' := [none, none, none, none, none, none]) ⟨.inl rfl, ⟨.inl rfl, ⟨.inl rfl, ⟨.inl rfl, ⟨.inl rfl, ⟨.inl rfl, trivial⟩⟩⟩⟩⟩⟩ ?_
      exact gX10_judge_b16 C _ h
end
def fX10_keep_b20 (σ : ab_S) : Option (Int32 × ab_S) := some ((-1), σ)
def fX10_keep_b22 (v1 : Int32) (v2 : Int32) (σ : ab_S) : Option (Int32 × ab_S) := (if ab_inb v1 6 = true then ab_k (ab_si σ 20 0 v1.toNatClampNeg v2) fun σ2 => (if ab_inb v1 6 = true then ab_k (ab_si σ2 21 0 v1.toNatClampNeg 0) fun σ4 => some (1, σ4) else none) else none)
def fX10_keep (x1 : Int32) (x2 : Int32) (σ : ab_S) : Option (Int32 × ab_S) := (fX10_isShelf x1).bind fun q1 => (if q1 = 0 then fX10_keep_b20 σ else (if x2 = ((-1)) then fX10_keep_b22 x1 x2 σ else (fX10_isBody x2 σ).bind fun q4 => (if q4 = 0 then fX10_keep_b20 σ else fX10_keep_b22 x1 x2 σ)))
section
variable {p : Program} {l : Launch} {e : Env} {s : State} {m : MethodId} {args : Array Value} {below : List Frame} {meth : Method} {c : Code} {D : va_G} {cA : Nat → ClassId} {ad : Nat → Nat → Nat}
set_option maxRecDepth 100000 in
set_option maxHeartbeats 4000000 in
theorem gX10_keep_b20 {R : (Int32 × ab_S)} (C : ab_C yM p s m args meth c D cA ad cX10_keep 3 RX10 (some .int)) (σ : ab_S) (h : fX10_keep_b20 σ = some R) : ab_G yM p l e s m args below meth c D cA ad 3 2 (some (.inl R.1)) R.2 20 [none, none, none] [] σ := by
  refine ab_iconst C dX10_keep_20 (v := (-1)) rfl ?_
  obtain rfl := Option.some.inj h
  exact ab_iret C dX10_keep_21
set_option maxRecDepth 100000 in
set_option maxHeartbeats 4000000 in
theorem gX10_keep_b22 {R : (Int32 × ab_S)} (C : ab_C yM p s m args meth c D cA ad cX10_keep 3 RX10 (some .int)) (v1 : Int32) (v2 : Int32) (σ : ab_S) (h : fX10_keep_b22 v1 v2 σ = some R) : ab_G yM p l e s m args below meth c D cA ad 3 2 (some (.inl R.1)) R.2 22 [some (.inr (.inr (0, 0))), some (.inl v1), some (.inl v2)] [] σ := by
  refine ab_aload_n C dX10_keep_22 rfl ?_
  refine ab_getR C dX10_keep_23 flX10_70 rkM_0 rfl mmM_0 ?_
  refine ab_iload_n C dX10_keep_26 rfl ?_
  refine ab_iload_n C dX10_keep_27 rfl ?_
  obtain ⟨hg1, h⟩ := ab_grd h
  refine ab_iast C dX10_keep_28 rkM_20 mmM_20 hg1 ?_
  refine ab_nmS (fun σ2 eσ2 => ?_)
  replace h := ab_kh eσ2 h
  refine ab_aload_n C dX10_keep_29 rfl ?_
  refine ab_getR C dX10_keep_30 flX10_73 rkM_0 rfl mmM_0 ?_
  refine ab_iload_n C dX10_keep_33 rfl ?_
  refine ab_iconst C dX10_keep_34 (v := 0) rfl ?_
  obtain ⟨hg3, h⟩ := ab_grd h
  refine ab_iast C dX10_keep_35 rkM_21 mmM_21 hg3 ?_
  refine ab_nmS (fun σ4 eσ4 => ?_)
  replace h := ab_kh eσ4 h
  refine ab_iconst C dX10_keep_36 (v := 1) rfl ?_
  obtain rfl := Option.some.inj h
  exact ab_iret C dX10_keep_37
set_option maxRecDepth 100000 in
set_option maxHeartbeats 4000000 in
theorem tX10_keep (l : Launch) (x1 : Int32) (x2 : Int32) (σ : ab_S) {R : (Int32 × ab_S)} (h : fX10_keep x1 x2 σ = some R) : ab_M l yM yX10_keep cX10_keep 3 (some .int) 2 [.inr (.inr (0, 0)), .inl x1, .inl x2] σ (some (.inl R.1)) R.2 := by
  refine ab_M_intro ndM (by decide) (Nat.le_of_ble_eq_true rfl) ?_
  intro p e s m args below meth c D cA ad C
  have C : ab_C yM p s m args meth c D cA ad cX10_keep 3 RX10 (some .int) := C
  refine ab_weak (lv' := [some (.inr (.inr (0, 0))), some (.inl x1), some (.inl x2)]) ⟨.inr rfl, ⟨.inr rfl, ⟨.inr rfl, trivial⟩⟩⟩ ?_
  refine ab_iload_n C dX10_keep_0 rfl ?_
  obtain ⟨q1, hq1, h⟩ := ab_bind h
  refine ab_invS1 C dX10_keep_1 mlX10_113 ysX10_isShelf (tX10_isShelf l _ _ hq1) (Nat.le_of_ble_eq_true rfl) (Nat.le_of_ble_eq_true rfl) rfl (Nat.le_of_ble_eq_true rfl) ?_
  refine ab_if_eq C (tgt := 20) dX10_keep_4 (by decide) (fun hc2 => ?_) (fun hc2 => ?_)
  · replace h := ab_pos hc2 h
    refine ab_weak (lv' := [none, none, none]) ⟨.inl rfl, ⟨.inl rfl, ⟨.inl rfl, trivial⟩⟩⟩ ?_
    exact gX10_keep_b20 C _ h
  · replace h := ab_neg hc2 h
    refine ab_iload_n C dX10_keep_7 rfl ?_
    refine ab_iconst C dX10_keep_8 (v := (-1)) rfl ?_
    refine ab_icmp_eq C (tgt := 22) dX10_keep_9 (by decide) (fun hc3 => ?_) (fun hc3 => ?_)
    · replace h := ab_pos hc3 h
      refine ab_weak (lv' := [some (.inr (.inr (0, 0))), some (.inl x1), some (.inl x2)]) ⟨.inr rfl, ⟨.inr rfl, ⟨.inr rfl, trivial⟩⟩⟩ ?_
      exact gX10_keep_b22 C _ _ _ h
    · replace h := ab_neg hc3 h
      refine ab_aload_n C dX10_keep_12 rfl ?_
      refine ab_iload_n C dX10_keep_13 rfl ?_
      obtain ⟨q4, hq4, h⟩ := ab_bind h
      refine ab_inv1 C dX10_keep_14 mlX10_370 yvX10_isBody rkM_0 ⟨_, _, rfl⟩ mmM_0 (tX10_isBody l _ _ hq4) (Nat.le_of_ble_eq_true rfl) (Nat.le_of_ble_eq_true rfl) rfl (Nat.le_of_ble_eq_true rfl) ?_
      refine ab_if_ne C (tgt := 22) dX10_keep_17 (by decide) (fun hc5 => ?_) (fun hc5 => ?_)
      · replace h := ab_neg hc5 h
        refine ab_weak (lv' := [some (.inr (.inr (0, 0))), some (.inl x1), some (.inl x2)]) ⟨.inr rfl, ⟨.inr rfl, ⟨.inr rfl, trivial⟩⟩⟩ ?_
        exact gX10_keep_b22 C _ _ _ h
      · replace h := ab_pos hc5 h
        refine ab_weak (lv' := [none, none, none]) ⟨.inl rfl, ⟨.inl rfl, ⟨.inl rfl, trivial⟩⟩⟩ ?_
        exact gX10_keep_b20 C _ h
end
def fX10_kindOf (x1 : Int32) (σ : ab_S) : Option Int32 := (if ab_inb x1 50 = true then some (σ.1 18 0 x1.toNatClampNeg) else none)
section
variable {p : Program} {l : Launch} {e : Env} {s : State} {m : MethodId} {args : Array Value} {below : List Frame} {meth : Method} {c : Code} {D : va_G} {cA : Nat → ClassId} {ad : Nat → Nat → Nat}
set_option maxRecDepth 100000 in
set_option maxHeartbeats 4000000 in
theorem tX10_kindOf (l : Launch) (x1 : Int32) (σ : ab_S) {R : Int32} (h : fX10_kindOf x1 σ = some R) : ab_M l yM yX10_kindOf cX10_kindOf 2 (some .int) 0 [.inr (.inr (0, 0)), .inl x1] σ (some (.inl R)) σ := by
  refine ab_M_intro ndM (by decide) (Nat.le_of_ble_eq_true rfl) ?_
  intro p e s m args below meth c D cA ad C
  have C : ab_C yM p s m args meth c D cA ad cX10_kindOf 2 RX10 (some .int) := C
  refine ab_weak (lv' := [some (.inr (.inr (0, 0))), some (.inl x1)]) ⟨.inr rfl, ⟨.inr rfl, trivial⟩⟩ ?_
  refine ab_aload_n C dX10_kindOf_0 rfl ?_
  refine ab_getR C dX10_kindOf_1 flX10_64 rkM_0 rfl mmM_0 ?_
  refine ab_iload_n C dX10_kindOf_4 rfl ?_
  obtain ⟨hg1, h⟩ := ab_grd h
  refine ab_iald C dX10_kindOf_5 rkM_18 mmM_18 hg1 ?_
  obtain rfl := Option.some.inj h
  exact ab_iret C dX10_kindOf_6
end
def fX10_law_b52_o (kk52 : Int32 → Int32 → Int32 → ab_S → Option (Int32 × ab_S)) (v1 : Int32) (v3 : Int32) (v4 : Int32) (σ : ab_S) : Option (Int32 × ab_S) := (if v3 ≤ v4 then (if ab_inb v1 4 = true then ab_k (ab_si σ 10 0 v1.toNatClampNeg v3) fun σ3 => some (1, σ3) else none) else (if ab_inb v4 120 = true then (if ab_inb ((120 * v1) + v4) 480 = true then ab_k (ab_si σ 9 0 (((120 * v1) + v4).toNatClampNeg) (σ.1 8 0 v4.toNatClampNeg)) fun σ6 => kk52 v1 v3 (v4 + 1) σ6 else none) else none))
def fX10_law_b52 : Nat → Int32 → Int32 → Int32 → ab_S → Option (Int32 × ab_S)
  | 0 => fun _ _ _ _ => none
  | n + 1 => fX10_law_b52_o  (fX10_law_b52 n)
def fX10_law (x1 : Int32) (σ : ab_S) : Option (Int32 × ab_S) := (fX10_within ((x1 : Int32).toInt64) 0 3).bind fun q1 => (if q1 = 0 then some ((-1), σ) else (fX10_workOut ((-1)) (σ.1 0 0 14) σ).bind fun q3 => ab_k (ab_si q3.2 0 0 14 0) fun σ4 => (if (σ4.1 0 0 20) < 0 then fX10_law_b52 ab_N x1 (q3.2.1 0 0 14) 0 σ4 else some (((-100)) - (σ4.1 0 0 20), σ4)))
section
variable {p : Program} {l : Launch} {e : Env} {s : State} {m : MethodId} {args : Array Value} {below : List Frame} {meth : Method} {c : Code} {D : va_G} {cA : Nat → ClassId} {ad : Nat → Nat → Nat}
set_option maxRecDepth 100000 in
set_option maxHeartbeats 4000000 in
theorem gX10_law_b52_o {R : (Int32 × ab_S)} (C : ab_C yM p s m args meth c D cA ad cX10_law 5 RX10 (some .int)) {kk52 : Int32 → Int32 → Int32 → ab_S → Option (Int32 × ab_S)} (hk52 : ∀ (v1 : Int32) (v3 : Int32) (v4 : Int32) (σ : ab_S), kk52 v1 v3 v4 σ = some R → ab_G yM p l e s m args below meth c D cA ad 5 68 (some (.inl R.1)) R.2 52 [some (.inr (.inr (0, 0))), some (.inl v1), none, some (.inl v3), some (.inl v4)] [] σ) (v1 : Int32) (v3 : Int32) (v4 : Int32) (σ : ab_S) (h : fX10_law_b52_o kk52 v1 v3 v4 σ = some R) : ab_G yM p l e s m args below meth c D cA ad 5 68 (some (.inl R.1)) R.2 52 [some (.inr (.inr (0, 0))), some (.inl v1), none, some (.inl v3), some (.inl v4)] [] σ := by
  refine ab_iload C dX10_law_52 rfl ?_
  refine ab_iload_n C dX10_law_54 rfl ?_
  refine ab_icmp_ge C (tgt := 83) dX10_law_55 (by decide) (fun hc1 => ?_) (fun hc1 => ?_)
  · replace h := ab_pos hc1 h
    refine ab_aload_n C dX10_law_83 rfl ?_
    refine ab_getR C dX10_law_84 flX10_39 rkM_0 rfl mmM_0 ?_
    refine ab_iload_n C dX10_law_87 rfl ?_
    refine ab_iload_n C dX10_law_88 rfl ?_
    obtain ⟨hg2, h⟩ := ab_grd h
    refine ab_iast C dX10_law_89 rkM_10 mmM_10 hg2 ?_
    refine ab_nmS (fun σ3 eσ3 => ?_)
    replace h := ab_kh eσ3 h
    refine ab_iconst C dX10_law_90 (v := 1) rfl ?_
    obtain rfl := Option.some.inj h
    exact ab_iret C dX10_law_91
  · replace h := ab_neg hc1 h
    refine ab_aload_n C dX10_law_58 rfl ?_
    refine ab_getR C dX10_law_59 flX10_36 rkM_0 rfl mmM_0 ?_
    refine ab_bipush C dX10_law_62 (v := 120) rfl ?_
    refine ab_iload_n C dX10_law_64 rfl ?_
    refine ab_imul C dX10_law_65  ?_
    refine ab_iload C dX10_law_66 rfl ?_
    refine ab_iadd C dX10_law_68  ?_
    refine ab_aload_n C dX10_law_69 rfl ?_
    refine ab_getR C dX10_law_70 flX10_33 rkM_0 rfl mmM_0 ?_
    refine ab_iload C dX10_law_73 rfl ?_
    obtain ⟨hg4, h⟩ := ab_grd h
    refine ab_iald C dX10_law_75 rkM_8 mmM_8 hg4 ?_
    obtain ⟨hg5, h⟩ := ab_grd h
    refine ab_iast C dX10_law_76 rkM_9 mmM_9 hg5 ?_
    refine ab_nmS (fun σ6 eσ6 => ?_)
    replace h := ab_kh eσ6 h
    refine ab_iinc C dX10_law_77 rfl (v := 1) rfl (Nat.le_of_ble_eq_true rfl) ?_
    refine ab_goto C (tgt := 52) dX10_law_80 (by decide) ?_
    refine ab_weak (lv' := [some (.inr (.inr (0, 0))), some (.inl v1), none, some (.inl v3), some (.inl (v4 + 1))]) ⟨.inr rfl, ⟨.inr rfl, ⟨.inl rfl, ⟨.inr rfl, ⟨.inr rfl, trivial⟩⟩⟩⟩⟩ ?_
    exact hk52 _ _ _ _ h
theorem gX10_law_b52 {R : (Int32 × ab_S)} (C : ab_C yM p s m args meth c D cA ad cX10_law 5 RX10 (some .int)) : ∀ (j : Nat) (v1 : Int32) (v3 : Int32) (v4 : Int32) (σ : ab_S), fX10_law_b52 j v1 v3 v4 σ = some R → ab_G yM p l e s m args below meth c D cA ad 5 68 (some (.inl R.1)) R.2 52 [some (.inr (.inr (0, 0))), some (.inl v1), none, some (.inl v3), some (.inl v4)] [] σ := by
  intro j
  induction j with
  | zero => intro v1 v3 v4 σ  h; cases h
  | succ j ih => intro v1 v3 v4 σ  h; exact gX10_law_b52_o C ih _ _ _ _ h
set_option maxRecDepth 100000 in
set_option maxHeartbeats 4000000 in
theorem tX10_law (l : Launch) (x1 : Int32) (σ : ab_S) {R : (Int32 × ab_S)} (h : fX10_law x1 σ = some R) : ab_M l yM yX10_law cX10_law 5 (some .int) 68 [.inr (.inr (0, 0)), .inl x1] σ (some (.inl R.1)) R.2 := by
  refine ab_M_intro ndM (by decide) (Nat.le_of_ble_eq_true rfl) ?_
  intro p e s m args below meth c D cA ad C
  have C : ab_C yM p s m args meth c D cA ad cX10_law 5 RX10 (some .int) := C
  refine ab_weak (lv' := [some (.inr (.inr (0, 0))), some (.inl x1), none, none, none]) ⟨.inr rfl, ⟨.inr rfl, ⟨.inl rfl, ⟨.inl rfl, ⟨.inl rfl, trivial⟩⟩⟩⟩⟩ ?_
  refine ab_iload_n C dX10_law_0 rfl ?_
  refine ab_i2l C dX10_law_1  ?_
  refine ab_lconst C dX10_law_2 (v := 0) rfl ?_
  refine ab_ldc2 C dX10_law_3 cwX10_127 ?_
  obtain ⟨q1, hq1, h⟩ := ab_bind h
  refine ab_invS1 C dX10_law_6 mlX10_105 ysX10_within (tX10_within l _ _ _ _ hq1) (Nat.le_of_ble_eq_true rfl) (Nat.le_of_ble_eq_true rfl) rfl (Nat.le_of_ble_eq_true rfl) ?_
  refine ab_if_ne C (tgt := 14) dX10_law_9 (by decide) (fun hc2 => ?_) (fun hc2 => ?_)
  · replace h := ab_neg hc2 h
    refine ab_aload_n C dX10_law_14 rfl ?_
    refine ab_iconst C dX10_law_15 (v := (-1)) rfl ?_
    refine ab_aload_n C dX10_law_16 rfl ?_
    refine ab_getI C dX10_law_17 flX10_151 rkM_0 rfl mmM_0 ?_
    obtain ⟨q3, hq3, h⟩ := ab_bind h
    refine ab_inv1 C dX10_law_20 mlX10_199 yvX10_workOut rkM_0 ⟨_, _, rfl⟩ mmM_0 (tX10_workOut l _ _ _ hq3) (Nat.le_of_ble_eq_true rfl) (Nat.le_of_ble_eq_true rfl) rfl (Nat.le_of_ble_eq_true rfl) ?_
    refine ab_istore_n C dX10_law_23 (Nat.le_of_ble_eq_true rfl) ?_
    refine ab_aload_n C dX10_law_24 rfl ?_
    refine ab_getI C dX10_law_25 flX10_151 rkM_0 rfl mmM_0 ?_
    refine ab_istore_n C dX10_law_28 (Nat.le_of_ble_eq_true rfl) ?_
    refine ab_aload_n C dX10_law_29 rfl ?_
    refine ab_iconst C dX10_law_30 (v := 0) rfl ?_
    refine ab_putI C dX10_law_31 fpX10_151 rkM_0 rfl mmM_0 rfl rfl ?_
    refine ab_nmS (fun σ4 eσ4 => ?_)
    replace h := ab_kh eσ4 h
    refine ab_aload_n C dX10_law_34 rfl ?_
    refine ab_getI C dX10_law_35 flX10_163 rkM_0 rfl mmM_0 ?_
    refine ab_if_lt C (tgt := 49) dX10_law_38 (by decide) (fun hc5 => ?_) (fun hc5 => ?_)
    · replace h := ab_pos hc5 h
      refine ab_iconst C dX10_law_49 (v := 0) rfl ?_
      refine ab_istore C dX10_law_50 (Nat.le_of_ble_eq_true rfl) ?_
      refine ab_weak (lv' := [some (.inr (.inr (0, 0))), some (.inl x1), some (.inl q3.1), some (.inl (q3.2.1 0 0 14)), some (.inl 0)]) ⟨.inr rfl, ⟨.inr rfl, ⟨.inr rfl, ⟨.inr rfl, ⟨.inr rfl, trivial⟩⟩⟩⟩⟩ ?_
      refine ab_weak (lv' := [some (.inr (.inr (0, 0))), some (.inl x1), none, some (.inl (q3.2.1 0 0 14)), some (.inl 0)]) ⟨.inr rfl, ⟨.inr rfl, ⟨.inl rfl, ⟨.inr rfl, ⟨.inr rfl, trivial⟩⟩⟩⟩⟩ ?_
      exact gX10_law_b52 C ab_N _ _ _ _ h
    · replace h := ab_neg hc5 h
      refine ab_bipush C dX10_law_41 (v := (-100)) rfl ?_
      refine ab_aload_n C dX10_law_43 rfl ?_
      refine ab_getI C dX10_law_44 flX10_163 rkM_0 rfl mmM_0 ?_
      refine ab_isub C dX10_law_47  ?_
      obtain rfl := Option.some.inj h
      exact ab_iret C dX10_law_48
  · replace h := ab_pos hc2 h
    refine ab_iconst C dX10_law_12 (v := (-1)) rfl ?_
    obtain rfl := Option.some.inj h
    exact ab_iret C dX10_law_13
end
def fX10_wonBy_b141 (rc0 : Int32 → Int32 → Int32 → Int32 → Int32 → ab_S → Option (Int64 × ab_S)) (kk45 : Int32 → Int32 → Int32 → Int32 → Int32 → Int64 → Int32 → ab_S → Option (Int64 × ab_S)) (v1 : Int32) (v2 : Int32) (v3 : Int32) (v4 : Int32) (v5 : Int32) (v6 : Int64) (v8 : Int32) (σ : ab_S) : Option (Int64 × ab_S) := kk45 v1 v2 v3 v4 v5 v6 (v8 + 1) σ
def fX10_wonBy_b133 (rc0 : Int32 → Int32 → Int32 → Int32 → Int32 → ab_S → Option (Int64 × ab_S)) (kk45 : Int32 → Int32 → Int32 → Int32 → Int32 → Int64 → Int32 → ab_S → Option (Int64 × ab_S)) (v1 : Int32) (v2 : Int32) (v3 : Int32) (v4 : Int32) (v5 : Int32) (v8 : Int32) (v9 : Int32) (t0 : Int64) (t2 : Int32) (t3 : Int32) (t4 : Int32) (t5 : Int32) (σ : ab_S) : Option (Int64 × ab_S) := (rc0 t2 t3 t4 t5 v9 σ).bind fun q1 => fX10_wonBy_b141 rc0 kk45 v1 v2 v3 v4 v5 (t0 + q1.1) v8 q1.2
def fX10_wonBy_b105 (rc0 : Int32 → Int32 → Int32 → Int32 → Int32 → ab_S → Option (Int64 × ab_S)) (kk45 : Int32 → Int32 → Int32 → Int32 → Int32 → Int64 → Int32 → ab_S → Option (Int64 × ab_S)) (v1 : Int32) (v2 : Int32) (v3 : Int32) (v4 : Int32) (v5 : Int32) (v6 : Int64) (v8 : Int32) (t0 : Int32) (σ : ab_S) : Option (Int64 × ab_S) := (if v2 = 2 then (fX10_leastOther v4 t0 σ).bind fun q2 => fX10_wonBy_b133 rc0 kk45 v1 v2 v3 v4 v5 v8 t0 v6 v1 v2 (v3 + 1) q2 σ else fX10_wonBy_b133 rc0 kk45 v1 v2 v3 v4 v5 v8 t0 v6 v1 v2 (v3 + 1) v4 σ)
def fX10_wonBy_b76 (rc0 : Int32 → Int32 → Int32 → Int32 → Int32 → ab_S → Option (Int64 × ab_S)) (kk45 : Int32 → Int32 → Int32 → Int32 → Int32 → Int64 → Int32 → ab_S → Option (Int64 × ab_S)) (v1 : Int32) (v2 : Int32) (v3 : Int32) (v4 : Int32) (v5 : Int32) (v6 : Int64) (v8 : Int32) (σ : ab_S) : Option (Int64 × ab_S) := (fX10_goesBy v1 v3 v4 v5 v8 σ).bind fun q1 => (if 0 ≤ v8 then fX10_wonBy_b105 rc0 kk45 v1 v2 v3 v4 v5 v6 v8 (v5 ||| (1 <<< (v8 &&& 31))) q1 else fX10_wonBy_b105 rc0 kk45 v1 v2 v3 v4 v5 v6 v8 v5 q1)
def fX10_wonBy_b45_o (rc0 : Int32 → Int32 → Int32 → Int32 → Int32 → ab_S → Option (Int64 × ab_S)) (kk45 : Int32 → Int32 → Int32 → Int32 → Int32 → Int64 → Int32 → ab_S → Option (Int64 × ab_S)) (v1 : Int32) (v2 : Int32) (v3 : Int32) (v4 : Int32) (v5 : Int32) (v6 : Int64) (v8 : Int32) (σ : ab_S) : Option (Int64 × ab_S) := (if (σ.1 0 0 6) ≤ v8 then some (v6, σ) else (if v8 < 0 then fX10_wonBy_b76 rc0 kk45 v1 v2 v3 v4 v5 v6 v8 σ else (if v8 = v4 then fX10_wonBy_b141 rc0 kk45 v1 v2 v3 v4 v5 v6 v8 σ else (fX10_isIn v5 v8).bind fun q4 => (if q4 = 0 then fX10_wonBy_b76 rc0 kk45 v1 v2 v3 v4 v5 v6 v8 σ else fX10_wonBy_b141 rc0 kk45 v1 v2 v3 v4 v5 v6 v8 σ))))
def fX10_wonBy_b45 (rc0 : Int32 → Int32 → Int32 → Int32 → Int32 → ab_S → Option (Int64 × ab_S)) : Nat → Int32 → Int32 → Int32 → Int32 → Int32 → Int64 → Int32 → ab_S → Option (Int64 × ab_S)
  | 0 => fun _ _ _ _ _ _ _ _ => none
  | n + 1 => fX10_wonBy_b45_o rc0 (fX10_wonBy_b45 rc0 n)
def fX10_wonBy_b36 (rc0 : Int32 → Int32 → Int32 → Int32 → Int32 → ab_S → Option (Int64 × ab_S)) (t1 : Int32) (t2 : Int32) (σ : ab_S) : Option (Int64 × ab_S) := (if ab_inb (t1 + t2) 20 = true then some (σ.2 13 0 ((t1 + t2).toNatClampNeg), σ) else none)
def fX10_wonBy_o (rc0 : Int32 → Int32 → Int32 → Int32 → Int32 → ab_S → Option (Int64 × ab_S)) (x1 : Int32) (x2 : Int32) (x3 : Int32) (x4 : Int32) (x5 : Int32) (σ : ab_S) : Option (Int64 × ab_S) := (if ab_inb 6 7 = true then (if x3 = (σ.1 1 0 ((6 : Int32).toNatClampNeg)) then (if x2 = 1 then (fX10_leastOther x4 x5 σ).bind fun q4 => fX10_wonBy_b36 rc0 (5 * x3) q4 σ else fX10_wonBy_b36 rc0 (5 * x3) x4 σ) else fX10_wonBy_b45 rc0 ab_N x1 x2 x3 x4 x5 0 ((-1)) σ) else none)
def fzX10_wonBy : Nat → (Int32 → Int32 → Int32 → Int32 → Int32 → ab_S → Option (Int64 × ab_S))
  | 0 => fun _ _ _ _ _ _ => none
  | n + 1 => fX10_wonBy_o ((fzX10_wonBy n))
def fX10_wonBy (n : Nat) (x1 : Int32) (x2 : Int32) (x3 : Int32) (x4 : Int32) (x5 : Int32) (σ : ab_S) : Option (Int64 × ab_S) := (fzX10_wonBy n) x1 x2 x3 x4 x5 σ
section
variable {p : Program} {l : Launch} {e : Env} {s : State} {m : MethodId} {args : Array Value} {below : List Frame} {meth : Method} {c : Code} {D : va_G} {cA : Nat → ClassId} {ad : Nat → Nat → Nat}
set_option maxRecDepth 100000 in
set_option maxHeartbeats 4000000 in
theorem gX10_wonBy_b141 {n : Nat} {R : (Int64 × ab_S)} {rc0 : Int32 → Int32 → Int32 → Int32 → Int32 → ab_S → Option (Int64 × ab_S)} (C : ab_C yM p s m args meth c D cA ad cX10_wonBy 10 RX10 (some .long)) (hrec : (∀ (x1 : Int32) (x2 : Int32) (x3 : Int32) (x4 : Int32) (x5 : Int32) (σ : ab_S), ∀ (R : (Int64 × ab_S)), rc0 x1 x2 x3 x4 x5 σ = some R → ab_M l yM yX10_wonBy cX10_wonBy 10 (some .long) (71 + n) [.inr (.inr (0, 0)), .inl x1, .inl x2, .inl x3, .inl x4, .inl x5] σ (some (.inr (.inl R.1))) R.2)) {kk45 : Int32 → Int32 → Int32 → Int32 → Int32 → Int64 → Int32 → ab_S → Option (Int64 × ab_S)} (hk45 : ∀ (v1 : Int32) (v2 : Int32) (v3 : Int32) (v4 : Int32) (v5 : Int32) (v6 : Int64) (v8 : Int32) (σ : ab_S), kk45 v1 v2 v3 v4 v5 v6 v8 σ = some R → ab_G yM p l e s m args below meth c D cA ad 10 (71 + n + 1) (some (.inr (.inl R.1))) R.2 45 [some (.inr (.inr (0, 0))), some (.inl v1), some (.inl v2), some (.inl v3), some (.inl v4), some (.inl v5), some (.inr (.inl v6)), none, some (.inl v8), none] [] σ) (v1 : Int32) (v2 : Int32) (v3 : Int32) (v4 : Int32) (v5 : Int32) (v6 : Int64) (v8 : Int32) (σ : ab_S) (h : fX10_wonBy_b141 rc0 kk45 v1 v2 v3 v4 v5 v6 v8 σ = some R) : ab_G yM p l e s m args below meth c D cA ad 10 (71 + n + 1) (some (.inr (.inl R.1))) R.2 141 [some (.inr (.inr (0, 0))), some (.inl v1), some (.inl v2), some (.inl v3), some (.inl v4), some (.inl v5), some (.inr (.inl v6)), none, some (.inl v8), none] [] σ := by
  refine ab_iinc C dX10_wonBy_141 rfl (v := 1) rfl (Nat.le_of_ble_eq_true rfl) ?_
  refine ab_goto C (tgt := 45) dX10_wonBy_144 (by decide) ?_
  refine ab_weak (lv' := [some (.inr (.inr (0, 0))), some (.inl v1), some (.inl v2), some (.inl v3), some (.inl v4), some (.inl v5), some (.inr (.inl v6)), none, some (.inl (v8 + 1)), none]) ⟨.inr rfl, ⟨.inr rfl, ⟨.inr rfl, ⟨.inr rfl, ⟨.inr rfl, ⟨.inr rfl, ⟨.inr rfl, ⟨.inl rfl, ⟨.inr rfl, ⟨.inl rfl, trivial⟩⟩⟩⟩⟩⟩⟩⟩⟩⟩ ?_
  exact hk45 _ _ _ _ _ _ _ _ h
set_option maxRecDepth 100000 in
set_option maxHeartbeats 4000000 in
theorem gX10_wonBy_b133 {n : Nat} {R : (Int64 × ab_S)} {rc0 : Int32 → Int32 → Int32 → Int32 → Int32 → ab_S → Option (Int64 × ab_S)} (C : ab_C yM p s m args meth c D cA ad cX10_wonBy 10 RX10 (some .long)) (hrec : (∀ (x1 : Int32) (x2 : Int32) (x3 : Int32) (x4 : Int32) (x5 : Int32) (σ : ab_S), ∀ (R : (Int64 × ab_S)), rc0 x1 x2 x3 x4 x5 σ = some R → ab_M l yM yX10_wonBy cX10_wonBy 10 (some .long) (71 + n) [.inr (.inr (0, 0)), .inl x1, .inl x2, .inl x3, .inl x4, .inl x5] σ (some (.inr (.inl R.1))) R.2)) {kk45 : Int32 → Int32 → Int32 → Int32 → Int32 → Int64 → Int32 → ab_S → Option (Int64 × ab_S)} (hk45 : ∀ (v1 : Int32) (v2 : Int32) (v3 : Int32) (v4 : Int32) (v5 : Int32) (v6 : Int64) (v8 : Int32) (σ : ab_S), kk45 v1 v2 v3 v4 v5 v6 v8 σ = some R → ab_G yM p l e s m args below meth c D cA ad 10 (71 + n + 1) (some (.inr (.inl R.1))) R.2 45 [some (.inr (.inr (0, 0))), some (.inl v1), some (.inl v2), some (.inl v3), some (.inl v4), some (.inl v5), some (.inr (.inl v6)), none, some (.inl v8), none] [] σ) (v1 : Int32) (v2 : Int32) (v3 : Int32) (v4 : Int32) (v5 : Int32) (v8 : Int32) (v9 : Int32) (t0 : Int64) (t2 : Int32) (t3 : Int32) (t4 : Int32) (t5 : Int32) (σ : ab_S) (h : fX10_wonBy_b133 rc0 kk45 v1 v2 v3 v4 v5 v8 v9 t0 t2 t3 t4 t5 σ = some R) : ab_G yM p l e s m args below meth c D cA ad 10 (71 + n + 1) (some (.inr (.inl R.1))) R.2 133 [some (.inr (.inr (0, 0))), some (.inl v1), some (.inl v2), some (.inl v3), some (.inl v4), some (.inl v5), none, none, some (.inl v8), some (.inl v9)] [.inl t5, .inl t4, .inl t3, .inl t2, .inr (.inr (0, 0)), .inr (.inl t0)] σ := by
  refine ab_iload C dX10_wonBy_133 rfl ?_
  obtain ⟨q1, hq1, h⟩ := ab_bind h
  refine ab_inv1 C dX10_wonBy_135 mlX10_247 yvX10_wonBy rkM_0 ⟨_, _, rfl⟩ mmM_0 (hrec _ _ _ _ _ _ _ hq1) (by omega) (Nat.le_of_ble_eq_true rfl) rfl (Nat.le_of_ble_eq_true rfl) ?_
  refine ab_ladd C dX10_wonBy_138  ?_
  refine ab_lstore C dX10_wonBy_139 (Nat.le_of_ble_eq_true rfl) ?_
  refine ab_weak (lv' := [some (.inr (.inr (0, 0))), some (.inl v1), some (.inl v2), some (.inl v3), some (.inl v4), some (.inl v5), some (.inr (.inl (t0 + q1.1))), none, some (.inl v8), none]) ⟨.inr rfl, ⟨.inr rfl, ⟨.inr rfl, ⟨.inr rfl, ⟨.inr rfl, ⟨.inr rfl, ⟨.inr rfl, ⟨.inl rfl, ⟨.inr rfl, ⟨.inl rfl, trivial⟩⟩⟩⟩⟩⟩⟩⟩⟩⟩ ?_
  exact gX10_wonBy_b141 C hrec hk45 _ _ _ _ _ _ _ _ h
set_option maxRecDepth 100000 in
set_option maxHeartbeats 4000000 in
theorem gX10_wonBy_b105 {n : Nat} {R : (Int64 × ab_S)} {rc0 : Int32 → Int32 → Int32 → Int32 → Int32 → ab_S → Option (Int64 × ab_S)} (C : ab_C yM p s m args meth c D cA ad cX10_wonBy 10 RX10 (some .long)) (hrec : (∀ (x1 : Int32) (x2 : Int32) (x3 : Int32) (x4 : Int32) (x5 : Int32) (σ : ab_S), ∀ (R : (Int64 × ab_S)), rc0 x1 x2 x3 x4 x5 σ = some R → ab_M l yM yX10_wonBy cX10_wonBy 10 (some .long) (71 + n) [.inr (.inr (0, 0)), .inl x1, .inl x2, .inl x3, .inl x4, .inl x5] σ (some (.inr (.inl R.1))) R.2)) {kk45 : Int32 → Int32 → Int32 → Int32 → Int32 → Int64 → Int32 → ab_S → Option (Int64 × ab_S)} (hk45 : ∀ (v1 : Int32) (v2 : Int32) (v3 : Int32) (v4 : Int32) (v5 : Int32) (v6 : Int64) (v8 : Int32) (σ : ab_S), kk45 v1 v2 v3 v4 v5 v6 v8 σ = some R → ab_G yM p l e s m args below meth c D cA ad 10 (71 + n + 1) (some (.inr (.inl R.1))) R.2 45 [some (.inr (.inr (0, 0))), some (.inl v1), some (.inl v2), some (.inl v3), some (.inl v4), some (.inl v5), some (.inr (.inl v6)), none, some (.inl v8), none] [] σ) (v1 : Int32) (v2 : Int32) (v3 : Int32) (v4 : Int32) (v5 : Int32) (v6 : Int64) (v8 : Int32) (t0 : Int32) (σ : ab_S) (h : fX10_wonBy_b105 rc0 kk45 v1 v2 v3 v4 v5 v6 v8 t0 σ = some R) : ab_G yM p l e s m args below meth c D cA ad 10 (71 + n + 1) (some (.inr (.inl R.1))) R.2 105 [some (.inr (.inr (0, 0))), some (.inl v1), some (.inl v2), some (.inl v3), some (.inl v4), some (.inl v5), some (.inr (.inl v6)), none, some (.inl v8), none] [.inl t0] σ := by
  refine ab_istore C dX10_wonBy_105 (Nat.le_of_ble_eq_true rfl) ?_
  refine ab_lload C dX10_wonBy_107 rfl ?_
  refine ab_aload_n C dX10_wonBy_109 rfl ?_
  refine ab_iload_n C dX10_wonBy_110 rfl ?_
  refine ab_iload_n C dX10_wonBy_111 rfl ?_
  refine ab_iload_n C dX10_wonBy_112 rfl ?_
  refine ab_iconst C dX10_wonBy_113 (v := 1) rfl ?_
  refine ab_iadd C dX10_wonBy_114  ?_
  refine ab_iload_n C dX10_wonBy_115 rfl ?_
  refine ab_iconst C dX10_wonBy_116 (v := 2) rfl ?_
  refine ab_icmp_ne C (tgt := 131) dX10_wonBy_117 (by decide) (fun hc1 => ?_) (fun hc1 => ?_)
  · replace h := ab_neg hc1 h
    refine ab_iload C dX10_wonBy_131 rfl ?_
    refine ab_weak (lv' := [some (.inr (.inr (0, 0))), some (.inl v1), some (.inl v2), some (.inl v3), some (.inl v4), some (.inl v5), none, none, some (.inl v8), some (.inl t0)]) ⟨.inr rfl, ⟨.inr rfl, ⟨.inr rfl, ⟨.inr rfl, ⟨.inr rfl, ⟨.inr rfl, ⟨.inl rfl, ⟨.inl rfl, ⟨.inr rfl, ⟨.inr rfl, trivial⟩⟩⟩⟩⟩⟩⟩⟩⟩⟩ ?_
    exact gX10_wonBy_b133 C hrec hk45 _ _ _ _ _ _ _ _ _ _ _ _ _ h
  · replace h := ab_pos hc1 h
    refine ab_aload_n C dX10_wonBy_120 rfl ?_
    refine ab_iload C dX10_wonBy_121 rfl ?_
    refine ab_iload C dX10_wonBy_123 rfl ?_
    obtain ⟨q2, hq2, h⟩ := ab_bind h
    refine ab_inv1 C dX10_wonBy_125 mlX10_240 yvX10_leastOther rkM_0 ⟨_, _, rfl⟩ mmM_0 (tX10_leastOther l _ _ _ hq2) (by omega) (Nat.le_of_ble_eq_true rfl) rfl (Nat.le_of_ble_eq_true rfl) ?_
    refine ab_goto C (tgt := 133) dX10_wonBy_128 (by decide) ?_
    refine ab_weak (lv' := [some (.inr (.inr (0, 0))), some (.inl v1), some (.inl v2), some (.inl v3), some (.inl v4), some (.inl v5), none, none, some (.inl v8), some (.inl t0)]) ⟨.inr rfl, ⟨.inr rfl, ⟨.inr rfl, ⟨.inr rfl, ⟨.inr rfl, ⟨.inr rfl, ⟨.inl rfl, ⟨.inl rfl, ⟨.inr rfl, ⟨.inr rfl, trivial⟩⟩⟩⟩⟩⟩⟩⟩⟩⟩ ?_
    exact gX10_wonBy_b133 C hrec hk45 _ _ _ _ _ _ _ _ _ _ _ _ _ h
set_option maxRecDepth 100000 in
set_option maxHeartbeats 4000000 in
theorem gX10_wonBy_b76 {n : Nat} {R : (Int64 × ab_S)} {rc0 : Int32 → Int32 → Int32 → Int32 → Int32 → ab_S → Option (Int64 × ab_S)} (C : ab_C yM p s m args meth c D cA ad cX10_wonBy 10 RX10 (some .long)) (hrec : (∀ (x1 : Int32) (x2 : Int32) (x3 : Int32) (x4 : Int32) (x5 : Int32) (σ : ab_S), ∀ (R : (Int64 × ab_S)), rc0 x1 x2 x3 x4 x5 σ = some R → ab_M l yM yX10_wonBy cX10_wonBy 10 (some .long) (71 + n) [.inr (.inr (0, 0)), .inl x1, .inl x2, .inl x3, .inl x4, .inl x5] σ (some (.inr (.inl R.1))) R.2)) {kk45 : Int32 → Int32 → Int32 → Int32 → Int32 → Int64 → Int32 → ab_S → Option (Int64 × ab_S)} (hk45 : ∀ (v1 : Int32) (v2 : Int32) (v3 : Int32) (v4 : Int32) (v5 : Int32) (v6 : Int64) (v8 : Int32) (σ : ab_S), kk45 v1 v2 v3 v4 v5 v6 v8 σ = some R → ab_G yM p l e s m args below meth c D cA ad 10 (71 + n + 1) (some (.inr (.inl R.1))) R.2 45 [some (.inr (.inr (0, 0))), some (.inl v1), some (.inl v2), some (.inl v3), some (.inl v4), some (.inl v5), some (.inr (.inl v6)), none, some (.inl v8), none] [] σ) (v1 : Int32) (v2 : Int32) (v3 : Int32) (v4 : Int32) (v5 : Int32) (v6 : Int64) (v8 : Int32) (σ : ab_S) (h : fX10_wonBy_b76 rc0 kk45 v1 v2 v3 v4 v5 v6 v8 σ = some R) : ab_G yM p l e s m args below meth c D cA ad 10 (71 + n + 1) (some (.inr (.inl R.1))) R.2 76 [some (.inr (.inr (0, 0))), some (.inl v1), some (.inl v2), some (.inl v3), some (.inl v4), some (.inl v5), some (.inr (.inl v6)), none, some (.inl v8), none] [] σ := by
  refine ab_aload_n C dX10_wonBy_76 rfl ?_
  refine ab_iload_n C dX10_wonBy_77 rfl ?_
  refine ab_iload_n C dX10_wonBy_78 rfl ?_
  refine ab_iload C dX10_wonBy_79 rfl ?_
  refine ab_iload C dX10_wonBy_81 rfl ?_
  refine ab_iload C dX10_wonBy_83 rfl ?_
  obtain ⟨q1, hq1, h⟩ := ab_bind h
  refine ab_inv0 C dX10_wonBy_85 mlX10_243 yvX10_goesBy rkM_0 ⟨_, _, rfl⟩ mmM_0 (tX10_goesBy l _ _ _ _ _ _ hq1) (by omega) (Nat.le_of_ble_eq_true rfl) rfl (Nat.le_of_ble_eq_true rfl) ?_
  refine ab_iload C dX10_wonBy_88 rfl ?_
  refine ab_if_ge C (tgt := 98) dX10_wonBy_90 (by decide) (fun hc2 => ?_) (fun hc2 => ?_)
  · replace h := ab_pos hc2 h
    refine ab_iload C dX10_wonBy_98 rfl ?_
    refine ab_iconst C dX10_wonBy_100 (v := 1) rfl ?_
    refine ab_iload C dX10_wonBy_101 rfl ?_
    refine ab_ishl C dX10_wonBy_103  ?_
    refine ab_ior C dX10_wonBy_104  ?_
    refine ab_weak (lv' := [some (.inr (.inr (0, 0))), some (.inl v1), some (.inl v2), some (.inl v3), some (.inl v4), some (.inl v5), some (.inr (.inl v6)), none, some (.inl v8), none]) ⟨.inr rfl, ⟨.inr rfl, ⟨.inr rfl, ⟨.inr rfl, ⟨.inr rfl, ⟨.inr rfl, ⟨.inr rfl, ⟨.inl rfl, ⟨.inr rfl, ⟨.inl rfl, trivial⟩⟩⟩⟩⟩⟩⟩⟩⟩⟩ ?_
    exact gX10_wonBy_b105 C hrec hk45 _ _ _ _ _ _ _ _ _ h
  · replace h := ab_neg hc2 h
    refine ab_iload C dX10_wonBy_93 rfl ?_
    refine ab_goto C (tgt := 105) dX10_wonBy_95 (by decide) ?_
    refine ab_weak (lv' := [some (.inr (.inr (0, 0))), some (.inl v1), some (.inl v2), some (.inl v3), some (.inl v4), some (.inl v5), some (.inr (.inl v6)), none, some (.inl v8), none]) ⟨.inr rfl, ⟨.inr rfl, ⟨.inr rfl, ⟨.inr rfl, ⟨.inr rfl, ⟨.inr rfl, ⟨.inr rfl, ⟨.inl rfl, ⟨.inr rfl, ⟨.inl rfl, trivial⟩⟩⟩⟩⟩⟩⟩⟩⟩⟩ ?_
    exact gX10_wonBy_b105 C hrec hk45 _ _ _ _ _ _ _ _ _ h
set_option maxRecDepth 100000 in
set_option maxHeartbeats 4000000 in
theorem gX10_wonBy_b45_o {n : Nat} {R : (Int64 × ab_S)} {rc0 : Int32 → Int32 → Int32 → Int32 → Int32 → ab_S → Option (Int64 × ab_S)} (C : ab_C yM p s m args meth c D cA ad cX10_wonBy 10 RX10 (some .long)) (hrec : (∀ (x1 : Int32) (x2 : Int32) (x3 : Int32) (x4 : Int32) (x5 : Int32) (σ : ab_S), ∀ (R : (Int64 × ab_S)), rc0 x1 x2 x3 x4 x5 σ = some R → ab_M l yM yX10_wonBy cX10_wonBy 10 (some .long) (71 + n) [.inr (.inr (0, 0)), .inl x1, .inl x2, .inl x3, .inl x4, .inl x5] σ (some (.inr (.inl R.1))) R.2)) {kk45 : Int32 → Int32 → Int32 → Int32 → Int32 → Int64 → Int32 → ab_S → Option (Int64 × ab_S)} (hk45 : ∀ (v1 : Int32) (v2 : Int32) (v3 : Int32) (v4 : Int32) (v5 : Int32) (v6 : Int64) (v8 : Int32) (σ : ab_S), kk45 v1 v2 v3 v4 v5 v6 v8 σ = some R → ab_G yM p l e s m args below meth c D cA ad 10 (71 + n + 1) (some (.inr (.inl R.1))) R.2 45 [some (.inr (.inr (0, 0))), some (.inl v1), some (.inl v2), some (.inl v3), some (.inl v4), some (.inl v5), some (.inr (.inl v6)), none, some (.inl v8), none] [] σ) (v1 : Int32) (v2 : Int32) (v3 : Int32) (v4 : Int32) (v5 : Int32) (v6 : Int64) (v8 : Int32) (σ : ab_S) (h : fX10_wonBy_b45_o rc0 kk45 v1 v2 v3 v4 v5 v6 v8 σ = some R) : ab_G yM p l e s m args below meth c D cA ad 10 (71 + n + 1) (some (.inr (.inl R.1))) R.2 45 [some (.inr (.inr (0, 0))), some (.inl v1), some (.inl v2), some (.inl v3), some (.inl v4), some (.inl v5), some (.inr (.inl v6)), none, some (.inl v8), none] [] σ := by
  refine ab_iload C dX10_wonBy_45 rfl ?_
  refine ab_aload_n C dX10_wonBy_47 rfl ?_
  refine ab_getI C dX10_wonBy_48 flX10_86 rkM_0 rfl mmM_0 ?_
  refine ab_icmp_ge C (tgt := 147) dX10_wonBy_51 (by decide) (fun hc1 => ?_) (fun hc1 => ?_)
  · replace h := ab_pos hc1 h
    refine ab_lload C dX10_wonBy_147 rfl ?_
    obtain rfl := Option.some.inj h
    exact ab_lret C dX10_wonBy_149
  · replace h := ab_neg hc1 h
    refine ab_iload C dX10_wonBy_54 rfl ?_
    refine ab_if_lt C (tgt := 76) dX10_wonBy_56 (by decide) (fun hc2 => ?_) (fun hc2 => ?_)
    · replace h := ab_pos hc2 h
      refine ab_weak (lv' := [some (.inr (.inr (0, 0))), some (.inl v1), some (.inl v2), some (.inl v3), some (.inl v4), some (.inl v5), some (.inr (.inl v6)), none, some (.inl v8), none]) ⟨.inr rfl, ⟨.inr rfl, ⟨.inr rfl, ⟨.inr rfl, ⟨.inr rfl, ⟨.inr rfl, ⟨.inr rfl, ⟨.inl rfl, ⟨.inr rfl, ⟨.inl rfl, trivial⟩⟩⟩⟩⟩⟩⟩⟩⟩⟩ ?_
      exact gX10_wonBy_b76 C hrec hk45 _ _ _ _ _ _ _ _ h
    · replace h := ab_neg hc2 h
      refine ab_iload C dX10_wonBy_59 rfl ?_
      refine ab_iload C dX10_wonBy_61 rfl ?_
      refine ab_icmp_eq C (tgt := 141) dX10_wonBy_63 (by decide) (fun hc3 => ?_) (fun hc3 => ?_)
      · replace h := ab_pos hc3 h
        refine ab_weak (lv' := [some (.inr (.inr (0, 0))), some (.inl v1), some (.inl v2), some (.inl v3), some (.inl v4), some (.inl v5), some (.inr (.inl v6)), none, some (.inl v8), none]) ⟨.inr rfl, ⟨.inr rfl, ⟨.inr rfl, ⟨.inr rfl, ⟨.inr rfl, ⟨.inr rfl, ⟨.inr rfl, ⟨.inl rfl, ⟨.inr rfl, ⟨.inl rfl, trivial⟩⟩⟩⟩⟩⟩⟩⟩⟩⟩ ?_
        exact gX10_wonBy_b141 C hrec hk45 _ _ _ _ _ _ _ _ h
      · replace h := ab_neg hc3 h
        refine ab_iload C dX10_wonBy_66 rfl ?_
        refine ab_iload C dX10_wonBy_68 rfl ?_
        obtain ⟨q4, hq4, h⟩ := ab_bind h
        refine ab_invS1 C dX10_wonBy_70 mlX10_138 ysX10_isIn (tX10_isIn l _ _ _ hq4) (by omega) (Nat.le_of_ble_eq_true rfl) rfl (Nat.le_of_ble_eq_true rfl) ?_
        refine ab_if_ne C (tgt := 141) dX10_wonBy_73 (by decide) (fun hc5 => ?_) (fun hc5 => ?_)
        · replace h := ab_neg hc5 h
          refine ab_weak (lv' := [some (.inr (.inr (0, 0))), some (.inl v1), some (.inl v2), some (.inl v3), some (.inl v4), some (.inl v5), some (.inr (.inl v6)), none, some (.inl v8), none]) ⟨.inr rfl, ⟨.inr rfl, ⟨.inr rfl, ⟨.inr rfl, ⟨.inr rfl, ⟨.inr rfl, ⟨.inr rfl, ⟨.inl rfl, ⟨.inr rfl, ⟨.inl rfl, trivial⟩⟩⟩⟩⟩⟩⟩⟩⟩⟩ ?_
          exact gX10_wonBy_b141 C hrec hk45 _ _ _ _ _ _ _ _ h
        · replace h := ab_pos hc5 h
          refine ab_weak (lv' := [some (.inr (.inr (0, 0))), some (.inl v1), some (.inl v2), some (.inl v3), some (.inl v4), some (.inl v5), some (.inr (.inl v6)), none, some (.inl v8), none]) ⟨.inr rfl, ⟨.inr rfl, ⟨.inr rfl, ⟨.inr rfl, ⟨.inr rfl, ⟨.inr rfl, ⟨.inr rfl, ⟨.inl rfl, ⟨.inr rfl, ⟨.inl rfl, trivial⟩⟩⟩⟩⟩⟩⟩⟩⟩⟩ ?_
          exact gX10_wonBy_b76 C hrec hk45 _ _ _ _ _ _ _ _ h
theorem gX10_wonBy_b45 {n : Nat} {R : (Int64 × ab_S)} {rc0 : Int32 → Int32 → Int32 → Int32 → Int32 → ab_S → Option (Int64 × ab_S)} (C : ab_C yM p s m args meth c D cA ad cX10_wonBy 10 RX10 (some .long)) (hrec : (∀ (x1 : Int32) (x2 : Int32) (x3 : Int32) (x4 : Int32) (x5 : Int32) (σ : ab_S), ∀ (R : (Int64 × ab_S)), rc0 x1 x2 x3 x4 x5 σ = some R → ab_M l yM yX10_wonBy cX10_wonBy 10 (some .long) (71 + n) [.inr (.inr (0, 0)), .inl x1, .inl x2, .inl x3, .inl x4, .inl x5] σ (some (.inr (.inl R.1))) R.2)) : ∀ (j : Nat) (v1 : Int32) (v2 : Int32) (v3 : Int32) (v4 : Int32) (v5 : Int32) (v6 : Int64) (v8 : Int32) (σ : ab_S), fX10_wonBy_b45 rc0 j v1 v2 v3 v4 v5 v6 v8 σ = some R → ab_G yM p l e s m args below meth c D cA ad 10 (71 + n + 1) (some (.inr (.inl R.1))) R.2 45 [some (.inr (.inr (0, 0))), some (.inl v1), some (.inl v2), some (.inl v3), some (.inl v4), some (.inl v5), some (.inr (.inl v6)), none, some (.inl v8), none] [] σ := by
  intro j
  induction j with
  | zero => intro v1 v2 v3 v4 v5 v6 v8 σ  h; cases h
  | succ j ih => intro v1 v2 v3 v4 v5 v6 v8 σ  h; exact gX10_wonBy_b45_o C hrec ih _ _ _ _ _ _ _ _ h
set_option maxRecDepth 100000 in
set_option maxHeartbeats 4000000 in
theorem gX10_wonBy_b36 {n : Nat} {R : (Int64 × ab_S)} {rc0 : Int32 → Int32 → Int32 → Int32 → Int32 → ab_S → Option (Int64 × ab_S)} (C : ab_C yM p s m args meth c D cA ad cX10_wonBy 10 RX10 (some .long)) (hrec : (∀ (x1 : Int32) (x2 : Int32) (x3 : Int32) (x4 : Int32) (x5 : Int32) (σ : ab_S), ∀ (R : (Int64 × ab_S)), rc0 x1 x2 x3 x4 x5 σ = some R → ab_M l yM yX10_wonBy cX10_wonBy 10 (some .long) (71 + n) [.inr (.inr (0, 0)), .inl x1, .inl x2, .inl x3, .inl x4, .inl x5] σ (some (.inr (.inl R.1))) R.2)) (t1 : Int32) (t2 : Int32) (σ : ab_S) (h : fX10_wonBy_b36 rc0 t1 t2 σ = some R) : ab_G yM p l e s m args below meth c D cA ad 10 (71 + n + 1) (some (.inr (.inl R.1))) R.2 36 [none, none, none, none, none, none, none, none, none, none] [.inl t2, .inl t1, .inr (.inr (13, 0))] σ := by
  refine ab_iadd C dX10_wonBy_36  ?_
  obtain ⟨hg1, h⟩ := ab_grd h
  refine ab_lald C dX10_wonBy_37 rkM_13 mmM_13 hg1 ?_
  obtain rfl := Option.some.inj h
  exact ab_lret C dX10_wonBy_38
set_option maxRecDepth 100000 in
set_option maxHeartbeats 4000000 in
theorem tX10_wonBy_o (l : Launch) {n : Nat} {rc0 : Int32 → Int32 → Int32 → Int32 → Int32 → ab_S → Option (Int64 × ab_S)} (hrec : (∀ (x1 : Int32) (x2 : Int32) (x3 : Int32) (x4 : Int32) (x5 : Int32) (σ : ab_S), ∀ (R : (Int64 × ab_S)), rc0 x1 x2 x3 x4 x5 σ = some R → ab_M l yM yX10_wonBy cX10_wonBy 10 (some .long) (71 + n) [.inr (.inr (0, 0)), .inl x1, .inl x2, .inl x3, .inl x4, .inl x5] σ (some (.inr (.inl R.1))) R.2)) (x1 : Int32) (x2 : Int32) (x3 : Int32) (x4 : Int32) (x5 : Int32) (σ : ab_S) {R : (Int64 × ab_S)} (h : fX10_wonBy_o rc0 x1 x2 x3 x4 x5 σ = some R) : ab_M l yM yX10_wonBy cX10_wonBy 10 (some .long) (71 + n + 1) [.inr (.inr (0, 0)), .inl x1, .inl x2, .inl x3, .inl x4, .inl x5] σ (some (.inr (.inl R.1))) R.2 := by
  refine ab_M_intro ndM (by decide) (Nat.le_of_ble_eq_true rfl) ?_
  intro p e s m args below meth c D cA ad C
  have C : ab_C yM p s m args meth c D cA ad cX10_wonBy 10 RX10 (some .long) := C
  refine ab_weak (lv' := [some (.inr (.inr (0, 0))), some (.inl x1), some (.inl x2), some (.inl x3), some (.inl x4), some (.inl x5), none, none, none, none]) ⟨.inr rfl, ⟨.inr rfl, ⟨.inr rfl, ⟨.inr rfl, ⟨.inr rfl, ⟨.inr rfl, ⟨.inl rfl, ⟨.inl rfl, ⟨.inl rfl, ⟨.inl rfl, trivial⟩⟩⟩⟩⟩⟩⟩⟩⟩⟩ ?_
  refine ab_iload_n C dX10_wonBy_0 rfl ?_
  refine ab_aload_n C dX10_wonBy_1 rfl ?_
  refine ab_getR C dX10_wonBy_2 flX10_11 rkM_0 rfl mmM_0 ?_
  refine ab_bipush C dX10_wonBy_5 (v := 6) rfl ?_
  obtain ⟨hg1, h⟩ := ab_grd h
  refine ab_iald C dX10_wonBy_7 rkM_1 mmM_1 hg1 ?_
  refine ab_icmp_ne C (tgt := 39) dX10_wonBy_8 (by decide) (fun hc2 => ?_) (fun hc2 => ?_)
  · replace h := ab_neg hc2 h
    refine ab_lconst C dX10_wonBy_39 (v := 0) rfl ?_
    refine ab_lstore C dX10_wonBy_40 (Nat.le_of_ble_eq_true rfl) ?_
    refine ab_iconst C dX10_wonBy_42 (v := (-1)) rfl ?_
    refine ab_istore C dX10_wonBy_43 (Nat.le_of_ble_eq_true rfl) ?_
    refine ab_weak (lv' := [some (.inr (.inr (0, 0))), some (.inl x1), some (.inl x2), some (.inl x3), some (.inl x4), some (.inl x5), some (.inr (.inl 0)), none, some (.inl ((-1))), none]) ⟨.inr rfl, ⟨.inr rfl, ⟨.inr rfl, ⟨.inr rfl, ⟨.inr rfl, ⟨.inr rfl, ⟨.inr rfl, ⟨.inl rfl, ⟨.inr rfl, ⟨.inl rfl, trivial⟩⟩⟩⟩⟩⟩⟩⟩⟩⟩ ?_
    exact gX10_wonBy_b45 C hrec ab_N _ _ _ _ _ _ _ _ h
  · replace h := ab_pos hc2 h
    refine ab_aload_n C dX10_wonBy_11 rfl ?_
    refine ab_getR C dX10_wonBy_12 flX10_49 rkM_0 rfl mmM_0 ?_
    refine ab_iconst C dX10_wonBy_15 (v := 5) rfl ?_
    refine ab_iload_n C dX10_wonBy_16 rfl ?_
    refine ab_imul C dX10_wonBy_17  ?_
    refine ab_iload_n C dX10_wonBy_18 rfl ?_
    refine ab_iconst C dX10_wonBy_19 (v := 1) rfl ?_
    refine ab_icmp_ne C (tgt := 34) dX10_wonBy_20 (by decide) (fun hc3 => ?_) (fun hc3 => ?_)
    · replace h := ab_neg hc3 h
      refine ab_iload C dX10_wonBy_34 rfl ?_
      refine ab_weak (lv' := [none, none, none, none, none, none, none, none, none, none]) ⟨.inl rfl, ⟨.inl rfl, ⟨.inl rfl, ⟨.inl rfl, ⟨.inl rfl, ⟨.inl rfl, ⟨.inl rfl, ⟨.inl rfl, ⟨.inl rfl, ⟨.inl rfl, trivial⟩⟩⟩⟩⟩⟩⟩⟩⟩⟩ ?_
      exact gX10_wonBy_b36 C hrec _ _ _ h
    · replace h := ab_pos hc3 h
      refine ab_aload_n C dX10_wonBy_23 rfl ?_
      refine ab_iload C dX10_wonBy_24 rfl ?_
      refine ab_iload C dX10_wonBy_26 rfl ?_
      obtain ⟨q4, hq4, h⟩ := ab_bind h
      refine ab_inv1 C dX10_wonBy_28 mlX10_240 yvX10_leastOther rkM_0 ⟨_, _, rfl⟩ mmM_0 (tX10_leastOther l _ _ _ hq4) (by omega) (Nat.le_of_ble_eq_true rfl) rfl (Nat.le_of_ble_eq_true rfl) ?_
      refine ab_goto C (tgt := 36) dX10_wonBy_31 (by decide) ?_
      refine ab_weak (lv' := [none, none, none, none, none, none, none, none, none, none]) ⟨.inl rfl, ⟨.inl rfl, ⟨.inl rfl, ⟨.inl rfl, ⟨.inl rfl, ⟨.inl rfl, ⟨.inl rfl, ⟨.inl rfl, ⟨.inl rfl, ⟨.inl rfl, trivial⟩⟩⟩⟩⟩⟩⟩⟩⟩⟩ ?_
      exact gX10_wonBy_b36 C hrec _ _ _ h
end
theorem tzX10_wonBy (l : Launch) : ∀ n : Nat, (∀ (x1 : Int32) (x2 : Int32) (x3 : Int32) (x4 : Int32) (x5 : Int32) (σ : ab_S), ∀ (R : (Int64 × ab_S)), fX10_wonBy n x1 x2 x3 x4 x5 σ = some R → ab_M l yM yX10_wonBy cX10_wonBy 10 (some .long) (71 + n) [.inr (.inr (0, 0)), .inl x1, .inl x2, .inl x3, .inl x4, .inl x5] σ (some (.inr (.inl R.1))) R.2) := by
  intro n
  induction n with
  | zero => exact fun _ _ _ _ _ _ _ h => (by cases h)
  | succ n ih => exact fun a0 a1 a2 a3 a4 a5 R h => tX10_wonBy_o l ih a0 a1 a2 a3 a4 a5 h
theorem tX10_wonBy (n : Nat) (l : Launch) (x1 : Int32) (x2 : Int32) (x3 : Int32) (x4 : Int32) (x5 : Int32) (σ : ab_S) {R : (Int64 × ab_S)} (h : fX10_wonBy n x1 x2 x3 x4 x5 σ = some R) : ab_M l yM yX10_wonBy cX10_wonBy 10 (some .long) (71 + n) [.inr (.inr (0, 0)), .inl x1, .inl x2, .inl x3, .inl x4, .inl x5] σ (some (.inr (.inl R.1))) R.2 := (tzX10_wonBy l n) x1 x2 x3 x4 x5 σ  R h
def fX10_wonFrom (x1 : Int32) (x2 : Int32) (x3 : Int32) (σ : ab_S) : Option (Int64 × ab_S) := (fX10_begins1 σ).bind fun q1 => ((fX10_wonBy 64) x1 x2 0 x3 0 q1).bind fun q2 => some (q2.1, q2.2)
section
variable {p : Program} {l : Launch} {e : Env} {s : State} {m : MethodId} {args : Array Value} {below : List Frame} {meth : Method} {c : Code} {D : va_G} {cA : Nat → ClassId} {ad : Nat → Nat → Nat}
set_option maxRecDepth 100000 in
set_option maxHeartbeats 4000000 in
theorem tX10_wonFrom (l : Launch) (x1 : Int32) (x2 : Int32) (x3 : Int32) (σ : ab_S) {R : (Int64 × ab_S)} (h : fX10_wonFrom x1 x2 x3 σ = some R) : ab_M l yM yX10_wonFrom cX10_wonFrom 4 (some .long) 136 [.inr (.inr (0, 0)), .inl x1, .inl x2, .inl x3] σ (some (.inr (.inl R.1))) R.2 := by
  refine ab_M_intro ndM (by decide) (Nat.le_of_ble_eq_true rfl) ?_
  intro p e s m args below meth c D cA ad C
  have C : ab_C yM p s m args meth c D cA ad cX10_wonFrom 4 RX10 (some .long) := C
  refine ab_weak (lv' := [some (.inr (.inr (0, 0))), some (.inl x1), some (.inl x2), some (.inl x3)]) ⟨.inr rfl, ⟨.inr rfl, ⟨.inr rfl, ⟨.inr rfl, trivial⟩⟩⟩⟩ ?_
  refine ab_aload_n C dX10_wonFrom_0 rfl ?_
  obtain ⟨q1, hq1, h⟩ := ab_bind h
  refine ab_inv0 C dX10_wonFrom_1 mlX10_262 yvX10_begins1 rkM_0 ⟨_, _, rfl⟩ mmM_0 (tX10_begins1 l _ hq1) (Nat.le_of_ble_eq_true rfl) (Nat.le_of_ble_eq_true rfl) rfl (Nat.le_of_ble_eq_true rfl) ?_
  refine ab_aload_n C dX10_wonFrom_4 rfl ?_
  refine ab_iload_n C dX10_wonFrom_5 rfl ?_
  refine ab_iload_n C dX10_wonFrom_6 rfl ?_
  refine ab_iconst C dX10_wonFrom_7 (v := 0) rfl ?_
  refine ab_iload_n C dX10_wonFrom_8 rfl ?_
  refine ab_iconst C dX10_wonFrom_9 (v := 0) rfl ?_
  obtain ⟨q2, hq2, h⟩ := ab_bind h
  refine ab_inv1 C dX10_wonFrom_10 mlX10_247 yvX10_wonBy rkM_0 ⟨_, _, rfl⟩ mmM_0 (tX10_wonBy 64 l _ _ _ _ _ _ hq2) (Nat.le_of_ble_eq_true rfl) (Nat.le_of_ble_eq_true rfl) rfl (Nat.le_of_ble_eq_true rfl) ?_
  obtain rfl := Option.some.inj h
  exact ab_lret C dX10_wonFrom_13
end
def fX10_leastOf_b57 (kk8 : Int32 → Int32 → Int32 → Int64 → Int32 → ab_S → Option (Int64 × ab_S)) (v1 : Int32) (v2 : Int32) (v3 : Int32) (v4 : Int64) (v6 : Int32) (σ : ab_S) : Option (Int64 × ab_S) := kk8 v1 v2 v3 v4 (v6 + 1) σ
def fX10_leastOf_b55 (kk8 : Int32 → Int32 → Int32 → Int64 → Int32 → ab_S → Option (Int64 × ab_S)) (v1 : Int32) (v2 : Int32) (v3 : Int32) (v6 : Int32) (t0 : Int64) (σ : ab_S) : Option (Int64 × ab_S) := fX10_leastOf_b57 kk8 v1 v2 v3 t0 v6 σ
def fX10_leastOf_b48 (kk8 : Int32 → Int32 → Int32 → Int64 → Int32 → ab_S → Option (Int64 × ab_S)) (v1 : Int32) (v2 : Int32) (v3 : Int32) (v6 : Int32) (v7 : Int64) (σ : ab_S) : Option (Int64 × ab_S) := fX10_leastOf_b55 kk8 v1 v2 v3 v6 v7 σ
def fX10_leastOf_b8_o (kk8 : Int32 → Int32 → Int32 → Int64 → Int32 → ab_S → Option (Int64 × ab_S)) (v1 : Int32) (v2 : Int32) (v3 : Int32) (v4 : Int64) (v6 : Int32) (σ : ab_S) : Option (Int64 × ab_S) := (if 4 ≤ v6 then some (v4, σ) else (fX10_isIn v1 v6).bind fun q2 => (if q2 = 0 then fX10_leastOf_b57 kk8 v1 v2 v3 v4 v6 σ else (fX10_wonFrom v6 v2 v3 σ).bind fun q4 => (if (lg_cmp v4 0) < 0 then fX10_leastOf_b48 kk8 v1 v2 v3 v6 q4.1 q4.2 else (if 0 ≤ (lg_cmp q4.1 v4) then fX10_leastOf_b55 kk8 v1 v2 v3 v6 v4 q4.2 else fX10_leastOf_b48 kk8 v1 v2 v3 v6 q4.1 q4.2))))
def fX10_leastOf_b8 : Nat → Int32 → Int32 → Int32 → Int64 → Int32 → ab_S → Option (Int64 × ab_S)
  | 0 => fun _ _ _ _ _ _ => none
  | n + 1 => fX10_leastOf_b8_o  (fX10_leastOf_b8 n)
def fX10_leastOf (x1 : Int32) (x2 : Int32) (x3 : Int32) (σ : ab_S) : Option (Int64 × ab_S) := fX10_leastOf_b8 ab_N x1 x2 x3 ((-1)) 0 σ
section
variable {p : Program} {l : Launch} {e : Env} {s : State} {m : MethodId} {args : Array Value} {below : List Frame} {meth : Method} {c : Code} {D : va_G} {cA : Nat → ClassId} {ad : Nat → Nat → Nat}
set_option maxRecDepth 100000 in
set_option maxHeartbeats 4000000 in
theorem gX10_leastOf_b57 {R : (Int64 × ab_S)} (C : ab_C yM p s m args meth c D cA ad cX10_leastOf 9 RX10 (some .long)) {kk8 : Int32 → Int32 → Int32 → Int64 → Int32 → ab_S → Option (Int64 × ab_S)} (hk8 : ∀ (v1 : Int32) (v2 : Int32) (v3 : Int32) (v4 : Int64) (v6 : Int32) (σ : ab_S), kk8 v1 v2 v3 v4 v6 σ = some R → ab_G yM p l e s m args below meth c D cA ad 9 137 (some (.inr (.inl R.1))) R.2 8 [some (.inr (.inr (0, 0))), some (.inl v1), some (.inl v2), some (.inl v3), some (.inr (.inl v4)), none, some (.inl v6), none, none] [] σ) (v1 : Int32) (v2 : Int32) (v3 : Int32) (v4 : Int64) (v6 : Int32) (σ : ab_S) (h : fX10_leastOf_b57 kk8 v1 v2 v3 v4 v6 σ = some R) : ab_G yM p l e s m args below meth c D cA ad 9 137 (some (.inr (.inl R.1))) R.2 57 [some (.inr (.inr (0, 0))), some (.inl v1), some (.inl v2), some (.inl v3), some (.inr (.inl v4)), none, some (.inl v6), none, none] [] σ := by
  refine ab_iinc C dX10_leastOf_57 rfl (v := 1) rfl (Nat.le_of_ble_eq_true rfl) ?_
  refine ab_goto C (tgt := 8) dX10_leastOf_60 (by decide) ?_
  refine ab_weak (lv' := [some (.inr (.inr (0, 0))), some (.inl v1), some (.inl v2), some (.inl v3), some (.inr (.inl v4)), none, some (.inl (v6 + 1)), none, none]) ⟨.inr rfl, ⟨.inr rfl, ⟨.inr rfl, ⟨.inr rfl, ⟨.inr rfl, ⟨.inl rfl, ⟨.inr rfl, ⟨.inl rfl, ⟨.inl rfl, trivial⟩⟩⟩⟩⟩⟩⟩⟩⟩ ?_
  exact hk8 _ _ _ _ _ _ h
set_option maxRecDepth 100000 in
set_option maxHeartbeats 4000000 in
theorem gX10_leastOf_b55 {R : (Int64 × ab_S)} (C : ab_C yM p s m args meth c D cA ad cX10_leastOf 9 RX10 (some .long)) {kk8 : Int32 → Int32 → Int32 → Int64 → Int32 → ab_S → Option (Int64 × ab_S)} (hk8 : ∀ (v1 : Int32) (v2 : Int32) (v3 : Int32) (v4 : Int64) (v6 : Int32) (σ : ab_S), kk8 v1 v2 v3 v4 v6 σ = some R → ab_G yM p l e s m args below meth c D cA ad 9 137 (some (.inr (.inl R.1))) R.2 8 [some (.inr (.inr (0, 0))), some (.inl v1), some (.inl v2), some (.inl v3), some (.inr (.inl v4)), none, some (.inl v6), none, none] [] σ) (v1 : Int32) (v2 : Int32) (v3 : Int32) (v6 : Int32) (t0 : Int64) (σ : ab_S) (h : fX10_leastOf_b55 kk8 v1 v2 v3 v6 t0 σ = some R) : ab_G yM p l e s m args below meth c D cA ad 9 137 (some (.inr (.inl R.1))) R.2 55 [some (.inr (.inr (0, 0))), some (.inl v1), some (.inl v2), some (.inl v3), none, none, some (.inl v6), none, none] [.inr (.inl t0)] σ := by
  refine ab_lstore C dX10_leastOf_55 (Nat.le_of_ble_eq_true rfl) ?_
  refine ab_weak (lv' := [some (.inr (.inr (0, 0))), some (.inl v1), some (.inl v2), some (.inl v3), some (.inr (.inl t0)), none, some (.inl v6), none, none]) ⟨.inr rfl, ⟨.inr rfl, ⟨.inr rfl, ⟨.inr rfl, ⟨.inr rfl, ⟨.inl rfl, ⟨.inr rfl, ⟨.inl rfl, ⟨.inl rfl, trivial⟩⟩⟩⟩⟩⟩⟩⟩⟩ ?_
  exact gX10_leastOf_b57 C hk8 _ _ _ _ _ _ h
set_option maxRecDepth 100000 in
set_option maxHeartbeats 4000000 in
theorem gX10_leastOf_b48 {R : (Int64 × ab_S)} (C : ab_C yM p s m args meth c D cA ad cX10_leastOf 9 RX10 (some .long)) {kk8 : Int32 → Int32 → Int32 → Int64 → Int32 → ab_S → Option (Int64 × ab_S)} (hk8 : ∀ (v1 : Int32) (v2 : Int32) (v3 : Int32) (v4 : Int64) (v6 : Int32) (σ : ab_S), kk8 v1 v2 v3 v4 v6 σ = some R → ab_G yM p l e s m args below meth c D cA ad 9 137 (some (.inr (.inl R.1))) R.2 8 [some (.inr (.inr (0, 0))), some (.inl v1), some (.inl v2), some (.inl v3), some (.inr (.inl v4)), none, some (.inl v6), none, none] [] σ) (v1 : Int32) (v2 : Int32) (v3 : Int32) (v6 : Int32) (v7 : Int64) (σ : ab_S) (h : fX10_leastOf_b48 kk8 v1 v2 v3 v6 v7 σ = some R) : ab_G yM p l e s m args below meth c D cA ad 9 137 (some (.inr (.inl R.1))) R.2 48 [some (.inr (.inr (0, 0))), some (.inl v1), some (.inl v2), some (.inl v3), none, none, some (.inl v6), some (.inr (.inl v7)), none] [] σ := by
  refine ab_lload C dX10_leastOf_48 rfl ?_
  refine ab_goto C (tgt := 55) dX10_leastOf_50 (by decide) ?_
  refine ab_weak (lv' := [some (.inr (.inr (0, 0))), some (.inl v1), some (.inl v2), some (.inl v3), none, none, some (.inl v6), none, none]) ⟨.inr rfl, ⟨.inr rfl, ⟨.inr rfl, ⟨.inr rfl, ⟨.inl rfl, ⟨.inl rfl, ⟨.inr rfl, ⟨.inl rfl, ⟨.inl rfl, trivial⟩⟩⟩⟩⟩⟩⟩⟩⟩ ?_
  exact gX10_leastOf_b55 C hk8 _ _ _ _ _ _ h
set_option maxRecDepth 100000 in
set_option maxHeartbeats 4000000 in
theorem gX10_leastOf_b8_o {R : (Int64 × ab_S)} (C : ab_C yM p s m args meth c D cA ad cX10_leastOf 9 RX10 (some .long)) {kk8 : Int32 → Int32 → Int32 → Int64 → Int32 → ab_S → Option (Int64 × ab_S)} (hk8 : ∀ (v1 : Int32) (v2 : Int32) (v3 : Int32) (v4 : Int64) (v6 : Int32) (σ : ab_S), kk8 v1 v2 v3 v4 v6 σ = some R → ab_G yM p l e s m args below meth c D cA ad 9 137 (some (.inr (.inl R.1))) R.2 8 [some (.inr (.inr (0, 0))), some (.inl v1), some (.inl v2), some (.inl v3), some (.inr (.inl v4)), none, some (.inl v6), none, none] [] σ) (v1 : Int32) (v2 : Int32) (v3 : Int32) (v4 : Int64) (v6 : Int32) (σ : ab_S) (h : fX10_leastOf_b8_o kk8 v1 v2 v3 v4 v6 σ = some R) : ab_G yM p l e s m args below meth c D cA ad 9 137 (some (.inr (.inl R.1))) R.2 8 [some (.inr (.inr (0, 0))), some (.inl v1), some (.inl v2), some (.inl v3), some (.inr (.inl v4)), none, some (.inl v6), none, none] [] σ := by
  refine ab_iload C dX10_leastOf_8 rfl ?_
  refine ab_iconst C dX10_leastOf_10 (v := 4) rfl ?_
  refine ab_icmp_ge C (tgt := 63) dX10_leastOf_11 (by decide) (fun hc1 => ?_) (fun hc1 => ?_)
  · replace h := ab_pos hc1 h
    refine ab_lload C dX10_leastOf_63 rfl ?_
    obtain rfl := Option.some.inj h
    exact ab_lret C dX10_leastOf_65
  · replace h := ab_neg hc1 h
    refine ab_iload_n C dX10_leastOf_14 rfl ?_
    refine ab_iload C dX10_leastOf_15 rfl ?_
    obtain ⟨q2, hq2, h⟩ := ab_bind h
    refine ab_invS1 C dX10_leastOf_17 mlX10_138 ysX10_isIn (tX10_isIn l _ _ _ hq2) (Nat.le_of_ble_eq_true rfl) (Nat.le_of_ble_eq_true rfl) rfl (Nat.le_of_ble_eq_true rfl) ?_
    refine ab_if_eq C (tgt := 57) dX10_leastOf_20 (by decide) (fun hc3 => ?_) (fun hc3 => ?_)
    · replace h := ab_pos hc3 h
      refine ab_weak (lv' := [some (.inr (.inr (0, 0))), some (.inl v1), some (.inl v2), some (.inl v3), some (.inr (.inl v4)), none, some (.inl v6), none, none]) ⟨.inr rfl, ⟨.inr rfl, ⟨.inr rfl, ⟨.inr rfl, ⟨.inr rfl, ⟨.inl rfl, ⟨.inr rfl, ⟨.inl rfl, ⟨.inl rfl, trivial⟩⟩⟩⟩⟩⟩⟩⟩⟩ ?_
      exact gX10_leastOf_b57 C hk8 _ _ _ _ _ _ h
    · replace h := ab_neg hc3 h
      refine ab_aload_n C dX10_leastOf_23 rfl ?_
      refine ab_iload C dX10_leastOf_24 rfl ?_
      refine ab_iload_n C dX10_leastOf_26 rfl ?_
      refine ab_iload_n C dX10_leastOf_27 rfl ?_
      obtain ⟨q4, hq4, h⟩ := ab_bind h
      refine ab_inv1 C dX10_leastOf_28 mlX10_265 yvX10_wonFrom rkM_0 ⟨_, _, rfl⟩ mmM_0 (tX10_wonFrom l _ _ _ _ hq4) (Nat.le_of_ble_eq_true rfl) (Nat.le_of_ble_eq_true rfl) rfl (Nat.le_of_ble_eq_true rfl) ?_
      refine ab_lstore C dX10_leastOf_31 (Nat.le_of_ble_eq_true rfl) ?_
      refine ab_lload C dX10_leastOf_33 rfl ?_
      refine ab_lconst C dX10_leastOf_35 (v := 0) rfl ?_
      refine ab_lcmp C dX10_leastOf_36  ?_
      refine ab_if_lt C (tgt := 48) dX10_leastOf_37 (by decide) (fun hc5 => ?_) (fun hc5 => ?_)
      · replace h := ab_pos hc5 h
        refine ab_weak (lv' := [some (.inr (.inr (0, 0))), some (.inl v1), some (.inl v2), some (.inl v3), none, none, some (.inl v6), some (.inr (.inl q4.1)), none]) ⟨.inr rfl, ⟨.inr rfl, ⟨.inr rfl, ⟨.inr rfl, ⟨.inl rfl, ⟨.inl rfl, ⟨.inr rfl, ⟨.inr rfl, ⟨.inl rfl, trivial⟩⟩⟩⟩⟩⟩⟩⟩⟩ ?_
        exact gX10_leastOf_b48 C hk8 _ _ _ _ _ _ h
      · replace h := ab_neg hc5 h
        refine ab_lload C dX10_leastOf_40 rfl ?_
        refine ab_lload C dX10_leastOf_42 rfl ?_
        refine ab_lcmp C dX10_leastOf_44  ?_
        refine ab_if_ge C (tgt := 53) dX10_leastOf_45 (by decide) (fun hc6 => ?_) (fun hc6 => ?_)
        · replace h := ab_pos hc6 h
          refine ab_lload C dX10_leastOf_53 rfl ?_
          refine ab_weak (lv' := [some (.inr (.inr (0, 0))), some (.inl v1), some (.inl v2), some (.inl v3), none, none, some (.inl v6), none, none]) ⟨.inr rfl, ⟨.inr rfl, ⟨.inr rfl, ⟨.inr rfl, ⟨.inl rfl, ⟨.inl rfl, ⟨.inr rfl, ⟨.inl rfl, ⟨.inl rfl, trivial⟩⟩⟩⟩⟩⟩⟩⟩⟩ ?_
          exact gX10_leastOf_b55 C hk8 _ _ _ _ _ _ h
        · replace h := ab_neg hc6 h
          refine ab_weak (lv' := [some (.inr (.inr (0, 0))), some (.inl v1), some (.inl v2), some (.inl v3), none, none, some (.inl v6), some (.inr (.inl q4.1)), none]) ⟨.inr rfl, ⟨.inr rfl, ⟨.inr rfl, ⟨.inr rfl, ⟨.inl rfl, ⟨.inl rfl, ⟨.inr rfl, ⟨.inr rfl, ⟨.inl rfl, trivial⟩⟩⟩⟩⟩⟩⟩⟩⟩ ?_
          exact gX10_leastOf_b48 C hk8 _ _ _ _ _ _ h
theorem gX10_leastOf_b8 {R : (Int64 × ab_S)} (C : ab_C yM p s m args meth c D cA ad cX10_leastOf 9 RX10 (some .long)) : ∀ (j : Nat) (v1 : Int32) (v2 : Int32) (v3 : Int32) (v4 : Int64) (v6 : Int32) (σ : ab_S), fX10_leastOf_b8 j v1 v2 v3 v4 v6 σ = some R → ab_G yM p l e s m args below meth c D cA ad 9 137 (some (.inr (.inl R.1))) R.2 8 [some (.inr (.inr (0, 0))), some (.inl v1), some (.inl v2), some (.inl v3), some (.inr (.inl v4)), none, some (.inl v6), none, none] [] σ := by
  intro j
  induction j with
  | zero => intro v1 v2 v3 v4 v6 σ  h; cases h
  | succ j ih => intro v1 v2 v3 v4 v6 σ  h; exact gX10_leastOf_b8_o C ih _ _ _ _ _ _ h
set_option maxRecDepth 100000 in
set_option maxHeartbeats 4000000 in
theorem tX10_leastOf (l : Launch) (x1 : Int32) (x2 : Int32) (x3 : Int32) (σ : ab_S) {R : (Int64 × ab_S)} (h : fX10_leastOf x1 x2 x3 σ = some R) : ab_M l yM yX10_leastOf cX10_leastOf 9 (some .long) 137 [.inr (.inr (0, 0)), .inl x1, .inl x2, .inl x3] σ (some (.inr (.inl R.1))) R.2 := by
  refine ab_M_intro ndM (by decide) (Nat.le_of_ble_eq_true rfl) ?_
  intro p e s m args below meth c D cA ad C
  have C : ab_C yM p s m args meth c D cA ad cX10_leastOf 9 RX10 (some .long) := C
  refine ab_weak (lv' := [some (.inr (.inr (0, 0))), some (.inl x1), some (.inl x2), some (.inl x3), none, none, none, none, none]) ⟨.inr rfl, ⟨.inr rfl, ⟨.inr rfl, ⟨.inr rfl, ⟨.inl rfl, ⟨.inl rfl, ⟨.inl rfl, ⟨.inl rfl, ⟨.inl rfl, trivial⟩⟩⟩⟩⟩⟩⟩⟩⟩ ?_
  refine ab_ldc2 C dX10_leastOf_0 cwX10_271 ?_
  refine ab_lstore C dX10_leastOf_3 (Nat.le_of_ble_eq_true rfl) ?_
  refine ab_iconst C dX10_leastOf_5 (v := 0) rfl ?_
  refine ab_istore C dX10_leastOf_6 (Nat.le_of_ble_eq_true rfl) ?_
  refine ab_weak (lv' := [some (.inr (.inr (0, 0))), some (.inl x1), some (.inl x2), some (.inl x3), some (.inr (.inl ((-1)))), none, some (.inl 0), none, none]) ⟨.inr rfl, ⟨.inr rfl, ⟨.inr rfl, ⟨.inr rfl, ⟨.inr rfl, ⟨.inl rfl, ⟨.inr rfl, ⟨.inl rfl, ⟨.inl rfl, trivial⟩⟩⟩⟩⟩⟩⟩⟩⟩ ?_
  exact gX10_leastOf_b8 C ab_N _ _ _ _ _ _ h
end
def fX10_led_b22 (t0 : Int32) (σ : ab_S) : Option Int32 := some t0
def fX10_led (x1 : Int32) (σ : ab_S) : Option Int32 := (fX10_within ((x1 : Int32).toInt64) 0 2).bind fun q1 => (if q1 = 0 then fX10_led_b22 ((-1)) σ else (if ab_inb x1 3 = true then fX10_led_b22 (σ.1 14 0 x1.toNatClampNeg) σ else none))
section
variable {p : Program} {l : Launch} {e : Env} {s : State} {m : MethodId} {args : Array Value} {below : List Frame} {meth : Method} {c : Code} {D : va_G} {cA : Nat → ClassId} {ad : Nat → Nat → Nat}
set_option maxRecDepth 100000 in
set_option maxHeartbeats 4000000 in
theorem gX10_led_b22 {R : Int32} (C : ab_C yM p s m args meth c D cA ad cX10_led 2 RX10 (some .int)) (σ : ab_S) (t0 : Int32) (h : fX10_led_b22 t0 σ = some R) : ab_G yM p l e s m args below meth c D cA ad 2 1 (some (.inl R)) σ 22 [none, none] [.inl t0] σ := by
  obtain rfl := Option.some.inj h
  exact ab_iret C dX10_led_22
set_option maxRecDepth 100000 in
set_option maxHeartbeats 4000000 in
theorem tX10_led (l : Launch) (x1 : Int32) (σ : ab_S) {R : Int32} (h : fX10_led x1 σ = some R) : ab_M l yM yX10_led cX10_led 2 (some .int) 1 [.inr (.inr (0, 0)), .inl x1] σ (some (.inl R)) σ := by
  refine ab_M_intro ndM (by decide) (Nat.le_of_ble_eq_true rfl) ?_
  intro p e s m args below meth c D cA ad C
  have C : ab_C yM p s m args meth c D cA ad cX10_led 2 RX10 (some .int) := C
  refine ab_weak (lv' := [some (.inr (.inr (0, 0))), some (.inl x1)]) ⟨.inr rfl, ⟨.inr rfl, trivial⟩⟩ ?_
  refine ab_iload_n C dX10_led_0 rfl ?_
  refine ab_i2l C dX10_led_1  ?_
  refine ab_lconst C dX10_led_2 (v := 0) rfl ?_
  refine ab_ldc2 C dX10_led_3 cwX10_109 ?_
  obtain ⟨q1, hq1, h⟩ := ab_bind h
  refine ab_invS1 C dX10_led_6 mlX10_105 ysX10_within (tX10_within l _ _ _ _ hq1) (Nat.le_of_ble_eq_true rfl) (Nat.le_of_ble_eq_true rfl) rfl (Nat.le_of_ble_eq_true rfl) ?_
  refine ab_if_eq C (tgt := 21) dX10_led_9 (by decide) (fun hc2 => ?_) (fun hc2 => ?_)
  · replace h := ab_pos hc2 h
    refine ab_iconst C dX10_led_21 (v := (-1)) rfl ?_
    refine ab_weak (lv' := [none, none]) ⟨.inl rfl, ⟨.inl rfl, trivial⟩⟩ ?_
    exact gX10_led_b22 C _ _ h
  · replace h := ab_neg hc2 h
    refine ab_aload_n C dX10_led_12 rfl ?_
    refine ab_getR C dX10_led_13 flX10_52 rkM_0 rfl mmM_0 ?_
    refine ab_iload_n C dX10_led_16 rfl ?_
    obtain ⟨hg3, h⟩ := ab_grd h
    refine ab_iald C dX10_led_17 rkM_14 mmM_14 hg3 ?_
    refine ab_goto C (tgt := 22) dX10_led_18 (by decide) ?_
    refine ab_weak (lv' := [none, none]) ⟨.inl rfl, ⟨.inl rfl, trivial⟩⟩ ?_
    exact gX10_led_b22 C _ _ h
end
