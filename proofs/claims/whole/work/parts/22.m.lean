def fX10_likely_b19 (σ : ab_S) : Option (Int64 × ab_S) := some ((-9223372036854775808), σ)
def fX10_likely_b51 (t0 : Int64) (σ : ab_S) : Option (Int64 × ab_S) := some (t0, σ)
def fX10_likely (x1 : Int32) (x2 : Int32) (σ : ab_S) : Option (Int64 × ab_S) := (fX10_isDoor ((x1 : Int32).toInt64) σ).bind fun q1 => (if q1 = 0 then fX10_likely_b19 σ else (fX10_within ((x2 : Int32).toInt64) 0 1).bind fun q3 => (if q3 = 0 then fX10_likely_b19 σ else (fX10_comes σ).bind fun q5 => (if (lg_cmp q5.1 0) = 0 then fX10_likely_b51 ((-2)) q5.2 else (if ab_inb x1 5 = true then (fX10_partOf (q5.2.2 12 0 x1.toNatClampNeg) q5.1 x2).bind fun q8 => fX10_likely_b51 q8 q5.2 else none))))
section
variable {p : Program} {l : Launch} {e : Env} {s : State} {m : MethodId} {args : Array Value} {below : List Frame} {meth : Method} {c : Code} {D : va_G} {cA : Nat → ClassId} {ad : Nat → Nat → Nat}
set_option maxRecDepth 100000 in
set_option maxHeartbeats 4000000 in
theorem gX10_likely_b19 {R : (Int64 × ab_S)} (C : ab_C yM p s m args meth c D cA ad cX10_likely 5 RX10 (some .long)) (σ : ab_S) (h : fX10_likely_b19 σ = some R) : ab_G yM p l e s m args below meth c D cA ad 5 71 (some (.inr (.inl R.1))) R.2 19 [none, none, none, none, none] [] σ := by
  refine ab_ldc2 C dX10_likely_19 cwX10_220 ?_
  obtain rfl := Option.some.inj h
  exact ab_lret C dX10_likely_22
set_option maxRecDepth 100000 in
set_option maxHeartbeats 4000000 in
theorem gX10_likely_b51 {R : (Int64 × ab_S)} (C : ab_C yM p s m args meth c D cA ad cX10_likely 5 RX10 (some .long)) (t0 : Int64) (σ : ab_S) (h : fX10_likely_b51 t0 σ = some R) : ab_G yM p l e s m args below meth c D cA ad 5 71 (some (.inr (.inl R.1))) R.2 51 [none, none, none, none, none] [.inr (.inl t0)] σ := by
  obtain rfl := Option.some.inj h
  exact ab_lret C dX10_likely_51
set_option maxRecDepth 100000 in
set_option maxHeartbeats 4000000 in
theorem tX10_likely (l : Launch) (x1 : Int32) (x2 : Int32) (σ : ab_S) {R : (Int64 × ab_S)} (h : fX10_likely x1 x2 σ = some R) : ab_M l yM yX10_likely cX10_likely 5 (some .long) 71 [.inr (.inr (0, 0)), .inl x1, .inl x2] σ (some (.inr (.inl R.1))) R.2 := by
  refine ab_M_intro ndM (by decide) (Nat.le_of_ble_eq_true rfl) ?_
  intro p e s m args below meth c D cA ad C
  have C : ab_C yM p s m args meth c D cA ad cX10_likely 5 RX10 (some .long) := C
  refine ab_weak (lv' := [some (.inr (.inr (0, 0))), some (.inl x1), some (.inl x2), none, none]) ⟨.inr rfl, ⟨.inr rfl, ⟨.inr rfl, ⟨.inl rfl, ⟨.inl rfl, trivial⟩⟩⟩⟩⟩ ?_
  refine ab_aload_n C dX10_likely_0 rfl ?_
  refine ab_iload_n C dX10_likely_1 rfl ?_
  refine ab_i2l C dX10_likely_2  ?_
  obtain ⟨q1, hq1, h⟩ := ab_bind h
  refine ab_inv1 C dX10_likely_3 mlX10_117 yvX10_isDoor rkM_0 ⟨_, _, rfl⟩ mmM_0 (tX10_isDoor l _ _ hq1) (Nat.le_of_ble_eq_true rfl) (Nat.le_of_ble_eq_true rfl) rfl (Nat.le_of_ble_eq_true rfl) ?_
  refine ab_if_eq C (tgt := 19) dX10_likely_6 (by decide) (fun hc2 => ?_) (fun hc2 => ?_)
  · replace h := ab_pos hc2 h
    refine ab_weak (lv' := [none, none, none, none, none]) ⟨.inl rfl, ⟨.inl rfl, ⟨.inl rfl, ⟨.inl rfl, ⟨.inl rfl, trivial⟩⟩⟩⟩⟩ ?_
    exact gX10_likely_b19 C _ h
  · replace h := ab_neg hc2 h
    refine ab_iload_n C dX10_likely_9 rfl ?_
    refine ab_i2l C dX10_likely_10  ?_
    refine ab_lconst C dX10_likely_11 (v := 0) rfl ?_
    refine ab_lconst C dX10_likely_12 (v := 1) rfl ?_
    obtain ⟨q3, hq3, h⟩ := ab_bind h
    refine ab_invS1 C dX10_likely_13 mlX10_105 ysX10_within (tX10_within l _ _ _ _ hq3) (Nat.le_of_ble_eq_true rfl) (Nat.le_of_ble_eq_true rfl) rfl (Nat.le_of_ble_eq_true rfl) ?_
    refine ab_if_ne C (tgt := 23) dX10_likely_16 (by decide) (fun hc4 => ?_) (fun hc4 => ?_)
    · replace h := ab_neg hc4 h
      refine ab_aload_n C dX10_likely_23 rfl ?_
      obtain ⟨q5, hq5, h⟩ := ab_bind h
      refine ab_inv1 C dX10_likely_24 mlX10_222 yvX10_comes rkM_0 ⟨_, _, rfl⟩ mmM_0 (tX10_comes l _ hq5) (Nat.le_of_ble_eq_true rfl) (Nat.le_of_ble_eq_true rfl) rfl (Nat.le_of_ble_eq_true rfl) ?_
      refine ab_lstore_n C dX10_likely_27 (Nat.le_of_ble_eq_true rfl) ?_
      refine ab_lload_n C dX10_likely_28 rfl ?_
      refine ab_lconst C dX10_likely_29 (v := 0) rfl ?_
      refine ab_lcmp C dX10_likely_30  ?_
      refine ab_if_ne C (tgt := 40) dX10_likely_31 (by decide) (fun hc6 => ?_) (fun hc6 => ?_)
      · replace h := ab_neg hc6 h
        refine ab_aload_n C dX10_likely_40 rfl ?_
        refine ab_getR C dX10_likely_41 flX10_45 rkM_0 rfl mmM_0 ?_
        refine ab_iload_n C dX10_likely_44 rfl ?_
        obtain ⟨hg7, h⟩ := ab_grd h
        refine ab_lald C dX10_likely_45 rkM_12 mmM_12 hg7 ?_
        refine ab_lload_n C dX10_likely_46 rfl ?_
        refine ab_iload_n C dX10_likely_47 rfl ?_
        obtain ⟨q8, hq8, h⟩ := ab_bind h
        refine ab_invS1 C dX10_likely_48 mlX10_228 ysX10_partOf (tX10_partOf l _ _ _ _ hq8) (Nat.le_of_ble_eq_true rfl) (Nat.le_of_ble_eq_true rfl) rfl (Nat.le_of_ble_eq_true rfl) ?_
        refine ab_weak (lv' := [none, none, none, none, none]) ⟨.inl rfl, ⟨.inl rfl, ⟨.inl rfl, ⟨.inl rfl, ⟨.inl rfl, trivial⟩⟩⟩⟩⟩ ?_
        exact gX10_likely_b51 C _ _ h
      · replace h := ab_pos hc6 h
        refine ab_ldc2 C dX10_likely_34 cwX10_226 ?_
        refine ab_goto C (tgt := 51) dX10_likely_37 (by decide) ?_
        refine ab_weak (lv' := [none, none, none, none, none]) ⟨.inl rfl, ⟨.inl rfl, ⟨.inl rfl, ⟨.inl rfl, ⟨.inl rfl, trivial⟩⟩⟩⟩⟩ ?_
        exact gX10_likely_b51 C _ _ h
    · replace h := ab_pos hc4 h
      refine ab_weak (lv' := [none, none, none, none, none]) ⟨.inl rfl, ⟨.inl rfl, ⟨.inl rfl, ⟨.inl rfl, ⟨.inl rfl, trivial⟩⟩⟩⟩⟩ ?_
      exact gX10_likely_b19 C _ h
end
def fX10_mayOpen_b38 (t0 : Int32) (σ : ab_S) : Option Int32 := (if ab_isb t0 = true then some t0 else none)
def fX10_mayOpen_b33 (σ : ab_S) : Option Int32 := fX10_mayOpen_b38 1 σ
def fX10_mayOpen_b37 (σ : ab_S) : Option Int32 := fX10_mayOpen_b38 0 σ
def fX10_mayOpen (x1 : Int32) (σ : ab_S) : Option Int32 := (if x1 = ((-1)) then fX10_mayOpen_b33 σ else (fX10_isDoor ((x1 : Int32).toInt64) σ).bind fun q2 => (if q2 = 0 then fX10_mayOpen_b37 σ else (if x1 = (σ.1 0 0 8) then fX10_mayOpen_b37 σ else (fX10_openNow σ).bind fun q5 => (fX10_isIn q5 x1).bind fun q6 => (if q6 = 0 then fX10_mayOpen_b33 σ else fX10_mayOpen_b37 σ))))
section
variable {p : Program} {l : Launch} {e : Env} {s : State} {m : MethodId} {args : Array Value} {below : List Frame} {meth : Method} {c : Code} {D : va_G} {cA : Nat → ClassId} {ad : Nat → Nat → Nat}
set_option maxRecDepth 100000 in
set_option maxHeartbeats 4000000 in
theorem gX10_mayOpen_b38 {R : Int32} (C : ab_C yM p s m args meth c D cA ad cX10_mayOpen 2 RX10 (some .boolean)) (σ : ab_S) (t0 : Int32) (h : fX10_mayOpen_b38 t0 σ = some R) : ab_G yM p l e s m args below meth c D cA ad 2 2 (some (.inl R)) σ 38 [none, none] [.inl t0] σ := by
  obtain ⟨hg1, h⟩ := ab_grd h
  obtain rfl := Option.some.inj h
  exact ab_zret C dX10_mayOpen_38 hg1
set_option maxRecDepth 100000 in
set_option maxHeartbeats 4000000 in
theorem gX10_mayOpen_b33 {R : Int32} (C : ab_C yM p s m args meth c D cA ad cX10_mayOpen 2 RX10 (some .boolean)) (σ : ab_S) (h : fX10_mayOpen_b33 σ = some R) : ab_G yM p l e s m args below meth c D cA ad 2 2 (some (.inl R)) σ 33 [none, none] [] σ := by
  refine ab_iconst C dX10_mayOpen_33 (v := 1) rfl ?_
  refine ab_goto C (tgt := 38) dX10_mayOpen_34 (by decide) ?_
  refine ab_weak (lv' := [none, none]) ⟨.inl rfl, ⟨.inl rfl, trivial⟩⟩ ?_
  exact gX10_mayOpen_b38 C _ _ h
set_option maxRecDepth 100000 in
set_option maxHeartbeats 4000000 in
theorem gX10_mayOpen_b37 {R : Int32} (C : ab_C yM p s m args meth c D cA ad cX10_mayOpen 2 RX10 (some .boolean)) (σ : ab_S) (h : fX10_mayOpen_b37 σ = some R) : ab_G yM p l e s m args below meth c D cA ad 2 2 (some (.inl R)) σ 37 [none, none] [] σ := by
  refine ab_iconst C dX10_mayOpen_37 (v := 0) rfl ?_
  refine ab_weak (lv' := [none, none]) ⟨.inl rfl, ⟨.inl rfl, trivial⟩⟩ ?_
  exact gX10_mayOpen_b38 C _ _ h
set_option maxRecDepth 100000 in
set_option maxHeartbeats 4000000 in
theorem tX10_mayOpen (l : Launch) (x1 : Int32) (σ : ab_S) {R : Int32} (h : fX10_mayOpen x1 σ = some R) : ab_M l yM yX10_mayOpen cX10_mayOpen 2 (some .boolean) 2 [.inr (.inr (0, 0)), .inl x1] σ (some (.inl R)) σ := by
  refine ab_M_intro ndM (by decide) (Nat.le_of_ble_eq_true rfl) ?_
  intro p e s m args below meth c D cA ad C
  have C : ab_C yM p s m args meth c D cA ad cX10_mayOpen 2 RX10 (some .boolean) := C
  refine ab_weak (lv' := [some (.inr (.inr (0, 0))), some (.inl x1)]) ⟨.inr rfl, ⟨.inr rfl, trivial⟩⟩ ?_
  refine ab_iload_n C dX10_mayOpen_0 rfl ?_
  refine ab_iconst C dX10_mayOpen_1 (v := (-1)) rfl ?_
  refine ab_icmp_eq C (tgt := 33) dX10_mayOpen_2 (by decide) (fun hc1 => ?_) (fun hc1 => ?_)
  · replace h := ab_pos hc1 h
    refine ab_weak (lv' := [none, none]) ⟨.inl rfl, ⟨.inl rfl, trivial⟩⟩ ?_
    exact gX10_mayOpen_b33 C _ h
  · replace h := ab_neg hc1 h
    refine ab_aload_n C dX10_mayOpen_5 rfl ?_
    refine ab_iload_n C dX10_mayOpen_6 rfl ?_
    refine ab_i2l C dX10_mayOpen_7  ?_
    obtain ⟨q2, hq2, h⟩ := ab_bind h
    refine ab_inv1 C dX10_mayOpen_8 mlX10_117 yvX10_isDoor rkM_0 ⟨_, _, rfl⟩ mmM_0 (tX10_isDoor l _ _ hq2) (Nat.le_of_ble_eq_true rfl) (Nat.le_of_ble_eq_true rfl) rfl (Nat.le_of_ble_eq_true rfl) ?_
    refine ab_if_eq C (tgt := 37) dX10_mayOpen_11 (by decide) (fun hc3 => ?_) (fun hc3 => ?_)
    · replace h := ab_pos hc3 h
      refine ab_weak (lv' := [none, none]) ⟨.inl rfl, ⟨.inl rfl, trivial⟩⟩ ?_
      exact gX10_mayOpen_b37 C _ h
    · replace h := ab_neg hc3 h
      refine ab_iload_n C dX10_mayOpen_14 rfl ?_
      refine ab_aload_n C dX10_mayOpen_15 rfl ?_
      refine ab_getI C dX10_mayOpen_16 flX10_90 rkM_0 rfl mmM_0 ?_
      refine ab_icmp_eq C (tgt := 37) dX10_mayOpen_19 (by decide) (fun hc4 => ?_) (fun hc4 => ?_)
      · replace h := ab_pos hc4 h
        refine ab_weak (lv' := [none, none]) ⟨.inl rfl, ⟨.inl rfl, trivial⟩⟩ ?_
        exact gX10_mayOpen_b37 C _ h
      · replace h := ab_neg hc4 h
        refine ab_aload_n C dX10_mayOpen_22 rfl ?_
        obtain ⟨q5, hq5, h⟩ := ab_bind h
        refine ab_inv1 C dX10_mayOpen_23 mlX10_134 yvX10_openNow rkM_0 ⟨_, _, rfl⟩ mmM_0 (tX10_openNow l _ hq5) (Nat.le_of_ble_eq_true rfl) (Nat.le_of_ble_eq_true rfl) rfl (Nat.le_of_ble_eq_true rfl) ?_
        refine ab_iload_n C dX10_mayOpen_26 rfl ?_
        obtain ⟨q6, hq6, h⟩ := ab_bind h
        refine ab_invS1 C dX10_mayOpen_27 mlX10_138 ysX10_isIn (tX10_isIn l _ _ _ hq6) (Nat.le_of_ble_eq_true rfl) (Nat.le_of_ble_eq_true rfl) rfl (Nat.le_of_ble_eq_true rfl) ?_
        refine ab_if_ne C (tgt := 37) dX10_mayOpen_30 (by decide) (fun hc7 => ?_) (fun hc7 => ?_)
        · replace h := ab_neg hc7 h
          refine ab_weak (lv' := [none, none]) ⟨.inl rfl, ⟨.inl rfl, trivial⟩⟩ ?_
          exact gX10_mayOpen_b37 C _ h
        · replace h := ab_pos hc7 h
          refine ab_weak (lv' := [none, none]) ⟨.inl rfl, ⟨.inl rfl, trivial⟩⟩ ?_
          exact gX10_mayOpen_b33 C _ h
end
def fX10_mend_b59 (t0 : Int32) (σ : ab_S) : Option (Int32 × ab_S) := some (t0, σ)
def fX10_mend_b58 (σ : ab_S) : Option (Int32 × ab_S) := fX10_mend_b59 ((-1)) σ
def fX10_mend_b86 (t0 : Int32) (σ : ab_S) : Option (Int32 × ab_S) := some (t0, σ)
def fX10_mend_b85 (σ : ab_S) : Option (Int32 × ab_S) := fX10_mend_b86 ((-1)) σ
def fX10_mend_b114 (t0 : Int32) (σ : ab_S) : Option (Int32 × ab_S) := some (t0, σ)
def fX10_mend_b113 (σ : ab_S) : Option (Int32 × ab_S) := fX10_mend_b114 ((-1)) σ
def fX10_mend (x1 : Int32) (x2 : Int32) (x3 : Int32) (σ : ab_S) : Option (Int32 × ab_S) := (if x2 = 0 then (fX10_isDoor ((x1 : Int32).toInt64) σ).bind fun q2 => (if q2 = 0 then fX10_mend_b58 σ else (fX10_within ((x3 : Int32).toInt64) 0 12).bind fun q4 => (if q4 = 0 then fX10_mend_b58 σ else (fX10_becomes x1 x3 σ).bind fun q6 => fX10_mend_b59 q6.1 q6.2)) else (if x2 = 1 then (if x1 = 0 then (fX10_within ((x3 : Int32).toInt64) 0 3).bind fun q9 => (if q9 = 0 then fX10_mend_b85 σ else (fX10_becomes 5 x3 σ).bind fun q11 => fX10_mend_b86 q11.1 q11.2) else fX10_mend_b85 σ) else (if x2 = 2 then (if x1 = 0 then (fX10_within ((x3 : Int32).toInt64) 1 3).bind fun q14 => (if q14 = 0 then fX10_mend_b113 σ else (fX10_becomes 6 x3 σ).bind fun q16 => fX10_mend_b114 q16.1 q16.2) else fX10_mend_b113 σ) else some ((-1), σ))))
section
variable {p : Program} {l : Launch} {e : Env} {s : State} {m : MethodId} {args : Array Value} {below : List Frame} {meth : Method} {c : Code} {D : va_G} {cA : Nat → ClassId} {ad : Nat → Nat → Nat}
set_option maxRecDepth 100000 in
set_option maxHeartbeats 4000000 in
theorem gX10_mend_b59 {R : (Int32 × ab_S)} (C : ab_C yM p s m args meth c D cA ad cX10_mend 4 RX10 (some .int)) (t0 : Int32) (σ : ab_S) (h : fX10_mend_b59 t0 σ = some R) : ab_G yM p l e s m args below meth c D cA ad 4 2 (some (.inl R.1)) R.2 59 [none, none, none, none] [.inl t0] σ := by
  obtain rfl := Option.some.inj h
  exact ab_iret C dX10_mend_59
set_option maxRecDepth 100000 in
set_option maxHeartbeats 4000000 in
theorem gX10_mend_b58 {R : (Int32 × ab_S)} (C : ab_C yM p s m args meth c D cA ad cX10_mend 4 RX10 (some .int)) (σ : ab_S) (h : fX10_mend_b58 σ = some R) : ab_G yM p l e s m args below meth c D cA ad 4 2 (some (.inl R.1)) R.2 58 [none, none, none, none] [] σ := by
  refine ab_iconst C dX10_mend_58 (v := (-1)) rfl ?_
  refine ab_weak (lv' := [none, none, none, none]) ⟨.inl rfl, ⟨.inl rfl, ⟨.inl rfl, ⟨.inl rfl, trivial⟩⟩⟩⟩ ?_
  exact gX10_mend_b59 C _ _ h
set_option maxRecDepth 100000 in
set_option maxHeartbeats 4000000 in
theorem gX10_mend_b86 {R : (Int32 × ab_S)} (C : ab_C yM p s m args meth c D cA ad cX10_mend 4 RX10 (some .int)) (t0 : Int32) (σ : ab_S) (h : fX10_mend_b86 t0 σ = some R) : ab_G yM p l e s m args below meth c D cA ad 4 2 (some (.inl R.1)) R.2 86 [none, none, none, none] [.inl t0] σ := by
  obtain rfl := Option.some.inj h
  exact ab_iret C dX10_mend_86
set_option maxRecDepth 100000 in
set_option maxHeartbeats 4000000 in
theorem gX10_mend_b85 {R : (Int32 × ab_S)} (C : ab_C yM p s m args meth c D cA ad cX10_mend 4 RX10 (some .int)) (σ : ab_S) (h : fX10_mend_b85 σ = some R) : ab_G yM p l e s m args below meth c D cA ad 4 2 (some (.inl R.1)) R.2 85 [none, none, none, none] [] σ := by
  refine ab_iconst C dX10_mend_85 (v := (-1)) rfl ?_
  refine ab_weak (lv' := [none, none, none, none]) ⟨.inl rfl, ⟨.inl rfl, ⟨.inl rfl, ⟨.inl rfl, trivial⟩⟩⟩⟩ ?_
  exact gX10_mend_b86 C _ _ h
set_option maxRecDepth 100000 in
set_option maxHeartbeats 4000000 in
theorem gX10_mend_b114 {R : (Int32 × ab_S)} (C : ab_C yM p s m args meth c D cA ad cX10_mend 4 RX10 (some .int)) (t0 : Int32) (σ : ab_S) (h : fX10_mend_b114 t0 σ = some R) : ab_G yM p l e s m args below meth c D cA ad 4 2 (some (.inl R.1)) R.2 114 [none, none, none, none] [.inl t0] σ := by
  obtain rfl := Option.some.inj h
  exact ab_iret C dX10_mend_114
set_option maxRecDepth 100000 in
set_option maxHeartbeats 4000000 in
theorem gX10_mend_b113 {R : (Int32 × ab_S)} (C : ab_C yM p s m args meth c D cA ad cX10_mend 4 RX10 (some .int)) (σ : ab_S) (h : fX10_mend_b113 σ = some R) : ab_G yM p l e s m args below meth c D cA ad 4 2 (some (.inl R.1)) R.2 113 [none, none, none, none] [] σ := by
  refine ab_iconst C dX10_mend_113 (v := (-1)) rfl ?_
  refine ab_weak (lv' := [none, none, none, none]) ⟨.inl rfl, ⟨.inl rfl, ⟨.inl rfl, ⟨.inl rfl, trivial⟩⟩⟩⟩ ?_
  exact gX10_mend_b114 C _ _ h
set_option maxRecDepth 100000 in
set_option maxHeartbeats 4000000 in
theorem tX10_mend (l : Launch) (x1 : Int32) (x2 : Int32) (x3 : Int32) (σ : ab_S) {R : (Int32 × ab_S)} (h : fX10_mend x1 x2 x3 σ = some R) : ab_M l yM yX10_mend cX10_mend 4 (some .int) 2 [.inr (.inr (0, 0)), .inl x1, .inl x2, .inl x3] σ (some (.inl R.1)) R.2 := by
  refine ab_M_intro ndM (by decide) (Nat.le_of_ble_eq_true rfl) ?_
  intro p e s m args below meth c D cA ad C
  have C : ab_C yM p s m args meth c D cA ad cX10_mend 4 RX10 (some .int) := C
  refine ab_weak (lv' := [some (.inr (.inr (0, 0))), some (.inl x1), some (.inl x2), some (.inl x3)]) ⟨.inr rfl, ⟨.inr rfl, ⟨.inr rfl, ⟨.inr rfl, trivial⟩⟩⟩⟩ ?_
  refine ab_iload_n C dX10_mend_0 rfl ?_
  by_cases hc1 : x2 = 0
  · replace h := ab_pos hc1 h
    refine ab_tswIn C (tgt := 28) dX10_mend_1.1 0 (by rw [hc1]; decide) (by decide) (by decide) rfl (by decide) ?_
    refine ab_aload_n C dX10_mend_28 rfl ?_
    refine ab_iload_n C dX10_mend_29 rfl ?_
    refine ab_i2l C dX10_mend_30  ?_
    obtain ⟨q2, hq2, h⟩ := ab_bind h
    refine ab_inv1 C dX10_mend_31 mlX10_117 yvX10_isDoor rkM_0 ⟨_, _, rfl⟩ mmM_0 (tX10_isDoor l _ _ hq2) (Nat.le_of_ble_eq_true rfl) (Nat.le_of_ble_eq_true rfl) rfl (Nat.le_of_ble_eq_true rfl) ?_
    refine ab_if_eq C (tgt := 58) dX10_mend_34 (by decide) (fun hc3 => ?_) (fun hc3 => ?_)
    · replace h := ab_pos hc3 h
      refine ab_weak (lv' := [none, none, none, none]) ⟨.inl rfl, ⟨.inl rfl, ⟨.inl rfl, ⟨.inl rfl, trivial⟩⟩⟩⟩ ?_
      exact gX10_mend_b58 C _ h
    · replace h := ab_neg hc3 h
      refine ab_iload_n C dX10_mend_37 rfl ?_
      refine ab_i2l C dX10_mend_38  ?_
      refine ab_lconst C dX10_mend_39 (v := 0) rfl ?_
      refine ab_ldc2 C dX10_mend_40 cwX10_121 ?_
      obtain ⟨q4, hq4, h⟩ := ab_bind h
      refine ab_invS1 C dX10_mend_43 mlX10_105 ysX10_within (tX10_within l _ _ _ _ hq4) (Nat.le_of_ble_eq_true rfl) (Nat.le_of_ble_eq_true rfl) rfl (Nat.le_of_ble_eq_true rfl) ?_
      refine ab_if_eq C (tgt := 58) dX10_mend_46 (by decide) (fun hc5 => ?_) (fun hc5 => ?_)
      · replace h := ab_pos hc5 h
        refine ab_weak (lv' := [none, none, none, none]) ⟨.inl rfl, ⟨.inl rfl, ⟨.inl rfl, ⟨.inl rfl, trivial⟩⟩⟩⟩ ?_
        exact gX10_mend_b58 C _ h
      · replace h := ab_neg hc5 h
        refine ab_aload_n C dX10_mend_49 rfl ?_
        refine ab_iload_n C dX10_mend_50 rfl ?_
        refine ab_iload_n C dX10_mend_51 rfl ?_
        obtain ⟨q6, hq6, h⟩ := ab_bind h
        refine ab_inv1 C dX10_mend_52 mlX10_123 yvX10_becomes rkM_0 ⟨_, _, rfl⟩ mmM_0 (tX10_becomes l _ _ _ hq6) (Nat.le_of_ble_eq_true rfl) (Nat.le_of_ble_eq_true rfl) rfl (Nat.le_of_ble_eq_true rfl) ?_
        refine ab_goto C (tgt := 59) dX10_mend_55 (by decide) ?_
        refine ab_weak (lv' := [none, none, none, none]) ⟨.inl rfl, ⟨.inl rfl, ⟨.inl rfl, ⟨.inl rfl, trivial⟩⟩⟩⟩ ?_
        exact gX10_mend_b59 C _ _ h
  · replace h := ab_neg hc1 h
    by_cases hc7 : x2 = 1
    · replace h := ab_pos hc7 h
      refine ab_tswIn C (tgt := 60) dX10_mend_1.1 1 (by rw [hc7]; decide) (by decide) (by decide) rfl (by decide) ?_
      refine ab_iload_n C dX10_mend_60 rfl ?_
      refine ab_if_ne C (tgt := 85) dX10_mend_61 (by decide) (fun hc8 => ?_) (fun hc8 => ?_)
      · replace h := ab_neg hc8 h
        refine ab_weak (lv' := [none, none, none, none]) ⟨.inl rfl, ⟨.inl rfl, ⟨.inl rfl, ⟨.inl rfl, trivial⟩⟩⟩⟩ ?_
        exact gX10_mend_b85 C _ h
      · replace h := ab_pos hc8 h
        refine ab_iload_n C dX10_mend_64 rfl ?_
        refine ab_i2l C dX10_mend_65  ?_
        refine ab_lconst C dX10_mend_66 (v := 0) rfl ?_
        refine ab_ldc2 C dX10_mend_67 cwX10_127 ?_
        obtain ⟨q9, hq9, h⟩ := ab_bind h
        refine ab_invS1 C dX10_mend_70 mlX10_105 ysX10_within (tX10_within l _ _ _ _ hq9) (Nat.le_of_ble_eq_true rfl) (Nat.le_of_ble_eq_true rfl) rfl (Nat.le_of_ble_eq_true rfl) ?_
        refine ab_if_eq C (tgt := 85) dX10_mend_73 (by decide) (fun hc10 => ?_) (fun hc10 => ?_)
        · replace h := ab_pos hc10 h
          refine ab_weak (lv' := [none, none, none, none]) ⟨.inl rfl, ⟨.inl rfl, ⟨.inl rfl, ⟨.inl rfl, trivial⟩⟩⟩⟩ ?_
          exact gX10_mend_b85 C _ h
        · replace h := ab_neg hc10 h
          refine ab_aload_n C dX10_mend_76 rfl ?_
          refine ab_iconst C dX10_mend_77 (v := 5) rfl ?_
          refine ab_iload_n C dX10_mend_78 rfl ?_
          obtain ⟨q11, hq11, h⟩ := ab_bind h
          refine ab_inv1 C dX10_mend_79 mlX10_123 yvX10_becomes rkM_0 ⟨_, _, rfl⟩ mmM_0 (tX10_becomes l _ _ _ hq11) (Nat.le_of_ble_eq_true rfl) (Nat.le_of_ble_eq_true rfl) rfl (Nat.le_of_ble_eq_true rfl) ?_
          refine ab_goto C (tgt := 86) dX10_mend_82 (by decide) ?_
          refine ab_weak (lv' := [none, none, none, none]) ⟨.inl rfl, ⟨.inl rfl, ⟨.inl rfl, ⟨.inl rfl, trivial⟩⟩⟩⟩ ?_
          exact gX10_mend_b86 C _ _ h
    · replace h := ab_neg hc7 h
      by_cases hc12 : x2 = 2
      · replace h := ab_pos hc12 h
        refine ab_tswIn C (tgt := 87) dX10_mend_1.1 2 (by rw [hc12]; decide) (by decide) (by decide) rfl (by decide) ?_
        refine ab_iload_n C dX10_mend_87 rfl ?_
        refine ab_if_ne C (tgt := 113) dX10_mend_88 (by decide) (fun hc13 => ?_) (fun hc13 => ?_)
        · replace h := ab_neg hc13 h
          refine ab_weak (lv' := [none, none, none, none]) ⟨.inl rfl, ⟨.inl rfl, ⟨.inl rfl, ⟨.inl rfl, trivial⟩⟩⟩⟩ ?_
          exact gX10_mend_b113 C _ h
        · replace h := ab_pos hc13 h
          refine ab_iload_n C dX10_mend_91 rfl ?_
          refine ab_i2l C dX10_mend_92  ?_
          refine ab_lconst C dX10_mend_93 (v := 1) rfl ?_
          refine ab_ldc2 C dX10_mend_94 cwX10_127 ?_
          obtain ⟨q14, hq14, h⟩ := ab_bind h
          refine ab_invS1 C dX10_mend_97 mlX10_105 ysX10_within (tX10_within l _ _ _ _ hq14) (Nat.le_of_ble_eq_true rfl) (Nat.le_of_ble_eq_true rfl) rfl (Nat.le_of_ble_eq_true rfl) ?_
          refine ab_if_eq C (tgt := 113) dX10_mend_100 (by decide) (fun hc15 => ?_) (fun hc15 => ?_)
          · replace h := ab_pos hc15 h
            refine ab_weak (lv' := [none, none, none, none]) ⟨.inl rfl, ⟨.inl rfl, ⟨.inl rfl, ⟨.inl rfl, trivial⟩⟩⟩⟩ ?_
            exact gX10_mend_b113 C _ h
          · replace h := ab_neg hc15 h
            refine ab_aload_n C dX10_mend_103 rfl ?_
            refine ab_bipush C dX10_mend_104 (v := 6) rfl ?_
            refine ab_iload_n C dX10_mend_106 rfl ?_
            obtain ⟨q16, hq16, h⟩ := ab_bind h
            refine ab_inv1 C dX10_mend_107 mlX10_123 yvX10_becomes rkM_0 ⟨_, _, rfl⟩ mmM_0 (tX10_becomes l _ _ _ hq16) (Nat.le_of_ble_eq_true rfl) (Nat.le_of_ble_eq_true rfl) rfl (Nat.le_of_ble_eq_true rfl) ?_
            refine ab_goto C (tgt := 114) dX10_mend_110 (by decide) ?_
            refine ab_weak (lv' := [none, none, none, none]) ⟨.inl rfl, ⟨.inl rfl, ⟨.inl rfl, ⟨.inl rfl, trivial⟩⟩⟩⟩ ?_
            exact gX10_mend_b114 C _ _ h
      · replace h := ab_neg hc12 h
        refine ab_tswOut C (tgt := 115) dX10_mend_1.1 (by have a0 := lv_neT hc1 (a := 0) (by decide); have a1 := lv_neT hc7 (a := 1) (by decide); have a2 := lv_neT hc12 (a := 2) (by decide); omega) (by decide) ?_
        refine ab_iconst C dX10_mend_115 (v := (-1)) rfl ?_
        obtain rfl := Option.some.inj h
        exact ab_iret C dX10_mend_116
end
def fX10_next_b26 (σ : ab_S) : Option (Int64 × ab_S) := some ((-9223372036854775808), σ)
def fX10_next_b133 (t0 : Int64) (σ : ab_S) : Option (Int64 × ab_S) := some (t0, σ)
def fX10_next_b44_o (kk44 : Int32 → Int32 → Int64 → Int64 → Int64 → Int32 → ab_S → Option (Int64 × ab_S)) (v1 : Int32) (v2 : Int32) (v3 : Int64) (v5 : Int64) (v7 : Int64) (v9 : Int32) (σ : ab_S) : Option (Int64 × ab_S) := (if (σ.1 0 0 6) ≤ v9 then (if (lg_cmp v3 0) = 0 then fX10_next_b133 ((-2)) σ else (fX10_partOf v5 v7 v2).bind fun q3 => fX10_next_b133 q3 σ) else (if ab_inb v9 5 = true then (if ab_inb 5 7 = true then (fX10_openNow σ).bind fun q6 => (fX10_actIs (σ.1 1 0 ((5 : Int32).toNatClampNeg)) v9 (σ.1 0 0 8) q6 (σ.1 0 0 9) v1 σ).bind fun q7 => ab_k (v5 + ((σ.2 12 0 v9.toNatClampNeg) * q7.1) : Int64) fun w8 => (if ab_inb v9 5 = true then (fX10_wholeAct ).bind fun q10 => ab_k (v7 + ((q7.2.2 12 0 v9.toNatClampNeg) * q10) : Int64) fun w11 => kk44 v1 v2 v3 w8 w11 (v9 + 1) q7.2 else none) else none) else none))
def fX10_next_b44 : Nat → Int32 → Int32 → Int64 → Int64 → Int64 → Int32 → ab_S → Option (Int64 × ab_S)
  | 0 => fun _ _ _ _ _ _ _ => none
  | n + 1 => fX10_next_b44_o  (fX10_next_b44 n)
def fX10_next (x1 : Int32) (x2 : Int32) (σ : ab_S) : Option (Int64 × ab_S) := (fX10_mayOpen x1 σ).bind fun q1 => (if q1 = 0 then fX10_next_b26 σ else (fX10_within ((x2 : Int32).toInt64) 0 1).bind fun q3 => (if q3 = 0 then fX10_next_b26 σ else (if (σ.1 0 0 9) = 3 then fX10_next_b26 σ else (fX10_comes σ).bind fun q6 => fX10_next_b44 ab_N x1 x2 q6.1 0 0 0 q6.2)))
section
variable {p : Program} {l : Launch} {e : Env} {s : State} {m : MethodId} {args : Array Value} {below : List Frame} {meth : Method} {c : Code} {D : va_G} {cA : Nat → ClassId} {ad : Nat → Nat → Nat}
set_option maxRecDepth 100000 in
set_option maxHeartbeats 4000000 in
theorem gX10_next_b26 {R : (Int64 × ab_S)} (C : ab_C yM p s m args meth c D cA ad cX10_next 10 RX10 (some .long)) (σ : ab_S) (h : fX10_next_b26 σ = some R) : ab_G yM p l e s m args below meth c D cA ad 10 71 (some (.inr (.inl R.1))) R.2 26 [none, none, none, none, none, none, none, none, none, none] [] σ := by
  refine ab_ldc2 C dX10_next_26 cwX10_220 ?_
  obtain rfl := Option.some.inj h
  exact ab_lret C dX10_next_29
set_option maxRecDepth 100000 in
set_option maxHeartbeats 4000000 in
theorem gX10_next_b133 {R : (Int64 × ab_S)} (C : ab_C yM p s m args meth c D cA ad cX10_next 10 RX10 (some .long)) (t0 : Int64) (σ : ab_S) (h : fX10_next_b133 t0 σ = some R) : ab_G yM p l e s m args below meth c D cA ad 10 71 (some (.inr (.inl R.1))) R.2 133 [none, none, none, none, none, none, none, none, none, none] [.inr (.inl t0)] σ := by
  obtain rfl := Option.some.inj h
  exact ab_lret C dX10_next_133
set_option maxRecDepth 100000 in
set_option maxHeartbeats 4000000 in
theorem gX10_next_b44_o {R : (Int64 × ab_S)} (C : ab_C yM p s m args meth c D cA ad cX10_next 10 RX10 (some .long)) {kk44 : Int32 → Int32 → Int64 → Int64 → Int64 → Int32 → ab_S → Option (Int64 × ab_S)} (hk44 : ∀ (v1 : Int32) (v2 : Int32) (v3 : Int64) (v5 : Int64) (v7 : Int64) (v9 : Int32) (σ : ab_S), kk44 v1 v2 v3 v5 v7 v9 σ = some R → ab_G yM p l e s m args below meth c D cA ad 10 71 (some (.inr (.inl R.1))) R.2 44 [some (.inr (.inr (0, 0))), some (.inl v1), some (.inl v2), some (.inr (.inl v3)), none, some (.inr (.inl v5)), none, some (.inr (.inl v7)), none, some (.inl v9)] [] σ) (v1 : Int32) (v2 : Int32) (v3 : Int64) (v5 : Int64) (v7 : Int64) (v9 : Int32) (σ : ab_S) (h : fX10_next_b44_o kk44 v1 v2 v3 v5 v7 v9 σ = some R) : ab_G yM p l e s m args below meth c D cA ad 10 71 (some (.inr (.inl R.1))) R.2 44 [some (.inr (.inr (0, 0))), some (.inl v1), some (.inl v2), some (.inr (.inl v3)), none, some (.inr (.inl v5)), none, some (.inr (.inl v7)), none, some (.inl v9)] [] σ := by
  refine ab_iload C dX10_next_44 rfl ?_
  refine ab_aload_n C dX10_next_46 rfl ?_
  refine ab_getI C dX10_next_47 flX10_86 rkM_0 rfl mmM_0 ?_
  refine ab_icmp_ge C (tgt := 113) dX10_next_50 (by decide) (fun hc1 => ?_) (fun hc1 => ?_)
  · replace h := ab_pos hc1 h
    refine ab_lload_n C dX10_next_113 rfl ?_
    refine ab_lconst C dX10_next_114 (v := 0) rfl ?_
    refine ab_lcmp C dX10_next_115  ?_
    refine ab_if_ne C (tgt := 125) dX10_next_116 (by decide) (fun hc2 => ?_) (fun hc2 => ?_)
    · replace h := ab_neg hc2 h
      refine ab_lload C dX10_next_125 rfl ?_
      refine ab_lload C dX10_next_127 rfl ?_
      refine ab_iload_n C dX10_next_129 rfl ?_
      obtain ⟨q3, hq3, h⟩ := ab_bind h
      refine ab_invS1 C dX10_next_130 mlX10_228 ysX10_partOf (tX10_partOf l _ _ _ _ hq3) (Nat.le_of_ble_eq_true rfl) (Nat.le_of_ble_eq_true rfl) rfl (Nat.le_of_ble_eq_true rfl) ?_
      refine ab_weak (lv' := [none, none, none, none, none, none, none, none, none, none]) ⟨.inl rfl, ⟨.inl rfl, ⟨.inl rfl, ⟨.inl rfl, ⟨.inl rfl, ⟨.inl rfl, ⟨.inl rfl, ⟨.inl rfl, ⟨.inl rfl, ⟨.inl rfl, trivial⟩⟩⟩⟩⟩⟩⟩⟩⟩⟩ ?_
      exact gX10_next_b133 C _ _ h
    · replace h := ab_pos hc2 h
      refine ab_ldc2 C dX10_next_119 cwX10_226 ?_
      refine ab_goto C (tgt := 133) dX10_next_122 (by decide) ?_
      refine ab_weak (lv' := [none, none, none, none, none, none, none, none, none, none]) ⟨.inl rfl, ⟨.inl rfl, ⟨.inl rfl, ⟨.inl rfl, ⟨.inl rfl, ⟨.inl rfl, ⟨.inl rfl, ⟨.inl rfl, ⟨.inl rfl, ⟨.inl rfl, trivial⟩⟩⟩⟩⟩⟩⟩⟩⟩⟩ ?_
      exact gX10_next_b133 C _ _ h
  · replace h := ab_neg hc1 h
    refine ab_lload C dX10_next_53 rfl ?_
    refine ab_aload_n C dX10_next_55 rfl ?_
    refine ab_getR C dX10_next_56 flX10_45 rkM_0 rfl mmM_0 ?_
    refine ab_iload C dX10_next_59 rfl ?_
    obtain ⟨hg4, h⟩ := ab_grd h
    refine ab_lald C dX10_next_61 rkM_12 mmM_12 hg4 ?_
    refine ab_aload_n C dX10_next_62 rfl ?_
    refine ab_aload_n C dX10_next_63 rfl ?_
    refine ab_getR C dX10_next_64 flX10_11 rkM_0 rfl mmM_0 ?_
    refine ab_iconst C dX10_next_67 (v := 5) rfl ?_
    obtain ⟨hg5, h⟩ := ab_grd h
    refine ab_iald C dX10_next_68 rkM_1 mmM_1 hg5 ?_
    refine ab_iload C dX10_next_69 rfl ?_
    refine ab_aload_n C dX10_next_71 rfl ?_
    refine ab_getI C dX10_next_72 flX10_90 rkM_0 rfl mmM_0 ?_
    refine ab_aload_n C dX10_next_75 rfl ?_
    obtain ⟨q6, hq6, h⟩ := ab_bind h
    refine ab_inv1 C dX10_next_76 mlX10_134 yvX10_openNow rkM_0 ⟨_, _, rfl⟩ mmM_0 (tX10_openNow l _ hq6) (Nat.le_of_ble_eq_true rfl) (Nat.le_of_ble_eq_true rfl) rfl (Nat.le_of_ble_eq_true rfl) ?_
    refine ab_aload_n C dX10_next_79 rfl ?_
    refine ab_getI C dX10_next_80 flX10_93 rkM_0 rfl mmM_0 ?_
    refine ab_iload_n C dX10_next_83 rfl ?_
    obtain ⟨q7, hq7, h⟩ := ab_bind h
    refine ab_inv1 C dX10_next_84 mlX10_213 yvX10_actIs rkM_0 ⟨_, _, rfl⟩ mmM_0 (tX10_actIs l _ _ _ _ _ _ _ hq7) (Nat.le_of_ble_eq_true rfl) (Nat.le_of_ble_eq_true rfl) rfl (Nat.le_of_ble_eq_true rfl) ?_
    refine ab_lmul C dX10_next_87  ?_
    refine ab_ladd C dX10_next_88  ?_
    refine ab_nmJ (fun w8 ew8 => ?_)
    replace h := ab_kh ew8 h
    refine ab_lstore C dX10_next_89 (Nat.le_of_ble_eq_true rfl) ?_
    refine ab_lload C dX10_next_91 rfl ?_
    refine ab_aload_n C dX10_next_93 rfl ?_
    refine ab_getR C dX10_next_94 flX10_45 rkM_0 rfl mmM_0 ?_
    refine ab_iload C dX10_next_97 rfl ?_
    obtain ⟨hg9, h⟩ := ab_grd h
    refine ab_lald C dX10_next_99 rkM_12 mmM_12 hg9 ?_
    obtain ⟨q10, hq10, h⟩ := ab_bind h
    refine ab_invS1 C dX10_next_100 mlX10_235 ysX10_wholeAct (tX10_wholeAct l _ hq10) (Nat.le_of_ble_eq_true rfl) (Nat.le_of_ble_eq_true rfl) rfl (Nat.le_of_ble_eq_true rfl) ?_
    refine ab_lmul C dX10_next_103  ?_
    refine ab_ladd C dX10_next_104  ?_
    refine ab_nmJ (fun w11 ew11 => ?_)
    replace h := ab_kh ew11 h
    refine ab_lstore C dX10_next_105 (Nat.le_of_ble_eq_true rfl) ?_
    refine ab_iinc C dX10_next_107 rfl (v := 1) rfl (Nat.le_of_ble_eq_true rfl) ?_
    refine ab_weak (lv' := [some (.inr (.inr (0, 0))), some (.inl v1), some (.inl v2), some (.inr (.inl v3)), none, some (.inr (.inl w8)), none, some (.inr (.inl w11)), none, some (.inl (v9 + 1))]) ⟨.inr rfl, ⟨.inr rfl, ⟨.inr rfl, ⟨.inr rfl, ⟨.inl rfl, ⟨.inr rfl, ⟨.inl rfl, ⟨.inr rfl, ⟨.inl rfl, ⟨.inr rfl, trivial⟩⟩⟩⟩⟩⟩⟩⟩⟩⟩ ?_
    refine ab_goto C (tgt := 44) dX10_next_110 (by decide) ?_
    refine ab_weak (lv' := [some (.inr (.inr (0, 0))), some (.inl v1), some (.inl v2), some (.inr (.inl v3)), none, some (.inr (.inl w8)), none, some (.inr (.inl w11)), none, some (.inl (v9 + 1))]) ⟨.inr rfl, ⟨.inr rfl, ⟨.inr rfl, ⟨.inr rfl, ⟨.inl rfl, ⟨.inr rfl, ⟨.inl rfl, ⟨.inr rfl, ⟨.inl rfl, ⟨.inr rfl, trivial⟩⟩⟩⟩⟩⟩⟩⟩⟩⟩ ?_
    exact hk44 _ _ _ _ _ _ _ h
theorem gX10_next_b44 {R : (Int64 × ab_S)} (C : ab_C yM p s m args meth c D cA ad cX10_next 10 RX10 (some .long)) : ∀ (j : Nat) (v1 : Int32) (v2 : Int32) (v3 : Int64) (v5 : Int64) (v7 : Int64) (v9 : Int32) (σ : ab_S), fX10_next_b44 j v1 v2 v3 v5 v7 v9 σ = some R → ab_G yM p l e s m args below meth c D cA ad 10 71 (some (.inr (.inl R.1))) R.2 44 [some (.inr (.inr (0, 0))), some (.inl v1), some (.inl v2), some (.inr (.inl v3)), none, some (.inr (.inl v5)), none, some (.inr (.inl v7)), none, some (.inl v9)] [] σ := by
  intro j
  induction j with
  | zero => intro v1 v2 v3 v5 v7 v9 σ  h; cases h
  | succ j ih => intro v1 v2 v3 v5 v7 v9 σ  h; exact gX10_next_b44_o C ih _ _ _ _ _ _ _ h
set_option maxRecDepth 100000 in
set_option maxHeartbeats 4000000 in
theorem tX10_next (l : Launch) (x1 : Int32) (x2 : Int32) (σ : ab_S) {R : (Int64 × ab_S)} (h : fX10_next x1 x2 σ = some R) : ab_M l yM yX10_next cX10_next 10 (some .long) 71 [.inr (.inr (0, 0)), .inl x1, .inl x2] σ (some (.inr (.inl R.1))) R.2 := by
  refine ab_M_intro ndM (by decide) (Nat.le_of_ble_eq_true rfl) ?_
  intro p e s m args below meth c D cA ad C
  have C : ab_C yM p s m args meth c D cA ad cX10_next 10 RX10 (some .long) := C
  refine ab_weak (lv' := [some (.inr (.inr (0, 0))), some (.inl x1), some (.inl x2), none, none, none, none, none, none, none]) ⟨.inr rfl, ⟨.inr rfl, ⟨.inr rfl, ⟨.inl rfl, ⟨.inl rfl, ⟨.inl rfl, ⟨.inl rfl, ⟨.inl rfl, ⟨.inl rfl, ⟨.inl rfl, trivial⟩⟩⟩⟩⟩⟩⟩⟩⟩⟩ ?_
  refine ab_aload_n C dX10_next_0 rfl ?_
  refine ab_iload_n C dX10_next_1 rfl ?_
  obtain ⟨q1, hq1, h⟩ := ab_bind h
  refine ab_inv1 C dX10_next_2 mlX10_217 yvX10_mayOpen rkM_0 ⟨_, _, rfl⟩ mmM_0 (tX10_mayOpen l _ _ hq1) (Nat.le_of_ble_eq_true rfl) (Nat.le_of_ble_eq_true rfl) rfl (Nat.le_of_ble_eq_true rfl) ?_
  refine ab_if_eq C (tgt := 26) dX10_next_5 (by decide) (fun hc2 => ?_) (fun hc2 => ?_)
  · replace h := ab_pos hc2 h
    refine ab_weak (lv' := [none, none, none, none, none, none, none, none, none, none]) ⟨.inl rfl, ⟨.inl rfl, ⟨.inl rfl, ⟨.inl rfl, ⟨.inl rfl, ⟨.inl rfl, ⟨.inl rfl, ⟨.inl rfl, ⟨.inl rfl, ⟨.inl rfl, trivial⟩⟩⟩⟩⟩⟩⟩⟩⟩⟩ ?_
    exact gX10_next_b26 C _ h
  · replace h := ab_neg hc2 h
    refine ab_iload_n C dX10_next_8 rfl ?_
    refine ab_i2l C dX10_next_9  ?_
    refine ab_lconst C dX10_next_10 (v := 0) rfl ?_
    refine ab_lconst C dX10_next_11 (v := 1) rfl ?_
    obtain ⟨q3, hq3, h⟩ := ab_bind h
    refine ab_invS1 C dX10_next_12 mlX10_105 ysX10_within (tX10_within l _ _ _ _ hq3) (Nat.le_of_ble_eq_true rfl) (Nat.le_of_ble_eq_true rfl) rfl (Nat.le_of_ble_eq_true rfl) ?_
    refine ab_if_eq C (tgt := 26) dX10_next_15 (by decide) (fun hc4 => ?_) (fun hc4 => ?_)
    · replace h := ab_pos hc4 h
      refine ab_weak (lv' := [none, none, none, none, none, none, none, none, none, none]) ⟨.inl rfl, ⟨.inl rfl, ⟨.inl rfl, ⟨.inl rfl, ⟨.inl rfl, ⟨.inl rfl, ⟨.inl rfl, ⟨.inl rfl, ⟨.inl rfl, ⟨.inl rfl, trivial⟩⟩⟩⟩⟩⟩⟩⟩⟩⟩ ?_
      exact gX10_next_b26 C _ h
    · replace h := ab_neg hc4 h
      refine ab_aload_n C dX10_next_18 rfl ?_
      refine ab_getI C dX10_next_19 flX10_93 rkM_0 rfl mmM_0 ?_
      refine ab_iconst C dX10_next_22 (v := 3) rfl ?_
      refine ab_icmp_ne C (tgt := 30) dX10_next_23 (by decide) (fun hc5 => ?_) (fun hc5 => ?_)
      · replace h := ab_neg hc5 h
        refine ab_aload_n C dX10_next_30 rfl ?_
        obtain ⟨q6, hq6, h⟩ := ab_bind h
        refine ab_inv1 C dX10_next_31 mlX10_222 yvX10_comes rkM_0 ⟨_, _, rfl⟩ mmM_0 (tX10_comes l _ hq6) (Nat.le_of_ble_eq_true rfl) (Nat.le_of_ble_eq_true rfl) rfl (Nat.le_of_ble_eq_true rfl) ?_
        refine ab_lstore_n C dX10_next_34 (Nat.le_of_ble_eq_true rfl) ?_
        refine ab_lconst C dX10_next_35 (v := 0) rfl ?_
        refine ab_lstore C dX10_next_36 (Nat.le_of_ble_eq_true rfl) ?_
        refine ab_lconst C dX10_next_38 (v := 0) rfl ?_
        refine ab_lstore C dX10_next_39 (Nat.le_of_ble_eq_true rfl) ?_
        refine ab_weak (lv' := [some (.inr (.inr (0, 0))), some (.inl x1), some (.inl x2), some (.inr (.inl q6.1)), none, some (.inr (.inl 0)), none, some (.inr (.inl 0)), none, none]) ⟨.inr rfl, ⟨.inr rfl, ⟨.inr rfl, ⟨.inr rfl, ⟨.inl rfl, ⟨.inr rfl, ⟨.inl rfl, ⟨.inr rfl, ⟨.inl rfl, ⟨.inl rfl, trivial⟩⟩⟩⟩⟩⟩⟩⟩⟩⟩ ?_
        refine ab_iconst C dX10_next_41 (v := 0) rfl ?_
        refine ab_istore C dX10_next_42 (Nat.le_of_ble_eq_true rfl) ?_
        refine ab_weak (lv' := [some (.inr (.inr (0, 0))), some (.inl x1), some (.inl x2), some (.inr (.inl q6.1)), none, some (.inr (.inl 0)), none, some (.inr (.inl 0)), none, some (.inl 0)]) ⟨.inr rfl, ⟨.inr rfl, ⟨.inr rfl, ⟨.inr rfl, ⟨.inl rfl, ⟨.inr rfl, ⟨.inl rfl, ⟨.inr rfl, ⟨.inl rfl, ⟨.inr rfl, trivial⟩⟩⟩⟩⟩⟩⟩⟩⟩⟩ ?_
        exact gX10_next_b44 C ab_N _ _ _ _ _ _ _ h
      · replace h := ab_pos hc5 h
        refine ab_weak (lv' := [none, none, none, none, none, none, none, none, none, none]) ⟨.inl rfl, ⟨.inl rfl, ⟨.inl rfl, ⟨.inl rfl, ⟨.inl rfl, ⟨.inl rfl, ⟨.inl rfl, ⟨.inl rfl, ⟨.inl rfl, ⟨.inl rfl, trivial⟩⟩⟩⟩⟩⟩⟩⟩⟩⟩ ?_
        exact gX10_next_b26 C _ h
end
def fX10_ofAll_b32 (v1 : Int32) (σ : ab_S) : Option Int32 := (if ab_inb ((5 + v1) - 20) 7 = true then some (σ.1 1 0 (((5 + v1) - 20).toNatClampNeg)) else none)
def fX10_ofAll (x1 : Int32) (σ : ab_S) : Option Int32 := (if x1 = 20 then fX10_ofAll_b32 x1 σ else (if x1 = 21 then fX10_ofAll_b32 x1 σ else (if x1 = 22 then some (σ.1 0 0 8) else (if x1 = 23 then some (σ.1 0 0 6) else some ((-2000000000))))))
section
variable {p : Program} {l : Launch} {e : Env} {s : State} {m : MethodId} {args : Array Value} {below : List Frame} {meth : Method} {c : Code} {D : va_G} {cA : Nat → ClassId} {ad : Nat → Nat → Nat}
set_option maxRecDepth 100000 in
set_option maxHeartbeats 4000000 in
theorem gX10_ofAll_b32 {R : Int32} (C : ab_C yM p s m args meth c D cA ad cX10_ofAll 2 RX10 (some .int)) (σ : ab_S) (v1 : Int32) (h : fX10_ofAll_b32 v1 σ = some R) : ab_G yM p l e s m args below meth c D cA ad 2 0 (some (.inl R)) σ 32 [some (.inr (.inr (0, 0))), some (.inl v1)] [] σ := by
  refine ab_aload_n C dX10_ofAll_32 rfl ?_
  refine ab_getR C dX10_ofAll_33 flX10_11 rkM_0 rfl mmM_0 ?_
  refine ab_iconst C dX10_ofAll_36 (v := 5) rfl ?_
  refine ab_iload_n C dX10_ofAll_37 rfl ?_
  refine ab_iadd C dX10_ofAll_38  ?_
  refine ab_bipush C dX10_ofAll_39 (v := 20) rfl ?_
  refine ab_isub C dX10_ofAll_41  ?_
  obtain ⟨hg1, h⟩ := ab_grd h
  refine ab_iald C dX10_ofAll_42 rkM_1 mmM_1 hg1 ?_
  obtain rfl := Option.some.inj h
  exact ab_iret C dX10_ofAll_43
set_option maxRecDepth 100000 in
set_option maxHeartbeats 4000000 in
theorem tX10_ofAll (l : Launch) (x1 : Int32) (σ : ab_S) {R : Int32} (h : fX10_ofAll x1 σ = some R) : ab_M l yM yX10_ofAll cX10_ofAll 2 (some .int) 0 [.inr (.inr (0, 0)), .inl x1] σ (some (.inl R)) σ := by
  refine ab_M_intro ndM (by decide) (Nat.le_of_ble_eq_true rfl) ?_
  intro p e s m args below meth c D cA ad C
  have C : ab_C yM p s m args meth c D cA ad cX10_ofAll 2 RX10 (some .int) := C
  refine ab_weak (lv' := [some (.inr (.inr (0, 0))), some (.inl x1)]) ⟨.inr rfl, ⟨.inr rfl, trivial⟩⟩ ?_
  refine ab_iload_n C dX10_ofAll_0 rfl ?_
  by_cases hc1 : x1 = 20
  · replace h := ab_pos hc1 h
    refine ab_tswIn C (tgt := 32) dX10_ofAll_1.1 20 (by rw [hc1]; decide) (by decide) (by decide) rfl (by decide) ?_
    refine ab_weak (lv' := [some (.inr (.inr (0, 0))), some (.inl x1)]) ⟨.inr rfl, ⟨.inr rfl, trivial⟩⟩ ?_
    exact gX10_ofAll_b32 C _ _ h
  · replace h := ab_neg hc1 h
    by_cases hc2 : x1 = 21
    · replace h := ab_pos hc2 h
      refine ab_tswIn C (tgt := 32) dX10_ofAll_1.1 21 (by rw [hc2]; decide) (by decide) (by decide) rfl (by decide) ?_
      refine ab_weak (lv' := [some (.inr (.inr (0, 0))), some (.inl x1)]) ⟨.inr rfl, ⟨.inr rfl, trivial⟩⟩ ?_
      exact gX10_ofAll_b32 C _ _ h
    · replace h := ab_neg hc2 h
      by_cases hc3 : x1 = 22
      · replace h := ab_pos hc3 h
        refine ab_tswIn C (tgt := 44) dX10_ofAll_1.1 22 (by rw [hc3]; decide) (by decide) (by decide) rfl (by decide) ?_
        refine ab_aload_n C dX10_ofAll_44 rfl ?_
        refine ab_getI C dX10_ofAll_45 flX10_90 rkM_0 rfl mmM_0 ?_
        obtain rfl := Option.some.inj h
        exact ab_iret C dX10_ofAll_48
      · replace h := ab_neg hc3 h
        by_cases hc4 : x1 = 23
        · replace h := ab_pos hc4 h
          refine ab_tswIn C (tgt := 49) dX10_ofAll_1.1 23 (by rw [hc4]; decide) (by decide) (by decide) rfl (by decide) ?_
          refine ab_aload_n C dX10_ofAll_49 rfl ?_
          refine ab_getI C dX10_ofAll_50 flX10_86 rkM_0 rfl mmM_0 ?_
          obtain rfl := Option.some.inj h
          exact ab_iret C dX10_ofAll_53
        · replace h := ab_neg hc4 h
          refine ab_tswOut C (tgt := 54) dX10_ofAll_1.1 (by have a0 := lv_neT hc1 (a := 20) (by decide); have a1 := lv_neT hc2 (a := 21) (by decide); have a2 := lv_neT hc3 (a := 22) (by decide); have a3 := lv_neT hc4 (a := 23) (by decide); omega) (by decide) ?_
          refine ab_ldc C dX10_ofAll_54 cwX10_133 ?_
          obtain rfl := Option.some.inj h
          exact ab_iret C dX10_ofAll_56
end
def fX10_of_b141 (t0 : Int32) (σ : ab_S) : Option Int32 := some t0
def fX10_of_b126 (t0 : Int32) (σ : ab_S) : Option Int32 := some t0
def fX10_of_b69 (t0 : Int32) (σ : ab_S) : Option Int32 := some t0
def fX10_of (x1 : Int32) (x2 : Int32) (σ : ab_S) : Option Int32 := (fX10_within ((x2 : Int32).toInt64) 0 2).bind fun q1 => (if q1 = 0 then (fX10_within ((x2 : Int32).toInt64) 10 11).bind fun q3 => (if q3 = 0 then (if x1 = 0 then (fX10_ofAll x2 σ).bind fun q6 => fX10_of_b141 q6 σ else fX10_of_b141 ((-2000000000)) σ) else (fX10_within ((x1 : Int32).toInt64) 0 (((σ.1 0 0 9) - 1 : Int32).toInt64)).bind fun q7 => (if q7 = 0 then fX10_of_b126 ((-2000000000)) σ else (if x2 = 10 then (if ab_inb x1 3 = true then fX10_of_b126 (σ.1 5 0 x1.toNatClampNeg) σ else none) else (if ab_inb x1 3 = true then fX10_of_b126 (σ.1 6 0 x1.toNatClampNeg) σ else none)))) else (fX10_isDoor ((x1 : Int32).toInt64) σ).bind fun q12 => (if q12 = 0 then fX10_of_b69 ((-2000000000)) σ else (if x2 = 0 then (if ab_inb x1 7 = true then fX10_of_b69 (σ.1 1 0 x1.toNatClampNeg) σ else none) else (if x2 = 1 then (fX10_openNow σ).bind fun q17 => (fX10_isIn q17 x1).bind fun q18 => (if q18 = 0 then fX10_of_b69 0 σ else fX10_of_b69 1 σ) else (if ab_inb x1 5 = true then fX10_of_b69 (σ.1 7 0 x1.toNatClampNeg) σ else none)))))
section
variable {p : Program} {l : Launch} {e : Env} {s : State} {m : MethodId} {args : Array Value} {below : List Frame} {meth : Method} {c : Code} {D : va_G} {cA : Nat → ClassId} {ad : Nat → Nat → Nat}
set_option maxRecDepth 100000 in
set_option maxHeartbeats 4000000 in
theorem gX10_of_b141 {R : Int32} (C : ab_C yM p s m args meth c D cA ad cX10_of 3 RX10 (some .int)) (σ : ab_S) (t0 : Int32) (h : fX10_of_b141 t0 σ = some R) : ab_G yM p l e s m args below meth c D cA ad 3 2 (some (.inl R)) σ 141 [none, none, none] [.inl t0] σ := by
  obtain rfl := Option.some.inj h
  exact ab_iret C dX10_of_141
set_option maxRecDepth 100000 in
set_option maxHeartbeats 4000000 in
theorem gX10_of_b126 {R : Int32} (C : ab_C yM p s m args meth c D cA ad cX10_of 3 RX10 (some .int)) (σ : ab_S) (t0 : Int32) (h : fX10_of_b126 t0 σ = some R) : ab_G yM p l e s m args below meth c D cA ad 3 2 (some (.inl R)) σ 126 [none, none, none] [.inl t0] σ := by
  obtain rfl := Option.some.inj h
  exact ab_iret C dX10_of_126
set_option maxRecDepth 100000 in
set_option maxHeartbeats 4000000 in
theorem gX10_of_b69 {R : Int32} (C : ab_C yM p s m args meth c D cA ad cX10_of 3 RX10 (some .int)) (σ : ab_S) (t0 : Int32) (h : fX10_of_b69 t0 σ = some R) : ab_G yM p l e s m args below meth c D cA ad 3 2 (some (.inl R)) σ 69 [none, none, none] [.inl t0] σ := by
  obtain rfl := Option.some.inj h
  exact ab_iret C dX10_of_69
set_option maxRecDepth 100000 in
set_option maxHeartbeats 4000000 in
theorem tX10_of (l : Launch) (x1 : Int32) (x2 : Int32) (σ : ab_S) {R : Int32} (h : fX10_of x1 x2 σ = some R) : ab_M l yM yX10_of cX10_of 3 (some .int) 2 [.inr (.inr (0, 0)), .inl x1, .inl x2] σ (some (.inl R)) σ := by
  refine ab_M_intro ndM (by decide) (Nat.le_of_ble_eq_true rfl) ?_
  intro p e s m args below meth c D cA ad C
  have C : ab_C yM p s m args meth c D cA ad cX10_of 3 RX10 (some .int) := C
  refine ab_weak (lv' := [some (.inr (.inr (0, 0))), some (.inl x1), some (.inl x2)]) ⟨.inr rfl, ⟨.inr rfl, ⟨.inr rfl, trivial⟩⟩⟩ ?_
  refine ab_iload_n C dX10_of_0 rfl ?_
  refine ab_i2l C dX10_of_1  ?_
  refine ab_lconst C dX10_of_2 (v := 0) rfl ?_
  refine ab_ldc2 C dX10_of_3 cwX10_109 ?_
  obtain ⟨q1, hq1, h⟩ := ab_bind h
  refine ab_invS1 C dX10_of_6 mlX10_105 ysX10_within (tX10_within l _ _ _ _ hq1) (Nat.le_of_ble_eq_true rfl) (Nat.le_of_ble_eq_true rfl) rfl (Nat.le_of_ble_eq_true rfl) ?_
  refine ab_if_eq C (tgt := 70) dX10_of_9 (by decide) (fun hc2 => ?_) (fun hc2 => ?_)
  · replace h := ab_pos hc2 h
    refine ab_iload_n C dX10_of_70 rfl ?_
    refine ab_i2l C dX10_of_71  ?_
    refine ab_ldc2 C dX10_of_72 cwX10_142 ?_
    refine ab_ldc2 C dX10_of_75 cwX10_144 ?_
    obtain ⟨q3, hq3, h⟩ := ab_bind h
    refine ab_invS1 C dX10_of_78 mlX10_105 ysX10_within (tX10_within l _ _ _ _ hq3) (Nat.le_of_ble_eq_true rfl) (Nat.le_of_ble_eq_true rfl) rfl (Nat.le_of_ble_eq_true rfl) ?_
    refine ab_if_eq C (tgt := 127) dX10_of_81 (by decide) (fun hc4 => ?_) (fun hc4 => ?_)
    · replace h := ab_pos hc4 h
      refine ab_iload_n C dX10_of_127 rfl ?_
      refine ab_if_ne C (tgt := 139) dX10_of_128 (by decide) (fun hc5 => ?_) (fun hc5 => ?_)
      · replace h := ab_neg hc5 h
        refine ab_ldc C dX10_of_139 cwX10_133 ?_
        refine ab_weak (lv' := [none, none, none]) ⟨.inl rfl, ⟨.inl rfl, ⟨.inl rfl, trivial⟩⟩⟩ ?_
        exact gX10_of_b141 C _ _ h
      · replace h := ab_pos hc5 h
        refine ab_aload_n C dX10_of_131 rfl ?_
        refine ab_iload_n C dX10_of_132 rfl ?_
        obtain ⟨q6, hq6, h⟩ := ab_bind h
        refine ab_inv1 C dX10_of_133 mlX10_146 yvX10_ofAll rkM_0 ⟨_, _, rfl⟩ mmM_0 (tX10_ofAll l _ _ hq6) (Nat.le_of_ble_eq_true rfl) (Nat.le_of_ble_eq_true rfl) rfl (Nat.le_of_ble_eq_true rfl) ?_
        refine ab_goto C (tgt := 141) dX10_of_136 (by decide) ?_
        refine ab_weak (lv' := [none, none, none]) ⟨.inl rfl, ⟨.inl rfl, ⟨.inl rfl, trivial⟩⟩⟩ ?_
        exact gX10_of_b141 C _ _ h
    · replace h := ab_neg hc4 h
      refine ab_iload_n C dX10_of_84 rfl ?_
      refine ab_i2l C dX10_of_85  ?_
      refine ab_lconst C dX10_of_86 (v := 0) rfl ?_
      refine ab_aload_n C dX10_of_87 rfl ?_
      refine ab_getI C dX10_of_88 flX10_93 rkM_0 rfl mmM_0 ?_
      refine ab_iconst C dX10_of_91 (v := 1) rfl ?_
      refine ab_isub C dX10_of_92  ?_
      refine ab_i2l C dX10_of_93  ?_
      obtain ⟨q7, hq7, h⟩ := ab_bind h
      refine ab_invS1 C dX10_of_94 mlX10_105 ysX10_within (tX10_within l _ _ _ _ hq7) (Nat.le_of_ble_eq_true rfl) (Nat.le_of_ble_eq_true rfl) rfl (Nat.le_of_ble_eq_true rfl) ?_
      refine ab_if_ne C (tgt := 105) dX10_of_97 (by decide) (fun hc8 => ?_) (fun hc8 => ?_)
      · replace h := ab_neg hc8 h
        refine ab_iload_n C dX10_of_105 rfl ?_
        refine ab_bipush C dX10_of_106 (v := 10) rfl ?_
        refine ab_icmp_ne C (tgt := 120) dX10_of_108 (by decide) (fun hc9 => ?_) (fun hc9 => ?_)
        · replace h := ab_neg hc9 h
          refine ab_aload_n C dX10_of_120 rfl ?_
          refine ab_getR C dX10_of_121 flX10_27 rkM_0 rfl mmM_0 ?_
          refine ab_iload_n C dX10_of_124 rfl ?_
          obtain ⟨hg10, h⟩ := ab_grd h
          refine ab_iald C dX10_of_125 rkM_6 mmM_6 hg10 ?_
          refine ab_weak (lv' := [none, none, none]) ⟨.inl rfl, ⟨.inl rfl, ⟨.inl rfl, trivial⟩⟩⟩ ?_
          exact gX10_of_b126 C _ _ h
        · replace h := ab_pos hc9 h
          refine ab_aload_n C dX10_of_111 rfl ?_
          refine ab_getR C dX10_of_112 flX10_24 rkM_0 rfl mmM_0 ?_
          refine ab_iload_n C dX10_of_115 rfl ?_
          obtain ⟨hg11, h⟩ := ab_grd h
          refine ab_iald C dX10_of_116 rkM_5 mmM_5 hg11 ?_
          refine ab_goto C (tgt := 126) dX10_of_117 (by decide) ?_
          refine ab_weak (lv' := [none, none, none]) ⟨.inl rfl, ⟨.inl rfl, ⟨.inl rfl, trivial⟩⟩⟩ ?_
          exact gX10_of_b126 C _ _ h
      · replace h := ab_pos hc8 h
        refine ab_ldc C dX10_of_100 cwX10_133 ?_
        refine ab_goto C (tgt := 126) dX10_of_102 (by decide) ?_
        refine ab_weak (lv' := [none, none, none]) ⟨.inl rfl, ⟨.inl rfl, ⟨.inl rfl, trivial⟩⟩⟩ ?_
        exact gX10_of_b126 C _ _ h
  · replace h := ab_neg hc2 h
    refine ab_aload_n C dX10_of_12 rfl ?_
    refine ab_iload_n C dX10_of_13 rfl ?_
    refine ab_i2l C dX10_of_14  ?_
    obtain ⟨q12, hq12, h⟩ := ab_bind h
    refine ab_inv1 C dX10_of_15 mlX10_117 yvX10_isDoor rkM_0 ⟨_, _, rfl⟩ mmM_0 (tX10_isDoor l _ _ hq12) (Nat.le_of_ble_eq_true rfl) (Nat.le_of_ble_eq_true rfl) rfl (Nat.le_of_ble_eq_true rfl) ?_
    refine ab_if_ne C (tgt := 26) dX10_of_18 (by decide) (fun hc13 => ?_) (fun hc13 => ?_)
    · replace h := ab_neg hc13 h
      refine ab_iload_n C dX10_of_26 rfl ?_
      refine ab_if_ne C (tgt := 39) dX10_of_27 (by decide) (fun hc14 => ?_) (fun hc14 => ?_)
      · replace h := ab_neg hc14 h
        refine ab_iload_n C dX10_of_39 rfl ?_
        refine ab_iconst C dX10_of_40 (v := 1) rfl ?_
        refine ab_icmp_ne C (tgt := 63) dX10_of_41 (by decide) (fun hc15 => ?_) (fun hc15 => ?_)
        · replace h := ab_neg hc15 h
          refine ab_aload_n C dX10_of_63 rfl ?_
          refine ab_getR C dX10_of_64 flX10_30 rkM_0 rfl mmM_0 ?_
          refine ab_iload_n C dX10_of_67 rfl ?_
          obtain ⟨hg16, h⟩ := ab_grd h
          refine ab_iald C dX10_of_68 rkM_7 mmM_7 hg16 ?_
          refine ab_weak (lv' := [none, none, none]) ⟨.inl rfl, ⟨.inl rfl, ⟨.inl rfl, trivial⟩⟩⟩ ?_
          exact gX10_of_b69 C _ _ h
        · replace h := ab_pos hc15 h
          refine ab_aload_n C dX10_of_44 rfl ?_
          obtain ⟨q17, hq17, h⟩ := ab_bind h
          refine ab_inv1 C dX10_of_45 mlX10_134 yvX10_openNow rkM_0 ⟨_, _, rfl⟩ mmM_0 (tX10_openNow l _ hq17) (Nat.le_of_ble_eq_true rfl) (Nat.le_of_ble_eq_true rfl) rfl (Nat.le_of_ble_eq_true rfl) ?_
          refine ab_iload_n C dX10_of_48 rfl ?_
          obtain ⟨q18, hq18, h⟩ := ab_bind h
          refine ab_invS1 C dX10_of_49 mlX10_138 ysX10_isIn (tX10_isIn l _ _ _ hq18) (Nat.le_of_ble_eq_true rfl) (Nat.le_of_ble_eq_true rfl) rfl (Nat.le_of_ble_eq_true rfl) ?_
          refine ab_if_eq C (tgt := 59) dX10_of_52 (by decide) (fun hc19 => ?_) (fun hc19 => ?_)
          · replace h := ab_pos hc19 h
            refine ab_iconst C dX10_of_59 (v := 0) rfl ?_
            refine ab_goto C (tgt := 69) dX10_of_60 (by decide) ?_
            refine ab_weak (lv' := [none, none, none]) ⟨.inl rfl, ⟨.inl rfl, ⟨.inl rfl, trivial⟩⟩⟩ ?_
            exact gX10_of_b69 C _ _ h
          · replace h := ab_neg hc19 h
            refine ab_iconst C dX10_of_55 (v := 1) rfl ?_
            refine ab_goto C (tgt := 69) dX10_of_56 (by decide) ?_
            refine ab_weak (lv' := [none, none, none]) ⟨.inl rfl, ⟨.inl rfl, ⟨.inl rfl, trivial⟩⟩⟩ ?_
            exact gX10_of_b69 C _ _ h
      · replace h := ab_pos hc14 h
        refine ab_aload_n C dX10_of_30 rfl ?_
        refine ab_getR C dX10_of_31 flX10_11 rkM_0 rfl mmM_0 ?_
        refine ab_iload_n C dX10_of_34 rfl ?_
        obtain ⟨hg20, h⟩ := ab_grd h
        refine ab_iald C dX10_of_35 rkM_1 mmM_1 hg20 ?_
        refine ab_goto C (tgt := 69) dX10_of_36 (by decide) ?_
        refine ab_weak (lv' := [none, none, none]) ⟨.inl rfl, ⟨.inl rfl, ⟨.inl rfl, trivial⟩⟩⟩ ?_
        exact gX10_of_b69 C _ _ h
    · replace h := ab_pos hc13 h
      refine ab_ldc C dX10_of_21 cwX10_133 ?_
      refine ab_goto C (tgt := 69) dX10_of_23 (by decide) ?_
      refine ab_weak (lv' := [none, none, none]) ⟨.inl rfl, ⟨.inl rfl, ⟨.inl rfl, trivial⟩⟩⟩ ?_
      exact gX10_of_b69 C _ _ h
end
def fX10_opened (x1 : Int32) (σ : ab_S) : Option (Int32 × ab_S) := (fX10_mayOpen x1 σ).bind fun q1 => (if q1 = 0 then some ((-1), σ) else (if (σ.1 0 0 9) = 3 then some ((-3), σ) else (if ab_inb (σ.1 0 0 9) 3 = true then ab_k (ab_si σ 5 0 ((σ.1 0 0 9).toNatClampNeg) x1) fun σ5 => (if ab_inb (σ5.1 0 0 9) 3 = true then ab_k (ab_si σ5 6 0 ((σ5.1 0 0 9).toNatClampNeg) (σ5.1 0 0 8)) fun σ7 => ab_k (ab_si σ7 0 0 9 ((σ7.1 0 0 9) + 1)) fun σ8 => some (σ8.1 0 0 9, σ8) else none) else none)))
section
variable {p : Program} {l : Launch} {e : Env} {s : State} {m : MethodId} {args : Array Value} {below : List Frame} {meth : Method} {c : Code} {D : va_G} {cA : Nat → ClassId} {ad : Nat → Nat → Nat}
set_option maxRecDepth 100000 in
set_option maxHeartbeats 4000000 in
theorem tX10_opened (l : Launch) (x1 : Int32) (σ : ab_S) {R : (Int32 × ab_S)} (h : fX10_opened x1 σ = some R) : ab_M l yM yX10_opened cX10_opened 2 (some .int) 3 [.inr (.inr (0, 0)), .inl x1] σ (some (.inl R.1)) R.2 := by
  refine ab_M_intro ndM (by decide) (Nat.le_of_ble_eq_true rfl) ?_
  intro p e s m args below meth c D cA ad C
  have C : ab_C yM p s m args meth c D cA ad cX10_opened 2 RX10 (some .int) := C
  refine ab_weak (lv' := [some (.inr (.inr (0, 0))), some (.inl x1)]) ⟨.inr rfl, ⟨.inr rfl, trivial⟩⟩ ?_
  refine ab_aload_n C dX10_opened_0 rfl ?_
  refine ab_iload_n C dX10_opened_1 rfl ?_
  obtain ⟨q1, hq1, h⟩ := ab_bind h
  refine ab_inv1 C dX10_opened_2 mlX10_217 yvX10_mayOpen rkM_0 ⟨_, _, rfl⟩ mmM_0 (tX10_mayOpen l _ _ hq1) (Nat.le_of_ble_eq_true rfl) (Nat.le_of_ble_eq_true rfl) rfl (Nat.le_of_ble_eq_true rfl) ?_
  refine ab_if_ne C (tgt := 10) dX10_opened_5 (by decide) (fun hc2 => ?_) (fun hc2 => ?_)
  · replace h := ab_neg hc2 h
    refine ab_aload_n C dX10_opened_10 rfl ?_
    refine ab_getI C dX10_opened_11 flX10_93 rkM_0 rfl mmM_0 ?_
    refine ab_iconst C dX10_opened_14 (v := 3) rfl ?_
    refine ab_icmp_ne C (tgt := 21) dX10_opened_15 (by decide) (fun hc3 => ?_) (fun hc3 => ?_)
    · replace h := ab_neg hc3 h
      refine ab_aload_n C dX10_opened_21 rfl ?_
      refine ab_getR C dX10_opened_22 flX10_24 rkM_0 rfl mmM_0 ?_
      refine ab_aload_n C dX10_opened_25 rfl ?_
      refine ab_getI C dX10_opened_26 flX10_93 rkM_0 rfl mmM_0 ?_
      refine ab_iload_n C dX10_opened_29 rfl ?_
      obtain ⟨hg4, h⟩ := ab_grd h
      refine ab_iast C dX10_opened_30 rkM_5 mmM_5 hg4 ?_
      refine ab_nmS (fun σ5 eσ5 => ?_)
      replace h := ab_kh eσ5 h
      refine ab_aload_n C dX10_opened_31 rfl ?_
      refine ab_getR C dX10_opened_32 flX10_27 rkM_0 rfl mmM_0 ?_
      refine ab_aload_n C dX10_opened_35 rfl ?_
      refine ab_getI C dX10_opened_36 flX10_93 rkM_0 rfl mmM_0 ?_
      refine ab_aload_n C dX10_opened_39 rfl ?_
      refine ab_getI C dX10_opened_40 flX10_90 rkM_0 rfl mmM_0 ?_
      obtain ⟨hg6, h⟩ := ab_grd h
      refine ab_iast C dX10_opened_43 rkM_6 mmM_6 hg6 ?_
      refine ab_nmS (fun σ7 eσ7 => ?_)
      replace h := ab_kh eσ7 h
      refine ab_aload_n C dX10_opened_44 rfl ?_
      refine ab_dup C dX10_opened_45 rfl ?_
      refine ab_getI C dX10_opened_46 flX10_93 rkM_0 rfl mmM_0 ?_
      refine ab_iconst C dX10_opened_49 (v := 1) rfl ?_
      refine ab_iadd C dX10_opened_50  ?_
      refine ab_putI C dX10_opened_51 fpX10_93 rkM_0 rfl mmM_0 rfl rfl ?_
      refine ab_nmS (fun σ8 eσ8 => ?_)
      replace h := ab_kh eσ8 h
      refine ab_aload_n C dX10_opened_54 rfl ?_
      refine ab_getI C dX10_opened_55 flX10_93 rkM_0 rfl mmM_0 ?_
      obtain rfl := Option.some.inj h
      exact ab_iret C dX10_opened_58
    · replace h := ab_pos hc3 h
      refine ab_bipush C dX10_opened_18 (v := (-3)) rfl ?_
      obtain rfl := Option.some.inj h
      exact ab_iret C dX10_opened_20
  · replace h := ab_pos hc2 h
    refine ab_iconst C dX10_opened_8 (v := (-1)) rfl ?_
    obtain rfl := Option.some.inj h
    exact ab_iret C dX10_opened_9
end
def fX10_opens_b28 (σ : ab_S) : Option (Int32 × ab_S) := some ((-1), σ)
def fX10_opens_b90 (t0 : Int32) (σ : ab_S) : Option (Int32 × ab_S) := some (t0, σ)
def fX10_opens_b55 (σ : ab_S) : Option (Int32 × ab_S) := fX10_opens_b90 ((-5)) σ
def fX10_opens (x1 : Int32) (σ : ab_S) : Option (Int32 × ab_S) := (if x1 < 0 then fX10_opens_b28 σ else (fX10_isDoor ((x1 / 10 : Int32).toInt64) σ).bind fun q2 => (if q2 = 0 then fX10_opens_b28 σ else (fX10_isDoor ((ab_mod x1 10 : Int32).toInt64) σ).bind fun q4 => (if q4 = 0 then fX10_opens_b28 σ else (if (x1 / 10) = (σ.1 0 0 8) then fX10_opens_b55 σ else (fX10_openNow σ).bind fun q7 => (fX10_isIn q7 (x1 / 10)).bind fun q8 => (if q8 = 0 then (if ab_inb 5 7 = true then (fX10_openNow σ).bind fun q11 => (fX10_gives (σ.1 1 0 ((5 : Int32).toNatClampNeg)) (x1 / 10) (ab_mod x1 10) (σ.1 0 0 8) q11 (σ.1 0 0 9) σ).bind fun q12 => fX10_opens_b90 q12.1 q12.2 else none) else fX10_opens_b55 σ)))))
section
variable {p : Program} {l : Launch} {e : Env} {s : State} {m : MethodId} {args : Array Value} {below : List Frame} {meth : Method} {c : Code} {D : va_G} {cA : Nat → ClassId} {ad : Nat → Nat → Nat}
set_option maxRecDepth 100000 in
set_option maxHeartbeats 4000000 in
theorem gX10_opens_b28 {R : (Int32 × ab_S)} (C : ab_C yM p s m args meth c D cA ad cX10_opens 2 RX10 (some .int)) (σ : ab_S) (h : fX10_opens_b28 σ = some R) : ab_G yM p l e s m args below meth c D cA ad 2 69 (some (.inl R.1)) R.2 28 [none, none] [] σ := by
  refine ab_iconst C dX10_opens_28 (v := (-1)) rfl ?_
  obtain rfl := Option.some.inj h
  exact ab_iret C dX10_opens_29
set_option maxRecDepth 100000 in
set_option maxHeartbeats 4000000 in
theorem gX10_opens_b90 {R : (Int32 × ab_S)} (C : ab_C yM p s m args meth c D cA ad cX10_opens 2 RX10 (some .int)) (t0 : Int32) (σ : ab_S) (h : fX10_opens_b90 t0 σ = some R) : ab_G yM p l e s m args below meth c D cA ad 2 69 (some (.inl R.1)) R.2 90 [none, none] [.inl t0] σ := by
  obtain rfl := Option.some.inj h
  exact ab_iret C dX10_opens_90
set_option maxRecDepth 100000 in
set_option maxHeartbeats 4000000 in
theorem gX10_opens_b55 {R : (Int32 × ab_S)} (C : ab_C yM p s m args meth c D cA ad cX10_opens 2 RX10 (some .int)) (σ : ab_S) (h : fX10_opens_b55 σ = some R) : ab_G yM p l e s m args below meth c D cA ad 2 69 (some (.inl R.1)) R.2 55 [none, none] [] σ := by
  refine ab_bipush C dX10_opens_55 (v := (-5)) rfl ?_
  refine ab_goto C (tgt := 90) dX10_opens_57 (by decide) ?_
  refine ab_weak (lv' := [none, none]) ⟨.inl rfl, ⟨.inl rfl, trivial⟩⟩ ?_
  exact gX10_opens_b90 C _ _ h
set_option maxRecDepth 100000 in
set_option maxHeartbeats 4000000 in
theorem tX10_opens (l : Launch) (x1 : Int32) (σ : ab_S) {R : (Int32 × ab_S)} (h : fX10_opens x1 σ = some R) : ab_M l yM yX10_opens cX10_opens 2 (some .int) 69 [.inr (.inr (0, 0)), .inl x1] σ (some (.inl R.1)) R.2 := by
  refine ab_M_intro ndM (by decide) (Nat.le_of_ble_eq_true rfl) ?_
  intro p e s m args below meth c D cA ad C
  have C : ab_C yM p s m args meth c D cA ad cX10_opens 2 RX10 (some .int) := C
  refine ab_weak (lv' := [some (.inr (.inr (0, 0))), some (.inl x1)]) ⟨.inr rfl, ⟨.inr rfl, trivial⟩⟩ ?_
  refine ab_iload_n C dX10_opens_0 rfl ?_
  refine ab_if_lt C (tgt := 28) dX10_opens_1 (by decide) (fun hc1 => ?_) (fun hc1 => ?_)
  · replace h := ab_pos hc1 h
    refine ab_weak (lv' := [none, none]) ⟨.inl rfl, ⟨.inl rfl, trivial⟩⟩ ?_
    exact gX10_opens_b28 C _ h
  · replace h := ab_neg hc1 h
    refine ab_aload_n C dX10_opens_4 rfl ?_
    refine ab_iload_n C dX10_opens_5 rfl ?_
    refine ab_bipush C dX10_opens_6 (v := 10) rfl ?_
    refine ab_idiv C dX10_opens_8 (by decide) ?_
    refine ab_i2l C dX10_opens_9  ?_
    obtain ⟨q2, hq2, h⟩ := ab_bind h
    refine ab_inv1 C dX10_opens_10 mlX10_117 yvX10_isDoor rkM_0 ⟨_, _, rfl⟩ mmM_0 (tX10_isDoor l _ _ hq2) (Nat.le_of_ble_eq_true rfl) (Nat.le_of_ble_eq_true rfl) rfl (Nat.le_of_ble_eq_true rfl) ?_
    refine ab_if_eq C (tgt := 28) dX10_opens_13 (by decide) (fun hc3 => ?_) (fun hc3 => ?_)
    · replace h := ab_pos hc3 h
      refine ab_weak (lv' := [none, none]) ⟨.inl rfl, ⟨.inl rfl, trivial⟩⟩ ?_
      exact gX10_opens_b28 C _ h
    · replace h := ab_neg hc3 h
      refine ab_aload_n C dX10_opens_16 rfl ?_
      refine ab_iload_n C dX10_opens_17 rfl ?_
      refine ab_bipush C dX10_opens_18 (v := 10) rfl ?_
      refine ab_irem C dX10_opens_20 (by decide) ?_
      refine ab_i2l C dX10_opens_21  ?_
      obtain ⟨q4, hq4, h⟩ := ab_bind h
      refine ab_inv1 C dX10_opens_22 mlX10_117 yvX10_isDoor rkM_0 ⟨_, _, rfl⟩ mmM_0 (tX10_isDoor l _ _ hq4) (Nat.le_of_ble_eq_true rfl) (Nat.le_of_ble_eq_true rfl) rfl (Nat.le_of_ble_eq_true rfl) ?_
      refine ab_if_ne C (tgt := 30) dX10_opens_25 (by decide) (fun hc5 => ?_) (fun hc5 => ?_)
      · replace h := ab_neg hc5 h
        refine ab_iload_n C dX10_opens_30 rfl ?_
        refine ab_bipush C dX10_opens_31 (v := 10) rfl ?_
        refine ab_idiv C dX10_opens_33 (by decide) ?_
        refine ab_aload_n C dX10_opens_34 rfl ?_
        refine ab_getI C dX10_opens_35 flX10_90 rkM_0 rfl mmM_0 ?_
        refine ab_icmp_eq C (tgt := 55) dX10_opens_38 (by decide) (fun hc6 => ?_) (fun hc6 => ?_)
        · replace h := ab_pos hc6 h
          refine ab_weak (lv' := [none, none]) ⟨.inl rfl, ⟨.inl rfl, trivial⟩⟩ ?_
          exact gX10_opens_b55 C _ h
        · replace h := ab_neg hc6 h
          refine ab_aload_n C dX10_opens_41 rfl ?_
          obtain ⟨q7, hq7, h⟩ := ab_bind h
          refine ab_inv1 C dX10_opens_42 mlX10_134 yvX10_openNow rkM_0 ⟨_, _, rfl⟩ mmM_0 (tX10_openNow l _ hq7) (Nat.le_of_ble_eq_true rfl) (Nat.le_of_ble_eq_true rfl) rfl (Nat.le_of_ble_eq_true rfl) ?_
          refine ab_iload_n C dX10_opens_45 rfl ?_
          refine ab_bipush C dX10_opens_46 (v := 10) rfl ?_
          refine ab_idiv C dX10_opens_48 (by decide) ?_
          obtain ⟨q8, hq8, h⟩ := ab_bind h
          refine ab_invS1 C dX10_opens_49 mlX10_138 ysX10_isIn (tX10_isIn l _ _ _ hq8) (Nat.le_of_ble_eq_true rfl) (Nat.le_of_ble_eq_true rfl) rfl (Nat.le_of_ble_eq_true rfl) ?_
          refine ab_if_eq C (tgt := 60) dX10_opens_52 (by decide) (fun hc9 => ?_) (fun hc9 => ?_)
          · replace h := ab_pos hc9 h
            refine ab_aload_n C dX10_opens_60 rfl ?_
            refine ab_aload_n C dX10_opens_61 rfl ?_
            refine ab_getR C dX10_opens_62 flX10_11 rkM_0 rfl mmM_0 ?_
            refine ab_iconst C dX10_opens_65 (v := 5) rfl ?_
            obtain ⟨hg10, h⟩ := ab_grd h
            refine ab_iald C dX10_opens_66 rkM_1 mmM_1 hg10 ?_
            refine ab_iload_n C dX10_opens_67 rfl ?_
            refine ab_bipush C dX10_opens_68 (v := 10) rfl ?_
            refine ab_idiv C dX10_opens_70 (by decide) ?_
            refine ab_iload_n C dX10_opens_71 rfl ?_
            refine ab_bipush C dX10_opens_72 (v := 10) rfl ?_
            refine ab_irem C dX10_opens_74 (by decide) ?_
            refine ab_aload_n C dX10_opens_75 rfl ?_
            refine ab_getI C dX10_opens_76 flX10_90 rkM_0 rfl mmM_0 ?_
            refine ab_aload_n C dX10_opens_79 rfl ?_
            obtain ⟨q11, hq11, h⟩ := ab_bind h
            refine ab_inv1 C dX10_opens_80 mlX10_134 yvX10_openNow rkM_0 ⟨_, _, rfl⟩ mmM_0 (tX10_openNow l _ hq11) (Nat.le_of_ble_eq_true rfl) (Nat.le_of_ble_eq_true rfl) rfl (Nat.le_of_ble_eq_true rfl) ?_
            refine ab_aload_n C dX10_opens_83 rfl ?_
            refine ab_getI C dX10_opens_84 flX10_93 rkM_0 rfl mmM_0 ?_
            obtain ⟨q12, hq12, h⟩ := ab_bind h
            refine ab_inv1 C dX10_opens_87 mlX10_205 yvX10_gives rkM_0 ⟨_, _, rfl⟩ mmM_0 (tX10_gives l _ _ _ _ _ _ _ hq12) (Nat.le_of_ble_eq_true rfl) (Nat.le_of_ble_eq_true rfl) rfl (Nat.le_of_ble_eq_true rfl) ?_
            refine ab_weak (lv' := [none, none]) ⟨.inl rfl, ⟨.inl rfl, trivial⟩⟩ ?_
            exact gX10_opens_b90 C _ _ h
          · replace h := ab_neg hc9 h
            refine ab_weak (lv' := [none, none]) ⟨.inl rfl, ⟨.inl rfl, trivial⟩⟩ ?_
            exact gX10_opens_b55 C _ h
      · replace h := ab_pos hc5 h
        refine ab_weak (lv' := [none, none]) ⟨.inl rfl, ⟨.inl rfl, trivial⟩⟩ ?_
        exact gX10_opens_b28 C _ h
end
def fX10_partner_b22 (σ : ab_S) : Option Int64 := some ((-9223372036854775808))
def fX10_partner_b66 (t0 : Int64) (σ : ab_S) : Option Int64 := some t0
def fX10_partner_b57 (v2 : Int32) (t0 : Int64) (σ : ab_S) : Option Int64 := (fX10_allWeights σ).bind fun q1 => (fX10_partOf t0 ((q1 : Int32).toInt64) v2).bind fun q2 => fX10_partner_b66 q2 σ
def fX10_partner (x1 : Int32) (x2 : Int32) (σ : ab_S) : Option Int64 := (fX10_within ((x1 : Int32).toInt64) 0 5).bind fun q1 => (if q1 = 0 then fX10_partner_b22 σ else (fX10_within ((x2 : Int32).toInt64) 0 1).bind fun q3 => (if q3 = 0 then fX10_partner_b22 σ else (fX10_allWeights σ).bind fun q5 => (if q5 = 0 then fX10_partner_b66 ((-2)) σ else (if x1 = 0 then (fX10_byCode σ).bind fun q9 => fX10_partner_b57 x2 ((q9 : Int32).toInt64) σ else (fX10_bestCode x1 σ).bind fun q8 => fX10_partner_b57 x2 ((q8 : Int32).toInt64) σ))))
section
variable {p : Program} {l : Launch} {e : Env} {s : State} {m : MethodId} {args : Array Value} {below : List Frame} {meth : Method} {c : Code} {D : va_G} {cA : Nat → ClassId} {ad : Nat → Nat → Nat}
set_option maxRecDepth 100000 in
set_option maxHeartbeats 4000000 in
theorem gX10_partner_b22 {R : Int64} (C : ab_C yM p s m args meth c D cA ad cX10_partner 3 RX10 (some .long)) (σ : ab_S) (h : fX10_partner_b22 σ = some R) : ab_G yM p l e s m args below meth c D cA ad 3 2 (some (.inr (.inl R))) σ 22 [none, none, none] [] σ := by
  refine ab_ldc2 C dX10_partner_22 cwX10_220 ?_
  obtain rfl := Option.some.inj h
  exact ab_lret C dX10_partner_25
set_option maxRecDepth 100000 in
set_option maxHeartbeats 4000000 in
theorem gX10_partner_b66 {R : Int64} (C : ab_C yM p s m args meth c D cA ad cX10_partner 3 RX10 (some .long)) (σ : ab_S) (t0 : Int64) (h : fX10_partner_b66 t0 σ = some R) : ab_G yM p l e s m args below meth c D cA ad 3 2 (some (.inr (.inl R))) σ 66 [none, none, none] [.inr (.inl t0)] σ := by
  obtain rfl := Option.some.inj h
  exact ab_lret C dX10_partner_66
set_option maxRecDepth 100000 in
set_option maxHeartbeats 4000000 in
theorem gX10_partner_b57 {R : Int64} (C : ab_C yM p s m args meth c D cA ad cX10_partner 3 RX10 (some .long)) (σ : ab_S) (v2 : Int32) (t0 : Int64) (h : fX10_partner_b57 v2 t0 σ = some R) : ab_G yM p l e s m args below meth c D cA ad 3 2 (some (.inr (.inl R))) σ 57 [some (.inr (.inr (0, 0))), none, some (.inl v2)] [.inr (.inl t0)] σ := by
  refine ab_aload_n C dX10_partner_57 rfl ?_
  obtain ⟨q1, hq1, h⟩ := ab_bind h
  refine ab_inv1 C dX10_partner_58 mlX10_259 yvX10_allWeights rkM_0 ⟨_, _, rfl⟩ mmM_0 (tX10_allWeights l _ hq1) (Nat.le_of_ble_eq_true rfl) (Nat.le_of_ble_eq_true rfl) rfl (Nat.le_of_ble_eq_true rfl) ?_
  refine ab_i2l C dX10_partner_61  ?_
  refine ab_iload_n C dX10_partner_62 rfl ?_
  obtain ⟨q2, hq2, h⟩ := ab_bind h
  refine ab_invS1 C dX10_partner_63 mlX10_228 ysX10_partOf (tX10_partOf l _ _ _ _ hq2) (Nat.le_of_ble_eq_true rfl) (Nat.le_of_ble_eq_true rfl) rfl (Nat.le_of_ble_eq_true rfl) ?_
  refine ab_weak (lv' := [none, none, none]) ⟨.inl rfl, ⟨.inl rfl, ⟨.inl rfl, trivial⟩⟩⟩ ?_
  exact gX10_partner_b66 C _ _ h
set_option maxRecDepth 100000 in
set_option maxHeartbeats 4000000 in
theorem tX10_partner (l : Launch) (x1 : Int32) (x2 : Int32) (σ : ab_S) {R : Int64} (h : fX10_partner x1 x2 σ = some R) : ab_M l yM yX10_partner cX10_partner 3 (some .long) 2 [.inr (.inr (0, 0)), .inl x1, .inl x2] σ (some (.inr (.inl R))) σ := by
  refine ab_M_intro ndM (by decide) (Nat.le_of_ble_eq_true rfl) ?_
  intro p e s m args below meth c D cA ad C
  have C : ab_C yM p s m args meth c D cA ad cX10_partner 3 RX10 (some .long) := C
  refine ab_weak (lv' := [some (.inr (.inr (0, 0))), some (.inl x1), some (.inl x2)]) ⟨.inr rfl, ⟨.inr rfl, ⟨.inr rfl, trivial⟩⟩⟩ ?_
  refine ab_iload_n C dX10_partner_0 rfl ?_
  refine ab_i2l C dX10_partner_1  ?_
  refine ab_lconst C dX10_partner_2 (v := 0) rfl ?_
  refine ab_ldc2 C dX10_partner_3 cwX10_111 ?_
  obtain ⟨q1, hq1, h⟩ := ab_bind h
  refine ab_invS1 C dX10_partner_6 mlX10_105 ysX10_within (tX10_within l _ _ _ _ hq1) (Nat.le_of_ble_eq_true rfl) (Nat.le_of_ble_eq_true rfl) rfl (Nat.le_of_ble_eq_true rfl) ?_
  refine ab_if_eq C (tgt := 22) dX10_partner_9 (by decide) (fun hc2 => ?_) (fun hc2 => ?_)
  · replace h := ab_pos hc2 h
    refine ab_weak (lv' := [none, none, none]) ⟨.inl rfl, ⟨.inl rfl, ⟨.inl rfl, trivial⟩⟩⟩ ?_
    exact gX10_partner_b22 C _ h
  · replace h := ab_neg hc2 h
    refine ab_iload_n C dX10_partner_12 rfl ?_
    refine ab_i2l C dX10_partner_13  ?_
    refine ab_lconst C dX10_partner_14 (v := 0) rfl ?_
    refine ab_lconst C dX10_partner_15 (v := 1) rfl ?_
    obtain ⟨q3, hq3, h⟩ := ab_bind h
    refine ab_invS1 C dX10_partner_16 mlX10_105 ysX10_within (tX10_within l _ _ _ _ hq3) (Nat.le_of_ble_eq_true rfl) (Nat.le_of_ble_eq_true rfl) rfl (Nat.le_of_ble_eq_true rfl) ?_
    refine ab_if_ne C (tgt := 26) dX10_partner_19 (by decide) (fun hc4 => ?_) (fun hc4 => ?_)
    · replace h := ab_neg hc4 h
      refine ab_aload_n C dX10_partner_26 rfl ?_
      obtain ⟨q5, hq5, h⟩ := ab_bind h
      refine ab_inv1 C dX10_partner_27 mlX10_259 yvX10_allWeights rkM_0 ⟨_, _, rfl⟩ mmM_0 (tX10_allWeights l _ hq5) (Nat.le_of_ble_eq_true rfl) (Nat.le_of_ble_eq_true rfl) rfl (Nat.le_of_ble_eq_true rfl) ?_
      refine ab_if_ne C (tgt := 39) dX10_partner_30 (by decide) (fun hc6 => ?_) (fun hc6 => ?_)
      · replace h := ab_neg hc6 h
        refine ab_iload_n C dX10_partner_39 rfl ?_
        refine ab_if_ne C (tgt := 51) dX10_partner_40 (by decide) (fun hc7 => ?_) (fun hc7 => ?_)
        · replace h := ab_neg hc7 h
          refine ab_aload_n C dX10_partner_51 rfl ?_
          refine ab_iload_n C dX10_partner_52 rfl ?_
          obtain ⟨q8, hq8, h⟩ := ab_bind h
          refine ab_inv1 C dX10_partner_53 mlX10_325 yvX10_bestCode rkM_0 ⟨_, _, rfl⟩ mmM_0 (tX10_bestCode l _ _ hq8) (Nat.le_of_ble_eq_true rfl) (Nat.le_of_ble_eq_true rfl) rfl (Nat.le_of_ble_eq_true rfl) ?_
          refine ab_i2l C dX10_partner_56  ?_
          refine ab_weak (lv' := [some (.inr (.inr (0, 0))), none, some (.inl x2)]) ⟨.inr rfl, ⟨.inl rfl, ⟨.inr rfl, trivial⟩⟩⟩ ?_
          exact gX10_partner_b57 C _ _ _ h
        · replace h := ab_pos hc7 h
          refine ab_aload_n C dX10_partner_43 rfl ?_
          obtain ⟨q9, hq9, h⟩ := ab_bind h
          refine ab_inv1 C dX10_partner_44 mlX10_322 yvX10_byCode rkM_0 ⟨_, _, rfl⟩ mmM_0 (tX10_byCode l _ hq9) (Nat.le_of_ble_eq_true rfl) (Nat.le_of_ble_eq_true rfl) rfl (Nat.le_of_ble_eq_true rfl) ?_
          refine ab_i2l C dX10_partner_47  ?_
          refine ab_goto C (tgt := 57) dX10_partner_48 (by decide) ?_
          refine ab_weak (lv' := [some (.inr (.inr (0, 0))), none, some (.inl x2)]) ⟨.inr rfl, ⟨.inl rfl, ⟨.inr rfl, trivial⟩⟩⟩ ?_
          exact gX10_partner_b57 C _ _ _ h
      · replace h := ab_pos hc6 h
        refine ab_ldc2 C dX10_partner_33 cwX10_226 ?_
        refine ab_goto C (tgt := 66) dX10_partner_36 (by decide) ?_
        refine ab_weak (lv' := [none, none, none]) ⟨.inl rfl, ⟨.inl rfl, ⟨.inl rfl, trivial⟩⟩⟩ ?_
        exact gX10_partner_b66 C _ _ h
    · replace h := ab_pos hc4 h
      refine ab_weak (lv' := [none, none, none]) ⟨.inl rfl, ⟨.inl rfl, ⟨.inl rfl, trivial⟩⟩⟩ ?_
      exact gX10_partner_b22 C _ h
end
def fX10_put_b48 (t0 : Int32) (σ : ab_S) : Option (Int32 × ab_S) := some (t0, σ)
def fX10_put_b37 (v5 : Int32) (σ : ab_S) : Option (Int32 × ab_S) := (if v5 = 0 then fX10_put_b48 1 σ else fX10_put_b48 v5 σ)
def fX10_put (x1 : Int32) (x2 : Int32) (x3 : Int64) (σ : ab_S) : Option (Int32 × ab_S) := (fX10_refusal x1 x2 σ).bind fun q1 => (if q1 = 0 then (if ab_inb x1 6 = true then (fX10_asSort ((σ.1 20 0 x1.toNatClampNeg) - 50) x3).bind fun q4 => (if ab_inb ((60 * x1) + x2) 360 = true then ab_k (ab_sl σ 22 0 (((60 * x1) + x2).toNatClampNeg) q4) fun σ6 => fX10_put_b37 q1 σ6 else none) else none) else fX10_put_b37 q1 σ)
section
variable {p : Program} {l : Launch} {e : Env} {s : State} {m : MethodId} {args : Array Value} {below : List Frame} {meth : Method} {c : Code} {D : va_G} {cA : Nat → ClassId} {ad : Nat → Nat → Nat}
set_option maxRecDepth 100000 in
set_option maxHeartbeats 4000000 in
theorem gX10_put_b48 {R : (Int32 × ab_S)} (C : ab_C yM p s m args meth c D cA ad cX10_put 6 RX10 (some .int)) (t0 : Int32) (σ : ab_S) (h : fX10_put_b48 t0 σ = some R) : ab_G yM p l e s m args below meth c D cA ad 6 3 (some (.inl R.1)) R.2 48 [none, none, none, none, none, none] [.inl t0] σ := by
  obtain rfl := Option.some.inj h
  exact ab_iret C dX10_put_48
set_option maxRecDepth 100000 in
set_option maxHeartbeats 4000000 in
theorem gX10_put_b37 {R : (Int32 × ab_S)} (C : ab_C yM p s m args meth c D cA ad cX10_put 6 RX10 (some .int)) (v5 : Int32) (σ : ab_S) (h : fX10_put_b37 v5 σ = some R) : ab_G yM p l e s m args below meth c D cA ad 6 3 (some (.inl R.1)) R.2 37 [none, none, none, none, none, some (.inl v5)] [] σ := by
  refine ab_iload C dX10_put_37 rfl ?_
  refine ab_if_ne C (tgt := 46) dX10_put_39 (by decide) (fun hc1 => ?_) (fun hc1 => ?_)
  · replace h := ab_neg hc1 h
    refine ab_iload C dX10_put_46 rfl ?_
    refine ab_weak (lv' := [none, none, none, none, none, none]) ⟨.inl rfl, ⟨.inl rfl, ⟨.inl rfl, ⟨.inl rfl, ⟨.inl rfl, ⟨.inl rfl, trivial⟩⟩⟩⟩⟩⟩ ?_
    exact gX10_put_b48 C _ _ h
  · replace h := ab_pos hc1 h
    refine ab_iconst C dX10_put_42 (v := 1) rfl ?_
    refine ab_goto C (tgt := 48) dX10_put_43 (by decide) ?_
    refine ab_weak (lv' := [none, none, none, none, none, none]) ⟨.inl rfl, ⟨.inl rfl, ⟨.inl rfl, ⟨.inl rfl, ⟨.inl rfl, ⟨.inl rfl, trivial⟩⟩⟩⟩⟩⟩ ?_
    exact gX10_put_b48 C _ _ h
set_option maxRecDepth 100000 in
set_option maxHeartbeats 4000000 in
theorem tX10_put (l : Launch) (x1 : Int32) (x2 : Int32) (x3 : Int64) (σ : ab_S) {R : (Int32 × ab_S)} (h : fX10_put x1 x2 x3 σ = some R) : ab_M l yM yX10_put cX10_put 6 (some .int) 3 [.inr (.inr (0, 0)), .inl x1, .inl x2, .inr (.inl x3)] σ (some (.inl R.1)) R.2 := by
  refine ab_M_intro ndM (by decide) (Nat.le_of_ble_eq_true rfl) ?_
  intro p e s m args below meth c D cA ad C
  have C : ab_C yM p s m args meth c D cA ad cX10_put 6 RX10 (some .int) := C
  refine ab_weak (lv' := [some (.inr (.inr (0, 0))), some (.inl x1), some (.inl x2), some (.inr (.inl x3)), none, none]) ⟨.inr rfl, ⟨.inr rfl, ⟨.inr rfl, ⟨.inr rfl, ⟨.inl rfl, ⟨.inl rfl, trivial⟩⟩⟩⟩⟩⟩ ?_
  refine ab_aload_n C dX10_put_0 rfl ?_
  refine ab_iload_n C dX10_put_1 rfl ?_
  refine ab_iload_n C dX10_put_2 rfl ?_
  obtain ⟨q1, hq1, h⟩ := ab_bind h
  refine ab_inv1 C dX10_put_3 mlX10_373 yvX10_refusal rkM_0 ⟨_, _, rfl⟩ mmM_0 (tX10_refusal l _ _ _ hq1) (Nat.le_of_ble_eq_true rfl) (Nat.le_of_ble_eq_true rfl) rfl (Nat.le_of_ble_eq_true rfl) ?_
  refine ab_istore C dX10_put_6 (Nat.le_of_ble_eq_true rfl) ?_
  refine ab_iload C dX10_put_8 rfl ?_
  refine ab_if_ne C (tgt := 37) dX10_put_10 (by decide) (fun hc2 => ?_) (fun hc2 => ?_)
  · replace h := ab_neg hc2 h
    refine ab_weak (lv' := [none, none, none, none, none, some (.inl q1)]) ⟨.inl rfl, ⟨.inl rfl, ⟨.inl rfl, ⟨.inl rfl, ⟨.inl rfl, ⟨.inr rfl, trivial⟩⟩⟩⟩⟩⟩ ?_
    exact gX10_put_b37 C _ _ h
  · replace h := ab_pos hc2 h
    refine ab_aload_n C dX10_put_13 rfl ?_
    refine ab_getR C dX10_put_14 flX10_76 rkM_0 rfl mmM_0 ?_
    refine ab_bipush C dX10_put_17 (v := 60) rfl ?_
    refine ab_iload_n C dX10_put_19 rfl ?_
    refine ab_imul C dX10_put_20  ?_
    refine ab_iload_n C dX10_put_21 rfl ?_
    refine ab_iadd C dX10_put_22  ?_
    refine ab_aload_n C dX10_put_23 rfl ?_
    refine ab_getR C dX10_put_24 flX10_70 rkM_0 rfl mmM_0 ?_
    refine ab_iload_n C dX10_put_27 rfl ?_
    obtain ⟨hg3, h⟩ := ab_grd h
    refine ab_iald C dX10_put_28 rkM_20 mmM_20 hg3 ?_
    refine ab_bipush C dX10_put_29 (v := 50) rfl ?_
    refine ab_isub C dX10_put_31  ?_
    refine ab_lload_n C dX10_put_32 rfl ?_
    obtain ⟨q4, hq4, h⟩ := ab_bind h
    refine ab_invS1 C dX10_put_33 mlX10_376 ysX10_asSort (tX10_asSort l _ _ _ hq4) (Nat.le_of_ble_eq_true rfl) (Nat.le_of_ble_eq_true rfl) rfl (Nat.le_of_ble_eq_true rfl) ?_
    obtain ⟨hg5, h⟩ := ab_grd h
    refine ab_last C dX10_put_36 rkM_22 mmM_22 hg5 ?_
    refine ab_nmS (fun σ6 eσ6 => ?_)
    replace h := ab_kh eσ6 h
    refine ab_weak (lv' := [none, none, none, none, none, some (.inl q1)]) ⟨.inl rfl, ⟨.inl rfl, ⟨.inl rfl, ⟨.inl rfl, ⟨.inl rfl, ⟨.inr rfl, trivial⟩⟩⟩⟩⟩⟩ ?_
    exact gX10_put_b37 C _ _ h
end
def fX10_redo (σ : ab_S) : Option (Int32 × ab_S) := (if (σ.1 0 0 5) = (σ.1 0 0 4) then some ((-5), σ) else (if ab_inb (σ.1 0 0 5) 40 = true then (if ab_inb (σ.1 0 0 5) 40 = true then (if ab_inb (σ.1 2 0 ((σ.1 0 0 5).toNatClampNeg)) 7 = true then ab_k (ab_si σ 1 0 ((σ.1 2 0 ((σ.1 0 0 5).toNatClampNeg)).toNatClampNeg) (σ.1 4 0 ((σ.1 0 0 5).toNatClampNeg))) fun σ5 => ab_k (ab_si σ5 0 0 5 ((σ5.1 0 0 5) + 1)) fun σ6 => some ((σ6.1 0 0 4) - (σ6.1 0 0 5), σ6) else none) else none) else none))
section
variable {p : Program} {l : Launch} {e : Env} {s : State} {m : MethodId} {args : Array Value} {below : List Frame} {meth : Method} {c : Code} {D : va_G} {cA : Nat → ClassId} {ad : Nat → Nat → Nat}
set_option maxRecDepth 100000 in
set_option maxHeartbeats 4000000 in
theorem tX10_redo (l : Launch) (σ : ab_S) {R : (Int32 × ab_S)} (h : fX10_redo σ = some R) : ab_M l yM yX10_redo cX10_redo 1 (some .int) 0 [.inr (.inr (0, 0))] σ (some (.inl R.1)) R.2 := by
  refine ab_M_intro ndM (by decide) (Nat.le_of_ble_eq_true rfl) ?_
  intro p e s m args below meth c D cA ad C
  have C : ab_C yM p s m args meth c D cA ad cX10_redo 1 RX10 (some .int) := C
  refine ab_weak (lv' := [some (.inr (.inr (0, 0)))]) ⟨.inr rfl, trivial⟩ ?_
  refine ab_aload_n C dX10_redo_0 rfl ?_
  refine ab_getI C dX10_redo_1 flX10_96 rkM_0 rfl mmM_0 ?_
  refine ab_aload_n C dX10_redo_4 rfl ?_
  refine ab_getI C dX10_redo_5 flX10_99 rkM_0 rfl mmM_0 ?_
  refine ab_icmp_ne C (tgt := 14) dX10_redo_8 (by decide) (fun hc1 => ?_) (fun hc1 => ?_)
  · replace h := ab_neg hc1 h
    refine ab_aload_n C dX10_redo_14 rfl ?_
    refine ab_getR C dX10_redo_15 flX10_11 rkM_0 rfl mmM_0 ?_
    refine ab_aload_n C dX10_redo_18 rfl ?_
    refine ab_getR C dX10_redo_19 flX10_15 rkM_0 rfl mmM_0 ?_
    refine ab_aload_n C dX10_redo_22 rfl ?_
    refine ab_getI C dX10_redo_23 flX10_96 rkM_0 rfl mmM_0 ?_
    obtain ⟨hg2, h⟩ := ab_grd h
    refine ab_iald C dX10_redo_26 rkM_2 mmM_2 hg2 ?_
    refine ab_aload_n C dX10_redo_27 rfl ?_
    refine ab_getR C dX10_redo_28 flX10_21 rkM_0 rfl mmM_0 ?_
    refine ab_aload_n C dX10_redo_31 rfl ?_
    refine ab_getI C dX10_redo_32 flX10_96 rkM_0 rfl mmM_0 ?_
    obtain ⟨hg3, h⟩ := ab_grd h
    refine ab_iald C dX10_redo_35 rkM_4 mmM_4 hg3 ?_
    obtain ⟨hg4, h⟩ := ab_grd h
    refine ab_iast C dX10_redo_36 rkM_1 mmM_1 hg4 ?_
    refine ab_nmS (fun σ5 eσ5 => ?_)
    replace h := ab_kh eσ5 h
    refine ab_aload_n C dX10_redo_37 rfl ?_
    refine ab_dup C dX10_redo_38 rfl ?_
    refine ab_getI C dX10_redo_39 flX10_96 rkM_0 rfl mmM_0 ?_
    refine ab_iconst C dX10_redo_42 (v := 1) rfl ?_
    refine ab_iadd C dX10_redo_43  ?_
    refine ab_putI C dX10_redo_44 fpX10_96 rkM_0 rfl mmM_0 rfl rfl ?_
    refine ab_nmS (fun σ6 eσ6 => ?_)
    replace h := ab_kh eσ6 h
    refine ab_aload_n C dX10_redo_47 rfl ?_
    refine ab_getI C dX10_redo_48 flX10_99 rkM_0 rfl mmM_0 ?_
    refine ab_aload_n C dX10_redo_51 rfl ?_
    refine ab_getI C dX10_redo_52 flX10_96 rkM_0 rfl mmM_0 ?_
    refine ab_isub C dX10_redo_55  ?_
    obtain rfl := Option.some.inj h
    exact ab_iret C dX10_redo_56
  · replace h := ab_pos hc1 h
    refine ab_bipush C dX10_redo_11 (v := (-5)) rfl ?_
    obtain rfl := Option.some.inj h
    exact ab_iret C dX10_redo_13
end
def fX10_row_b25 (σ : ab_S) : Option (Int32 × ab_S) := some ((-1), σ)
def fX10_row_b57_o (kk57 : Int32 → Int32 → ab_S → Option (Int32 × ab_S)) (v1 : Int32) (v4 : Int32) (σ : ab_S) : Option (Int32 × ab_S) := (if ((60 * v1) + 60) ≤ v4 then some (1, σ) else (if ab_inb v4 360 = true then ab_k (ab_sl σ 22 0 v4.toNatClampNeg 0) fun σ3 => kk57 v1 (v4 + 1) σ3 else none))
def fX10_row_b57 : Nat → Int32 → Int32 → ab_S → Option (Int32 × ab_S)
  | 0 => fun _ _ _ => none
  | n + 1 => fX10_row_b57_o  (fX10_row_b57 n)
def fX10_row (x1 : Int32) (x2 : Int32) (x3 : Int32) (σ : ab_S) : Option (Int32 × ab_S) := (fX10_isShelf x1).bind fun q1 => (if q1 = 0 then fX10_row_b25 σ else (fX10_within ((x2 : Int32).toInt64) 0 4).bind fun q3 => (if q3 = 0 then fX10_row_b25 σ else (if x3 ≤ 60 then (if 0 ≤ x3 then (if ab_inb x1 6 = true then ab_k (ab_si σ 20 0 x1.toNatClampNeg (50 + x2)) fun σ8 => (if ab_inb x1 6 = true then ab_k (ab_si σ8 21 0 x1.toNatClampNeg x3) fun σ10 => fX10_row_b57 ab_N x1 (60 * x1) σ10 else none) else none) else some ((-14), σ)) else fX10_row_b25 σ)))
section
variable {p : Program} {l : Launch} {e : Env} {s : State} {m : MethodId} {args : Array Value} {below : List Frame} {meth : Method} {c : Code} {D : va_G} {cA : Nat → ClassId} {ad : Nat → Nat → Nat}
set_option maxRecDepth 100000 in
set_option maxHeartbeats 4000000 in
theorem gX10_row_b25 {R : (Int32 × ab_S)} (C : ab_C yM p s m args meth c D cA ad cX10_row 5 RX10 (some .int)) (σ : ab_S) (h : fX10_row_b25 σ = some R) : ab_G yM p l e s m args below meth c D cA ad 5 2 (some (.inl R.1)) R.2 25 [none, none, none, none, none] [] σ := by
  refine ab_iconst C dX10_row_25 (v := (-1)) rfl ?_
  obtain rfl := Option.some.inj h
  exact ab_iret C dX10_row_26
set_option maxRecDepth 100000 in
set_option maxHeartbeats 4000000 in
theorem gX10_row_b57_o {R : (Int32 × ab_S)} (C : ab_C yM p s m args meth c D cA ad cX10_row 5 RX10 (some .int)) {kk57 : Int32 → Int32 → ab_S → Option (Int32 × ab_S)} (hk57 : ∀ (v1 : Int32) (v4 : Int32) (σ : ab_S), kk57 v1 v4 σ = some R → ab_G yM p l e s m args below meth c D cA ad 5 2 (some (.inl R.1)) R.2 57 [some (.inr (.inr (0, 0))), some (.inl v1), none, none, some (.inl v4)] [] σ) (v1 : Int32) (v4 : Int32) (σ : ab_S) (h : fX10_row_b57_o kk57 v1 v4 σ = some R) : ab_G yM p l e s m args below meth c D cA ad 5 2 (some (.inl R.1)) R.2 57 [some (.inr (.inr (0, 0))), some (.inl v1), none, none, some (.inl v4)] [] σ := by
  refine ab_iload C dX10_row_57 rfl ?_
  refine ab_bipush C dX10_row_59 (v := 60) rfl ?_
  refine ab_iload_n C dX10_row_61 rfl ?_
  refine ab_imul C dX10_row_62  ?_
  refine ab_bipush C dX10_row_63 (v := 60) rfl ?_
  refine ab_iadd C dX10_row_65  ?_
  refine ab_icmp_ge C (tgt := 83) dX10_row_66 (by decide) (fun hc1 => ?_) (fun hc1 => ?_)
  · replace h := ab_pos hc1 h
    refine ab_iconst C dX10_row_83 (v := 1) rfl ?_
    obtain rfl := Option.some.inj h
    exact ab_iret C dX10_row_84
  · replace h := ab_neg hc1 h
    refine ab_aload_n C dX10_row_69 rfl ?_
    refine ab_getR C dX10_row_70 flX10_76 rkM_0 rfl mmM_0 ?_
    refine ab_iload C dX10_row_73 rfl ?_
    refine ab_lconst C dX10_row_75 (v := 0) rfl ?_
    obtain ⟨hg2, h⟩ := ab_grd h
    refine ab_last C dX10_row_76 rkM_22 mmM_22 hg2 ?_
    refine ab_nmS (fun σ3 eσ3 => ?_)
    replace h := ab_kh eσ3 h
    refine ab_iinc C dX10_row_77 rfl (v := 1) rfl (Nat.le_of_ble_eq_true rfl) ?_
    refine ab_goto C (tgt := 57) dX10_row_80 (by decide) ?_
    refine ab_weak (lv' := [some (.inr (.inr (0, 0))), some (.inl v1), none, none, some (.inl (v4 + 1))]) ⟨.inr rfl, ⟨.inr rfl, ⟨.inl rfl, ⟨.inl rfl, ⟨.inr rfl, trivial⟩⟩⟩⟩⟩ ?_
    exact hk57 _ _ _ h
theorem gX10_row_b57 {R : (Int32 × ab_S)} (C : ab_C yM p s m args meth c D cA ad cX10_row 5 RX10 (some .int)) : ∀ (j : Nat) (v1 : Int32) (v4 : Int32) (σ : ab_S), fX10_row_b57 j v1 v4 σ = some R → ab_G yM p l e s m args below meth c D cA ad 5 2 (some (.inl R.1)) R.2 57 [some (.inr (.inr (0, 0))), some (.inl v1), none, none, some (.inl v4)] [] σ := by
  intro j
  induction j with
  | zero => intro v1 v4 σ  h; cases h
  | succ j ih => intro v1 v4 σ  h; exact gX10_row_b57_o C ih _ _ _ h
set_option maxRecDepth 100000 in
set_option maxHeartbeats 4000000 in
theorem tX10_row (l : Launch) (x1 : Int32) (x2 : Int32) (x3 : Int32) (σ : ab_S) {R : (Int32 × ab_S)} (h : fX10_row x1 x2 x3 σ = some R) : ab_M l yM yX10_row cX10_row 5 (some .int) 2 [.inr (.inr (0, 0)), .inl x1, .inl x2, .inl x3] σ (some (.inl R.1)) R.2 := by
  refine ab_M_intro ndM (by decide) (Nat.le_of_ble_eq_true rfl) ?_
  intro p e s m args below meth c D cA ad C
  have C : ab_C yM p s m args meth c D cA ad cX10_row 5 RX10 (some .int) := C
  refine ab_weak (lv' := [some (.inr (.inr (0, 0))), some (.inl x1), some (.inl x2), some (.inl x3), none]) ⟨.inr rfl, ⟨.inr rfl, ⟨.inr rfl, ⟨.inr rfl, ⟨.inl rfl, trivial⟩⟩⟩⟩⟩ ?_
  refine ab_iload_n C dX10_row_0 rfl ?_
  obtain ⟨q1, hq1, h⟩ := ab_bind h
  refine ab_invS1 C dX10_row_1 mlX10_113 ysX10_isShelf (tX10_isShelf l _ _ hq1) (Nat.le_of_ble_eq_true rfl) (Nat.le_of_ble_eq_true rfl) rfl (Nat.le_of_ble_eq_true rfl) ?_
  refine ab_if_eq C (tgt := 25) dX10_row_4 (by decide) (fun hc2 => ?_) (fun hc2 => ?_)
  · replace h := ab_pos hc2 h
    refine ab_weak (lv' := [none, none, none, none, none]) ⟨.inl rfl, ⟨.inl rfl, ⟨.inl rfl, ⟨.inl rfl, ⟨.inl rfl, trivial⟩⟩⟩⟩⟩ ?_
    exact gX10_row_b25 C _ h
  · replace h := ab_neg hc2 h
    refine ab_iload_n C dX10_row_7 rfl ?_
    refine ab_i2l C dX10_row_8  ?_
    refine ab_lconst C dX10_row_9 (v := 0) rfl ?_
    refine ab_ldc2 C dX10_row_10 cwX10_320 ?_
    obtain ⟨q3, hq3, h⟩ := ab_bind h
    refine ab_invS1 C dX10_row_13 mlX10_105 ysX10_within (tX10_within l _ _ _ _ hq3) (Nat.le_of_ble_eq_true rfl) (Nat.le_of_ble_eq_true rfl) rfl (Nat.le_of_ble_eq_true rfl) ?_
    refine ab_if_eq C (tgt := 25) dX10_row_16 (by decide) (fun hc4 => ?_) (fun hc4 => ?_)
    · replace h := ab_pos hc4 h
      refine ab_weak (lv' := [none, none, none, none, none]) ⟨.inl rfl, ⟨.inl rfl, ⟨.inl rfl, ⟨.inl rfl, ⟨.inl rfl, trivial⟩⟩⟩⟩⟩ ?_
      exact gX10_row_b25 C _ h
    · replace h := ab_neg hc4 h
      refine ab_iload_n C dX10_row_19 rfl ?_
      refine ab_bipush C dX10_row_20 (v := 60) rfl ?_
      refine ab_icmp_le C (tgt := 27) dX10_row_22 (by decide) (fun hc5 => ?_) (fun hc5 => ?_)
      · replace h := ab_pos hc5 h
        refine ab_iload_n C dX10_row_27 rfl ?_
        refine ab_if_ge C (tgt := 34) dX10_row_28 (by decide) (fun hc6 => ?_) (fun hc6 => ?_)
        · replace h := ab_pos hc6 h
          refine ab_aload_n C dX10_row_34 rfl ?_
          refine ab_getR C dX10_row_35 flX10_70 rkM_0 rfl mmM_0 ?_
          refine ab_iload_n C dX10_row_38 rfl ?_
          refine ab_bipush C dX10_row_39 (v := 50) rfl ?_
          refine ab_iload_n C dX10_row_41 rfl ?_
          refine ab_iadd C dX10_row_42  ?_
          obtain ⟨hg7, h⟩ := ab_grd h
          refine ab_iast C dX10_row_43 rkM_20 mmM_20 hg7 ?_
          refine ab_nmS (fun σ8 eσ8 => ?_)
          replace h := ab_kh eσ8 h
          refine ab_aload_n C dX10_row_44 rfl ?_
          refine ab_getR C dX10_row_45 flX10_73 rkM_0 rfl mmM_0 ?_
          refine ab_iload_n C dX10_row_48 rfl ?_
          refine ab_iload_n C dX10_row_49 rfl ?_
          obtain ⟨hg9, h⟩ := ab_grd h
          refine ab_iast C dX10_row_50 rkM_21 mmM_21 hg9 ?_
          refine ab_nmS (fun σ10 eσ10 => ?_)
          replace h := ab_kh eσ10 h
          refine ab_bipush C dX10_row_51 (v := 60) rfl ?_
          refine ab_iload_n C dX10_row_53 rfl ?_
          refine ab_imul C dX10_row_54  ?_
          refine ab_istore C dX10_row_55 (Nat.le_of_ble_eq_true rfl) ?_
          refine ab_weak (lv' := [some (.inr (.inr (0, 0))), some (.inl x1), none, none, some (.inl (60 * x1))]) ⟨.inr rfl, ⟨.inr rfl, ⟨.inl rfl, ⟨.inl rfl, ⟨.inr rfl, trivial⟩⟩⟩⟩⟩ ?_
          exact gX10_row_b57 C ab_N _ _ _ h
        · replace h := ab_neg hc6 h
          refine ab_bipush C dX10_row_31 (v := (-14)) rfl ?_
          obtain rfl := Option.some.inj h
          exact ab_iret C dX10_row_33
      · replace h := ab_neg hc5 h
        refine ab_weak (lv' := [none, none, none, none, none]) ⟨.inl rfl, ⟨.inl rfl, ⟨.inl rfl, ⟨.inl rfl, ⟨.inl rfl, trivial⟩⟩⟩⟩⟩ ?_
        exact gX10_row_b25 C _ h
end
def fX10_rowBy_b5_o (kk5 : Int32 → Int32 → Int64 → Int32 → ab_S → Option (Int64 × ab_S)) (v1 : Int32) (v2 : Int32) (v3 : Int64) (v5 : Int32) (σ : ab_S) : Option (Int64 × ab_S) := (if ab_inb v2 6 = true then (if (σ.1 21 0 v2.toNatClampNeg) ≤ (3 * v5) then some (v3, σ) else (fX10_threeAt v1 v2 v5 σ).bind fun q3 => kk5 v1 v2 (v3 * q3.1) (v5 + 1) q3.2) else none)
def fX10_rowBy_b5 : Nat → Int32 → Int32 → Int64 → Int32 → ab_S → Option (Int64 × ab_S)
  | 0 => fun _ _ _ _ _ => none
  | n + 1 => fX10_rowBy_b5_o  (fX10_rowBy_b5 n)
def fX10_rowBy (x1 : Int32) (x2 : Int32) (σ : ab_S) : Option (Int64 × ab_S) := fX10_rowBy_b5 ab_N x1 x2 1 0 σ
section
variable {p : Program} {l : Launch} {e : Env} {s : State} {m : MethodId} {args : Array Value} {below : List Frame} {meth : Method} {c : Code} {D : va_G} {cA : Nat → ClassId} {ad : Nat → Nat → Nat}
set_option maxRecDepth 100000 in
set_option maxHeartbeats 4000000 in
theorem gX10_rowBy_b5_o {R : (Int64 × ab_S)} (C : ab_C yM p s m args meth c D cA ad cX10_rowBy 6 RX10 (some .long)) {kk5 : Int32 → Int32 → Int64 → Int32 → ab_S → Option (Int64 × ab_S)} (hk5 : ∀ (v1 : Int32) (v2 : Int32) (v3 : Int64) (v5 : Int32) (σ : ab_S), kk5 v1 v2 v3 v5 σ = some R → ab_G yM p l e s m args below meth c D cA ad 6 72 (some (.inr (.inl R.1))) R.2 5 [some (.inr (.inr (0, 0))), some (.inl v1), some (.inl v2), some (.inr (.inl v3)), none, some (.inl v5)] [] σ) (v1 : Int32) (v2 : Int32) (v3 : Int64) (v5 : Int32) (σ : ab_S) (h : fX10_rowBy_b5_o kk5 v1 v2 v3 v5 σ = some R) : ab_G yM p l e s m args below meth c D cA ad 6 72 (some (.inr (.inl R.1))) R.2 5 [some (.inr (.inr (0, 0))), some (.inl v1), some (.inl v2), some (.inr (.inl v3)), none, some (.inl v5)] [] σ := by
  refine ab_iconst C dX10_rowBy_5 (v := 3) rfl ?_
  refine ab_iload C dX10_rowBy_6 rfl ?_
  refine ab_imul C dX10_rowBy_8  ?_
  refine ab_aload_n C dX10_rowBy_9 rfl ?_
  refine ab_getR C dX10_rowBy_10 flX10_73 rkM_0 rfl mmM_0 ?_
  refine ab_iload_n C dX10_rowBy_13 rfl ?_
  obtain ⟨hg1, h⟩ := ab_grd h
  refine ab_iald C dX10_rowBy_14 rkM_21 mmM_21 hg1 ?_
  refine ab_icmp_ge C (tgt := 35) dX10_rowBy_15 (by decide) (fun hc2 => ?_) (fun hc2 => ?_)
  · replace h := ab_pos hc2 h
    refine ab_lload_n C dX10_rowBy_35 rfl ?_
    obtain rfl := Option.some.inj h
    exact ab_lret C dX10_rowBy_36
  · replace h := ab_neg hc2 h
    refine ab_lload_n C dX10_rowBy_18 rfl ?_
    refine ab_aload_n C dX10_rowBy_19 rfl ?_
    refine ab_iload_n C dX10_rowBy_20 rfl ?_
    refine ab_iload_n C dX10_rowBy_21 rfl ?_
    refine ab_iload C dX10_rowBy_22 rfl ?_
    obtain ⟨q3, hq3, h⟩ := ab_bind h
    refine ab_inv1 C dX10_rowBy_24 mlX10_294 yvX10_threeAt rkM_0 ⟨_, _, rfl⟩ mmM_0 (tX10_threeAt l _ _ _ _ hq3) (Nat.le_of_ble_eq_true rfl) (Nat.le_of_ble_eq_true rfl) rfl (Nat.le_of_ble_eq_true rfl) ?_
    refine ab_lmul C dX10_rowBy_27  ?_
    refine ab_lstore_n C dX10_rowBy_28 (Nat.le_of_ble_eq_true rfl) ?_
    refine ab_iinc C dX10_rowBy_29 rfl (v := 1) rfl (Nat.le_of_ble_eq_true rfl) ?_
    refine ab_goto C (tgt := 5) dX10_rowBy_32 (by decide) ?_
    refine ab_weak (lv' := [some (.inr (.inr (0, 0))), some (.inl v1), some (.inl v2), some (.inr (.inl (v3 * q3.1))), none, some (.inl (v5 + 1))]) ⟨.inr rfl, ⟨.inr rfl, ⟨.inr rfl, ⟨.inr rfl, ⟨.inl rfl, ⟨.inr rfl, trivial⟩⟩⟩⟩⟩⟩ ?_
    exact hk5 _ _ _ _ _ h
theorem gX10_rowBy_b5 {R : (Int64 × ab_S)} (C : ab_C yM p s m args meth c D cA ad cX10_rowBy 6 RX10 (some .long)) : ∀ (j : Nat) (v1 : Int32) (v2 : Int32) (v3 : Int64) (v5 : Int32) (σ : ab_S), fX10_rowBy_b5 j v1 v2 v3 v5 σ = some R → ab_G yM p l e s m args below meth c D cA ad 6 72 (some (.inr (.inl R.1))) R.2 5 [some (.inr (.inr (0, 0))), some (.inl v1), some (.inl v2), some (.inr (.inl v3)), none, some (.inl v5)] [] σ := by
  intro j
  induction j with
  | zero => intro v1 v2 v3 v5 σ  h; cases h
  | succ j ih => intro v1 v2 v3 v5 σ  h; exact gX10_rowBy_b5_o C ih _ _ _ _ _ h
set_option maxRecDepth 100000 in
set_option maxHeartbeats 4000000 in
theorem tX10_rowBy (l : Launch) (x1 : Int32) (x2 : Int32) (σ : ab_S) {R : (Int64 × ab_S)} (h : fX10_rowBy x1 x2 σ = some R) : ab_M l yM yX10_rowBy cX10_rowBy 6 (some .long) 72 [.inr (.inr (0, 0)), .inl x1, .inl x2] σ (some (.inr (.inl R.1))) R.2 := by
  refine ab_M_intro ndM (by decide) (Nat.le_of_ble_eq_true rfl) ?_
  intro p e s m args below meth c D cA ad C
  have C : ab_C yM p s m args meth c D cA ad cX10_rowBy 6 RX10 (some .long) := C
  refine ab_weak (lv' := [some (.inr (.inr (0, 0))), some (.inl x1), some (.inl x2), none, none, none]) ⟨.inr rfl, ⟨.inr rfl, ⟨.inr rfl, ⟨.inl rfl, ⟨.inl rfl, ⟨.inl rfl, trivial⟩⟩⟩⟩⟩⟩ ?_
  refine ab_lconst C dX10_rowBy_0 (v := 1) rfl ?_
  refine ab_lstore_n C dX10_rowBy_1 (Nat.le_of_ble_eq_true rfl) ?_
  refine ab_iconst C dX10_rowBy_2 (v := 0) rfl ?_
  refine ab_istore C dX10_rowBy_3 (Nat.le_of_ble_eq_true rfl) ?_
  refine ab_weak (lv' := [some (.inr (.inr (0, 0))), some (.inl x1), some (.inl x2), some (.inr (.inl 1)), none, some (.inl 0)]) ⟨.inr rfl, ⟨.inr rfl, ⟨.inr rfl, ⟨.inr rfl, ⟨.inl rfl, ⟨.inr rfl, trivial⟩⟩⟩⟩⟩⟩ ?_
  exact gX10_rowBy_b5 C ab_N _ _ _ _ _ h
end
def fX10_shift_b14 (σ : ab_S) : Option (Int32 × ab_S) := some ((-1), σ)
def fX10_shift_b34 (σ : ab_S) : Option (Int32 × ab_S) := some ((-11), σ)
def fX10_shift_b63 (σ : ab_S) : Option (Int32 × ab_S) := some ((-12), σ)
def fX10_shift_b107 (σ : ab_S) : Option (Int32 × ab_S) := some ((-13), σ)
def fX10_shift_b150_o (kk150 : Int32 → Int32 → Int32 → Int32 → ab_S → Option (Int32 × ab_S)) (v3 : Int32) (v4 : Int32) (v5 : Int32) (v6 : Int32) (σ : ab_S) : Option (Int32 × ab_S) := (if v5 ≤ v6 then some (v5, σ) else (if ab_inb v6 60 = true then (if ab_inb (((60 * v3) + v4) + v6) 360 = true then ab_k (ab_sl σ 22 0 ((((60 * v3) + v4) + v6).toNatClampNeg) (σ.2 23 0 v6.toNatClampNeg)) fun σ4 => kk150 v3 v4 v5 (v6 + 1) σ4 else none) else none))
def fX10_shift_b150 : Nat → Int32 → Int32 → Int32 → Int32 → ab_S → Option (Int32 × ab_S)
  | 0 => fun _ _ _ _ _ => none
  | n + 1 => fX10_shift_b150_o  (fX10_shift_b150 n)
def fX10_shift_b113_o (kk113 : Int32 → Int32 → Int32 → Int32 → Int32 → Int32 → ab_S → Option (Int32 × ab_S)) (v1 : Int32) (v2 : Int32) (v3 : Int32) (v4 : Int32) (v5 : Int32) (v6 : Int32) (σ : ab_S) : Option (Int32 × ab_S) := (if v5 ≤ v6 then fX10_shift_b150 ab_N v3 v4 v5 0 σ else (if ab_inb (((60 * v1) + v2) + v6) 360 = true then (if ab_inb v6 60 = true then ab_k (ab_sl σ 23 0 v6.toNatClampNeg (σ.2 22 0 ((((60 * v1) + v2) + v6).toNatClampNeg))) fun σ4 => kk113 v1 v2 v3 v4 v5 (v6 + 1) σ4 else none) else none))
def fX10_shift_b113 : Nat → Int32 → Int32 → Int32 → Int32 → Int32 → Int32 → ab_S → Option (Int32 × ab_S)
  | 0 => fun _ _ _ _ _ _ _ => none
  | n + 1 => fX10_shift_b113_o  (fX10_shift_b113 n)
def fX10_shift (x1 : Int32) (x2 : Int32) (x3 : Int32) (x4 : Int32) (x5 : Int32) (σ : ab_S) : Option (Int32 × ab_S) := (fX10_isShelf x1).bind fun q1 => (if q1 = 0 then fX10_shift_b14 σ else (fX10_isShelf x3).bind fun q3 => (if q3 = 0 then fX10_shift_b14 σ else (if ab_inb x1 6 = true then (if (σ.1 20 0 x1.toNatClampNeg) < 0 then fX10_shift_b34 σ else (if ab_inb x3 6 = true then (if 0 ≤ (σ.1 20 0 x3.toNatClampNeg) then (if ab_inb x1 6 = true then (if (σ.1 20 0 x1.toNatClampNeg) < 50 then fX10_shift_b63 σ else (if ab_inb x1 6 = true then (if ab_inb x3 6 = true then (if (σ.1 20 0 x1.toNatClampNeg) = (σ.1 20 0 x3.toNatClampNeg) then (if x5 < 0 then fX10_shift_b107 σ else (if x2 < 0 then fX10_shift_b107 σ else (if x4 < 0 then fX10_shift_b107 σ else (if ab_inb x1 6 = true then (if ((σ.1 21 0 x1.toNatClampNeg) - x5) < x2 then fX10_shift_b107 σ else (if ab_inb x3 6 = true then (if x4 ≤ ((σ.1 21 0 x3.toNatClampNeg) - x5) then fX10_shift_b113 ab_N x1 x2 x3 x4 x5 0 σ else fX10_shift_b107 σ) else none)) else none)))) else fX10_shift_b63 σ) else none) else none)) else none) else fX10_shift_b34 σ) else none)) else none)))
section
variable {p : Program} {l : Launch} {e : Env} {s : State} {m : MethodId} {args : Array Value} {below : List Frame} {meth : Method} {c : Code} {D : va_G} {cA : Nat → ClassId} {ad : Nat → Nat → Nat}
set_option maxRecDepth 100000 in
set_option maxHeartbeats 4000000 in
theorem gX10_shift_b14 {R : (Int32 × ab_S)} (C : ab_C yM p s m args meth c D cA ad cX10_shift 7 RX10 (some .int)) (σ : ab_S) (h : fX10_shift_b14 σ = some R) : ab_G yM p l e s m args below meth c D cA ad 7 2 (some (.inl R.1)) R.2 14 [none, none, none, none, none, none, none] [] σ := by
  refine ab_iconst C dX10_shift_14 (v := (-1)) rfl ?_
  obtain rfl := Option.some.inj h
  exact ab_iret C dX10_shift_15
set_option maxRecDepth 100000 in
set_option maxHeartbeats 4000000 in
theorem gX10_shift_b34 {R : (Int32 × ab_S)} (C : ab_C yM p s m args meth c D cA ad cX10_shift 7 RX10 (some .int)) (σ : ab_S) (h : fX10_shift_b34 σ = some R) : ab_G yM p l e s m args below meth c D cA ad 7 2 (some (.inl R.1)) R.2 34 [none, none, none, none, none, none, none] [] σ := by
  refine ab_bipush C dX10_shift_34 (v := (-11)) rfl ?_
  obtain rfl := Option.some.inj h
  exact ab_iret C dX10_shift_36
set_option maxRecDepth 100000 in
set_option maxHeartbeats 4000000 in
theorem gX10_shift_b63 {R : (Int32 × ab_S)} (C : ab_C yM p s m args meth c D cA ad cX10_shift 7 RX10 (some .int)) (σ : ab_S) (h : fX10_shift_b63 σ = some R) : ab_G yM p l e s m args below meth c D cA ad 7 2 (some (.inl R.1)) R.2 63 [none, none, none, none, none, none, none] [] σ := by
  refine ab_bipush C dX10_shift_63 (v := (-12)) rfl ?_
  obtain rfl := Option.some.inj h
  exact ab_iret C dX10_shift_65
set_option maxRecDepth 100000 in
set_option maxHeartbeats 4000000 in
theorem gX10_shift_b107 {R : (Int32 × ab_S)} (C : ab_C yM p s m args meth c D cA ad cX10_shift 7 RX10 (some .int)) (σ : ab_S) (h : fX10_shift_b107 σ = some R) : ab_G yM p l e s m args below meth c D cA ad 7 2 (some (.inl R.1)) R.2 107 [none, none, none, none, none, none, none] [] σ := by
  refine ab_bipush C dX10_shift_107 (v := (-13)) rfl ?_
  obtain rfl := Option.some.inj h
  exact ab_iret C dX10_shift_109
set_option maxRecDepth 100000 in
set_option maxHeartbeats 4000000 in
theorem gX10_shift_b150_o {R : (Int32 × ab_S)} (C : ab_C yM p s m args meth c D cA ad cX10_shift 7 RX10 (some .int)) {kk150 : Int32 → Int32 → Int32 → Int32 → ab_S → Option (Int32 × ab_S)} (hk150 : ∀ (v3 : Int32) (v4 : Int32) (v5 : Int32) (v6 : Int32) (σ : ab_S), kk150 v3 v4 v5 v6 σ = some R → ab_G yM p l e s m args below meth c D cA ad 7 2 (some (.inl R.1)) R.2 150 [some (.inr (.inr (0, 0))), none, none, some (.inl v3), some (.inl v4), some (.inl v5), some (.inl v6)] [] σ) (v3 : Int32) (v4 : Int32) (v5 : Int32) (v6 : Int32) (σ : ab_S) (h : fX10_shift_b150_o kk150 v3 v4 v5 v6 σ = some R) : ab_G yM p l e s m args below meth c D cA ad 7 2 (some (.inl R.1)) R.2 150 [some (.inr (.inr (0, 0))), none, none, some (.inl v3), some (.inl v4), some (.inl v5), some (.inl v6)] [] σ := by
  refine ab_iload C dX10_shift_150 rfl ?_
  refine ab_iload C dX10_shift_152 rfl ?_
  refine ab_icmp_ge C (tgt := 185) dX10_shift_154 (by decide) (fun hc1 => ?_) (fun hc1 => ?_)
  · replace h := ab_pos hc1 h
    refine ab_iload C dX10_shift_185 rfl ?_
    obtain rfl := Option.some.inj h
    exact ab_iret C dX10_shift_187
  · replace h := ab_neg hc1 h
    refine ab_aload_n C dX10_shift_157 rfl ?_
    refine ab_getR C dX10_shift_158 flX10_76 rkM_0 rfl mmM_0 ?_
    refine ab_bipush C dX10_shift_161 (v := 60) rfl ?_
    refine ab_iload_n C dX10_shift_163 rfl ?_
    refine ab_imul C dX10_shift_164  ?_
    refine ab_iload C dX10_shift_165 rfl ?_
    refine ab_iadd C dX10_shift_167  ?_
    refine ab_iload C dX10_shift_168 rfl ?_
    refine ab_iadd C dX10_shift_170  ?_
    refine ab_aload_n C dX10_shift_171 rfl ?_
    refine ab_getR C dX10_shift_172 flX10_79 rkM_0 rfl mmM_0 ?_
    refine ab_iload C dX10_shift_175 rfl ?_
    obtain ⟨hg2, h⟩ := ab_grd h
    refine ab_lald C dX10_shift_177 rkM_23 mmM_23 hg2 ?_
    obtain ⟨hg3, h⟩ := ab_grd h
    refine ab_last C dX10_shift_178 rkM_22 mmM_22 hg3 ?_
    refine ab_nmS (fun σ4 eσ4 => ?_)
    replace h := ab_kh eσ4 h
    refine ab_iinc C dX10_shift_179 rfl (v := 1) rfl (Nat.le_of_ble_eq_true rfl) ?_
    refine ab_goto C (tgt := 150) dX10_shift_182 (by decide) ?_
    refine ab_weak (lv' := [some (.inr (.inr (0, 0))), none, none, some (.inl v3), some (.inl v4), some (.inl v5), some (.inl (v6 + 1))]) ⟨.inr rfl, ⟨.inl rfl, ⟨.inl rfl, ⟨.inr rfl, ⟨.inr rfl, ⟨.inr rfl, ⟨.inr rfl, trivial⟩⟩⟩⟩⟩⟩⟩ ?_
    exact hk150 _ _ _ _ _ h
theorem gX10_shift_b150 {R : (Int32 × ab_S)} (C : ab_C yM p s m args meth c D cA ad cX10_shift 7 RX10 (some .int)) : ∀ (j : Nat) (v3 : Int32) (v4 : Int32) (v5 : Int32) (v6 : Int32) (σ : ab_S), fX10_shift_b150 j v3 v4 v5 v6 σ = some R → ab_G yM p l e s m args below meth c D cA ad 7 2 (some (.inl R.1)) R.2 150 [some (.inr (.inr (0, 0))), none, none, some (.inl v3), some (.inl v4), some (.inl v5), some (.inl v6)] [] σ := by
  intro j
  induction j with
  | zero => intro v3 v4 v5 v6 σ  h; cases h
  | succ j ih => intro v3 v4 v5 v6 σ  h; exact gX10_shift_b150_o C ih _ _ _ _ _ h
set_option maxRecDepth 100000 in
set_option maxHeartbeats 4000000 in
theorem gX10_shift_b113_o {R : (Int32 × ab_S)} (C : ab_C yM p s m args meth c D cA ad cX10_shift 7 RX10 (some .int)) {kk113 : Int32 → Int32 → Int32 → Int32 → Int32 → Int32 → ab_S → Option (Int32 × ab_S)} (hk113 : ∀ (v1 : Int32) (v2 : Int32) (v3 : Int32) (v4 : Int32) (v5 : Int32) (v6 : Int32) (σ : ab_S), kk113 v1 v2 v3 v4 v5 v6 σ = some R → ab_G yM p l e s m args below meth c D cA ad 7 2 (some (.inl R.1)) R.2 113 [some (.inr (.inr (0, 0))), some (.inl v1), some (.inl v2), some (.inl v3), some (.inl v4), some (.inl v5), some (.inl v6)] [] σ) (v1 : Int32) (v2 : Int32) (v3 : Int32) (v4 : Int32) (v5 : Int32) (v6 : Int32) (σ : ab_S) (h : fX10_shift_b113_o kk113 v1 v2 v3 v4 v5 v6 σ = some R) : ab_G yM p l e s m args below meth c D cA ad 7 2 (some (.inl R.1)) R.2 113 [some (.inr (.inr (0, 0))), some (.inl v1), some (.inl v2), some (.inl v3), some (.inl v4), some (.inl v5), some (.inl v6)] [] σ := by
  refine ab_iload C dX10_shift_113 rfl ?_
  refine ab_iload C dX10_shift_115 rfl ?_
  refine ab_icmp_ge C (tgt := 147) dX10_shift_117 (by decide) (fun hc1 => ?_) (fun hc1 => ?_)
  · replace h := ab_pos hc1 h
    refine ab_iconst C dX10_shift_147 (v := 0) rfl ?_
    refine ab_istore C dX10_shift_148 (Nat.le_of_ble_eq_true rfl) ?_
    refine ab_weak (lv' := [some (.inr (.inr (0, 0))), none, none, some (.inl v3), some (.inl v4), some (.inl v5), some (.inl 0)]) ⟨.inr rfl, ⟨.inl rfl, ⟨.inl rfl, ⟨.inr rfl, ⟨.inr rfl, ⟨.inr rfl, ⟨.inr rfl, trivial⟩⟩⟩⟩⟩⟩⟩ ?_
    exact gX10_shift_b150 C ab_N _ _ _ _ _ h
  · replace h := ab_neg hc1 h
    refine ab_aload_n C dX10_shift_120 rfl ?_
    refine ab_getR C dX10_shift_121 flX10_79 rkM_0 rfl mmM_0 ?_
    refine ab_iload C dX10_shift_124 rfl ?_
    refine ab_aload_n C dX10_shift_126 rfl ?_
    refine ab_getR C dX10_shift_127 flX10_76 rkM_0 rfl mmM_0 ?_
    refine ab_bipush C dX10_shift_130 (v := 60) rfl ?_
    refine ab_iload_n C dX10_shift_132 rfl ?_
    refine ab_imul C dX10_shift_133  ?_
    refine ab_iload_n C dX10_shift_134 rfl ?_
    refine ab_iadd C dX10_shift_135  ?_
    refine ab_iload C dX10_shift_136 rfl ?_
    refine ab_iadd C dX10_shift_138  ?_
    obtain ⟨hg2, h⟩ := ab_grd h
    refine ab_lald C dX10_shift_139 rkM_22 mmM_22 hg2 ?_
    obtain ⟨hg3, h⟩ := ab_grd h
    refine ab_last C dX10_shift_140 rkM_23 mmM_23 hg3 ?_
    refine ab_nmS (fun σ4 eσ4 => ?_)
    replace h := ab_kh eσ4 h
    refine ab_iinc C dX10_shift_141 rfl (v := 1) rfl (Nat.le_of_ble_eq_true rfl) ?_
    refine ab_goto C (tgt := 113) dX10_shift_144 (by decide) ?_
    refine ab_weak (lv' := [some (.inr (.inr (0, 0))), some (.inl v1), some (.inl v2), some (.inl v3), some (.inl v4), some (.inl v5), some (.inl (v6 + 1))]) ⟨.inr rfl, ⟨.inr rfl, ⟨.inr rfl, ⟨.inr rfl, ⟨.inr rfl, ⟨.inr rfl, ⟨.inr rfl, trivial⟩⟩⟩⟩⟩⟩⟩ ?_
    exact hk113 _ _ _ _ _ _ _ h
theorem gX10_shift_b113 {R : (Int32 × ab_S)} (C : ab_C yM p s m args meth c D cA ad cX10_shift 7 RX10 (some .int)) : ∀ (j : Nat) (v1 : Int32) (v2 : Int32) (v3 : Int32) (v4 : Int32) (v5 : Int32) (v6 : Int32) (σ : ab_S), fX10_shift_b113 j v1 v2 v3 v4 v5 v6 σ = some R → ab_G yM p l e s m args below meth c D cA ad 7 2 (some (.inl R.1)) R.2 113 [some (.inr (.inr (0, 0))), some (.inl v1), some (.inl v2), some (.inl v3), some (.inl v4), some (.inl v5), some (.inl v6)] [] σ := by
  intro j
  induction j with
  | zero => intro v1 v2 v3 v4 v5 v6 σ  h; cases h
  | succ j ih => intro v1 v2 v3 v4 v5 v6 σ  h; exact gX10_shift_b113_o C ih _ _ _ _ _ _ _ h
set_option maxRecDepth 100000 in
set_option maxHeartbeats 4000000 in
theorem tX10_shift (l : Launch) (x1 : Int32) (x2 : Int32) (x3 : Int32) (x4 : Int32) (x5 : Int32) (σ : ab_S) {R : (Int32 × ab_S)} (h : fX10_shift x1 x2 x3 x4 x5 σ = some R) : ab_M l yM yX10_shift cX10_shift 7 (some .int) 2 [.inr (.inr (0, 0)), .inl x1, .inl x2, .inl x3, .inl x4, .inl x5] σ (some (.inl R.1)) R.2 := by
  refine ab_M_intro ndM (by decide) (Nat.le_of_ble_eq_true rfl) ?_
  intro p e s m args below meth c D cA ad C
  have C : ab_C yM p s m args meth c D cA ad cX10_shift 7 RX10 (some .int) := C
  refine ab_weak (lv' := [some (.inr (.inr (0, 0))), some (.inl x1), some (.inl x2), some (.inl x3), some (.inl x4), some (.inl x5), none]) ⟨.inr rfl, ⟨.inr rfl, ⟨.inr rfl, ⟨.inr rfl, ⟨.inr rfl, ⟨.inr rfl, ⟨.inl rfl, trivial⟩⟩⟩⟩⟩⟩⟩ ?_
  refine ab_iload_n C dX10_shift_0 rfl ?_
  obtain ⟨q1, hq1, h⟩ := ab_bind h
  refine ab_invS1 C dX10_shift_1 mlX10_113 ysX10_isShelf (tX10_isShelf l _ _ hq1) (Nat.le_of_ble_eq_true rfl) (Nat.le_of_ble_eq_true rfl) rfl (Nat.le_of_ble_eq_true rfl) ?_
  refine ab_if_eq C (tgt := 14) dX10_shift_4 (by decide) (fun hc2 => ?_) (fun hc2 => ?_)
  · replace h := ab_pos hc2 h
    refine ab_weak (lv' := [none, none, none, none, none, none, none]) ⟨.inl rfl, ⟨.inl rfl, ⟨.inl rfl, ⟨.inl rfl, ⟨.inl rfl, ⟨.inl rfl, ⟨.inl rfl, trivial⟩⟩⟩⟩⟩⟩⟩ ?_
    exact gX10_shift_b14 C _ h
  · replace h := ab_neg hc2 h
    refine ab_iload_n C dX10_shift_7 rfl ?_
    obtain ⟨q3, hq3, h⟩ := ab_bind h
    refine ab_invS1 C dX10_shift_8 mlX10_113 ysX10_isShelf (tX10_isShelf l _ _ hq3) (Nat.le_of_ble_eq_true rfl) (Nat.le_of_ble_eq_true rfl) rfl (Nat.le_of_ble_eq_true rfl) ?_
    refine ab_if_ne C (tgt := 16) dX10_shift_11 (by decide) (fun hc4 => ?_) (fun hc4 => ?_)
    · replace h := ab_neg hc4 h
      refine ab_aload_n C dX10_shift_16 rfl ?_
      refine ab_getR C dX10_shift_17 flX10_70 rkM_0 rfl mmM_0 ?_
      refine ab_iload_n C dX10_shift_20 rfl ?_
      obtain ⟨hg5, h⟩ := ab_grd h
      refine ab_iald C dX10_shift_21 rkM_20 mmM_20 hg5 ?_
      refine ab_if_lt C (tgt := 34) dX10_shift_22 (by decide) (fun hc6 => ?_) (fun hc6 => ?_)
      · replace h := ab_pos hc6 h
        refine ab_weak (lv' := [none, none, none, none, none, none, none]) ⟨.inl rfl, ⟨.inl rfl, ⟨.inl rfl, ⟨.inl rfl, ⟨.inl rfl, ⟨.inl rfl, ⟨.inl rfl, trivial⟩⟩⟩⟩⟩⟩⟩ ?_
        exact gX10_shift_b34 C _ h
      · replace h := ab_neg hc6 h
        refine ab_aload_n C dX10_shift_25 rfl ?_
        refine ab_getR C dX10_shift_26 flX10_70 rkM_0 rfl mmM_0 ?_
        refine ab_iload_n C dX10_shift_29 rfl ?_
        obtain ⟨hg7, h⟩ := ab_grd h
        refine ab_iald C dX10_shift_30 rkM_20 mmM_20 hg7 ?_
        refine ab_if_ge C (tgt := 37) dX10_shift_31 (by decide) (fun hc8 => ?_) (fun hc8 => ?_)
        · replace h := ab_pos hc8 h
          refine ab_aload_n C dX10_shift_37 rfl ?_
          refine ab_getR C dX10_shift_38 flX10_70 rkM_0 rfl mmM_0 ?_
          refine ab_iload_n C dX10_shift_41 rfl ?_
          obtain ⟨hg9, h⟩ := ab_grd h
          refine ab_iald C dX10_shift_42 rkM_20 mmM_20 hg9 ?_
          refine ab_bipush C dX10_shift_43 (v := 50) rfl ?_
          refine ab_icmp_lt C (tgt := 63) dX10_shift_45 (by decide) (fun hc10 => ?_) (fun hc10 => ?_)
          · replace h := ab_pos hc10 h
            refine ab_weak (lv' := [none, none, none, none, none, none, none]) ⟨.inl rfl, ⟨.inl rfl, ⟨.inl rfl, ⟨.inl rfl, ⟨.inl rfl, ⟨.inl rfl, ⟨.inl rfl, trivial⟩⟩⟩⟩⟩⟩⟩ ?_
            exact gX10_shift_b63 C _ h
          · replace h := ab_neg hc10 h
            refine ab_aload_n C dX10_shift_48 rfl ?_
            refine ab_getR C dX10_shift_49 flX10_70 rkM_0 rfl mmM_0 ?_
            refine ab_iload_n C dX10_shift_52 rfl ?_
            obtain ⟨hg11, h⟩ := ab_grd h
            refine ab_iald C dX10_shift_53 rkM_20 mmM_20 hg11 ?_
            refine ab_aload_n C dX10_shift_54 rfl ?_
            refine ab_getR C dX10_shift_55 flX10_70 rkM_0 rfl mmM_0 ?_
            refine ab_iload_n C dX10_shift_58 rfl ?_
            obtain ⟨hg12, h⟩ := ab_grd h
            refine ab_iald C dX10_shift_59 rkM_20 mmM_20 hg12 ?_
            refine ab_icmp_eq C (tgt := 66) dX10_shift_60 (by decide) (fun hc13 => ?_) (fun hc13 => ?_)
            · replace h := ab_pos hc13 h
              refine ab_iload C dX10_shift_66 rfl ?_
              refine ab_if_lt C (tgt := 107) dX10_shift_68 (by decide) (fun hc14 => ?_) (fun hc14 => ?_)
              · replace h := ab_pos hc14 h
                refine ab_weak (lv' := [none, none, none, none, none, none, none]) ⟨.inl rfl, ⟨.inl rfl, ⟨.inl rfl, ⟨.inl rfl, ⟨.inl rfl, ⟨.inl rfl, ⟨.inl rfl, trivial⟩⟩⟩⟩⟩⟩⟩ ?_
                exact gX10_shift_b107 C _ h
              · replace h := ab_neg hc14 h
                refine ab_iload_n C dX10_shift_71 rfl ?_
                refine ab_if_lt C (tgt := 107) dX10_shift_72 (by decide) (fun hc15 => ?_) (fun hc15 => ?_)
                · replace h := ab_pos hc15 h
                  refine ab_weak (lv' := [none, none, none, none, none, none, none]) ⟨.inl rfl, ⟨.inl rfl, ⟨.inl rfl, ⟨.inl rfl, ⟨.inl rfl, ⟨.inl rfl, ⟨.inl rfl, trivial⟩⟩⟩⟩⟩⟩⟩ ?_
                  exact gX10_shift_b107 C _ h
                · replace h := ab_neg hc15 h
                  refine ab_iload C dX10_shift_75 rfl ?_
                  refine ab_if_lt C (tgt := 107) dX10_shift_77 (by decide) (fun hc16 => ?_) (fun hc16 => ?_)
                  · replace h := ab_pos hc16 h
                    refine ab_weak (lv' := [none, none, none, none, none, none, none]) ⟨.inl rfl, ⟨.inl rfl, ⟨.inl rfl, ⟨.inl rfl, ⟨.inl rfl, ⟨.inl rfl, ⟨.inl rfl, trivial⟩⟩⟩⟩⟩⟩⟩ ?_
                    exact gX10_shift_b107 C _ h
                  · replace h := ab_neg hc16 h
                    refine ab_iload_n C dX10_shift_80 rfl ?_
                    refine ab_aload_n C dX10_shift_81 rfl ?_
                    refine ab_getR C dX10_shift_82 flX10_73 rkM_0 rfl mmM_0 ?_
                    refine ab_iload_n C dX10_shift_85 rfl ?_
                    obtain ⟨hg17, h⟩ := ab_grd h
                    refine ab_iald C dX10_shift_86 rkM_21 mmM_21 hg17 ?_
                    refine ab_iload C dX10_shift_87 rfl ?_
                    refine ab_isub C dX10_shift_89  ?_
                    refine ab_icmp_gt C (tgt := 107) dX10_shift_90 (by decide) (fun hc18 => ?_) (fun hc18 => ?_)
                    · replace h := ab_pos hc18 h
                      refine ab_weak (lv' := [none, none, none, none, none, none, none]) ⟨.inl rfl, ⟨.inl rfl, ⟨.inl rfl, ⟨.inl rfl, ⟨.inl rfl, ⟨.inl rfl, ⟨.inl rfl, trivial⟩⟩⟩⟩⟩⟩⟩ ?_
                      exact gX10_shift_b107 C _ h
                    · replace h := ab_neg hc18 h
                      refine ab_iload C dX10_shift_93 rfl ?_
                      refine ab_aload_n C dX10_shift_95 rfl ?_
                      refine ab_getR C dX10_shift_96 flX10_73 rkM_0 rfl mmM_0 ?_
                      refine ab_iload_n C dX10_shift_99 rfl ?_
                      obtain ⟨hg19, h⟩ := ab_grd h
                      refine ab_iald C dX10_shift_100 rkM_21 mmM_21 hg19 ?_
                      refine ab_iload C dX10_shift_101 rfl ?_
                      refine ab_isub C dX10_shift_103  ?_
                      refine ab_icmp_le C (tgt := 110) dX10_shift_104 (by decide) (fun hc20 => ?_) (fun hc20 => ?_)
                      · replace h := ab_pos hc20 h
                        refine ab_iconst C dX10_shift_110 (v := 0) rfl ?_
                        refine ab_istore C dX10_shift_111 (Nat.le_of_ble_eq_true rfl) ?_
                        refine ab_weak (lv' := [some (.inr (.inr (0, 0))), some (.inl x1), some (.inl x2), some (.inl x3), some (.inl x4), some (.inl x5), some (.inl 0)]) ⟨.inr rfl, ⟨.inr rfl, ⟨.inr rfl, ⟨.inr rfl, ⟨.inr rfl, ⟨.inr rfl, ⟨.inr rfl, trivial⟩⟩⟩⟩⟩⟩⟩ ?_
                        exact gX10_shift_b113 C ab_N _ _ _ _ _ _ _ h
                      · replace h := ab_neg hc20 h
                        refine ab_weak (lv' := [none, none, none, none, none, none, none]) ⟨.inl rfl, ⟨.inl rfl, ⟨.inl rfl, ⟨.inl rfl, ⟨.inl rfl, ⟨.inl rfl, ⟨.inl rfl, trivial⟩⟩⟩⟩⟩⟩⟩ ?_
                        exact gX10_shift_b107 C _ h
            · replace h := ab_neg hc13 h
              refine ab_weak (lv' := [none, none, none, none, none, none, none]) ⟨.inl rfl, ⟨.inl rfl, ⟨.inl rfl, ⟨.inl rfl, ⟨.inl rfl, ⟨.inl rfl, ⟨.inl rfl, trivial⟩⟩⟩⟩⟩⟩⟩ ?_
              exact gX10_shift_b63 C _ h
        · replace h := ab_neg hc8 h
          refine ab_weak (lv' := [none, none, none, none, none, none, none]) ⟨.inl rfl, ⟨.inl rfl, ⟨.inl rfl, ⟨.inl rfl, ⟨.inl rfl, ⟨.inl rfl, ⟨.inl rfl, trivial⟩⟩⟩⟩⟩⟩⟩ ?_
          exact gX10_shift_b34 C _ h
    · replace h := ab_pos hc4 h
      refine ab_weak (lv' := [none, none, none, none, none, none, none]) ⟨.inl rfl, ⟨.inl rfl, ⟨.inl rfl, ⟨.inl rfl, ⟨.inl rfl, ⟨.inl rfl, ⟨.inl rfl, trivial⟩⟩⟩⟩⟩⟩⟩ ?_
      exact gX10_shift_b14 C _ h
end
