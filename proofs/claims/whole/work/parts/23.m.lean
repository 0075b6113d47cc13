def fX10_sure_b28 (σ : ab_S) : Option (Int64 × ab_S) := some ((-9223372036854775808), σ)
def fX10_sure_b95 (v3 : Int32) (t0 : Int64) (σ : ab_S) : Option (Int64 × ab_S) := (fX10_wholeOf σ).bind fun q1 => (fX10_partOf t0 q1 v3).bind fun q2 => some (q2, σ)
def fX10_sure_b79 (t0 : Int64) (σ : ab_S) : Option (Int64 × ab_S) := some (t0, σ)
def fX10_sure (x1 : Int32) (x2 : Int32) (x3 : Int32) (σ : ab_S) : Option (Int64 × ab_S) := (fX10_areHosts x1).bind fun q1 => (if q1 = 0 then fX10_sure_b28 σ else (fX10_isDoor ((x2 : Int32).toInt64) σ).bind fun q3 => (if q3 = 0 then fX10_sure_b28 σ else (fX10_within ((x3 : Int32).toInt64) 0 2).bind fun q5 => (if q5 = 0 then fX10_sure_b28 σ else (fX10_allWeights σ).bind fun q7 => (if q7 = 0 then some ((-2), σ) else (fX10_leastOf x1 0 x2 σ).bind fun q9 => (fX10_leastOf x1 1 x2 q9.2).bind fun q10 => (if x3 = 2 then (if (lg_cmp q10.1 q9.1) ≤ 0 then fX10_sure_b79 0 q10.2 else fX10_sure_b79 1 q10.2) else (if (lg_cmp q10.1 q9.1) ≤ 0 then fX10_sure_b95 x3 q9.1 q10.2 else fX10_sure_b95 x3 q10.1 q10.2))))))
section
variable {p : Program} {l : Launch} {e : Env} {s : State} {m : MethodId} {args : Array Value} {below : List Frame} {meth : Method} {c : Code} {D : va_G} {cA : Nat → ClassId} {ad : Nat → Nat → Nat}
set_option maxRecDepth 100000 in
set_option maxHeartbeats 4000000 in
theorem gX10_sure_b28 {R : (Int64 × ab_S)} (C : ab_C yM p s m args meth c D cA ad cX10_sure 8 RX10 (some .long)) (σ : ab_S) (h : fX10_sure_b28 σ = some R) : ab_G yM p l e s m args below meth c D cA ad 8 138 (some (.inr (.inl R.1))) R.2 28 [none, none, none, none, none, none, none, none] [] σ := by
  refine ab_ldc2 C dX10_sure_28 cwX10_220 ?_
  obtain rfl := Option.some.inj h
  exact ab_lret C dX10_sure_31
set_option maxRecDepth 100000 in
set_option maxHeartbeats 4000000 in
theorem gX10_sure_b95 {R : (Int64 × ab_S)} (C : ab_C yM p s m args meth c D cA ad cX10_sure 8 RX10 (some .long)) (v3 : Int32) (t0 : Int64) (σ : ab_S) (h : fX10_sure_b95 v3 t0 σ = some R) : ab_G yM p l e s m args below meth c D cA ad 8 138 (some (.inr (.inl R.1))) R.2 95 [some (.inr (.inr (0, 0))), none, none, some (.inl v3), none, none, none, none] [.inr (.inl t0)] σ := by
  refine ab_aload_n C dX10_sure_95 rfl ?_
  obtain ⟨q1, hq1, h⟩ := ab_bind h
  refine ab_inv1 C dX10_sure_96 mlX10_268 yvX10_wholeOf rkM_0 ⟨_, _, rfl⟩ mmM_0 (tX10_wholeOf l _ hq1) (Nat.le_of_ble_eq_true rfl) (Nat.le_of_ble_eq_true rfl) rfl (Nat.le_of_ble_eq_true rfl) ?_
  refine ab_iload_n C dX10_sure_99 rfl ?_
  obtain ⟨q2, hq2, h⟩ := ab_bind h
  refine ab_invS1 C dX10_sure_100 mlX10_228 ysX10_partOf (tX10_partOf l _ _ _ _ hq2) (Nat.le_of_ble_eq_true rfl) (Nat.le_of_ble_eq_true rfl) rfl (Nat.le_of_ble_eq_true rfl) ?_
  obtain rfl := Option.some.inj h
  exact ab_lret C dX10_sure_103
set_option maxRecDepth 100000 in
set_option maxHeartbeats 4000000 in
theorem gX10_sure_b79 {R : (Int64 × ab_S)} (C : ab_C yM p s m args meth c D cA ad cX10_sure 8 RX10 (some .long)) (t0 : Int64) (σ : ab_S) (h : fX10_sure_b79 t0 σ = some R) : ab_G yM p l e s m args below meth c D cA ad 8 138 (some (.inr (.inl R.1))) R.2 79 [none, none, none, none, none, none, none, none] [.inr (.inl t0)] σ := by
  obtain rfl := Option.some.inj h
  exact ab_lret C dX10_sure_79
set_option maxRecDepth 100000 in
set_option maxHeartbeats 4000000 in
theorem tX10_sure (l : Launch) (x1 : Int32) (x2 : Int32) (x3 : Int32) (σ : ab_S) {R : (Int64 × ab_S)} (h : fX10_sure x1 x2 x3 σ = some R) : ab_M l yM yX10_sure cX10_sure 8 (some .long) 138 [.inr (.inr (0, 0)), .inl x1, .inl x2, .inl x3] σ (some (.inr (.inl R.1))) R.2 := by
  refine ab_M_intro ndM (by decide) (Nat.le_of_ble_eq_true rfl) ?_
  intro p e s m args below meth c D cA ad C
  have C : ab_C yM p s m args meth c D cA ad cX10_sure 8 RX10 (some .long) := C
  refine ab_weak (lv' := [some (.inr (.inr (0, 0))), some (.inl x1), some (.inl x2), some (.inl x3), none, none, none, none]) ⟨.inr rfl, ⟨.inr rfl, ⟨.inr rfl, ⟨.inr rfl, ⟨.inl rfl, ⟨.inl rfl, ⟨.inl rfl, ⟨.inl rfl, trivial⟩⟩⟩⟩⟩⟩⟩⟩ ?_
  refine ab_iload_n C dX10_sure_0 rfl ?_
  obtain ⟨q1, hq1, h⟩ := ab_bind h
  refine ab_invS1 C dX10_sure_1 mlX10_282 ysX10_areHosts (tX10_areHosts l _ _ hq1) (Nat.le_of_ble_eq_true rfl) (Nat.le_of_ble_eq_true rfl) rfl (Nat.le_of_ble_eq_true rfl) ?_
  refine ab_if_eq C (tgt := 28) dX10_sure_4 (by decide) (fun hc2 => ?_) (fun hc2 => ?_)
  · replace h := ab_pos hc2 h
    refine ab_weak (lv' := [none, none, none, none, none, none, none, none]) ⟨.inl rfl, ⟨.inl rfl, ⟨.inl rfl, ⟨.inl rfl, ⟨.inl rfl, ⟨.inl rfl, ⟨.inl rfl, ⟨.inl rfl, trivial⟩⟩⟩⟩⟩⟩⟩⟩ ?_
    exact gX10_sure_b28 C _ h
  · replace h := ab_neg hc2 h
    refine ab_aload_n C dX10_sure_7 rfl ?_
    refine ab_iload_n C dX10_sure_8 rfl ?_
    refine ab_i2l C dX10_sure_9  ?_
    obtain ⟨q3, hq3, h⟩ := ab_bind h
    refine ab_inv1 C dX10_sure_10 mlX10_117 yvX10_isDoor rkM_0 ⟨_, _, rfl⟩ mmM_0 (tX10_isDoor l _ _ hq3) (Nat.le_of_ble_eq_true rfl) (Nat.le_of_ble_eq_true rfl) rfl (Nat.le_of_ble_eq_true rfl) ?_
    refine ab_if_eq C (tgt := 28) dX10_sure_13 (by decide) (fun hc4 => ?_) (fun hc4 => ?_)
    · replace h := ab_pos hc4 h
      refine ab_weak (lv' := [none, none, none, none, none, none, none, none]) ⟨.inl rfl, ⟨.inl rfl, ⟨.inl rfl, ⟨.inl rfl, ⟨.inl rfl, ⟨.inl rfl, ⟨.inl rfl, ⟨.inl rfl, trivial⟩⟩⟩⟩⟩⟩⟩⟩ ?_
      exact gX10_sure_b28 C _ h
    · replace h := ab_neg hc4 h
      refine ab_iload_n C dX10_sure_16 rfl ?_
      refine ab_i2l C dX10_sure_17  ?_
      refine ab_lconst C dX10_sure_18 (v := 0) rfl ?_
      refine ab_ldc2 C dX10_sure_19 cwX10_109 ?_
      obtain ⟨q5, hq5, h⟩ := ab_bind h
      refine ab_invS1 C dX10_sure_22 mlX10_105 ysX10_within (tX10_within l _ _ _ _ hq5) (Nat.le_of_ble_eq_true rfl) (Nat.le_of_ble_eq_true rfl) rfl (Nat.le_of_ble_eq_true rfl) ?_
      refine ab_if_ne C (tgt := 32) dX10_sure_25 (by decide) (fun hc6 => ?_) (fun hc6 => ?_)
      · replace h := ab_neg hc6 h
        refine ab_aload_n C dX10_sure_32 rfl ?_
        obtain ⟨q7, hq7, h⟩ := ab_bind h
        refine ab_inv1 C dX10_sure_33 mlX10_259 yvX10_allWeights rkM_0 ⟨_, _, rfl⟩ mmM_0 (tX10_allWeights l _ hq7) (Nat.le_of_ble_eq_true rfl) (Nat.le_of_ble_eq_true rfl) rfl (Nat.le_of_ble_eq_true rfl) ?_
        refine ab_if_ne C (tgt := 43) dX10_sure_36 (by decide) (fun hc8 => ?_) (fun hc8 => ?_)
        · replace h := ab_neg hc8 h
          refine ab_aload_n C dX10_sure_43 rfl ?_
          refine ab_iload_n C dX10_sure_44 rfl ?_
          refine ab_iconst C dX10_sure_45 (v := 0) rfl ?_
          refine ab_iload_n C dX10_sure_46 rfl ?_
          obtain ⟨q9, hq9, h⟩ := ab_bind h
          refine ab_inv1 C dX10_sure_47 mlX10_285 yvX10_leastOf rkM_0 ⟨_, _, rfl⟩ mmM_0 (tX10_leastOf l _ _ _ _ hq9) (Nat.le_of_ble_eq_true rfl) (Nat.le_of_ble_eq_true rfl) rfl (Nat.le_of_ble_eq_true rfl) ?_
          refine ab_lstore C dX10_sure_50 (Nat.le_of_ble_eq_true rfl) ?_
          refine ab_aload_n C dX10_sure_52 rfl ?_
          refine ab_iload_n C dX10_sure_53 rfl ?_
          refine ab_iconst C dX10_sure_54 (v := 1) rfl ?_
          refine ab_iload_n C dX10_sure_55 rfl ?_
          obtain ⟨q10, hq10, h⟩ := ab_bind h
          refine ab_inv1 C dX10_sure_56 mlX10_285 yvX10_leastOf rkM_0 ⟨_, _, rfl⟩ mmM_0 (tX10_leastOf l _ _ _ _ hq10) (Nat.le_of_ble_eq_true rfl) (Nat.le_of_ble_eq_true rfl) rfl (Nat.le_of_ble_eq_true rfl) ?_
          refine ab_lstore C dX10_sure_59 (Nat.le_of_ble_eq_true rfl) ?_
          refine ab_iload_n C dX10_sure_61 rfl ?_
          refine ab_iconst C dX10_sure_62 (v := 2) rfl ?_
          refine ab_icmp_ne C (tgt := 80) dX10_sure_63 (by decide) (fun hc11 => ?_) (fun hc11 => ?_)
          · replace h := ab_neg hc11 h
            refine ab_lload C dX10_sure_80 rfl ?_
            refine ab_lload C dX10_sure_82 rfl ?_
            refine ab_lcmp C dX10_sure_84  ?_
            refine ab_if_le C (tgt := 93) dX10_sure_85 (by decide) (fun hc12 => ?_) (fun hc12 => ?_)
            · replace h := ab_pos hc12 h
              refine ab_lload C dX10_sure_93 rfl ?_
              refine ab_weak (lv' := [some (.inr (.inr (0, 0))), none, none, some (.inl x3), none, none, none, none]) ⟨.inr rfl, ⟨.inl rfl, ⟨.inl rfl, ⟨.inr rfl, ⟨.inl rfl, ⟨.inl rfl, ⟨.inl rfl, ⟨.inl rfl, trivial⟩⟩⟩⟩⟩⟩⟩⟩ ?_
              exact gX10_sure_b95 C _ _ _ h
            · replace h := ab_neg hc12 h
              refine ab_lload C dX10_sure_88 rfl ?_
              refine ab_goto C (tgt := 95) dX10_sure_90 (by decide) ?_
              refine ab_weak (lv' := [some (.inr (.inr (0, 0))), none, none, some (.inl x3), none, none, none, none]) ⟨.inr rfl, ⟨.inl rfl, ⟨.inl rfl, ⟨.inr rfl, ⟨.inl rfl, ⟨.inl rfl, ⟨.inl rfl, ⟨.inl rfl, trivial⟩⟩⟩⟩⟩⟩⟩⟩ ?_
              exact gX10_sure_b95 C _ _ _ h
          · replace h := ab_pos hc11 h
            refine ab_lload C dX10_sure_66 rfl ?_
            refine ab_lload C dX10_sure_68 rfl ?_
            refine ab_lcmp C dX10_sure_70  ?_
            refine ab_if_le C (tgt := 78) dX10_sure_71 (by decide) (fun hc13 => ?_) (fun hc13 => ?_)
            · replace h := ab_pos hc13 h
              refine ab_lconst C dX10_sure_78 (v := 0) rfl ?_
              refine ab_weak (lv' := [none, none, none, none, none, none, none, none]) ⟨.inl rfl, ⟨.inl rfl, ⟨.inl rfl, ⟨.inl rfl, ⟨.inl rfl, ⟨.inl rfl, ⟨.inl rfl, ⟨.inl rfl, trivial⟩⟩⟩⟩⟩⟩⟩⟩ ?_
              exact gX10_sure_b79 C _ _ h
            · replace h := ab_neg hc13 h
              refine ab_lconst C dX10_sure_74 (v := 1) rfl ?_
              refine ab_goto C (tgt := 79) dX10_sure_75 (by decide) ?_
              refine ab_weak (lv' := [none, none, none, none, none, none, none, none]) ⟨.inl rfl, ⟨.inl rfl, ⟨.inl rfl, ⟨.inl rfl, ⟨.inl rfl, ⟨.inl rfl, ⟨.inl rfl, ⟨.inl rfl, trivial⟩⟩⟩⟩⟩⟩⟩⟩ ?_
              exact gX10_sure_b79 C _ _ h
        · replace h := ab_pos hc8 h
          refine ab_ldc2 C dX10_sure_39 cwX10_226 ?_
          obtain rfl := Option.some.inj h
          exact ab_lret C dX10_sure_42
      · replace h := ab_pos hc6 h
        refine ab_weak (lv' := [none, none, none, none, none, none, none, none]) ⟨.inl rfl, ⟨.inl rfl, ⟨.inl rfl, ⟨.inl rfl, ⟨.inl rfl, ⟨.inl rfl, ⟨.inl rfl, ⟨.inl rfl, trivial⟩⟩⟩⟩⟩⟩⟩⟩ ?_
        exact gX10_sure_b28 C _ h
end
def fX10_taken_b19 (σ : ab_S) : Option Int32 := some ((-1))
def fX10_taken_b95 (t0 : Int32) (σ : ab_S) : Option Int32 := some t0
def fX10_taken_b75 (v1 : Int32) (v2 : Int32) (v3 : Int32) (σ : ab_S) : Option Int32 := (if v3 = v2 then (if ab_inb v1 6 = true then (fX10_kindOf (σ.1 20 0 v1.toNatClampNeg) σ).bind fun q3 => fX10_taken_b95 q3 σ else none) else fX10_taken_b95 ((-12)) σ)
def fX10_taken_b58_o (kk58 : Int32 → Int32 → Int32 → ab_S → Option Int32) (v1 : Int32) (v2 : Int32) (v3 : Int32) (σ : ab_S) : Option Int32 := (if v3 = v2 then fX10_taken_b75 v1 v2 v3 σ else (if v3 ≤ 0 then fX10_taken_b75 v1 v2 v3 σ else (fX10_above v3).bind fun q3 => kk58 v1 v2 q3 σ))
def fX10_taken_b58 : Nat → Int32 → Int32 → Int32 → ab_S → Option Int32
  | 0 => fun _ _ _ _ => none
  | n + 1 => fX10_taken_b58_o  (fX10_taken_b58 n)
def fX10_taken (x1 : Int32) (x2 : Int32) (σ : ab_S) : Option Int32 := (fX10_isShelf x1).bind fun q1 => (if q1 = 0 then fX10_taken_b19 σ else (fX10_within ((x2 : Int32).toInt64) 0 7).bind fun q3 => (if q3 = 0 then fX10_taken_b19 σ else (if ab_inb x1 6 = true then (if 0 ≤ (σ.1 20 0 x1.toNatClampNeg) then (if ab_inb x1 6 = true then (if (σ.1 20 0 x1.toNatClampNeg) < 50 then (if ab_inb x1 6 = true then (fX10_kindOf (σ.1 20 0 x1.toNatClampNeg) σ).bind fun q10 => fX10_taken_b58 ab_N x1 x2 q10 σ else none) else some ((-12))) else none) else some ((-11))) else none)))
section
variable {p : Program} {l : Launch} {e : Env} {s : State} {m : MethodId} {args : Array Value} {below : List Frame} {meth : Method} {c : Code} {D : va_G} {cA : Nat → ClassId} {ad : Nat → Nat → Nat}
set_option maxRecDepth 100000 in
set_option maxHeartbeats 4000000 in
theorem gX10_taken_b19 {R : Int32} (C : ab_C yM p s m args meth c D cA ad cX10_taken 4 RX10 (some .int)) (σ : ab_S) (h : fX10_taken_b19 σ = some R) : ab_G yM p l e s m args below meth c D cA ad 4 2 (some (.inl R)) σ 19 [none, none, none, none] [] σ := by
  refine ab_iconst C dX10_taken_19 (v := (-1)) rfl ?_
  obtain rfl := Option.some.inj h
  exact ab_iret C dX10_taken_20
set_option maxRecDepth 100000 in
set_option maxHeartbeats 4000000 in
theorem gX10_taken_b95 {R : Int32} (C : ab_C yM p s m args meth c D cA ad cX10_taken 4 RX10 (some .int)) (σ : ab_S) (t0 : Int32) (h : fX10_taken_b95 t0 σ = some R) : ab_G yM p l e s m args below meth c D cA ad 4 2 (some (.inl R)) σ 95 [none, none, none, none] [.inl t0] σ := by
  obtain rfl := Option.some.inj h
  exact ab_iret C dX10_taken_95
set_option maxRecDepth 100000 in
set_option maxHeartbeats 4000000 in
theorem gX10_taken_b75 {R : Int32} (C : ab_C yM p s m args meth c D cA ad cX10_taken 4 RX10 (some .int)) (σ : ab_S) (v1 : Int32) (v2 : Int32) (v3 : Int32) (h : fX10_taken_b75 v1 v2 v3 σ = some R) : ab_G yM p l e s m args below meth c D cA ad 4 2 (some (.inl R)) σ 75 [some (.inr (.inr (0, 0))), some (.inl v1), some (.inl v2), some (.inl v3)] [] σ := by
  refine ab_iload_n C dX10_taken_75 rfl ?_
  refine ab_iload_n C dX10_taken_76 rfl ?_
  refine ab_icmp_ne C (tgt := 93) dX10_taken_77 (by decide) (fun hc1 => ?_) (fun hc1 => ?_)
  · replace h := ab_neg hc1 h
    refine ab_bipush C dX10_taken_93 (v := (-12)) rfl ?_
    refine ab_weak (lv' := [none, none, none, none]) ⟨.inl rfl, ⟨.inl rfl, ⟨.inl rfl, ⟨.inl rfl, trivial⟩⟩⟩⟩ ?_
    exact gX10_taken_b95 C _ _ h
  · replace h := ab_pos hc1 h
    refine ab_aload_n C dX10_taken_80 rfl ?_
    refine ab_aload_n C dX10_taken_81 rfl ?_
    refine ab_getR C dX10_taken_82 flX10_70 rkM_0 rfl mmM_0 ?_
    refine ab_iload_n C dX10_taken_85 rfl ?_
    obtain ⟨hg2, h⟩ := ab_grd h
    refine ab_iald C dX10_taken_86 rkM_20 mmM_20 hg2 ?_
    obtain ⟨q3, hq3, h⟩ := ab_bind h
    refine ab_inv1 C dX10_taken_87 mlX10_380 yvX10_kindOf rkM_0 ⟨_, _, rfl⟩ mmM_0 (tX10_kindOf l _ _ hq3) (Nat.le_of_ble_eq_true rfl) (Nat.le_of_ble_eq_true rfl) rfl (Nat.le_of_ble_eq_true rfl) ?_
    refine ab_goto C (tgt := 95) dX10_taken_90 (by decide) ?_
    refine ab_weak (lv' := [none, none, none, none]) ⟨.inl rfl, ⟨.inl rfl, ⟨.inl rfl, ⟨.inl rfl, trivial⟩⟩⟩⟩ ?_
    exact gX10_taken_b95 C _ _ h
set_option maxRecDepth 100000 in
set_option maxHeartbeats 4000000 in
theorem gX10_taken_b58_o {R : Int32} (C : ab_C yM p s m args meth c D cA ad cX10_taken 4 RX10 (some .int)) (σ : ab_S) {kk58 : Int32 → Int32 → Int32 → ab_S → Option Int32} (hk58 : ∀ (v1 : Int32) (v2 : Int32) (v3 : Int32), kk58 v1 v2 v3 σ = some R → ab_G yM p l e s m args below meth c D cA ad 4 2 (some (.inl R)) σ 58 [some (.inr (.inr (0, 0))), some (.inl v1), some (.inl v2), some (.inl v3)] [] σ) (v1 : Int32) (v2 : Int32) (v3 : Int32) (h : fX10_taken_b58_o kk58 v1 v2 v3 σ = some R) : ab_G yM p l e s m args below meth c D cA ad 4 2 (some (.inl R)) σ 58 [some (.inr (.inr (0, 0))), some (.inl v1), some (.inl v2), some (.inl v3)] [] σ := by
  refine ab_iload_n C dX10_taken_58 rfl ?_
  refine ab_iload_n C dX10_taken_59 rfl ?_
  refine ab_icmp_eq C (tgt := 75) dX10_taken_60 (by decide) (fun hc1 => ?_) (fun hc1 => ?_)
  · replace h := ab_pos hc1 h
    refine ab_weak (lv' := [some (.inr (.inr (0, 0))), some (.inl v1), some (.inl v2), some (.inl v3)]) ⟨.inr rfl, ⟨.inr rfl, ⟨.inr rfl, ⟨.inr rfl, trivial⟩⟩⟩⟩ ?_
    exact gX10_taken_b75 C _ _ _ _ h
  · replace h := ab_neg hc1 h
    refine ab_iload_n C dX10_taken_63 rfl ?_
    refine ab_if_le C (tgt := 75) dX10_taken_64 (by decide) (fun hc2 => ?_) (fun hc2 => ?_)
    · replace h := ab_pos hc2 h
      refine ab_weak (lv' := [some (.inr (.inr (0, 0))), some (.inl v1), some (.inl v2), some (.inl v3)]) ⟨.inr rfl, ⟨.inr rfl, ⟨.inr rfl, ⟨.inr rfl, trivial⟩⟩⟩⟩ ?_
      exact gX10_taken_b75 C _ _ _ _ h
    · replace h := ab_neg hc2 h
      refine ab_iload_n C dX10_taken_67 rfl ?_
      obtain ⟨q3, hq3, h⟩ := ab_bind h
      refine ab_invS1 C dX10_taken_68 mlX10_383 ysX10_above (tX10_above l _ _ hq3) (Nat.le_of_ble_eq_true rfl) (Nat.le_of_ble_eq_true rfl) rfl (Nat.le_of_ble_eq_true rfl) ?_
      refine ab_istore_n C dX10_taken_71 (Nat.le_of_ble_eq_true rfl) ?_
      refine ab_goto C (tgt := 58) dX10_taken_72 (by decide) ?_
      refine ab_weak (lv' := [some (.inr (.inr (0, 0))), some (.inl v1), some (.inl v2), some (.inl q3)]) ⟨.inr rfl, ⟨.inr rfl, ⟨.inr rfl, ⟨.inr rfl, trivial⟩⟩⟩⟩ ?_
      exact hk58 _ _ _ h
theorem gX10_taken_b58 {R : Int32} (C : ab_C yM p s m args meth c D cA ad cX10_taken 4 RX10 (some .int)) (σ : ab_S) : ∀ (j : Nat) (v1 : Int32) (v2 : Int32) (v3 : Int32), fX10_taken_b58 j v1 v2 v3 σ = some R → ab_G yM p l e s m args below meth c D cA ad 4 2 (some (.inl R)) σ 58 [some (.inr (.inr (0, 0))), some (.inl v1), some (.inl v2), some (.inl v3)] [] σ := by
  intro j
  induction j with
  | zero => intro v1 v2 v3  h; cases h
  | succ j ih => intro v1 v2 v3  h; exact gX10_taken_b58_o C σ ih _ _ _ h
set_option maxRecDepth 100000 in
set_option maxHeartbeats 4000000 in
theorem tX10_taken (l : Launch) (x1 : Int32) (x2 : Int32) (σ : ab_S) {R : Int32} (h : fX10_taken x1 x2 σ = some R) : ab_M l yM yX10_taken cX10_taken 4 (some .int) 2 [.inr (.inr (0, 0)), .inl x1, .inl x2] σ (some (.inl R)) σ := by
  refine ab_M_intro ndM (by decide) (Nat.le_of_ble_eq_true rfl) ?_
  intro p e s m args below meth c D cA ad C
  have C : ab_C yM p s m args meth c D cA ad cX10_taken 4 RX10 (some .int) := C
  refine ab_weak (lv' := [some (.inr (.inr (0, 0))), some (.inl x1), some (.inl x2), none]) ⟨.inr rfl, ⟨.inr rfl, ⟨.inr rfl, ⟨.inl rfl, trivial⟩⟩⟩⟩ ?_
  refine ab_iload_n C dX10_taken_0 rfl ?_
  obtain ⟨q1, hq1, h⟩ := ab_bind h
  refine ab_invS1 C dX10_taken_1 mlX10_113 ysX10_isShelf (tX10_isShelf l _ _ hq1) (Nat.le_of_ble_eq_true rfl) (Nat.le_of_ble_eq_true rfl) rfl (Nat.le_of_ble_eq_true rfl) ?_
  refine ab_if_eq C (tgt := 19) dX10_taken_4 (by decide) (fun hc2 => ?_) (fun hc2 => ?_)
  · replace h := ab_pos hc2 h
    refine ab_weak (lv' := [none, none, none, none]) ⟨.inl rfl, ⟨.inl rfl, ⟨.inl rfl, ⟨.inl rfl, trivial⟩⟩⟩⟩ ?_
    exact gX10_taken_b19 C _ h
  · replace h := ab_neg hc2 h
    refine ab_iload_n C dX10_taken_7 rfl ?_
    refine ab_i2l C dX10_taken_8  ?_
    refine ab_lconst C dX10_taken_9 (v := 0) rfl ?_
    refine ab_ldc2 C dX10_taken_10 cwX10_344 ?_
    obtain ⟨q3, hq3, h⟩ := ab_bind h
    refine ab_invS1 C dX10_taken_13 mlX10_105 ysX10_within (tX10_within l _ _ _ _ hq3) (Nat.le_of_ble_eq_true rfl) (Nat.le_of_ble_eq_true rfl) rfl (Nat.le_of_ble_eq_true rfl) ?_
    refine ab_if_ne C (tgt := 21) dX10_taken_16 (by decide) (fun hc4 => ?_) (fun hc4 => ?_)
    · replace h := ab_neg hc4 h
      refine ab_aload_n C dX10_taken_21 rfl ?_
      refine ab_getR C dX10_taken_22 flX10_70 rkM_0 rfl mmM_0 ?_
      refine ab_iload_n C dX10_taken_25 rfl ?_
      obtain ⟨hg5, h⟩ := ab_grd h
      refine ab_iald C dX10_taken_26 rkM_20 mmM_20 hg5 ?_
      refine ab_if_ge C (tgt := 33) dX10_taken_27 (by decide) (fun hc6 => ?_) (fun hc6 => ?_)
      · replace h := ab_pos hc6 h
        refine ab_aload_n C dX10_taken_33 rfl ?_
        refine ab_getR C dX10_taken_34 flX10_70 rkM_0 rfl mmM_0 ?_
        refine ab_iload_n C dX10_taken_37 rfl ?_
        obtain ⟨hg7, h⟩ := ab_grd h
        refine ab_iald C dX10_taken_38 rkM_20 mmM_20 hg7 ?_
        refine ab_bipush C dX10_taken_39 (v := 50) rfl ?_
        refine ab_icmp_lt C (tgt := 47) dX10_taken_41 (by decide) (fun hc8 => ?_) (fun hc8 => ?_)
        · replace h := ab_pos hc8 h
          refine ab_aload_n C dX10_taken_47 rfl ?_
          refine ab_aload_n C dX10_taken_48 rfl ?_
          refine ab_getR C dX10_taken_49 flX10_70 rkM_0 rfl mmM_0 ?_
          refine ab_iload_n C dX10_taken_52 rfl ?_
          obtain ⟨hg9, h⟩ := ab_grd h
          refine ab_iald C dX10_taken_53 rkM_20 mmM_20 hg9 ?_
          obtain ⟨q10, hq10, h⟩ := ab_bind h
          refine ab_inv1 C dX10_taken_54 mlX10_380 yvX10_kindOf rkM_0 ⟨_, _, rfl⟩ mmM_0 (tX10_kindOf l _ _ hq10) (Nat.le_of_ble_eq_true rfl) (Nat.le_of_ble_eq_true rfl) rfl (Nat.le_of_ble_eq_true rfl) ?_
          refine ab_istore_n C dX10_taken_57 (Nat.le_of_ble_eq_true rfl) ?_
          refine ab_weak (lv' := [some (.inr (.inr (0, 0))), some (.inl x1), some (.inl x2), some (.inl q10)]) ⟨.inr rfl, ⟨.inr rfl, ⟨.inr rfl, ⟨.inr rfl, trivial⟩⟩⟩⟩ ?_
          exact gX10_taken_b58 C _ ab_N _ _ _ h
        · replace h := ab_neg hc8 h
          refine ab_bipush C dX10_taken_44 (v := (-12)) rfl ?_
          obtain rfl := Option.some.inj h
          exact ab_iret C dX10_taken_46
      · replace h := ab_neg hc6 h
        refine ab_bipush C dX10_taken_30 (v := (-11)) rfl ?_
        obtain rfl := Option.some.inj h
        exact ab_iret C dX10_taken_32
    · replace h := ab_pos hc4 h
      refine ab_weak (lv' := [none, none, none, none]) ⟨.inl rfl, ⟨.inl rfl, ⟨.inl rfl, ⟨.inl rfl, trivial⟩⟩⟩⟩ ?_
      exact gX10_taken_b19 C _ h
end
def fX10_theBest_b60 (t0 : Int64) (σ : ab_S) : Option (Int64 × ab_S) := some (t0, σ)
def fX10_theBest (x1 : Int32) (σ : ab_S) : Option (Int64 × ab_S) := (fX10_within ((x1 : Int32).toInt64) 0 2).bind fun q1 => (if q1 = 0 then some ((-9223372036854775808), σ) else (fX10_allWeights σ).bind fun q3 => (if q3 = 0 then some ((-2), σ) else (if ab_inb 5 7 = true then (fX10_bestAgainst (σ.1 1 0 ((5 : Int32).toNatClampNeg)) σ).bind fun q6 => (if x1 = 2 then fX10_theBest_b60 ((q6.2.1 0 0 25 : Int32).toInt64) q6.2 else (fX10_wholeOf q6.2).bind fun q8 => (fX10_partOf q6.1 q8 x1).bind fun q9 => fX10_theBest_b60 q9 q6.2) else none)))
section
variable {p : Program} {l : Launch} {e : Env} {s : State} {m : MethodId} {args : Array Value} {below : List Frame} {meth : Method} {c : Code} {D : va_G} {cA : Nat → ClassId} {ad : Nat → Nat → Nat}
set_option maxRecDepth 100000 in
set_option maxHeartbeats 4000000 in
theorem gX10_theBest_b60 {R : (Int64 × ab_S)} (C : ab_C yM p s m args meth c D cA ad cX10_theBest 4 RX10 (some .long)) (t0 : Int64) (σ : ab_S) (h : fX10_theBest_b60 t0 σ = some R) : ab_G yM p l e s m args below meth c D cA ad 4 137 (some (.inr (.inl R.1))) R.2 60 [none, none, none, none] [.inr (.inl t0)] σ := by
  obtain rfl := Option.some.inj h
  exact ab_lret C dX10_theBest_60
set_option maxRecDepth 100000 in
set_option maxHeartbeats 4000000 in
theorem tX10_theBest (l : Launch) (x1 : Int32) (σ : ab_S) {R : (Int64 × ab_S)} (h : fX10_theBest x1 σ = some R) : ab_M l yM yX10_theBest cX10_theBest 4 (some .long) 137 [.inr (.inr (0, 0)), .inl x1] σ (some (.inr (.inl R.1))) R.2 := by
  refine ab_M_intro ndM (by decide) (Nat.le_of_ble_eq_true rfl) ?_
  intro p e s m args below meth c D cA ad C
  have C : ab_C yM p s m args meth c D cA ad cX10_theBest 4 RX10 (some .long) := C
  refine ab_weak (lv' := [some (.inr (.inr (0, 0))), some (.inl x1), none, none]) ⟨.inr rfl, ⟨.inr rfl, ⟨.inl rfl, ⟨.inl rfl, trivial⟩⟩⟩⟩ ?_
  refine ab_iload_n C dX10_theBest_0 rfl ?_
  refine ab_i2l C dX10_theBest_1  ?_
  refine ab_lconst C dX10_theBest_2 (v := 0) rfl ?_
  refine ab_ldc2 C dX10_theBest_3 cwX10_109 ?_
  obtain ⟨q1, hq1, h⟩ := ab_bind h
  refine ab_invS1 C dX10_theBest_6 mlX10_105 ysX10_within (tX10_within l _ _ _ _ hq1) (Nat.le_of_ble_eq_true rfl) (Nat.le_of_ble_eq_true rfl) rfl (Nat.le_of_ble_eq_true rfl) ?_
  refine ab_if_ne C (tgt := 16) dX10_theBest_9 (by decide) (fun hc2 => ?_) (fun hc2 => ?_)
  · replace h := ab_neg hc2 h
    refine ab_aload_n C dX10_theBest_16 rfl ?_
    obtain ⟨q3, hq3, h⟩ := ab_bind h
    refine ab_inv1 C dX10_theBest_17 mlX10_259 yvX10_allWeights rkM_0 ⟨_, _, rfl⟩ mmM_0 (tX10_allWeights l _ hq3) (Nat.le_of_ble_eq_true rfl) (Nat.le_of_ble_eq_true rfl) rfl (Nat.le_of_ble_eq_true rfl) ?_
    refine ab_if_ne C (tgt := 27) dX10_theBest_20 (by decide) (fun hc4 => ?_) (fun hc4 => ?_)
    · replace h := ab_neg hc4 h
      refine ab_aload_n C dX10_theBest_27 rfl ?_
      refine ab_aload_n C dX10_theBest_28 rfl ?_
      refine ab_getR C dX10_theBest_29 flX10_11 rkM_0 rfl mmM_0 ?_
      refine ab_iconst C dX10_theBest_32 (v := 5) rfl ?_
      obtain ⟨hg5, h⟩ := ab_grd h
      refine ab_iald C dX10_theBest_33 rkM_1 mmM_1 hg5 ?_
      obtain ⟨q6, hq6, h⟩ := ab_bind h
      refine ab_inv1 C dX10_theBest_34 mlX10_276 yvX10_bestAgainst rkM_0 ⟨_, _, rfl⟩ mmM_0 (tX10_bestAgainst l _ _ hq6) (Nat.le_of_ble_eq_true rfl) (Nat.le_of_ble_eq_true rfl) rfl (Nat.le_of_ble_eq_true rfl) ?_
      refine ab_lstore_n C dX10_theBest_37 (Nat.le_of_ble_eq_true rfl) ?_
      refine ab_iload_n C dX10_theBest_38 rfl ?_
      refine ab_iconst C dX10_theBest_39 (v := 2) rfl ?_
      refine ab_icmp_ne C (tgt := 51) dX10_theBest_40 (by decide) (fun hc7 => ?_) (fun hc7 => ?_)
      · replace h := ab_neg hc7 h
        refine ab_lload_n C dX10_theBest_51 rfl ?_
        refine ab_aload_n C dX10_theBest_52 rfl ?_
        obtain ⟨q8, hq8, h⟩ := ab_bind h
        refine ab_inv1 C dX10_theBest_53 mlX10_268 yvX10_wholeOf rkM_0 ⟨_, _, rfl⟩ mmM_0 (tX10_wholeOf l _ hq8) (Nat.le_of_ble_eq_true rfl) (Nat.le_of_ble_eq_true rfl) rfl (Nat.le_of_ble_eq_true rfl) ?_
        refine ab_iload_n C dX10_theBest_56 rfl ?_
        obtain ⟨q9, hq9, h⟩ := ab_bind h
        refine ab_invS1 C dX10_theBest_57 mlX10_228 ysX10_partOf (tX10_partOf l _ _ _ _ hq9) (Nat.le_of_ble_eq_true rfl) (Nat.le_of_ble_eq_true rfl) rfl (Nat.le_of_ble_eq_true rfl) ?_
        refine ab_weak (lv' := [none, none, none, none]) ⟨.inl rfl, ⟨.inl rfl, ⟨.inl rfl, ⟨.inl rfl, trivial⟩⟩⟩⟩ ?_
        exact gX10_theBest_b60 C _ _ h
      · replace h := ab_pos hc7 h
        refine ab_aload_n C dX10_theBest_43 rfl ?_
        refine ab_getI C dX10_theBest_44 flX10_273 rkM_0 rfl mmM_0 ?_
        refine ab_i2l C dX10_theBest_47  ?_
        refine ab_goto C (tgt := 60) dX10_theBest_48 (by decide) ?_
        refine ab_weak (lv' := [none, none, none, none]) ⟨.inl rfl, ⟨.inl rfl, ⟨.inl rfl, ⟨.inl rfl, trivial⟩⟩⟩⟩ ?_
        exact gX10_theBest_b60 C _ _ h
    · replace h := ab_pos hc4 h
      refine ab_ldc2 C dX10_theBest_23 cwX10_226 ?_
      obtain rfl := Option.some.inj h
      exact ab_lret C dX10_theBest_26
  · replace h := ab_pos hc2 h
    refine ab_ldc2 C dX10_theBest_12 cwX10_220 ?_
    obtain rfl := Option.some.inj h
    exact ab_lret C dX10_theBest_15
end
def fX10_trace_b28 (t0 : Int32) (σ : ab_S) : Option Int32 := some t0
def fX10_trace_b27 (σ : ab_S) : Option Int32 := fX10_trace_b28 ((-1)) σ
def fX10_trace (x1 : Int32) (σ : ab_S) : Option Int32 := (if x1 < 0 then fX10_trace_b27 σ else (if (σ.1 0 0 38) ≤ x1 then fX10_trace_b27 σ else (if 24 ≤ x1 then fX10_trace_b27 σ else (if ab_inb x1 24 = true then fX10_trace_b28 (σ.1 19 0 x1.toNatClampNeg) σ else none))))
section
variable {p : Program} {l : Launch} {e : Env} {s : State} {m : MethodId} {args : Array Value} {below : List Frame} {meth : Method} {c : Code} {D : va_G} {cA : Nat → ClassId} {ad : Nat → Nat → Nat}
set_option maxRecDepth 100000 in
set_option maxHeartbeats 4000000 in
theorem gX10_trace_b28 {R : Int32} (C : ab_C yM p s m args meth c D cA ad cX10_trace 2 RX10 (some .int)) (σ : ab_S) (t0 : Int32) (h : fX10_trace_b28 t0 σ = some R) : ab_G yM p l e s m args below meth c D cA ad 2 0 (some (.inl R)) σ 28 [none, none] [.inl t0] σ := by
  obtain rfl := Option.some.inj h
  exact ab_iret C dX10_trace_28
set_option maxRecDepth 100000 in
set_option maxHeartbeats 4000000 in
theorem gX10_trace_b27 {R : Int32} (C : ab_C yM p s m args meth c D cA ad cX10_trace 2 RX10 (some .int)) (σ : ab_S) (h : fX10_trace_b27 σ = some R) : ab_G yM p l e s m args below meth c D cA ad 2 0 (some (.inl R)) σ 27 [none, none] [] σ := by
  refine ab_iconst C dX10_trace_27 (v := (-1)) rfl ?_
  refine ab_weak (lv' := [none, none]) ⟨.inl rfl, ⟨.inl rfl, trivial⟩⟩ ?_
  exact gX10_trace_b28 C _ _ h
set_option maxRecDepth 100000 in
set_option maxHeartbeats 4000000 in
theorem tX10_trace (l : Launch) (x1 : Int32) (σ : ab_S) {R : Int32} (h : fX10_trace x1 σ = some R) : ab_M l yM yX10_trace cX10_trace 2 (some .int) 0 [.inr (.inr (0, 0)), .inl x1] σ (some (.inl R)) σ := by
  refine ab_M_intro ndM (by decide) (Nat.le_of_ble_eq_true rfl) ?_
  intro p e s m args below meth c D cA ad C
  have C : ab_C yM p s m args meth c D cA ad cX10_trace 2 RX10 (some .int) := C
  refine ab_weak (lv' := [some (.inr (.inr (0, 0))), some (.inl x1)]) ⟨.inr rfl, ⟨.inr rfl, trivial⟩⟩ ?_
  refine ab_iload_n C dX10_trace_0 rfl ?_
  refine ab_if_lt C (tgt := 27) dX10_trace_1 (by decide) (fun hc1 => ?_) (fun hc1 => ?_)
  · replace h := ab_pos hc1 h
    refine ab_weak (lv' := [none, none]) ⟨.inl rfl, ⟨.inl rfl, trivial⟩⟩ ?_
    exact gX10_trace_b27 C _ h
  · replace h := ab_neg hc1 h
    refine ab_iload_n C dX10_trace_4 rfl ?_
    refine ab_aload_n C dX10_trace_5 rfl ?_
    refine ab_getI C dX10_trace_6 flX10_346 rkM_0 rfl mmM_0 ?_
    refine ab_icmp_ge C (tgt := 27) dX10_trace_9 (by decide) (fun hc2 => ?_) (fun hc2 => ?_)
    · replace h := ab_pos hc2 h
      refine ab_weak (lv' := [none, none]) ⟨.inl rfl, ⟨.inl rfl, trivial⟩⟩ ?_
      exact gX10_trace_b27 C _ h
    · replace h := ab_neg hc2 h
      refine ab_iload_n C dX10_trace_12 rfl ?_
      refine ab_bipush C dX10_trace_13 (v := 24) rfl ?_
      refine ab_icmp_ge C (tgt := 27) dX10_trace_15 (by decide) (fun hc3 => ?_) (fun hc3 => ?_)
      · replace h := ab_pos hc3 h
        refine ab_weak (lv' := [none, none]) ⟨.inl rfl, ⟨.inl rfl, trivial⟩⟩ ?_
        exact gX10_trace_b27 C _ h
      · replace h := ab_neg hc3 h
        refine ab_aload_n C dX10_trace_18 rfl ?_
        refine ab_getR C dX10_trace_19 flX10_67 rkM_0 rfl mmM_0 ?_
        refine ab_iload_n C dX10_trace_22 rfl ?_
        obtain ⟨hg4, h⟩ := ab_grd h
        refine ab_iald C dX10_trace_23 rkM_19 mmM_19 hg4 ?_
        refine ab_goto C (tgt := 28) dX10_trace_24 (by decide) ?_
        refine ab_weak (lv' := [none, none]) ⟨.inl rfl, ⟨.inl rfl, trivial⟩⟩ ?_
        exact gX10_trace_b28 C _ _ h
end
def fX10_undo (σ : ab_S) : Option (Int32 × ab_S) := (if (σ.1 0 0 5) = 0 then some ((-5), σ) else ab_k (ab_si σ 0 0 5 ((σ.1 0 0 5) - 1)) fun σ2 => (if ab_inb (σ2.1 0 0 5) 40 = true then (if ab_inb (σ2.1 0 0 5) 40 = true then (if ab_inb (σ2.1 2 0 ((σ2.1 0 0 5).toNatClampNeg)) 7 = true then ab_k (ab_si σ2 1 0 ((σ2.1 2 0 ((σ2.1 0 0 5).toNatClampNeg)).toNatClampNeg) (σ2.1 3 0 ((σ2.1 0 0 5).toNatClampNeg))) fun σ6 => some (σ6.1 0 0 5, σ6) else none) else none) else none))
section
variable {p : Program} {l : Launch} {e : Env} {s : State} {m : MethodId} {args : Array Value} {below : List Frame} {meth : Method} {c : Code} {D : va_G} {cA : Nat → ClassId} {ad : Nat → Nat → Nat}
set_option maxRecDepth 100000 in
set_option maxHeartbeats 4000000 in
theorem tX10_undo (l : Launch) (σ : ab_S) {R : (Int32 × ab_S)} (h : fX10_undo σ = some R) : ab_M l yM yX10_undo cX10_undo 1 (some .int) 0 [.inr (.inr (0, 0))] σ (some (.inl R.1)) R.2 := by
  refine ab_M_intro ndM (by decide) (Nat.le_of_ble_eq_true rfl) ?_
  intro p e s m args below meth c D cA ad C
  have C : ab_C yM p s m args meth c D cA ad cX10_undo 1 RX10 (some .int) := C
  refine ab_weak (lv' := [some (.inr (.inr (0, 0)))]) ⟨.inr rfl, trivial⟩ ?_
  refine ab_aload_n C dX10_undo_0 rfl ?_
  refine ab_getI C dX10_undo_1 flX10_96 rkM_0 rfl mmM_0 ?_
  refine ab_if_ne C (tgt := 10) dX10_undo_4 (by decide) (fun hc1 => ?_) (fun hc1 => ?_)
  · replace h := ab_neg hc1 h
    refine ab_aload_n C dX10_undo_10 rfl ?_
    refine ab_dup C dX10_undo_11 rfl ?_
    refine ab_getI C dX10_undo_12 flX10_96 rkM_0 rfl mmM_0 ?_
    refine ab_iconst C dX10_undo_15 (v := 1) rfl ?_
    refine ab_isub C dX10_undo_16  ?_
    refine ab_putI C dX10_undo_17 fpX10_96 rkM_0 rfl mmM_0 rfl rfl ?_
    refine ab_nmS (fun σ2 eσ2 => ?_)
    replace h := ab_kh eσ2 h
    refine ab_aload_n C dX10_undo_20 rfl ?_
    refine ab_getR C dX10_undo_21 flX10_11 rkM_0 rfl mmM_0 ?_
    refine ab_aload_n C dX10_undo_24 rfl ?_
    refine ab_getR C dX10_undo_25 flX10_15 rkM_0 rfl mmM_0 ?_
    refine ab_aload_n C dX10_undo_28 rfl ?_
    refine ab_getI C dX10_undo_29 flX10_96 rkM_0 rfl mmM_0 ?_
    obtain ⟨hg3, h⟩ := ab_grd h
    refine ab_iald C dX10_undo_32 rkM_2 mmM_2 hg3 ?_
    refine ab_aload_n C dX10_undo_33 rfl ?_
    refine ab_getR C dX10_undo_34 flX10_18 rkM_0 rfl mmM_0 ?_
    refine ab_aload_n C dX10_undo_37 rfl ?_
    refine ab_getI C dX10_undo_38 flX10_96 rkM_0 rfl mmM_0 ?_
    obtain ⟨hg4, h⟩ := ab_grd h
    refine ab_iald C dX10_undo_41 rkM_3 mmM_3 hg4 ?_
    obtain ⟨hg5, h⟩ := ab_grd h
    refine ab_iast C dX10_undo_42 rkM_1 mmM_1 hg5 ?_
    refine ab_nmS (fun σ6 eσ6 => ?_)
    replace h := ab_kh eσ6 h
    refine ab_aload_n C dX10_undo_43 rfl ?_
    refine ab_getI C dX10_undo_44 flX10_96 rkM_0 rfl mmM_0 ?_
    obtain rfl := Option.some.inj h
    exact ab_iret C dX10_undo_47
  · replace h := ab_pos hc1 h
    refine ab_bipush C dX10_undo_7 (v := (-5)) rfl ?_
    obtain rfl := Option.some.inj h
    exact ab_iret C dX10_undo_9
end
def fX10_weights_b19 (σ : ab_S) : Option (Int32 × ab_S) := some ((-1), σ)
def fX10_weights_b169 (v4 : Int32) (σ : ab_S) : Option (Int32 × ab_S) := some (v4, σ)
def fX10_weights_b134 (kk69 : Int32 → Int32 → Int32 → Int32 → Int32 → ab_S → Option (Int32 × ab_S)) (v1 : Int32) (v2 : Int32) (v3 : Int32) (v4 : Int32) (t0 : Int32) (σ : ab_S) : Option (Int32 × ab_S) := (if t0 = 0 then kk69 v1 v2 v3 v4 t0 σ else (if ab_inb (((60 * v1) + v2) + v4) 360 = true then (if ab_inb v4 7 = true then ab_k (ab_si σ 1 0 v4.toNatClampNeg ((σ.2 22 0 ((((60 * v1) + v2) + v4).toNatClampNeg) : Int64).toInt32)) fun σ4 => kk69 v1 v2 v3 (v4 + 1) t0 σ4 else none) else none))
def fX10_weights_b133 (kk69 : Int32 → Int32 → Int32 → Int32 → Int32 → ab_S → Option (Int32 × ab_S)) (v1 : Int32) (v2 : Int32) (v3 : Int32) (v4 : Int32) (σ : ab_S) : Option (Int32 × ab_S) := fX10_weights_b134 kk69 v1 v2 v3 v4 0 σ
def fX10_weights_b69_o (kk69 : Int32 → Int32 → Int32 → Int32 → Int32 → ab_S → Option (Int32 × ab_S)) (v1 : Int32) (v2 : Int32) (v3 : Int32) (v4 : Int32) (v5 : Int32) (σ : ab_S) : Option (Int32 × ab_S) := (if v5 = 0 then fX10_weights_b169 v4 σ else (if v3 ≤ v4 then fX10_weights_b169 v4 σ else (if ab_inb v1 6 = true then (if (((σ.1 21 0 v1.toNatClampNeg) - 1) - v4) < v2 then fX10_weights_b133 kk69 v1 v2 v3 v4 σ else (fX10_isDoor ((v4 : Int32).toInt64) σ).bind fun q5 => (if q5 = 0 then fX10_weights_b133 kk69 v1 v2 v3 v4 σ else (if ab_inb (((60 * v1) + v2) + v4) 360 = true then (fX10_within (σ.2 22 0 ((((60 * v1) + v2) + v4).toNatClampNeg)) 0 12).bind fun q8 => (if q8 = 0 then fX10_weights_b133 kk69 v1 v2 v3 v4 σ else fX10_weights_b134 kk69 v1 v2 v3 v4 1 σ) else none))) else none)))
def fX10_weights_b69 : Nat → Int32 → Int32 → Int32 → Int32 → Int32 → ab_S → Option (Int32 × ab_S)
  | 0 => fun _ _ _ _ _ _ => none
  | n + 1 => fX10_weights_b69_o  (fX10_weights_b69 n)
def fX10_weights_b67 (v1 : Int32) (v2 : Int32) (v3 : Int32) (v4 : Int32) (t0 : Int32) (σ : ab_S) : Option (Int32 × ab_S) := fX10_weights_b69 ab_N v1 v2 v3 v4 t0 σ
def fX10_weights_b66 (v1 : Int32) (v2 : Int32) (v3 : Int32) (v4 : Int32) (σ : ab_S) : Option (Int32 × ab_S) := fX10_weights_b67 v1 v2 v3 v4 0 σ
def fX10_weights_b44 (v1 : Int32) (v2 : Int32) (v3 : Int32) (σ : ab_S) : Option (Int32 × ab_S) := (if ab_inb v1 6 = true then (if (σ.1 20 0 v1.toNatClampNeg) = 50 then (if v2 < 0 then fX10_weights_b66 v1 v2 v3 0 σ else fX10_weights_b67 v1 v2 v3 0 1 σ) else fX10_weights_b66 v1 v2 v3 0 σ) else none)
def fX10_weights (x1 : Int32) (x2 : Int32) (x3 : Int32) (σ : ab_S) : Option (Int32 × ab_S) := (fX10_isShelf x1).bind fun q1 => (if q1 = 0 then fX10_weights_b19 σ else (fX10_within ((x3 : Int32).toInt64) 1 5).bind fun q3 => (if q3 = 0 then fX10_weights_b19 σ else (if ab_inb x1 6 = true then (if (σ.1 20 0 x1.toNatClampNeg) < 0 then fX10_weights_b44 x1 x2 x3 σ else (if ab_inb x1 6 = true then (if (σ.1 20 0 x1.toNatClampNeg) = 50 then fX10_weights_b44 x1 x2 x3 σ else some ((-12), σ)) else none)) else none)))
section
variable {p : Program} {l : Launch} {e : Env} {s : State} {m : MethodId} {args : Array Value} {below : List Frame} {meth : Method} {c : Code} {D : va_G} {cA : Nat → ClassId} {ad : Nat → Nat → Nat}
set_option maxRecDepth 100000 in
set_option maxHeartbeats 4000000 in
theorem gX10_weights_b19 {R : (Int32 × ab_S)} (C : ab_C yM p s m args meth c D cA ad cX10_weights 6 RX10 (some .int)) (σ : ab_S) (h : fX10_weights_b19 σ = some R) : ab_G yM p l e s m args below meth c D cA ad 6 2 (some (.inl R.1)) R.2 19 [none, none, none, none, none, none] [] σ := by
  refine ab_iconst C dX10_weights_19 (v := (-1)) rfl ?_
  obtain rfl := Option.some.inj h
  exact ab_iret C dX10_weights_20
set_option maxRecDepth 100000 in
set_option maxHeartbeats 4000000 in
theorem gX10_weights_b169 {R : (Int32 × ab_S)} (C : ab_C yM p s m args meth c D cA ad cX10_weights 6 RX10 (some .int)) (v4 : Int32) (σ : ab_S) (h : fX10_weights_b169 v4 σ = some R) : ab_G yM p l e s m args below meth c D cA ad 6 2 (some (.inl R.1)) R.2 169 [none, none, none, none, some (.inl v4), none] [] σ := by
  refine ab_iload C dX10_weights_169 rfl ?_
  obtain rfl := Option.some.inj h
  exact ab_iret C dX10_weights_171
set_option maxRecDepth 100000 in
set_option maxHeartbeats 4000000 in
theorem gX10_weights_b134 {R : (Int32 × ab_S)} (C : ab_C yM p s m args meth c D cA ad cX10_weights 6 RX10 (some .int)) {kk69 : Int32 → Int32 → Int32 → Int32 → Int32 → ab_S → Option (Int32 × ab_S)} (hk69 : ∀ (v1 : Int32) (v2 : Int32) (v3 : Int32) (v4 : Int32) (v5 : Int32) (σ : ab_S), kk69 v1 v2 v3 v4 v5 σ = some R → ab_G yM p l e s m args below meth c D cA ad 6 2 (some (.inl R.1)) R.2 69 [some (.inr (.inr (0, 0))), some (.inl v1), some (.inl v2), some (.inl v3), some (.inl v4), some (.inl v5)] [] σ) (v1 : Int32) (v2 : Int32) (v3 : Int32) (v4 : Int32) (t0 : Int32) (σ : ab_S) (h : fX10_weights_b134 kk69 v1 v2 v3 v4 t0 σ = some R) : ab_G yM p l e s m args below meth c D cA ad 6 2 (some (.inl R.1)) R.2 134 [some (.inr (.inr (0, 0))), some (.inl v1), some (.inl v2), some (.inl v3), some (.inl v4), none] [.inl t0] σ := by
  refine ab_istore C dX10_weights_134 (Nat.le_of_ble_eq_true rfl) ?_
  refine ab_iload C dX10_weights_136 rfl ?_
  refine ab_if_eq C (tgt := 69) dX10_weights_138 (by decide) (fun hc1 => ?_) (fun hc1 => ?_)
  · replace h := ab_pos hc1 h
    refine ab_weak (lv' := [some (.inr (.inr (0, 0))), some (.inl v1), some (.inl v2), some (.inl v3), some (.inl v4), some (.inl t0)]) ⟨.inr rfl, ⟨.inr rfl, ⟨.inr rfl, ⟨.inr rfl, ⟨.inr rfl, ⟨.inr rfl, trivial⟩⟩⟩⟩⟩⟩ ?_
    exact hk69 _ _ _ _ _ _ h
  · replace h := ab_neg hc1 h
    refine ab_aload_n C dX10_weights_141 rfl ?_
    refine ab_getR C dX10_weights_142 flX10_11 rkM_0 rfl mmM_0 ?_
    refine ab_iload C dX10_weights_145 rfl ?_
    refine ab_aload_n C dX10_weights_147 rfl ?_
    refine ab_getR C dX10_weights_148 flX10_76 rkM_0 rfl mmM_0 ?_
    refine ab_bipush C dX10_weights_151 (v := 60) rfl ?_
    refine ab_iload_n C dX10_weights_153 rfl ?_
    refine ab_imul C dX10_weights_154  ?_
    refine ab_iload_n C dX10_weights_155 rfl ?_
    refine ab_iadd C dX10_weights_156  ?_
    refine ab_iload C dX10_weights_157 rfl ?_
    refine ab_iadd C dX10_weights_159  ?_
    obtain ⟨hg2, h⟩ := ab_grd h
    refine ab_lald C dX10_weights_160 rkM_22 mmM_22 hg2 ?_
    refine ab_l2i C dX10_weights_161  ?_
    obtain ⟨hg3, h⟩ := ab_grd h
    refine ab_iast C dX10_weights_162 rkM_1 mmM_1 hg3 ?_
    refine ab_nmS (fun σ4 eσ4 => ?_)
    replace h := ab_kh eσ4 h
    refine ab_iinc C dX10_weights_163 rfl (v := 1) rfl (Nat.le_of_ble_eq_true rfl) ?_
    refine ab_goto C (tgt := 69) dX10_weights_166 (by decide) ?_
    refine ab_weak (lv' := [some (.inr (.inr (0, 0))), some (.inl v1), some (.inl v2), some (.inl v3), some (.inl (v4 + 1)), some (.inl t0)]) ⟨.inr rfl, ⟨.inr rfl, ⟨.inr rfl, ⟨.inr rfl, ⟨.inr rfl, ⟨.inr rfl, trivial⟩⟩⟩⟩⟩⟩ ?_
    exact hk69 _ _ _ _ _ _ h
set_option maxRecDepth 100000 in
set_option maxHeartbeats 4000000 in
theorem gX10_weights_b133 {R : (Int32 × ab_S)} (C : ab_C yM p s m args meth c D cA ad cX10_weights 6 RX10 (some .int)) {kk69 : Int32 → Int32 → Int32 → Int32 → Int32 → ab_S → Option (Int32 × ab_S)} (hk69 : ∀ (v1 : Int32) (v2 : Int32) (v3 : Int32) (v4 : Int32) (v5 : Int32) (σ : ab_S), kk69 v1 v2 v3 v4 v5 σ = some R → ab_G yM p l e s m args below meth c D cA ad 6 2 (some (.inl R.1)) R.2 69 [some (.inr (.inr (0, 0))), some (.inl v1), some (.inl v2), some (.inl v3), some (.inl v4), some (.inl v5)] [] σ) (v1 : Int32) (v2 : Int32) (v3 : Int32) (v4 : Int32) (σ : ab_S) (h : fX10_weights_b133 kk69 v1 v2 v3 v4 σ = some R) : ab_G yM p l e s m args below meth c D cA ad 6 2 (some (.inl R.1)) R.2 133 [some (.inr (.inr (0, 0))), some (.inl v1), some (.inl v2), some (.inl v3), some (.inl v4), none] [] σ := by
  refine ab_iconst C dX10_weights_133 (v := 0) rfl ?_
  refine ab_weak (lv' := [some (.inr (.inr (0, 0))), some (.inl v1), some (.inl v2), some (.inl v3), some (.inl v4), none]) ⟨.inr rfl, ⟨.inr rfl, ⟨.inr rfl, ⟨.inr rfl, ⟨.inr rfl, ⟨.inl rfl, trivial⟩⟩⟩⟩⟩⟩ ?_
  exact gX10_weights_b134 C hk69 _ _ _ _ _ _ h
set_option maxRecDepth 100000 in
set_option maxHeartbeats 4000000 in
theorem gX10_weights_b69_o {R : (Int32 × ab_S)} (C : ab_C yM p s m args meth c D cA ad cX10_weights 6 RX10 (some .int)) {kk69 : Int32 → Int32 → Int32 → Int32 → Int32 → ab_S → Option (Int32 × ab_S)} (hk69 : ∀ (v1 : Int32) (v2 : Int32) (v3 : Int32) (v4 : Int32) (v5 : Int32) (σ : ab_S), kk69 v1 v2 v3 v4 v5 σ = some R → ab_G yM p l e s m args below meth c D cA ad 6 2 (some (.inl R.1)) R.2 69 [some (.inr (.inr (0, 0))), some (.inl v1), some (.inl v2), some (.inl v3), some (.inl v4), some (.inl v5)] [] σ) (v1 : Int32) (v2 : Int32) (v3 : Int32) (v4 : Int32) (v5 : Int32) (σ : ab_S) (h : fX10_weights_b69_o kk69 v1 v2 v3 v4 v5 σ = some R) : ab_G yM p l e s m args below meth c D cA ad 6 2 (some (.inl R.1)) R.2 69 [some (.inr (.inr (0, 0))), some (.inl v1), some (.inl v2), some (.inl v3), some (.inl v4), some (.inl v5)] [] σ := by
  refine ab_iload C dX10_weights_69 rfl ?_
  refine ab_if_eq C (tgt := 169) dX10_weights_71 (by decide) (fun hc1 => ?_) (fun hc1 => ?_)
  · replace h := ab_pos hc1 h
    refine ab_weak (lv' := [none, none, none, none, some (.inl v4), none]) ⟨.inl rfl, ⟨.inl rfl, ⟨.inl rfl, ⟨.inl rfl, ⟨.inr rfl, ⟨.inl rfl, trivial⟩⟩⟩⟩⟩⟩ ?_
    exact gX10_weights_b169 C _ _ h
  · replace h := ab_neg hc1 h
    refine ab_iload C dX10_weights_74 rfl ?_
    refine ab_iload_n C dX10_weights_76 rfl ?_
    refine ab_icmp_ge C (tgt := 169) dX10_weights_77 (by decide) (fun hc2 => ?_) (fun hc2 => ?_)
    · replace h := ab_pos hc2 h
      refine ab_weak (lv' := [none, none, none, none, some (.inl v4), none]) ⟨.inl rfl, ⟨.inl rfl, ⟨.inl rfl, ⟨.inl rfl, ⟨.inr rfl, ⟨.inl rfl, trivial⟩⟩⟩⟩⟩⟩ ?_
      exact gX10_weights_b169 C _ _ h
    · replace h := ab_neg hc2 h
      refine ab_iload_n C dX10_weights_80 rfl ?_
      refine ab_aload_n C dX10_weights_81 rfl ?_
      refine ab_getR C dX10_weights_82 flX10_73 rkM_0 rfl mmM_0 ?_
      refine ab_iload_n C dX10_weights_85 rfl ?_
      obtain ⟨hg3, h⟩ := ab_grd h
      refine ab_iald C dX10_weights_86 rkM_21 mmM_21 hg3 ?_
      refine ab_iconst C dX10_weights_87 (v := 1) rfl ?_
      refine ab_isub C dX10_weights_88  ?_
      refine ab_iload C dX10_weights_89 rfl ?_
      refine ab_isub C dX10_weights_91  ?_
      refine ab_icmp_gt C (tgt := 133) dX10_weights_92 (by decide) (fun hc4 => ?_) (fun hc4 => ?_)
      · replace h := ab_pos hc4 h
        refine ab_weak (lv' := [some (.inr (.inr (0, 0))), some (.inl v1), some (.inl v2), some (.inl v3), some (.inl v4), none]) ⟨.inr rfl, ⟨.inr rfl, ⟨.inr rfl, ⟨.inr rfl, ⟨.inr rfl, ⟨.inl rfl, trivial⟩⟩⟩⟩⟩⟩ ?_
        exact gX10_weights_b133 C hk69 _ _ _ _ _ h
      · replace h := ab_neg hc4 h
        refine ab_aload_n C dX10_weights_95 rfl ?_
        refine ab_iload C dX10_weights_96 rfl ?_
        refine ab_i2l C dX10_weights_98  ?_
        obtain ⟨q5, hq5, h⟩ := ab_bind h
        refine ab_inv1 C dX10_weights_99 mlX10_117 yvX10_isDoor rkM_0 ⟨_, _, rfl⟩ mmM_0 (tX10_isDoor l _ _ hq5) (Nat.le_of_ble_eq_true rfl) (Nat.le_of_ble_eq_true rfl) rfl (Nat.le_of_ble_eq_true rfl) ?_
        refine ab_if_eq C (tgt := 133) dX10_weights_102 (by decide) (fun hc6 => ?_) (fun hc6 => ?_)
        · replace h := ab_pos hc6 h
          refine ab_weak (lv' := [some (.inr (.inr (0, 0))), some (.inl v1), some (.inl v2), some (.inl v3), some (.inl v4), none]) ⟨.inr rfl, ⟨.inr rfl, ⟨.inr rfl, ⟨.inr rfl, ⟨.inr rfl, ⟨.inl rfl, trivial⟩⟩⟩⟩⟩⟩ ?_
          exact gX10_weights_b133 C hk69 _ _ _ _ _ h
        · replace h := ab_neg hc6 h
          refine ab_aload_n C dX10_weights_105 rfl ?_
          refine ab_getR C dX10_weights_106 flX10_76 rkM_0 rfl mmM_0 ?_
          refine ab_bipush C dX10_weights_109 (v := 60) rfl ?_
          refine ab_iload_n C dX10_weights_111 rfl ?_
          refine ab_imul C dX10_weights_112  ?_
          refine ab_iload_n C dX10_weights_113 rfl ?_
          refine ab_iadd C dX10_weights_114  ?_
          refine ab_iload C dX10_weights_115 rfl ?_
          refine ab_iadd C dX10_weights_117  ?_
          obtain ⟨hg7, h⟩ := ab_grd h
          refine ab_lald C dX10_weights_118 rkM_22 mmM_22 hg7 ?_
          refine ab_lconst C dX10_weights_119 (v := 0) rfl ?_
          refine ab_ldc2 C dX10_weights_120 cwX10_121 ?_
          obtain ⟨q8, hq8, h⟩ := ab_bind h
          refine ab_invS1 C dX10_weights_123 mlX10_105 ysX10_within (tX10_within l _ _ _ _ hq8) (Nat.le_of_ble_eq_true rfl) (Nat.le_of_ble_eq_true rfl) rfl (Nat.le_of_ble_eq_true rfl) ?_
          refine ab_if_eq C (tgt := 133) dX10_weights_126 (by decide) (fun hc9 => ?_) (fun hc9 => ?_)
          · replace h := ab_pos hc9 h
            refine ab_weak (lv' := [some (.inr (.inr (0, 0))), some (.inl v1), some (.inl v2), some (.inl v3), some (.inl v4), none]) ⟨.inr rfl, ⟨.inr rfl, ⟨.inr rfl, ⟨.inr rfl, ⟨.inr rfl, ⟨.inl rfl, trivial⟩⟩⟩⟩⟩⟩ ?_
            exact gX10_weights_b133 C hk69 _ _ _ _ _ h
          · replace h := ab_neg hc9 h
            refine ab_iconst C dX10_weights_129 (v := 1) rfl ?_
            refine ab_goto C (tgt := 134) dX10_weights_130 (by decide) ?_
            refine ab_weak (lv' := [some (.inr (.inr (0, 0))), some (.inl v1), some (.inl v2), some (.inl v3), some (.inl v4), none]) ⟨.inr rfl, ⟨.inr rfl, ⟨.inr rfl, ⟨.inr rfl, ⟨.inr rfl, ⟨.inl rfl, trivial⟩⟩⟩⟩⟩⟩ ?_
            exact gX10_weights_b134 C hk69 _ _ _ _ _ _ h
theorem gX10_weights_b69 {R : (Int32 × ab_S)} (C : ab_C yM p s m args meth c D cA ad cX10_weights 6 RX10 (some .int)) : ∀ (j : Nat) (v1 : Int32) (v2 : Int32) (v3 : Int32) (v4 : Int32) (v5 : Int32) (σ : ab_S), fX10_weights_b69 j v1 v2 v3 v4 v5 σ = some R → ab_G yM p l e s m args below meth c D cA ad 6 2 (some (.inl R.1)) R.2 69 [some (.inr (.inr (0, 0))), some (.inl v1), some (.inl v2), some (.inl v3), some (.inl v4), some (.inl v5)] [] σ := by
  intro j
  induction j with
  | zero => intro v1 v2 v3 v4 v5 σ  h; cases h
  | succ j ih => intro v1 v2 v3 v4 v5 σ  h; exact gX10_weights_b69_o C ih _ _ _ _ _ _ h
set_option maxRecDepth 100000 in
set_option maxHeartbeats 4000000 in
theorem gX10_weights_b67 {R : (Int32 × ab_S)} (C : ab_C yM p s m args meth c D cA ad cX10_weights 6 RX10 (some .int)) (v1 : Int32) (v2 : Int32) (v3 : Int32) (v4 : Int32) (t0 : Int32) (σ : ab_S) (h : fX10_weights_b67 v1 v2 v3 v4 t0 σ = some R) : ab_G yM p l e s m args below meth c D cA ad 6 2 (some (.inl R.1)) R.2 67 [some (.inr (.inr (0, 0))), some (.inl v1), some (.inl v2), some (.inl v3), some (.inl v4), none] [.inl t0] σ := by
  refine ab_istore C dX10_weights_67 (Nat.le_of_ble_eq_true rfl) ?_
  refine ab_weak (lv' := [some (.inr (.inr (0, 0))), some (.inl v1), some (.inl v2), some (.inl v3), some (.inl v4), some (.inl t0)]) ⟨.inr rfl, ⟨.inr rfl, ⟨.inr rfl, ⟨.inr rfl, ⟨.inr rfl, ⟨.inr rfl, trivial⟩⟩⟩⟩⟩⟩ ?_
  exact gX10_weights_b69 C ab_N _ _ _ _ _ _ h
set_option maxRecDepth 100000 in
set_option maxHeartbeats 4000000 in
theorem gX10_weights_b66 {R : (Int32 × ab_S)} (C : ab_C yM p s m args meth c D cA ad cX10_weights 6 RX10 (some .int)) (v1 : Int32) (v2 : Int32) (v3 : Int32) (v4 : Int32) (σ : ab_S) (h : fX10_weights_b66 v1 v2 v3 v4 σ = some R) : ab_G yM p l e s m args below meth c D cA ad 6 2 (some (.inl R.1)) R.2 66 [some (.inr (.inr (0, 0))), some (.inl v1), some (.inl v2), some (.inl v3), some (.inl v4), none] [] σ := by
  refine ab_iconst C dX10_weights_66 (v := 0) rfl ?_
  refine ab_weak (lv' := [some (.inr (.inr (0, 0))), some (.inl v1), some (.inl v2), some (.inl v3), some (.inl v4), none]) ⟨.inr rfl, ⟨.inr rfl, ⟨.inr rfl, ⟨.inr rfl, ⟨.inr rfl, ⟨.inl rfl, trivial⟩⟩⟩⟩⟩⟩ ?_
  exact gX10_weights_b67 C _ _ _ _ _ _ h
set_option maxRecDepth 100000 in
set_option maxHeartbeats 4000000 in
theorem gX10_weights_b44 {R : (Int32 × ab_S)} (C : ab_C yM p s m args meth c D cA ad cX10_weights 6 RX10 (some .int)) (v1 : Int32) (v2 : Int32) (v3 : Int32) (σ : ab_S) (h : fX10_weights_b44 v1 v2 v3 σ = some R) : ab_G yM p l e s m args below meth c D cA ad 6 2 (some (.inl R.1)) R.2 44 [some (.inr (.inr (0, 0))), some (.inl v1), some (.inl v2), some (.inl v3), none, none] [] σ := by
  refine ab_iconst C dX10_weights_44 (v := 0) rfl ?_
  refine ab_istore C dX10_weights_45 (Nat.le_of_ble_eq_true rfl) ?_
  refine ab_aload_n C dX10_weights_47 rfl ?_
  refine ab_getR C dX10_weights_48 flX10_70 rkM_0 rfl mmM_0 ?_
  refine ab_iload_n C dX10_weights_51 rfl ?_
  obtain ⟨hg1, h⟩ := ab_grd h
  refine ab_iald C dX10_weights_52 rkM_20 mmM_20 hg1 ?_
  refine ab_bipush C dX10_weights_53 (v := 50) rfl ?_
  refine ab_icmp_ne C (tgt := 66) dX10_weights_55 (by decide) (fun hc2 => ?_) (fun hc2 => ?_)
  · replace h := ab_neg hc2 h
    refine ab_weak (lv' := [some (.inr (.inr (0, 0))), some (.inl v1), some (.inl v2), some (.inl v3), some (.inl 0), none]) ⟨.inr rfl, ⟨.inr rfl, ⟨.inr rfl, ⟨.inr rfl, ⟨.inr rfl, ⟨.inl rfl, trivial⟩⟩⟩⟩⟩⟩ ?_
    exact gX10_weights_b66 C _ _ _ _ _ h
  · replace h := ab_pos hc2 h
    refine ab_iload_n C dX10_weights_58 rfl ?_
    refine ab_if_lt C (tgt := 66) dX10_weights_59 (by decide) (fun hc3 => ?_) (fun hc3 => ?_)
    · replace h := ab_pos hc3 h
      refine ab_weak (lv' := [some (.inr (.inr (0, 0))), some (.inl v1), some (.inl v2), some (.inl v3), some (.inl 0), none]) ⟨.inr rfl, ⟨.inr rfl, ⟨.inr rfl, ⟨.inr rfl, ⟨.inr rfl, ⟨.inl rfl, trivial⟩⟩⟩⟩⟩⟩ ?_
      exact gX10_weights_b66 C _ _ _ _ _ h
    · replace h := ab_neg hc3 h
      refine ab_iconst C dX10_weights_62 (v := 1) rfl ?_
      refine ab_goto C (tgt := 67) dX10_weights_63 (by decide) ?_
      refine ab_weak (lv' := [some (.inr (.inr (0, 0))), some (.inl v1), some (.inl v2), some (.inl v3), some (.inl 0), none]) ⟨.inr rfl, ⟨.inr rfl, ⟨.inr rfl, ⟨.inr rfl, ⟨.inr rfl, ⟨.inl rfl, trivial⟩⟩⟩⟩⟩⟩ ?_
      exact gX10_weights_b67 C _ _ _ _ _ _ h
set_option maxRecDepth 100000 in
set_option maxHeartbeats 4000000 in
theorem tX10_weights (l : Launch) (x1 : Int32) (x2 : Int32) (x3 : Int32) (σ : ab_S) {R : (Int32 × ab_S)} (h : fX10_weights x1 x2 x3 σ = some R) : ab_M l yM yX10_weights cX10_weights 6 (some .int) 2 [.inr (.inr (0, 0)), .inl x1, .inl x2, .inl x3] σ (some (.inl R.1)) R.2 := by
  refine ab_M_intro ndM (by decide) (Nat.le_of_ble_eq_true rfl) ?_
  intro p e s m args below meth c D cA ad C
  have C : ab_C yM p s m args meth c D cA ad cX10_weights 6 RX10 (some .int) := C
  refine ab_weak (lv' := [some (.inr (.inr (0, 0))), some (.inl x1), some (.inl x2), some (.inl x3), none, none]) ⟨.inr rfl, ⟨.inr rfl, ⟨.inr rfl, ⟨.inr rfl, ⟨.inl rfl, ⟨.inl rfl, trivial⟩⟩⟩⟩⟩⟩ ?_
  refine ab_iload_n C dX10_weights_0 rfl ?_
  obtain ⟨q1, hq1, h⟩ := ab_bind h
  refine ab_invS1 C dX10_weights_1 mlX10_113 ysX10_isShelf (tX10_isShelf l _ _ hq1) (Nat.le_of_ble_eq_true rfl) (Nat.le_of_ble_eq_true rfl) rfl (Nat.le_of_ble_eq_true rfl) ?_
  refine ab_if_eq C (tgt := 19) dX10_weights_4 (by decide) (fun hc2 => ?_) (fun hc2 => ?_)
  · replace h := ab_pos hc2 h
    refine ab_weak (lv' := [none, none, none, none, none, none]) ⟨.inl rfl, ⟨.inl rfl, ⟨.inl rfl, ⟨.inl rfl, ⟨.inl rfl, ⟨.inl rfl, trivial⟩⟩⟩⟩⟩⟩ ?_
    exact gX10_weights_b19 C _ h
  · replace h := ab_neg hc2 h
    refine ab_iload_n C dX10_weights_7 rfl ?_
    refine ab_i2l C dX10_weights_8  ?_
    refine ab_lconst C dX10_weights_9 (v := 1) rfl ?_
    refine ab_ldc2 C dX10_weights_10 cwX10_111 ?_
    obtain ⟨q3, hq3, h⟩ := ab_bind h
    refine ab_invS1 C dX10_weights_13 mlX10_105 ysX10_within (tX10_within l _ _ _ _ hq3) (Nat.le_of_ble_eq_true rfl) (Nat.le_of_ble_eq_true rfl) rfl (Nat.le_of_ble_eq_true rfl) ?_
    refine ab_if_ne C (tgt := 21) dX10_weights_16 (by decide) (fun hc4 => ?_) (fun hc4 => ?_)
    · replace h := ab_neg hc4 h
      refine ab_aload_n C dX10_weights_21 rfl ?_
      refine ab_getR C dX10_weights_22 flX10_70 rkM_0 rfl mmM_0 ?_
      refine ab_iload_n C dX10_weights_25 rfl ?_
      obtain ⟨hg5, h⟩ := ab_grd h
      refine ab_iald C dX10_weights_26 rkM_20 mmM_20 hg5 ?_
      refine ab_if_lt C (tgt := 44) dX10_weights_27 (by decide) (fun hc6 => ?_) (fun hc6 => ?_)
      · replace h := ab_pos hc6 h
        refine ab_weak (lv' := [some (.inr (.inr (0, 0))), some (.inl x1), some (.inl x2), some (.inl x3), none, none]) ⟨.inr rfl, ⟨.inr rfl, ⟨.inr rfl, ⟨.inr rfl, ⟨.inl rfl, ⟨.inl rfl, trivial⟩⟩⟩⟩⟩⟩ ?_
        exact gX10_weights_b44 C _ _ _ _ h
      · replace h := ab_neg hc6 h
        refine ab_aload_n C dX10_weights_30 rfl ?_
        refine ab_getR C dX10_weights_31 flX10_70 rkM_0 rfl mmM_0 ?_
        refine ab_iload_n C dX10_weights_34 rfl ?_
        obtain ⟨hg7, h⟩ := ab_grd h
        refine ab_iald C dX10_weights_35 rkM_20 mmM_20 hg7 ?_
        refine ab_bipush C dX10_weights_36 (v := 50) rfl ?_
        refine ab_icmp_eq C (tgt := 44) dX10_weights_38 (by decide) (fun hc8 => ?_) (fun hc8 => ?_)
        · replace h := ab_pos hc8 h
          refine ab_weak (lv' := [some (.inr (.inr (0, 0))), some (.inl x1), some (.inl x2), some (.inl x3), none, none]) ⟨.inr rfl, ⟨.inr rfl, ⟨.inr rfl, ⟨.inr rfl, ⟨.inl rfl, ⟨.inl rfl, trivial⟩⟩⟩⟩⟩⟩ ?_
          exact gX10_weights_b44 C _ _ _ _ h
        · replace h := ab_neg hc8 h
          refine ab_bipush C dX10_weights_41 (v := (-12)) rfl ?_
          obtain rfl := Option.some.inj h
          exact ab_iret C dX10_weights_43
    · replace h := ab_pos hc4 h
      refine ab_weak (lv' := [none, none, none, none, none, none]) ⟨.inl rfl, ⟨.inl rfl, ⟨.inl rfl, ⟨.inl rfl, ⟨.inl rfl, ⟨.inl rfl, trivial⟩⟩⟩⟩⟩⟩ ?_
      exact gX10_weights_b19 C _ h
end
def fX10_which_b78 (σ : ab_S) : Option (Int64 × ab_S) := some ((-9223372036854775808), σ)
def fX10_which_b119 (kk88 : Int32 → Int32 → Int32 → Int64 → Int32 → ab_S → Option (Int64 × ab_S)) (v1 : Int32) (v2 : Int32) (v3 : Int32) (v7 : Int32) (t0 : Int64) (t1 : Int64) (σ : ab_S) : Option (Int64 × ab_S) := kk88 v1 v2 v3 (t0 + t1) (v7 + 1) σ
def fX10_which_b88_o (kk88 : Int32 → Int32 → Int32 → Int64 → Int32 → ab_S → Option (Int64 × ab_S)) (v1 : Int32) (v2 : Int32) (v3 : Int32) (v5 : Int64) (v7 : Int32) (σ : ab_S) : Option (Int64 × ab_S) := (if 4 ≤ v7 then (fX10_rowBy (ab_mod v2 10) v1 σ).bind fun q2 => (fX10_partOf q2.1 v5 v3).bind fun q3 => some (q3, q2.2) else (fX10_isIn (v2 / 10) v7).bind fun q4 => (if q4 = 0 then fX10_which_b119 kk88 v1 v2 v3 v7 v5 0 σ else (fX10_rowBy v7 v1 σ).bind fun q6 => fX10_which_b119 kk88 v1 v2 v3 v7 v5 q6.1 q6.2))
def fX10_which_b88 : Nat → Int32 → Int32 → Int32 → Int64 → Int32 → ab_S → Option (Int64 × ab_S)
  | 0 => fun _ _ _ _ _ _ => none
  | n + 1 => fX10_which_b88_o  (fX10_which_b88 n)
def fX10_which_b60 (v1 : Int32) (v2 : Int32) (v3 : Int32) (t0 : Int32) (σ : ab_S) : Option (Int64 × ab_S) := (if t0 = 0 then fX10_which_b78 σ else (if ab_inb v1 6 = true then (if (σ.1 21 0 v1.toNatClampNeg) ≤ 12 then fX10_which_b88 ab_N v1 v2 v3 0 0 σ else fX10_which_b78 σ) else none))
def fX10_which_b59 (v1 : Int32) (v2 : Int32) (v3 : Int32) (σ : ab_S) : Option (Int64 × ab_S) := fX10_which_b60 v1 v2 v3 0 σ
def fX10_which (x1 : Int32) (x2 : Int32) (x3 : Int32) (σ : ab_S) : Option (Int64 × ab_S) := (fX10_rowIs x1 σ).bind fun q1 => (if q1 = 1 then (if x2 < 0 then fX10_which_b59 x1 x2 x3 σ else (fX10_areHosts (x2 / 10)).bind fun q4 => (if q4 = 0 then fX10_which_b59 x1 x2 x3 σ else (if 4 ≤ (ab_mod x2 10) then fX10_which_b59 x1 x2 x3 σ else (fX10_isIn (x2 / 10) (ab_mod x2 10)).bind fun q7 => (if q7 = 0 then fX10_which_b59 x1 x2 x3 σ else (fX10_within ((x3 : Int32).toInt64) 0 1).bind fun q9 => (if q9 = 0 then fX10_which_b59 x1 x2 x3 σ else fX10_which_b60 x1 x2 x3 1 σ))))) else fX10_which_b59 x1 x2 x3 σ)
section
variable {p : Program} {l : Launch} {e : Env} {s : State} {m : MethodId} {args : Array Value} {below : List Frame} {meth : Method} {c : Code} {D : va_G} {cA : Nat → ClassId} {ad : Nat → Nat → Nat}
set_option maxRecDepth 100000 in
set_option maxHeartbeats 4000000 in
theorem gX10_which_b78 {R : (Int64 × ab_S)} (C : ab_C yM p s m args meth c D cA ad cX10_which 8 RX10 (some .long)) (σ : ab_S) (h : fX10_which_b78 σ = some R) : ab_G yM p l e s m args below meth c D cA ad 8 73 (some (.inr (.inl R.1))) R.2 78 [none, none, none, none, none, none, none, none] [] σ := by
  refine ab_ldc2 C dX10_which_78 cwX10_220 ?_
  obtain rfl := Option.some.inj h
  exact ab_lret C dX10_which_81
set_option maxRecDepth 100000 in
set_option maxHeartbeats 4000000 in
theorem gX10_which_b119 {R : (Int64 × ab_S)} (C : ab_C yM p s m args meth c D cA ad cX10_which 8 RX10 (some .long)) {kk88 : Int32 → Int32 → Int32 → Int64 → Int32 → ab_S → Option (Int64 × ab_S)} (hk88 : ∀ (v1 : Int32) (v2 : Int32) (v3 : Int32) (v5 : Int64) (v7 : Int32) (σ : ab_S), kk88 v1 v2 v3 v5 v7 σ = some R → ab_G yM p l e s m args below meth c D cA ad 8 73 (some (.inr (.inl R.1))) R.2 88 [some (.inr (.inr (0, 0))), some (.inl v1), some (.inl v2), some (.inl v3), none, some (.inr (.inl v5)), none, some (.inl v7)] [] σ) (v1 : Int32) (v2 : Int32) (v3 : Int32) (v7 : Int32) (t0 : Int64) (t1 : Int64) (σ : ab_S) (h : fX10_which_b119 kk88 v1 v2 v3 v7 t0 t1 σ = some R) : ab_G yM p l e s m args below meth c D cA ad 8 73 (some (.inr (.inl R.1))) R.2 119 [some (.inr (.inr (0, 0))), some (.inl v1), some (.inl v2), some (.inl v3), none, none, none, some (.inl v7)] [.inr (.inl t1), .inr (.inl t0)] σ := by
  refine ab_ladd C dX10_which_119  ?_
  refine ab_lstore C dX10_which_120 (Nat.le_of_ble_eq_true rfl) ?_
  refine ab_iinc C dX10_which_122 rfl (v := 1) rfl (Nat.le_of_ble_eq_true rfl) ?_
  refine ab_goto C (tgt := 88) dX10_which_125 (by decide) ?_
  refine ab_weak (lv' := [some (.inr (.inr (0, 0))), some (.inl v1), some (.inl v2), some (.inl v3), none, some (.inr (.inl (t0 + t1))), none, some (.inl (v7 + 1))]) ⟨.inr rfl, ⟨.inr rfl, ⟨.inr rfl, ⟨.inr rfl, ⟨.inl rfl, ⟨.inr rfl, ⟨.inl rfl, ⟨.inr rfl, trivial⟩⟩⟩⟩⟩⟩⟩⟩ ?_
  exact hk88 _ _ _ _ _ _ h
set_option maxRecDepth 100000 in
set_option maxHeartbeats 4000000 in
theorem gX10_which_b88_o {R : (Int64 × ab_S)} (C : ab_C yM p s m args meth c D cA ad cX10_which 8 RX10 (some .long)) {kk88 : Int32 → Int32 → Int32 → Int64 → Int32 → ab_S → Option (Int64 × ab_S)} (hk88 : ∀ (v1 : Int32) (v2 : Int32) (v3 : Int32) (v5 : Int64) (v7 : Int32) (σ : ab_S), kk88 v1 v2 v3 v5 v7 σ = some R → ab_G yM p l e s m args below meth c D cA ad 8 73 (some (.inr (.inl R.1))) R.2 88 [some (.inr (.inr (0, 0))), some (.inl v1), some (.inl v2), some (.inl v3), none, some (.inr (.inl v5)), none, some (.inl v7)] [] σ) (v1 : Int32) (v2 : Int32) (v3 : Int32) (v5 : Int64) (v7 : Int32) (σ : ab_S) (h : fX10_which_b88_o kk88 v1 v2 v3 v5 v7 σ = some R) : ab_G yM p l e s m args below meth c D cA ad 8 73 (some (.inr (.inl R.1))) R.2 88 [some (.inr (.inr (0, 0))), some (.inl v1), some (.inl v2), some (.inl v3), none, some (.inr (.inl v5)), none, some (.inl v7)] [] σ := by
  refine ab_iload C dX10_which_88 rfl ?_
  refine ab_iconst C dX10_which_90 (v := 4) rfl ?_
  refine ab_icmp_ge C (tgt := 128) dX10_which_91 (by decide) (fun hc1 => ?_) (fun hc1 => ?_)
  · replace h := ab_pos hc1 h
    refine ab_aload_n C dX10_which_128 rfl ?_
    refine ab_iload_n C dX10_which_129 rfl ?_
    refine ab_bipush C dX10_which_130 (v := 10) rfl ?_
    refine ab_irem C dX10_which_132 (by decide) ?_
    refine ab_iload_n C dX10_which_133 rfl ?_
    obtain ⟨q2, hq2, h⟩ := ab_bind h
    refine ab_inv1 C dX10_which_134 mlX10_300 yvX10_rowBy rkM_0 ⟨_, _, rfl⟩ mmM_0 (tX10_rowBy l _ _ _ hq2) (Nat.le_of_ble_eq_true rfl) (Nat.le_of_ble_eq_true rfl) rfl (Nat.le_of_ble_eq_true rfl) ?_
    refine ab_lload C dX10_which_137 rfl ?_
    refine ab_iload_n C dX10_which_139 rfl ?_
    obtain ⟨q3, hq3, h⟩ := ab_bind h
    refine ab_invS1 C dX10_which_140 mlX10_228 ysX10_partOf (tX10_partOf l _ _ _ _ hq3) (Nat.le_of_ble_eq_true rfl) (Nat.le_of_ble_eq_true rfl) rfl (Nat.le_of_ble_eq_true rfl) ?_
    obtain rfl := Option.some.inj h
    exact ab_lret C dX10_which_143
  · replace h := ab_neg hc1 h
    refine ab_lload C dX10_which_94 rfl ?_
    refine ab_iload_n C dX10_which_96 rfl ?_
    refine ab_bipush C dX10_which_97 (v := 10) rfl ?_
    refine ab_idiv C dX10_which_99 (by decide) ?_
    refine ab_iload C dX10_which_100 rfl ?_
    obtain ⟨q4, hq4, h⟩ := ab_bind h
    refine ab_invS1 C dX10_which_102 mlX10_138 ysX10_isIn (tX10_isIn l _ _ _ hq4) (Nat.le_of_ble_eq_true rfl) (Nat.le_of_ble_eq_true rfl) rfl (Nat.le_of_ble_eq_true rfl) ?_
    refine ab_if_eq C (tgt := 118) dX10_which_105 (by decide) (fun hc5 => ?_) (fun hc5 => ?_)
    · replace h := ab_pos hc5 h
      refine ab_lconst C dX10_which_118 (v := 0) rfl ?_
      refine ab_weak (lv' := [some (.inr (.inr (0, 0))), some (.inl v1), some (.inl v2), some (.inl v3), none, none, none, some (.inl v7)]) ⟨.inr rfl, ⟨.inr rfl, ⟨.inr rfl, ⟨.inr rfl, ⟨.inl rfl, ⟨.inl rfl, ⟨.inl rfl, ⟨.inr rfl, trivial⟩⟩⟩⟩⟩⟩⟩⟩ ?_
      exact gX10_which_b119 C hk88 _ _ _ _ _ _ _ h
    · replace h := ab_neg hc5 h
      refine ab_aload_n C dX10_which_108 rfl ?_
      refine ab_iload C dX10_which_109 rfl ?_
      refine ab_iload_n C dX10_which_111 rfl ?_
      obtain ⟨q6, hq6, h⟩ := ab_bind h
      refine ab_inv1 C dX10_which_112 mlX10_300 yvX10_rowBy rkM_0 ⟨_, _, rfl⟩ mmM_0 (tX10_rowBy l _ _ _ hq6) (Nat.le_of_ble_eq_true rfl) (Nat.le_of_ble_eq_true rfl) rfl (Nat.le_of_ble_eq_true rfl) ?_
      refine ab_goto C (tgt := 119) dX10_which_115 (by decide) ?_
      refine ab_weak (lv' := [some (.inr (.inr (0, 0))), some (.inl v1), some (.inl v2), some (.inl v3), none, none, none, some (.inl v7)]) ⟨.inr rfl, ⟨.inr rfl, ⟨.inr rfl, ⟨.inr rfl, ⟨.inl rfl, ⟨.inl rfl, ⟨.inl rfl, ⟨.inr rfl, trivial⟩⟩⟩⟩⟩⟩⟩⟩ ?_
      exact gX10_which_b119 C hk88 _ _ _ _ _ _ _ h
theorem gX10_which_b88 {R : (Int64 × ab_S)} (C : ab_C yM p s m args meth c D cA ad cX10_which 8 RX10 (some .long)) : ∀ (j : Nat) (v1 : Int32) (v2 : Int32) (v3 : Int32) (v5 : Int64) (v7 : Int32) (σ : ab_S), fX10_which_b88 j v1 v2 v3 v5 v7 σ = some R → ab_G yM p l e s m args below meth c D cA ad 8 73 (some (.inr (.inl R.1))) R.2 88 [some (.inr (.inr (0, 0))), some (.inl v1), some (.inl v2), some (.inl v3), none, some (.inr (.inl v5)), none, some (.inl v7)] [] σ := by
  intro j
  induction j with
  | zero => intro v1 v2 v3 v5 v7 σ  h; cases h
  | succ j ih => intro v1 v2 v3 v5 v7 σ  h; exact gX10_which_b88_o C ih _ _ _ _ _ _ h
set_option maxRecDepth 100000 in
set_option maxHeartbeats 4000000 in
theorem gX10_which_b60 {R : (Int64 × ab_S)} (C : ab_C yM p s m args meth c D cA ad cX10_which 8 RX10 (some .long)) (v1 : Int32) (v2 : Int32) (v3 : Int32) (t0 : Int32) (σ : ab_S) (h : fX10_which_b60 v1 v2 v3 t0 σ = some R) : ab_G yM p l e s m args below meth c D cA ad 8 73 (some (.inr (.inl R.1))) R.2 60 [some (.inr (.inr (0, 0))), some (.inl v1), some (.inl v2), some (.inl v3), none, none, none, none] [.inl t0] σ := by
  refine ab_istore C dX10_which_60 (Nat.le_of_ble_eq_true rfl) ?_
  refine ab_iload C dX10_which_62 rfl ?_
  refine ab_if_eq C (tgt := 78) dX10_which_64 (by decide) (fun hc1 => ?_) (fun hc1 => ?_)
  · replace h := ab_pos hc1 h
    refine ab_weak (lv' := [none, none, none, none, none, none, none, none]) ⟨.inl rfl, ⟨.inl rfl, ⟨.inl rfl, ⟨.inl rfl, ⟨.inl rfl, ⟨.inl rfl, ⟨.inl rfl, ⟨.inl rfl, trivial⟩⟩⟩⟩⟩⟩⟩⟩ ?_
    exact gX10_which_b78 C _ h
  · replace h := ab_neg hc1 h
    refine ab_aload_n C dX10_which_67 rfl ?_
    refine ab_getR C dX10_which_68 flX10_73 rkM_0 rfl mmM_0 ?_
    refine ab_iload_n C dX10_which_71 rfl ?_
    obtain ⟨hg2, h⟩ := ab_grd h
    refine ab_iald C dX10_which_72 rkM_21 mmM_21 hg2 ?_
    refine ab_bipush C dX10_which_73 (v := 12) rfl ?_
    refine ab_icmp_le C (tgt := 82) dX10_which_75 (by decide) (fun hc3 => ?_) (fun hc3 => ?_)
    · replace h := ab_pos hc3 h
      refine ab_lconst C dX10_which_82 (v := 0) rfl ?_
      refine ab_lstore C dX10_which_83 (Nat.le_of_ble_eq_true rfl) ?_
      refine ab_iconst C dX10_which_85 (v := 0) rfl ?_
      refine ab_istore C dX10_which_86 (Nat.le_of_ble_eq_true rfl) ?_
      refine ab_weak (lv' := [some (.inr (.inr (0, 0))), some (.inl v1), some (.inl v2), some (.inl v3), some (.inl t0), some (.inr (.inl 0)), none, some (.inl 0)]) ⟨.inr rfl, ⟨.inr rfl, ⟨.inr rfl, ⟨.inr rfl, ⟨.inr rfl, ⟨.inr rfl, ⟨.inl rfl, ⟨.inr rfl, trivial⟩⟩⟩⟩⟩⟩⟩⟩ ?_
      refine ab_weak (lv' := [some (.inr (.inr (0, 0))), some (.inl v1), some (.inl v2), some (.inl v3), none, some (.inr (.inl 0)), none, some (.inl 0)]) ⟨.inr rfl, ⟨.inr rfl, ⟨.inr rfl, ⟨.inr rfl, ⟨.inl rfl, ⟨.inr rfl, ⟨.inl rfl, ⟨.inr rfl, trivial⟩⟩⟩⟩⟩⟩⟩⟩ ?_
      exact gX10_which_b88 C ab_N _ _ _ _ _ _ h
    · replace h := ab_neg hc3 h
      refine ab_weak (lv' := [none, none, none, none, none, none, none, none]) ⟨.inl rfl, ⟨.inl rfl, ⟨.inl rfl, ⟨.inl rfl, ⟨.inl rfl, ⟨.inl rfl, ⟨.inl rfl, ⟨.inl rfl, trivial⟩⟩⟩⟩⟩⟩⟩⟩ ?_
      exact gX10_which_b78 C _ h
set_option maxRecDepth 100000 in
set_option maxHeartbeats 4000000 in
theorem gX10_which_b59 {R : (Int64 × ab_S)} (C : ab_C yM p s m args meth c D cA ad cX10_which 8 RX10 (some .long)) (v1 : Int32) (v2 : Int32) (v3 : Int32) (σ : ab_S) (h : fX10_which_b59 v1 v2 v3 σ = some R) : ab_G yM p l e s m args below meth c D cA ad 8 73 (some (.inr (.inl R.1))) R.2 59 [some (.inr (.inr (0, 0))), some (.inl v1), some (.inl v2), some (.inl v3), none, none, none, none] [] σ := by
  refine ab_iconst C dX10_which_59 (v := 0) rfl ?_
  refine ab_weak (lv' := [some (.inr (.inr (0, 0))), some (.inl v1), some (.inl v2), some (.inl v3), none, none, none, none]) ⟨.inr rfl, ⟨.inr rfl, ⟨.inr rfl, ⟨.inr rfl, ⟨.inl rfl, ⟨.inl rfl, ⟨.inl rfl, ⟨.inl rfl, trivial⟩⟩⟩⟩⟩⟩⟩⟩ ?_
  exact gX10_which_b60 C _ _ _ _ _ h
set_option maxRecDepth 100000 in
set_option maxHeartbeats 4000000 in
theorem tX10_which (l : Launch) (x1 : Int32) (x2 : Int32) (x3 : Int32) (σ : ab_S) {R : (Int64 × ab_S)} (h : fX10_which x1 x2 x3 σ = some R) : ab_M l yM yX10_which cX10_which 8 (some .long) 73 [.inr (.inr (0, 0)), .inl x1, .inl x2, .inl x3] σ (some (.inr (.inl R.1))) R.2 := by
  refine ab_M_intro ndM (by decide) (Nat.le_of_ble_eq_true rfl) ?_
  intro p e s m args below meth c D cA ad C
  have C : ab_C yM p s m args meth c D cA ad cX10_which 8 RX10 (some .long) := C
  refine ab_weak (lv' := [some (.inr (.inr (0, 0))), some (.inl x1), some (.inl x2), some (.inl x3), none, none, none, none]) ⟨.inr rfl, ⟨.inr rfl, ⟨.inr rfl, ⟨.inr rfl, ⟨.inl rfl, ⟨.inl rfl, ⟨.inl rfl, ⟨.inl rfl, trivial⟩⟩⟩⟩⟩⟩⟩⟩ ?_
  refine ab_aload_n C dX10_which_0 rfl ?_
  refine ab_iload_n C dX10_which_1 rfl ?_
  obtain ⟨q1, hq1, h⟩ := ab_bind h
  refine ab_inv1 C dX10_which_2 mlX10_297 yvX10_rowIs rkM_0 ⟨_, _, rfl⟩ mmM_0 (tX10_rowIs l _ _ hq1) (Nat.le_of_ble_eq_true rfl) (Nat.le_of_ble_eq_true rfl) rfl (Nat.le_of_ble_eq_true rfl) ?_
  refine ab_iconst C dX10_which_5 (v := 1) rfl ?_
  refine ab_icmp_ne C (tgt := 59) dX10_which_6 (by decide) (fun hc2 => ?_) (fun hc2 => ?_)
  · replace h := ab_neg hc2 h
    refine ab_weak (lv' := [some (.inr (.inr (0, 0))), some (.inl x1), some (.inl x2), some (.inl x3), none, none, none, none]) ⟨.inr rfl, ⟨.inr rfl, ⟨.inr rfl, ⟨.inr rfl, ⟨.inl rfl, ⟨.inl rfl, ⟨.inl rfl, ⟨.inl rfl, trivial⟩⟩⟩⟩⟩⟩⟩⟩ ?_
    exact gX10_which_b59 C _ _ _ _ h
  · replace h := ab_pos hc2 h
    refine ab_iload_n C dX10_which_9 rfl ?_
    refine ab_if_lt C (tgt := 59) dX10_which_10 (by decide) (fun hc3 => ?_) (fun hc3 => ?_)
    · replace h := ab_pos hc3 h
      refine ab_weak (lv' := [some (.inr (.inr (0, 0))), some (.inl x1), some (.inl x2), some (.inl x3), none, none, none, none]) ⟨.inr rfl, ⟨.inr rfl, ⟨.inr rfl, ⟨.inr rfl, ⟨.inl rfl, ⟨.inl rfl, ⟨.inl rfl, ⟨.inl rfl, trivial⟩⟩⟩⟩⟩⟩⟩⟩ ?_
      exact gX10_which_b59 C _ _ _ _ h
    · replace h := ab_neg hc3 h
      refine ab_iload_n C dX10_which_13 rfl ?_
      refine ab_bipush C dX10_which_14 (v := 10) rfl ?_
      refine ab_idiv C dX10_which_16 (by decide) ?_
      obtain ⟨q4, hq4, h⟩ := ab_bind h
      refine ab_invS1 C dX10_which_17 mlX10_282 ysX10_areHosts (tX10_areHosts l _ _ hq4) (Nat.le_of_ble_eq_true rfl) (Nat.le_of_ble_eq_true rfl) rfl (Nat.le_of_ble_eq_true rfl) ?_
      refine ab_if_eq C (tgt := 59) dX10_which_20 (by decide) (fun hc5 => ?_) (fun hc5 => ?_)
      · replace h := ab_pos hc5 h
        refine ab_weak (lv' := [some (.inr (.inr (0, 0))), some (.inl x1), some (.inl x2), some (.inl x3), none, none, none, none]) ⟨.inr rfl, ⟨.inr rfl, ⟨.inr rfl, ⟨.inr rfl, ⟨.inl rfl, ⟨.inl rfl, ⟨.inl rfl, ⟨.inl rfl, trivial⟩⟩⟩⟩⟩⟩⟩⟩ ?_
        exact gX10_which_b59 C _ _ _ _ h
      · replace h := ab_neg hc5 h
        refine ab_iload_n C dX10_which_23 rfl ?_
        refine ab_bipush C dX10_which_24 (v := 10) rfl ?_
        refine ab_irem C dX10_which_26 (by decide) ?_
        refine ab_iconst C dX10_which_27 (v := 4) rfl ?_
        refine ab_icmp_ge C (tgt := 59) dX10_which_28 (by decide) (fun hc6 => ?_) (fun hc6 => ?_)
        · replace h := ab_pos hc6 h
          refine ab_weak (lv' := [some (.inr (.inr (0, 0))), some (.inl x1), some (.inl x2), some (.inl x3), none, none, none, none]) ⟨.inr rfl, ⟨.inr rfl, ⟨.inr rfl, ⟨.inr rfl, ⟨.inl rfl, ⟨.inl rfl, ⟨.inl rfl, ⟨.inl rfl, trivial⟩⟩⟩⟩⟩⟩⟩⟩ ?_
          exact gX10_which_b59 C _ _ _ _ h
        · replace h := ab_neg hc6 h
          refine ab_iload_n C dX10_which_31 rfl ?_
          refine ab_bipush C dX10_which_32 (v := 10) rfl ?_
          refine ab_idiv C dX10_which_34 (by decide) ?_
          refine ab_iload_n C dX10_which_35 rfl ?_
          refine ab_bipush C dX10_which_36 (v := 10) rfl ?_
          refine ab_irem C dX10_which_38 (by decide) ?_
          obtain ⟨q7, hq7, h⟩ := ab_bind h
          refine ab_invS1 C dX10_which_39 mlX10_138 ysX10_isIn (tX10_isIn l _ _ _ hq7) (Nat.le_of_ble_eq_true rfl) (Nat.le_of_ble_eq_true rfl) rfl (Nat.le_of_ble_eq_true rfl) ?_
          refine ab_if_eq C (tgt := 59) dX10_which_42 (by decide) (fun hc8 => ?_) (fun hc8 => ?_)
          · replace h := ab_pos hc8 h
            refine ab_weak (lv' := [some (.inr (.inr (0, 0))), some (.inl x1), some (.inl x2), some (.inl x3), none, none, none, none]) ⟨.inr rfl, ⟨.inr rfl, ⟨.inr rfl, ⟨.inr rfl, ⟨.inl rfl, ⟨.inl rfl, ⟨.inl rfl, ⟨.inl rfl, trivial⟩⟩⟩⟩⟩⟩⟩⟩ ?_
            exact gX10_which_b59 C _ _ _ _ h
          · replace h := ab_neg hc8 h
            refine ab_iload_n C dX10_which_45 rfl ?_
            refine ab_i2l C dX10_which_46  ?_
            refine ab_lconst C dX10_which_47 (v := 0) rfl ?_
            refine ab_lconst C dX10_which_48 (v := 1) rfl ?_
            obtain ⟨q9, hq9, h⟩ := ab_bind h
            refine ab_invS1 C dX10_which_49 mlX10_105 ysX10_within (tX10_within l _ _ _ _ hq9) (Nat.le_of_ble_eq_true rfl) (Nat.le_of_ble_eq_true rfl) rfl (Nat.le_of_ble_eq_true rfl) ?_
            refine ab_if_eq C (tgt := 59) dX10_which_52 (by decide) (fun hc10 => ?_) (fun hc10 => ?_)
            · replace h := ab_pos hc10 h
              refine ab_weak (lv' := [some (.inr (.inr (0, 0))), some (.inl x1), some (.inl x2), some (.inl x3), none, none, none, none]) ⟨.inr rfl, ⟨.inr rfl, ⟨.inr rfl, ⟨.inr rfl, ⟨.inl rfl, ⟨.inl rfl, ⟨.inl rfl, ⟨.inl rfl, trivial⟩⟩⟩⟩⟩⟩⟩⟩ ?_
              exact gX10_which_b59 C _ _ _ _ h
            · replace h := ab_neg hc10 h
              refine ab_iconst C dX10_which_55 (v := 1) rfl ?_
              refine ab_goto C (tgt := 60) dX10_which_56 (by decide) ?_
              refine ab_weak (lv' := [some (.inr (.inr (0, 0))), some (.inl x1), some (.inl x2), some (.inl x3), none, none, none, none]) ⟨.inr rfl, ⟨.inr rfl, ⟨.inr rfl, ⟨.inr rfl, ⟨.inl rfl, ⟨.inl rfl, ⟨.inl rfl, ⟨.inl rfl, trivial⟩⟩⟩⟩⟩⟩⟩⟩ ?_
              exact gX10_which_b60 C _ _ _ _ _ h
end
def fX10_win_b63 (v2 : Int32) (t1 : Int32) (σ : ab_S) : Option (Int32 × ab_S) := (if ab_inb t1 3 = true then (if ab_inb t1 3 = true then ab_k (ab_si σ 14 0 t1.toNatClampNeg ((σ.1 14 0 t1.toNatClampNeg) + 1)) fun σ3 => ab_k (ab_si σ3 0 0 9 0) fun σ4 => some (v2, σ4) else none) else none)
def fX10_win_b39 (t0 : Int32) (σ : ab_S) : Option (Int32 × ab_S) := (if t0 = 2 then fX10_win_b63 t0 1 σ else (if t0 = 1 then fX10_win_b63 t0 0 σ else fX10_win_b63 t0 2 σ))
def fX10_win (x1 : Int32) (σ : ab_S) : Option (Int32 × ab_S) := (fX10_isDoor ((x1 : Int32).toInt64) σ).bind fun q1 => (if q1 = 0 then some ((-1), σ) else (fX10_openNow σ).bind fun q3 => (fX10_isIn q3 x1).bind fun q4 => (if q4 = 0 then (if x1 = (σ.1 0 0 8) then fX10_win_b39 1 σ else fX10_win_b39 0 σ) else fX10_win_b39 2 σ))
section
variable {p : Program} {l : Launch} {e : Env} {s : State} {m : MethodId} {args : Array Value} {below : List Frame} {meth : Method} {c : Code} {D : va_G} {cA : Nat → ClassId} {ad : Nat → Nat → Nat}
set_option maxRecDepth 100000 in
set_option maxHeartbeats 4000000 in
theorem gX10_win_b63 {R : (Int32 × ab_S)} (C : ab_C yM p s m args meth c D cA ad cX10_win 3 RX10 (some .int)) (v2 : Int32) (t1 : Int32) (σ : ab_S) (h : fX10_win_b63 v2 t1 σ = some R) : ab_G yM p l e s m args below meth c D cA ad 3 2 (some (.inl R.1)) R.2 63 [some (.inr (.inr (0, 0))), none, some (.inl v2)] [.inl t1, .inr (.inr (14, 0))] σ := by
  refine ab_dup2 C dX10_win_63 rfl rfl ?_
  obtain ⟨hg1, h⟩ := ab_grd h
  refine ab_iald C dX10_win_64 rkM_14 mmM_14 hg1 ?_
  refine ab_iconst C dX10_win_65 (v := 1) rfl ?_
  refine ab_iadd C dX10_win_66  ?_
  obtain ⟨hg2, h⟩ := ab_grd h
  refine ab_iast C dX10_win_67 rkM_14 mmM_14 hg2 ?_
  refine ab_nmS (fun σ3 eσ3 => ?_)
  replace h := ab_kh eσ3 h
  refine ab_aload_n C dX10_win_68 rfl ?_
  refine ab_iconst C dX10_win_69 (v := 0) rfl ?_
  refine ab_putI C dX10_win_70 fpX10_93 rkM_0 rfl mmM_0 rfl rfl ?_
  refine ab_nmS (fun σ4 eσ4 => ?_)
  replace h := ab_kh eσ4 h
  refine ab_iload_n C dX10_win_73 rfl ?_
  obtain rfl := Option.some.inj h
  exact ab_iret C dX10_win_74
set_option maxRecDepth 100000 in
set_option maxHeartbeats 4000000 in
theorem gX10_win_b39 {R : (Int32 × ab_S)} (C : ab_C yM p s m args meth c D cA ad cX10_win 3 RX10 (some .int)) (t0 : Int32) (σ : ab_S) (h : fX10_win_b39 t0 σ = some R) : ab_G yM p l e s m args below meth c D cA ad 3 2 (some (.inl R.1)) R.2 39 [some (.inr (.inr (0, 0))), none, none] [.inl t0] σ := by
  refine ab_istore_n C dX10_win_39 (Nat.le_of_ble_eq_true rfl) ?_
  refine ab_aload_n C dX10_win_40 rfl ?_
  refine ab_getR C dX10_win_41 flX10_52 rkM_0 rfl mmM_0 ?_
  refine ab_iload_n C dX10_win_44 rfl ?_
  refine ab_iconst C dX10_win_45 (v := 2) rfl ?_
  refine ab_icmp_ne C (tgt := 53) dX10_win_46 (by decide) (fun hc1 => ?_) (fun hc1 => ?_)
  · replace h := ab_neg hc1 h
    refine ab_iload_n C dX10_win_53 rfl ?_
    refine ab_iconst C dX10_win_54 (v := 1) rfl ?_
    refine ab_icmp_ne C (tgt := 62) dX10_win_55 (by decide) (fun hc2 => ?_) (fun hc2 => ?_)
    · replace h := ab_neg hc2 h
      refine ab_iconst C dX10_win_62 (v := 2) rfl ?_
      refine ab_weak (lv' := [some (.inr (.inr (0, 0))), none, some (.inl t0)]) ⟨.inr rfl, ⟨.inl rfl, ⟨.inr rfl, trivial⟩⟩⟩ ?_
      exact gX10_win_b63 C _ _ _ h
    · replace h := ab_pos hc2 h
      refine ab_iconst C dX10_win_58 (v := 0) rfl ?_
      refine ab_goto C (tgt := 63) dX10_win_59 (by decide) ?_
      refine ab_weak (lv' := [some (.inr (.inr (0, 0))), none, some (.inl t0)]) ⟨.inr rfl, ⟨.inl rfl, ⟨.inr rfl, trivial⟩⟩⟩ ?_
      exact gX10_win_b63 C _ _ _ h
  · replace h := ab_pos hc1 h
    refine ab_iconst C dX10_win_49 (v := 1) rfl ?_
    refine ab_goto C (tgt := 63) dX10_win_50 (by decide) ?_
    refine ab_weak (lv' := [some (.inr (.inr (0, 0))), none, some (.inl t0)]) ⟨.inr rfl, ⟨.inl rfl, ⟨.inr rfl, trivial⟩⟩⟩ ?_
    exact gX10_win_b63 C _ _ _ h
set_option maxRecDepth 100000 in
set_option maxHeartbeats 4000000 in
theorem tX10_win (l : Launch) (x1 : Int32) (σ : ab_S) {R : (Int32 × ab_S)} (h : fX10_win x1 σ = some R) : ab_M l yM yX10_win cX10_win 3 (some .int) 2 [.inr (.inr (0, 0)), .inl x1] σ (some (.inl R.1)) R.2 := by
  refine ab_M_intro ndM (by decide) (Nat.le_of_ble_eq_true rfl) ?_
  intro p e s m args below meth c D cA ad C
  have C : ab_C yM p s m args meth c D cA ad cX10_win 3 RX10 (some .int) := C
  refine ab_weak (lv' := [some (.inr (.inr (0, 0))), some (.inl x1), none]) ⟨.inr rfl, ⟨.inr rfl, ⟨.inl rfl, trivial⟩⟩⟩ ?_
  refine ab_aload_n C dX10_win_0 rfl ?_
  refine ab_iload_n C dX10_win_1 rfl ?_
  refine ab_i2l C dX10_win_2  ?_
  obtain ⟨q1, hq1, h⟩ := ab_bind h
  refine ab_inv1 C dX10_win_3 mlX10_117 yvX10_isDoor rkM_0 ⟨_, _, rfl⟩ mmM_0 (tX10_isDoor l _ _ hq1) (Nat.le_of_ble_eq_true rfl) (Nat.le_of_ble_eq_true rfl) rfl (Nat.le_of_ble_eq_true rfl) ?_
  refine ab_if_ne C (tgt := 11) dX10_win_6 (by decide) (fun hc2 => ?_) (fun hc2 => ?_)
  · replace h := ab_neg hc2 h
    refine ab_aload_n C dX10_win_11 rfl ?_
    obtain ⟨q3, hq3, h⟩ := ab_bind h
    refine ab_inv1 C dX10_win_12 mlX10_134 yvX10_openNow rkM_0 ⟨_, _, rfl⟩ mmM_0 (tX10_openNow l _ hq3) (Nat.le_of_ble_eq_true rfl) (Nat.le_of_ble_eq_true rfl) rfl (Nat.le_of_ble_eq_true rfl) ?_
    refine ab_iload_n C dX10_win_15 rfl ?_
    obtain ⟨q4, hq4, h⟩ := ab_bind h
    refine ab_invS1 C dX10_win_16 mlX10_138 ysX10_isIn (tX10_isIn l _ _ _ hq4) (Nat.le_of_ble_eq_true rfl) (Nat.le_of_ble_eq_true rfl) rfl (Nat.le_of_ble_eq_true rfl) ?_
    refine ab_if_eq C (tgt := 26) dX10_win_19 (by decide) (fun hc5 => ?_) (fun hc5 => ?_)
    · replace h := ab_pos hc5 h
      refine ab_iload_n C dX10_win_26 rfl ?_
      refine ab_aload_n C dX10_win_27 rfl ?_
      refine ab_getI C dX10_win_28 flX10_90 rkM_0 rfl mmM_0 ?_
      refine ab_icmp_ne C (tgt := 38) dX10_win_31 (by decide) (fun hc6 => ?_) (fun hc6 => ?_)
      · replace h := ab_neg hc6 h
        refine ab_iconst C dX10_win_38 (v := 0) rfl ?_
        refine ab_weak (lv' := [some (.inr (.inr (0, 0))), none, none]) ⟨.inr rfl, ⟨.inl rfl, ⟨.inl rfl, trivial⟩⟩⟩ ?_
        exact gX10_win_b39 C _ _ h
      · replace h := ab_pos hc6 h
        refine ab_iconst C dX10_win_34 (v := 1) rfl ?_
        refine ab_goto C (tgt := 39) dX10_win_35 (by decide) ?_
        refine ab_weak (lv' := [some (.inr (.inr (0, 0))), none, none]) ⟨.inr rfl, ⟨.inl rfl, ⟨.inl rfl, trivial⟩⟩⟩ ?_
        exact gX10_win_b39 C _ _ h
    · replace h := ab_neg hc5 h
      refine ab_iconst C dX10_win_22 (v := 2) rfl ?_
      refine ab_goto C (tgt := 39) dX10_win_23 (by decide) ?_
      refine ab_weak (lv' := [some (.inr (.inr (0, 0))), none, none]) ⟨.inr rfl, ⟨.inl rfl, ⟨.inl rfl, trivial⟩⟩⟩ ?_
      exact gX10_win_b39 C _ _ h
  · replace h := ab_pos hc2 h
    refine ab_iconst C dX10_win_9 (v := (-1)) rfl ?_
    obtain rfl := Option.some.inj h
    exact ab_iret C dX10_win_10
end
def fX10_worth_b31 (σ : ab_S) : Option (Int64 × ab_S) := some ((-9223372036854775808), σ)
def fX10_worth_b68 (t0 : Int64) (σ : ab_S) : Option (Int64 × ab_S) := some (t0, σ)
def fX10_worth (x1 : Int32) (x2 : Int32) (x3 : Int32) (σ : ab_S) : Option (Int64 × ab_S) := (fX10_within ((x1 : Int32).toInt64) 0 2).bind fun q1 => (if q1 = 0 then fX10_worth_b31 σ else (fX10_isDoor ((x2 : Int32).toInt64) σ).bind fun q3 => (if q3 = 0 then fX10_worth_b31 σ else (fX10_within ((x3 : Int32).toInt64) 0 1).bind fun q5 => (if q5 = 0 then fX10_worth_b31 σ else (fX10_allWeights σ).bind fun q7 => (if q7 = 0 then fX10_worth_b68 ((-2)) σ else (if ab_inb 5 7 = true then (fX10_wonFrom (σ.1 1 0 ((5 : Int32).toNatClampNeg)) x1 x2 σ).bind fun q10 => (fX10_wholeOf q10.2).bind fun q11 => (fX10_partOf q10.1 q11 x3).bind fun q12 => fX10_worth_b68 q12 q10.2 else none)))))
section
variable {p : Program} {l : Launch} {e : Env} {s : State} {m : MethodId} {args : Array Value} {below : List Frame} {meth : Method} {c : Code} {D : va_G} {cA : Nat → ClassId} {ad : Nat → Nat → Nat}
set_option maxRecDepth 100000 in
set_option maxHeartbeats 4000000 in
theorem gX10_worth_b31 {R : (Int64 × ab_S)} (C : ab_C yM p s m args meth c D cA ad cX10_worth 4 RX10 (some .long)) (σ : ab_S) (h : fX10_worth_b31 σ = some R) : ab_G yM p l e s m args below meth c D cA ad 4 137 (some (.inr (.inl R.1))) R.2 31 [none, none, none, none] [] σ := by
  refine ab_ldc2 C dX10_worth_31 cwX10_220 ?_
  obtain rfl := Option.some.inj h
  exact ab_lret C dX10_worth_34
set_option maxRecDepth 100000 in
set_option maxHeartbeats 4000000 in
theorem gX10_worth_b68 {R : (Int64 × ab_S)} (C : ab_C yM p s m args meth c D cA ad cX10_worth 4 RX10 (some .long)) (t0 : Int64) (σ : ab_S) (h : fX10_worth_b68 t0 σ = some R) : ab_G yM p l e s m args below meth c D cA ad 4 137 (some (.inr (.inl R.1))) R.2 68 [none, none, none, none] [.inr (.inl t0)] σ := by
  obtain rfl := Option.some.inj h
  exact ab_lret C dX10_worth_68
set_option maxRecDepth 100000 in
set_option maxHeartbeats 4000000 in
theorem tX10_worth (l : Launch) (x1 : Int32) (x2 : Int32) (x3 : Int32) (σ : ab_S) {R : (Int64 × ab_S)} (h : fX10_worth x1 x2 x3 σ = some R) : ab_M l yM yX10_worth cX10_worth 4 (some .long) 137 [.inr (.inr (0, 0)), .inl x1, .inl x2, .inl x3] σ (some (.inr (.inl R.1))) R.2 := by
  refine ab_M_intro ndM (by decide) (Nat.le_of_ble_eq_true rfl) ?_
  intro p e s m args below meth c D cA ad C
  have C : ab_C yM p s m args meth c D cA ad cX10_worth 4 RX10 (some .long) := C
  refine ab_weak (lv' := [some (.inr (.inr (0, 0))), some (.inl x1), some (.inl x2), some (.inl x3)]) ⟨.inr rfl, ⟨.inr rfl, ⟨.inr rfl, ⟨.inr rfl, trivial⟩⟩⟩⟩ ?_
  refine ab_iload_n C dX10_worth_0 rfl ?_
  refine ab_i2l C dX10_worth_1  ?_
  refine ab_lconst C dX10_worth_2 (v := 0) rfl ?_
  refine ab_ldc2 C dX10_worth_3 cwX10_109 ?_
  obtain ⟨q1, hq1, h⟩ := ab_bind h
  refine ab_invS1 C dX10_worth_6 mlX10_105 ysX10_within (tX10_within l _ _ _ _ hq1) (Nat.le_of_ble_eq_true rfl) (Nat.le_of_ble_eq_true rfl) rfl (Nat.le_of_ble_eq_true rfl) ?_
  refine ab_if_eq C (tgt := 31) dX10_worth_9 (by decide) (fun hc2 => ?_) (fun hc2 => ?_)
  · replace h := ab_pos hc2 h
    refine ab_weak (lv' := [none, none, none, none]) ⟨.inl rfl, ⟨.inl rfl, ⟨.inl rfl, ⟨.inl rfl, trivial⟩⟩⟩⟩ ?_
    exact gX10_worth_b31 C _ h
  · replace h := ab_neg hc2 h
    refine ab_aload_n C dX10_worth_12 rfl ?_
    refine ab_iload_n C dX10_worth_13 rfl ?_
    refine ab_i2l C dX10_worth_14  ?_
    obtain ⟨q3, hq3, h⟩ := ab_bind h
    refine ab_inv1 C dX10_worth_15 mlX10_117 yvX10_isDoor rkM_0 ⟨_, _, rfl⟩ mmM_0 (tX10_isDoor l _ _ hq3) (Nat.le_of_ble_eq_true rfl) (Nat.le_of_ble_eq_true rfl) rfl (Nat.le_of_ble_eq_true rfl) ?_
    refine ab_if_eq C (tgt := 31) dX10_worth_18 (by decide) (fun hc4 => ?_) (fun hc4 => ?_)
    · replace h := ab_pos hc4 h
      refine ab_weak (lv' := [none, none, none, none]) ⟨.inl rfl, ⟨.inl rfl, ⟨.inl rfl, ⟨.inl rfl, trivial⟩⟩⟩⟩ ?_
      exact gX10_worth_b31 C _ h
    · replace h := ab_neg hc4 h
      refine ab_iload_n C dX10_worth_21 rfl ?_
      refine ab_i2l C dX10_worth_22  ?_
      refine ab_lconst C dX10_worth_23 (v := 0) rfl ?_
      refine ab_lconst C dX10_worth_24 (v := 1) rfl ?_
      obtain ⟨q5, hq5, h⟩ := ab_bind h
      refine ab_invS1 C dX10_worth_25 mlX10_105 ysX10_within (tX10_within l _ _ _ _ hq5) (Nat.le_of_ble_eq_true rfl) (Nat.le_of_ble_eq_true rfl) rfl (Nat.le_of_ble_eq_true rfl) ?_
      refine ab_if_ne C (tgt := 35) dX10_worth_28 (by decide) (fun hc6 => ?_) (fun hc6 => ?_)
      · replace h := ab_neg hc6 h
        refine ab_aload_n C dX10_worth_35 rfl ?_
        obtain ⟨q7, hq7, h⟩ := ab_bind h
        refine ab_inv1 C dX10_worth_36 mlX10_259 yvX10_allWeights rkM_0 ⟨_, _, rfl⟩ mmM_0 (tX10_allWeights l _ hq7) (Nat.le_of_ble_eq_true rfl) (Nat.le_of_ble_eq_true rfl) rfl (Nat.le_of_ble_eq_true rfl) ?_
        refine ab_if_ne C (tgt := 48) dX10_worth_39 (by decide) (fun hc8 => ?_) (fun hc8 => ?_)
        · replace h := ab_neg hc8 h
          refine ab_aload_n C dX10_worth_48 rfl ?_
          refine ab_aload_n C dX10_worth_49 rfl ?_
          refine ab_getR C dX10_worth_50 flX10_11 rkM_0 rfl mmM_0 ?_
          refine ab_iconst C dX10_worth_53 (v := 5) rfl ?_
          obtain ⟨hg9, h⟩ := ab_grd h
          refine ab_iald C dX10_worth_54 rkM_1 mmM_1 hg9 ?_
          refine ab_iload_n C dX10_worth_55 rfl ?_
          refine ab_iload_n C dX10_worth_56 rfl ?_
          obtain ⟨q10, hq10, h⟩ := ab_bind h
          refine ab_inv1 C dX10_worth_57 mlX10_265 yvX10_wonFrom rkM_0 ⟨_, _, rfl⟩ mmM_0 (tX10_wonFrom l _ _ _ _ hq10) (Nat.le_of_ble_eq_true rfl) (Nat.le_of_ble_eq_true rfl) rfl (Nat.le_of_ble_eq_true rfl) ?_
          refine ab_aload_n C dX10_worth_60 rfl ?_
          obtain ⟨q11, hq11, h⟩ := ab_bind h
          refine ab_inv1 C dX10_worth_61 mlX10_268 yvX10_wholeOf rkM_0 ⟨_, _, rfl⟩ mmM_0 (tX10_wholeOf l _ hq11) (Nat.le_of_ble_eq_true rfl) (Nat.le_of_ble_eq_true rfl) rfl (Nat.le_of_ble_eq_true rfl) ?_
          refine ab_iload_n C dX10_worth_64 rfl ?_
          obtain ⟨q12, hq12, h⟩ := ab_bind h
          refine ab_invS1 C dX10_worth_65 mlX10_228 ysX10_partOf (tX10_partOf l _ _ _ _ hq12) (Nat.le_of_ble_eq_true rfl) (Nat.le_of_ble_eq_true rfl) rfl (Nat.le_of_ble_eq_true rfl) ?_
          refine ab_weak (lv' := [none, none, none, none]) ⟨.inl rfl, ⟨.inl rfl, ⟨.inl rfl, ⟨.inl rfl, trivial⟩⟩⟩⟩ ?_
          exact gX10_worth_b68 C _ _ h
        · replace h := ab_pos hc8 h
          refine ab_ldc2 C dX10_worth_42 cwX10_226 ?_
          refine ab_goto C (tgt := 68) dX10_worth_45 (by decide) ?_
          refine ab_weak (lv' := [none, none, none, none]) ⟨.inl rfl, ⟨.inl rfl, ⟨.inl rfl, ⟨.inl rfl, trivial⟩⟩⟩⟩ ?_
          exact gX10_worth_b68 C _ _ h
      · replace h := ab_pos hc6 h
        refine ab_weak (lv' := [none, none, none, none]) ⟨.inl rfl, ⟨.inl rfl, ⟨.inl rfl, ⟨.inl rfl, trivial⟩⟩⟩⟩ ?_
        exact gX10_worth_b31 C _ h
end
