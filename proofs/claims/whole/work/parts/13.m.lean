def fX7_together_b4_o (kk4 : Int32 → Int32 → ab_S → Option Int32) (v1 : Int32) (v2 : Int32) (σ : ab_S) : Option Int32 := (if (σ.1 1 0 3) ≤ v2 then some v1 else (if ab_inb v2 5 = true then kk4 (v1 + (σ.1 2 0 v2.toNatClampNeg)) (v2 + 1) σ else none))
def fX7_together_b4 : Nat → Int32 → Int32 → ab_S → Option Int32
  | 0 => fun _ _ _ => none
  | n + 1 => fX7_together_b4_o  (fX7_together_b4 n)
def fX7_together (σ : ab_S) : Option Int32 := fX7_together_b4 ab_N 0 0 σ
section
variable {p : Program} {l : Launch} {e : Env} {s : State} {m : MethodId} {args : Array Value} {below : List Frame} {meth : Method} {c : Code} {D : va_G} {cA : Nat → ClassId} {ad : Nat → Nat → Nat}
set_option maxRecDepth 100000 in
set_option maxHeartbeats 4000000 in
theorem gX7_together_b4_o {R : Int32} (C : ab_C yC p s m args meth c D cA ad cX7_together 3 RX7 (some .int)) (σ : ab_S) {kk4 : Int32 → Int32 → ab_S → Option Int32} (hk4 : ∀ (v1 : Int32) (v2 : Int32), kk4 v1 v2 σ = some R → ab_G yC p l e s m args below meth c D cA ad 3 0 (some (.inl R)) σ 4 [some (.inr (.inr (1, 0))), some (.inl v1), some (.inl v2)] [] σ) (v1 : Int32) (v2 : Int32) (h : fX7_together_b4_o kk4 v1 v2 σ = some R) : ab_G yC p l e s m args below meth c D cA ad 3 0 (some (.inl R)) σ 4 [some (.inr (.inr (1, 0))), some (.inl v1), some (.inl v2)] [] σ := by
  refine ab_iload_n C dX7_together_4 rfl ?_
  refine ab_aload_n C dX7_together_5 rfl ?_
  refine ab_getI C dX7_together_6 flX7_32 rkC_1 rfl mmC_1 ?_
  refine ab_icmp_ge C (tgt := 27) dX7_together_9 (by decide) (fun hc1 => ?_) (fun hc1 => ?_)
  · replace h := ab_pos hc1 h
    refine ab_iload_n C dX7_together_27 rfl ?_
    obtain rfl := Option.some.inj h
    exact ab_iret C dX7_together_28
  · replace h := ab_neg hc1 h
    refine ab_iload_n C dX7_together_12 rfl ?_
    refine ab_aload_n C dX7_together_13 rfl ?_
    refine ab_getR C dX7_together_14 flX7_9 rkC_1 rfl mmC_1 ?_
    refine ab_iload_n C dX7_together_17 rfl ?_
    obtain ⟨hg2, h⟩ := ab_grd h
    refine ab_iald C dX7_together_18 rkC_2 mmC_2 hg2 ?_
    refine ab_iadd C dX7_together_19  ?_
    refine ab_istore_n C dX7_together_20 (Nat.le_of_ble_eq_true rfl) ?_
    refine ab_iinc C dX7_together_21 rfl (v := 1) rfl (Nat.le_of_ble_eq_true rfl) ?_
    refine ab_goto C (tgt := 4) dX7_together_24 (by decide) ?_
    refine ab_weak (lv' := [some (.inr (.inr (1, 0))), some (.inl (v1 + (σ.1 2 0 v2.toNatClampNeg))), some (.inl (v2 + 1))]) ⟨.inr rfl, ⟨.inr rfl, ⟨.inr rfl, trivial⟩⟩⟩ ?_
    exact hk4 _ _ h
theorem gX7_together_b4 {R : Int32} (C : ab_C yC p s m args meth c D cA ad cX7_together 3 RX7 (some .int)) (σ : ab_S) : ∀ (j : Nat) (v1 : Int32) (v2 : Int32), fX7_together_b4 j v1 v2 σ = some R → ab_G yC p l e s m args below meth c D cA ad 3 0 (some (.inl R)) σ 4 [some (.inr (.inr (1, 0))), some (.inl v1), some (.inl v2)] [] σ := by
  intro j
  induction j with
  | zero => intro v1 v2  h; cases h
  | succ j ih => intro v1 v2  h; exact gX7_together_b4_o C σ ih _ _ h
set_option maxRecDepth 100000 in
set_option maxHeartbeats 4000000 in
theorem tX7_together (l : Launch) (σ : ab_S) {R : Int32} (h : fX7_together σ = some R) : ab_M l yC yX7_together cX7_together 3 (some .int) 0 [.inr (.inr (1, 0))] σ (some (.inl R)) σ := by
  refine ab_M_intro ndC (by decide) (Nat.le_of_ble_eq_true rfl) ?_
  intro p e s m args below meth c D cA ad C
  have C : ab_C yC p s m args meth c D cA ad cX7_together 3 RX7 (some .int) := C
  refine ab_weak (lv' := [some (.inr (.inr (1, 0))), none, none]) ⟨.inr rfl, ⟨.inl rfl, ⟨.inl rfl, trivial⟩⟩⟩ ?_
  refine ab_iconst C dX7_together_0 (v := 0) rfl ?_
  refine ab_istore_n C dX7_together_1 (Nat.le_of_ble_eq_true rfl) ?_
  refine ab_iconst C dX7_together_2 (v := 0) rfl ?_
  refine ab_istore_n C dX7_together_3 (Nat.le_of_ble_eq_true rfl) ?_
  refine ab_weak (lv' := [some (.inr (.inr (1, 0))), some (.inl 0), some (.inl 0)]) ⟨.inr rfl, ⟨.inr rfl, ⟨.inr rfl, trivial⟩⟩⟩ ?_
  exact gX7_together_b4 C _ ab_N _ _ h
end
def fX3_drawCow_b14_o (kk14 : Int32 → Int32 → ab_S → Option (Int32 × ab_S)) (v1 : Int32) (v2 : Int32) (σ : ab_S) : Option (Int32 × ab_S) := (if (σ.1 1 0 3) ≤ v2 then some (0, σ) else (if ab_inb v2 5 = true then (if 0 ≤ (v1 - (σ.1 2 0 v2.toNatClampNeg)) then kk14 (v1 - (σ.1 2 0 v2.toNatClampNeg)) (v2 + 1) σ else some (v2, σ)) else none))
def fX3_drawCow_b14 : Nat → Int32 → Int32 → ab_S → Option (Int32 × ab_S)
  | 0 => fun _ _ _ => none
  | n + 1 => fX3_drawCow_b14_o  (fX3_drawCow_b14 n)
def fX3_drawCow (σ : ab_S) : Option (Int32 × ab_S) := (fX7_together σ).bind fun q1 => (fX3_drawOf q1 σ).bind fun q2 => fX3_drawCow_b14 ab_N q2.1 0 q2.2
section
variable {p : Program} {l : Launch} {e : Env} {s : State} {m : MethodId} {args : Array Value} {below : List Frame} {meth : Method} {c : Code} {D : va_G} {cA : Nat → ClassId} {ad : Nat → Nat → Nat}
set_option maxRecDepth 100000 in
set_option maxHeartbeats 4000000 in
theorem gX3_drawCow_b14_o {R : (Int32 × ab_S)} (C : ab_C yC p s m args meth c D cA ad cX3_drawCow 3 RX3 (some .int)) {kk14 : Int32 → Int32 → ab_S → Option (Int32 × ab_S)} (hk14 : ∀ (v1 : Int32) (v2 : Int32) (σ : ab_S), kk14 v1 v2 σ = some R → ab_G yC p l e s m args below meth c D cA ad 3 1 (some (.inl R.1)) R.2 14 [some (.inr (.inr (35, 0))), some (.inl v1), some (.inl v2)] [] σ) (v1 : Int32) (v2 : Int32) (σ : ab_S) (h : fX3_drawCow_b14_o kk14 v1 v2 σ = some R) : ab_G yC p l e s m args below meth c D cA ad 3 1 (some (.inl R.1)) R.2 14 [some (.inr (.inr (35, 0))), some (.inl v1), some (.inl v2)] [] σ := by
  refine ab_iload_n C dX3_drawCow_14 rfl ?_
  refine ab_aload_n C dX3_drawCow_15 rfl ?_
  refine ab_getR C dX3_drawCow_16 flX3_9 rkC_35 rfl mmC_35 ?_
  refine ab_getI C dX3_drawCow_19 flX3_51 rkC_1 rfl mmC_1 ?_
  refine ab_icmp_ge C (tgt := 49) dX3_drawCow_22 (by decide) (fun hc1 => ?_) (fun hc1 => ?_)
  · replace h := ab_pos hc1 h
    refine ab_iconst C dX3_drawCow_49 (v := 0) rfl ?_
    obtain rfl := Option.some.inj h
    exact ab_iret C dX3_drawCow_50
  · replace h := ab_neg hc1 h
    refine ab_iload_n C dX3_drawCow_25 rfl ?_
    refine ab_aload_n C dX3_drawCow_26 rfl ?_
    refine ab_getR C dX3_drawCow_27 flX3_9 rkC_35 rfl mmC_35 ?_
    refine ab_getR C dX3_drawCow_30 flX3_54 rkC_1 rfl mmC_1 ?_
    refine ab_iload_n C dX3_drawCow_33 rfl ?_
    obtain ⟨hg2, h⟩ := ab_grd h
    refine ab_iald C dX3_drawCow_34 rkC_2 mmC_2 hg2 ?_
    refine ab_isub C dX3_drawCow_35  ?_
    refine ab_istore_n C dX3_drawCow_36 (Nat.le_of_ble_eq_true rfl) ?_
    refine ab_iload_n C dX3_drawCow_37 rfl ?_
    refine ab_if_ge C (tgt := 43) dX3_drawCow_38 (by decide) (fun hc3 => ?_) (fun hc3 => ?_)
    · replace h := ab_pos hc3 h
      refine ab_iinc C dX3_drawCow_43 rfl (v := 1) rfl (Nat.le_of_ble_eq_true rfl) ?_
      refine ab_goto C (tgt := 14) dX3_drawCow_46 (by decide) ?_
      refine ab_weak (lv' := [some (.inr (.inr (35, 0))), some (.inl (v1 - (σ.1 2 0 v2.toNatClampNeg))), some (.inl (v2 + 1))]) ⟨.inr rfl, ⟨.inr rfl, ⟨.inr rfl, trivial⟩⟩⟩ ?_
      exact hk14 _ _ _ h
    · replace h := ab_neg hc3 h
      refine ab_iload_n C dX3_drawCow_41 rfl ?_
      obtain rfl := Option.some.inj h
      exact ab_iret C dX3_drawCow_42
theorem gX3_drawCow_b14 {R : (Int32 × ab_S)} (C : ab_C yC p s m args meth c D cA ad cX3_drawCow 3 RX3 (some .int)) : ∀ (j : Nat) (v1 : Int32) (v2 : Int32) (σ : ab_S), fX3_drawCow_b14 j v1 v2 σ = some R → ab_G yC p l e s m args below meth c D cA ad 3 1 (some (.inl R.1)) R.2 14 [some (.inr (.inr (35, 0))), some (.inl v1), some (.inl v2)] [] σ := by
  intro j
  induction j with
  | zero => intro v1 v2 σ  h; cases h
  | succ j ih => intro v1 v2 σ  h; exact gX3_drawCow_b14_o C ih _ _ _ h
set_option maxRecDepth 100000 in
set_option maxHeartbeats 4000000 in
theorem tX3_drawCow (l : Launch) (σ : ab_S) {R : (Int32 × ab_S)} (h : fX3_drawCow σ = some R) : ab_M l yC yX3_drawCow cX3_drawCow 3 (some .int) 1 [.inr (.inr (35, 0))] σ (some (.inl R.1)) R.2 := by
  refine ab_M_intro ndC (by decide) (Nat.le_of_ble_eq_true rfl) ?_
  intro p e s m args below meth c D cA ad C
  have C : ab_C yC p s m args meth c D cA ad cX3_drawCow 3 RX3 (some .int) := C
  refine ab_weak (lv' := [some (.inr (.inr (35, 0))), none, none]) ⟨.inr rfl, ⟨.inl rfl, ⟨.inl rfl, trivial⟩⟩⟩ ?_
  refine ab_aload_n C dX3_drawCow_0 rfl ?_
  refine ab_aload_n C dX3_drawCow_1 rfl ?_
  refine ab_getR C dX3_drawCow_2 flX3_9 rkC_35 rfl mmC_35 ?_
  obtain ⟨q1, hq1, h⟩ := ab_bind h
  refine ab_inv1 C dX3_drawCow_5 mlX3_44 yvX7_together rkC_1 ⟨_, _, rfl⟩ mmC_1 (tX7_together l _ hq1) (Nat.le_of_ble_eq_true rfl) (Nat.le_of_ble_eq_true rfl) rfl (Nat.le_of_ble_eq_true rfl) ?_
  obtain ⟨q2, hq2, h⟩ := ab_bind h
  refine ab_inv1 C dX3_drawCow_8 mlX3_47 yvX3_drawOf rkC_35 ⟨_, _, rfl⟩ mmC_35 (tX3_drawOf l _ _ hq2) (Nat.le_of_ble_eq_true rfl) (Nat.le_of_ble_eq_true rfl) rfl (Nat.le_of_ble_eq_true rfl) ?_
  refine ab_istore_n C dX3_drawCow_11 (Nat.le_of_ble_eq_true rfl) ?_
  refine ab_iconst C dX3_drawCow_12 (v := 0) rfl ?_
  refine ab_istore_n C dX3_drawCow_13 (Nat.le_of_ble_eq_true rfl) ?_
  refine ab_weak (lv' := [some (.inr (.inr (35, 0))), some (.inl q2.1), some (.inl 0)]) ⟨.inr rfl, ⟨.inr rfl, ⟨.inr rfl, trivial⟩⟩⟩ ?_
  exact gX3_drawCow_b14 C ab_N _ _ _ h
end
def fX3_endOfOne_b118 (t0 : Int32) (σ : ab_S) : Option (Int32 × ab_S) := some (t0, σ)
def fX3_endOfOne_b96 (v3 : Int32) (v4 : Int32) (v5 : Int32) (σ : ab_S) : Option (Int32 × ab_S) := (fX9_isIn v4 v3).bind fun q1 => (if q1 = 0 then (if v3 = v5 then fX3_endOfOne_b118 1 σ else fX3_endOfOne_b118 0 σ) else some (2, σ))
def fX3_endOfOne_b72 (kk14 : Int32 → Int32 → Int32 → Int32 → Int32 → ab_S → Option (Int32 × ab_S)) (v1 : Int32) (v3 : Int32) (v4 : Int32) (v5 : Int32) (v6 : Int32) (σ : ab_S) : Option (Int32 × ab_S) := kk14 v1 v3 v4 v5 (v6 + 1) σ
def fX3_endOfOne_b54 (kk14 : Int32 → Int32 → Int32 → Int32 → Int32 → ab_S → Option (Int32 × ab_S)) (v1 : Int32) (v3 : Int32) (v4 : Int32) (v5 : Int32) (v6 : Int32) (σ : ab_S) : Option (Int32 × ab_S) := (if v1 = 2 then (fX7_leastOther v4 v5 σ).bind fun q2 => fX3_endOfOne_b72 kk14 v1 v3 v4 q2 v6 σ else fX3_endOfOne_b72 kk14 v1 v3 v4 v5 v6 σ)
def fX3_endOfOne_b14_o (kk14 : Int32 → Int32 → Int32 → Int32 → Int32 → ab_S → Option (Int32 × ab_S)) (v1 : Int32) (v3 : Int32) (v4 : Int32) (v5 : Int32) (v6 : Int32) (σ : ab_S) : Option (Int32 × ab_S) := (if (σ.1 1 0 5) ≤ v6 then (if v1 = 1 then (fX7_leastOther v4 v5 σ).bind fun q3 => fX3_endOfOne_b96 v3 v4 q3 σ else fX3_endOfOne_b96 v3 v4 v5 σ) else (fX3_drawAct v6 v4 v5 v3 σ).bind fun q4 => (if q4.1 = ((-1)) then fX3_endOfOne_b54 kk14 v1 v3 v4 v5 v6 q4.2 else fX3_endOfOne_b54 kk14 v1 v3 (v4 ||| (1 <<< (q4.1 &&& 31))) v5 v6 q4.2))
def fX3_endOfOne_b14 : Nat → Int32 → Int32 → Int32 → Int32 → Int32 → ab_S → Option (Int32 × ab_S)
  | 0 => fun _ _ _ _ _ _ => none
  | n + 1 => fX3_endOfOne_b14_o  (fX3_endOfOne_b14 n)
def fX3_endOfOne (x1 : Int32) (x2 : Int32) (σ : ab_S) : Option (Int32 × ab_S) := (fX3_drawCow σ).bind fun q1 => fX3_endOfOne_b14 ab_N x1 q1.1 0 x2 0 q1.2
section
variable {p : Program} {l : Launch} {e : Env} {s : State} {m : MethodId} {args : Array Value} {below : List Frame} {meth : Method} {c : Code} {D : va_G} {cA : Nat → ClassId} {ad : Nat → Nat → Nat}
set_option maxRecDepth 100000 in
set_option maxHeartbeats 4000000 in
theorem gX3_endOfOne_b118 {R : (Int32 × ab_S)} (C : ab_C yC p s m args meth c D cA ad cX3_endOfOne 8 RX3 (some .int)) (t0 : Int32) (σ : ab_S) (h : fX3_endOfOne_b118 t0 σ = some R) : ab_G yC p l e s m args below meth c D cA ad 8 5 (some (.inl R.1)) R.2 118 [none, none, none, none, none, none, none, none] [.inl t0] σ := by
  obtain rfl := Option.some.inj h
  exact ab_iret C dX3_endOfOne_118
set_option maxRecDepth 100000 in
set_option maxHeartbeats 4000000 in
theorem gX3_endOfOne_b96 {R : (Int32 × ab_S)} (C : ab_C yC p s m args meth c D cA ad cX3_endOfOne 8 RX3 (some .int)) (v3 : Int32) (v4 : Int32) (v5 : Int32) (σ : ab_S) (h : fX3_endOfOne_b96 v3 v4 v5 σ = some R) : ab_G yC p l e s m args below meth c D cA ad 8 5 (some (.inl R.1)) R.2 96 [none, none, none, some (.inl v3), some (.inl v4), some (.inl v5), none, none] [] σ := by
  refine ab_iload C dX3_endOfOne_96 rfl ?_
  refine ab_iload_n C dX3_endOfOne_98 rfl ?_
  obtain ⟨q1, hq1, h⟩ := ab_bind h
  refine ab_invSN1 C dX3_endOfOne_99 nlX3_40 ysX9_isIn (tX9_isIn l _ _ _ hq1) (Nat.le_of_ble_eq_true rfl) (Nat.le_of_ble_eq_true rfl) rfl (Nat.le_of_ble_eq_true rfl) ?_
  refine ab_if_eq C (tgt := 107) dX3_endOfOne_102 (by decide) (fun hc2 => ?_) (fun hc2 => ?_)
  · replace h := ab_pos hc2 h
    refine ab_iload_n C dX3_endOfOne_107 rfl ?_
    refine ab_iload C dX3_endOfOne_108 rfl ?_
    refine ab_icmp_ne C (tgt := 117) dX3_endOfOne_110 (by decide) (fun hc3 => ?_) (fun hc3 => ?_)
    · replace h := ab_neg hc3 h
      refine ab_iconst C dX3_endOfOne_117 (v := 0) rfl ?_
      refine ab_weak (lv' := [none, none, none, none, none, none, none, none]) ⟨.inl rfl, ⟨.inl rfl, ⟨.inl rfl, ⟨.inl rfl, ⟨.inl rfl, ⟨.inl rfl, ⟨.inl rfl, ⟨.inl rfl, trivial⟩⟩⟩⟩⟩⟩⟩⟩ ?_
      exact gX3_endOfOne_b118 C _ _ h
    · replace h := ab_pos hc3 h
      refine ab_iconst C dX3_endOfOne_113 (v := 1) rfl ?_
      refine ab_goto C (tgt := 118) dX3_endOfOne_114 (by decide) ?_
      refine ab_weak (lv' := [none, none, none, none, none, none, none, none]) ⟨.inl rfl, ⟨.inl rfl, ⟨.inl rfl, ⟨.inl rfl, ⟨.inl rfl, ⟨.inl rfl, ⟨.inl rfl, ⟨.inl rfl, trivial⟩⟩⟩⟩⟩⟩⟩⟩ ?_
      exact gX3_endOfOne_b118 C _ _ h
  · replace h := ab_neg hc2 h
    refine ab_iconst C dX3_endOfOne_105 (v := 2) rfl ?_
    obtain rfl := Option.some.inj h
    exact ab_iret C dX3_endOfOne_106
set_option maxRecDepth 100000 in
set_option maxHeartbeats 4000000 in
theorem gX3_endOfOne_b72 {R : (Int32 × ab_S)} (C : ab_C yC p s m args meth c D cA ad cX3_endOfOne 8 RX3 (some .int)) {kk14 : Int32 → Int32 → Int32 → Int32 → Int32 → ab_S → Option (Int32 × ab_S)} (hk14 : ∀ (v1 : Int32) (v3 : Int32) (v4 : Int32) (v5 : Int32) (v6 : Int32) (σ : ab_S), kk14 v1 v3 v4 v5 v6 σ = some R → ab_G yC p l e s m args below meth c D cA ad 8 5 (some (.inl R.1)) R.2 14 [some (.inr (.inr (35, 0))), some (.inl v1), none, some (.inl v3), some (.inl v4), some (.inl v5), some (.inl v6), none] [] σ) (v1 : Int32) (v3 : Int32) (v4 : Int32) (v5 : Int32) (v6 : Int32) (σ : ab_S) (h : fX3_endOfOne_b72 kk14 v1 v3 v4 v5 v6 σ = some R) : ab_G yC p l e s m args below meth c D cA ad 8 5 (some (.inl R.1)) R.2 72 [some (.inr (.inr (35, 0))), some (.inl v1), none, some (.inl v3), some (.inl v4), some (.inl v5), some (.inl v6), none] [] σ := by
  refine ab_iinc C dX3_endOfOne_72 rfl (v := 1) rfl (Nat.le_of_ble_eq_true rfl) ?_
  refine ab_goto C (tgt := 14) dX3_endOfOne_75 (by decide) ?_
  refine ab_weak (lv' := [some (.inr (.inr (35, 0))), some (.inl v1), none, some (.inl v3), some (.inl v4), some (.inl v5), some (.inl (v6 + 1)), none]) ⟨.inr rfl, ⟨.inr rfl, ⟨.inl rfl, ⟨.inr rfl, ⟨.inr rfl, ⟨.inr rfl, ⟨.inr rfl, ⟨.inl rfl, trivial⟩⟩⟩⟩⟩⟩⟩⟩ ?_
  exact hk14 _ _ _ _ _ _ h
set_option maxRecDepth 100000 in
set_option maxHeartbeats 4000000 in
theorem gX3_endOfOne_b54 {R : (Int32 × ab_S)} (C : ab_C yC p s m args meth c D cA ad cX3_endOfOne 8 RX3 (some .int)) {kk14 : Int32 → Int32 → Int32 → Int32 → Int32 → ab_S → Option (Int32 × ab_S)} (hk14 : ∀ (v1 : Int32) (v3 : Int32) (v4 : Int32) (v5 : Int32) (v6 : Int32) (σ : ab_S), kk14 v1 v3 v4 v5 v6 σ = some R → ab_G yC p l e s m args below meth c D cA ad 8 5 (some (.inl R.1)) R.2 14 [some (.inr (.inr (35, 0))), some (.inl v1), none, some (.inl v3), some (.inl v4), some (.inl v5), some (.inl v6), none] [] σ) (v1 : Int32) (v3 : Int32) (v4 : Int32) (v5 : Int32) (v6 : Int32) (σ : ab_S) (h : fX3_endOfOne_b54 kk14 v1 v3 v4 v5 v6 σ = some R) : ab_G yC p l e s m args below meth c D cA ad 8 5 (some (.inl R.1)) R.2 54 [some (.inr (.inr (35, 0))), some (.inl v1), none, some (.inl v3), some (.inl v4), some (.inl v5), some (.inl v6), none] [] σ := by
  refine ab_iload_n C dX3_endOfOne_54 rfl ?_
  refine ab_iconst C dX3_endOfOne_55 (v := 2) rfl ?_
  refine ab_icmp_ne C (tgt := 72) dX3_endOfOne_56 (by decide) (fun hc1 => ?_) (fun hc1 => ?_)
  · replace h := ab_neg hc1 h
    refine ab_weak (lv' := [some (.inr (.inr (35, 0))), some (.inl v1), none, some (.inl v3), some (.inl v4), some (.inl v5), some (.inl v6), none]) ⟨.inr rfl, ⟨.inr rfl, ⟨.inl rfl, ⟨.inr rfl, ⟨.inr rfl, ⟨.inr rfl, ⟨.inr rfl, ⟨.inl rfl, trivial⟩⟩⟩⟩⟩⟩⟩⟩ ?_
    exact gX3_endOfOne_b72 C hk14 _ _ _ _ _ _ h
  · replace h := ab_pos hc1 h
    refine ab_aload_n C dX3_endOfOne_59 rfl ?_
    refine ab_getR C dX3_endOfOne_60 flX3_9 rkC_35 rfl mmC_35 ?_
    refine ab_iload C dX3_endOfOne_63 rfl ?_
    refine ab_iload C dX3_endOfOne_65 rfl ?_
    obtain ⟨q2, hq2, h⟩ := ab_bind h
    refine ab_inv1 C dX3_endOfOne_67 mlX3_36 yvX7_leastOther rkC_1 ⟨_, _, rfl⟩ mmC_1 (tX7_leastOther l _ _ _ hq2) (Nat.le_of_ble_eq_true rfl) (Nat.le_of_ble_eq_true rfl) rfl (Nat.le_of_ble_eq_true rfl) ?_
    refine ab_istore C dX3_endOfOne_70 (Nat.le_of_ble_eq_true rfl) ?_
    refine ab_weak (lv' := [some (.inr (.inr (35, 0))), some (.inl v1), none, some (.inl v3), some (.inl v4), some (.inl q2), some (.inl v6), none]) ⟨.inr rfl, ⟨.inr rfl, ⟨.inl rfl, ⟨.inr rfl, ⟨.inr rfl, ⟨.inr rfl, ⟨.inr rfl, ⟨.inl rfl, trivial⟩⟩⟩⟩⟩⟩⟩⟩ ?_
    exact gX3_endOfOne_b72 C hk14 _ _ _ _ _ _ h
set_option maxRecDepth 100000 in
set_option maxHeartbeats 4000000 in
theorem gX3_endOfOne_b14_o {R : (Int32 × ab_S)} (C : ab_C yC p s m args meth c D cA ad cX3_endOfOne 8 RX3 (some .int)) {kk14 : Int32 → Int32 → Int32 → Int32 → Int32 → ab_S → Option (Int32 × ab_S)} (hk14 : ∀ (v1 : Int32) (v3 : Int32) (v4 : Int32) (v5 : Int32) (v6 : Int32) (σ : ab_S), kk14 v1 v3 v4 v5 v6 σ = some R → ab_G yC p l e s m args below meth c D cA ad 8 5 (some (.inl R.1)) R.2 14 [some (.inr (.inr (35, 0))), some (.inl v1), none, some (.inl v3), some (.inl v4), some (.inl v5), some (.inl v6), none] [] σ) (v1 : Int32) (v3 : Int32) (v4 : Int32) (v5 : Int32) (v6 : Int32) (σ : ab_S) (h : fX3_endOfOne_b14_o kk14 v1 v3 v4 v5 v6 σ = some R) : ab_G yC p l e s m args below meth c D cA ad 8 5 (some (.inl R.1)) R.2 14 [some (.inr (.inr (35, 0))), some (.inl v1), none, some (.inl v3), some (.inl v4), some (.inl v5), some (.inl v6), none] [] σ := by
  refine ab_iload C dX3_endOfOne_14 rfl ?_
  refine ab_aload_n C dX3_endOfOne_16 rfl ?_
  refine ab_getR C dX3_endOfOne_17 flX3_9 rkC_35 rfl mmC_35 ?_
  refine ab_getI C dX3_endOfOne_20 flX3_27 rkC_1 rfl mmC_1 ?_
  refine ab_icmp_ge C (tgt := 78) dX3_endOfOne_23 (by decide) (fun hc1 => ?_) (fun hc1 => ?_)
  · replace h := ab_pos hc1 h
    refine ab_iload_n C dX3_endOfOne_78 rfl ?_
    refine ab_iconst C dX3_endOfOne_79 (v := 1) rfl ?_
    refine ab_icmp_ne C (tgt := 96) dX3_endOfOne_80 (by decide) (fun hc2 => ?_) (fun hc2 => ?_)
    · replace h := ab_neg hc2 h
      refine ab_weak (lv' := [none, none, none, some (.inl v3), some (.inl v4), some (.inl v5), none, none]) ⟨.inl rfl, ⟨.inl rfl, ⟨.inl rfl, ⟨.inr rfl, ⟨.inr rfl, ⟨.inr rfl, ⟨.inl rfl, ⟨.inl rfl, trivial⟩⟩⟩⟩⟩⟩⟩⟩ ?_
      exact gX3_endOfOne_b96 C _ _ _ _ h
    · replace h := ab_pos hc2 h
      refine ab_aload_n C dX3_endOfOne_83 rfl ?_
      refine ab_getR C dX3_endOfOne_84 flX3_9 rkC_35 rfl mmC_35 ?_
      refine ab_iload C dX3_endOfOne_87 rfl ?_
      refine ab_iload C dX3_endOfOne_89 rfl ?_
      obtain ⟨q3, hq3, h⟩ := ab_bind h
      refine ab_inv1 C dX3_endOfOne_91 mlX3_36 yvX7_leastOther rkC_1 ⟨_, _, rfl⟩ mmC_1 (tX7_leastOther l _ _ _ hq3) (Nat.le_of_ble_eq_true rfl) (Nat.le_of_ble_eq_true rfl) rfl (Nat.le_of_ble_eq_true rfl) ?_
      refine ab_istore C dX3_endOfOne_94 (Nat.le_of_ble_eq_true rfl) ?_
      refine ab_weak (lv' := [none, none, none, some (.inl v3), some (.inl v4), some (.inl q3), none, none]) ⟨.inl rfl, ⟨.inl rfl, ⟨.inl rfl, ⟨.inr rfl, ⟨.inr rfl, ⟨.inr rfl, ⟨.inl rfl, ⟨.inl rfl, trivial⟩⟩⟩⟩⟩⟩⟩⟩ ?_
      exact gX3_endOfOne_b96 C _ _ _ _ h
  · replace h := ab_neg hc1 h
    refine ab_aload_n C dX3_endOfOne_26 rfl ?_
    refine ab_iload C dX3_endOfOne_27 rfl ?_
    refine ab_iload C dX3_endOfOne_29 rfl ?_
    refine ab_iload C dX3_endOfOne_31 rfl ?_
    refine ab_iload_n C dX3_endOfOne_33 rfl ?_
    obtain ⟨q4, hq4, h⟩ := ab_bind h
    refine ab_inv1 C dX3_endOfOne_34 mlX3_32 yvX3_drawAct rkC_35 ⟨_, _, rfl⟩ mmC_35 (tX3_drawAct l _ _ _ _ _ hq4) (Nat.le_of_ble_eq_true rfl) (Nat.le_of_ble_eq_true rfl) rfl (Nat.le_of_ble_eq_true rfl) ?_
    refine ab_istore C dX3_endOfOne_37 (Nat.le_of_ble_eq_true rfl) ?_
    refine ab_iload C dX3_endOfOne_39 rfl ?_
    refine ab_iconst C dX3_endOfOne_41 (v := (-1)) rfl ?_
    refine ab_icmp_eq C (tgt := 54) dX3_endOfOne_42 (by decide) (fun hc5 => ?_) (fun hc5 => ?_)
    · replace h := ab_pos hc5 h
      refine ab_weak (lv' := [some (.inr (.inr (35, 0))), some (.inl v1), none, some (.inl v3), some (.inl v4), some (.inl v5), some (.inl v6), none]) ⟨.inr rfl, ⟨.inr rfl, ⟨.inl rfl, ⟨.inr rfl, ⟨.inr rfl, ⟨.inr rfl, ⟨.inr rfl, ⟨.inl rfl, trivial⟩⟩⟩⟩⟩⟩⟩⟩ ?_
      exact gX3_endOfOne_b54 C hk14 _ _ _ _ _ _ h
    · replace h := ab_neg hc5 h
      refine ab_iload C dX3_endOfOne_45 rfl ?_
      refine ab_iconst C dX3_endOfOne_47 (v := 1) rfl ?_
      refine ab_iload C dX3_endOfOne_48 rfl ?_
      refine ab_ishl C dX3_endOfOne_50  ?_
      refine ab_ior C dX3_endOfOne_51  ?_
      refine ab_istore C dX3_endOfOne_52 (Nat.le_of_ble_eq_true rfl) ?_
      refine ab_weak (lv' := [some (.inr (.inr (35, 0))), some (.inl v1), none, some (.inl v3), some (.inl (v4 ||| (1 <<< (q4.1 &&& 31)))), some (.inl v5), some (.inl v6), none]) ⟨.inr rfl, ⟨.inr rfl, ⟨.inl rfl, ⟨.inr rfl, ⟨.inr rfl, ⟨.inr rfl, ⟨.inr rfl, ⟨.inl rfl, trivial⟩⟩⟩⟩⟩⟩⟩⟩ ?_
      exact gX3_endOfOne_b54 C hk14 _ _ _ _ _ _ h
theorem gX3_endOfOne_b14 {R : (Int32 × ab_S)} (C : ab_C yC p s m args meth c D cA ad cX3_endOfOne 8 RX3 (some .int)) : ∀ (j : Nat) (v1 : Int32) (v3 : Int32) (v4 : Int32) (v5 : Int32) (v6 : Int32) (σ : ab_S), fX3_endOfOne_b14 j v1 v3 v4 v5 v6 σ = some R → ab_G yC p l e s m args below meth c D cA ad 8 5 (some (.inl R.1)) R.2 14 [some (.inr (.inr (35, 0))), some (.inl v1), none, some (.inl v3), some (.inl v4), some (.inl v5), some (.inl v6), none] [] σ := by
  intro j
  induction j with
  | zero => intro v1 v3 v4 v5 v6 σ  h; cases h
  | succ j ih => intro v1 v3 v4 v5 v6 σ  h; exact gX3_endOfOne_b14_o C ih _ _ _ _ _ _ h
set_option maxRecDepth 100000 in
set_option maxHeartbeats 4000000 in
theorem tX3_endOfOne (l : Launch) (x1 : Int32) (x2 : Int32) (σ : ab_S) {R : (Int32 × ab_S)} (h : fX3_endOfOne x1 x2 σ = some R) : ab_M l yC yX3_endOfOne cX3_endOfOne 8 (some .int) 5 [.inr (.inr (35, 0)), .inl x1, .inl x2] σ (some (.inl R.1)) R.2 := by
  refine ab_M_intro ndC (by decide) (Nat.le_of_ble_eq_true rfl) ?_
  intro p e s m args below meth c D cA ad C
  have C : ab_C yC p s m args meth c D cA ad cX3_endOfOne 8 RX3 (some .int) := C
  refine ab_weak (lv' := [some (.inr (.inr (35, 0))), some (.inl x1), some (.inl x2), none, none, none, none, none]) ⟨.inr rfl, ⟨.inr rfl, ⟨.inr rfl, ⟨.inl rfl, ⟨.inl rfl, ⟨.inl rfl, ⟨.inl rfl, ⟨.inl rfl, trivial⟩⟩⟩⟩⟩⟩⟩⟩ ?_
  refine ab_aload_n C dX3_endOfOne_0 rfl ?_
  obtain ⟨q1, hq1, h⟩ := ab_bind h
  refine ab_inv1 C dX3_endOfOne_1 mlX3_23 yvX3_drawCow rkC_35 ⟨_, _, rfl⟩ mmC_35 (tX3_drawCow l _ hq1) (Nat.le_of_ble_eq_true rfl) (Nat.le_of_ble_eq_true rfl) rfl (Nat.le_of_ble_eq_true rfl) ?_
  refine ab_istore_n C dX3_endOfOne_4 (Nat.le_of_ble_eq_true rfl) ?_
  refine ab_iconst C dX3_endOfOne_5 (v := 0) rfl ?_
  refine ab_istore C dX3_endOfOne_6 (Nat.le_of_ble_eq_true rfl) ?_
  refine ab_iload_n C dX3_endOfOne_8 rfl ?_
  refine ab_istore C dX3_endOfOne_9 (Nat.le_of_ble_eq_true rfl) ?_
  refine ab_weak (lv' := [some (.inr (.inr (35, 0))), some (.inl x1), some (.inl x2), some (.inl q1.1), some (.inl 0), some (.inl x2), none, none]) ⟨.inr rfl, ⟨.inr rfl, ⟨.inr rfl, ⟨.inr rfl, ⟨.inr rfl, ⟨.inr rfl, ⟨.inl rfl, ⟨.inl rfl, trivial⟩⟩⟩⟩⟩⟩⟩⟩ ?_
  refine ab_iconst C dX3_endOfOne_11 (v := 0) rfl ?_
  refine ab_istore C dX3_endOfOne_12 (Nat.le_of_ble_eq_true rfl) ?_
  refine ab_weak (lv' := [some (.inr (.inr (35, 0))), some (.inl x1), none, some (.inl q1.1), some (.inl 0), some (.inl x2), some (.inl 0), none]) ⟨.inr rfl, ⟨.inr rfl, ⟨.inl rfl, ⟨.inr rfl, ⟨.inr rfl, ⟨.inr rfl, ⟨.inr rfl, ⟨.inl rfl, trivial⟩⟩⟩⟩⟩⟩⟩⟩ ?_
  exact gX3_endOfOne_b14 C ab_N _ _ _ _ _ _ h
end
def fX4_add_b15 (σ : ab_S) : Option (Int32 × ab_S) := some ((-3), σ)
def fX4_add_b68 (σ : ab_S) : Option (Int32 × ab_S) := some (σ.1 5 0 3, σ)
def fX4_add (x1 : Int32) (σ : ab_S) : Option (Int32 × ab_S) := (if (σ.1 5 0 3) < 0 then fX4_add_b15 σ else (if (σ.1 5 0 3) < 3 then (if ab_inb (σ.1 5 0 3) 3 = true then ab_k (ab_si σ 6 0 ((σ.1 5 0 3).toNatClampNeg) x1) fun σ4 => (if ab_inb (σ4.1 5 0 3) 3 = true then ab_k (ab_si σ4 7 0 ((σ4.1 5 0 3).toNatClampNeg) (σ4.1 5 0 4)) fun σ6 => ab_k (ab_si σ6 5 0 3 ((σ6.1 5 0 3) + 1)) fun σ7 => (if x1 = ((-1)) then fX4_add_b68 σ7 else ab_k (ab_si σ7 5 0 5 ((σ7.1 5 0 5) ||| (1 <<< (x1 &&& 31)))) fun σ9 => fX4_add_b68 σ9) else none) else none) else fX4_add_b15 σ))
section
variable {p : Program} {l : Launch} {e : Env} {s : State} {m : MethodId} {args : Array Value} {below : List Frame} {meth : Method} {c : Code} {D : va_G} {cA : Nat → ClassId} {ad : Nat → Nat → Nat}
set_option maxRecDepth 100000 in
set_option maxHeartbeats 4000000 in
theorem gX4_add_b15 {R : (Int32 × ab_S)} (C : ab_C yC p s m args meth c D cA ad cX4_add 2 RX4 (some .int)) (σ : ab_S) (h : fX4_add_b15 σ = some R) : ab_G yC p l e s m args below meth c D cA ad 2 0 (some (.inl R.1)) R.2 15 [none, none] [] σ := by
  refine ab_bipush C dX4_add_15 (v := (-3)) rfl ?_
  obtain rfl := Option.some.inj h
  exact ab_iret C dX4_add_17
set_option maxRecDepth 100000 in
set_option maxHeartbeats 4000000 in
theorem gX4_add_b68 {R : (Int32 × ab_S)} (C : ab_C yC p s m args meth c D cA ad cX4_add 2 RX4 (some .int)) (σ : ab_S) (h : fX4_add_b68 σ = some R) : ab_G yC p l e s m args below meth c D cA ad 2 0 (some (.inl R.1)) R.2 68 [some (.inr (.inr (5, 0))), none] [] σ := by
  refine ab_aload_n C dX4_add_68 rfl ?_
  refine ab_getI C dX4_add_69 flX4_21 rkC_5 rfl mmC_5 ?_
  obtain rfl := Option.some.inj h
  exact ab_iret C dX4_add_72
set_option maxRecDepth 100000 in
set_option maxHeartbeats 4000000 in
theorem tX4_add (l : Launch) (x1 : Int32) (σ : ab_S) {R : (Int32 × ab_S)} (h : fX4_add x1 σ = some R) : ab_M l yC yX4_add cX4_add 2 (some .int) 0 [.inr (.inr (5, 0)), .inl x1] σ (some (.inl R.1)) R.2 := by
  refine ab_M_intro ndC (by decide) (Nat.le_of_ble_eq_true rfl) ?_
  intro p e s m args below meth c D cA ad C
  have C : ab_C yC p s m args meth c D cA ad cX4_add 2 RX4 (some .int) := C
  refine ab_weak (lv' := [some (.inr (.inr (5, 0))), some (.inl x1)]) ⟨.inr rfl, ⟨.inr rfl, trivial⟩⟩ ?_
  refine ab_aload_n C dX4_add_0 rfl ?_
  refine ab_getI C dX4_add_1 flX4_21 rkC_5 rfl mmC_5 ?_
  refine ab_if_lt C (tgt := 15) dX4_add_4 (by decide) (fun hc1 => ?_) (fun hc1 => ?_)
  · replace h := ab_pos hc1 h
    refine ab_weak (lv' := [none, none]) ⟨.inl rfl, ⟨.inl rfl, trivial⟩⟩ ?_
    exact gX4_add_b15 C _ h
  · replace h := ab_neg hc1 h
    refine ab_aload_n C dX4_add_7 rfl ?_
    refine ab_getI C dX4_add_8 flX4_21 rkC_5 rfl mmC_5 ?_
    refine ab_iconst C dX4_add_11 (v := 3) rfl ?_
    refine ab_icmp_lt C (tgt := 18) dX4_add_12 (by decide) (fun hc2 => ?_) (fun hc2 => ?_)
    · replace h := ab_pos hc2 h
      refine ab_aload_n C dX4_add_18 rfl ?_
      refine ab_getR C dX4_add_19 flX4_9 rkC_5 rfl mmC_5 ?_
      refine ab_aload_n C dX4_add_22 rfl ?_
      refine ab_getI C dX4_add_23 flX4_21 rkC_5 rfl mmC_5 ?_
      refine ab_iload_n C dX4_add_26 rfl ?_
      obtain ⟨hg3, h⟩ := ab_grd h
      refine ab_iast C dX4_add_27 rkC_6 mmC_6 hg3 ?_
      refine ab_nmS (fun σ4 eσ4 => ?_)
      replace h := ab_kh eσ4 h
      refine ab_aload_n C dX4_add_28 rfl ?_
      refine ab_getR C dX4_add_29 flX4_15 rkC_5 rfl mmC_5 ?_
      refine ab_aload_n C dX4_add_32 rfl ?_
      refine ab_getI C dX4_add_33 flX4_21 rkC_5 rfl mmC_5 ?_
      refine ab_aload_n C dX4_add_36 rfl ?_
      refine ab_getI C dX4_add_37 flX4_31 rkC_5 rfl mmC_5 ?_
      obtain ⟨hg5, h⟩ := ab_grd h
      refine ab_iast C dX4_add_40 rkC_7 mmC_7 hg5 ?_
      refine ab_nmS (fun σ6 eσ6 => ?_)
      replace h := ab_kh eσ6 h
      refine ab_aload_n C dX4_add_41 rfl ?_
      refine ab_dup C dX4_add_42 rfl ?_
      refine ab_getI C dX4_add_43 flX4_21 rkC_5 rfl mmC_5 ?_
      refine ab_iconst C dX4_add_46 (v := 1) rfl ?_
      refine ab_iadd C dX4_add_47  ?_
      refine ab_putI C dX4_add_48 fpX4_21 rkC_5 rfl mmC_5 rfl rfl ?_
      refine ab_nmS (fun σ7 eσ7 => ?_)
      replace h := ab_kh eσ7 h
      refine ab_iload_n C dX4_add_51 rfl ?_
      refine ab_iconst C dX4_add_52 (v := (-1)) rfl ?_
      refine ab_icmp_eq C (tgt := 68) dX4_add_53 (by decide) (fun hc8 => ?_) (fun hc8 => ?_)
      · replace h := ab_pos hc8 h
        refine ab_weak (lv' := [some (.inr (.inr (5, 0))), none]) ⟨.inr rfl, ⟨.inl rfl, trivial⟩⟩ ?_
        exact gX4_add_b68 C _ h
      · replace h := ab_neg hc8 h
        refine ab_aload_n C dX4_add_56 rfl ?_
        refine ab_dup C dX4_add_57 rfl ?_
        refine ab_getI C dX4_add_58 flX4_25 rkC_5 rfl mmC_5 ?_
        refine ab_iconst C dX4_add_61 (v := 1) rfl ?_
        refine ab_iload_n C dX4_add_62 rfl ?_
        refine ab_ishl C dX4_add_63  ?_
        refine ab_ior C dX4_add_64  ?_
        refine ab_putI C dX4_add_65 fpX4_25 rkC_5 rfl mmC_5 rfl rfl ?_
        refine ab_nmS (fun σ9 eσ9 => ?_)
        replace h := ab_kh eσ9 h
        refine ab_weak (lv' := [some (.inr (.inr (5, 0))), none]) ⟨.inr rfl, ⟨.inl rfl, trivial⟩⟩ ?_
        exact gX4_add_b68 C _ h
    · replace h := ab_neg hc2 h
      refine ab_weak (lv' := [none, none]) ⟨.inl rfl, ⟨.inl rfl, trivial⟩⟩ ?_
      exact gX4_add_b15 C _ h
end
def fX4_become_r5_9 (σ : ab_S) : Option ab_S := (if ab_cpb 0 0 3 3 3 = true then ab_k (ab_ci σ 10 0 ((0 : Int32).toNatClampNeg) 6 0 ((0 : Int32).toNatClampNeg) ((3 : Int32).toNatClampNeg)) fun σ2 => (if ab_cpb 0 0 3 3 3 = true then ab_k (ab_ci σ2 11 0 ((0 : Int32).toNatClampNeg) 7 0 ((0 : Int32).toNatClampNeg) ((3 : Int32).toNatClampNeg)) fun σ4 => (if ab_cpb 0 0 (Int32.ofNat 3) 3 3 = true then ab_k (ab_ci σ4 12 0 ((0 : Int32).toNatClampNeg) 8 0 ((0 : Int32).toNatClampNeg) ((Int32.ofNat 3 : Int32).toNatClampNeg)) fun σ6 => ab_k (ab_si σ6 5 0 3 (σ6.1 9 0 3)) fun σ7 => ab_k (ab_si σ7 5 0 4 (σ7.1 9 0 4)) fun σ8 => ab_k (ab_si σ8 5 0 5 (σ8.1 9 0 5)) fun σ9 => some σ9 else none) else none) else none)
section
variable {p : Program} {l : Launch} {e : Env} {s : State} {m : MethodId} {args : Array Value} {below : List Frame} {meth : Method} {c : Code} {D : va_G} {cA : Nat → ClassId} {ad : Nat → Nat → Nat}
set_option maxRecDepth 100000 in
set_option maxHeartbeats 4000000 in
theorem tX4_become_r5_9 (l : Launch) (σ : ab_S) {R : ab_S} (h : fX4_become_r5_9 σ = some R) : ab_M l yC yX4_become cX4_become 2 none 1 [.inr (.inr (5, 0)), .inr (.inr (9, 0))] σ none R := by
  refine ab_M_intro ndC (by decide) (Nat.le_of_ble_eq_true rfl) ?_
  intro p e s m args below meth c D cA ad C
  have C : ab_C yC p s m args meth c D cA ad cX4_become 2 RX4 none := C
  refine ab_weak (lv' := [some (.inr (.inr (5, 0))), some (.inr (.inr (9, 0)))]) ⟨.inr rfl, ⟨.inr rfl, trivial⟩⟩ ?_
  refine ab_aload_n C dX4_become_0 rfl ?_
  refine ab_getR C dX4_become_1 flX4_9 rkC_9 rfl mmC_9 ?_
  refine ab_iconst C dX4_become_4 (v := 0) rfl ?_
  refine ab_aload_n C dX4_become_5 rfl ?_
  refine ab_getR C dX4_become_6 flX4_9 rkC_5 rfl mmC_5 ?_
  refine ab_iconst C dX4_become_9 (v := 0) rfl ?_
  refine ab_iconst C dX4_become_10 (v := 3) rfl ?_
  obtain ⟨hg1, h⟩ := ab_grd h
  refine ab_copyi C dX4_become_11 mlX4_48 rkC_10 mmC_10 rkC_6 mmC_6 hg1 (Nat.le_of_ble_eq_true rfl) (Nat.le_of_ble_eq_true rfl) ?_
  refine ab_nmS (fun σ2 eσ2 => ?_)
  replace h := ab_kh eσ2 h
  refine ab_aload_n C dX4_become_14 rfl ?_
  refine ab_getR C dX4_become_15 flX4_15 rkC_9 rfl mmC_9 ?_
  refine ab_iconst C dX4_become_18 (v := 0) rfl ?_
  refine ab_aload_n C dX4_become_19 rfl ?_
  refine ab_getR C dX4_become_20 flX4_15 rkC_5 rfl mmC_5 ?_
  refine ab_iconst C dX4_become_23 (v := 0) rfl ?_
  refine ab_iconst C dX4_become_24 (v := 3) rfl ?_
  obtain ⟨hg3, h⟩ := ab_grd h
  refine ab_copyi C dX4_become_25 mlX4_48 rkC_11 mmC_11 rkC_7 mmC_7 hg3 (Nat.le_of_ble_eq_true rfl) (Nat.le_of_ble_eq_true rfl) ?_
  refine ab_nmS (fun σ4 eσ4 => ?_)
  replace h := ab_kh eσ4 h
  refine ab_aload_n C dX4_become_28 rfl ?_
  refine ab_getR C dX4_become_29 flX4_18 rkC_9 rfl mmC_9 ?_
  refine ab_iconst C dX4_become_32 (v := 0) rfl ?_
  refine ab_aload_n C dX4_become_33 rfl ?_
  refine ab_getR C dX4_become_34 flX4_18 rkC_5 rfl mmC_5 ?_
  refine ab_iconst C dX4_become_37 (v := 0) rfl ?_
  refine ab_aload_n C dX4_become_38 rfl ?_
  refine ab_getR C dX4_become_39 flX4_18 rkC_5 rfl mmC_5 ?_
  refine ab_alen C dX4_become_42 rkC_8 (Nat.le_of_ble_eq_true rfl) mmC_8 ?_
  obtain ⟨hg5, h⟩ := ab_grd h
  refine ab_copyi C dX4_become_43 mlX4_48 rkC_12 mmC_12 rkC_8 mmC_8 hg5 (Nat.le_of_ble_eq_true rfl) (Nat.le_of_ble_eq_true rfl) ?_
  refine ab_nmS (fun σ6 eσ6 => ?_)
  replace h := ab_kh eσ6 h
  refine ab_aload_n C dX4_become_46 rfl ?_
  refine ab_aload_n C dX4_become_47 rfl ?_
  refine ab_getI C dX4_become_48 flX4_21 rkC_9 rfl mmC_9 ?_
  refine ab_putI C dX4_become_51 fpX4_21 rkC_5 rfl mmC_5 rfl rfl ?_
  refine ab_nmS (fun σ7 eσ7 => ?_)
  replace h := ab_kh eσ7 h
  refine ab_aload_n C dX4_become_54 rfl ?_
  refine ab_aload_n C dX4_become_55 rfl ?_
  refine ab_getI C dX4_become_56 flX4_31 rkC_9 rfl mmC_9 ?_
  refine ab_putI C dX4_become_59 fpX4_31 rkC_5 rfl mmC_5 rfl rfl ?_
  refine ab_nmS (fun σ8 eσ8 => ?_)
  replace h := ab_kh eσ8 h
  refine ab_aload_n C dX4_become_62 rfl ?_
  refine ab_aload_n C dX4_become_63 rfl ?_
  refine ab_getI C dX4_become_64 flX4_25 rkC_9 rfl mmC_9 ?_
  refine ab_putI C dX4_become_67 fpX4_25 rkC_5 rfl mmC_5 rfl rfl ?_
  refine ab_nmS (fun σ9 eσ9 => ?_)
  replace h := ab_kh eσ9 h
  obtain rfl := Option.some.inj h
  exact ab_vret C dX4_become_70
end
def fX4_become_r9_5 (σ : ab_S) : Option ab_S := (if ab_cpb 0 0 3 3 3 = true then ab_k (ab_ci σ 6 0 ((0 : Int32).toNatClampNeg) 10 0 ((0 : Int32).toNatClampNeg) ((3 : Int32).toNatClampNeg)) fun σ2 => (if ab_cpb 0 0 3 3 3 = true then ab_k (ab_ci σ2 7 0 ((0 : Int32).toNatClampNeg) 11 0 ((0 : Int32).toNatClampNeg) ((3 : Int32).toNatClampNeg)) fun σ4 => (if ab_cpb 0 0 (Int32.ofNat 3) 3 3 = true then ab_k (ab_ci σ4 8 0 ((0 : Int32).toNatClampNeg) 12 0 ((0 : Int32).toNatClampNeg) ((Int32.ofNat 3 : Int32).toNatClampNeg)) fun σ6 => ab_k (ab_si σ6 9 0 3 (σ6.1 5 0 3)) fun σ7 => ab_k (ab_si σ7 9 0 4 (σ7.1 5 0 4)) fun σ8 => ab_k (ab_si σ8 9 0 5 (σ8.1 5 0 5)) fun σ9 => some σ9 else none) else none) else none)
section
variable {p : Program} {l : Launch} {e : Env} {s : State} {m : MethodId} {args : Array Value} {below : List Frame} {meth : Method} {c : Code} {D : va_G} {cA : Nat → ClassId} {ad : Nat → Nat → Nat}
set_option maxRecDepth 100000 in
set_option maxHeartbeats 4000000 in
theorem tX4_become_r9_5 (l : Launch) (σ : ab_S) {R : ab_S} (h : fX4_become_r9_5 σ = some R) : ab_M l yC yX4_become cX4_become 2 none 1 [.inr (.inr (9, 0)), .inr (.inr (5, 0))] σ none R := by
  refine ab_M_intro ndC (by decide) (Nat.le_of_ble_eq_true rfl) ?_
  intro p e s m args below meth c D cA ad C
  have C : ab_C yC p s m args meth c D cA ad cX4_become 2 RX4 none := C
  refine ab_weak (lv' := [some (.inr (.inr (9, 0))), some (.inr (.inr (5, 0)))]) ⟨.inr rfl, ⟨.inr rfl, trivial⟩⟩ ?_
  refine ab_aload_n C dX4_become_0 rfl ?_
  refine ab_getR C dX4_become_1 flX4_9 rkC_5 rfl mmC_5 ?_
  refine ab_iconst C dX4_become_4 (v := 0) rfl ?_
  refine ab_aload_n C dX4_become_5 rfl ?_
  refine ab_getR C dX4_become_6 flX4_9 rkC_9 rfl mmC_9 ?_
  refine ab_iconst C dX4_become_9 (v := 0) rfl ?_
  refine ab_iconst C dX4_become_10 (v := 3) rfl ?_
  obtain ⟨hg1, h⟩ := ab_grd h
  refine ab_copyi C dX4_become_11 mlX4_48 rkC_6 mmC_6 rkC_10 mmC_10 hg1 (Nat.le_of_ble_eq_true rfl) (Nat.le_of_ble_eq_true rfl) ?_
  refine ab_nmS (fun σ2 eσ2 => ?_)
  replace h := ab_kh eσ2 h
  refine ab_aload_n C dX4_become_14 rfl ?_
  refine ab_getR C dX4_become_15 flX4_15 rkC_5 rfl mmC_5 ?_
  refine ab_iconst C dX4_become_18 (v := 0) rfl ?_
  refine ab_aload_n C dX4_become_19 rfl ?_
  refine ab_getR C dX4_become_20 flX4_15 rkC_9 rfl mmC_9 ?_
  refine ab_iconst C dX4_become_23 (v := 0) rfl ?_
  refine ab_iconst C dX4_become_24 (v := 3) rfl ?_
  obtain ⟨hg3, h⟩ := ab_grd h
  refine ab_copyi C dX4_become_25 mlX4_48 rkC_7 mmC_7 rkC_11 mmC_11 hg3 (Nat.le_of_ble_eq_true rfl) (Nat.le_of_ble_eq_true rfl) ?_
  refine ab_nmS (fun σ4 eσ4 => ?_)
  replace h := ab_kh eσ4 h
  refine ab_aload_n C dX4_become_28 rfl ?_
  refine ab_getR C dX4_become_29 flX4_18 rkC_5 rfl mmC_5 ?_
  refine ab_iconst C dX4_become_32 (v := 0) rfl ?_
  refine ab_aload_n C dX4_become_33 rfl ?_
  refine ab_getR C dX4_become_34 flX4_18 rkC_9 rfl mmC_9 ?_
  refine ab_iconst C dX4_become_37 (v := 0) rfl ?_
  refine ab_aload_n C dX4_become_38 rfl ?_
  refine ab_getR C dX4_become_39 flX4_18 rkC_9 rfl mmC_9 ?_
  refine ab_alen C dX4_become_42 rkC_12 (Nat.le_of_ble_eq_true rfl) mmC_12 ?_
  obtain ⟨hg5, h⟩ := ab_grd h
  refine ab_copyi C dX4_become_43 mlX4_48 rkC_8 mmC_8 rkC_12 mmC_12 hg5 (Nat.le_of_ble_eq_true rfl) (Nat.le_of_ble_eq_true rfl) ?_
  refine ab_nmS (fun σ6 eσ6 => ?_)
  replace h := ab_kh eσ6 h
  refine ab_aload_n C dX4_become_46 rfl ?_
  refine ab_aload_n C dX4_become_47 rfl ?_
  refine ab_getI C dX4_become_48 flX4_21 rkC_5 rfl mmC_5 ?_
  refine ab_putI C dX4_become_51 fpX4_21 rkC_9 rfl mmC_9 rfl rfl ?_
  refine ab_nmS (fun σ7 eσ7 => ?_)
  replace h := ab_kh eσ7 h
  refine ab_aload_n C dX4_become_54 rfl ?_
  refine ab_aload_n C dX4_become_55 rfl ?_
  refine ab_getI C dX4_become_56 flX4_31 rkC_5 rfl mmC_5 ?_
  refine ab_putI C dX4_become_59 fpX4_31 rkC_9 rfl mmC_9 rfl rfl ?_
  refine ab_nmS (fun σ8 eσ8 => ?_)
  replace h := ab_kh eσ8 h
  refine ab_aload_n C dX4_become_62 rfl ?_
  refine ab_aload_n C dX4_become_63 rfl ?_
  refine ab_getI C dX4_become_64 flX4_25 rkC_5 rfl mmC_5 ?_
  refine ab_putI C dX4_become_67 fpX4_25 rkC_9 rfl mmC_9 rfl rfl ?_
  refine ab_nmS (fun σ9 eσ9 => ?_)
  replace h := ab_kh eσ9 h
  obtain rfl := Option.some.inj h
  exact ab_vret C dX4_become_70
end
def fX4_begin (σ : ab_S) : Option ab_S := ab_k (ab_si σ 5 0 3 0) fun σ1 => ab_k (ab_si σ1 5 0 5 0) fun σ2 => some σ2
section
variable {p : Program} {l : Launch} {e : Env} {s : State} {m : MethodId} {args : Array Value} {below : List Frame} {meth : Method} {c : Code} {D : va_G} {cA : Nat → ClassId} {ad : Nat → Nat → Nat}
set_option maxRecDepth 100000 in
set_option maxHeartbeats 4000000 in
theorem tX4_begin (l : Launch) (σ : ab_S) {R : ab_S} (h : fX4_begin σ = some R) : ab_M l yC yX4_begin cX4_begin 1 none 0 [.inr (.inr (5, 0))] σ none R := by
  refine ab_M_intro ndC (by decide) (Nat.le_of_ble_eq_true rfl) ?_
  intro p e s m args below meth c D cA ad C
  have C : ab_C yC p s m args meth c D cA ad cX4_begin 1 RX4 none := C
  refine ab_weak (lv' := [some (.inr (.inr (5, 0)))]) ⟨.inr rfl, trivial⟩ ?_
  refine ab_aload_n C dX4_begin_0 rfl ?_
  refine ab_iconst C dX4_begin_1 (v := 0) rfl ?_
  refine ab_putI C dX4_begin_2 fpX4_21 rkC_5 rfl mmC_5 rfl rfl ?_
  refine ab_nmS (fun σ1 eσ1 => ?_)
  replace h := ab_kh eσ1 h
  refine ab_aload_n C dX4_begin_5 rfl ?_
  refine ab_iconst C dX4_begin_6 (v := 0) rfl ?_
  refine ab_putI C dX4_begin_7 fpX4_25 rkC_5 rfl mmC_5 rfl rfl ?_
  refine ab_nmS (fun σ2 eσ2 => ?_)
  replace h := ab_kh eσ2 h
  obtain rfl := Option.some.inj h
  exact ab_vret C dX4_begin_10
end
def fX4_beginWithFirstDoor (σ : ab_S) : Option ab_S := (fX4_begin σ).bind fun q1 => ab_k (ab_si q1 5 0 4 0) fun σ2 => some σ2
section
variable {p : Program} {l : Launch} {e : Env} {s : State} {m : MethodId} {args : Array Value} {below : List Frame} {meth : Method} {c : Code} {D : va_G} {cA : Nat → ClassId} {ad : Nat → Nat → Nat}
set_option maxRecDepth 100000 in
set_option maxHeartbeats 4000000 in
theorem tX4_beginWithFirstDoor (l : Launch) (σ : ab_S) {R : ab_S} (h : fX4_beginWithFirstDoor σ = some R) : ab_M l yC yX4_beginWithFirstDoor cX4_beginWithFirstDoor 1 none 1 [.inr (.inr (5, 0))] σ none R := by
  refine ab_M_intro ndC (by decide) (Nat.le_of_ble_eq_true rfl) ?_
  intro p e s m args below meth c D cA ad C
  have C : ab_C yC p s m args meth c D cA ad cX4_beginWithFirstDoor 1 RX4 none := C
  refine ab_weak (lv' := [some (.inr (.inr (5, 0)))]) ⟨.inr rfl, trivial⟩ ?_
  refine ab_aload_n C dX4_beginWithFirstDoor_0 rfl ?_
  obtain ⟨q1, hq1, h⟩ := ab_bind h
  refine ab_inv0 C dX4_beginWithFirstDoor_1 mlX4_28 yvX4_begin rkC_5 ⟨_, _, rfl⟩ mmC_5 (tX4_begin l _ hq1) (Nat.le_of_ble_eq_true rfl) (Nat.le_of_ble_eq_true rfl) rfl (Nat.le_of_ble_eq_true rfl) ?_
  refine ab_aload_n C dX4_beginWithFirstDoor_4 rfl ?_
  refine ab_iconst C dX4_beginWithFirstDoor_5 (v := 0) rfl ?_
  refine ab_putI C dX4_beginWithFirstDoor_6 fpX4_31 rkC_5 rfl mmC_5 rfl rfl ?_
  refine ab_nmS (fun σ2 eσ2 => ?_)
  replace h := ab_kh eσ2 h
  obtain rfl := Option.some.inj h
  exact ab_vret C dX4_beginWithFirstDoor_9
end
def fX4_end_b25 (t0 : Int32) (σ : ab_S) : Option (Int32 × ab_S) := (if ab_inb t0 3 = true then (if ab_inb t0 3 = true then ab_k (ab_si σ 8 0 t0.toNatClampNeg ((σ.1 8 0 t0.toNatClampNeg) + 1)) fun σ3 => (fX4_begin σ3).bind fun q4 => some (t0, q4) else none) else none)
def fX4_end (x1 : Int32) (σ : ab_S) : Option (Int32 × ab_S) := (fX4_isOpen x1 σ).bind fun q1 => (if q1 = 0 then (if x1 = (σ.1 5 0 4) then fX4_end_b25 1 σ else fX4_end_b25 0 σ) else fX4_end_b25 2 σ)
section
variable {p : Program} {l : Launch} {e : Env} {s : State} {m : MethodId} {args : Array Value} {below : List Frame} {meth : Method} {c : Code} {D : va_G} {cA : Nat → ClassId} {ad : Nat → Nat → Nat}
set_option maxRecDepth 100000 in
set_option maxHeartbeats 4000000 in
theorem gX4_end_b25 {R : (Int32 × ab_S)} (C : ab_C yC p s m args meth c D cA ad cX4_end 3 RX4 (some .int)) (t0 : Int32) (σ : ab_S) (h : fX4_end_b25 t0 σ = some R) : ab_G yC p l e s m args below meth c D cA ad 3 2 (some (.inl R.1)) R.2 25 [some (.inr (.inr (5, 0))), none, none] [.inl t0] σ := by
  refine ab_istore_n C dX4_end_25 (Nat.le_of_ble_eq_true rfl) ?_
  refine ab_aload_n C dX4_end_26 rfl ?_
  refine ab_getR C dX4_end_27 flX4_18 rkC_5 rfl mmC_5 ?_
  refine ab_iload_n C dX4_end_30 rfl ?_
  refine ab_dup2 C dX4_end_31 rfl rfl ?_
  obtain ⟨hg1, h⟩ := ab_grd h
  refine ab_iald C dX4_end_32 rkC_8 mmC_8 hg1 ?_
  refine ab_iconst C dX4_end_33 (v := 1) rfl ?_
  refine ab_iadd C dX4_end_34  ?_
  obtain ⟨hg2, h⟩ := ab_grd h
  refine ab_iast C dX4_end_35 rkC_8 mmC_8 hg2 ?_
  refine ab_nmS (fun σ3 eσ3 => ?_)
  replace h := ab_kh eσ3 h
  refine ab_aload_n C dX4_end_36 rfl ?_
  obtain ⟨q4, hq4, h⟩ := ab_bind h
  refine ab_inv0 C dX4_end_37 mlX4_28 yvX4_begin rkC_5 ⟨_, _, rfl⟩ mmC_5 (tX4_begin l _ hq4) (Nat.le_of_ble_eq_true rfl) (Nat.le_of_ble_eq_true rfl) rfl (Nat.le_of_ble_eq_true rfl) ?_
  refine ab_iload_n C dX4_end_40 rfl ?_
  obtain rfl := Option.some.inj h
  exact ab_iret C dX4_end_41
set_option maxRecDepth 100000 in
set_option maxHeartbeats 4000000 in
theorem tX4_end (l : Launch) (x1 : Int32) (σ : ab_S) {R : (Int32 × ab_S)} (h : fX4_end x1 σ = some R) : ab_M l yC yX4_end cX4_end 3 (some .int) 2 [.inr (.inr (5, 0)), .inl x1] σ (some (.inl R.1)) R.2 := by
  refine ab_M_intro ndC (by decide) (Nat.le_of_ble_eq_true rfl) ?_
  intro p e s m args below meth c D cA ad C
  have C : ab_C yC p s m args meth c D cA ad cX4_end 3 RX4 (some .int) := C
  refine ab_weak (lv' := [some (.inr (.inr (5, 0))), some (.inl x1), none]) ⟨.inr rfl, ⟨.inr rfl, ⟨.inl rfl, trivial⟩⟩⟩ ?_
  refine ab_aload_n C dX4_end_0 rfl ?_
  refine ab_iload_n C dX4_end_1 rfl ?_
  obtain ⟨q1, hq1, h⟩ := ab_bind h
  refine ab_inv1 C dX4_end_2 mlX4_44 yvX4_isOpen rkC_5 ⟨_, _, rfl⟩ mmC_5 (tX4_isOpen l _ _ hq1) (Nat.le_of_ble_eq_true rfl) (Nat.le_of_ble_eq_true rfl) rfl (Nat.le_of_ble_eq_true rfl) ?_
  refine ab_if_eq C (tgt := 12) dX4_end_5 (by decide) (fun hc2 => ?_) (fun hc2 => ?_)
  · replace h := ab_pos hc2 h
    refine ab_iload_n C dX4_end_12 rfl ?_
    refine ab_aload_n C dX4_end_13 rfl ?_
    refine ab_getI C dX4_end_14 flX4_31 rkC_5 rfl mmC_5 ?_
    refine ab_icmp_ne C (tgt := 24) dX4_end_17 (by decide) (fun hc3 => ?_) (fun hc3 => ?_)
    · replace h := ab_neg hc3 h
      refine ab_iconst C dX4_end_24 (v := 0) rfl ?_
      refine ab_weak (lv' := [some (.inr (.inr (5, 0))), none, none]) ⟨.inr rfl, ⟨.inl rfl, ⟨.inl rfl, trivial⟩⟩⟩ ?_
      exact gX4_end_b25 C _ _ h
    · replace h := ab_pos hc3 h
      refine ab_iconst C dX4_end_20 (v := 1) rfl ?_
      refine ab_goto C (tgt := 25) dX4_end_21 (by decide) ?_
      refine ab_weak (lv' := [some (.inr (.inr (5, 0))), none, none]) ⟨.inr rfl, ⟨.inl rfl, ⟨.inl rfl, trivial⟩⟩⟩ ?_
      exact gX4_end_b25 C _ _ h
  · replace h := ab_neg hc2 h
    refine ab_iconst C dX4_end_8 (v := 2) rfl ?_
    refine ab_goto C (tgt := 25) dX4_end_9 (by decide) ?_
    refine ab_weak (lv' := [some (.inr (.inr (5, 0))), none, none]) ⟨.inr rfl, ⟨.inl rfl, ⟨.inl rfl, trivial⟩⟩⟩ ?_
    exact gX4_end_b25 C _ _ h
end
def fX4_endsOf_b23 (t0 : Int32) (σ : ab_S) : Option Int32 := some t0
def fX4_endsOf_b22 (σ : ab_S) : Option Int32 := fX4_endsOf_b23 0 σ
def fX4_endsOf (x1 : Int32) (σ : ab_S) : Option Int32 := (if x1 < 0 then fX4_endsOf_b22 σ else (if (Int32.ofNat 3) ≤ x1 then fX4_endsOf_b22 σ else (if ab_inb x1 3 = true then fX4_endsOf_b23 (σ.1 8 0 x1.toNatClampNeg) σ else none)))
section
variable {p : Program} {l : Launch} {e : Env} {s : State} {m : MethodId} {args : Array Value} {below : List Frame} {meth : Method} {c : Code} {D : va_G} {cA : Nat → ClassId} {ad : Nat → Nat → Nat}
set_option maxRecDepth 100000 in
set_option maxHeartbeats 4000000 in
theorem gX4_endsOf_b23 {R : Int32} (C : ab_C yC p s m args meth c D cA ad cX4_endsOf 2 RX4 (some .int)) (σ : ab_S) (t0 : Int32) (h : fX4_endsOf_b23 t0 σ = some R) : ab_G yC p l e s m args below meth c D cA ad 2 0 (some (.inl R)) σ 23 [none, none] [.inl t0] σ := by
  obtain rfl := Option.some.inj h
  exact ab_iret C dX4_endsOf_23
set_option maxRecDepth 100000 in
set_option maxHeartbeats 4000000 in
theorem gX4_endsOf_b22 {R : Int32} (C : ab_C yC p s m args meth c D cA ad cX4_endsOf 2 RX4 (some .int)) (σ : ab_S) (h : fX4_endsOf_b22 σ = some R) : ab_G yC p l e s m args below meth c D cA ad 2 0 (some (.inl R)) σ 22 [none, none] [] σ := by
  refine ab_iconst C dX4_endsOf_22 (v := 0) rfl ?_
  refine ab_weak (lv' := [none, none]) ⟨.inl rfl, ⟨.inl rfl, trivial⟩⟩ ?_
  exact gX4_endsOf_b23 C _ _ h
set_option maxRecDepth 100000 in
set_option maxHeartbeats 4000000 in
theorem tX4_endsOf (l : Launch) (x1 : Int32) (σ : ab_S) {R : Int32} (h : fX4_endsOf x1 σ = some R) : ab_M l yC yX4_endsOf cX4_endsOf 2 (some .int) 0 [.inr (.inr (5, 0)), .inl x1] σ (some (.inl R)) σ := by
  refine ab_M_intro ndC (by decide) (Nat.le_of_ble_eq_true rfl) ?_
  intro p e s m args below meth c D cA ad C
  have C : ab_C yC p s m args meth c D cA ad cX4_endsOf 2 RX4 (some .int) := C
  refine ab_weak (lv' := [some (.inr (.inr (5, 0))), some (.inl x1)]) ⟨.inr rfl, ⟨.inr rfl, trivial⟩⟩ ?_
  refine ab_iload_n C dX4_endsOf_0 rfl ?_
  refine ab_if_lt C (tgt := 22) dX4_endsOf_1 (by decide) (fun hc1 => ?_) (fun hc1 => ?_)
  · replace h := ab_pos hc1 h
    refine ab_weak (lv' := [none, none]) ⟨.inl rfl, ⟨.inl rfl, trivial⟩⟩ ?_
    exact gX4_endsOf_b22 C _ h
  · replace h := ab_neg hc1 h
    refine ab_iload_n C dX4_endsOf_4 rfl ?_
    refine ab_aload_n C dX4_endsOf_5 rfl ?_
    refine ab_getR C dX4_endsOf_6 flX4_18 rkC_5 rfl mmC_5 ?_
    refine ab_alen C dX4_endsOf_9 rkC_8 (Nat.le_of_ble_eq_true rfl) mmC_8 ?_
    refine ab_icmp_ge C (tgt := 22) dX4_endsOf_10 (by decide) (fun hc2 => ?_) (fun hc2 => ?_)
    · replace h := ab_pos hc2 h
      refine ab_weak (lv' := [none, none]) ⟨.inl rfl, ⟨.inl rfl, trivial⟩⟩ ?_
      exact gX4_endsOf_b22 C _ h
    · replace h := ab_neg hc2 h
      refine ab_aload_n C dX4_endsOf_13 rfl ?_
      refine ab_getR C dX4_endsOf_14 flX4_18 rkC_5 rfl mmC_5 ?_
      refine ab_iload_n C dX4_endsOf_17 rfl ?_
      obtain ⟨hg3, h⟩ := ab_grd h
      refine ab_iald C dX4_endsOf_18 rkC_8 mmC_8 hg3 ?_
      refine ab_goto C (tgt := 23) dX4_endsOf_19 (by decide) ?_
      refine ab_weak (lv' := [none, none]) ⟨.inl rfl, ⟨.inl rfl, trivial⟩⟩ ?_
      exact gX4_endsOf_b23 C _ _ h
end
def fX4_openDoors (σ : ab_S) : Option Int32 := (fJ6_bitCount_0f7a4 (σ.1 5 0 5)).bind fun q1 => some q1
section
variable {p : Program} {l : Launch} {e : Env} {s : State} {m : MethodId} {args : Array Value} {below : List Frame} {meth : Method} {c : Code} {D : va_G} {cA : Nat → ClassId} {ad : Nat → Nat → Nat}
set_option maxRecDepth 100000 in
set_option maxHeartbeats 4000000 in
theorem tX4_openDoors (l : Launch) (σ : ab_S) {R : Int32} (h : fX4_openDoors σ = some R) : ab_M l yC yX4_openDoors cX4_openDoors 1 (some .int) 1 [.inr (.inr (5, 0))] σ (some (.inl R)) σ := by
  refine ab_M_intro ndC (by decide) (Nat.le_of_ble_eq_true rfl) ?_
  intro p e s m args below meth c D cA ad C
  have C : ab_C yC p s m args meth c D cA ad cX4_openDoors 1 RX4 (some .int) := C
  refine ab_weak (lv' := [some (.inr (.inr (5, 0)))]) ⟨.inr rfl, trivial⟩ ?_
  refine ab_aload_n C dX4_openDoors_0 rfl ?_
  refine ab_getI C dX4_openDoors_1 flX4_25 rkC_5 rfl mmC_5 ?_
  obtain ⟨q1, hq1, h⟩ := ab_bind h
  refine ab_invS1 C dX4_openDoors_4 mlX4_38 ysJ6_bitCount_0f7a4 (tJ6_bitCount_0f7a4 l _ _ hq1) (Nat.le_of_ble_eq_true rfl) (Nat.le_of_ble_eq_true rfl) rfl (Nat.le_of_ble_eq_true rfl) ?_
  obtain rfl := Option.some.inj h
  exact ab_iret C dX4_openDoors_7
end
def fX6_has_b15 (t0 : Int32) : Option Int32 := (if ab_isb t0 = true then some t0 else none)
def fX6_has_b14 : Option Int32 := fX6_has_b15 0
def fX6_has (x1 : Int32) : Option Int32 := (if x1 < 0 then fX6_has_b14 else (if 6 ≤ x1 then fX6_has_b14 else fX6_has_b15 1))
section
variable {p : Program} {l : Launch} {e : Env} {s : State} {m : MethodId} {args : Array Value} {below : List Frame} {meth : Method} {c : Code} {D : va_G} {cA : Nat → ClassId} {ad : Nat → Nat → Nat}
set_option maxRecDepth 100000 in
set_option maxHeartbeats 4000000 in
theorem gX6_has_b15 {R : Int32} (C : ab_C yC p s m args meth c D cA ad cX6_has 2 RX6 (some .boolean)) {σ : ab_S} (t0 : Int32) (h : fX6_has_b15 t0 = some R) : ab_G yC p l e s m args below meth c D cA ad 2 0 (some (.inl R)) σ 15 [none, none] [.inl t0] σ := by
  obtain ⟨hg1, h⟩ := ab_grd h
  obtain rfl := Option.some.inj h
  exact ab_zret C dX6_has_15 hg1
set_option maxRecDepth 100000 in
set_option maxHeartbeats 4000000 in
theorem gX6_has_b14 {R : Int32} (C : ab_C yC p s m args meth c D cA ad cX6_has 2 RX6 (some .boolean)) {σ : ab_S} (h : fX6_has_b14 = some R) : ab_G yC p l e s m args below meth c D cA ad 2 0 (some (.inl R)) σ 14 [none, none] [] σ := by
  refine ab_iconst C dX6_has_14 (v := 0) rfl ?_
  refine ab_weak (lv' := [none, none]) ⟨.inl rfl, ⟨.inl rfl, trivial⟩⟩ ?_
  exact gX6_has_b15 C _ h
set_option maxRecDepth 100000 in
set_option maxHeartbeats 4000000 in
theorem tX6_has (l : Launch) (x1 : Int32) (σ : ab_S) {R : Int32} (h : fX6_has x1 = some R) : ab_M l yC yX6_has cX6_has 2 (some .boolean) 0 [.inr (.inr (39, 0)), .inl x1] σ (some (.inl R)) σ := by
  refine ab_M_intro ndC (by decide) (Nat.le_of_ble_eq_true rfl) ?_
  intro p e s m args below meth c D cA ad C
  have C : ab_C yC p s m args meth c D cA ad cX6_has 2 RX6 (some .boolean) := C
  refine ab_weak (lv' := [some (.inr (.inr (39, 0))), some (.inl x1)]) ⟨.inr rfl, ⟨.inr rfl, trivial⟩⟩ ?_
  refine ab_iload_n C dX6_has_0 rfl ?_
  refine ab_if_lt C (tgt := 14) dX6_has_1 (by decide) (fun hc1 => ?_) (fun hc1 => ?_)
  · replace h := ab_pos hc1 h
    refine ab_weak (lv' := [none, none]) ⟨.inl rfl, ⟨.inl rfl, trivial⟩⟩ ?_
    exact gX6_has_b14 C h
  · replace h := ab_neg hc1 h
    refine ab_iload_n C dX6_has_4 rfl ?_
    refine ab_bipush C dX6_has_5 (v := 6) rfl ?_
    refine ab_icmp_ge C (tgt := 14) dX6_has_7 (by decide) (fun hc2 => ?_) (fun hc2 => ?_)
    · replace h := ab_pos hc2 h
      refine ab_weak (lv' := [none, none]) ⟨.inl rfl, ⟨.inl rfl, trivial⟩⟩ ?_
      exact gX6_has_b14 C h
    · replace h := ab_neg hc2 h
      refine ab_iconst C dX6_has_10 (v := 1) rfl ?_
      refine ab_goto C (tgt := 15) dX6_has_11 (by decide) ?_
      refine ab_weak (lv' := [none, none]) ⟨.inl rfl, ⟨.inl rfl, trivial⟩⟩ ?_
      exact gX6_has_b15 C _ h
end
def fX6_areAlike_b36 (t0 : Int32) (σ : ab_S) : Option Int32 := (if ab_isb t0 = true then some t0 else none)
def fX6_areAlike_b35 (σ : ab_S) : Option Int32 := fX6_areAlike_b36 0 σ
def fX6_areAlike (x1 : Int32) (x2 : Int32) (σ : ab_S) : Option Int32 := (fX6_has x1).bind fun q1 => (if q1 = 0 then fX6_areAlike_b35 σ else (fX6_has x2).bind fun q3 => (if q3 = 0 then fX6_areAlike_b35 σ else (if ab_inb x1 6 = true then (if ab_inb x2 6 = true then (if (σ.1 40 0 x1.toNatClampNeg) = (σ.1 40 0 x2.toNatClampNeg) then fX6_areAlike_b36 1 σ else fX6_areAlike_b35 σ) else none) else none)))
section
variable {p : Program} {l : Launch} {e : Env} {s : State} {m : MethodId} {args : Array Value} {below : List Frame} {meth : Method} {c : Code} {D : va_G} {cA : Nat → ClassId} {ad : Nat → Nat → Nat}
set_option maxRecDepth 100000 in
set_option maxHeartbeats 4000000 in
theorem gX6_areAlike_b36 {R : Int32} (C : ab_C yC p s m args meth c D cA ad cX6_areAlike 3 RX6 (some .boolean)) (σ : ab_S) (t0 : Int32) (h : fX6_areAlike_b36 t0 σ = some R) : ab_G yC p l e s m args below meth c D cA ad 3 1 (some (.inl R)) σ 36 [none, none, none] [.inl t0] σ := by
  obtain ⟨hg1, h⟩ := ab_grd h
  obtain rfl := Option.some.inj h
  exact ab_zret C dX6_areAlike_36 hg1
set_option maxRecDepth 100000 in
set_option maxHeartbeats 4000000 in
theorem gX6_areAlike_b35 {R : Int32} (C : ab_C yC p s m args meth c D cA ad cX6_areAlike 3 RX6 (some .boolean)) (σ : ab_S) (h : fX6_areAlike_b35 σ = some R) : ab_G yC p l e s m args below meth c D cA ad 3 1 (some (.inl R)) σ 35 [none, none, none] [] σ := by
  refine ab_iconst C dX6_areAlike_35 (v := 0) rfl ?_
  refine ab_weak (lv' := [none, none, none]) ⟨.inl rfl, ⟨.inl rfl, ⟨.inl rfl, trivial⟩⟩⟩ ?_
  exact gX6_areAlike_b36 C _ _ h
set_option maxRecDepth 100000 in
set_option maxHeartbeats 4000000 in
theorem tX6_areAlike (l : Launch) (x1 : Int32) (x2 : Int32) (σ : ab_S) {R : Int32} (h : fX6_areAlike x1 x2 σ = some R) : ab_M l yC yX6_areAlike cX6_areAlike 3 (some .boolean) 1 [.inr (.inr (39, 0)), .inl x1, .inl x2] σ (some (.inl R)) σ := by
  refine ab_M_intro ndC (by decide) (Nat.le_of_ble_eq_true rfl) ?_
  intro p e s m args below meth c D cA ad C
  have C : ab_C yC p s m args meth c D cA ad cX6_areAlike 3 RX6 (some .boolean) := C
  refine ab_weak (lv' := [some (.inr (.inr (39, 0))), some (.inl x1), some (.inl x2)]) ⟨.inr rfl, ⟨.inr rfl, ⟨.inr rfl, trivial⟩⟩⟩ ?_
  refine ab_aload_n C dX6_areAlike_0 rfl ?_
  refine ab_iload_n C dX6_areAlike_1 rfl ?_
  obtain ⟨q1, hq1, h⟩ := ab_bind h
  refine ab_inv1 C dX6_areAlike_2 mlX6_29 yvX6_has rkC_39 ⟨_, _, rfl⟩ mmC_39 (tX6_has l _ _ hq1) (Nat.le_of_ble_eq_true rfl) (Nat.le_of_ble_eq_true rfl) rfl (Nat.le_of_ble_eq_true rfl) ?_
  refine ab_if_eq C (tgt := 35) dX6_areAlike_5 (by decide) (fun hc2 => ?_) (fun hc2 => ?_)
  · replace h := ab_pos hc2 h
    refine ab_weak (lv' := [none, none, none]) ⟨.inl rfl, ⟨.inl rfl, ⟨.inl rfl, trivial⟩⟩⟩ ?_
    exact gX6_areAlike_b35 C _ h
  · replace h := ab_neg hc2 h
    refine ab_aload_n C dX6_areAlike_8 rfl ?_
    refine ab_iload_n C dX6_areAlike_9 rfl ?_
    obtain ⟨q3, hq3, h⟩ := ab_bind h
    refine ab_inv1 C dX6_areAlike_10 mlX6_29 yvX6_has rkC_39 ⟨_, _, rfl⟩ mmC_39 (tX6_has l _ _ hq3) (Nat.le_of_ble_eq_true rfl) (Nat.le_of_ble_eq_true rfl) rfl (Nat.le_of_ble_eq_true rfl) ?_
    refine ab_if_eq C (tgt := 35) dX6_areAlike_13 (by decide) (fun hc4 => ?_) (fun hc4 => ?_)
    · replace h := ab_pos hc4 h
      refine ab_weak (lv' := [none, none, none]) ⟨.inl rfl, ⟨.inl rfl, ⟨.inl rfl, trivial⟩⟩⟩ ?_
      exact gX6_areAlike_b35 C _ h
    · replace h := ab_neg hc4 h
      refine ab_aload_n C dX6_areAlike_16 rfl ?_
      refine ab_getR C dX6_areAlike_17 flX6_11 rkC_39 rfl mmC_39 ?_
      refine ab_iload_n C dX6_areAlike_20 rfl ?_
      obtain ⟨hg5, h⟩ := ab_grd h
      refine ab_iald C dX6_areAlike_21 rkC_40 mmC_40 hg5 ?_
      refine ab_aload_n C dX6_areAlike_22 rfl ?_
      refine ab_getR C dX6_areAlike_23 flX6_11 rkC_39 rfl mmC_39 ?_
      refine ab_iload_n C dX6_areAlike_26 rfl ?_
      obtain ⟨hg6, h⟩ := ab_grd h
      refine ab_iald C dX6_areAlike_27 rkC_40 mmC_40 hg6 ?_
      refine ab_icmp_ne C (tgt := 35) dX6_areAlike_28 (by decide) (fun hc7 => ?_) (fun hc7 => ?_)
      · replace h := ab_neg hc7 h
        refine ab_weak (lv' := [none, none, none]) ⟨.inl rfl, ⟨.inl rfl, ⟨.inl rfl, trivial⟩⟩⟩ ?_
        exact gX6_areAlike_b35 C _ h
      · replace h := ab_pos hc7 h
        refine ab_iconst C dX6_areAlike_31 (v := 1) rfl ?_
        refine ab_goto C (tgt := 36) dX6_areAlike_32 (by decide) ?_
        refine ab_weak (lv' := [none, none, none]) ⟨.inl rfl, ⟨.inl rfl, ⟨.inl rfl, trivial⟩⟩⟩ ?_
        exact gX6_areAlike_b36 C _ _ h
end
def fX6_isSort_b14 (t0 : Int32) : Option Int32 := (if ab_isb t0 = true then some t0 else none)
def fX6_isSort_b13 : Option Int32 := fX6_isSort_b14 0
def fX6_isSort (x0 : Int32) : Option Int32 := (if x0 < 0 then fX6_isSort_b13 else (if 4 < x0 then fX6_isSort_b13 else fX6_isSort_b14 1))
section
variable {p : Program} {l : Launch} {e : Env} {s : State} {m : MethodId} {args : Array Value} {below : List Frame} {meth : Method} {c : Code} {D : va_G} {cA : Nat → ClassId} {ad : Nat → Nat → Nat}
set_option maxRecDepth 100000 in
set_option maxHeartbeats 4000000 in
theorem gX6_isSort_b14 {R : Int32} (C : ab_C yC p s m args meth c D cA ad cX6_isSort 1 RX6 (some .boolean)) {σ : ab_S} (t0 : Int32) (h : fX6_isSort_b14 t0 = some R) : ab_G yC p l e s m args below meth c D cA ad 1 0 (some (.inl R)) σ 14 [none] [.inl t0] σ := by
  obtain ⟨hg1, h⟩ := ab_grd h
  obtain rfl := Option.some.inj h
  exact ab_zret C dX6_isSort_14 hg1
set_option maxRecDepth 100000 in
set_option maxHeartbeats 4000000 in
theorem gX6_isSort_b13 {R : Int32} (C : ab_C yC p s m args meth c D cA ad cX6_isSort 1 RX6 (some .boolean)) {σ : ab_S} (h : fX6_isSort_b13 = some R) : ab_G yC p l e s m args below meth c D cA ad 1 0 (some (.inl R)) σ 13 [none] [] σ := by
  refine ab_iconst C dX6_isSort_13 (v := 0) rfl ?_
  refine ab_weak (lv' := [none]) ⟨.inl rfl, trivial⟩ ?_
  exact gX6_isSort_b14 C _ h
set_option maxRecDepth 100000 in
set_option maxHeartbeats 4000000 in
theorem tX6_isSort (l : Launch) (x0 : Int32) (σ : ab_S) {R : Int32} (h : fX6_isSort x0 = some R) : ab_M l yC yX6_isSort cX6_isSort 1 (some .boolean) 0 [.inl x0] σ (some (.inl R)) σ := by
  refine ab_M_intro ndC (by decide) (Nat.le_of_ble_eq_true rfl) ?_
  intro p e s m args below meth c D cA ad C
  have C : ab_C yC p s m args meth c D cA ad cX6_isSort 1 RX6 (some .boolean) := C
  refine ab_weak (lv' := [some (.inl x0)]) ⟨.inr rfl, trivial⟩ ?_
  refine ab_iload_n C dX6_isSort_0 rfl ?_
  refine ab_if_lt C (tgt := 13) dX6_isSort_1 (by decide) (fun hc1 => ?_) (fun hc1 => ?_)
  · replace h := ab_pos hc1 h
    refine ab_weak (lv' := [none]) ⟨.inl rfl, trivial⟩ ?_
    exact gX6_isSort_b13 C h
  · replace h := ab_neg hc1 h
    refine ab_iload_n C dX6_isSort_4 rfl ?_
    refine ab_iconst C dX6_isSort_5 (v := 4) rfl ?_
    refine ab_icmp_gt C (tgt := 13) dX6_isSort_6 (by decide) (fun hc2 => ?_) (fun hc2 => ?_)
    · replace h := ab_pos hc2 h
      refine ab_weak (lv' := [none]) ⟨.inl rfl, trivial⟩ ?_
      exact gX6_isSort_b13 C h
    · replace h := ab_neg hc2 h
      refine ab_iconst C dX6_isSort_9 (v := 1) rfl ?_
      refine ab_goto C (tgt := 14) dX6_isSort_10 (by decide) ?_
      refine ab_weak (lv' := [none]) ⟨.inl rfl, trivial⟩ ?_
      exact gX6_isSort_b14 C _ h
end
def fX6_isRow_b25 (t0 : Int32) (σ : ab_S) : Option Int32 := (if ab_isb t0 = true then some t0 else none)
def fX6_isRow_b24 (σ : ab_S) : Option Int32 := fX6_isRow_b25 0 σ
def fX6_isRow (x1 : Int32) (σ : ab_S) : Option Int32 := (fX6_has x1).bind fun q1 => (if q1 = 0 then fX6_isRow_b24 σ else (if ab_inb x1 6 = true then (fX6_isSort (σ.1 40 0 x1.toNatClampNeg)).bind fun q4 => (if q4 = 0 then fX6_isRow_b24 σ else fX6_isRow_b25 1 σ) else none))
section
variable {p : Program} {l : Launch} {e : Env} {s : State} {m : MethodId} {args : Array Value} {below : List Frame} {meth : Method} {c : Code} {D : va_G} {cA : Nat → ClassId} {ad : Nat → Nat → Nat}
set_option maxRecDepth 100000 in
set_option maxHeartbeats 4000000 in
theorem gX6_isRow_b25 {R : Int32} (C : ab_C yC p s m args meth c D cA ad cX6_isRow 2 RX6 (some .boolean)) (σ : ab_S) (t0 : Int32) (h : fX6_isRow_b25 t0 σ = some R) : ab_G yC p l e s m args below meth c D cA ad 2 1 (some (.inl R)) σ 25 [none, none] [.inl t0] σ := by
  obtain ⟨hg1, h⟩ := ab_grd h
  obtain rfl := Option.some.inj h
  exact ab_zret C dX6_isRow_25 hg1
set_option maxRecDepth 100000 in
set_option maxHeartbeats 4000000 in
theorem gX6_isRow_b24 {R : Int32} (C : ab_C yC p s m args meth c D cA ad cX6_isRow 2 RX6 (some .boolean)) (σ : ab_S) (h : fX6_isRow_b24 σ = some R) : ab_G yC p l e s m args below meth c D cA ad 2 1 (some (.inl R)) σ 24 [none, none] [] σ := by
  refine ab_iconst C dX6_isRow_24 (v := 0) rfl ?_
  refine ab_weak (lv' := [none, none]) ⟨.inl rfl, ⟨.inl rfl, trivial⟩⟩ ?_
  exact gX6_isRow_b25 C _ _ h
set_option maxRecDepth 100000 in
set_option maxHeartbeats 4000000 in
theorem tX6_isRow (l : Launch) (x1 : Int32) (σ : ab_S) {R : Int32} (h : fX6_isRow x1 σ = some R) : ab_M l yC yX6_isRow cX6_isRow 2 (some .boolean) 1 [.inr (.inr (39, 0)), .inl x1] σ (some (.inl R)) σ := by
  refine ab_M_intro ndC (by decide) (Nat.le_of_ble_eq_true rfl) ?_
  intro p e s m args below meth c D cA ad C
  have C : ab_C yC p s m args meth c D cA ad cX6_isRow 2 RX6 (some .boolean) := C
  refine ab_weak (lv' := [some (.inr (.inr (39, 0))), some (.inl x1)]) ⟨.inr rfl, ⟨.inr rfl, trivial⟩⟩ ?_
  refine ab_aload_n C dX6_isRow_0 rfl ?_
  refine ab_iload_n C dX6_isRow_1 rfl ?_
  obtain ⟨q1, hq1, h⟩ := ab_bind h
  refine ab_inv1 C dX6_isRow_2 mlX6_29 yvX6_has rkC_39 ⟨_, _, rfl⟩ mmC_39 (tX6_has l _ _ hq1) (Nat.le_of_ble_eq_true rfl) (Nat.le_of_ble_eq_true rfl) rfl (Nat.le_of_ble_eq_true rfl) ?_
  refine ab_if_eq C (tgt := 24) dX6_isRow_5 (by decide) (fun hc2 => ?_) (fun hc2 => ?_)
  · replace h := ab_pos hc2 h
    refine ab_weak (lv' := [none, none]) ⟨.inl rfl, ⟨.inl rfl, trivial⟩⟩ ?_
    exact gX6_isRow_b24 C _ h
  · replace h := ab_neg hc2 h
    refine ab_aload_n C dX6_isRow_8 rfl ?_
    refine ab_getR C dX6_isRow_9 flX6_11 rkC_39 rfl mmC_39 ?_
    refine ab_iload_n C dX6_isRow_12 rfl ?_
    obtain ⟨hg3, h⟩ := ab_grd h
    refine ab_iald C dX6_isRow_13 rkC_40 mmC_40 hg3 ?_
    obtain ⟨q4, hq4, h⟩ := ab_bind h
    refine ab_invS1 C dX6_isRow_14 mlX6_33 ysX6_isSort (tX6_isSort l _ _ hq4) (Nat.le_of_ble_eq_true rfl) (Nat.le_of_ble_eq_true rfl) rfl (Nat.le_of_ble_eq_true rfl) ?_
    refine ab_if_eq C (tgt := 24) dX6_isRow_17 (by decide) (fun hc5 => ?_) (fun hc5 => ?_)
    · replace h := ab_pos hc5 h
      refine ab_weak (lv' := [none, none]) ⟨.inl rfl, ⟨.inl rfl, trivial⟩⟩ ?_
      exact gX6_isRow_b24 C _ h
    · replace h := ab_neg hc5 h
      refine ab_iconst C dX6_isRow_20 (v := 1) rfl ?_
      refine ab_goto C (tgt := 25) dX6_isRow_21 (by decide) ?_
      refine ab_weak (lv' := [none, none]) ⟨.inl rfl, ⟨.inl rfl, trivial⟩⟩ ?_
      exact gX6_isRow_b25 C _ _ h
end
def fX6_lengthOf_b18 (t0 : Int32) (σ : ab_S) : Option Int32 := some t0
def fX6_lengthOf (x1 : Int32) (σ : ab_S) : Option Int32 := (fX6_isRow x1 σ).bind fun q1 => (if q1 = 0 then fX6_lengthOf_b18 0 σ else (if ab_inb x1 6 = true then fX6_lengthOf_b18 (σ.1 41 0 x1.toNatClampNeg) σ else none))
section
variable {p : Program} {l : Launch} {e : Env} {s : State} {m : MethodId} {args : Array Value} {below : List Frame} {meth : Method} {c : Code} {D : va_G} {cA : Nat → ClassId} {ad : Nat → Nat → Nat}
set_option maxRecDepth 100000 in
set_option maxHeartbeats 4000000 in
theorem gX6_lengthOf_b18 {R : Int32} (C : ab_C yC p s m args meth c D cA ad cX6_lengthOf 2 RX6 (some .int)) (σ : ab_S) (t0 : Int32) (h : fX6_lengthOf_b18 t0 σ = some R) : ab_G yC p l e s m args below meth c D cA ad 2 2 (some (.inl R)) σ 18 [none, none] [.inl t0] σ := by
  obtain rfl := Option.some.inj h
  exact ab_iret C dX6_lengthOf_18
set_option maxRecDepth 100000 in
set_option maxHeartbeats 4000000 in
theorem tX6_lengthOf (l : Launch) (x1 : Int32) (σ : ab_S) {R : Int32} (h : fX6_lengthOf x1 σ = some R) : ab_M l yC yX6_lengthOf cX6_lengthOf 2 (some .int) 2 [.inr (.inr (39, 0)), .inl x1] σ (some (.inl R)) σ := by
  refine ab_M_intro ndC (by decide) (Nat.le_of_ble_eq_true rfl) ?_
  intro p e s m args below meth c D cA ad C
  have C : ab_C yC p s m args meth c D cA ad cX6_lengthOf 2 RX6 (some .int) := C
  refine ab_weak (lv' := [some (.inr (.inr (39, 0))), some (.inl x1)]) ⟨.inr rfl, ⟨.inr rfl, trivial⟩⟩ ?_
  refine ab_aload_n C dX6_lengthOf_0 rfl ?_
  refine ab_iload_n C dX6_lengthOf_1 rfl ?_
  obtain ⟨q1, hq1, h⟩ := ab_bind h
  refine ab_inv1 C dX6_lengthOf_2 mlX6_36 yvX6_isRow rkC_39 ⟨_, _, rfl⟩ mmC_39 (tX6_isRow l _ _ hq1) (Nat.le_of_ble_eq_true rfl) (Nat.le_of_ble_eq_true rfl) rfl (Nat.le_of_ble_eq_true rfl) ?_
  refine ab_if_eq C (tgt := 17) dX6_lengthOf_5 (by decide) (fun hc2 => ?_) (fun hc2 => ?_)
  · replace h := ab_pos hc2 h
    refine ab_iconst C dX6_lengthOf_17 (v := 0) rfl ?_
    refine ab_weak (lv' := [none, none]) ⟨.inl rfl, ⟨.inl rfl, trivial⟩⟩ ?_
    exact gX6_lengthOf_b18 C _ _ h
  · replace h := ab_neg hc2 h
    refine ab_aload_n C dX6_lengthOf_8 rfl ?_
    refine ab_getR C dX6_lengthOf_9 flX6_15 rkC_39 rfl mmC_39 ?_
    refine ab_iload_n C dX6_lengthOf_12 rfl ?_
    obtain ⟨hg3, h⟩ := ab_grd h
    refine ab_iald C dX6_lengthOf_13 rkC_41 mmC_41 hg3 ?_
    refine ab_goto C (tgt := 18) dX6_lengthOf_14 (by decide) ?_
    refine ab_weak (lv' := [none, none]) ⟨.inl rfl, ⟨.inl rfl, trivial⟩⟩ ?_
    exact gX6_lengthOf_b18 C _ _ h
end
def fX6_hasPlaces_b33 (t0 : Int32) (σ : ab_S) : Option Int32 := (if ab_isb t0 = true then some t0 else none)
def fX6_hasPlaces_b32 (σ : ab_S) : Option Int32 := fX6_hasPlaces_b33 0 σ
def fX6_hasPlaces (x1 : Int32) (x2 : Int32) (x3 : Int32) (σ : ab_S) : Option Int32 := (if x2 < 0 then fX6_hasPlaces_b32 σ else (if x3 < 0 then fX6_hasPlaces_b32 σ else (fX6_lengthOf x1 σ).bind fun q3 => (if q3 < x2 then fX6_hasPlaces_b32 σ else (fX6_lengthOf x1 σ).bind fun q5 => (if (q5 - x2) < x3 then fX6_hasPlaces_b32 σ else fX6_hasPlaces_b33 1 σ))))
section
variable {p : Program} {l : Launch} {e : Env} {s : State} {m : MethodId} {args : Array Value} {below : List Frame} {meth : Method} {c : Code} {D : va_G} {cA : Nat → ClassId} {ad : Nat → Nat → Nat}
set_option maxRecDepth 100000 in
set_option maxHeartbeats 4000000 in
theorem gX6_hasPlaces_b33 {R : Int32} (C : ab_C yC p s m args meth c D cA ad cX6_hasPlaces 4 RX6 (some .boolean)) (σ : ab_S) (t0 : Int32) (h : fX6_hasPlaces_b33 t0 σ = some R) : ab_G yC p l e s m args below meth c D cA ad 4 3 (some (.inl R)) σ 33 [none, none, none, none] [.inl t0] σ := by
  obtain ⟨hg1, h⟩ := ab_grd h
  obtain rfl := Option.some.inj h
  exact ab_zret C dX6_hasPlaces_33 hg1
set_option maxRecDepth 100000 in
set_option maxHeartbeats 4000000 in
theorem gX6_hasPlaces_b32 {R : Int32} (C : ab_C yC p s m args meth c D cA ad cX6_hasPlaces 4 RX6 (some .boolean)) (σ : ab_S) (h : fX6_hasPlaces_b32 σ = some R) : ab_G yC p l e s m args below meth c D cA ad 4 3 (some (.inl R)) σ 32 [none, none, none, none] [] σ := by
  refine ab_iconst C dX6_hasPlaces_32 (v := 0) rfl ?_
  refine ab_weak (lv' := [none, none, none, none]) ⟨.inl rfl, ⟨.inl rfl, ⟨.inl rfl, ⟨.inl rfl, trivial⟩⟩⟩⟩ ?_
  exact gX6_hasPlaces_b33 C _ _ h
set_option maxRecDepth 100000 in
set_option maxHeartbeats 4000000 in
theorem tX6_hasPlaces (l : Launch) (x1 : Int32) (x2 : Int32) (x3 : Int32) (σ : ab_S) {R : Int32} (h : fX6_hasPlaces x1 x2 x3 σ = some R) : ab_M l yC yX6_hasPlaces cX6_hasPlaces 4 (some .boolean) 3 [.inr (.inr (39, 0)), .inl x1, .inl x2, .inl x3] σ (some (.inl R)) σ := by
  refine ab_M_intro ndC (by decide) (Nat.le_of_ble_eq_true rfl) ?_
  intro p e s m args below meth c D cA ad C
  have C : ab_C yC p s m args meth c D cA ad cX6_hasPlaces 4 RX6 (some .boolean) := C
  refine ab_weak (lv' := [some (.inr (.inr (39, 0))), some (.inl x1), some (.inl x2), some (.inl x3)]) ⟨.inr rfl, ⟨.inr rfl, ⟨.inr rfl, ⟨.inr rfl, trivial⟩⟩⟩⟩ ?_
  refine ab_iload_n C dX6_hasPlaces_0 rfl ?_
  refine ab_if_lt C (tgt := 32) dX6_hasPlaces_1 (by decide) (fun hc1 => ?_) (fun hc1 => ?_)
  · replace h := ab_pos hc1 h
    refine ab_weak (lv' := [none, none, none, none]) ⟨.inl rfl, ⟨.inl rfl, ⟨.inl rfl, ⟨.inl rfl, trivial⟩⟩⟩⟩ ?_
    exact gX6_hasPlaces_b32 C _ h
  · replace h := ab_neg hc1 h
    refine ab_iload_n C dX6_hasPlaces_4 rfl ?_
    refine ab_if_lt C (tgt := 32) dX6_hasPlaces_5 (by decide) (fun hc2 => ?_) (fun hc2 => ?_)
    · replace h := ab_pos hc2 h
      refine ab_weak (lv' := [none, none, none, none]) ⟨.inl rfl, ⟨.inl rfl, ⟨.inl rfl, ⟨.inl rfl, trivial⟩⟩⟩⟩ ?_
      exact gX6_hasPlaces_b32 C _ h
    · replace h := ab_neg hc2 h
      refine ab_iload_n C dX6_hasPlaces_8 rfl ?_
      refine ab_aload_n C dX6_hasPlaces_9 rfl ?_
      refine ab_iload_n C dX6_hasPlaces_10 rfl ?_
      obtain ⟨q3, hq3, h⟩ := ab_bind h
      refine ab_inv1 C dX6_hasPlaces_11 mlX6_39 yvX6_lengthOf rkC_39 ⟨_, _, rfl⟩ mmC_39 (tX6_lengthOf l _ _ hq3) (Nat.le_of_ble_eq_true rfl) (Nat.le_of_ble_eq_true rfl) rfl (Nat.le_of_ble_eq_true rfl) ?_
      refine ab_icmp_gt C (tgt := 32) dX6_hasPlaces_14 (by decide) (fun hc4 => ?_) (fun hc4 => ?_)
      · replace h := ab_pos hc4 h
        refine ab_weak (lv' := [none, none, none, none]) ⟨.inl rfl, ⟨.inl rfl, ⟨.inl rfl, ⟨.inl rfl, trivial⟩⟩⟩⟩ ?_
        exact gX6_hasPlaces_b32 C _ h
      · replace h := ab_neg hc4 h
        refine ab_iload_n C dX6_hasPlaces_17 rfl ?_
        refine ab_aload_n C dX6_hasPlaces_18 rfl ?_
        refine ab_iload_n C dX6_hasPlaces_19 rfl ?_
        obtain ⟨q5, hq5, h⟩ := ab_bind h
        refine ab_inv1 C dX6_hasPlaces_20 mlX6_39 yvX6_lengthOf rkC_39 ⟨_, _, rfl⟩ mmC_39 (tX6_lengthOf l _ _ hq5) (Nat.le_of_ble_eq_true rfl) (Nat.le_of_ble_eq_true rfl) rfl (Nat.le_of_ble_eq_true rfl) ?_
        refine ab_iload_n C dX6_hasPlaces_23 rfl ?_
        refine ab_isub C dX6_hasPlaces_24  ?_
        refine ab_icmp_gt C (tgt := 32) dX6_hasPlaces_25 (by decide) (fun hc6 => ?_) (fun hc6 => ?_)
        · replace h := ab_pos hc6 h
          refine ab_weak (lv' := [none, none, none, none]) ⟨.inl rfl, ⟨.inl rfl, ⟨.inl rfl, ⟨.inl rfl, trivial⟩⟩⟩⟩ ?_
          exact gX6_hasPlaces_b32 C _ h
        · replace h := ab_neg hc6 h
          refine ab_iconst C dX6_hasPlaces_28 (v := 1) rfl ?_
          refine ab_goto C (tgt := 33) dX6_hasPlaces_29 (by decide) ?_
          refine ab_weak (lv' := [none, none, none, none]) ⟨.inl rfl, ⟨.inl rfl, ⟨.inl rfl, ⟨.inl rfl, trivial⟩⟩⟩⟩ ?_
          exact gX6_hasPlaces_b33 C _ _ h
end
def fX6_at_b30 (t0 : Int64) (σ : ab_S) : Option Int64 := some t0
def fX6_at_b29 (σ : ab_S) : Option Int64 := fX6_at_b30 0 σ
def fX6_at (x1 : Int32) (x2 : Int32) (σ : ab_S) : Option Int64 := (fX6_isRow x1 σ).bind fun q1 => (if q1 = 0 then fX6_at_b29 σ else (fX6_hasPlaces x1 x2 1 σ).bind fun q3 => (if q3 = 0 then fX6_at_b29 σ else (if ab_inb x1 6 = true then (if ab_inb x2 60 = true then fX6_at_b30 (σ.2 43 x1.toNatClampNeg x2.toNatClampNeg) σ else none) else none)))
section
variable {p : Program} {l : Launch} {e : Env} {s : State} {m : MethodId} {args : Array Value} {below : List Frame} {meth : Method} {c : Code} {D : va_G} {cA : Nat → ClassId} {ad : Nat → Nat → Nat}
set_option maxRecDepth 100000 in
set_option maxHeartbeats 4000000 in
theorem gX6_at_b30 {R : Int64} (C : ab_C yC p s m args meth c D cA ad cX6_at 3 RX6 (some .long)) (σ : ab_S) (t0 : Int64) (h : fX6_at_b30 t0 σ = some R) : ab_G yC p l e s m args below meth c D cA ad 3 4 (some (.inr (.inl R))) σ 30 [none, none, none] [.inr (.inl t0)] σ := by
  obtain rfl := Option.some.inj h
  exact ab_lret C dX6_at_30
set_option maxRecDepth 100000 in
set_option maxHeartbeats 4000000 in
theorem gX6_at_b29 {R : Int64} (C : ab_C yC p s m args meth c D cA ad cX6_at 3 RX6 (some .long)) (σ : ab_S) (h : fX6_at_b29 σ = some R) : ab_G yC p l e s m args below meth c D cA ad 3 4 (some (.inr (.inl R))) σ 29 [none, none, none] [] σ := by
  refine ab_lconst C dX6_at_29 (v := 0) rfl ?_
  refine ab_weak (lv' := [none, none, none]) ⟨.inl rfl, ⟨.inl rfl, ⟨.inl rfl, trivial⟩⟩⟩ ?_
  exact gX6_at_b30 C _ _ h
set_option maxRecDepth 100000 in
set_option maxHeartbeats 4000000 in
theorem tX6_at (l : Launch) (x1 : Int32) (x2 : Int32) (σ : ab_S) {R : Int64} (h : fX6_at x1 x2 σ = some R) : ab_M l yC yX6_at cX6_at 3 (some .long) 4 [.inr (.inr (39, 0)), .inl x1, .inl x2] σ (some (.inr (.inl R))) σ := by
  refine ab_M_intro ndC (by decide) (Nat.le_of_ble_eq_true rfl) ?_
  intro p e s m args below meth c D cA ad C
  have C : ab_C yC p s m args meth c D cA ad cX6_at 3 RX6 (some .long) := C
  refine ab_weak (lv' := [some (.inr (.inr (39, 0))), some (.inl x1), some (.inl x2)]) ⟨.inr rfl, ⟨.inr rfl, ⟨.inr rfl, trivial⟩⟩⟩ ?_
  refine ab_aload_n C dX6_at_0 rfl ?_
  refine ab_iload_n C dX6_at_1 rfl ?_
  obtain ⟨q1, hq1, h⟩ := ab_bind h
  refine ab_inv1 C dX6_at_2 mlX6_36 yvX6_isRow rkC_39 ⟨_, _, rfl⟩ mmC_39 (tX6_isRow l _ _ hq1) (Nat.le_of_ble_eq_true rfl) (Nat.le_of_ble_eq_true rfl) rfl (Nat.le_of_ble_eq_true rfl) ?_
  refine ab_if_eq C (tgt := 29) dX6_at_5 (by decide) (fun hc2 => ?_) (fun hc2 => ?_)
  · replace h := ab_pos hc2 h
    refine ab_weak (lv' := [none, none, none]) ⟨.inl rfl, ⟨.inl rfl, ⟨.inl rfl, trivial⟩⟩⟩ ?_
    exact gX6_at_b29 C _ h
  · replace h := ab_neg hc2 h
    refine ab_aload_n C dX6_at_8 rfl ?_
    refine ab_iload_n C dX6_at_9 rfl ?_
    refine ab_iload_n C dX6_at_10 rfl ?_
    refine ab_iconst C dX6_at_11 (v := 1) rfl ?_
    obtain ⟨q3, hq3, h⟩ := ab_bind h
    refine ab_inv1 C dX6_at_12 mlX6_46 yvX6_hasPlaces rkC_39 ⟨_, _, rfl⟩ mmC_39 (tX6_hasPlaces l _ _ _ _ hq3) (Nat.le_of_ble_eq_true rfl) (Nat.le_of_ble_eq_true rfl) rfl (Nat.le_of_ble_eq_true rfl) ?_
    refine ab_if_eq C (tgt := 29) dX6_at_15 (by decide) (fun hc4 => ?_) (fun hc4 => ?_)
    · replace h := ab_pos hc4 h
      refine ab_weak (lv' := [none, none, none]) ⟨.inl rfl, ⟨.inl rfl, ⟨.inl rfl, trivial⟩⟩⟩ ?_
      exact gX6_at_b29 C _ h
    · replace h := ab_neg hc4 h
      refine ab_aload_n C dX6_at_18 rfl ?_
      refine ab_getR C dX6_at_19 flX6_20 rkC_39 rfl mmC_39 ?_
      refine ab_iload_n C dX6_at_22 rfl ?_
      obtain ⟨hg5, h⟩ := ab_grd h
      refine ab_aald4 C dX6_at_23 rkC_42 mmC_42 hg5 ?_
      refine ab_iload_n C dX6_at_24 rfl ?_
      obtain ⟨hg6, h⟩ := ab_grd h
      refine ab_lald C dX6_at_25 rkC_43 (mmC_43 (ab_inb_lt hg5)) hg6 ?_
      refine ab_goto C (tgt := 30) dX6_at_26 (by decide) ?_
      refine ab_weak (lv' := [none, none, none]) ⟨.inl rfl, ⟨.inl rfl, ⟨.inl rfl, trivial⟩⟩⟩ ?_
      exact gX6_at_b30 C _ _ h
end
def fX6_bodyOn_b29 (t0 : Int32) (σ : ab_S) : Option Int32 := some t0
def fX6_bodyOn_b28 (σ : ab_S) : Option Int32 := fX6_bodyOn_b29 ((-1)) σ
def fX6_bodyOn (x1 : Int32) (σ : ab_S) : Option Int32 := (fX6_has x1).bind fun q1 => (if q1 = 0 then fX6_bodyOn_b28 σ else (if ab_inb x1 6 = true then (if (σ.1 40 0 x1.toNatClampNeg) = ((-2)) then (if ab_inb x1 6 = true then fX6_bodyOn_b29 (σ.1 41 0 x1.toNatClampNeg) σ else none) else fX6_bodyOn_b28 σ) else none))
section
variable {p : Program} {l : Launch} {e : Env} {s : State} {m : MethodId} {args : Array Value} {below : List Frame} {meth : Method} {c : Code} {D : va_G} {cA : Nat → ClassId} {ad : Nat → Nat → Nat}
set_option maxRecDepth 100000 in
set_option maxHeartbeats 4000000 in
theorem gX6_bodyOn_b29 {R : Int32} (C : ab_C yC p s m args meth c D cA ad cX6_bodyOn 2 RX6 (some .int)) (σ : ab_S) (t0 : Int32) (h : fX6_bodyOn_b29 t0 σ = some R) : ab_G yC p l e s m args below meth c D cA ad 2 1 (some (.inl R)) σ 29 [none, none] [.inl t0] σ := by
  obtain rfl := Option.some.inj h
  exact ab_iret C dX6_bodyOn_29
set_option maxRecDepth 100000 in
set_option maxHeartbeats 4000000 in
theorem gX6_bodyOn_b28 {R : Int32} (C : ab_C yC p s m args meth c D cA ad cX6_bodyOn 2 RX6 (some .int)) (σ : ab_S) (h : fX6_bodyOn_b28 σ = some R) : ab_G yC p l e s m args below meth c D cA ad 2 1 (some (.inl R)) σ 28 [none, none] [] σ := by
  refine ab_iconst C dX6_bodyOn_28 (v := (-1)) rfl ?_
  refine ab_weak (lv' := [none, none]) ⟨.inl rfl, ⟨.inl rfl, trivial⟩⟩ ?_
  exact gX6_bodyOn_b29 C _ _ h
set_option maxRecDepth 100000 in
set_option maxHeartbeats 4000000 in
theorem tX6_bodyOn (l : Launch) (x1 : Int32) (σ : ab_S) {R : Int32} (h : fX6_bodyOn x1 σ = some R) : ab_M l yC yX6_bodyOn cX6_bodyOn 2 (some .int) 1 [.inr (.inr (39, 0)), .inl x1] σ (some (.inl R)) σ := by
  refine ab_M_intro ndC (by decide) (Nat.le_of_ble_eq_true rfl) ?_
  intro p e s m args below meth c D cA ad C
  have C : ab_C yC p s m args meth c D cA ad cX6_bodyOn 2 RX6 (some .int) := C
  refine ab_weak (lv' := [some (.inr (.inr (39, 0))), some (.inl x1)]) ⟨.inr rfl, ⟨.inr rfl, trivial⟩⟩ ?_
  refine ab_aload_n C dX6_bodyOn_0 rfl ?_
  refine ab_iload_n C dX6_bodyOn_1 rfl ?_
  obtain ⟨q1, hq1, h⟩ := ab_bind h
  refine ab_inv1 C dX6_bodyOn_2 mlX6_29 yvX6_has rkC_39 ⟨_, _, rfl⟩ mmC_39 (tX6_has l _ _ hq1) (Nat.le_of_ble_eq_true rfl) (Nat.le_of_ble_eq_true rfl) rfl (Nat.le_of_ble_eq_true rfl) ?_
  refine ab_if_eq C (tgt := 28) dX6_bodyOn_5 (by decide) (fun hc2 => ?_) (fun hc2 => ?_)
  · replace h := ab_pos hc2 h
    refine ab_weak (lv' := [none, none]) ⟨.inl rfl, ⟨.inl rfl, trivial⟩⟩ ?_
    exact gX6_bodyOn_b28 C _ h
  · replace h := ab_neg hc2 h
    refine ab_aload_n C dX6_bodyOn_8 rfl ?_
    refine ab_getR C dX6_bodyOn_9 flX6_11 rkC_39 rfl mmC_39 ?_
    refine ab_iload_n C dX6_bodyOn_12 rfl ?_
    obtain ⟨hg3, h⟩ := ab_grd h
    refine ab_iald C dX6_bodyOn_13 rkC_40 mmC_40 hg3 ?_
    refine ab_bipush C dX6_bodyOn_14 (v := (-2)) rfl ?_
    refine ab_icmp_ne C (tgt := 28) dX6_bodyOn_16 (by decide) (fun hc4 => ?_) (fun hc4 => ?_)
    · replace h := ab_neg hc4 h
      refine ab_weak (lv' := [none, none]) ⟨.inl rfl, ⟨.inl rfl, trivial⟩⟩ ?_
      exact gX6_bodyOn_b28 C _ h
    · replace h := ab_pos hc4 h
      refine ab_aload_n C dX6_bodyOn_19 rfl ?_
      refine ab_getR C dX6_bodyOn_20 flX6_15 rkC_39 rfl mmC_39 ?_
      refine ab_iload_n C dX6_bodyOn_23 rfl ?_
      obtain ⟨hg5, h⟩ := ab_grd h
      refine ab_iald C dX6_bodyOn_24 rkC_41 mmC_41 hg5 ?_
      refine ab_goto C (tgt := 29) dX6_bodyOn_25 (by decide) ?_
      refine ab_weak (lv' := [none, none]) ⟨.inl rfl, ⟨.inl rfl, trivial⟩⟩ ?_
      exact gX6_bodyOn_b29 C _ _ h
end
def fX6_holdBody (x1 : Int32) (x2 : Int32) (σ : ab_S) : Option ab_S := (fX6_has x1).bind fun q1 => (if q1 = 0 then some σ else (if ab_inb x1 6 = true then ab_k (ab_si σ 40 0 x1.toNatClampNeg ((-2))) fun σ4 => (if ab_inb x1 6 = true then ab_k (ab_si σ4 41 0 x1.toNatClampNeg x2) fun σ6 => some σ6 else none) else none))
section
variable {p : Program} {l : Launch} {e : Env} {s : State} {m : MethodId} {args : Array Value} {below : List Frame} {meth : Method} {c : Code} {D : va_G} {cA : Nat → ClassId} {ad : Nat → Nat → Nat}
set_option maxRecDepth 100000 in
set_option maxHeartbeats 4000000 in
theorem tX6_holdBody (l : Launch) (x1 : Int32) (x2 : Int32) (σ : ab_S) {R : ab_S} (h : fX6_holdBody x1 x2 σ = some R) : ab_M l yC yX6_holdBody cX6_holdBody 3 none 1 [.inr (.inr (39, 0)), .inl x1, .inl x2] σ none R := by
  refine ab_M_intro ndC (by decide) (Nat.le_of_ble_eq_true rfl) ?_
  intro p e s m args below meth c D cA ad C
  have C : ab_C yC p s m args meth c D cA ad cX6_holdBody 3 RX6 none := C
  refine ab_weak (lv' := [some (.inr (.inr (39, 0))), some (.inl x1), some (.inl x2)]) ⟨.inr rfl, ⟨.inr rfl, ⟨.inr rfl, trivial⟩⟩⟩ ?_
  refine ab_aload_n C dX6_holdBody_0 rfl ?_
  refine ab_iload_n C dX6_holdBody_1 rfl ?_
  obtain ⟨q1, hq1, h⟩ := ab_bind h
  refine ab_inv1 C dX6_holdBody_2 mlX6_29 yvX6_has rkC_39 ⟨_, _, rfl⟩ mmC_39 (tX6_has l _ _ hq1) (Nat.le_of_ble_eq_true rfl) (Nat.le_of_ble_eq_true rfl) rfl (Nat.le_of_ble_eq_true rfl) ?_
  refine ab_if_ne C (tgt := 9) dX6_holdBody_5 (by decide) (fun hc2 => ?_) (fun hc2 => ?_)
  · replace h := ab_neg hc2 h
    refine ab_aload_n C dX6_holdBody_9 rfl ?_
    refine ab_getR C dX6_holdBody_10 flX6_11 rkC_39 rfl mmC_39 ?_
    refine ab_iload_n C dX6_holdBody_13 rfl ?_
    refine ab_bipush C dX6_holdBody_14 (v := (-2)) rfl ?_
    obtain ⟨hg3, h⟩ := ab_grd h
    refine ab_iast C dX6_holdBody_16 rkC_40 mmC_40 hg3 ?_
    refine ab_nmS (fun σ4 eσ4 => ?_)
    replace h := ab_kh eσ4 h
    refine ab_aload_n C dX6_holdBody_17 rfl ?_
    refine ab_getR C dX6_holdBody_18 flX6_15 rkC_39 rfl mmC_39 ?_
    refine ab_iload_n C dX6_holdBody_21 rfl ?_
    refine ab_iload_n C dX6_holdBody_22 rfl ?_
    obtain ⟨hg5, h⟩ := ab_grd h
    refine ab_iast C dX6_holdBody_23 rkC_41 mmC_41 hg5 ?_
    refine ab_nmS (fun σ6 eσ6 => ?_)
    replace h := ab_kh eσ6 h
    obtain rfl := Option.some.inj h
    exact ab_vret C dX6_holdBody_24
  · replace h := ab_pos hc2 h
    obtain rfl := Option.some.inj h
    exact ab_vret C dX6_holdBody_8
end
def fX6_holdNothing_b15 (σ : ab_S) : Option ab_S := some σ
def fX6_holdNothing (x1 : Int32) (σ : ab_S) : Option ab_S := (fX6_has x1).bind fun q1 => (if q1 = 0 then fX6_holdNothing_b15 σ else (if ab_inb x1 6 = true then ab_k (ab_si σ 40 0 x1.toNatClampNeg ((-1))) fun σ4 => fX6_holdNothing_b15 σ4 else none))
section
variable {p : Program} {l : Launch} {e : Env} {s : State} {m : MethodId} {args : Array Value} {below : List Frame} {meth : Method} {c : Code} {D : va_G} {cA : Nat → ClassId} {ad : Nat → Nat → Nat}
set_option maxRecDepth 100000 in
set_option maxHeartbeats 4000000 in
theorem gX6_holdNothing_b15 {R : ab_S} (C : ab_C yC p s m args meth c D cA ad cX6_holdNothing 2 RX6 none) (σ : ab_S) (h : fX6_holdNothing_b15 σ = some R) : ab_G yC p l e s m args below meth c D cA ad 2 1 none R 15 [none, none] [] σ := by
  obtain rfl := Option.some.inj h
  exact ab_vret C dX6_holdNothing_15
set_option maxRecDepth 100000 in
set_option maxHeartbeats 4000000 in
theorem tX6_holdNothing (l : Launch) (x1 : Int32) (σ : ab_S) {R : ab_S} (h : fX6_holdNothing x1 σ = some R) : ab_M l yC yX6_holdNothing cX6_holdNothing 2 none 1 [.inr (.inr (39, 0)), .inl x1] σ none R := by
  refine ab_M_intro ndC (by decide) (Nat.le_of_ble_eq_true rfl) ?_
  intro p e s m args below meth c D cA ad C
  have C : ab_C yC p s m args meth c D cA ad cX6_holdNothing 2 RX6 none := C
  refine ab_weak (lv' := [some (.inr (.inr (39, 0))), some (.inl x1)]) ⟨.inr rfl, ⟨.inr rfl, trivial⟩⟩ ?_
  refine ab_aload_n C dX6_holdNothing_0 rfl ?_
  refine ab_iload_n C dX6_holdNothing_1 rfl ?_
  obtain ⟨q1, hq1, h⟩ := ab_bind h
  refine ab_inv1 C dX6_holdNothing_2 mlX6_29 yvX6_has rkC_39 ⟨_, _, rfl⟩ mmC_39 (tX6_has l _ _ hq1) (Nat.le_of_ble_eq_true rfl) (Nat.le_of_ble_eq_true rfl) rfl (Nat.le_of_ble_eq_true rfl) ?_
  refine ab_if_eq C (tgt := 15) dX6_holdNothing_5 (by decide) (fun hc2 => ?_) (fun hc2 => ?_)
  · replace h := ab_pos hc2 h
    refine ab_weak (lv' := [none, none]) ⟨.inl rfl, ⟨.inl rfl, trivial⟩⟩ ?_
    exact gX6_holdNothing_b15 C _ h
  · replace h := ab_neg hc2 h
    refine ab_aload_n C dX6_holdNothing_8 rfl ?_
    refine ab_getR C dX6_holdNothing_9 flX6_11 rkC_39 rfl mmC_39 ?_
    refine ab_iload_n C dX6_holdNothing_12 rfl ?_
    refine ab_iconst C dX6_holdNothing_13 (v := (-1)) rfl ?_
    obtain ⟨hg3, h⟩ := ab_grd h
    refine ab_iast C dX6_holdNothing_14 rkC_40 mmC_40 hg3 ?_
    refine ab_nmS (fun σ4 eσ4 => ?_)
    replace h := ab_kh eσ4 h
    refine ab_weak (lv' := [none, none]) ⟨.inl rfl, ⟨.inl rfl, trivial⟩⟩ ?_
    exact gX6_holdNothing_b15 C _ h
end
def fX6_holdRow_b25 (σ : ab_S) : Option ab_S := some σ
def fX6_holdRow (x1 : Int32) (x2 : Int32) (x3 : Int32) (σ : ab_S) : Option ab_S := (fX6_has x1).bind fun q1 => (if q1 = 0 then fX6_holdRow_b25 σ else (fX6_isSort x2).bind fun q3 => (if q3 = 0 then fX6_holdRow_b25 σ else (if x3 < 0 then fX6_holdRow_b25 σ else (if x3 ≤ 60 then (if ab_inb x1 6 = true then ab_k (ab_si σ 40 0 x1.toNatClampNeg x2) fun σ8 => (if ab_inb x1 6 = true then ab_k (ab_si σ8 41 0 x1.toNatClampNeg x3) fun σ10 => (if ab_inb x1 6 = true then (fJ7_fill_d0a16 x1.toNatClampNeg 0 σ10).bind fun q12 => some q12 else none) else none) else none) else fX6_holdRow_b25 σ))))
section
variable {p : Program} {l : Launch} {e : Env} {s : State} {m : MethodId} {args : Array Value} {below : List Frame} {meth : Method} {c : Code} {D : va_G} {cA : Nat → ClassId} {ad : Nat → Nat → Nat}
set_option maxRecDepth 100000 in
set_option maxHeartbeats 4000000 in
theorem gX6_holdRow_b25 {R : ab_S} (C : ab_C yC p s m args meth c D cA ad cX6_holdRow 4 RX6 none) (σ : ab_S) (h : fX6_holdRow_b25 σ = some R) : ab_G yC p l e s m args below meth c D cA ad 4 1 none R 25 [none, none, none, none] [] σ := by
  obtain rfl := Option.some.inj h
  exact ab_vret C dX6_holdRow_25
set_option maxRecDepth 100000 in
set_option maxHeartbeats 4000000 in
theorem tX6_holdRow (l : Launch) (x1 : Int32) (x2 : Int32) (x3 : Int32) (σ : ab_S) {R : ab_S} (h : fX6_holdRow x1 x2 x3 σ = some R) : ab_M l yC yX6_holdRow cX6_holdRow 4 none 1 [.inr (.inr (39, 0)), .inl x1, .inl x2, .inl x3] σ none R := by
  refine ab_M_intro ndC (by decide) (Nat.le_of_ble_eq_true rfl) ?_
  intro p e s m args below meth c D cA ad C
  have C : ab_C yC p s m args meth c D cA ad cX6_holdRow 4 RX6 none := C
  refine ab_weak (lv' := [some (.inr (.inr (39, 0))), some (.inl x1), some (.inl x2), some (.inl x3)]) ⟨.inr rfl, ⟨.inr rfl, ⟨.inr rfl, ⟨.inr rfl, trivial⟩⟩⟩⟩ ?_
  refine ab_aload_n C dX6_holdRow_0 rfl ?_
  refine ab_iload_n C dX6_holdRow_1 rfl ?_
  obtain ⟨q1, hq1, h⟩ := ab_bind h
  refine ab_inv1 C dX6_holdRow_2 mlX6_29 yvX6_has rkC_39 ⟨_, _, rfl⟩ mmC_39 (tX6_has l _ _ hq1) (Nat.le_of_ble_eq_true rfl) (Nat.le_of_ble_eq_true rfl) rfl (Nat.le_of_ble_eq_true rfl) ?_
  refine ab_if_eq C (tgt := 25) dX6_holdRow_5 (by decide) (fun hc2 => ?_) (fun hc2 => ?_)
  · replace h := ab_pos hc2 h
    refine ab_weak (lv' := [none, none, none, none]) ⟨.inl rfl, ⟨.inl rfl, ⟨.inl rfl, ⟨.inl rfl, trivial⟩⟩⟩⟩ ?_
    exact gX6_holdRow_b25 C _ h
  · replace h := ab_neg hc2 h
    refine ab_iload_n C dX6_holdRow_8 rfl ?_
    obtain ⟨q3, hq3, h⟩ := ab_bind h
    refine ab_invS1 C dX6_holdRow_9 mlX6_33 ysX6_isSort (tX6_isSort l _ _ hq3) (Nat.le_of_ble_eq_true rfl) (Nat.le_of_ble_eq_true rfl) rfl (Nat.le_of_ble_eq_true rfl) ?_
    refine ab_if_eq C (tgt := 25) dX6_holdRow_12 (by decide) (fun hc4 => ?_) (fun hc4 => ?_)
    · replace h := ab_pos hc4 h
      refine ab_weak (lv' := [none, none, none, none]) ⟨.inl rfl, ⟨.inl rfl, ⟨.inl rfl, ⟨.inl rfl, trivial⟩⟩⟩⟩ ?_
      exact gX6_holdRow_b25 C _ h
    · replace h := ab_neg hc4 h
      refine ab_iload_n C dX6_holdRow_15 rfl ?_
      refine ab_if_lt C (tgt := 25) dX6_holdRow_16 (by decide) (fun hc5 => ?_) (fun hc5 => ?_)
      · replace h := ab_pos hc5 h
        refine ab_weak (lv' := [none, none, none, none]) ⟨.inl rfl, ⟨.inl rfl, ⟨.inl rfl, ⟨.inl rfl, trivial⟩⟩⟩⟩ ?_
        exact gX6_holdRow_b25 C _ h
      · replace h := ab_neg hc5 h
        refine ab_iload_n C dX6_holdRow_19 rfl ?_
        refine ab_bipush C dX6_holdRow_20 (v := 60) rfl ?_
        refine ab_icmp_le C (tgt := 26) dX6_holdRow_22 (by decide) (fun hc6 => ?_) (fun hc6 => ?_)
        · replace h := ab_pos hc6 h
          refine ab_aload_n C dX6_holdRow_26 rfl ?_
          refine ab_getR C dX6_holdRow_27 flX6_11 rkC_39 rfl mmC_39 ?_
          refine ab_iload_n C dX6_holdRow_30 rfl ?_
          refine ab_iload_n C dX6_holdRow_31 rfl ?_
          obtain ⟨hg7, h⟩ := ab_grd h
          refine ab_iast C dX6_holdRow_32 rkC_40 mmC_40 hg7 ?_
          refine ab_nmS (fun σ8 eσ8 => ?_)
          replace h := ab_kh eσ8 h
          refine ab_aload_n C dX6_holdRow_33 rfl ?_
          refine ab_getR C dX6_holdRow_34 flX6_15 rkC_39 rfl mmC_39 ?_
          refine ab_iload_n C dX6_holdRow_37 rfl ?_
          refine ab_iload_n C dX6_holdRow_38 rfl ?_
          obtain ⟨hg9, h⟩ := ab_grd h
          refine ab_iast C dX6_holdRow_39 rkC_41 mmC_41 hg9 ?_
          refine ab_nmS (fun σ10 eσ10 => ?_)
          replace h := ab_kh eσ10 h
          refine ab_aload_n C dX6_holdRow_40 rfl ?_
          refine ab_getR C dX6_holdRow_41 flX6_20 rkC_39 rfl mmC_39 ?_
          refine ab_iload_n C dX6_holdRow_44 rfl ?_
          obtain ⟨hg11, h⟩ := ab_grd h
          refine ab_aald4 C dX6_holdRow_45 rkC_42 mmC_42 hg11 ?_
          refine ab_lconst C dX6_holdRow_46 (v := 0) rfl ?_
          obtain ⟨q12, hq12, h⟩ := ab_bind h
          refine ab_invS0 C dX6_holdRow_47 mlX6_43 ysJ7_fill_d0a16 (tJ7_fill_d0a16 l _ _ _ (ab_inb_lt hg11) hq12) (Nat.le_of_ble_eq_true rfl) (Nat.le_of_ble_eq_true rfl) rfl (Nat.le_of_ble_eq_true rfl) ?_
          obtain rfl := Option.some.inj h
          exact ab_vret C dX6_holdRow_50
        · replace h := ab_neg hc6 h
          refine ab_weak (lv' := [none, none, none, none]) ⟨.inl rfl, ⟨.inl rfl, ⟨.inl rfl, ⟨.inl rfl, trivial⟩⟩⟩⟩ ?_
          exact gX6_holdRow_b25 C _ h
end
def fX6_isBytes_b22 (t0 : Int32) (σ : ab_S) : Option Int32 := (if ab_isb t0 = true then some t0 else none)
def fX6_isBytes_b21 (σ : ab_S) : Option Int32 := fX6_isBytes_b22 0 σ
def fX6_isBytes (x1 : Int32) (σ : ab_S) : Option Int32 := (fX6_has x1).bind fun q1 => (if q1 = 0 then fX6_isBytes_b21 σ else (if ab_inb x1 6 = true then (if (σ.1 40 0 x1.toNatClampNeg) = 0 then fX6_isBytes_b22 1 σ else fX6_isBytes_b21 σ) else none))
section
variable {p : Program} {l : Launch} {e : Env} {s : State} {m : MethodId} {args : Array Value} {below : List Frame} {meth : Method} {c : Code} {D : va_G} {cA : Nat → ClassId} {ad : Nat → Nat → Nat}
set_option maxRecDepth 100000 in
set_option maxHeartbeats 4000000 in
theorem gX6_isBytes_b22 {R : Int32} (C : ab_C yC p s m args meth c D cA ad cX6_isBytes 2 RX6 (some .boolean)) (σ : ab_S) (t0 : Int32) (h : fX6_isBytes_b22 t0 σ = some R) : ab_G yC p l e s m args below meth c D cA ad 2 1 (some (.inl R)) σ 22 [none, none] [.inl t0] σ := by
  obtain ⟨hg1, h⟩ := ab_grd h
  obtain rfl := Option.some.inj h
  exact ab_zret C dX6_isBytes_22 hg1
set_option maxRecDepth 100000 in
set_option maxHeartbeats 4000000 in
theorem gX6_isBytes_b21 {R : Int32} (C : ab_C yC p s m args meth c D cA ad cX6_isBytes 2 RX6 (some .boolean)) (σ : ab_S) (h : fX6_isBytes_b21 σ = some R) : ab_G yC p l e s m args below meth c D cA ad 2 1 (some (.inl R)) σ 21 [none, none] [] σ := by
  refine ab_iconst C dX6_isBytes_21 (v := 0) rfl ?_
  refine ab_weak (lv' := [none, none]) ⟨.inl rfl, ⟨.inl rfl, trivial⟩⟩ ?_
  exact gX6_isBytes_b22 C _ _ h
set_option maxRecDepth 100000 in
set_option maxHeartbeats 4000000 in
theorem tX6_isBytes (l : Launch) (x1 : Int32) (σ : ab_S) {R : Int32} (h : fX6_isBytes x1 σ = some R) : ab_M l yC yX6_isBytes cX6_isBytes 2 (some .boolean) 1 [.inr (.inr (39, 0)), .inl x1] σ (some (.inl R)) σ := by
  refine ab_M_intro ndC (by decide) (Nat.le_of_ble_eq_true rfl) ?_
  intro p e s m args below meth c D cA ad C
  have C : ab_C yC p s m args meth c D cA ad cX6_isBytes 2 RX6 (some .boolean) := C
  refine ab_weak (lv' := [some (.inr (.inr (39, 0))), some (.inl x1)]) ⟨.inr rfl, ⟨.inr rfl, trivial⟩⟩ ?_
  refine ab_aload_n C dX6_isBytes_0 rfl ?_
  refine ab_iload_n C dX6_isBytes_1 rfl ?_
  obtain ⟨q1, hq1, h⟩ := ab_bind h
  refine ab_inv1 C dX6_isBytes_2 mlX6_29 yvX6_has rkC_39 ⟨_, _, rfl⟩ mmC_39 (tX6_has l _ _ hq1) (Nat.le_of_ble_eq_true rfl) (Nat.le_of_ble_eq_true rfl) rfl (Nat.le_of_ble_eq_true rfl) ?_
  refine ab_if_eq C (tgt := 21) dX6_isBytes_5 (by decide) (fun hc2 => ?_) (fun hc2 => ?_)
  · replace h := ab_pos hc2 h
    refine ab_weak (lv' := [none, none]) ⟨.inl rfl, ⟨.inl rfl, trivial⟩⟩ ?_
    exact gX6_isBytes_b21 C _ h
  · replace h := ab_neg hc2 h
    refine ab_aload_n C dX6_isBytes_8 rfl ?_
    refine ab_getR C dX6_isBytes_9 flX6_11 rkC_39 rfl mmC_39 ?_
    refine ab_iload_n C dX6_isBytes_12 rfl ?_
    obtain ⟨hg3, h⟩ := ab_grd h
    refine ab_iald C dX6_isBytes_13 rkC_40 mmC_40 hg3 ?_
    refine ab_if_ne C (tgt := 21) dX6_isBytes_14 (by decide) (fun hc4 => ?_) (fun hc4 => ?_)
    · replace h := ab_neg hc4 h
      refine ab_weak (lv' := [none, none]) ⟨.inl rfl, ⟨.inl rfl, trivial⟩⟩ ?_
      exact gX6_isBytes_b21 C _ h
    · replace h := ab_pos hc4 h
      refine ab_iconst C dX6_isBytes_17 (v := 1) rfl ?_
      refine ab_goto C (tgt := 22) dX6_isBytes_18 (by decide) ?_
      refine ab_weak (lv' := [none, none]) ⟨.inl rfl, ⟨.inl rfl, trivial⟩⟩ ?_
      exact gX6_isBytes_b22 C _ _ h
end
def fX6_isEmpty_b23 (t0 : Int32) (σ : ab_S) : Option Int32 := (if ab_isb t0 = true then some t0 else none)
def fX6_isEmpty_b18 (σ : ab_S) : Option Int32 := fX6_isEmpty_b23 1 σ
def fX6_isEmpty (x1 : Int32) (σ : ab_S) : Option Int32 := (fX6_has x1).bind fun q1 => (if q1 = 0 then fX6_isEmpty_b18 σ else (if ab_inb x1 6 = true then (if (σ.1 40 0 x1.toNatClampNeg) = ((-1)) then fX6_isEmpty_b18 σ else fX6_isEmpty_b23 0 σ) else none))
section
variable {p : Program} {l : Launch} {e : Env} {s : State} {m : MethodId} {args : Array Value} {below : List Frame} {meth : Method} {c : Code} {D : va_G} {cA : Nat → ClassId} {ad : Nat → Nat → Nat}
set_option maxRecDepth 100000 in
set_option maxHeartbeats 4000000 in
theorem gX6_isEmpty_b23 {R : Int32} (C : ab_C yC p s m args meth c D cA ad cX6_isEmpty 2 RX6 (some .boolean)) (σ : ab_S) (t0 : Int32) (h : fX6_isEmpty_b23 t0 σ = some R) : ab_G yC p l e s m args below meth c D cA ad 2 1 (some (.inl R)) σ 23 [none, none] [.inl t0] σ := by
  obtain ⟨hg1, h⟩ := ab_grd h
  obtain rfl := Option.some.inj h
  exact ab_zret C dX6_isEmpty_23 hg1
set_option maxRecDepth 100000 in
set_option maxHeartbeats 4000000 in
theorem gX6_isEmpty_b18 {R : Int32} (C : ab_C yC p s m args meth c D cA ad cX6_isEmpty 2 RX6 (some .boolean)) (σ : ab_S) (h : fX6_isEmpty_b18 σ = some R) : ab_G yC p l e s m args below meth c D cA ad 2 1 (some (.inl R)) σ 18 [none, none] [] σ := by
  refine ab_iconst C dX6_isEmpty_18 (v := 1) rfl ?_
  refine ab_goto C (tgt := 23) dX6_isEmpty_19 (by decide) ?_
  refine ab_weak (lv' := [none, none]) ⟨.inl rfl, ⟨.inl rfl, trivial⟩⟩ ?_
  exact gX6_isEmpty_b23 C _ _ h
set_option maxRecDepth 100000 in
set_option maxHeartbeats 4000000 in
theorem tX6_isEmpty (l : Launch) (x1 : Int32) (σ : ab_S) {R : Int32} (h : fX6_isEmpty x1 σ = some R) : ab_M l yC yX6_isEmpty cX6_isEmpty 2 (some .boolean) 1 [.inr (.inr (39, 0)), .inl x1] σ (some (.inl R)) σ := by
  refine ab_M_intro ndC (by decide) (Nat.le_of_ble_eq_true rfl) ?_
  intro p e s m args below meth c D cA ad C
  have C : ab_C yC p s m args meth c D cA ad cX6_isEmpty 2 RX6 (some .boolean) := C
  refine ab_weak (lv' := [some (.inr (.inr (39, 0))), some (.inl x1)]) ⟨.inr rfl, ⟨.inr rfl, trivial⟩⟩ ?_
  refine ab_aload_n C dX6_isEmpty_0 rfl ?_
  refine ab_iload_n C dX6_isEmpty_1 rfl ?_
  obtain ⟨q1, hq1, h⟩ := ab_bind h
  refine ab_inv1 C dX6_isEmpty_2 mlX6_29 yvX6_has rkC_39 ⟨_, _, rfl⟩ mmC_39 (tX6_has l _ _ hq1) (Nat.le_of_ble_eq_true rfl) (Nat.le_of_ble_eq_true rfl) rfl (Nat.le_of_ble_eq_true rfl) ?_
  refine ab_if_eq C (tgt := 18) dX6_isEmpty_5 (by decide) (fun hc2 => ?_) (fun hc2 => ?_)
  · replace h := ab_pos hc2 h
    refine ab_weak (lv' := [none, none]) ⟨.inl rfl, ⟨.inl rfl, trivial⟩⟩ ?_
    exact gX6_isEmpty_b18 C _ h
  · replace h := ab_neg hc2 h
    refine ab_aload_n C dX6_isEmpty_8 rfl ?_
    refine ab_getR C dX6_isEmpty_9 flX6_11 rkC_39 rfl mmC_39 ?_
    refine ab_iload_n C dX6_isEmpty_12 rfl ?_
    obtain ⟨hg3, h⟩ := ab_grd h
    refine ab_iald C dX6_isEmpty_13 rkC_40 mmC_40 hg3 ?_
    refine ab_iconst C dX6_isEmpty_14 (v := (-1)) rfl ?_
    refine ab_icmp_ne C (tgt := 22) dX6_isEmpty_15 (by decide) (fun hc4 => ?_) (fun hc4 => ?_)
    · replace h := ab_neg hc4 h
      refine ab_iconst C dX6_isEmpty_22 (v := 0) rfl ?_
      refine ab_weak (lv' := [none, none]) ⟨.inl rfl, ⟨.inl rfl, trivial⟩⟩ ?_
      exact gX6_isEmpty_b23 C _ _ h
    · replace h := ab_pos hc4 h
      refine ab_weak (lv' := [none, none]) ⟨.inl rfl, ⟨.inl rfl, trivial⟩⟩ ?_
      exact gX6_isEmpty_b18 C _ h
end
def fX6_lowestBits_b59 (t0 : Int64) : Option Int64 := some t0
def fX6_lowestBits (x0 : Int32) (x1 : Int64) : Option Int64 := (if x0 = 0 then some ((((x1 : Int64).toInt32 : Int32).toInt8.toInt32 : Int32).toInt64) else (if x0 = 1 then some ((((x1 : Int64).toInt32 : Int32).toInt16.toInt32 : Int32).toInt64) else (if x0 = 2 then some (((x1 : Int64).toInt32 : Int32).toInt64) else (if x0 = 3 then some x1 else (if (lg_cmp x1 0) = 0 then fX6_lowestBits_b59 0 else fX6_lowestBits_b59 1)))))
section
variable {p : Program} {l : Launch} {e : Env} {s : State} {m : MethodId} {args : Array Value} {below : List Frame} {meth : Method} {c : Code} {D : va_G} {cA : Nat → ClassId} {ad : Nat → Nat → Nat}
set_option maxRecDepth 100000 in
set_option maxHeartbeats 4000000 in
theorem gX6_lowestBits_b59 {R : Int64} (C : ab_C yC p s m args meth c D cA ad cX6_lowestBits 3 RX6 (some .long)) {σ : ab_S} (t0 : Int64) (h : fX6_lowestBits_b59 t0 = some R) : ab_G yC p l e s m args below meth c D cA ad 3 0 (some (.inr (.inl R))) σ 59 [none, none, none] [.inr (.inl t0)] σ := by
  obtain rfl := Option.some.inj h
  exact ab_lret C dX6_lowestBits_59
set_option maxRecDepth 100000 in
set_option maxHeartbeats 4000000 in
theorem tX6_lowestBits (l : Launch) (x0 : Int32) (x1 : Int64) (σ : ab_S) {R : Int64} (h : fX6_lowestBits x0 x1 = some R) : ab_M l yC yX6_lowestBits cX6_lowestBits 3 (some .long) 0 [.inl x0, .inr (.inl x1)] σ (some (.inr (.inl R))) σ := by
  refine ab_M_intro ndC (by decide) (Nat.le_of_ble_eq_true rfl) ?_
  intro p e s m args below meth c D cA ad C
  have C : ab_C yC p s m args meth c D cA ad cX6_lowestBits 3 RX6 (some .long) := C
  refine ab_weak (lv' := [some (.inl x0), some (.inr (.inl x1)), none]) ⟨.inr rfl, ⟨.inr rfl, ⟨.inl rfl, trivial⟩⟩⟩ ?_
  refine ab_iload_n C dX6_lowestBits_0 rfl ?_
  by_cases hc1 : x0 = 0
  · replace h := ab_pos hc1 h
    refine ab_tswIn C (tgt := 32) dX6_lowestBits_1.1 0 (by rw [hc1]; decide) (by decide) (by decide) rfl (by decide) ?_
    refine ab_lload_n C dX6_lowestBits_32 rfl ?_
    refine ab_l2i C dX6_lowestBits_33  ?_
    refine ab_i2b C dX6_lowestBits_34  ?_
    refine ab_i2l C dX6_lowestBits_35  ?_
    obtain rfl := Option.some.inj h
    exact ab_lret C dX6_lowestBits_36
  · replace h := ab_neg hc1 h
    by_cases hc2 : x0 = 1
    · replace h := ab_pos hc2 h
      refine ab_tswIn C (tgt := 37) dX6_lowestBits_1.1 1 (by rw [hc2]; decide) (by decide) (by decide) rfl (by decide) ?_
      refine ab_lload_n C dX6_lowestBits_37 rfl ?_
      refine ab_l2i C dX6_lowestBits_38  ?_
      refine ab_i2s C dX6_lowestBits_39  ?_
      refine ab_i2l C dX6_lowestBits_40  ?_
      obtain rfl := Option.some.inj h
      exact ab_lret C dX6_lowestBits_41
    · replace h := ab_neg hc2 h
      by_cases hc3 : x0 = 2
      · replace h := ab_pos hc3 h
        refine ab_tswIn C (tgt := 42) dX6_lowestBits_1.1 2 (by rw [hc3]; decide) (by decide) (by decide) rfl (by decide) ?_
        refine ab_lload_n C dX6_lowestBits_42 rfl ?_
        refine ab_l2i C dX6_lowestBits_43  ?_
        refine ab_i2l C dX6_lowestBits_44  ?_
        obtain rfl := Option.some.inj h
        exact ab_lret C dX6_lowestBits_45
      · replace h := ab_neg hc3 h
        by_cases hc4 : x0 = 3
        · replace h := ab_pos hc4 h
          refine ab_tswIn C (tgt := 46) dX6_lowestBits_1.1 3 (by rw [hc4]; decide) (by decide) (by decide) rfl (by decide) ?_
          refine ab_lload_n C dX6_lowestBits_46 rfl ?_
          obtain rfl := Option.some.inj h
          exact ab_lret C dX6_lowestBits_47
        · replace h := ab_neg hc4 h
          refine ab_tswOut C (tgt := 48) dX6_lowestBits_1.1 (by have a0 := lv_neT hc1 (a := 0) (by decide); have a1 := lv_neT hc2 (a := 1) (by decide); have a2 := lv_neT hc3 (a := 2) (by decide); have a3 := lv_neT hc4 (a := 3) (by decide); omega) (by decide) ?_
          refine ab_lload_n C dX6_lowestBits_48 rfl ?_
          refine ab_lconst C dX6_lowestBits_49 (v := 0) rfl ?_
          refine ab_lcmp C dX6_lowestBits_50  ?_
          refine ab_if_eq C (tgt := 58) dX6_lowestBits_51 (by decide) (fun hc5 => ?_) (fun hc5 => ?_)
          · replace h := ab_pos hc5 h
            refine ab_lconst C dX6_lowestBits_58 (v := 0) rfl ?_
            refine ab_weak (lv' := [none, none, none]) ⟨.inl rfl, ⟨.inl rfl, ⟨.inl rfl, trivial⟩⟩⟩ ?_
            exact gX6_lowestBits_b59 C _ h
          · replace h := ab_neg hc5 h
            refine ab_lconst C dX6_lowestBits_54 (v := 1) rfl ?_
            refine ab_goto C (tgt := 59) dX6_lowestBits_55 (by decide) ?_
            refine ab_weak (lv' := [none, none, none]) ⟨.inl rfl, ⟨.inl rfl, ⟨.inl rfl, trivial⟩⟩⟩ ?_
            exact gX6_lowestBits_b59 C _ h
end
def fX6_move_b16 (σ : ab_S) : Option ab_S := some σ
def fX6_move_b40 (σ : ab_S) : Option ab_S := some σ
def fX6_move (x1 : Int32) (x2 : Int32) (x3 : Int32) (x4 : Int32) (x5 : Int32) (σ : ab_S) : Option ab_S := (fX6_isRow x1 σ).bind fun q1 => (if q1 = 0 then fX6_move_b16 σ else (fX6_isRow x3 σ).bind fun q3 => (if q3 = 0 then fX6_move_b16 σ else (fX6_hasPlaces x1 x2 x5 σ).bind fun q5 => (if q5 = 0 then fX6_move_b40 σ else (fX6_hasPlaces x3 x4 x5 σ).bind fun q7 => (if q7 = 0 then fX6_move_b40 σ else (if ab_inb x1 6 = true then (if ab_inb x3 6 = true then (if ab_cpb x2 x4 x5 60 60 = true then ab_k (ab_cl σ 43 x1.toNatClampNeg ((x2 : Int32).toNatClampNeg) 43 x3.toNatClampNeg ((x4 : Int32).toNatClampNeg) ((x5 : Int32).toNatClampNeg)) fun σ12 => some σ12 else none) else none) else none)))))
section
variable {p : Program} {l : Launch} {e : Env} {s : State} {m : MethodId} {args : Array Value} {below : List Frame} {meth : Method} {c : Code} {D : va_G} {cA : Nat → ClassId} {ad : Nat → Nat → Nat}
set_option maxRecDepth 100000 in
set_option maxHeartbeats 4000000 in
theorem gX6_move_b16 {R : ab_S} (C : ab_C yC p s m args meth c D cA ad cX6_move 6 RX6 none) (σ : ab_S) (h : fX6_move_b16 σ = some R) : ab_G yC p l e s m args below meth c D cA ad 6 4 none R 16 [none, none, none, none, none, none] [] σ := by
  obtain rfl := Option.some.inj h
  exact ab_vret C dX6_move_16
set_option maxRecDepth 100000 in
set_option maxHeartbeats 4000000 in
theorem gX6_move_b40 {R : ab_S} (C : ab_C yC p s m args meth c D cA ad cX6_move 6 RX6 none) (σ : ab_S) (h : fX6_move_b40 σ = some R) : ab_G yC p l e s m args below meth c D cA ad 6 4 none R 40 [none, none, none, none, none, none] [] σ := by
  obtain rfl := Option.some.inj h
  exact ab_vret C dX6_move_40
set_option maxRecDepth 100000 in
set_option maxHeartbeats 4000000 in
theorem tX6_move (l : Launch) (x1 : Int32) (x2 : Int32) (x3 : Int32) (x4 : Int32) (x5 : Int32) (σ : ab_S) {R : ab_S} (h : fX6_move x1 x2 x3 x4 x5 σ = some R) : ab_M l yC yX6_move cX6_move 6 none 4 [.inr (.inr (39, 0)), .inl x1, .inl x2, .inl x3, .inl x4, .inl x5] σ none R := by
  refine ab_M_intro ndC (by decide) (Nat.le_of_ble_eq_true rfl) ?_
  intro p e s m args below meth c D cA ad C
  have C : ab_C yC p s m args meth c D cA ad cX6_move 6 RX6 none := C
  refine ab_weak (lv' := [some (.inr (.inr (39, 0))), some (.inl x1), some (.inl x2), some (.inl x3), some (.inl x4), some (.inl x5)]) ⟨.inr rfl, ⟨.inr rfl, ⟨.inr rfl, ⟨.inr rfl, ⟨.inr rfl, ⟨.inr rfl, trivial⟩⟩⟩⟩⟩⟩ ?_
  refine ab_aload_n C dX6_move_0 rfl ?_
  refine ab_iload_n C dX6_move_1 rfl ?_
  obtain ⟨q1, hq1, h⟩ := ab_bind h
  refine ab_inv1 C dX6_move_2 mlX6_36 yvX6_isRow rkC_39 ⟨_, _, rfl⟩ mmC_39 (tX6_isRow l _ _ hq1) (Nat.le_of_ble_eq_true rfl) (Nat.le_of_ble_eq_true rfl) rfl (Nat.le_of_ble_eq_true rfl) ?_
  refine ab_if_eq C (tgt := 16) dX6_move_5 (by decide) (fun hc2 => ?_) (fun hc2 => ?_)
  · replace h := ab_pos hc2 h
    refine ab_weak (lv' := [none, none, none, none, none, none]) ⟨.inl rfl, ⟨.inl rfl, ⟨.inl rfl, ⟨.inl rfl, ⟨.inl rfl, ⟨.inl rfl, trivial⟩⟩⟩⟩⟩⟩ ?_
    exact gX6_move_b16 C _ h
  · replace h := ab_neg hc2 h
    refine ab_aload_n C dX6_move_8 rfl ?_
    refine ab_iload_n C dX6_move_9 rfl ?_
    obtain ⟨q3, hq3, h⟩ := ab_bind h
    refine ab_inv1 C dX6_move_10 mlX6_36 yvX6_isRow rkC_39 ⟨_, _, rfl⟩ mmC_39 (tX6_isRow l _ _ hq3) (Nat.le_of_ble_eq_true rfl) (Nat.le_of_ble_eq_true rfl) rfl (Nat.le_of_ble_eq_true rfl) ?_
    refine ab_if_ne C (tgt := 17) dX6_move_13 (by decide) (fun hc4 => ?_) (fun hc4 => ?_)
    · replace h := ab_neg hc4 h
      refine ab_aload_n C dX6_move_17 rfl ?_
      refine ab_iload_n C dX6_move_18 rfl ?_
      refine ab_iload_n C dX6_move_19 rfl ?_
      refine ab_iload C dX6_move_20 rfl ?_
      obtain ⟨q5, hq5, h⟩ := ab_bind h
      refine ab_inv1 C dX6_move_22 mlX6_46 yvX6_hasPlaces rkC_39 ⟨_, _, rfl⟩ mmC_39 (tX6_hasPlaces l _ _ _ _ hq5) (Nat.le_of_ble_eq_true rfl) (Nat.le_of_ble_eq_true rfl) rfl (Nat.le_of_ble_eq_true rfl) ?_
      refine ab_if_eq C (tgt := 40) dX6_move_25 (by decide) (fun hc6 => ?_) (fun hc6 => ?_)
      · replace h := ab_pos hc6 h
        refine ab_weak (lv' := [none, none, none, none, none, none]) ⟨.inl rfl, ⟨.inl rfl, ⟨.inl rfl, ⟨.inl rfl, ⟨.inl rfl, ⟨.inl rfl, trivial⟩⟩⟩⟩⟩⟩ ?_
        exact gX6_move_b40 C _ h
      · replace h := ab_neg hc6 h
        refine ab_aload_n C dX6_move_28 rfl ?_
        refine ab_iload_n C dX6_move_29 rfl ?_
        refine ab_iload C dX6_move_30 rfl ?_
        refine ab_iload C dX6_move_32 rfl ?_
        obtain ⟨q7, hq7, h⟩ := ab_bind h
        refine ab_inv1 C dX6_move_34 mlX6_46 yvX6_hasPlaces rkC_39 ⟨_, _, rfl⟩ mmC_39 (tX6_hasPlaces l _ _ _ _ hq7) (Nat.le_of_ble_eq_true rfl) (Nat.le_of_ble_eq_true rfl) rfl (Nat.le_of_ble_eq_true rfl) ?_
        refine ab_if_ne C (tgt := 41) dX6_move_37 (by decide) (fun hc8 => ?_) (fun hc8 => ?_)
        · replace h := ab_neg hc8 h
          refine ab_aload_n C dX6_move_41 rfl ?_
          refine ab_getR C dX6_move_42 flX6_20 rkC_39 rfl mmC_39 ?_
          refine ab_iload_n C dX6_move_45 rfl ?_
          obtain ⟨hg9, h⟩ := ab_grd h
          refine ab_aald4 C dX6_move_46 rkC_42 mmC_42 hg9 ?_
          refine ab_iload_n C dX6_move_47 rfl ?_
          refine ab_aload_n C dX6_move_48 rfl ?_
          refine ab_getR C dX6_move_49 flX6_20 rkC_39 rfl mmC_39 ?_
          refine ab_iload_n C dX6_move_52 rfl ?_
          obtain ⟨hg10, h⟩ := ab_grd h
          refine ab_aald4 C dX6_move_53 rkC_42 mmC_42 hg10 ?_
          refine ab_iload C dX6_move_54 rfl ?_
          refine ab_iload C dX6_move_56 rfl ?_
          obtain ⟨hg11, h⟩ := ab_grd h
          refine ab_copyl C dX6_move_58 mlX6_54 rkC_43 (mmC_43 (ab_inb_lt hg9)) rkC_43 (mmC_43 (ab_inb_lt hg10)) hg11 (Nat.le_of_ble_eq_true rfl) (Nat.le_of_ble_eq_true rfl) ?_
          refine ab_nmS (fun σ12 eσ12 => ?_)
          replace h := ab_kh eσ12 h
          obtain rfl := Option.some.inj h
          exact ab_vret C dX6_move_61
        · replace h := ab_pos hc8 h
          refine ab_weak (lv' := [none, none, none, none, none, none]) ⟨.inl rfl, ⟨.inl rfl, ⟨.inl rfl, ⟨.inl rfl, ⟨.inl rfl, ⟨.inl rfl, trivial⟩⟩⟩⟩⟩⟩ ?_
          exact gX6_move_b40 C _ h
    · replace h := ab_pos hc4 h
      refine ab_weak (lv' := [none, none, none, none, none, none]) ⟨.inl rfl, ⟨.inl rfl, ⟨.inl rfl, ⟨.inl rfl, ⟨.inl rfl, ⟨.inl rfl, trivial⟩⟩⟩⟩⟩⟩ ?_
      exact gX6_move_b16 C _ h
end
