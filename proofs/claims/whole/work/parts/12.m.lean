def fX7_has_b17 (t0 : Int32) (σ : ab_S) : Option Int32 := (if ab_isb t0 = true then some t0 else none)
def fX7_has_b16 (σ : ab_S) : Option Int32 := fX7_has_b17 0 σ
def fX7_has (x1 : Int32) (σ : ab_S) : Option Int32 := (if x1 < 0 then fX7_has_b16 σ else (if (σ.1 1 0 3) ≤ x1 then fX7_has_b16 σ else fX7_has_b17 1 σ))
section
variable {p : Program} {l : Launch} {e : Env} {s : State} {m : MethodId} {args : Array Value} {below : List Frame} {meth : Method} {c : Code} {D : va_G} {cA : Nat → ClassId} {ad : Nat → Nat → Nat}
set_option maxRecDepth 100000 in
set_option maxHeartbeats 4000000 in
theorem gX7_has_b17 {R : Int32} (C : ab_C yC p s m args meth c D cA ad cX7_has 2 RX7 (some .boolean)) (σ : ab_S) (t0 : Int32) (h : fX7_has_b17 t0 σ = some R) : ab_G yC p l e s m args below meth c D cA ad 2 0 (some (.inl R)) σ 17 [none, none] [.inl t0] σ := by
  obtain ⟨hg1, h⟩ := ab_grd h
  obtain rfl := Option.some.inj h
  exact ab_zret C dX7_has_17 hg1
set_option maxRecDepth 100000 in
set_option maxHeartbeats 4000000 in
theorem gX7_has_b16 {R : Int32} (C : ab_C yC p s m args meth c D cA ad cX7_has 2 RX7 (some .boolean)) (σ : ab_S) (h : fX7_has_b16 σ = some R) : ab_G yC p l e s m args below meth c D cA ad 2 0 (some (.inl R)) σ 16 [none, none] [] σ := by
  refine ab_iconst C dX7_has_16 (v := 0) rfl ?_
  refine ab_weak (lv' := [none, none]) ⟨.inl rfl, ⟨.inl rfl, trivial⟩⟩ ?_
  exact gX7_has_b17 C _ _ h
set_option maxRecDepth 100000 in
set_option maxHeartbeats 4000000 in
theorem tX7_has (l : Launch) (x1 : Int32) (σ : ab_S) {R : Int32} (h : fX7_has x1 σ = some R) : ab_M l yC yX7_has cX7_has 2 (some .boolean) 0 [.inr (.inr (1, 0)), .inl x1] σ (some (.inl R)) σ := by
  refine ab_M_intro ndC (by decide) (Nat.le_of_ble_eq_true rfl) ?_
  intro p e s m args below meth c D cA ad C
  have C : ab_C yC p s m args meth c D cA ad cX7_has 2 RX7 (some .boolean) := C
  refine ab_weak (lv' := [some (.inr (.inr (1, 0))), some (.inl x1)]) ⟨.inr rfl, ⟨.inr rfl, trivial⟩⟩ ?_
  refine ab_iload_n C dX7_has_0 rfl ?_
  refine ab_if_lt C (tgt := 16) dX7_has_1 (by decide) (fun hc1 => ?_) (fun hc1 => ?_)
  · replace h := ab_pos hc1 h
    refine ab_weak (lv' := [none, none]) ⟨.inl rfl, ⟨.inl rfl, trivial⟩⟩ ?_
    exact gX7_has_b16 C _ h
  · replace h := ab_neg hc1 h
    refine ab_iload_n C dX7_has_4 rfl ?_
    refine ab_aload_n C dX7_has_5 rfl ?_
    refine ab_getI C dX7_has_6 flX7_32 rkC_1 rfl mmC_1 ?_
    refine ab_icmp_ge C (tgt := 16) dX7_has_9 (by decide) (fun hc2 => ?_) (fun hc2 => ?_)
    · replace h := ab_pos hc2 h
      refine ab_weak (lv' := [none, none]) ⟨.inl rfl, ⟨.inl rfl, trivial⟩⟩ ?_
      exact gX7_has_b16 C _ h
    · replace h := ab_neg hc2 h
      refine ab_iconst C dX7_has_12 (v := 1) rfl ?_
      refine ab_goto C (tgt := 17) dX7_has_13 (by decide) ?_
      refine ab_weak (lv' := [none, none]) ⟨.inl rfl, ⟨.inl rfl, trivial⟩⟩ ?_
      exact gX7_has_b17 C _ _ h
end
def fX1_weighed_b21 (t0 : Int64) (σ : ab_S) : Option Int64 := some t0
def fX1_weighed (x1 : Int32) (σ : ab_S) : Option Int64 := (fX7_has x1 σ).bind fun q1 => (if q1 = 0 then fX1_weighed_b21 0 σ else (if ab_inb x1 5 = true then fX1_weighed_b21 (σ.2 27 0 x1.toNatClampNeg) σ else none))
section
variable {p : Program} {l : Launch} {e : Env} {s : State} {m : MethodId} {args : Array Value} {below : List Frame} {meth : Method} {c : Code} {D : va_G} {cA : Nat → ClassId} {ad : Nat → Nat → Nat}
set_option maxRecDepth 100000 in
set_option maxHeartbeats 4000000 in
theorem gX1_weighed_b21 {R : Int64} (C : ab_C yC p s m args meth c D cA ad cX1_weighed 2 RX1 (some .long)) (σ : ab_S) (t0 : Int64) (h : fX1_weighed_b21 t0 σ = some R) : ab_G yC p l e s m args below meth c D cA ad 2 1 (some (.inr (.inl R))) σ 21 [none, none] [.inr (.inl t0)] σ := by
  obtain rfl := Option.some.inj h
  exact ab_lret C dX1_weighed_21
set_option maxRecDepth 100000 in
set_option maxHeartbeats 4000000 in
theorem tX1_weighed (l : Launch) (x1 : Int32) (σ : ab_S) {R : Int64} (h : fX1_weighed x1 σ = some R) : ab_M l yC yX1_weighed cX1_weighed 2 (some .long) 1 [.inr (.inr (21, 0)), .inl x1] σ (some (.inr (.inl R))) σ := by
  refine ab_M_intro ndC (by decide) (Nat.le_of_ble_eq_true rfl) ?_
  intro p e s m args below meth c D cA ad C
  have C : ab_C yC p s m args meth c D cA ad cX1_weighed 2 RX1 (some .long) := C
  refine ab_weak (lv' := [some (.inr (.inr (21, 0))), some (.inl x1)]) ⟨.inr rfl, ⟨.inr rfl, trivial⟩⟩ ?_
  refine ab_aload_n C dX1_weighed_0 rfl ?_
  refine ab_getR C dX1_weighed_1 flX1_39 rkC_21 rfl mmC_21 ?_
  refine ab_iload_n C dX1_weighed_4 rfl ?_
  obtain ⟨q1, hq1, h⟩ := ab_bind h
  refine ab_inv1 C dX1_weighed_5 mlX1_108 yvX7_has rkC_1 ⟨_, _, rfl⟩ mmC_1 (tX7_has l _ _ hq1) (Nat.le_of_ble_eq_true rfl) (Nat.le_of_ble_eq_true rfl) rfl (Nat.le_of_ble_eq_true rfl) ?_
  refine ab_if_eq C (tgt := 20) dX1_weighed_8 (by decide) (fun hc2 => ?_) (fun hc2 => ?_)
  · replace h := ab_pos hc2 h
    refine ab_lconst C dX1_weighed_20 (v := 0) rfl ?_
    refine ab_weak (lv' := [none, none]) ⟨.inl rfl, ⟨.inl rfl, trivial⟩⟩ ?_
    exact gX1_weighed_b21 C _ _ h
  · replace h := ab_neg hc2 h
    refine ab_aload_n C dX1_weighed_11 rfl ?_
    refine ab_getR C dX1_weighed_12 flX1_17 rkC_21 rfl mmC_21 ?_
    refine ab_iload_n C dX1_weighed_15 rfl ?_
    obtain ⟨hg3, h⟩ := ab_grd h
    refine ab_lald C dX1_weighed_16 rkC_27 mmC_27 hg3 ?_
    refine ab_goto C (tgt := 21) dX1_weighed_17 (by decide) ?_
    refine ab_weak (lv' := [none, none]) ⟨.inl rfl, ⟨.inl rfl, trivial⟩⟩ ?_
    exact gX1_weighed_b21 C _ _ h
end
def fX4_isOpen (x1 : Int32) (σ : ab_S) : Option Int32 := (fX9_isIn (σ.1 5 0 5) x1).bind fun q1 => (if ab_isb q1 = true then some q1 else none)
section
variable {p : Program} {l : Launch} {e : Env} {s : State} {m : MethodId} {args : Array Value} {below : List Frame} {meth : Method} {c : Code} {D : va_G} {cA : Nat → ClassId} {ad : Nat → Nat → Nat}
set_option maxRecDepth 100000 in
set_option maxHeartbeats 4000000 in
theorem tX4_isOpen (l : Launch) (x1 : Int32) (σ : ab_S) {R : Int32} (h : fX4_isOpen x1 σ = some R) : ab_M l yC yX4_isOpen cX4_isOpen 2 (some .boolean) 1 [.inr (.inr (5, 0)), .inl x1] σ (some (.inl R)) σ := by
  refine ab_M_intro ndC (by decide) (Nat.le_of_ble_eq_true rfl) ?_
  intro p e s m args below meth c D cA ad C
  have C : ab_C yC p s m args meth c D cA ad cX4_isOpen 2 RX4 (some .boolean) := C
  refine ab_weak (lv' := [some (.inr (.inr (5, 0))), some (.inl x1)]) ⟨.inr rfl, ⟨.inr rfl, trivial⟩⟩ ?_
  refine ab_aload_n C dX4_isOpen_0 rfl ?_
  refine ab_getI C dX4_isOpen_1 flX4_25 rkC_5 rfl mmC_5 ?_
  refine ab_iload_n C dX4_isOpen_4 rfl ?_
  obtain ⟨q1, hq1, h⟩ := ab_bind h
  refine ab_invSN1 C dX4_isOpen_5 nlX4_34 ysX9_isIn (tX9_isIn l _ _ _ hq1) (Nat.le_of_ble_eq_true rfl) (Nat.le_of_ble_eq_true rfl) rfl (Nat.le_of_ble_eq_true rfl) ?_
  obtain ⟨hg2, h⟩ := ab_grd h
  obtain rfl := Option.some.inj h
  exact ab_zret C dX4_isOpen_8 hg2
end
def fX1_likeliest_b42 (kk7 : Int32 → Int32 → ab_S → Option Int32) (v2 : Int32) (v3 : Int32) (σ : ab_S) : Option Int32 := kk7 v2 (v3 + 1) σ
def fX1_likeliest_b7_o (kk7 : Int32 → Int32 → ab_S → Option Int32) (v2 : Int32) (v3 : Int32) (σ : ab_S) : Option Int32 := (if (σ.1 1 0 3) ≤ v3 then some v2 else (fX4_isOpen v3 σ).bind fun q2 => (if q2 = 0 then (fX1_weighed v3 σ).bind fun q4 => (fX1_weighed v2 σ).bind fun q5 => (if (lg_cmp q4 q5) ≤ 0 then fX1_likeliest_b42 kk7 v2 v3 σ else fX1_likeliest_b42 kk7 v3 v3 σ) else fX1_likeliest_b42 kk7 v2 v3 σ))
def fX1_likeliest_b7 : Nat → Int32 → Int32 → ab_S → Option Int32
  | 0 => fun _ _ _ => none
  | n + 1 => fX1_likeliest_b7_o  (fX1_likeliest_b7 n)
def fX1_likeliest (σ : ab_S) : Option Int32 := fX1_likeliest_b7 ab_N (σ.1 5 0 4) 0 σ
section
variable {p : Program} {l : Launch} {e : Env} {s : State} {m : MethodId} {args : Array Value} {below : List Frame} {meth : Method} {c : Code} {D : va_G} {cA : Nat → ClassId} {ad : Nat → Nat → Nat}
set_option maxRecDepth 100000 in
set_option maxHeartbeats 4000000 in
theorem gX1_likeliest_b42 {R : Int32} (C : ab_C yC p s m args meth c D cA ad cX1_likeliest 4 RX1 (some .int)) (σ : ab_S) {kk7 : Int32 → Int32 → ab_S → Option Int32} (hk7 : ∀ (v2 : Int32) (v3 : Int32), kk7 v2 v3 σ = some R → ab_G yC p l e s m args below meth c D cA ad 4 2 (some (.inl R)) σ 7 [some (.inr (.inr (21, 0))), some (.inr (.inr (5, 0))), some (.inl v2), some (.inl v3)] [] σ) (v2 : Int32) (v3 : Int32) (h : fX1_likeliest_b42 kk7 v2 v3 σ = some R) : ab_G yC p l e s m args below meth c D cA ad 4 2 (some (.inl R)) σ 42 [some (.inr (.inr (21, 0))), some (.inr (.inr (5, 0))), some (.inl v2), some (.inl v3)] [] σ := by
  refine ab_iinc C dX1_likeliest_42 rfl (v := 1) rfl (Nat.le_of_ble_eq_true rfl) ?_
  refine ab_goto C (tgt := 7) dX1_likeliest_45 (by decide) ?_
  refine ab_weak (lv' := [some (.inr (.inr (21, 0))), some (.inr (.inr (5, 0))), some (.inl v2), some (.inl (v3 + 1))]) ⟨.inr rfl, ⟨.inr rfl, ⟨.inr rfl, ⟨.inr rfl, trivial⟩⟩⟩⟩ ?_
  exact hk7 _ _ h
set_option maxRecDepth 100000 in
set_option maxHeartbeats 4000000 in
theorem gX1_likeliest_b7_o {R : Int32} (C : ab_C yC p s m args meth c D cA ad cX1_likeliest 4 RX1 (some .int)) (σ : ab_S) {kk7 : Int32 → Int32 → ab_S → Option Int32} (hk7 : ∀ (v2 : Int32) (v3 : Int32), kk7 v2 v3 σ = some R → ab_G yC p l e s m args below meth c D cA ad 4 2 (some (.inl R)) σ 7 [some (.inr (.inr (21, 0))), some (.inr (.inr (5, 0))), some (.inl v2), some (.inl v3)] [] σ) (v2 : Int32) (v3 : Int32) (h : fX1_likeliest_b7_o kk7 v2 v3 σ = some R) : ab_G yC p l e s m args below meth c D cA ad 4 2 (some (.inl R)) σ 7 [some (.inr (.inr (21, 0))), some (.inr (.inr (5, 0))), some (.inl v2), some (.inl v3)] [] σ := by
  refine ab_iload_n C dX1_likeliest_7 rfl ?_
  refine ab_aload_n C dX1_likeliest_8 rfl ?_
  refine ab_getR C dX1_likeliest_9 flX1_39 rkC_21 rfl mmC_21 ?_
  refine ab_getI C dX1_likeliest_12 flX1_47 rkC_1 rfl mmC_1 ?_
  refine ab_icmp_ge C (tgt := 48) dX1_likeliest_15 (by decide) (fun hc1 => ?_) (fun hc1 => ?_)
  · replace h := ab_pos hc1 h
    refine ab_iload_n C dX1_likeliest_48 rfl ?_
    obtain rfl := Option.some.inj h
    exact ab_iret C dX1_likeliest_49
  · replace h := ab_neg hc1 h
    refine ab_aload_n C dX1_likeliest_18 rfl ?_
    refine ab_iload_n C dX1_likeliest_19 rfl ?_
    obtain ⟨q2, hq2, h⟩ := ab_bind h
    refine ab_inv1 C dX1_likeliest_20 mlX1_114 yvX4_isOpen rkC_5 ⟨_, _, rfl⟩ mmC_5 (tX4_isOpen l _ _ hq2) (Nat.le_of_ble_eq_true rfl) (Nat.le_of_ble_eq_true rfl) rfl (Nat.le_of_ble_eq_true rfl) ?_
    refine ab_if_ne C (tgt := 42) dX1_likeliest_23 (by decide) (fun hc3 => ?_) (fun hc3 => ?_)
    · replace h := ab_neg hc3 h
      refine ab_weak (lv' := [some (.inr (.inr (21, 0))), some (.inr (.inr (5, 0))), some (.inl v2), some (.inl v3)]) ⟨.inr rfl, ⟨.inr rfl, ⟨.inr rfl, ⟨.inr rfl, trivial⟩⟩⟩⟩ ?_
      exact gX1_likeliest_b42 C _ hk7 _ _ h
    · replace h := ab_pos hc3 h
      refine ab_aload_n C dX1_likeliest_26 rfl ?_
      refine ab_iload_n C dX1_likeliest_27 rfl ?_
      obtain ⟨q4, hq4, h⟩ := ab_bind h
      refine ab_inv1 C dX1_likeliest_28 mlX1_117 yvX1_weighed rkC_21 ⟨_, _, rfl⟩ mmC_21 (tX1_weighed l _ _ hq4) (Nat.le_of_ble_eq_true rfl) (Nat.le_of_ble_eq_true rfl) rfl (Nat.le_of_ble_eq_true rfl) ?_
      refine ab_aload_n C dX1_likeliest_31 rfl ?_
      refine ab_iload_n C dX1_likeliest_32 rfl ?_
      obtain ⟨q5, hq5, h⟩ := ab_bind h
      refine ab_inv1 C dX1_likeliest_33 mlX1_117 yvX1_weighed rkC_21 ⟨_, _, rfl⟩ mmC_21 (tX1_weighed l _ _ hq5) (Nat.le_of_ble_eq_true rfl) (Nat.le_of_ble_eq_true rfl) rfl (Nat.le_of_ble_eq_true rfl) ?_
      refine ab_lcmp C dX1_likeliest_36  ?_
      refine ab_if_le C (tgt := 42) dX1_likeliest_37 (by decide) (fun hc6 => ?_) (fun hc6 => ?_)
      · replace h := ab_pos hc6 h
        refine ab_weak (lv' := [some (.inr (.inr (21, 0))), some (.inr (.inr (5, 0))), some (.inl v2), some (.inl v3)]) ⟨.inr rfl, ⟨.inr rfl, ⟨.inr rfl, ⟨.inr rfl, trivial⟩⟩⟩⟩ ?_
        exact gX1_likeliest_b42 C _ hk7 _ _ h
      · replace h := ab_neg hc6 h
        refine ab_iload_n C dX1_likeliest_40 rfl ?_
        refine ab_istore_n C dX1_likeliest_41 (Nat.le_of_ble_eq_true rfl) ?_
        refine ab_weak (lv' := [some (.inr (.inr (21, 0))), some (.inr (.inr (5, 0))), some (.inl v3), some (.inl v3)]) ⟨.inr rfl, ⟨.inr rfl, ⟨.inr rfl, ⟨.inr rfl, trivial⟩⟩⟩⟩ ?_
        exact gX1_likeliest_b42 C _ hk7 _ _ h
theorem gX1_likeliest_b7 {R : Int32} (C : ab_C yC p s m args meth c D cA ad cX1_likeliest 4 RX1 (some .int)) (σ : ab_S) : ∀ (j : Nat) (v2 : Int32) (v3 : Int32), fX1_likeliest_b7 j v2 v3 σ = some R → ab_G yC p l e s m args below meth c D cA ad 4 2 (some (.inl R)) σ 7 [some (.inr (.inr (21, 0))), some (.inr (.inr (5, 0))), some (.inl v2), some (.inl v3)] [] σ := by
  intro j
  induction j with
  | zero => intro v2 v3  h; cases h
  | succ j ih => intro v2 v3  h; exact gX1_likeliest_b7_o C σ ih _ _ h
set_option maxRecDepth 100000 in
set_option maxHeartbeats 4000000 in
theorem tX1_likeliest (l : Launch) (σ : ab_S) {R : Int32} (h : fX1_likeliest σ = some R) : ab_M l yC yX1_likeliest cX1_likeliest 4 (some .int) 2 [.inr (.inr (21, 0)), .inr (.inr (5, 0))] σ (some (.inl R)) σ := by
  refine ab_M_intro ndC (by decide) (Nat.le_of_ble_eq_true rfl) ?_
  intro p e s m args below meth c D cA ad C
  have C : ab_C yC p s m args meth c D cA ad cX1_likeliest 4 RX1 (some .int) := C
  refine ab_weak (lv' := [some (.inr (.inr (21, 0))), some (.inr (.inr (5, 0))), none, none]) ⟨.inr rfl, ⟨.inr rfl, ⟨.inl rfl, ⟨.inl rfl, trivial⟩⟩⟩⟩ ?_
  refine ab_aload_n C dX1_likeliest_0 rfl ?_
  refine ab_getI C dX1_likeliest_1 flX1_111 rkC_5 rfl mmC_5 ?_
  refine ab_istore_n C dX1_likeliest_4 (Nat.le_of_ble_eq_true rfl) ?_
  refine ab_iconst C dX1_likeliest_5 (v := 0) rfl ?_
  refine ab_istore_n C dX1_likeliest_6 (Nat.le_of_ble_eq_true rfl) ?_
  refine ab_weak (lv' := [some (.inr (.inr (21, 0))), some (.inr (.inr (5, 0))), some (.inl (σ.1 5 0 4)), some (.inl 0)]) ⟨.inr rfl, ⟨.inr rfl, ⟨.inr rfl, ⟨.inr rfl, trivial⟩⟩⟩⟩ ?_
  exact gX1_likeliest_b7 C _ ab_N _ _ h
end
def fX1_shareOf_b127 (kk24 : Int32 → Int32 → Int32 → Int32 → Int32 → Int32 → Int32 → Int64 → Int32 → Int32 → ab_S → Option (Int64 × ab_S)) (v1 : Int32) (v2 : Int32) (v3 : Int32) (v4 : Int32) (v5 : Int32) (v6 : Int32) (v7 : Int32) (v8 : Int64) (v10 : Int32) (v11 : Int32) (σ : ab_S) : Option (Int64 × ab_S) := kk24 v1 v2 v3 v4 v5 v6 v7 v8 v10 (v11 + 1) σ
def fX1_shareOf_b60 (kk24 : Int32 → Int32 → Int32 → Int32 → Int32 → Int32 → Int32 → Int64 → Int32 → Int32 → ab_S → Option (Int64 × ab_S)) (v1 : Int32) (v2 : Int32) (v3 : Int32) (v4 : Int32) (v5 : Int32) (v6 : Int32) (v7 : Int32) (v8 : Int64) (v10 : Int32) (v11 : Int32) (σ : ab_S) : Option (Int64 × ab_S) := fX1_shareOf_b127 kk24 v1 v2 v3 v4 v5 v6 v7 (v8 * 12) v10 v11 σ
def fX1_shareOf_b124 (kk24 : Int32 → Int32 → Int32 → Int32 → Int32 → Int32 → Int32 → Int64 → Int32 → Int32 → ab_S → Option (Int64 × ab_S)) (v1 : Int32) (v2 : Int32) (v3 : Int32) (v4 : Int32) (v5 : Int32) (v6 : Int32) (v7 : Int32) (v10 : Int32) (v11 : Int32) (t0 : Int64) (t1 : Int64) (σ : ab_S) : Option (Int64 × ab_S) := fX1_shareOf_b127 kk24 v1 v2 v3 v4 v5 v6 v7 (t0 * t1) v10 v11 σ
def fX1_shareOf_b103 (kk24 : Int32 → Int32 → Int32 → Int32 → Int32 → Int32 → Int32 → Int64 → Int32 → Int32 → ab_S → Option (Int64 × ab_S)) (v1 : Int32) (v2 : Int32) (v3 : Int32) (v4 : Int32) (v5 : Int32) (v6 : Int32) (v7 : Int32) (v8 : Int64) (v11 : Int32) (v12 : Int32) (t0 : Int32) (σ : ab_S) : Option (Int64 × ab_S) := (if t0 = 0 then fX1_shareOf_b124 kk24 v1 v2 v3 v4 v5 v6 v7 t0 v11 v8 ((v12 : Int32).toInt64) σ else fX1_shareOf_b124 kk24 v1 v2 v3 v4 v5 v6 v7 t0 v11 v8 ((12 - v12 : Int32).toInt64) σ)
def fX1_shareOf_b24_o (kk24 : Int32 → Int32 → Int32 → Int32 → Int32 → Int32 → Int32 → Int64 → Int32 → Int32 → ab_S → Option (Int64 × ab_S)) (v1 : Int32) (v2 : Int32) (v3 : Int32) (v4 : Int32) (v5 : Int32) (v6 : Int32) (v7 : Int32) (v8 : Int64) (v10 : Int32) (v11 : Int32) (σ : ab_S) : Option (Int64 × ab_S) := (if (σ.1 1 0 3) ≤ v11 then some (v8, σ) else (if v11 = v4 then fX1_shareOf_b127 kk24 v1 v2 v3 v4 v5 v6 v7 v8 v10 v11 σ else (if v10 = 0 then fX1_shareOf_b60 kk24 v1 v2 v3 v4 v5 v6 v7 v8 v10 v11 σ else (fX9_isIn v3 v11).bind fun q4 => (if q4 = 0 then (if ab_inb v1 4 = true then (fX5_twelfths v1.toNatClampNeg v2 v7 v4 v11 v6 σ).bind fun q7 => (if v11 = v5 then fX1_shareOf_b103 kk24 v1 v2 v3 v4 v5 v6 v7 v8 v11 q7.1 0 q7.2 else fX1_shareOf_b103 kk24 v1 v2 v3 v4 v5 v6 v7 v8 v11 q7.1 1 q7.2) else none) else fX1_shareOf_b60 kk24 v1 v2 v3 v4 v5 v6 v7 v8 v10 v11 σ))))
def fX1_shareOf_b24 : Nat → Int32 → Int32 → Int32 → Int32 → Int32 → Int32 → Int32 → Int64 → Int32 → Int32 → ab_S → Option (Int64 × ab_S)
  | 0 => fun _ _ _ _ _ _ _ _ _ _ _ => none
  | n + 1 => fX1_shareOf_b24_o  (fX1_shareOf_b24 n)
def fX1_shareOf (x1 : Int32) (x2 : Int32) (x3 : Int32) (x4 : Int32) (x5 : Int32) (x6 : Int32) (σ : ab_S) : Option (Int64 × ab_S) := (fX1_isHost x1).bind fun q1 => (if q1 = 0 then some (0, σ) else (fJ6_bitCount_0f7a4 x3).bind fun q3 => fX1_shareOf_b24 ab_N x1 x2 x3 x4 x5 x6 q3 1 1 0 σ)
section
variable {p : Program} {l : Launch} {e : Env} {s : State} {m : MethodId} {args : Array Value} {below : List Frame} {meth : Method} {c : Code} {D : va_G} {cA : Nat → ClassId} {ad : Nat → Nat → Nat}
set_option maxRecDepth 100000 in
set_option maxHeartbeats 4000000 in
theorem gX1_shareOf_b127 {R : (Int64 × ab_S)} (C : ab_C yC p s m args meth c D cA ad cX1_shareOf 13 RX1 (some .long)) {kk24 : Int32 → Int32 → Int32 → Int32 → Int32 → Int32 → Int32 → Int64 → Int32 → Int32 → ab_S → Option (Int64 × ab_S)} (hk24 : ∀ (v1 : Int32) (v2 : Int32) (v3 : Int32) (v4 : Int32) (v5 : Int32) (v6 : Int32) (v7 : Int32) (v8 : Int64) (v10 : Int32) (v11 : Int32) (σ : ab_S), kk24 v1 v2 v3 v4 v5 v6 v7 v8 v10 v11 σ = some R → ab_G yC p l e s m args below meth c D cA ad 13 3 (some (.inr (.inl R.1))) R.2 24 [some (.inr (.inr (21, 0))), some (.inl v1), some (.inl v2), some (.inl v3), some (.inl v4), some (.inl v5), some (.inl v6), some (.inl v7), some (.inr (.inl v8)), none, some (.inl v10), some (.inl v11), none] [] σ) (v1 : Int32) (v2 : Int32) (v3 : Int32) (v4 : Int32) (v5 : Int32) (v6 : Int32) (v7 : Int32) (v8 : Int64) (v10 : Int32) (v11 : Int32) (σ : ab_S) (h : fX1_shareOf_b127 kk24 v1 v2 v3 v4 v5 v6 v7 v8 v10 v11 σ = some R) : ab_G yC p l e s m args below meth c D cA ad 13 3 (some (.inr (.inl R.1))) R.2 127 [some (.inr (.inr (21, 0))), some (.inl v1), some (.inl v2), some (.inl v3), some (.inl v4), some (.inl v5), some (.inl v6), some (.inl v7), some (.inr (.inl v8)), none, some (.inl v10), some (.inl v11), none] [] σ := by
  refine ab_iinc C dX1_shareOf_127 rfl (v := 1) rfl (Nat.le_of_ble_eq_true rfl) ?_
  refine ab_goto C (tgt := 24) dX1_shareOf_130 (by decide) ?_
  refine ab_weak (lv' := [some (.inr (.inr (21, 0))), some (.inl v1), some (.inl v2), some (.inl v3), some (.inl v4), some (.inl v5), some (.inl v6), some (.inl v7), some (.inr (.inl v8)), none, some (.inl v10), some (.inl (v11 + 1)), none]) ⟨.inr rfl, ⟨.inr rfl, ⟨.inr rfl, ⟨.inr rfl, ⟨.inr rfl, ⟨.inr rfl, ⟨.inr rfl, ⟨.inr rfl, ⟨.inr rfl, ⟨.inl rfl, ⟨.inr rfl, ⟨.inr rfl, ⟨.inl rfl, trivial⟩⟩⟩⟩⟩⟩⟩⟩⟩⟩⟩⟩⟩ ?_
  exact hk24 _ _ _ _ _ _ _ _ _ _ _ h
set_option maxRecDepth 100000 in
set_option maxHeartbeats 4000000 in
theorem gX1_shareOf_b60 {R : (Int64 × ab_S)} (C : ab_C yC p s m args meth c D cA ad cX1_shareOf 13 RX1 (some .long)) {kk24 : Int32 → Int32 → Int32 → Int32 → Int32 → Int32 → Int32 → Int64 → Int32 → Int32 → ab_S → Option (Int64 × ab_S)} (hk24 : ∀ (v1 : Int32) (v2 : Int32) (v3 : Int32) (v4 : Int32) (v5 : Int32) (v6 : Int32) (v7 : Int32) (v8 : Int64) (v10 : Int32) (v11 : Int32) (σ : ab_S), kk24 v1 v2 v3 v4 v5 v6 v7 v8 v10 v11 σ = some R → ab_G yC p l e s m args below meth c D cA ad 13 3 (some (.inr (.inl R.1))) R.2 24 [some (.inr (.inr (21, 0))), some (.inl v1), some (.inl v2), some (.inl v3), some (.inl v4), some (.inl v5), some (.inl v6), some (.inl v7), some (.inr (.inl v8)), none, some (.inl v10), some (.inl v11), none] [] σ) (v1 : Int32) (v2 : Int32) (v3 : Int32) (v4 : Int32) (v5 : Int32) (v6 : Int32) (v7 : Int32) (v8 : Int64) (v10 : Int32) (v11 : Int32) (σ : ab_S) (h : fX1_shareOf_b60 kk24 v1 v2 v3 v4 v5 v6 v7 v8 v10 v11 σ = some R) : ab_G yC p l e s m args below meth c D cA ad 13 3 (some (.inr (.inl R.1))) R.2 60 [some (.inr (.inr (21, 0))), some (.inl v1), some (.inl v2), some (.inl v3), some (.inl v4), some (.inl v5), some (.inl v6), some (.inl v7), some (.inr (.inl v8)), none, some (.inl v10), some (.inl v11), none] [] σ := by
  refine ab_lload C dX1_shareOf_60 rfl ?_
  refine ab_ldc2 C dX1_shareOf_62 cwX1_85 ?_
  refine ab_lmul C dX1_shareOf_65  ?_
  refine ab_lstore C dX1_shareOf_66 (Nat.le_of_ble_eq_true rfl) ?_
  refine ab_goto C (tgt := 127) dX1_shareOf_68 (by decide) ?_
  refine ab_weak (lv' := [some (.inr (.inr (21, 0))), some (.inl v1), some (.inl v2), some (.inl v3), some (.inl v4), some (.inl v5), some (.inl v6), some (.inl v7), some (.inr (.inl (v8 * 12))), none, some (.inl v10), some (.inl v11), none]) ⟨.inr rfl, ⟨.inr rfl, ⟨.inr rfl, ⟨.inr rfl, ⟨.inr rfl, ⟨.inr rfl, ⟨.inr rfl, ⟨.inr rfl, ⟨.inr rfl, ⟨.inl rfl, ⟨.inr rfl, ⟨.inr rfl, ⟨.inl rfl, trivial⟩⟩⟩⟩⟩⟩⟩⟩⟩⟩⟩⟩⟩ ?_
  exact gX1_shareOf_b127 C hk24 _ _ _ _ _ _ _ _ _ _ _ h
set_option maxRecDepth 100000 in
set_option maxHeartbeats 4000000 in
theorem gX1_shareOf_b124 {R : (Int64 × ab_S)} (C : ab_C yC p s m args meth c D cA ad cX1_shareOf 13 RX1 (some .long)) {kk24 : Int32 → Int32 → Int32 → Int32 → Int32 → Int32 → Int32 → Int64 → Int32 → Int32 → ab_S → Option (Int64 × ab_S)} (hk24 : ∀ (v1 : Int32) (v2 : Int32) (v3 : Int32) (v4 : Int32) (v5 : Int32) (v6 : Int32) (v7 : Int32) (v8 : Int64) (v10 : Int32) (v11 : Int32) (σ : ab_S), kk24 v1 v2 v3 v4 v5 v6 v7 v8 v10 v11 σ = some R → ab_G yC p l e s m args below meth c D cA ad 13 3 (some (.inr (.inl R.1))) R.2 24 [some (.inr (.inr (21, 0))), some (.inl v1), some (.inl v2), some (.inl v3), some (.inl v4), some (.inl v5), some (.inl v6), some (.inl v7), some (.inr (.inl v8)), none, some (.inl v10), some (.inl v11), none] [] σ) (v1 : Int32) (v2 : Int32) (v3 : Int32) (v4 : Int32) (v5 : Int32) (v6 : Int32) (v7 : Int32) (v10 : Int32) (v11 : Int32) (t0 : Int64) (t1 : Int64) (σ : ab_S) (h : fX1_shareOf_b124 kk24 v1 v2 v3 v4 v5 v6 v7 v10 v11 t0 t1 σ = some R) : ab_G yC p l e s m args below meth c D cA ad 13 3 (some (.inr (.inl R.1))) R.2 124 [some (.inr (.inr (21, 0))), some (.inl v1), some (.inl v2), some (.inl v3), some (.inl v4), some (.inl v5), some (.inl v6), some (.inl v7), none, none, some (.inl v10), some (.inl v11), none] [.inr (.inl t1), .inr (.inl t0)] σ := by
  refine ab_lmul C dX1_shareOf_124  ?_
  refine ab_lstore C dX1_shareOf_125 (Nat.le_of_ble_eq_true rfl) ?_
  refine ab_weak (lv' := [some (.inr (.inr (21, 0))), some (.inl v1), some (.inl v2), some (.inl v3), some (.inl v4), some (.inl v5), some (.inl v6), some (.inl v7), some (.inr (.inl (t0 * t1))), none, some (.inl v10), some (.inl v11), none]) ⟨.inr rfl, ⟨.inr rfl, ⟨.inr rfl, ⟨.inr rfl, ⟨.inr rfl, ⟨.inr rfl, ⟨.inr rfl, ⟨.inr rfl, ⟨.inr rfl, ⟨.inl rfl, ⟨.inr rfl, ⟨.inr rfl, ⟨.inl rfl, trivial⟩⟩⟩⟩⟩⟩⟩⟩⟩⟩⟩⟩⟩ ?_
  exact gX1_shareOf_b127 C hk24 _ _ _ _ _ _ _ _ _ _ _ h
set_option maxRecDepth 100000 in
set_option maxHeartbeats 4000000 in
theorem gX1_shareOf_b103 {R : (Int64 × ab_S)} (C : ab_C yC p s m args meth c D cA ad cX1_shareOf 13 RX1 (some .long)) {kk24 : Int32 → Int32 → Int32 → Int32 → Int32 → Int32 → Int32 → Int64 → Int32 → Int32 → ab_S → Option (Int64 × ab_S)} (hk24 : ∀ (v1 : Int32) (v2 : Int32) (v3 : Int32) (v4 : Int32) (v5 : Int32) (v6 : Int32) (v7 : Int32) (v8 : Int64) (v10 : Int32) (v11 : Int32) (σ : ab_S), kk24 v1 v2 v3 v4 v5 v6 v7 v8 v10 v11 σ = some R → ab_G yC p l e s m args below meth c D cA ad 13 3 (some (.inr (.inl R.1))) R.2 24 [some (.inr (.inr (21, 0))), some (.inl v1), some (.inl v2), some (.inl v3), some (.inl v4), some (.inl v5), some (.inl v6), some (.inl v7), some (.inr (.inl v8)), none, some (.inl v10), some (.inl v11), none] [] σ) (v1 : Int32) (v2 : Int32) (v3 : Int32) (v4 : Int32) (v5 : Int32) (v6 : Int32) (v7 : Int32) (v8 : Int64) (v11 : Int32) (v12 : Int32) (t0 : Int32) (σ : ab_S) (h : fX1_shareOf_b103 kk24 v1 v2 v3 v4 v5 v6 v7 v8 v11 v12 t0 σ = some R) : ab_G yC p l e s m args below meth c D cA ad 13 3 (some (.inr (.inl R.1))) R.2 103 [some (.inr (.inr (21, 0))), some (.inl v1), some (.inl v2), some (.inl v3), some (.inl v4), some (.inl v5), some (.inl v6), some (.inl v7), some (.inr (.inl v8)), none, none, some (.inl v11), some (.inl v12)] [.inl t0] σ := by
  refine ab_istore C dX1_shareOf_103 (Nat.le_of_ble_eq_true rfl) ?_
  refine ab_lload C dX1_shareOf_105 rfl ?_
  refine ab_iload C dX1_shareOf_107 rfl ?_
  refine ab_if_eq C (tgt := 121) dX1_shareOf_109 (by decide) (fun hc1 => ?_) (fun hc1 => ?_)
  · replace h := ab_pos hc1 h
    refine ab_iload C dX1_shareOf_121 rfl ?_
    refine ab_i2l C dX1_shareOf_123  ?_
    refine ab_weak (lv' := [some (.inr (.inr (21, 0))), some (.inl v1), some (.inl v2), some (.inl v3), some (.inl v4), some (.inl v5), some (.inl v6), some (.inl v7), none, none, some (.inl t0), some (.inl v11), none]) ⟨.inr rfl, ⟨.inr rfl, ⟨.inr rfl, ⟨.inr rfl, ⟨.inr rfl, ⟨.inr rfl, ⟨.inr rfl, ⟨.inr rfl, ⟨.inl rfl, ⟨.inl rfl, ⟨.inr rfl, ⟨.inr rfl, ⟨.inl rfl, trivial⟩⟩⟩⟩⟩⟩⟩⟩⟩⟩⟩⟩⟩ ?_
    exact gX1_shareOf_b124 C hk24 _ _ _ _ _ _ _ _ _ _ _ _ h
  · replace h := ab_neg hc1 h
    refine ab_bipush C dX1_shareOf_112 (v := 12) rfl ?_
    refine ab_iload C dX1_shareOf_114 rfl ?_
    refine ab_isub C dX1_shareOf_116  ?_
    refine ab_i2l C dX1_shareOf_117  ?_
    refine ab_goto C (tgt := 124) dX1_shareOf_118 (by decide) ?_
    refine ab_weak (lv' := [some (.inr (.inr (21, 0))), some (.inl v1), some (.inl v2), some (.inl v3), some (.inl v4), some (.inl v5), some (.inl v6), some (.inl v7), none, none, some (.inl t0), some (.inl v11), none]) ⟨.inr rfl, ⟨.inr rfl, ⟨.inr rfl, ⟨.inr rfl, ⟨.inr rfl, ⟨.inr rfl, ⟨.inr rfl, ⟨.inr rfl, ⟨.inl rfl, ⟨.inl rfl, ⟨.inr rfl, ⟨.inr rfl, ⟨.inl rfl, trivial⟩⟩⟩⟩⟩⟩⟩⟩⟩⟩⟩⟩⟩ ?_
    exact gX1_shareOf_b124 C hk24 _ _ _ _ _ _ _ _ _ _ _ _ h
set_option maxRecDepth 100000 in
set_option maxHeartbeats 4000000 in
theorem gX1_shareOf_b24_o {R : (Int64 × ab_S)} (C : ab_C yC p s m args meth c D cA ad cX1_shareOf 13 RX1 (some .long)) {kk24 : Int32 → Int32 → Int32 → Int32 → Int32 → Int32 → Int32 → Int64 → Int32 → Int32 → ab_S → Option (Int64 × ab_S)} (hk24 : ∀ (v1 : Int32) (v2 : Int32) (v3 : Int32) (v4 : Int32) (v5 : Int32) (v6 : Int32) (v7 : Int32) (v8 : Int64) (v10 : Int32) (v11 : Int32) (σ : ab_S), kk24 v1 v2 v3 v4 v5 v6 v7 v8 v10 v11 σ = some R → ab_G yC p l e s m args below meth c D cA ad 13 3 (some (.inr (.inl R.1))) R.2 24 [some (.inr (.inr (21, 0))), some (.inl v1), some (.inl v2), some (.inl v3), some (.inl v4), some (.inl v5), some (.inl v6), some (.inl v7), some (.inr (.inl v8)), none, some (.inl v10), some (.inl v11), none] [] σ) (v1 : Int32) (v2 : Int32) (v3 : Int32) (v4 : Int32) (v5 : Int32) (v6 : Int32) (v7 : Int32) (v8 : Int64) (v10 : Int32) (v11 : Int32) (σ : ab_S) (h : fX1_shareOf_b24_o kk24 v1 v2 v3 v4 v5 v6 v7 v8 v10 v11 σ = some R) : ab_G yC p l e s m args below meth c D cA ad 13 3 (some (.inr (.inl R.1))) R.2 24 [some (.inr (.inr (21, 0))), some (.inl v1), some (.inl v2), some (.inl v3), some (.inl v4), some (.inl v5), some (.inl v6), some (.inl v7), some (.inr (.inl v8)), none, some (.inl v10), some (.inl v11), none] [] σ := by
  refine ab_iload C dX1_shareOf_24 rfl ?_
  refine ab_aload_n C dX1_shareOf_26 rfl ?_
  refine ab_getR C dX1_shareOf_27 flX1_39 rkC_21 rfl mmC_21 ?_
  refine ab_getI C dX1_shareOf_30 flX1_47 rkC_1 rfl mmC_1 ?_
  refine ab_icmp_ge C (tgt := 133) dX1_shareOf_33 (by decide) (fun hc1 => ?_) (fun hc1 => ?_)
  · replace h := ab_pos hc1 h
    refine ab_lload C dX1_shareOf_133 rfl ?_
    obtain rfl := Option.some.inj h
    exact ab_lret C dX1_shareOf_135
  · replace h := ab_neg hc1 h
    refine ab_iload C dX1_shareOf_36 rfl ?_
    refine ab_iload C dX1_shareOf_38 rfl ?_
    refine ab_icmp_ne C (tgt := 46) dX1_shareOf_40 (by decide) (fun hc2 => ?_) (fun hc2 => ?_)
    · replace h := ab_neg hc2 h
      refine ab_iload C dX1_shareOf_46 rfl ?_
      refine ab_if_eq C (tgt := 60) dX1_shareOf_48 (by decide) (fun hc3 => ?_) (fun hc3 => ?_)
      · replace h := ab_pos hc3 h
        refine ab_weak (lv' := [some (.inr (.inr (21, 0))), some (.inl v1), some (.inl v2), some (.inl v3), some (.inl v4), some (.inl v5), some (.inl v6), some (.inl v7), some (.inr (.inl v8)), none, some (.inl v10), some (.inl v11), none]) ⟨.inr rfl, ⟨.inr rfl, ⟨.inr rfl, ⟨.inr rfl, ⟨.inr rfl, ⟨.inr rfl, ⟨.inr rfl, ⟨.inr rfl, ⟨.inr rfl, ⟨.inl rfl, ⟨.inr rfl, ⟨.inr rfl, ⟨.inl rfl, trivial⟩⟩⟩⟩⟩⟩⟩⟩⟩⟩⟩⟩⟩ ?_
        exact gX1_shareOf_b60 C hk24 _ _ _ _ _ _ _ _ _ _ _ h
      · replace h := ab_neg hc3 h
        refine ab_iload_n C dX1_shareOf_51 rfl ?_
        refine ab_iload C dX1_shareOf_52 rfl ?_
        obtain ⟨q4, hq4, h⟩ := ab_bind h
        refine ab_invSN1 C dX1_shareOf_54 nlX1_81 ysX9_isIn (tX9_isIn l _ _ _ hq4) (Nat.le_of_ble_eq_true rfl) (Nat.le_of_ble_eq_true rfl) rfl (Nat.le_of_ble_eq_true rfl) ?_
        refine ab_if_eq C (tgt := 71) dX1_shareOf_57 (by decide) (fun hc5 => ?_) (fun hc5 => ?_)
        · replace h := ab_pos hc5 h
          refine ab_aload_n C dX1_shareOf_71 rfl ?_
          refine ab_getR C dX1_shareOf_72 flX1_11 rkC_21 rfl mmC_21 ?_
          refine ab_iload_n C dX1_shareOf_75 rfl ?_
          obtain ⟨hg6, h⟩ := ab_grd h
          refine ab_aald3 C dX1_shareOf_76 rkC_22 mmC_22 hg6 ?_
          refine ab_iload_n C dX1_shareOf_77 rfl ?_
          refine ab_iload C dX1_shareOf_78 rfl ?_
          refine ab_iload C dX1_shareOf_80 rfl ?_
          refine ab_iload C dX1_shareOf_82 rfl ?_
          refine ab_iload C dX1_shareOf_84 rfl ?_
          obtain ⟨q7, hq7, h⟩ := ab_bind h
          refine ab_inv1 C dX1_shareOf_86 mlX1_71 yvX5_twelfths rkC_23 ⟨_, _, rfl⟩ (mmC_23 (ab_inb_lt hg6)) (tX5_twelfths l _ _ _ _ _ _ _ (ab_inb_lt hg6) hq7) (Nat.le_of_ble_eq_true rfl) (Nat.le_of_ble_eq_true rfl) rfl (Nat.le_of_ble_eq_true rfl) ?_
          refine ab_istore C dX1_shareOf_89 (Nat.le_of_ble_eq_true rfl) ?_
          refine ab_iload C dX1_shareOf_91 rfl ?_
          refine ab_iload C dX1_shareOf_93 rfl ?_
          refine ab_icmp_eq C (tgt := 102) dX1_shareOf_95 (by decide) (fun hc8 => ?_) (fun hc8 => ?_)
          · replace h := ab_pos hc8 h
            refine ab_iconst C dX1_shareOf_102 (v := 0) rfl ?_
            refine ab_weak (lv' := [some (.inr (.inr (21, 0))), some (.inl v1), some (.inl v2), some (.inl v3), some (.inl v4), some (.inl v5), some (.inl v6), some (.inl v7), some (.inr (.inl v8)), none, none, some (.inl v11), some (.inl q7.1)]) ⟨.inr rfl, ⟨.inr rfl, ⟨.inr rfl, ⟨.inr rfl, ⟨.inr rfl, ⟨.inr rfl, ⟨.inr rfl, ⟨.inr rfl, ⟨.inr rfl, ⟨.inl rfl, ⟨.inl rfl, ⟨.inr rfl, ⟨.inr rfl, trivial⟩⟩⟩⟩⟩⟩⟩⟩⟩⟩⟩⟩⟩ ?_
            exact gX1_shareOf_b103 C hk24 _ _ _ _ _ _ _ _ _ _ _ _ h
          · replace h := ab_neg hc8 h
            refine ab_iconst C dX1_shareOf_98 (v := 1) rfl ?_
            refine ab_goto C (tgt := 103) dX1_shareOf_99 (by decide) ?_
            refine ab_weak (lv' := [some (.inr (.inr (21, 0))), some (.inl v1), some (.inl v2), some (.inl v3), some (.inl v4), some (.inl v5), some (.inl v6), some (.inl v7), some (.inr (.inl v8)), none, none, some (.inl v11), some (.inl q7.1)]) ⟨.inr rfl, ⟨.inr rfl, ⟨.inr rfl, ⟨.inr rfl, ⟨.inr rfl, ⟨.inr rfl, ⟨.inr rfl, ⟨.inr rfl, ⟨.inr rfl, ⟨.inl rfl, ⟨.inl rfl, ⟨.inr rfl, ⟨.inr rfl, trivial⟩⟩⟩⟩⟩⟩⟩⟩⟩⟩⟩⟩⟩ ?_
            exact gX1_shareOf_b103 C hk24 _ _ _ _ _ _ _ _ _ _ _ _ h
        · replace h := ab_neg hc5 h
          refine ab_weak (lv' := [some (.inr (.inr (21, 0))), some (.inl v1), some (.inl v2), some (.inl v3), some (.inl v4), some (.inl v5), some (.inl v6), some (.inl v7), some (.inr (.inl v8)), none, some (.inl v10), some (.inl v11), none]) ⟨.inr rfl, ⟨.inr rfl, ⟨.inr rfl, ⟨.inr rfl, ⟨.inr rfl, ⟨.inr rfl, ⟨.inr rfl, ⟨.inr rfl, ⟨.inr rfl, ⟨.inl rfl, ⟨.inr rfl, ⟨.inr rfl, ⟨.inl rfl, trivial⟩⟩⟩⟩⟩⟩⟩⟩⟩⟩⟩⟩⟩ ?_
          exact gX1_shareOf_b60 C hk24 _ _ _ _ _ _ _ _ _ _ _ h
    · replace h := ab_pos hc2 h
      refine ab_goto C (tgt := 127) dX1_shareOf_43 (by decide) ?_
      refine ab_weak (lv' := [some (.inr (.inr (21, 0))), some (.inl v1), some (.inl v2), some (.inl v3), some (.inl v4), some (.inl v5), some (.inl v6), some (.inl v7), some (.inr (.inl v8)), none, some (.inl v10), some (.inl v11), none]) ⟨.inr rfl, ⟨.inr rfl, ⟨.inr rfl, ⟨.inr rfl, ⟨.inr rfl, ⟨.inr rfl, ⟨.inr rfl, ⟨.inr rfl, ⟨.inr rfl, ⟨.inl rfl, ⟨.inr rfl, ⟨.inr rfl, ⟨.inl rfl, trivial⟩⟩⟩⟩⟩⟩⟩⟩⟩⟩⟩⟩⟩ ?_
      exact gX1_shareOf_b127 C hk24 _ _ _ _ _ _ _ _ _ _ _ h
theorem gX1_shareOf_b24 {R : (Int64 × ab_S)} (C : ab_C yC p s m args meth c D cA ad cX1_shareOf 13 RX1 (some .long)) : ∀ (j : Nat) (v1 : Int32) (v2 : Int32) (v3 : Int32) (v4 : Int32) (v5 : Int32) (v6 : Int32) (v7 : Int32) (v8 : Int64) (v10 : Int32) (v11 : Int32) (σ : ab_S), fX1_shareOf_b24 j v1 v2 v3 v4 v5 v6 v7 v8 v10 v11 σ = some R → ab_G yC p l e s m args below meth c D cA ad 13 3 (some (.inr (.inl R.1))) R.2 24 [some (.inr (.inr (21, 0))), some (.inl v1), some (.inl v2), some (.inl v3), some (.inl v4), some (.inl v5), some (.inl v6), some (.inl v7), some (.inr (.inl v8)), none, some (.inl v10), some (.inl v11), none] [] σ := by
  intro j
  induction j with
  | zero => intro v1 v2 v3 v4 v5 v6 v7 v8 v10 v11 σ  h; cases h
  | succ j ih => intro v1 v2 v3 v4 v5 v6 v7 v8 v10 v11 σ  h; exact gX1_shareOf_b24_o C ih _ _ _ _ _ _ _ _ _ _ _ h
set_option maxRecDepth 100000 in
set_option maxHeartbeats 4000000 in
theorem tX1_shareOf (l : Launch) (x1 : Int32) (x2 : Int32) (x3 : Int32) (x4 : Int32) (x5 : Int32) (x6 : Int32) (σ : ab_S) {R : (Int64 × ab_S)} (h : fX1_shareOf x1 x2 x3 x4 x5 x6 σ = some R) : ab_M l yC yX1_shareOf cX1_shareOf 13 (some .long) 3 [.inr (.inr (21, 0)), .inl x1, .inl x2, .inl x3, .inl x4, .inl x5, .inl x6] σ (some (.inr (.inl R.1))) R.2 := by
  refine ab_M_intro ndC (by decide) (Nat.le_of_ble_eq_true rfl) ?_
  intro p e s m args below meth c D cA ad C
  have C : ab_C yC p s m args meth c D cA ad cX1_shareOf 13 RX1 (some .long) := C
  refine ab_weak (lv' := [some (.inr (.inr (21, 0))), some (.inl x1), some (.inl x2), some (.inl x3), some (.inl x4), some (.inl x5), some (.inl x6), none, none, none, none, none, none]) ⟨.inr rfl, ⟨.inr rfl, ⟨.inr rfl, ⟨.inr rfl, ⟨.inr rfl, ⟨.inr rfl, ⟨.inr rfl, ⟨.inl rfl, ⟨.inl rfl, ⟨.inl rfl, ⟨.inl rfl, ⟨.inl rfl, ⟨.inl rfl, trivial⟩⟩⟩⟩⟩⟩⟩⟩⟩⟩⟩⟩⟩ ?_
  refine ab_iload_n C dX1_shareOf_0 rfl ?_
  obtain ⟨q1, hq1, h⟩ := ab_bind h
  refine ab_invS1 C dX1_shareOf_1 mlX1_57 ysX1_isHost (tX1_isHost l _ _ hq1) (Nat.le_of_ble_eq_true rfl) (Nat.le_of_ble_eq_true rfl) rfl (Nat.le_of_ble_eq_true rfl) ?_
  refine ab_if_ne C (tgt := 9) dX1_shareOf_4 (by decide) (fun hc2 => ?_) (fun hc2 => ?_)
  · replace h := ab_neg hc2 h
    refine ab_iload_n C dX1_shareOf_9 rfl ?_
    obtain ⟨q3, hq3, h⟩ := ab_bind h
    refine ab_invS1 C dX1_shareOf_10 mlX1_75 ysJ6_bitCount_0f7a4 (tJ6_bitCount_0f7a4 l _ _ hq3) (Nat.le_of_ble_eq_true rfl) (Nat.le_of_ble_eq_true rfl) rfl (Nat.le_of_ble_eq_true rfl) ?_
    refine ab_istore C dX1_shareOf_13 (Nat.le_of_ble_eq_true rfl) ?_
    refine ab_lconst C dX1_shareOf_15 (v := 1) rfl ?_
    refine ab_lstore C dX1_shareOf_16 (Nat.le_of_ble_eq_true rfl) ?_
    refine ab_iconst C dX1_shareOf_18 (v := 1) rfl ?_
    refine ab_istore C dX1_shareOf_19 (Nat.le_of_ble_eq_true rfl) ?_
    refine ab_weak (lv' := [some (.inr (.inr (21, 0))), some (.inl x1), some (.inl x2), some (.inl x3), some (.inl x4), some (.inl x5), some (.inl x6), some (.inl q3), some (.inr (.inl 1)), none, some (.inl 1), none, none]) ⟨.inr rfl, ⟨.inr rfl, ⟨.inr rfl, ⟨.inr rfl, ⟨.inr rfl, ⟨.inr rfl, ⟨.inr rfl, ⟨.inr rfl, ⟨.inr rfl, ⟨.inl rfl, ⟨.inr rfl, ⟨.inl rfl, ⟨.inl rfl, trivial⟩⟩⟩⟩⟩⟩⟩⟩⟩⟩⟩⟩⟩ ?_
    refine ab_iconst C dX1_shareOf_21 (v := 0) rfl ?_
    refine ab_istore C dX1_shareOf_22 (Nat.le_of_ble_eq_true rfl) ?_
    refine ab_weak (lv' := [some (.inr (.inr (21, 0))), some (.inl x1), some (.inl x2), some (.inl x3), some (.inl x4), some (.inl x5), some (.inl x6), some (.inl q3), some (.inr (.inl 1)), none, some (.inl 1), some (.inl 0), none]) ⟨.inr rfl, ⟨.inr rfl, ⟨.inr rfl, ⟨.inr rfl, ⟨.inr rfl, ⟨.inr rfl, ⟨.inr rfl, ⟨.inr rfl, ⟨.inr rfl, ⟨.inl rfl, ⟨.inr rfl, ⟨.inr rfl, ⟨.inl rfl, trivial⟩⟩⟩⟩⟩⟩⟩⟩⟩⟩⟩⟩⟩ ?_
    exact gX1_shareOf_b24 C ab_N _ _ _ _ _ _ _ _ _ _ _ h
  · replace h := ab_pos hc2 h
    refine ab_lconst C dX1_shareOf_7 (v := 0) rfl ?_
    obtain rfl := Option.some.inj h
    exact ab_lret C dX1_shareOf_8
end
def fX5_become (k0 : Nat) (σ : ab_S) : Option ab_S := (if ab_cpb 0 0 121 121 121 = true then ab_k (ab_ci σ 20 0 ((0 : Int32).toNatClampNeg) 24 k0 ((0 : Int32).toNatClampNeg) ((121 : Int32).toNatClampNeg)) fun σ2 => ab_k (ab_si σ2 23 k0 3 (σ2.1 18 0 3)) fun σ3 => ab_k (ab_si σ3 23 k0 5 1) fun σ4 => (fX5_forget k0 σ4).bind fun q5 => some q5 else none)
section
variable {p : Program} {l : Launch} {e : Env} {s : State} {m : MethodId} {args : Array Value} {below : List Frame} {meth : Method} {c : Code} {D : va_G} {cA : Nat → ClassId} {ad : Nat → Nat → Nat}
set_option maxRecDepth 100000 in
set_option maxHeartbeats 4000000 in
theorem tX5_become (l : Launch) (k0 : Nat) (σ : ab_S) (hk0 : k0 < 4) {R : ab_S} (h : fX5_become k0 σ = some R) : ab_M l yC yX5_become cX5_become 2 none 2 [.inr (.inr (23, k0)), .inr (.inr (18, 0))] σ none R := by
  refine ab_M_intro ndC (by decide) (Nat.le_of_ble_eq_true rfl) ?_
  intro p e s m args below meth c D cA ad C
  have C : ab_C yC p s m args meth c D cA ad cX5_become 2 RX5 none := C
  refine ab_weak (lv' := [some (.inr (.inr (23, k0))), some (.inr (.inr (18, 0)))]) ⟨.inr rfl, ⟨.inr rfl, trivial⟩⟩ ?_
  refine ab_aload_n C dX5_become_0 rfl ?_
  refine ab_getR C dX5_become_1 flX5_22 rkC_18 rfl mmC_18 ?_
  refine ab_iconst C dX5_become_4 (v := 0) rfl ?_
  refine ab_aload_n C dX5_become_5 rfl ?_
  refine ab_getR C dX5_become_6 flX5_11 rkC_23 rfl (mmC_23 (hk0)) ?_
  refine ab_iconst C dX5_become_9 (v := 0) rfl ?_
  refine ab_bipush C dX5_become_10 (v := 121) rfl ?_
  obtain ⟨hg1, h⟩ := ab_grd h
  refine ab_copyi C dX5_become_12 mlX5_25 rkC_20 mmC_20 rkC_24 (mmC_24 (hk0)) hg1 (Nat.le_of_ble_eq_true rfl) (Nat.le_of_ble_eq_true rfl) ?_
  refine ab_nmS (fun σ2 eσ2 => ?_)
  replace h := ab_kh eσ2 h
  refine ab_aload_n C dX5_become_15 rfl ?_
  refine ab_aload_n C dX5_become_16 rfl ?_
  refine ab_getI C dX5_become_17 flX5_31 rkC_18 rfl mmC_18 ?_
  refine ab_putI C dX5_become_20 fpX5_35 rkC_23 rfl (mmC_23 (hk0)) rfl rfl ?_
  refine ab_nmS (fun σ3 eσ3 => ?_)
  replace h := ab_kh eσ3 h
  refine ab_aload_n C dX5_become_23 rfl ?_
  refine ab_iconst C dX5_become_24 (v := 1) rfl ?_
  refine ab_putI C dX5_become_25 fpX5_38 rkC_23 rfl (mmC_23 (hk0)) rfl rfl ?_
  refine ab_nmS (fun σ4 eσ4 => ?_)
  replace h := ab_kh eσ4 h
  refine ab_aload_n C dX5_become_28 rfl ?_
  obtain ⟨q5, hq5, h⟩ := ab_bind h
  refine ab_inv0 C dX5_become_29 mlX5_42 yvX5_forget rkC_23 ⟨_, _, rfl⟩ (mmC_23 (hk0)) (tX5_forget l _ _ (hk0) hq5) (Nat.le_of_ble_eq_true rfl) (Nat.le_of_ble_eq_true rfl) rfl (Nat.le_of_ble_eq_true rfl) ?_
  obtain rfl := Option.some.inj h
  exact ab_vret C dX5_become_32
end
def fX1_takeLaw (x1 : Int32) (σ : ab_S) : Option ab_S := (fX1_isHost x1).bind fun q1 => (if q1 = 0 then some σ else (if ab_inb x1 4 = true then (fX5_become x1.toNatClampNeg σ).bind fun q4 => ab_k (ab_si q4 1 0 6 ((q4.1 1 0 6) + 1)) fun σ5 => some σ5 else none))
section
variable {p : Program} {l : Launch} {e : Env} {s : State} {m : MethodId} {args : Array Value} {below : List Frame} {meth : Method} {c : Code} {D : va_G} {cA : Nat → ClassId} {ad : Nat → Nat → Nat}
set_option maxRecDepth 100000 in
set_option maxHeartbeats 4000000 in
theorem tX1_takeLaw (l : Launch) (x1 : Int32) (σ : ab_S) {R : ab_S} (h : fX1_takeLaw x1 σ = some R) : ab_M l yC yX1_takeLaw cX1_takeLaw 3 none 3 [.inr (.inr (21, 0)), .inl x1, .inr (.inr (18, 0))] σ none R := by
  refine ab_M_intro ndC (by decide) (Nat.le_of_ble_eq_true rfl) ?_
  intro p e s m args below meth c D cA ad C
  have C : ab_C yC p s m args meth c D cA ad cX1_takeLaw 3 RX1 none := C
  refine ab_weak (lv' := [some (.inr (.inr (21, 0))), some (.inl x1), some (.inr (.inr (18, 0)))]) ⟨.inr rfl, ⟨.inr rfl, ⟨.inr rfl, trivial⟩⟩⟩ ?_
  refine ab_iload_n C dX1_takeLaw_0 rfl ?_
  obtain ⟨q1, hq1, h⟩ := ab_bind h
  refine ab_invS1 C dX1_takeLaw_1 mlX1_57 ysX1_isHost (tX1_isHost l _ _ hq1) (Nat.le_of_ble_eq_true rfl) (Nat.le_of_ble_eq_true rfl) rfl (Nat.le_of_ble_eq_true rfl) ?_
  refine ab_if_ne C (tgt := 8) dX1_takeLaw_4 (by decide) (fun hc2 => ?_) (fun hc2 => ?_)
  · replace h := ab_neg hc2 h
    refine ab_aload_n C dX1_takeLaw_8 rfl ?_
    refine ab_getR C dX1_takeLaw_9 flX1_11 rkC_21 rfl mmC_21 ?_
    refine ab_iload_n C dX1_takeLaw_12 rfl ?_
    obtain ⟨hg3, h⟩ := ab_grd h
    refine ab_aald3 C dX1_takeLaw_13 rkC_22 mmC_22 hg3 ?_
    refine ab_aload_n C dX1_takeLaw_14 rfl ?_
    obtain ⟨q4, hq4, h⟩ := ab_bind h
    refine ab_inv0 C dX1_takeLaw_15 mlX1_61 yvX5_become rkC_23 ⟨_, _, rfl⟩ (mmC_23 (ab_inb_lt hg3)) (tX5_become l _ _ (ab_inb_lt hg3) hq4) (Nat.le_of_ble_eq_true rfl) (Nat.le_of_ble_eq_true rfl) rfl (Nat.le_of_ble_eq_true rfl) ?_
    refine ab_aload_n C dX1_takeLaw_18 rfl ?_
    refine ab_getR C dX1_takeLaw_19 flX1_39 rkC_21 rfl mmC_21 ?_
    refine ab_dup C dX1_takeLaw_22 rfl ?_
    refine ab_getI C dX1_takeLaw_23 flX1_65 rkC_1 rfl mmC_1 ?_
    refine ab_iconst C dX1_takeLaw_26 (v := 1) rfl ?_
    refine ab_iadd C dX1_takeLaw_27  ?_
    refine ab_putI C dX1_takeLaw_28 fpX1_65 rkC_1 rfl mmC_1 rfl rfl ?_
    refine ab_nmS (fun σ5 eσ5 => ?_)
    replace h := ab_kh eσ5 h
    obtain rfl := Option.some.inj h
    exact ab_vret C dX1_takeLaw_31
  · replace h := ab_pos hc2 h
    obtain rfl := Option.some.inj h
    exact ab_vret C dX1_takeLaw_7
end
def fX1_twelfths_b39 (t0 : Int32) (σ : ab_S) : Option (Int32 × ab_S) := some (t0, σ)
def fX1_twelfths (x1 : Int32) (x2 : Int32) (x3 : Int32) (x4 : Int32) (x5 : Int32) (σ : ab_S) : Option (Int32 × ab_S) := (fX1_isHost (σ.1 1 0 4)).bind fun q1 => (if q1 = 0 then fX1_twelfths_b39 0 σ else (if ab_inb (σ.1 1 0 4) 4 = true then (fX5_twelfths ((σ.1 1 0 4).toNatClampNeg) x1 x2 x3 x4 x5 σ).bind fun q4 => fX1_twelfths_b39 q4.1 q4.2 else none))
section
variable {p : Program} {l : Launch} {e : Env} {s : State} {m : MethodId} {args : Array Value} {below : List Frame} {meth : Method} {c : Code} {D : va_G} {cA : Nat → ClassId} {ad : Nat → Nat → Nat}
set_option maxRecDepth 100000 in
set_option maxHeartbeats 4000000 in
theorem gX1_twelfths_b39 {R : (Int32 × ab_S)} (C : ab_C yC p s m args meth c D cA ad cX1_twelfths 6 RX1 (some .int)) (t0 : Int32) (σ : ab_S) (h : fX1_twelfths_b39 t0 σ = some R) : ab_G yC p l e s m args below meth c D cA ad 6 3 (some (.inl R.1)) R.2 39 [none, none, none, none, none, none] [.inl t0] σ := by
  obtain rfl := Option.some.inj h
  exact ab_iret C dX1_twelfths_39
set_option maxRecDepth 100000 in
set_option maxHeartbeats 4000000 in
theorem tX1_twelfths (l : Launch) (x1 : Int32) (x2 : Int32) (x3 : Int32) (x4 : Int32) (x5 : Int32) (σ : ab_S) {R : (Int32 × ab_S)} (h : fX1_twelfths x1 x2 x3 x4 x5 σ = some R) : ab_M l yC yX1_twelfths cX1_twelfths 6 (some .int) 3 [.inr (.inr (21, 0)), .inl x1, .inl x2, .inl x3, .inl x4, .inl x5] σ (some (.inl R.1)) R.2 := by
  refine ab_M_intro ndC (by decide) (Nat.le_of_ble_eq_true rfl) ?_
  intro p e s m args below meth c D cA ad C
  have C : ab_C yC p s m args meth c D cA ad cX1_twelfths 6 RX1 (some .int) := C
  refine ab_weak (lv' := [some (.inr (.inr (21, 0))), some (.inl x1), some (.inl x2), some (.inl x3), some (.inl x4), some (.inl x5)]) ⟨.inr rfl, ⟨.inr rfl, ⟨.inr rfl, ⟨.inr rfl, ⟨.inr rfl, ⟨.inr rfl, trivial⟩⟩⟩⟩⟩⟩ ?_
  refine ab_aload_n C dX1_twelfths_0 rfl ?_
  refine ab_getR C dX1_twelfths_1 flX1_39 rkC_21 rfl mmC_21 ?_
  refine ab_getI C dX1_twelfths_4 flX1_68 rkC_1 rfl mmC_1 ?_
  obtain ⟨q1, hq1, h⟩ := ab_bind h
  refine ab_invS1 C dX1_twelfths_7 mlX1_57 ysX1_isHost (tX1_isHost l _ _ hq1) (Nat.le_of_ble_eq_true rfl) (Nat.le_of_ble_eq_true rfl) rfl (Nat.le_of_ble_eq_true rfl) ?_
  refine ab_if_eq C (tgt := 38) dX1_twelfths_10 (by decide) (fun hc2 => ?_) (fun hc2 => ?_)
  · replace h := ab_pos hc2 h
    refine ab_iconst C dX1_twelfths_38 (v := 0) rfl ?_
    refine ab_weak (lv' := [none, none, none, none, none, none]) ⟨.inl rfl, ⟨.inl rfl, ⟨.inl rfl, ⟨.inl rfl, ⟨.inl rfl, ⟨.inl rfl, trivial⟩⟩⟩⟩⟩⟩ ?_
    exact gX1_twelfths_b39 C _ _ h
  · replace h := ab_neg hc2 h
    refine ab_aload_n C dX1_twelfths_13 rfl ?_
    refine ab_getR C dX1_twelfths_14 flX1_11 rkC_21 rfl mmC_21 ?_
    refine ab_aload_n C dX1_twelfths_17 rfl ?_
    refine ab_getR C dX1_twelfths_18 flX1_39 rkC_21 rfl mmC_21 ?_
    refine ab_getI C dX1_twelfths_21 flX1_68 rkC_1 rfl mmC_1 ?_
    obtain ⟨hg3, h⟩ := ab_grd h
    refine ab_aald3 C dX1_twelfths_24 rkC_22 mmC_22 hg3 ?_
    refine ab_iload_n C dX1_twelfths_25 rfl ?_
    refine ab_iload_n C dX1_twelfths_26 rfl ?_
    refine ab_iload_n C dX1_twelfths_27 rfl ?_
    refine ab_iload C dX1_twelfths_28 rfl ?_
    refine ab_iload C dX1_twelfths_30 rfl ?_
    obtain ⟨q4, hq4, h⟩ := ab_bind h
    refine ab_inv1 C dX1_twelfths_32 mlX1_71 yvX5_twelfths rkC_23 ⟨_, _, rfl⟩ (mmC_23 (ab_inb_lt hg3)) (tX5_twelfths l _ _ _ _ _ _ _ (ab_inb_lt hg3) hq4) (Nat.le_of_ble_eq_true rfl) (Nat.le_of_ble_eq_true rfl) rfl (Nat.le_of_ble_eq_true rfl) ?_
    refine ab_goto C (tgt := 39) dX1_twelfths_35 (by decide) ?_
    refine ab_weak (lv' := [none, none, none, none, none, none]) ⟨.inl rfl, ⟨.inl rfl, ⟨.inl rfl, ⟨.inl rfl, ⟨.inl rfl, ⟨.inl rfl, trivial⟩⟩⟩⟩⟩⟩ ?_
    exact gX1_twelfths_b39 C _ _ h
end
def fX4_chosenIn_b30 (t0 : Int32) (σ : ab_S) : Option Int32 := some t0
def fX4_chosenIn_b26 (σ : ab_S) : Option Int32 := fX4_chosenIn_b30 (σ.1 5 0 4) σ
def fX4_chosenIn (x1 : Int32) (σ : ab_S) : Option Int32 := (if x1 < 0 then fX4_chosenIn_b26 σ else (if (σ.1 5 0 3) ≤ x1 then fX4_chosenIn_b26 σ else (if 3 ≤ x1 then fX4_chosenIn_b26 σ else (if ab_inb x1 3 = true then fX4_chosenIn_b30 (σ.1 7 0 x1.toNatClampNeg) σ else none))))
section
variable {p : Program} {l : Launch} {e : Env} {s : State} {m : MethodId} {args : Array Value} {below : List Frame} {meth : Method} {c : Code} {D : va_G} {cA : Nat → ClassId} {ad : Nat → Nat → Nat}
set_option maxRecDepth 100000 in
set_option maxHeartbeats 4000000 in
theorem gX4_chosenIn_b30 {R : Int32} (C : ab_C yC p s m args meth c D cA ad cX4_chosenIn 2 RX4 (some .int)) (σ : ab_S) (t0 : Int32) (h : fX4_chosenIn_b30 t0 σ = some R) : ab_G yC p l e s m args below meth c D cA ad 2 0 (some (.inl R)) σ 30 [none, none] [.inl t0] σ := by
  obtain rfl := Option.some.inj h
  exact ab_iret C dX4_chosenIn_30
set_option maxRecDepth 100000 in
set_option maxHeartbeats 4000000 in
theorem gX4_chosenIn_b26 {R : Int32} (C : ab_C yC p s m args meth c D cA ad cX4_chosenIn 2 RX4 (some .int)) (σ : ab_S) (h : fX4_chosenIn_b26 σ = some R) : ab_G yC p l e s m args below meth c D cA ad 2 0 (some (.inl R)) σ 26 [some (.inr (.inr (5, 0))), none] [] σ := by
  refine ab_aload_n C dX4_chosenIn_26 rfl ?_
  refine ab_getI C dX4_chosenIn_27 flX4_31 rkC_5 rfl mmC_5 ?_
  refine ab_weak (lv' := [none, none]) ⟨.inl rfl, ⟨.inl rfl, trivial⟩⟩ ?_
  exact gX4_chosenIn_b30 C _ _ h
set_option maxRecDepth 100000 in
set_option maxHeartbeats 4000000 in
theorem tX4_chosenIn (l : Launch) (x1 : Int32) (σ : ab_S) {R : Int32} (h : fX4_chosenIn x1 σ = some R) : ab_M l yC yX4_chosenIn cX4_chosenIn 2 (some .int) 0 [.inr (.inr (5, 0)), .inl x1] σ (some (.inl R)) σ := by
  refine ab_M_intro ndC (by decide) (Nat.le_of_ble_eq_true rfl) ?_
  intro p e s m args below meth c D cA ad C
  have C : ab_C yC p s m args meth c D cA ad cX4_chosenIn 2 RX4 (some .int) := C
  refine ab_weak (lv' := [some (.inr (.inr (5, 0))), some (.inl x1)]) ⟨.inr rfl, ⟨.inr rfl, trivial⟩⟩ ?_
  refine ab_iload_n C dX4_chosenIn_0 rfl ?_
  refine ab_if_lt C (tgt := 26) dX4_chosenIn_1 (by decide) (fun hc1 => ?_) (fun hc1 => ?_)
  · replace h := ab_pos hc1 h
    refine ab_weak (lv' := [some (.inr (.inr (5, 0))), none]) ⟨.inr rfl, ⟨.inl rfl, trivial⟩⟩ ?_
    exact gX4_chosenIn_b26 C _ h
  · replace h := ab_neg hc1 h
    refine ab_iload_n C dX4_chosenIn_4 rfl ?_
    refine ab_aload_n C dX4_chosenIn_5 rfl ?_
    refine ab_getI C dX4_chosenIn_6 flX4_21 rkC_5 rfl mmC_5 ?_
    refine ab_icmp_ge C (tgt := 26) dX4_chosenIn_9 (by decide) (fun hc2 => ?_) (fun hc2 => ?_)
    · replace h := ab_pos hc2 h
      refine ab_weak (lv' := [some (.inr (.inr (5, 0))), none]) ⟨.inr rfl, ⟨.inl rfl, trivial⟩⟩ ?_
      exact gX4_chosenIn_b26 C _ h
    · replace h := ab_neg hc2 h
      refine ab_iload_n C dX4_chosenIn_12 rfl ?_
      refine ab_iconst C dX4_chosenIn_13 (v := 3) rfl ?_
      refine ab_icmp_ge C (tgt := 26) dX4_chosenIn_14 (by decide) (fun hc3 => ?_) (fun hc3 => ?_)
      · replace h := ab_pos hc3 h
        refine ab_weak (lv' := [some (.inr (.inr (5, 0))), none]) ⟨.inr rfl, ⟨.inl rfl, trivial⟩⟩ ?_
        exact gX4_chosenIn_b26 C _ h
      · replace h := ab_neg hc3 h
        refine ab_aload_n C dX4_chosenIn_17 rfl ?_
        refine ab_getR C dX4_chosenIn_18 flX4_15 rkC_5 rfl mmC_5 ?_
        refine ab_iload_n C dX4_chosenIn_21 rfl ?_
        obtain ⟨hg4, h⟩ := ab_grd h
        refine ab_iald C dX4_chosenIn_22 rkC_7 mmC_7 hg4 ?_
        refine ab_goto C (tgt := 30) dX4_chosenIn_23 (by decide) ?_
        refine ab_weak (lv' := [none, none]) ⟨.inl rfl, ⟨.inl rfl, trivial⟩⟩ ?_
        exact gX4_chosenIn_b30 C _ _ h
end
def fX4_openedIn_b27 (t0 : Int32) (σ : ab_S) : Option Int32 := some t0
def fX4_openedIn_b26 (σ : ab_S) : Option Int32 := fX4_openedIn_b27 ((-1)) σ
def fX4_openedIn (x1 : Int32) (σ : ab_S) : Option Int32 := (if x1 < 0 then fX4_openedIn_b26 σ else (if (σ.1 5 0 3) ≤ x1 then fX4_openedIn_b26 σ else (if 3 ≤ x1 then fX4_openedIn_b26 σ else (if ab_inb x1 3 = true then fX4_openedIn_b27 (σ.1 6 0 x1.toNatClampNeg) σ else none))))
section
variable {p : Program} {l : Launch} {e : Env} {s : State} {m : MethodId} {args : Array Value} {below : List Frame} {meth : Method} {c : Code} {D : va_G} {cA : Nat → ClassId} {ad : Nat → Nat → Nat}
set_option maxRecDepth 100000 in
set_option maxHeartbeats 4000000 in
theorem gX4_openedIn_b27 {R : Int32} (C : ab_C yC p s m args meth c D cA ad cX4_openedIn 2 RX4 (some .int)) (σ : ab_S) (t0 : Int32) (h : fX4_openedIn_b27 t0 σ = some R) : ab_G yC p l e s m args below meth c D cA ad 2 0 (some (.inl R)) σ 27 [none, none] [.inl t0] σ := by
  obtain rfl := Option.some.inj h
  exact ab_iret C dX4_openedIn_27
set_option maxRecDepth 100000 in
set_option maxHeartbeats 4000000 in
theorem gX4_openedIn_b26 {R : Int32} (C : ab_C yC p s m args meth c D cA ad cX4_openedIn 2 RX4 (some .int)) (σ : ab_S) (h : fX4_openedIn_b26 σ = some R) : ab_G yC p l e s m args below meth c D cA ad 2 0 (some (.inl R)) σ 26 [none, none] [] σ := by
  refine ab_iconst C dX4_openedIn_26 (v := (-1)) rfl ?_
  refine ab_weak (lv' := [none, none]) ⟨.inl rfl, ⟨.inl rfl, trivial⟩⟩ ?_
  exact gX4_openedIn_b27 C _ _ h
set_option maxRecDepth 100000 in
set_option maxHeartbeats 4000000 in
theorem tX4_openedIn (l : Launch) (x1 : Int32) (σ : ab_S) {R : Int32} (h : fX4_openedIn x1 σ = some R) : ab_M l yC yX4_openedIn cX4_openedIn 2 (some .int) 0 [.inr (.inr (5, 0)), .inl x1] σ (some (.inl R)) σ := by
  refine ab_M_intro ndC (by decide) (Nat.le_of_ble_eq_true rfl) ?_
  intro p e s m args below meth c D cA ad C
  have C : ab_C yC p s m args meth c D cA ad cX4_openedIn 2 RX4 (some .int) := C
  refine ab_weak (lv' := [some (.inr (.inr (5, 0))), some (.inl x1)]) ⟨.inr rfl, ⟨.inr rfl, trivial⟩⟩ ?_
  refine ab_iload_n C dX4_openedIn_0 rfl ?_
  refine ab_if_lt C (tgt := 26) dX4_openedIn_1 (by decide) (fun hc1 => ?_) (fun hc1 => ?_)
  · replace h := ab_pos hc1 h
    refine ab_weak (lv' := [none, none]) ⟨.inl rfl, ⟨.inl rfl, trivial⟩⟩ ?_
    exact gX4_openedIn_b26 C _ h
  · replace h := ab_neg hc1 h
    refine ab_iload_n C dX4_openedIn_4 rfl ?_
    refine ab_aload_n C dX4_openedIn_5 rfl ?_
    refine ab_getI C dX4_openedIn_6 flX4_21 rkC_5 rfl mmC_5 ?_
    refine ab_icmp_ge C (tgt := 26) dX4_openedIn_9 (by decide) (fun hc2 => ?_) (fun hc2 => ?_)
    · replace h := ab_pos hc2 h
      refine ab_weak (lv' := [none, none]) ⟨.inl rfl, ⟨.inl rfl, trivial⟩⟩ ?_
      exact gX4_openedIn_b26 C _ h
    · replace h := ab_neg hc2 h
      refine ab_iload_n C dX4_openedIn_12 rfl ?_
      refine ab_iconst C dX4_openedIn_13 (v := 3) rfl ?_
      refine ab_icmp_ge C (tgt := 26) dX4_openedIn_14 (by decide) (fun hc3 => ?_) (fun hc3 => ?_)
      · replace h := ab_pos hc3 h
        refine ab_weak (lv' := [none, none]) ⟨.inl rfl, ⟨.inl rfl, trivial⟩⟩ ?_
        exact gX4_openedIn_b26 C _ h
      · replace h := ab_neg hc3 h
        refine ab_aload_n C dX4_openedIn_17 rfl ?_
        refine ab_getR C dX4_openedIn_18 flX4_9 rkC_5 rfl mmC_5 ?_
        refine ab_iload_n C dX4_openedIn_21 rfl ?_
        obtain ⟨hg4, h⟩ := ab_grd h
        refine ab_iald C dX4_openedIn_22 rkC_6 mmC_6 hg4 ?_
        refine ab_goto C (tgt := 27) dX4_openedIn_23 (by decide) ?_
        refine ab_weak (lv' := [none, none]) ⟨.inl rfl, ⟨.inl rfl, trivial⟩⟩ ?_
        exact gX4_openedIn_b27 C _ _ h
end
def fX1_weighOne_b88 (v3 : Int64) (σ : ab_S) : Option (Int64 × ab_S) := some (v3, σ)
def fX1_weighOne_b82 (kk17 : Int32 → Int64 → Int32 → Int32 → ab_S → Option (Int64 × ab_S)) (v2 : Int32) (v3 : Int64) (v5 : Int32) (v6 : Int32) (σ : ab_S) : Option (Int64 × ab_S) := kk17 v2 v3 v5 (v6 + 1) σ
def fX1_weighOne_b17_o (kk17 : Int32 → Int64 → Int32 → Int32 → ab_S → Option (Int64 × ab_S)) (v2 : Int32) (v3 : Int64) (v5 : Int32) (v6 : Int32) (σ : ab_S) : Option (Int64 × ab_S) := (if (σ.1 5 0 3) ≤ v6 then fX1_weighOne_b88 v3 σ else (if (lg_cmp v3 0) = 0 then fX1_weighOne_b88 v3 σ else (fX4_openedIn v6 σ).bind fun q3 => (fX4_chosenIn v6 σ).bind fun q4 => (fX1_shareOf (σ.1 1 0 4) v6 v5 q4 q3 v2 σ).bind fun q5 => (if q3 = ((-1)) then fX1_weighOne_b82 kk17 v2 (v3 * q5.1) v5 v6 q5.2 else fX1_weighOne_b82 kk17 v2 (v3 * q5.1) (v5 ||| (1 <<< (q3 &&& 31))) v6 q5.2)))
def fX1_weighOne_b17 : Nat → Int32 → Int64 → Int32 → Int32 → ab_S → Option (Int64 × ab_S)
  | 0 => fun _ _ _ _ _ => none
  | n + 1 => fX1_weighOne_b17_o  (fX1_weighOne_b17 n)
def fX1_weighOne (x2 : Int32) (σ : ab_S) : Option (Int64 × ab_S) := (if ab_inb x2 5 = true then ab_k ((σ.1 2 0 x2.toNatClampNeg : Int32).toInt64 : Int64) fun w2 => fX1_weighOne_b17 ab_N x2 w2 0 0 σ else none)
section
variable {p : Program} {l : Launch} {e : Env} {s : State} {m : MethodId} {args : Array Value} {below : List Frame} {meth : Method} {c : Code} {D : va_G} {cA : Nat → ClassId} {ad : Nat → Nat → Nat}
set_option maxRecDepth 100000 in
set_option maxHeartbeats 4000000 in
theorem gX1_weighOne_b88 {R : (Int64 × ab_S)} (C : ab_C yC p s m args meth c D cA ad cX1_weighOne 8 RX1 (some .long)) (v3 : Int64) (σ : ab_S) (h : fX1_weighOne_b88 v3 σ = some R) : ab_G yC p l e s m args below meth c D cA ad 8 4 (some (.inr (.inl R.1))) R.2 88 [none, none, none, some (.inr (.inl v3)), none, none, none, none] [] σ := by
  refine ab_lload_n C dX1_weighOne_88 rfl ?_
  obtain rfl := Option.some.inj h
  exact ab_lret C dX1_weighOne_89
set_option maxRecDepth 100000 in
set_option maxHeartbeats 4000000 in
theorem gX1_weighOne_b82 {R : (Int64 × ab_S)} (C : ab_C yC p s m args meth c D cA ad cX1_weighOne 8 RX1 (some .long)) {kk17 : Int32 → Int64 → Int32 → Int32 → ab_S → Option (Int64 × ab_S)} (hk17 : ∀ (v2 : Int32) (v3 : Int64) (v5 : Int32) (v6 : Int32) (σ : ab_S), kk17 v2 v3 v5 v6 σ = some R → ab_G yC p l e s m args below meth c D cA ad 8 4 (some (.inr (.inl R.1))) R.2 17 [some (.inr (.inr (21, 0))), some (.inr (.inr (5, 0))), some (.inl v2), some (.inr (.inl v3)), none, some (.inl v5), some (.inl v6), none] [] σ) (v2 : Int32) (v3 : Int64) (v5 : Int32) (v6 : Int32) (σ : ab_S) (h : fX1_weighOne_b82 kk17 v2 v3 v5 v6 σ = some R) : ab_G yC p l e s m args below meth c D cA ad 8 4 (some (.inr (.inl R.1))) R.2 82 [some (.inr (.inr (21, 0))), some (.inr (.inr (5, 0))), some (.inl v2), some (.inr (.inl v3)), none, some (.inl v5), some (.inl v6), none] [] σ := by
  refine ab_iinc C dX1_weighOne_82 rfl (v := 1) rfl (Nat.le_of_ble_eq_true rfl) ?_
  refine ab_goto C (tgt := 17) dX1_weighOne_85 (by decide) ?_
  refine ab_weak (lv' := [some (.inr (.inr (21, 0))), some (.inr (.inr (5, 0))), some (.inl v2), some (.inr (.inl v3)), none, some (.inl v5), some (.inl (v6 + 1)), none]) ⟨.inr rfl, ⟨.inr rfl, ⟨.inr rfl, ⟨.inr rfl, ⟨.inl rfl, ⟨.inr rfl, ⟨.inr rfl, ⟨.inl rfl, trivial⟩⟩⟩⟩⟩⟩⟩⟩ ?_
  exact hk17 _ _ _ _ _ h
set_option maxRecDepth 100000 in
set_option maxHeartbeats 4000000 in
theorem gX1_weighOne_b17_o {R : (Int64 × ab_S)} (C : ab_C yC p s m args meth c D cA ad cX1_weighOne 8 RX1 (some .long)) {kk17 : Int32 → Int64 → Int32 → Int32 → ab_S → Option (Int64 × ab_S)} (hk17 : ∀ (v2 : Int32) (v3 : Int64) (v5 : Int32) (v6 : Int32) (σ : ab_S), kk17 v2 v3 v5 v6 σ = some R → ab_G yC p l e s m args below meth c D cA ad 8 4 (some (.inr (.inl R.1))) R.2 17 [some (.inr (.inr (21, 0))), some (.inr (.inr (5, 0))), some (.inl v2), some (.inr (.inl v3)), none, some (.inl v5), some (.inl v6), none] [] σ) (v2 : Int32) (v3 : Int64) (v5 : Int32) (v6 : Int32) (σ : ab_S) (h : fX1_weighOne_b17_o kk17 v2 v3 v5 v6 σ = some R) : ab_G yC p l e s m args below meth c D cA ad 8 4 (some (.inr (.inl R.1))) R.2 17 [some (.inr (.inr (21, 0))), some (.inr (.inr (5, 0))), some (.inl v2), some (.inr (.inl v3)), none, some (.inl v5), some (.inl v6), none] [] σ := by
  refine ab_iload C dX1_weighOne_17 rfl ?_
  refine ab_aload_n C dX1_weighOne_19 rfl ?_
  refine ab_getI C dX1_weighOne_20 flX1_94 rkC_5 rfl mmC_5 ?_
  refine ab_icmp_ge C (tgt := 88) dX1_weighOne_23 (by decide) (fun hc1 => ?_) (fun hc1 => ?_)
  · replace h := ab_pos hc1 h
    refine ab_weak (lv' := [none, none, none, some (.inr (.inl v3)), none, none, none, none]) ⟨.inl rfl, ⟨.inl rfl, ⟨.inl rfl, ⟨.inr rfl, ⟨.inl rfl, ⟨.inl rfl, ⟨.inl rfl, ⟨.inl rfl, trivial⟩⟩⟩⟩⟩⟩⟩⟩ ?_
    exact gX1_weighOne_b88 C _ _ h
  · replace h := ab_neg hc1 h
    refine ab_lload_n C dX1_weighOne_26 rfl ?_
    refine ab_lconst C dX1_weighOne_27 (v := 0) rfl ?_
    refine ab_lcmp C dX1_weighOne_28  ?_
    refine ab_if_eq C (tgt := 88) dX1_weighOne_29 (by decide) (fun hc2 => ?_) (fun hc2 => ?_)
    · replace h := ab_pos hc2 h
      refine ab_weak (lv' := [none, none, none, some (.inr (.inl v3)), none, none, none, none]) ⟨.inl rfl, ⟨.inl rfl, ⟨.inl rfl, ⟨.inr rfl, ⟨.inl rfl, ⟨.inl rfl, ⟨.inl rfl, ⟨.inl rfl, trivial⟩⟩⟩⟩⟩⟩⟩⟩ ?_
      exact gX1_weighOne_b88 C _ _ h
    · replace h := ab_neg hc2 h
      refine ab_aload_n C dX1_weighOne_32 rfl ?_
      refine ab_iload C dX1_weighOne_33 rfl ?_
      obtain ⟨q3, hq3, h⟩ := ab_bind h
      refine ab_inv1 C dX1_weighOne_35 mlX1_98 yvX4_openedIn rkC_5 ⟨_, _, rfl⟩ mmC_5 (tX4_openedIn l _ _ hq3) (Nat.le_of_ble_eq_true rfl) (Nat.le_of_ble_eq_true rfl) rfl (Nat.le_of_ble_eq_true rfl) ?_
      refine ab_istore C dX1_weighOne_38 (Nat.le_of_ble_eq_true rfl) ?_
      refine ab_lload_n C dX1_weighOne_40 rfl ?_
      refine ab_aload_n C dX1_weighOne_41 rfl ?_
      refine ab_aload_n C dX1_weighOne_42 rfl ?_
      refine ab_getR C dX1_weighOne_43 flX1_39 rkC_21 rfl mmC_21 ?_
      refine ab_getI C dX1_weighOne_46 flX1_68 rkC_1 rfl mmC_1 ?_
      refine ab_iload C dX1_weighOne_49 rfl ?_
      refine ab_iload C dX1_weighOne_51 rfl ?_
      refine ab_aload_n C dX1_weighOne_53 rfl ?_
      refine ab_iload C dX1_weighOne_54 rfl ?_
      obtain ⟨q4, hq4, h⟩ := ab_bind h
      refine ab_inv1 C dX1_weighOne_56 mlX1_101 yvX4_chosenIn rkC_5 ⟨_, _, rfl⟩ mmC_5 (tX4_chosenIn l _ _ hq4) (Nat.le_of_ble_eq_true rfl) (Nat.le_of_ble_eq_true rfl) rfl (Nat.le_of_ble_eq_true rfl) ?_
      refine ab_iload C dX1_weighOne_59 rfl ?_
      refine ab_iload_n C dX1_weighOne_61 rfl ?_
      obtain ⟨q5, hq5, h⟩ := ab_bind h
      refine ab_inv1 C dX1_weighOne_62 mlX1_104 yvX1_shareOf rkC_21 ⟨_, _, rfl⟩ mmC_21 (tX1_shareOf l _ _ _ _ _ _ _ hq5) (Nat.le_of_ble_eq_true rfl) (Nat.le_of_ble_eq_true rfl) rfl (Nat.le_of_ble_eq_true rfl) ?_
      refine ab_lmul C dX1_weighOne_65  ?_
      refine ab_lstore_n C dX1_weighOne_66 (Nat.le_of_ble_eq_true rfl) ?_
      refine ab_iload C dX1_weighOne_67 rfl ?_
      refine ab_iconst C dX1_weighOne_69 (v := (-1)) rfl ?_
      refine ab_icmp_eq C (tgt := 82) dX1_weighOne_70 (by decide) (fun hc6 => ?_) (fun hc6 => ?_)
      · replace h := ab_pos hc6 h
        refine ab_weak (lv' := [some (.inr (.inr (21, 0))), some (.inr (.inr (5, 0))), some (.inl v2), some (.inr (.inl (v3 * q5.1))), none, some (.inl v5), some (.inl v6), none]) ⟨.inr rfl, ⟨.inr rfl, ⟨.inr rfl, ⟨.inr rfl, ⟨.inl rfl, ⟨.inr rfl, ⟨.inr rfl, ⟨.inl rfl, trivial⟩⟩⟩⟩⟩⟩⟩⟩ ?_
        exact gX1_weighOne_b82 C hk17 _ _ _ _ _ h
      · replace h := ab_neg hc6 h
        refine ab_iload C dX1_weighOne_73 rfl ?_
        refine ab_iconst C dX1_weighOne_75 (v := 1) rfl ?_
        refine ab_iload C dX1_weighOne_76 rfl ?_
        refine ab_ishl C dX1_weighOne_78  ?_
        refine ab_ior C dX1_weighOne_79  ?_
        refine ab_istore C dX1_weighOne_80 (Nat.le_of_ble_eq_true rfl) ?_
        refine ab_weak (lv' := [some (.inr (.inr (21, 0))), some (.inr (.inr (5, 0))), some (.inl v2), some (.inr (.inl (v3 * q5.1))), none, some (.inl (v5 ||| (1 <<< (q3 &&& 31)))), some (.inl v6), some (.inl q3)]) ⟨.inr rfl, ⟨.inr rfl, ⟨.inr rfl, ⟨.inr rfl, ⟨.inl rfl, ⟨.inr rfl, ⟨.inr rfl, ⟨.inr rfl, trivial⟩⟩⟩⟩⟩⟩⟩⟩ ?_
        refine ab_weak (lv' := [some (.inr (.inr (21, 0))), some (.inr (.inr (5, 0))), some (.inl v2), some (.inr (.inl (v3 * q5.1))), none, some (.inl (v5 ||| (1 <<< (q3 &&& 31)))), some (.inl v6), none]) ⟨.inr rfl, ⟨.inr rfl, ⟨.inr rfl, ⟨.inr rfl, ⟨.inl rfl, ⟨.inr rfl, ⟨.inr rfl, ⟨.inl rfl, trivial⟩⟩⟩⟩⟩⟩⟩⟩ ?_
        exact gX1_weighOne_b82 C hk17 _ _ _ _ _ h
theorem gX1_weighOne_b17 {R : (Int64 × ab_S)} (C : ab_C yC p s m args meth c D cA ad cX1_weighOne 8 RX1 (some .long)) : ∀ (j : Nat) (v2 : Int32) (v3 : Int64) (v5 : Int32) (v6 : Int32) (σ : ab_S), fX1_weighOne_b17 j v2 v3 v5 v6 σ = some R → ab_G yC p l e s m args below meth c D cA ad 8 4 (some (.inr (.inl R.1))) R.2 17 [some (.inr (.inr (21, 0))), some (.inr (.inr (5, 0))), some (.inl v2), some (.inr (.inl v3)), none, some (.inl v5), some (.inl v6), none] [] σ := by
  intro j
  induction j with
  | zero => intro v2 v3 v5 v6 σ  h; cases h
  | succ j ih => intro v2 v3 v5 v6 σ  h; exact gX1_weighOne_b17_o C ih _ _ _ _ _ h
set_option maxRecDepth 100000 in
set_option maxHeartbeats 4000000 in
theorem tX1_weighOne (l : Launch) (x2 : Int32) (σ : ab_S) {R : (Int64 × ab_S)} (h : fX1_weighOne x2 σ = some R) : ab_M l yC yX1_weighOne cX1_weighOne 8 (some .long) 4 [.inr (.inr (21, 0)), .inr (.inr (5, 0)), .inl x2] σ (some (.inr (.inl R.1))) R.2 := by
  refine ab_M_intro ndC (by decide) (Nat.le_of_ble_eq_true rfl) ?_
  intro p e s m args below meth c D cA ad C
  have C : ab_C yC p s m args meth c D cA ad cX1_weighOne 8 RX1 (some .long) := C
  refine ab_weak (lv' := [some (.inr (.inr (21, 0))), some (.inr (.inr (5, 0))), some (.inl x2), none, none, none, none, none]) ⟨.inr rfl, ⟨.inr rfl, ⟨.inr rfl, ⟨.inl rfl, ⟨.inl rfl, ⟨.inl rfl, ⟨.inl rfl, ⟨.inl rfl, trivial⟩⟩⟩⟩⟩⟩⟩⟩ ?_
  refine ab_aload_n C dX1_weighOne_0 rfl ?_
  refine ab_getR C dX1_weighOne_1 flX1_39 rkC_21 rfl mmC_21 ?_
  refine ab_getR C dX1_weighOne_4 flX1_91 rkC_1 rfl mmC_1 ?_
  refine ab_iload_n C dX1_weighOne_7 rfl ?_
  obtain ⟨hg1, h⟩ := ab_grd h
  refine ab_iald C dX1_weighOne_8 rkC_2 mmC_2 hg1 ?_
  refine ab_i2l C dX1_weighOne_9  ?_
  refine ab_nmJ (fun w2 ew2 => ?_)
  replace h := ab_kh ew2 h
  refine ab_lstore_n C dX1_weighOne_10 (Nat.le_of_ble_eq_true rfl) ?_
  refine ab_iconst C dX1_weighOne_11 (v := 0) rfl ?_
  refine ab_istore C dX1_weighOne_12 (Nat.le_of_ble_eq_true rfl) ?_
  refine ab_iconst C dX1_weighOne_14 (v := 0) rfl ?_
  refine ab_istore C dX1_weighOne_15 (Nat.le_of_ble_eq_true rfl) ?_
  refine ab_weak (lv' := [some (.inr (.inr (21, 0))), some (.inr (.inr (5, 0))), some (.inl x2), some (.inr (.inl w2)), none, some (.inl 0), some (.inl 0), none]) ⟨.inr rfl, ⟨.inr rfl, ⟨.inr rfl, ⟨.inr rfl, ⟨.inl rfl, ⟨.inr rfl, ⟨.inr rfl, ⟨.inl rfl, trivial⟩⟩⟩⟩⟩⟩⟩⟩ ?_
  refine ab_weak (lv' := [some (.inr (.inr (21, 0))), some (.inr (.inr (5, 0))), some (.inl x2), some (.inr (.inl w2)), none, some (.inl 0), some (.inl 0), none]) ⟨.inr rfl, ⟨.inr rfl, ⟨.inr rfl, ⟨.inr rfl, ⟨.inl rfl, ⟨.inr rfl, ⟨.inr rfl, ⟨.inl rfl, trivial⟩⟩⟩⟩⟩⟩⟩⟩ ?_
  exact gX1_weighOne_b17 C ab_N _ _ _ _ _ h
end
def fX1_weighAll_b5_o (kk5 : Int64 → Int32 → ab_S → Option (Int64 × ab_S)) (v2 : Int64) (v4 : Int32) (σ : ab_S) : Option (Int64 × ab_S) := (if (σ.1 1 0 3) ≤ v4 then some (v2, σ) else (fX1_weighOne v4 σ).bind fun q2 => (if ab_inb v4 5 = true then ab_k (ab_sl q2.2 27 0 v4.toNatClampNeg q2.1) fun σ4 => (if ab_inb v4 5 = true then kk5 (v2 + (σ4.2 27 0 v4.toNatClampNeg)) (v4 + 1) σ4 else none) else none))
def fX1_weighAll_b5 : Nat → Int64 → Int32 → ab_S → Option (Int64 × ab_S)
  | 0 => fun _ _ _ => none
  | n + 1 => fX1_weighAll_b5_o  (fX1_weighAll_b5 n)
def fX1_weighAll (σ : ab_S) : Option (Int64 × ab_S) := fX1_weighAll_b5 ab_N 0 0 σ
section
variable {p : Program} {l : Launch} {e : Env} {s : State} {m : MethodId} {args : Array Value} {below : List Frame} {meth : Method} {c : Code} {D : va_G} {cA : Nat → ClassId} {ad : Nat → Nat → Nat}
set_option maxRecDepth 100000 in
set_option maxHeartbeats 4000000 in
theorem gX1_weighAll_b5_o {R : (Int64 × ab_S)} (C : ab_C yC p s m args meth c D cA ad cX1_weighAll 5 RX1 (some .long)) {kk5 : Int64 → Int32 → ab_S → Option (Int64 × ab_S)} (hk5 : ∀ (v2 : Int64) (v4 : Int32) (σ : ab_S), kk5 v2 v4 σ = some R → ab_G yC p l e s m args below meth c D cA ad 5 5 (some (.inr (.inl R.1))) R.2 5 [some (.inr (.inr (21, 0))), some (.inr (.inr (5, 0))), some (.inr (.inl v2)), none, some (.inl v4)] [] σ) (v2 : Int64) (v4 : Int32) (σ : ab_S) (h : fX1_weighAll_b5_o kk5 v2 v4 σ = some R) : ab_G yC p l e s m args below meth c D cA ad 5 5 (some (.inr (.inl R.1))) R.2 5 [some (.inr (.inr (21, 0))), some (.inr (.inr (5, 0))), some (.inr (.inl v2)), none, some (.inl v4)] [] σ := by
  refine ab_iload C dX1_weighAll_5 rfl ?_
  refine ab_aload_n C dX1_weighAll_7 rfl ?_
  refine ab_getR C dX1_weighAll_8 flX1_39 rkC_21 rfl mmC_21 ?_
  refine ab_getI C dX1_weighAll_11 flX1_47 rkC_1 rfl mmC_1 ?_
  refine ab_icmp_ge C (tgt := 47) dX1_weighAll_14 (by decide) (fun hc1 => ?_) (fun hc1 => ?_)
  · replace h := ab_pos hc1 h
    refine ab_lload_n C dX1_weighAll_47 rfl ?_
    obtain rfl := Option.some.inj h
    exact ab_lret C dX1_weighAll_48
  · replace h := ab_neg hc1 h
    refine ab_aload_n C dX1_weighAll_17 rfl ?_
    refine ab_getR C dX1_weighAll_18 flX1_17 rkC_21 rfl mmC_21 ?_
    refine ab_iload C dX1_weighAll_21 rfl ?_
    refine ab_aload_n C dX1_weighAll_23 rfl ?_
    refine ab_aload_n C dX1_weighAll_24 rfl ?_
    refine ab_iload C dX1_weighAll_25 rfl ?_
    obtain ⟨q2, hq2, h⟩ := ab_bind h
    refine ab_inv1 C dX1_weighAll_27 mlX1_87 yvX1_weighOne rkC_21 ⟨_, _, rfl⟩ mmC_21 (tX1_weighOne l _ _ hq2) (Nat.le_of_ble_eq_true rfl) (Nat.le_of_ble_eq_true rfl) rfl (Nat.le_of_ble_eq_true rfl) ?_
    obtain ⟨hg3, h⟩ := ab_grd h
    refine ab_last C dX1_weighAll_30 rkC_27 mmC_27 hg3 ?_
    refine ab_nmS (fun σ4 eσ4 => ?_)
    replace h := ab_kh eσ4 h
    refine ab_lload_n C dX1_weighAll_31 rfl ?_
    refine ab_aload_n C dX1_weighAll_32 rfl ?_
    refine ab_getR C dX1_weighAll_33 flX1_17 rkC_21 rfl mmC_21 ?_
    refine ab_iload C dX1_weighAll_36 rfl ?_
    obtain ⟨hg5, h⟩ := ab_grd h
    refine ab_lald C dX1_weighAll_38 rkC_27 mmC_27 hg5 ?_
    refine ab_ladd C dX1_weighAll_39  ?_
    refine ab_lstore_n C dX1_weighAll_40 (Nat.le_of_ble_eq_true rfl) ?_
    refine ab_iinc C dX1_weighAll_41 rfl (v := 1) rfl (Nat.le_of_ble_eq_true rfl) ?_
    refine ab_goto C (tgt := 5) dX1_weighAll_44 (by decide) ?_
    refine ab_weak (lv' := [some (.inr (.inr (21, 0))), some (.inr (.inr (5, 0))), some (.inr (.inl (v2 + (σ4.2 27 0 v4.toNatClampNeg)))), none, some (.inl (v4 + 1))]) ⟨.inr rfl, ⟨.inr rfl, ⟨.inr rfl, ⟨.inl rfl, ⟨.inr rfl, trivial⟩⟩⟩⟩⟩ ?_
    exact hk5 _ _ _ h
theorem gX1_weighAll_b5 {R : (Int64 × ab_S)} (C : ab_C yC p s m args meth c D cA ad cX1_weighAll 5 RX1 (some .long)) : ∀ (j : Nat) (v2 : Int64) (v4 : Int32) (σ : ab_S), fX1_weighAll_b5 j v2 v4 σ = some R → ab_G yC p l e s m args below meth c D cA ad 5 5 (some (.inr (.inl R.1))) R.2 5 [some (.inr (.inr (21, 0))), some (.inr (.inr (5, 0))), some (.inr (.inl v2)), none, some (.inl v4)] [] σ := by
  intro j
  induction j with
  | zero => intro v2 v4 σ  h; cases h
  | succ j ih => intro v2 v4 σ  h; exact gX1_weighAll_b5_o C ih _ _ _ h
set_option maxRecDepth 100000 in
set_option maxHeartbeats 4000000 in
theorem tX1_weighAll (l : Launch) (σ : ab_S) {R : (Int64 × ab_S)} (h : fX1_weighAll σ = some R) : ab_M l yC yX1_weighAll cX1_weighAll 5 (some .long) 5 [.inr (.inr (21, 0)), .inr (.inr (5, 0))] σ (some (.inr (.inl R.1))) R.2 := by
  refine ab_M_intro ndC (by decide) (Nat.le_of_ble_eq_true rfl) ?_
  intro p e s m args below meth c D cA ad C
  have C : ab_C yC p s m args meth c D cA ad cX1_weighAll 5 RX1 (some .long) := C
  refine ab_weak (lv' := [some (.inr (.inr (21, 0))), some (.inr (.inr (5, 0))), none, none, none]) ⟨.inr rfl, ⟨.inr rfl, ⟨.inl rfl, ⟨.inl rfl, ⟨.inl rfl, trivial⟩⟩⟩⟩⟩ ?_
  refine ab_lconst C dX1_weighAll_0 (v := 0) rfl ?_
  refine ab_lstore_n C dX1_weighAll_1 (Nat.le_of_ble_eq_true rfl) ?_
  refine ab_iconst C dX1_weighAll_2 (v := 0) rfl ?_
  refine ab_istore C dX1_weighAll_3 (Nat.le_of_ble_eq_true rfl) ?_
  refine ab_weak (lv' := [some (.inr (.inr (21, 0))), some (.inr (.inr (5, 0))), some (.inr (.inl 0)), none, some (.inl 0)]) ⟨.inr rfl, ⟨.inr rfl, ⟨.inr rfl, ⟨.inl rfl, ⟨.inr rfl, trivial⟩⟩⟩⟩⟩ ?_
  exact gX1_weighAll_b5 C ab_N _ _ _ h
end
def fX1_weighNext_b69 (kk5 : Int32 → Int64 → Int32 → ab_S → Option (Int64 × ab_S)) (v2 : Int32) (v3 : Int64) (v5 : Int32) (σ : ab_S) : Option (Int64 × ab_S) := kk5 v2 v3 (v5 + 1) σ
def fX1_weighNext_b5_o (kk5 : Int32 → Int64 → Int32 → ab_S → Option (Int64 × ab_S)) (v2 : Int32) (v3 : Int64) (v5 : Int32) (σ : ab_S) : Option (Int64 × ab_S) := (if (σ.1 1 0 3) ≤ v5 then some (v3, σ) else (if ab_inb v5 5 = true then (if (lg_cmp (σ.2 27 0 v5.toNatClampNeg) 0) = 0 then fX1_weighNext_b69 kk5 v2 v3 v5 σ else (if ab_inb v5 5 = true then (fX1_shareOf (σ.1 1 0 4) (σ.1 5 0 3) (σ.1 5 0 5) (σ.1 5 0 4) v2 v5 σ).bind fun q5 => ab_k (v3 + ((σ.2 27 0 v5.toNatClampNeg) * q5.1) : Int64) fun w6 => fX1_weighNext_b69 kk5 v2 w6 v5 q5.2 else none)) else none))
def fX1_weighNext_b5 : Nat → Int32 → Int64 → Int32 → ab_S → Option (Int64 × ab_S)
  | 0 => fun _ _ _ _ => none
  | n + 1 => fX1_weighNext_b5_o  (fX1_weighNext_b5 n)
def fX1_weighNext (x2 : Int32) (σ : ab_S) : Option (Int64 × ab_S) := fX1_weighNext_b5 ab_N x2 0 0 σ
section
variable {p : Program} {l : Launch} {e : Env} {s : State} {m : MethodId} {args : Array Value} {below : List Frame} {meth : Method} {c : Code} {D : va_G} {cA : Nat → ClassId} {ad : Nat → Nat → Nat}
set_option maxRecDepth 100000 in
set_option maxHeartbeats 4000000 in
theorem gX1_weighNext_b69 {R : (Int64 × ab_S)} (C : ab_C yC p s m args meth c D cA ad cX1_weighNext 6 RX1 (some .long)) {kk5 : Int32 → Int64 → Int32 → ab_S → Option (Int64 × ab_S)} (hk5 : ∀ (v2 : Int32) (v3 : Int64) (v5 : Int32) (σ : ab_S), kk5 v2 v3 v5 σ = some R → ab_G yC p l e s m args below meth c D cA ad 6 4 (some (.inr (.inl R.1))) R.2 5 [some (.inr (.inr (21, 0))), some (.inr (.inr (5, 0))), some (.inl v2), some (.inr (.inl v3)), none, some (.inl v5)] [] σ) (v2 : Int32) (v3 : Int64) (v5 : Int32) (σ : ab_S) (h : fX1_weighNext_b69 kk5 v2 v3 v5 σ = some R) : ab_G yC p l e s m args below meth c D cA ad 6 4 (some (.inr (.inl R.1))) R.2 69 [some (.inr (.inr (21, 0))), some (.inr (.inr (5, 0))), some (.inl v2), some (.inr (.inl v3)), none, some (.inl v5)] [] σ := by
  refine ab_iinc C dX1_weighNext_69 rfl (v := 1) rfl (Nat.le_of_ble_eq_true rfl) ?_
  refine ab_goto C (tgt := 5) dX1_weighNext_72 (by decide) ?_
  refine ab_weak (lv' := [some (.inr (.inr (21, 0))), some (.inr (.inr (5, 0))), some (.inl v2), some (.inr (.inl v3)), none, some (.inl (v5 + 1))]) ⟨.inr rfl, ⟨.inr rfl, ⟨.inr rfl, ⟨.inr rfl, ⟨.inl rfl, ⟨.inr rfl, trivial⟩⟩⟩⟩⟩⟩ ?_
  exact hk5 _ _ _ _ h
set_option maxRecDepth 100000 in
set_option maxHeartbeats 4000000 in
theorem gX1_weighNext_b5_o {R : (Int64 × ab_S)} (C : ab_C yC p s m args meth c D cA ad cX1_weighNext 6 RX1 (some .long)) {kk5 : Int32 → Int64 → Int32 → ab_S → Option (Int64 × ab_S)} (hk5 : ∀ (v2 : Int32) (v3 : Int64) (v5 : Int32) (σ : ab_S), kk5 v2 v3 v5 σ = some R → ab_G yC p l e s m args below meth c D cA ad 6 4 (some (.inr (.inl R.1))) R.2 5 [some (.inr (.inr (21, 0))), some (.inr (.inr (5, 0))), some (.inl v2), some (.inr (.inl v3)), none, some (.inl v5)] [] σ) (v2 : Int32) (v3 : Int64) (v5 : Int32) (σ : ab_S) (h : fX1_weighNext_b5_o kk5 v2 v3 v5 σ = some R) : ab_G yC p l e s m args below meth c D cA ad 6 4 (some (.inr (.inl R.1))) R.2 5 [some (.inr (.inr (21, 0))), some (.inr (.inr (5, 0))), some (.inl v2), some (.inr (.inl v3)), none, some (.inl v5)] [] σ := by
  refine ab_iload C dX1_weighNext_5 rfl ?_
  refine ab_aload_n C dX1_weighNext_7 rfl ?_
  refine ab_getR C dX1_weighNext_8 flX1_39 rkC_21 rfl mmC_21 ?_
  refine ab_getI C dX1_weighNext_11 flX1_47 rkC_1 rfl mmC_1 ?_
  refine ab_icmp_ge C (tgt := 75) dX1_weighNext_14 (by decide) (fun hc1 => ?_) (fun hc1 => ?_)
  · replace h := ab_pos hc1 h
    refine ab_lload_n C dX1_weighNext_75 rfl ?_
    obtain rfl := Option.some.inj h
    exact ab_lret C dX1_weighNext_76
  · replace h := ab_neg hc1 h
    refine ab_aload_n C dX1_weighNext_17 rfl ?_
    refine ab_getR C dX1_weighNext_18 flX1_17 rkC_21 rfl mmC_21 ?_
    refine ab_iload C dX1_weighNext_21 rfl ?_
    obtain ⟨hg2, h⟩ := ab_grd h
    refine ab_lald C dX1_weighNext_23 rkC_27 mmC_27 hg2 ?_
    refine ab_lconst C dX1_weighNext_24 (v := 0) rfl ?_
    refine ab_lcmp C dX1_weighNext_25  ?_
    refine ab_if_ne C (tgt := 32) dX1_weighNext_26 (by decide) (fun hc3 => ?_) (fun hc3 => ?_)
    · replace h := ab_neg hc3 h
      refine ab_lload_n C dX1_weighNext_32 rfl ?_
      refine ab_aload_n C dX1_weighNext_33 rfl ?_
      refine ab_getR C dX1_weighNext_34 flX1_17 rkC_21 rfl mmC_21 ?_
      refine ab_iload C dX1_weighNext_37 rfl ?_
      obtain ⟨hg4, h⟩ := ab_grd h
      refine ab_lald C dX1_weighNext_39 rkC_27 mmC_27 hg4 ?_
      refine ab_aload_n C dX1_weighNext_40 rfl ?_
      refine ab_aload_n C dX1_weighNext_41 rfl ?_
      refine ab_getR C dX1_weighNext_42 flX1_39 rkC_21 rfl mmC_21 ?_
      refine ab_getI C dX1_weighNext_45 flX1_68 rkC_1 rfl mmC_1 ?_
      refine ab_aload_n C dX1_weighNext_48 rfl ?_
      refine ab_getI C dX1_weighNext_49 flX1_94 rkC_5 rfl mmC_5 ?_
      refine ab_aload_n C dX1_weighNext_52 rfl ?_
      refine ab_getI C dX1_weighNext_53 flX1_121 rkC_5 rfl mmC_5 ?_
      refine ab_aload_n C dX1_weighNext_56 rfl ?_
      refine ab_getI C dX1_weighNext_57 flX1_111 rkC_5 rfl mmC_5 ?_
      refine ab_iload_n C dX1_weighNext_60 rfl ?_
      refine ab_iload C dX1_weighNext_61 rfl ?_
      obtain ⟨q5, hq5, h⟩ := ab_bind h
      refine ab_inv1 C dX1_weighNext_63 mlX1_104 yvX1_shareOf rkC_21 ⟨_, _, rfl⟩ mmC_21 (tX1_shareOf l _ _ _ _ _ _ _ hq5) (Nat.le_of_ble_eq_true rfl) (Nat.le_of_ble_eq_true rfl) rfl (Nat.le_of_ble_eq_true rfl) ?_
      refine ab_lmul C dX1_weighNext_66  ?_
      refine ab_ladd C dX1_weighNext_67  ?_
      refine ab_nmJ (fun w6 ew6 => ?_)
      replace h := ab_kh ew6 h
      refine ab_lstore_n C dX1_weighNext_68 (Nat.le_of_ble_eq_true rfl) ?_
      refine ab_weak (lv' := [some (.inr (.inr (21, 0))), some (.inr (.inr (5, 0))), some (.inl v2), some (.inr (.inl w6)), none, some (.inl v5)]) ⟨.inr rfl, ⟨.inr rfl, ⟨.inr rfl, ⟨.inr rfl, ⟨.inl rfl, ⟨.inr rfl, trivial⟩⟩⟩⟩⟩⟩ ?_
      exact gX1_weighNext_b69 C hk5 _ _ _ _ h
    · replace h := ab_pos hc3 h
      refine ab_goto C (tgt := 69) dX1_weighNext_29 (by decide) ?_
      refine ab_weak (lv' := [some (.inr (.inr (21, 0))), some (.inr (.inr (5, 0))), some (.inl v2), some (.inr (.inl v3)), none, some (.inl v5)]) ⟨.inr rfl, ⟨.inr rfl, ⟨.inr rfl, ⟨.inr rfl, ⟨.inl rfl, ⟨.inr rfl, trivial⟩⟩⟩⟩⟩⟩ ?_
      exact gX1_weighNext_b69 C hk5 _ _ _ _ h
theorem gX1_weighNext_b5 {R : (Int64 × ab_S)} (C : ab_C yC p s m args meth c D cA ad cX1_weighNext 6 RX1 (some .long)) : ∀ (j : Nat) (v2 : Int32) (v3 : Int64) (v5 : Int32) (σ : ab_S), fX1_weighNext_b5 j v2 v3 v5 σ = some R → ab_G yC p l e s m args below meth c D cA ad 6 4 (some (.inr (.inl R.1))) R.2 5 [some (.inr (.inr (21, 0))), some (.inr (.inr (5, 0))), some (.inl v2), some (.inr (.inl v3)), none, some (.inl v5)] [] σ := by
  intro j
  induction j with
  | zero => intro v2 v3 v5 σ  h; cases h
  | succ j ih => intro v2 v3 v5 σ  h; exact gX1_weighNext_b5_o C ih _ _ _ _ h
set_option maxRecDepth 100000 in
set_option maxHeartbeats 4000000 in
theorem tX1_weighNext (l : Launch) (x2 : Int32) (σ : ab_S) {R : (Int64 × ab_S)} (h : fX1_weighNext x2 σ = some R) : ab_M l yC yX1_weighNext cX1_weighNext 6 (some .long) 4 [.inr (.inr (21, 0)), .inr (.inr (5, 0)), .inl x2] σ (some (.inr (.inl R.1))) R.2 := by
  refine ab_M_intro ndC (by decide) (Nat.le_of_ble_eq_true rfl) ?_
  intro p e s m args below meth c D cA ad C
  have C : ab_C yC p s m args meth c D cA ad cX1_weighNext 6 RX1 (some .long) := C
  refine ab_weak (lv' := [some (.inr (.inr (21, 0))), some (.inr (.inr (5, 0))), some (.inl x2), none, none, none]) ⟨.inr rfl, ⟨.inr rfl, ⟨.inr rfl, ⟨.inl rfl, ⟨.inl rfl, ⟨.inl rfl, trivial⟩⟩⟩⟩⟩⟩ ?_
  refine ab_lconst C dX1_weighNext_0 (v := 0) rfl ?_
  refine ab_lstore_n C dX1_weighNext_1 (Nat.le_of_ble_eq_true rfl) ?_
  refine ab_iconst C dX1_weighNext_2 (v := 0) rfl ?_
  refine ab_istore C dX1_weighNext_3 (Nat.le_of_ble_eq_true rfl) ?_
  refine ab_weak (lv' := [some (.inr (.inr (21, 0))), some (.inr (.inr (5, 0))), some (.inl x2), some (.inr (.inl 0)), none, some (.inl 0)]) ⟨.inr rfl, ⟨.inr rfl, ⟨.inr rfl, ⟨.inr rfl, ⟨.inl rfl, ⟨.inr rfl, trivial⟩⟩⟩⟩⟩⟩ ?_
  exact gX1_weighNext_b5 C ab_N _ _ _ _ h
end
def fX7_wholeActs_b10_o (kk10 : Int64 → Int64 → Int32 → ab_S → Option Int64) (v1 : Int64) (v3 : Int64) (v5 : Int32) (σ : ab_S) : Option Int64 := (if (σ.1 1 0 5) ≤ v5 then some v3 else kk10 v1 (v3 * v1) (v5 + 1) σ)
def fX7_wholeActs_b10 : Nat → Int64 → Int64 → Int32 → ab_S → Option Int64
  | 0 => fun _ _ _ _ => none
  | n + 1 => fX7_wholeActs_b10_o  (fX7_wholeActs_b10 n)
def fX7_wholeActs (σ : ab_S) : Option Int64 := (fX7_wholeAct σ).bind fun q1 => fX7_wholeActs_b10 ab_N q1 1 0 σ
section
variable {p : Program} {l : Launch} {e : Env} {s : State} {m : MethodId} {args : Array Value} {below : List Frame} {meth : Method} {c : Code} {D : va_G} {cA : Nat → ClassId} {ad : Nat → Nat → Nat}
set_option maxRecDepth 100000 in
set_option maxHeartbeats 4000000 in
theorem gX7_wholeActs_b10_o {R : Int64} (C : ab_C yC p s m args meth c D cA ad cX7_wholeActs 6 RX7 (some .long)) (σ : ab_S) {kk10 : Int64 → Int64 → Int32 → ab_S → Option Int64} (hk10 : ∀ (v1 : Int64) (v3 : Int64) (v5 : Int32), kk10 v1 v3 v5 σ = some R → ab_G yC p l e s m args below meth c D cA ad 6 1 (some (.inr (.inl R))) σ 10 [some (.inr (.inr (1, 0))), some (.inr (.inl v1)), none, some (.inr (.inl v3)), none, some (.inl v5)] [] σ) (v1 : Int64) (v3 : Int64) (v5 : Int32) (h : fX7_wholeActs_b10_o kk10 v1 v3 v5 σ = some R) : ab_G yC p l e s m args below meth c D cA ad 6 1 (some (.inr (.inl R))) σ 10 [some (.inr (.inr (1, 0))), some (.inr (.inl v1)), none, some (.inr (.inl v3)), none, some (.inl v5)] [] σ := by
  refine ab_iload C dX7_wholeActs_10 rfl ?_
  refine ab_aload_n C dX7_wholeActs_12 rfl ?_
  refine ab_getI C dX7_wholeActs_13 flX7_25 rkC_1 rfl mmC_1 ?_
  refine ab_icmp_ge C (tgt := 29) dX7_wholeActs_16 (by decide) (fun hc1 => ?_) (fun hc1 => ?_)
  · replace h := ab_pos hc1 h
    refine ab_lload_n C dX7_wholeActs_29 rfl ?_
    obtain rfl := Option.some.inj h
    exact ab_lret C dX7_wholeActs_30
  · replace h := ab_neg hc1 h
    refine ab_lload_n C dX7_wholeActs_19 rfl ?_
    refine ab_lload_n C dX7_wholeActs_20 rfl ?_
    refine ab_lmul C dX7_wholeActs_21  ?_
    refine ab_lstore_n C dX7_wholeActs_22 (Nat.le_of_ble_eq_true rfl) ?_
    refine ab_iinc C dX7_wholeActs_23 rfl (v := 1) rfl (Nat.le_of_ble_eq_true rfl) ?_
    refine ab_goto C (tgt := 10) dX7_wholeActs_26 (by decide) ?_
    refine ab_weak (lv' := [some (.inr (.inr (1, 0))), some (.inr (.inl v1)), none, some (.inr (.inl (v3 * v1))), none, some (.inl (v5 + 1))]) ⟨.inr rfl, ⟨.inr rfl, ⟨.inl rfl, ⟨.inr rfl, ⟨.inl rfl, ⟨.inr rfl, trivial⟩⟩⟩⟩⟩⟩ ?_
    exact hk10 _ _ _ h
theorem gX7_wholeActs_b10 {R : Int64} (C : ab_C yC p s m args meth c D cA ad cX7_wholeActs 6 RX7 (some .long)) (σ : ab_S) : ∀ (j : Nat) (v1 : Int64) (v3 : Int64) (v5 : Int32), fX7_wholeActs_b10 j v1 v3 v5 σ = some R → ab_G yC p l e s m args below meth c D cA ad 6 1 (some (.inr (.inl R))) σ 10 [some (.inr (.inr (1, 0))), some (.inr (.inl v1)), none, some (.inr (.inl v3)), none, some (.inl v5)] [] σ := by
  intro j
  induction j with
  | zero => intro v1 v3 v5  h; cases h
  | succ j ih => intro v1 v3 v5  h; exact gX7_wholeActs_b10_o C σ ih _ _ _ h
set_option maxRecDepth 100000 in
set_option maxHeartbeats 4000000 in
theorem tX7_wholeActs (l : Launch) (σ : ab_S) {R : Int64} (h : fX7_wholeActs σ = some R) : ab_M l yC yX7_wholeActs cX7_wholeActs 6 (some .long) 1 [.inr (.inr (1, 0))] σ (some (.inr (.inl R))) σ := by
  refine ab_M_intro ndC (by decide) (Nat.le_of_ble_eq_true rfl) ?_
  intro p e s m args below meth c D cA ad C
  have C : ab_C yC p s m args meth c D cA ad cX7_wholeActs 6 RX7 (some .long) := C
  refine ab_weak (lv' := [some (.inr (.inr (1, 0))), none, none, none, none, none]) ⟨.inr rfl, ⟨.inl rfl, ⟨.inl rfl, ⟨.inl rfl, ⟨.inl rfl, ⟨.inl rfl, trivial⟩⟩⟩⟩⟩⟩ ?_
  refine ab_aload_n C dX7_wholeActs_0 rfl ?_
  obtain ⟨q1, hq1, h⟩ := ab_bind h
  refine ab_inv1 C dX7_wholeActs_1 mlX7_46 yvX7_wholeAct rkC_1 ⟨_, _, rfl⟩ mmC_1 (tX7_wholeAct l _ hq1) (Nat.le_of_ble_eq_true rfl) (Nat.le_of_ble_eq_true rfl) rfl (Nat.le_of_ble_eq_true rfl) ?_
  refine ab_lstore_n C dX7_wholeActs_4 (Nat.le_of_ble_eq_true rfl) ?_
  refine ab_lconst C dX7_wholeActs_5 (v := 1) rfl ?_
  refine ab_lstore_n C dX7_wholeActs_6 (Nat.le_of_ble_eq_true rfl) ?_
  refine ab_iconst C dX7_wholeActs_7 (v := 0) rfl ?_
  refine ab_istore C dX7_wholeActs_8 (Nat.le_of_ble_eq_true rfl) ?_
  refine ab_weak (lv' := [some (.inr (.inr (1, 0))), some (.inr (.inl q1)), none, some (.inr (.inl 1)), none, some (.inl 0)]) ⟨.inr rfl, ⟨.inr rfl, ⟨.inl rfl, ⟨.inr rfl, ⟨.inl rfl, ⟨.inr rfl, trivial⟩⟩⟩⟩⟩⟩ ?_
  refine ab_weak (lv' := [some (.inr (.inr (1, 0))), some (.inr (.inl q1)), none, some (.inr (.inl 1)), none, some (.inl 0)]) ⟨.inr rfl, ⟨.inr rfl, ⟨.inl rfl, ⟨.inr rfl, ⟨.inl rfl, ⟨.inr rfl, trivial⟩⟩⟩⟩⟩⟩ ?_
  exact gX7_wholeActs_b10 C _ ab_N _ _ _ h
end
def fX1_worthOf_b18 (σ : ab_S) : Option (Int64 × ab_S) := some (0, σ)
def fX1_worthOf (x1 : Int32) (x2 : Int32) (x3 : Int32) (σ : ab_S) : Option (Int64 × ab_S) := (fX1_isHost x1).bind fun q1 => (if q1 = 0 then fX1_worthOf_b18 σ else (fX7_has x3 σ).bind fun q3 => (if q3 = 0 then fX1_worthOf_b18 σ else (if x2 = 0 then (if ab_inb x3 5 = true then (fX7_wholeActs σ).bind fun q10 => some (((σ.1 2 0 x3.toNatClampNeg : Int32).toInt64) * q10, σ) else none) else (fX1_layShares σ).bind fun q6 => (if ab_inb x1 4 = true then ((fX1_hostActs 64) x1.toNatClampNeg x2 0 0 x3 q6).bind fun q8 => some (q8.1, q8.2) else none))))
section
variable {p : Program} {l : Launch} {e : Env} {s : State} {m : MethodId} {args : Array Value} {below : List Frame} {meth : Method} {c : Code} {D : va_G} {cA : Nat → ClassId} {ad : Nat → Nat → Nat}
set_option maxRecDepth 100000 in
set_option maxHeartbeats 4000000 in
theorem gX1_worthOf_b18 {R : (Int64 × ab_S)} (C : ab_C yC p s m args meth c D cA ad cX1_worthOf 4 RX1 (some .long)) (σ : ab_S) (h : fX1_worthOf_b18 σ = some R) : ab_G yC p l e s m args below meth c D cA ad 4 69 (some (.inr (.inl R.1))) R.2 18 [none, none, none, none] [] σ := by
  refine ab_lconst C dX1_worthOf_18 (v := 0) rfl ?_
  obtain rfl := Option.some.inj h
  exact ab_lret C dX1_worthOf_19
set_option maxRecDepth 100000 in
set_option maxHeartbeats 4000000 in
theorem tX1_worthOf (l : Launch) (x1 : Int32) (x2 : Int32) (x3 : Int32) (σ : ab_S) {R : (Int64 × ab_S)} (h : fX1_worthOf x1 x2 x3 σ = some R) : ab_M l yC yX1_worthOf cX1_worthOf 4 (some .long) 69 [.inr (.inr (21, 0)), .inl x1, .inl x2, .inl x3] σ (some (.inr (.inl R.1))) R.2 := by
  refine ab_M_intro ndC (by decide) (Nat.le_of_ble_eq_true rfl) ?_
  intro p e s m args below meth c D cA ad C
  have C : ab_C yC p s m args meth c D cA ad cX1_worthOf 4 RX1 (some .long) := C
  refine ab_weak (lv' := [some (.inr (.inr (21, 0))), some (.inl x1), some (.inl x2), some (.inl x3)]) ⟨.inr rfl, ⟨.inr rfl, ⟨.inr rfl, ⟨.inr rfl, trivial⟩⟩⟩⟩ ?_
  refine ab_iload_n C dX1_worthOf_0 rfl ?_
  obtain ⟨q1, hq1, h⟩ := ab_bind h
  refine ab_invS1 C dX1_worthOf_1 mlX1_57 ysX1_isHost (tX1_isHost l _ _ hq1) (Nat.le_of_ble_eq_true rfl) (Nat.le_of_ble_eq_true rfl) rfl (Nat.le_of_ble_eq_true rfl) ?_
  refine ab_if_eq C (tgt := 18) dX1_worthOf_4 (by decide) (fun hc2 => ?_) (fun hc2 => ?_)
  · replace h := ab_pos hc2 h
    refine ab_weak (lv' := [none, none, none, none]) ⟨.inl rfl, ⟨.inl rfl, ⟨.inl rfl, ⟨.inl rfl, trivial⟩⟩⟩⟩ ?_
    exact gX1_worthOf_b18 C _ h
  · replace h := ab_neg hc2 h
    refine ab_aload_n C dX1_worthOf_7 rfl ?_
    refine ab_getR C dX1_worthOf_8 flX1_39 rkC_21 rfl mmC_21 ?_
    refine ab_iload_n C dX1_worthOf_11 rfl ?_
    obtain ⟨q3, hq3, h⟩ := ab_bind h
    refine ab_inv1 C dX1_worthOf_12 mlX1_108 yvX7_has rkC_1 ⟨_, _, rfl⟩ mmC_1 (tX7_has l _ _ hq3) (Nat.le_of_ble_eq_true rfl) (Nat.le_of_ble_eq_true rfl) rfl (Nat.le_of_ble_eq_true rfl) ?_
    refine ab_if_ne C (tgt := 20) dX1_worthOf_15 (by decide) (fun hc4 => ?_) (fun hc4 => ?_)
    · replace h := ab_neg hc4 h
      refine ab_iload_n C dX1_worthOf_20 rfl ?_
      refine ab_if_ne C (tgt := 43) dX1_worthOf_21 (by decide) (fun hc5 => ?_) (fun hc5 => ?_)
      · replace h := ab_neg hc5 h
        refine ab_aload_n C dX1_worthOf_43 rfl ?_
        obtain ⟨q6, hq6, h⟩ := ab_bind h
        refine ab_inv0 C dX1_worthOf_44 mlX1_128 yvX1_layShares rkC_21 ⟨_, _, rfl⟩ mmC_21 (tX1_layShares l _ hq6) (Nat.le_of_ble_eq_true rfl) (Nat.le_of_ble_eq_true rfl) rfl (Nat.le_of_ble_eq_true rfl) ?_
        refine ab_aload_n C dX1_worthOf_47 rfl ?_
        refine ab_aload_n C dX1_worthOf_48 rfl ?_
        refine ab_getR C dX1_worthOf_49 flX1_11 rkC_21 rfl mmC_21 ?_
        refine ab_iload_n C dX1_worthOf_52 rfl ?_
        obtain ⟨hg7, h⟩ := ab_grd h
        refine ab_aald3 C dX1_worthOf_53 rkC_22 mmC_22 hg7 ?_
        refine ab_iload_n C dX1_worthOf_54 rfl ?_
        refine ab_iconst C dX1_worthOf_55 (v := 0) rfl ?_
        refine ab_iconst C dX1_worthOf_56 (v := 0) rfl ?_
        refine ab_iload_n C dX1_worthOf_57 rfl ?_
        obtain ⟨q8, hq8, h⟩ := ab_bind h
        refine ab_inv1 C dX1_worthOf_58 mlX1_131 yvX1_hostActs rkC_21 ⟨_, _, rfl⟩ mmC_21 (tX1_hostActs 64 l _ _ _ _ _ _ (ab_inb_lt hg7) hq8) (Nat.le_of_ble_eq_true rfl) (Nat.le_of_ble_eq_true rfl) rfl (Nat.le_of_ble_eq_true rfl) ?_
        obtain rfl := Option.some.inj h
        exact ab_lret C dX1_worthOf_61
      · replace h := ab_pos hc5 h
        refine ab_aload_n C dX1_worthOf_24 rfl ?_
        refine ab_getR C dX1_worthOf_25 flX1_39 rkC_21 rfl mmC_21 ?_
        refine ab_getR C dX1_worthOf_28 flX1_91 rkC_1 rfl mmC_1 ?_
        refine ab_iload_n C dX1_worthOf_31 rfl ?_
        obtain ⟨hg9, h⟩ := ab_grd h
        refine ab_iald C dX1_worthOf_32 rkC_2 mmC_2 hg9 ?_
        refine ab_i2l C dX1_worthOf_33  ?_
        refine ab_aload_n C dX1_worthOf_34 rfl ?_
        refine ab_getR C dX1_worthOf_35 flX1_39 rkC_21 rfl mmC_21 ?_
        obtain ⟨q10, hq10, h⟩ := ab_bind h
        refine ab_inv1 C dX1_worthOf_38 mlX1_124 yvX7_wholeActs rkC_1 ⟨_, _, rfl⟩ mmC_1 (tX7_wholeActs l _ hq10) (Nat.le_of_ble_eq_true rfl) (Nat.le_of_ble_eq_true rfl) rfl (Nat.le_of_ble_eq_true rfl) ?_
        refine ab_lmul C dX1_worthOf_41  ?_
        obtain rfl := Option.some.inj h
        exact ab_lret C dX1_worthOf_42
    · replace h := ab_pos hc4 h
      refine ab_weak (lv' := [none, none, none, none]) ⟨.inl rfl, ⟨.inl rfl, ⟨.inl rfl, ⟨.inl rfl, trivial⟩⟩⟩⟩ ?_
      exact gX1_worthOf_b18 C _ h
end
def fX2_dropOldest (σ : ab_S) : Option ab_S := (if ab_cpb 1 0 39 40 40 = true then ab_k (ab_ci σ 14 0 ((1 : Int32).toNatClampNeg) 14 0 ((0 : Int32).toNatClampNeg) ((39 : Int32).toNatClampNeg)) fun σ2 => (if ab_cpb 1 0 39 40 40 = true then ab_k (ab_ci σ2 15 0 ((1 : Int32).toNatClampNeg) 15 0 ((0 : Int32).toNatClampNeg) ((39 : Int32).toNatClampNeg)) fun σ4 => (if ab_cpb 1 0 39 40 40 = true then ab_k (ab_ci σ4 16 0 ((1 : Int32).toNatClampNeg) 16 0 ((0 : Int32).toNatClampNeg) ((39 : Int32).toNatClampNeg)) fun σ6 => (if ab_cpb 1 0 39 40 40 = true then ab_k (ab_ci σ6 17 0 ((1 : Int32).toNatClampNeg) 17 0 ((0 : Int32).toNatClampNeg) ((39 : Int32).toNatClampNeg)) fun σ8 => ab_k (ab_si σ8 13 0 4 39) fun σ9 => some σ9 else none) else none) else none) else none)
section
variable {p : Program} {l : Launch} {e : Env} {s : State} {m : MethodId} {args : Array Value} {below : List Frame} {meth : Method} {c : Code} {D : va_G} {cA : Nat → ClassId} {ad : Nat → Nat → Nat}
set_option maxRecDepth 100000 in
set_option maxHeartbeats 4000000 in
theorem tX2_dropOldest (l : Launch) (σ : ab_S) {R : ab_S} (h : fX2_dropOldest σ = some R) : ab_M l yC yX2_dropOldest cX2_dropOldest 1 none 1 [.inr (.inr (13, 0))] σ none R := by
  refine ab_M_intro ndC (by decide) (Nat.le_of_ble_eq_true rfl) ?_
  intro p e s m args below meth c D cA ad C
  have C : ab_C yC p s m args meth c D cA ad cX2_dropOldest 1 RX2 none := C
  refine ab_weak (lv' := [some (.inr (.inr (13, 0)))]) ⟨.inr rfl, trivial⟩ ?_
  refine ab_aload_n C dX2_dropOldest_0 rfl ?_
  refine ab_getR C dX2_dropOldest_1 flX2_11 rkC_13 rfl mmC_13 ?_
  refine ab_iconst C dX2_dropOldest_4 (v := 1) rfl ?_
  refine ab_aload_n C dX2_dropOldest_5 rfl ?_
  refine ab_getR C dX2_dropOldest_6 flX2_11 rkC_13 rfl mmC_13 ?_
  refine ab_iconst C dX2_dropOldest_9 (v := 0) rfl ?_
  refine ab_bipush C dX2_dropOldest_10 (v := 39) rfl ?_
  obtain ⟨hg1, h⟩ := ab_grd h
  refine ab_copyi C dX2_dropOldest_12 mlX2_34 rkC_14 mmC_14 rkC_14 mmC_14 hg1 (Nat.le_of_ble_eq_true rfl) (Nat.le_of_ble_eq_true rfl) ?_
  refine ab_nmS (fun σ2 eσ2 => ?_)
  replace h := ab_kh eσ2 h
  refine ab_aload_n C dX2_dropOldest_15 rfl ?_
  refine ab_getR C dX2_dropOldest_16 flX2_15 rkC_13 rfl mmC_13 ?_
  refine ab_iconst C dX2_dropOldest_19 (v := 1) rfl ?_
  refine ab_aload_n C dX2_dropOldest_20 rfl ?_
  refine ab_getR C dX2_dropOldest_21 flX2_15 rkC_13 rfl mmC_13 ?_
  refine ab_iconst C dX2_dropOldest_24 (v := 0) rfl ?_
  refine ab_bipush C dX2_dropOldest_25 (v := 39) rfl ?_
  obtain ⟨hg3, h⟩ := ab_grd h
  refine ab_copyi C dX2_dropOldest_27 mlX2_34 rkC_15 mmC_15 rkC_15 mmC_15 hg3 (Nat.le_of_ble_eq_true rfl) (Nat.le_of_ble_eq_true rfl) ?_
  refine ab_nmS (fun σ4 eσ4 => ?_)
  replace h := ab_kh eσ4 h
  refine ab_aload_n C dX2_dropOldest_30 rfl ?_
  refine ab_getR C dX2_dropOldest_31 flX2_18 rkC_13 rfl mmC_13 ?_
  refine ab_iconst C dX2_dropOldest_34 (v := 1) rfl ?_
  refine ab_aload_n C dX2_dropOldest_35 rfl ?_
  refine ab_getR C dX2_dropOldest_36 flX2_18 rkC_13 rfl mmC_13 ?_
  refine ab_iconst C dX2_dropOldest_39 (v := 0) rfl ?_
  refine ab_bipush C dX2_dropOldest_40 (v := 39) rfl ?_
  obtain ⟨hg5, h⟩ := ab_grd h
  refine ab_copyi C dX2_dropOldest_42 mlX2_34 rkC_16 mmC_16 rkC_16 mmC_16 hg5 (Nat.le_of_ble_eq_true rfl) (Nat.le_of_ble_eq_true rfl) ?_
  refine ab_nmS (fun σ6 eσ6 => ?_)
  replace h := ab_kh eσ6 h
  refine ab_aload_n C dX2_dropOldest_45 rfl ?_
  refine ab_getR C dX2_dropOldest_46 flX2_21 rkC_13 rfl mmC_13 ?_
  refine ab_iconst C dX2_dropOldest_49 (v := 1) rfl ?_
  refine ab_aload_n C dX2_dropOldest_50 rfl ?_
  refine ab_getR C dX2_dropOldest_51 flX2_21 rkC_13 rfl mmC_13 ?_
  refine ab_iconst C dX2_dropOldest_54 (v := 0) rfl ?_
  refine ab_bipush C dX2_dropOldest_55 (v := 39) rfl ?_
  obtain ⟨hg7, h⟩ := ab_grd h
  refine ab_copyi C dX2_dropOldest_57 mlX2_34 rkC_17 mmC_17 rkC_17 mmC_17 hg7 (Nat.le_of_ble_eq_true rfl) (Nat.le_of_ble_eq_true rfl) ?_
  refine ab_nmS (fun σ8 eσ8 => ?_)
  replace h := ab_kh eσ8 h
  refine ab_aload_n C dX2_dropOldest_60 rfl ?_
  refine ab_bipush C dX2_dropOldest_61 (v := 39) rfl ?_
  refine ab_putI C dX2_dropOldest_63 fpX2_24 rkC_13 rfl mmC_13 rfl rfl ?_
  refine ab_nmS (fun σ9 eσ9 => ?_)
  replace h := ab_kh eσ9 h
  obtain rfl := Option.some.inj h
  exact ab_vret C dX2_dropOldest_66
end
def fX2_add_b13 (v1 : Int32) (v2 : Int32) (v3 : Int32) (v4 : Int32) (σ : ab_S) : Option ab_S := (if ab_inb (σ.1 13 0 4) 40 = true then ab_k (ab_si σ 14 0 ((σ.1 13 0 4).toNatClampNeg) v1) fun σ2 => (if ab_inb (σ2.1 13 0 4) 40 = true then ab_k (ab_si σ2 15 0 ((σ2.1 13 0 4).toNatClampNeg) v2) fun σ4 => (if ab_inb (σ4.1 13 0 4) 40 = true then ab_k (ab_si σ4 16 0 ((σ4.1 13 0 4).toNatClampNeg) v3) fun σ6 => (if ab_inb (σ6.1 13 0 4) 40 = true then ab_k (ab_si σ6 17 0 ((σ6.1 13 0 4).toNatClampNeg) v4) fun σ8 => ab_k (ab_si σ8 13 0 4 ((σ8.1 13 0 4) + 1)) fun σ9 => ab_k (ab_si σ9 13 0 5 (σ9.1 13 0 4)) fun σ10 => some σ10 else none) else none) else none) else none)
def fX2_add (x1 : Int32) (x2 : Int32) (x3 : Int32) (x4 : Int32) (σ : ab_S) : Option ab_S := (if (σ.1 13 0 4) < 40 then fX2_add_b13 x1 x2 x3 x4 σ else (fX2_dropOldest σ).bind fun q2 => fX2_add_b13 x1 x2 x3 x4 q2)
section
variable {p : Program} {l : Launch} {e : Env} {s : State} {m : MethodId} {args : Array Value} {below : List Frame} {meth : Method} {c : Code} {D : va_G} {cA : Nat → ClassId} {ad : Nat → Nat → Nat}
set_option maxRecDepth 100000 in
set_option maxHeartbeats 4000000 in
theorem gX2_add_b13 {R : ab_S} (C : ab_C yC p s m args meth c D cA ad cX2_add 5 RX2 none) (v1 : Int32) (v2 : Int32) (v3 : Int32) (v4 : Int32) (σ : ab_S) (h : fX2_add_b13 v1 v2 v3 v4 σ = some R) : ab_G yC p l e s m args below meth c D cA ad 5 2 none R 13 [some (.inr (.inr (13, 0))), some (.inl v1), some (.inl v2), some (.inl v3), some (.inl v4)] [] σ := by
  refine ab_aload_n C dX2_add_13 rfl ?_
  refine ab_getR C dX2_add_14 flX2_11 rkC_13 rfl mmC_13 ?_
  refine ab_aload_n C dX2_add_17 rfl ?_
  refine ab_getI C dX2_add_18 flX2_24 rkC_13 rfl mmC_13 ?_
  refine ab_iload_n C dX2_add_21 rfl ?_
  obtain ⟨hg1, h⟩ := ab_grd h
  refine ab_iast C dX2_add_22 rkC_14 mmC_14 hg1 ?_
  refine ab_nmS (fun σ2 eσ2 => ?_)
  replace h := ab_kh eσ2 h
  refine ab_aload_n C dX2_add_23 rfl ?_
  refine ab_getR C dX2_add_24 flX2_15 rkC_13 rfl mmC_13 ?_
  refine ab_aload_n C dX2_add_27 rfl ?_
  refine ab_getI C dX2_add_28 flX2_24 rkC_13 rfl mmC_13 ?_
  refine ab_iload_n C dX2_add_31 rfl ?_
  obtain ⟨hg3, h⟩ := ab_grd h
  refine ab_iast C dX2_add_32 rkC_15 mmC_15 hg3 ?_
  refine ab_nmS (fun σ4 eσ4 => ?_)
  replace h := ab_kh eσ4 h
  refine ab_aload_n C dX2_add_33 rfl ?_
  refine ab_getR C dX2_add_34 flX2_18 rkC_13 rfl mmC_13 ?_
  refine ab_aload_n C dX2_add_37 rfl ?_
  refine ab_getI C dX2_add_38 flX2_24 rkC_13 rfl mmC_13 ?_
  refine ab_iload_n C dX2_add_41 rfl ?_
  obtain ⟨hg5, h⟩ := ab_grd h
  refine ab_iast C dX2_add_42 rkC_16 mmC_16 hg5 ?_
  refine ab_nmS (fun σ6 eσ6 => ?_)
  replace h := ab_kh eσ6 h
  refine ab_aload_n C dX2_add_43 rfl ?_
  refine ab_getR C dX2_add_44 flX2_21 rkC_13 rfl mmC_13 ?_
  refine ab_aload_n C dX2_add_47 rfl ?_
  refine ab_getI C dX2_add_48 flX2_24 rkC_13 rfl mmC_13 ?_
  refine ab_iload C dX2_add_51 rfl ?_
  obtain ⟨hg7, h⟩ := ab_grd h
  refine ab_iast C dX2_add_53 rkC_17 mmC_17 hg7 ?_
  refine ab_nmS (fun σ8 eσ8 => ?_)
  replace h := ab_kh eσ8 h
  refine ab_aload_n C dX2_add_54 rfl ?_
  refine ab_dup C dX2_add_55 rfl ?_
  refine ab_getI C dX2_add_56 flX2_24 rkC_13 rfl mmC_13 ?_
  refine ab_iconst C dX2_add_59 (v := 1) rfl ?_
  refine ab_iadd C dX2_add_60  ?_
  refine ab_putI C dX2_add_61 fpX2_24 rkC_13 rfl mmC_13 rfl rfl ?_
  refine ab_nmS (fun σ9 eσ9 => ?_)
  replace h := ab_kh eσ9 h
  refine ab_aload_n C dX2_add_64 rfl ?_
  refine ab_aload_n C dX2_add_65 rfl ?_
  refine ab_getI C dX2_add_66 flX2_24 rkC_13 rfl mmC_13 ?_
  refine ab_putI C dX2_add_69 fpX2_28 rkC_13 rfl mmC_13 rfl rfl ?_
  refine ab_nmS (fun σ10 eσ10 => ?_)
  replace h := ab_kh eσ10 h
  obtain rfl := Option.some.inj h
  exact ab_vret C dX2_add_72
set_option maxRecDepth 100000 in
set_option maxHeartbeats 4000000 in
theorem tX2_add (l : Launch) (x1 : Int32) (x2 : Int32) (x3 : Int32) (x4 : Int32) (σ : ab_S) {R : ab_S} (h : fX2_add x1 x2 x3 x4 σ = some R) : ab_M l yC yX2_add cX2_add 5 none 2 [.inr (.inr (13, 0)), .inl x1, .inl x2, .inl x3, .inl x4] σ none R := by
  refine ab_M_intro ndC (by decide) (Nat.le_of_ble_eq_true rfl) ?_
  intro p e s m args below meth c D cA ad C
  have C : ab_C yC p s m args meth c D cA ad cX2_add 5 RX2 none := C
  refine ab_weak (lv' := [some (.inr (.inr (13, 0))), some (.inl x1), some (.inl x2), some (.inl x3), some (.inl x4)]) ⟨.inr rfl, ⟨.inr rfl, ⟨.inr rfl, ⟨.inr rfl, ⟨.inr rfl, trivial⟩⟩⟩⟩⟩ ?_
  refine ab_aload_n C dX2_add_0 rfl ?_
  refine ab_getI C dX2_add_1 flX2_24 rkC_13 rfl mmC_13 ?_
  refine ab_bipush C dX2_add_4 (v := 40) rfl ?_
  refine ab_icmp_lt C (tgt := 13) dX2_add_6 (by decide) (fun hc1 => ?_) (fun hc1 => ?_)
  · replace h := ab_pos hc1 h
    refine ab_weak (lv' := [some (.inr (.inr (13, 0))), some (.inl x1), some (.inl x2), some (.inl x3), some (.inl x4)]) ⟨.inr rfl, ⟨.inr rfl, ⟨.inr rfl, ⟨.inr rfl, ⟨.inr rfl, trivial⟩⟩⟩⟩⟩ ?_
    exact gX2_add_b13 C _ _ _ _ _ h
  · replace h := ab_neg hc1 h
    refine ab_aload_n C dX2_add_9 rfl ?_
    obtain ⟨q2, hq2, h⟩ := ab_bind h
    refine ab_inv0 C dX2_add_10 mlX2_31 yvX2_dropOldest rkC_13 ⟨_, _, rfl⟩ mmC_13 (tX2_dropOldest l _ hq2) (Nat.le_of_ble_eq_true rfl) (Nat.le_of_ble_eq_true rfl) rfl (Nat.le_of_ble_eq_true rfl) ?_
    refine ab_weak (lv' := [some (.inr (.inr (13, 0))), some (.inl x1), some (.inl x2), some (.inl x3), some (.inl x4)]) ⟨.inr rfl, ⟨.inr rfl, ⟨.inr rfl, ⟨.inr rfl, ⟨.inr rfl, trivial⟩⟩⟩⟩⟩ ?_
    exact gX2_add_b13 C _ _ _ _ _ h
end
def fX2_clear (σ : ab_S) : Option ab_S := ab_k (ab_si σ 13 0 4 0) fun σ1 => ab_k (ab_si σ1 13 0 5 0) fun σ2 => some σ2
section
variable {p : Program} {l : Launch} {e : Env} {s : State} {m : MethodId} {args : Array Value} {below : List Frame} {meth : Method} {c : Code} {D : va_G} {cA : Nat → ClassId} {ad : Nat → Nat → Nat}
set_option maxRecDepth 100000 in
set_option maxHeartbeats 4000000 in
theorem tX2_clear (l : Launch) (σ : ab_S) {R : ab_S} (h : fX2_clear σ = some R) : ab_M l yC yX2_clear cX2_clear 1 none 0 [.inr (.inr (13, 0))] σ none R := by
  refine ab_M_intro ndC (by decide) (Nat.le_of_ble_eq_true rfl) ?_
  intro p e s m args below meth c D cA ad C
  have C : ab_C yC p s m args meth c D cA ad cX2_clear 1 RX2 none := C
  refine ab_weak (lv' := [some (.inr (.inr (13, 0)))]) ⟨.inr rfl, trivial⟩ ?_
  refine ab_aload_n C dX2_clear_0 rfl ?_
  refine ab_iconst C dX2_clear_1 (v := 0) rfl ?_
  refine ab_putI C dX2_clear_2 fpX2_24 rkC_13 rfl mmC_13 rfl rfl ?_
  refine ab_nmS (fun σ1 eσ1 => ?_)
  replace h := ab_kh eσ1 h
  refine ab_aload_n C dX2_clear_5 rfl ?_
  refine ab_iconst C dX2_clear_6 (v := 0) rfl ?_
  refine ab_putI C dX2_clear_7 fpX2_28 rkC_13 rfl mmC_13 rfl rfl ?_
  refine ab_nmS (fun σ2 eσ2 => ?_)
  replace h := ab_kh eσ2 h
  obtain rfl := Option.some.inj h
  exact ab_vret C dX2_clear_10
end
def fX7_weigh (x1 : Int32) (x2 : Int32) (σ : ab_S) : Option ab_S := (fX7_has x1 σ).bind fun q1 => (if q1 = 0 then some σ else (if ab_inb x1 5 = true then ab_k (ab_si σ 2 0 x1.toNatClampNeg x2) fun σ4 => ab_k (ab_si σ4 1 0 6 ((σ4.1 1 0 6) + 1)) fun σ5 => some σ5 else none))
section
variable {p : Program} {l : Launch} {e : Env} {s : State} {m : MethodId} {args : Array Value} {below : List Frame} {meth : Method} {c : Code} {D : va_G} {cA : Nat → ClassId} {ad : Nat → Nat → Nat}
set_option maxRecDepth 100000 in
set_option maxHeartbeats 4000000 in
theorem tX7_weigh (l : Launch) (x1 : Int32) (x2 : Int32) (σ : ab_S) {R : ab_S} (h : fX7_weigh x1 x2 σ = some R) : ab_M l yC yX7_weigh cX7_weigh 3 none 1 [.inr (.inr (1, 0)), .inl x1, .inl x2] σ none R := by
  refine ab_M_intro ndC (by decide) (Nat.le_of_ble_eq_true rfl) ?_
  intro p e s m args below meth c D cA ad C
  have C : ab_C yC p s m args meth c D cA ad cX7_weigh 3 RX7 none := C
  refine ab_weak (lv' := [some (.inr (.inr (1, 0))), some (.inl x1), some (.inl x2)]) ⟨.inr rfl, ⟨.inr rfl, ⟨.inr rfl, trivial⟩⟩⟩ ?_
  refine ab_aload_n C dX7_weigh_0 rfl ?_
  refine ab_iload_n C dX7_weigh_1 rfl ?_
  obtain ⟨q1, hq1, h⟩ := ab_bind h
  refine ab_inv1 C dX7_weigh_2 mlX7_57 yvX7_has rkC_1 ⟨_, _, rfl⟩ mmC_1 (tX7_has l _ _ hq1) (Nat.le_of_ble_eq_true rfl) (Nat.le_of_ble_eq_true rfl) rfl (Nat.le_of_ble_eq_true rfl) ?_
  refine ab_if_ne C (tgt := 9) dX7_weigh_5 (by decide) (fun hc2 => ?_) (fun hc2 => ?_)
  · replace h := ab_neg hc2 h
    refine ab_aload_n C dX7_weigh_9 rfl ?_
    refine ab_getR C dX7_weigh_10 flX7_9 rkC_1 rfl mmC_1 ?_
    refine ab_iload_n C dX7_weigh_13 rfl ?_
    refine ab_iload_n C dX7_weigh_14 rfl ?_
    obtain ⟨hg3, h⟩ := ab_grd h
    refine ab_iast C dX7_weigh_15 rkC_2 mmC_2 hg3 ?_
    refine ab_nmS (fun σ4 eσ4 => ?_)
    replace h := ab_kh eσ4 h
    refine ab_aload_n C dX7_weigh_16 rfl ?_
    refine ab_dup C dX7_weigh_17 rfl ?_
    refine ab_getI C dX7_weigh_18 flX7_41 rkC_1 rfl mmC_1 ?_
    refine ab_iconst C dX7_weigh_21 (v := 1) rfl ?_
    refine ab_iadd C dX7_weigh_22  ?_
    refine ab_putI C dX7_weigh_23 fpX7_41 rkC_1 rfl mmC_1 rfl rfl ?_
    refine ab_nmS (fun σ5 eσ5 => ?_)
    replace h := ab_kh eσ5 h
    obtain rfl := Option.some.inj h
    exact ab_vret C dX7_weigh_26
  · replace h := ab_pos hc2 h
    obtain rfl := Option.some.inj h
    exact ab_vret C dX7_weigh_8
end
def fX7_tell_b32 (σ : ab_S) : Option ab_S := ab_k (ab_si σ 1 0 6 ((σ.1 1 0 6) + 1)) fun σ1 => some σ1
def fX7_tell (x1 : Int32) (x2 : Int32) (x3 : Int32) (σ : ab_S) : Option ab_S := (if x2 = 1 then ab_k (ab_si σ 1 0 4 x3) fun σ5 => fX7_tell_b32 σ5 else (if x2 = 2 then ab_k (ab_si σ 1 0 5 x3) fun σ4 => fX7_tell_b32 σ4 else (fX7_weigh x1 x3 σ).bind fun q3 => fX7_tell_b32 q3))
section
variable {p : Program} {l : Launch} {e : Env} {s : State} {m : MethodId} {args : Array Value} {below : List Frame} {meth : Method} {c : Code} {D : va_G} {cA : Nat → ClassId} {ad : Nat → Nat → Nat}
set_option maxRecDepth 100000 in
set_option maxHeartbeats 4000000 in
theorem gX7_tell_b32 {R : ab_S} (C : ab_C yC p s m args meth c D cA ad cX7_tell 4 RX7 none) (σ : ab_S) (h : fX7_tell_b32 σ = some R) : ab_G yC p l e s m args below meth c D cA ad 4 2 none R 32 [some (.inr (.inr (1, 0))), none, none, none] [] σ := by
  refine ab_aload_n C dX7_tell_32 rfl ?_
  refine ab_dup C dX7_tell_33 rfl ?_
  refine ab_getI C dX7_tell_34 flX7_41 rkC_1 rfl mmC_1 ?_
  refine ab_iconst C dX7_tell_37 (v := 1) rfl ?_
  refine ab_iadd C dX7_tell_38  ?_
  refine ab_putI C dX7_tell_39 fpX7_41 rkC_1 rfl mmC_1 rfl rfl ?_
  refine ab_nmS (fun σ1 eσ1 => ?_)
  replace h := ab_kh eσ1 h
  obtain rfl := Option.some.inj h
  exact ab_vret C dX7_tell_42
set_option maxRecDepth 100000 in
set_option maxHeartbeats 4000000 in
theorem tX7_tell (l : Launch) (x1 : Int32) (x2 : Int32) (x3 : Int32) (σ : ab_S) {R : ab_S} (h : fX7_tell x1 x2 x3 σ = some R) : ab_M l yC yX7_tell cX7_tell 4 none 2 [.inr (.inr (1, 0)), .inl x1, .inl x2, .inl x3] σ none R := by
  refine ab_M_intro ndC (by decide) (Nat.le_of_ble_eq_true rfl) ?_
  intro p e s m args below meth c D cA ad C
  have C : ab_C yC p s m args meth c D cA ad cX7_tell 4 RX7 none := C
  refine ab_weak (lv' := [some (.inr (.inr (1, 0))), some (.inl x1), some (.inl x2), some (.inl x3)]) ⟨.inr rfl, ⟨.inr rfl, ⟨.inr rfl, ⟨.inr rfl, trivial⟩⟩⟩⟩ ?_
  refine ab_iload_n C dX7_tell_0 rfl ?_
  refine ab_iconst C dX7_tell_1 (v := 1) rfl ?_
  refine ab_icmp_ne C (tgt := 13) dX7_tell_2 (by decide) (fun hc1 => ?_) (fun hc1 => ?_)
  · replace h := ab_neg hc1 h
    refine ab_iload_n C dX7_tell_13 rfl ?_
    refine ab_iconst C dX7_tell_14 (v := 2) rfl ?_
    refine ab_icmp_ne C (tgt := 26) dX7_tell_15 (by decide) (fun hc2 => ?_) (fun hc2 => ?_)
    · replace h := ab_neg hc2 h
      refine ab_aload_n C dX7_tell_26 rfl ?_
      refine ab_iload_n C dX7_tell_27 rfl ?_
      refine ab_iload_n C dX7_tell_28 rfl ?_
      obtain ⟨q3, hq3, h⟩ := ab_bind h
      refine ab_inv0 C dX7_tell_29 mlX7_61 yvX7_weigh rkC_1 ⟨_, _, rfl⟩ mmC_1 (tX7_weigh l _ _ _ hq3) (Nat.le_of_ble_eq_true rfl) (Nat.le_of_ble_eq_true rfl) rfl (Nat.le_of_ble_eq_true rfl) ?_
      refine ab_weak (lv' := [some (.inr (.inr (1, 0))), none, none, none]) ⟨.inr rfl, ⟨.inl rfl, ⟨.inl rfl, ⟨.inl rfl, trivial⟩⟩⟩⟩ ?_
      exact gX7_tell_b32 C _ h
    · replace h := ab_pos hc2 h
      refine ab_aload_n C dX7_tell_18 rfl ?_
      refine ab_iload_n C dX7_tell_19 rfl ?_
      refine ab_putI C dX7_tell_20 fpX7_25 rkC_1 rfl mmC_1 rfl rfl ?_
      refine ab_nmS (fun σ4 eσ4 => ?_)
      replace h := ab_kh eσ4 h
      refine ab_goto C (tgt := 32) dX7_tell_23 (by decide) ?_
      refine ab_weak (lv' := [some (.inr (.inr (1, 0))), none, none, none]) ⟨.inr rfl, ⟨.inl rfl, ⟨.inl rfl, ⟨.inl rfl, trivial⟩⟩⟩⟩ ?_
      exact gX7_tell_b32 C _ h
  · replace h := ab_pos hc1 h
    refine ab_aload_n C dX7_tell_5 rfl ?_
    refine ab_iload_n C dX7_tell_6 rfl ?_
    refine ab_putI C dX7_tell_7 fpX7_21 rkC_1 rfl mmC_1 rfl rfl ?_
    refine ab_nmS (fun σ5 eσ5 => ?_)
    replace h := ab_kh eσ5 h
    refine ab_goto C (tgt := 32) dX7_tell_10 (by decide) ?_
    refine ab_weak (lv' := [some (.inr (.inr (1, 0))), none, none, none]) ⟨.inr rfl, ⟨.inl rfl, ⟨.inl rfl, ⟨.inl rfl, trivial⟩⟩⟩⟩ ?_
    exact gX7_tell_b32 C _ h
end
def fX2_makeAgain_b20 (σ : ab_S) : Option (Int32 × ab_S) := some ((-5), σ)
def fX2_makeAgain (σ : ab_S) : Option (Int32 × ab_S) := (if (σ.1 13 0 5) ≤ (σ.1 13 0 4) then fX2_makeAgain_b20 σ else (if (σ.1 13 0 4) < 40 then (if ab_inb (σ.1 13 0 4) 40 = true then (if ab_inb (σ.1 13 0 4) 40 = true then (if ab_inb (σ.1 13 0 4) 40 = true then (fX7_tell (σ.1 14 0 ((σ.1 13 0 4).toNatClampNeg)) (σ.1 15 0 ((σ.1 13 0 4).toNatClampNeg)) (σ.1 17 0 ((σ.1 13 0 4).toNatClampNeg)) σ).bind fun q6 => ab_k (ab_si q6 13 0 4 ((q6.1 13 0 4) + 1)) fun σ7 => some ((σ7.1 13 0 5) - (σ7.1 13 0 4), σ7) else none) else none) else none) else fX2_makeAgain_b20 σ))
section
variable {p : Program} {l : Launch} {e : Env} {s : State} {m : MethodId} {args : Array Value} {below : List Frame} {meth : Method} {c : Code} {D : va_G} {cA : Nat → ClassId} {ad : Nat → Nat → Nat}
set_option maxRecDepth 100000 in
set_option maxHeartbeats 4000000 in
theorem gX2_makeAgain_b20 {R : (Int32 × ab_S)} (C : ab_C yC p s m args meth c D cA ad cX2_makeAgain 2 RX2 (some .int)) (σ : ab_S) (h : fX2_makeAgain_b20 σ = some R) : ab_G yC p l e s m args below meth c D cA ad 2 3 (some (.inl R.1)) R.2 20 [none, none] [] σ := by
  refine ab_bipush C dX2_makeAgain_20 (v := (-5)) rfl ?_
  obtain rfl := Option.some.inj h
  exact ab_iret C dX2_makeAgain_22
set_option maxRecDepth 100000 in
set_option maxHeartbeats 4000000 in
theorem tX2_makeAgain (l : Launch) (σ : ab_S) {R : (Int32 × ab_S)} (h : fX2_makeAgain σ = some R) : ab_M l yC yX2_makeAgain cX2_makeAgain 2 (some .int) 3 [.inr (.inr (13, 0)), .inr (.inr (1, 0))] σ (some (.inl R.1)) R.2 := by
  refine ab_M_intro ndC (by decide) (Nat.le_of_ble_eq_true rfl) ?_
  intro p e s m args below meth c D cA ad C
  have C : ab_C yC p s m args meth c D cA ad cX2_makeAgain 2 RX2 (some .int) := C
  refine ab_weak (lv' := [some (.inr (.inr (13, 0))), some (.inr (.inr (1, 0)))]) ⟨.inr rfl, ⟨.inr rfl, trivial⟩⟩ ?_
  refine ab_aload_n C dX2_makeAgain_0 rfl ?_
  refine ab_getI C dX2_makeAgain_1 flX2_24 rkC_13 rfl mmC_13 ?_
  refine ab_aload_n C dX2_makeAgain_4 rfl ?_
  refine ab_getI C dX2_makeAgain_5 flX2_28 rkC_13 rfl mmC_13 ?_
  refine ab_icmp_ge C (tgt := 20) dX2_makeAgain_8 (by decide) (fun hc1 => ?_) (fun hc1 => ?_)
  · replace h := ab_pos hc1 h
    refine ab_weak (lv' := [none, none]) ⟨.inl rfl, ⟨.inl rfl, trivial⟩⟩ ?_
    exact gX2_makeAgain_b20 C _ h
  · replace h := ab_neg hc1 h
    refine ab_aload_n C dX2_makeAgain_11 rfl ?_
    refine ab_getI C dX2_makeAgain_12 flX2_24 rkC_13 rfl mmC_13 ?_
    refine ab_bipush C dX2_makeAgain_15 (v := 40) rfl ?_
    refine ab_icmp_lt C (tgt := 23) dX2_makeAgain_17 (by decide) (fun hc2 => ?_) (fun hc2 => ?_)
    · replace h := ab_pos hc2 h
      refine ab_aload_n C dX2_makeAgain_23 rfl ?_
      refine ab_aload_n C dX2_makeAgain_24 rfl ?_
      refine ab_getR C dX2_makeAgain_25 flX2_11 rkC_13 rfl mmC_13 ?_
      refine ab_aload_n C dX2_makeAgain_28 rfl ?_
      refine ab_getI C dX2_makeAgain_29 flX2_24 rkC_13 rfl mmC_13 ?_
      obtain ⟨hg3, h⟩ := ab_grd h
      refine ab_iald C dX2_makeAgain_32 rkC_14 mmC_14 hg3 ?_
      refine ab_aload_n C dX2_makeAgain_33 rfl ?_
      refine ab_getR C dX2_makeAgain_34 flX2_15 rkC_13 rfl mmC_13 ?_
      refine ab_aload_n C dX2_makeAgain_37 rfl ?_
      refine ab_getI C dX2_makeAgain_38 flX2_24 rkC_13 rfl mmC_13 ?_
      obtain ⟨hg4, h⟩ := ab_grd h
      refine ab_iald C dX2_makeAgain_41 rkC_15 mmC_15 hg4 ?_
      refine ab_aload_n C dX2_makeAgain_42 rfl ?_
      refine ab_getR C dX2_makeAgain_43 flX2_21 rkC_13 rfl mmC_13 ?_
      refine ab_aload_n C dX2_makeAgain_46 rfl ?_
      refine ab_getI C dX2_makeAgain_47 flX2_24 rkC_13 rfl mmC_13 ?_
      obtain ⟨hg5, h⟩ := ab_grd h
      refine ab_iald C dX2_makeAgain_50 rkC_17 mmC_17 hg5 ?_
      obtain ⟨q6, hq6, h⟩ := ab_bind h
      refine ab_inv0 C dX2_makeAgain_51 mlX2_40 yvX7_tell rkC_1 ⟨_, _, rfl⟩ mmC_1 (tX7_tell l _ _ _ _ hq6) (Nat.le_of_ble_eq_true rfl) (Nat.le_of_ble_eq_true rfl) rfl (Nat.le_of_ble_eq_true rfl) ?_
      refine ab_aload_n C dX2_makeAgain_54 rfl ?_
      refine ab_dup C dX2_makeAgain_55 rfl ?_
      refine ab_getI C dX2_makeAgain_56 flX2_24 rkC_13 rfl mmC_13 ?_
      refine ab_iconst C dX2_makeAgain_59 (v := 1) rfl ?_
      refine ab_iadd C dX2_makeAgain_60  ?_
      refine ab_putI C dX2_makeAgain_61 fpX2_24 rkC_13 rfl mmC_13 rfl rfl ?_
      refine ab_nmS (fun σ7 eσ7 => ?_)
      replace h := ab_kh eσ7 h
      refine ab_aload_n C dX2_makeAgain_64 rfl ?_
      refine ab_getI C dX2_makeAgain_65 flX2_28 rkC_13 rfl mmC_13 ?_
      refine ab_aload_n C dX2_makeAgain_68 rfl ?_
      refine ab_getI C dX2_makeAgain_69 flX2_24 rkC_13 rfl mmC_13 ?_
      refine ab_isub C dX2_makeAgain_72  ?_
      obtain rfl := Option.some.inj h
      exact ab_iret C dX2_makeAgain_73
    · replace h := ab_neg hc2 h
      refine ab_weak (lv' := [none, none]) ⟨.inl rfl, ⟨.inl rfl, trivial⟩⟩ ?_
      exact gX2_makeAgain_b20 C _ h
end
def fX2_takeBack (σ : ab_S) : Option (Int32 × ab_S) := (if 0 < (σ.1 13 0 4) then ab_k (ab_si σ 13 0 4 ((σ.1 13 0 4) - 1)) fun σ2 => (if ab_inb (σ2.1 13 0 4) 40 = true then (if ab_inb (σ2.1 13 0 4) 40 = true then (if ab_inb (σ2.1 13 0 4) 40 = true then (fX7_tell (σ2.1 14 0 ((σ2.1 13 0 4).toNatClampNeg)) (σ2.1 15 0 ((σ2.1 13 0 4).toNatClampNeg)) (σ2.1 16 0 ((σ2.1 13 0 4).toNatClampNeg)) σ2).bind fun q6 => some (q6.1 13 0 4, q6) else none) else none) else none) else some ((-5), σ))
section
variable {p : Program} {l : Launch} {e : Env} {s : State} {m : MethodId} {args : Array Value} {below : List Frame} {meth : Method} {c : Code} {D : va_G} {cA : Nat → ClassId} {ad : Nat → Nat → Nat}
set_option maxRecDepth 100000 in
set_option maxHeartbeats 4000000 in
theorem tX2_takeBack (l : Launch) (σ : ab_S) {R : (Int32 × ab_S)} (h : fX2_takeBack σ = some R) : ab_M l yC yX2_takeBack cX2_takeBack 2 (some .int) 3 [.inr (.inr (13, 0)), .inr (.inr (1, 0))] σ (some (.inl R.1)) R.2 := by
  refine ab_M_intro ndC (by decide) (Nat.le_of_ble_eq_true rfl) ?_
  intro p e s m args below meth c D cA ad C
  have C : ab_C yC p s m args meth c D cA ad cX2_takeBack 2 RX2 (some .int) := C
  refine ab_weak (lv' := [some (.inr (.inr (13, 0))), some (.inr (.inr (1, 0)))]) ⟨.inr rfl, ⟨.inr rfl, trivial⟩⟩ ?_
  refine ab_aload_n C dX2_takeBack_0 rfl ?_
  refine ab_getI C dX2_takeBack_1 flX2_24 rkC_13 rfl mmC_13 ?_
  refine ab_if_gt C (tgt := 10) dX2_takeBack_4 (by decide) (fun hc1 => ?_) (fun hc1 => ?_)
  · replace h := ab_pos hc1 h
    refine ab_aload_n C dX2_takeBack_10 rfl ?_
    refine ab_dup C dX2_takeBack_11 rfl ?_
    refine ab_getI C dX2_takeBack_12 flX2_24 rkC_13 rfl mmC_13 ?_
    refine ab_iconst C dX2_takeBack_15 (v := 1) rfl ?_
    refine ab_isub C dX2_takeBack_16  ?_
    refine ab_putI C dX2_takeBack_17 fpX2_24 rkC_13 rfl mmC_13 rfl rfl ?_
    refine ab_nmS (fun σ2 eσ2 => ?_)
    replace h := ab_kh eσ2 h
    refine ab_aload_n C dX2_takeBack_20 rfl ?_
    refine ab_aload_n C dX2_takeBack_21 rfl ?_
    refine ab_getR C dX2_takeBack_22 flX2_11 rkC_13 rfl mmC_13 ?_
    refine ab_aload_n C dX2_takeBack_25 rfl ?_
    refine ab_getI C dX2_takeBack_26 flX2_24 rkC_13 rfl mmC_13 ?_
    obtain ⟨hg3, h⟩ := ab_grd h
    refine ab_iald C dX2_takeBack_29 rkC_14 mmC_14 hg3 ?_
    refine ab_aload_n C dX2_takeBack_30 rfl ?_
    refine ab_getR C dX2_takeBack_31 flX2_15 rkC_13 rfl mmC_13 ?_
    refine ab_aload_n C dX2_takeBack_34 rfl ?_
    refine ab_getI C dX2_takeBack_35 flX2_24 rkC_13 rfl mmC_13 ?_
    obtain ⟨hg4, h⟩ := ab_grd h
    refine ab_iald C dX2_takeBack_38 rkC_15 mmC_15 hg4 ?_
    refine ab_aload_n C dX2_takeBack_39 rfl ?_
    refine ab_getR C dX2_takeBack_40 flX2_18 rkC_13 rfl mmC_13 ?_
    refine ab_aload_n C dX2_takeBack_43 rfl ?_
    refine ab_getI C dX2_takeBack_44 flX2_24 rkC_13 rfl mmC_13 ?_
    obtain ⟨hg5, h⟩ := ab_grd h
    refine ab_iald C dX2_takeBack_47 rkC_16 mmC_16 hg5 ?_
    obtain ⟨q6, hq6, h⟩ := ab_bind h
    refine ab_inv0 C dX2_takeBack_48 mlX2_40 yvX7_tell rkC_1 ⟨_, _, rfl⟩ mmC_1 (tX7_tell l _ _ _ _ hq6) (Nat.le_of_ble_eq_true rfl) (Nat.le_of_ble_eq_true rfl) rfl (Nat.le_of_ble_eq_true rfl) ?_
    refine ab_aload_n C dX2_takeBack_51 rfl ?_
    refine ab_getI C dX2_takeBack_52 flX2_24 rkC_13 rfl mmC_13 ?_
    obtain rfl := Option.some.inj h
    exact ab_iret C dX2_takeBack_55
  · replace h := ab_neg hc1 h
    refine ab_bipush C dX2_takeBack_7 (v := (-5)) rfl ?_
    obtain rfl := Option.some.inj h
    exact ab_iret C dX2_takeBack_9
end
def fX3_begin (x1 : Int32) (σ : ab_S) : Option ab_S := ab_k (ab_si σ 35 0 2 x1) fun σ1 => some σ1
section
variable {p : Program} {l : Launch} {e : Env} {s : State} {m : MethodId} {args : Array Value} {below : List Frame} {meth : Method} {c : Code} {D : va_G} {cA : Nat → ClassId} {ad : Nat → Nat → Nat}
set_option maxRecDepth 100000 in
set_option maxHeartbeats 4000000 in
theorem tX3_begin (l : Launch) (x1 : Int32) (σ : ab_S) {R : ab_S} (h : fX3_begin x1 σ = some R) : ab_M l yC yX3_begin cX3_begin 2 none 0 [.inr (.inr (35, 0)), .inl x1] σ none R := by
  refine ab_M_intro ndC (by decide) (Nat.le_of_ble_eq_true rfl) ?_
  intro p e s m args below meth c D cA ad C
  have C : ab_C yC p s m args meth c D cA ad cX3_begin 2 RX3 none := C
  refine ab_weak (lv' := [some (.inr (.inr (35, 0))), some (.inl x1)]) ⟨.inr rfl, ⟨.inr rfl, trivial⟩⟩ ?_
  refine ab_aload_n C dX3_begin_0 rfl ?_
  refine ab_iload_n C dX3_begin_1 rfl ?_
  refine ab_putI C dX3_begin_2 fpX3_19 rkC_35 rfl mmC_35 rfl rfl ?_
  refine ab_nmS (fun σ1 eσ1 => ?_)
  replace h := ab_kh eσ1 h
  obtain rfl := Option.some.inj h
  exact ab_vret C dX3_begin_5
end
def fX3_drawOf_b32 (t0 : Int32) (σ : ab_S) : Option (Int32 × ab_S) := some (t0, σ)
def fX3_drawOf (x1 : Int32) (σ : ab_S) : Option (Int32 × ab_S) := ab_k (ab_si σ 35 0 2 (((σ.1 35 0 2) * 1103515245) + 12345)) fun σ1 => (if x1 ≤ 0 then fX3_drawOf_b32 0 σ1 else (if x1 = 0 then none else fX3_drawOf_b32 (ab_mod (ab_ushr (σ1.1 35 0 2) 8) x1) σ1))
section
variable {p : Program} {l : Launch} {e : Env} {s : State} {m : MethodId} {args : Array Value} {below : List Frame} {meth : Method} {c : Code} {D : va_G} {cA : Nat → ClassId} {ad : Nat → Nat → Nat}
set_option maxRecDepth 100000 in
set_option maxHeartbeats 4000000 in
theorem gX3_drawOf_b32 {R : (Int32 × ab_S)} (C : ab_C yC p s m args meth c D cA ad cX3_drawOf 2 RX3 (some .int)) (t0 : Int32) (σ : ab_S) (h : fX3_drawOf_b32 t0 σ = some R) : ab_G yC p l e s m args below meth c D cA ad 2 0 (some (.inl R.1)) R.2 32 [none, none] [.inl t0] σ := by
  obtain rfl := Option.some.inj h
  exact ab_iret C dX3_drawOf_32
set_option maxRecDepth 100000 in
set_option maxHeartbeats 4000000 in
theorem tX3_drawOf (l : Launch) (x1 : Int32) (σ : ab_S) {R : (Int32 × ab_S)} (h : fX3_drawOf x1 σ = some R) : ab_M l yC yX3_drawOf cX3_drawOf 2 (some .int) 0 [.inr (.inr (35, 0)), .inl x1] σ (some (.inl R.1)) R.2 := by
  refine ab_M_intro ndC (by decide) (Nat.le_of_ble_eq_true rfl) ?_
  intro p e s m args below meth c D cA ad C
  have C : ab_C yC p s m args meth c D cA ad cX3_drawOf 2 RX3 (some .int) := C
  refine ab_weak (lv' := [some (.inr (.inr (35, 0))), some (.inl x1)]) ⟨.inr rfl, ⟨.inr rfl, trivial⟩⟩ ?_
  refine ab_aload_n C dX3_drawOf_0 rfl ?_
  refine ab_aload_n C dX3_drawOf_1 rfl ?_
  refine ab_getI C dX3_drawOf_2 flX3_19 rkC_35 rfl mmC_35 ?_
  refine ab_ldc C dX3_drawOf_5 cwX3_69 ?_
  refine ab_imul C dX3_drawOf_7  ?_
  refine ab_sipush C dX3_drawOf_8 (v := 12345) rfl ?_
  refine ab_iadd C dX3_drawOf_11  ?_
  refine ab_putI C dX3_drawOf_12 fpX3_19 rkC_35 rfl mmC_35 rfl rfl ?_
  refine ab_nmS (fun σ1 eσ1 => ?_)
  replace h := ab_kh eσ1 h
  refine ab_iload_n C dX3_drawOf_15 rfl ?_
  refine ab_if_le C (tgt := 31) dX3_drawOf_16 (by decide) (fun hc2 => ?_) (fun hc2 => ?_)
  · replace h := ab_pos hc2 h
    refine ab_iconst C dX3_drawOf_31 (v := 0) rfl ?_
    refine ab_weak (lv' := [none, none]) ⟨.inl rfl, ⟨.inl rfl, trivial⟩⟩ ?_
    exact gX3_drawOf_b32 C _ _ h
  · replace h := ab_neg hc2 h
    refine ab_aload_n C dX3_drawOf_19 rfl ?_
    refine ab_getI C dX3_drawOf_20 flX3_19 rkC_35 rfl mmC_35 ?_
    refine ab_bipush C dX3_drawOf_23 (v := 8) rfl ?_
    refine ab_iushr C dX3_drawOf_25  ?_
    refine ab_iload_n C dX3_drawOf_26 rfl ?_
    obtain ⟨hg3, h⟩ := ab_grn h
    refine ab_irem C dX3_drawOf_27 hg3 ?_
    refine ab_goto C (tgt := 32) dX3_drawOf_28 (by decide) ?_
    refine ab_weak (lv' := [none, none]) ⟨.inl rfl, ⟨.inl rfl, trivial⟩⟩ ?_
    exact gX3_drawOf_b32 C _ _ h
end
def fX3_drawAct_b66 (kk9 : Int32 → Int32 → Int32 → Int32 → Int32 → Int32 → ab_S → Option (Int32 × ab_S)) (v1 : Int32) (v2 : Int32) (v3 : Int32) (v4 : Int32) (v5 : Int32) (v6 : Int32) (σ : ab_S) : Option (Int32 × ab_S) := kk9 v1 v2 v3 v4 v5 (v6 + 1) σ
def fX3_drawAct_b9_o (kk9 : Int32 → Int32 → Int32 → Int32 → Int32 → Int32 → ab_S → Option (Int32 × ab_S)) (v1 : Int32) (v2 : Int32) (v3 : Int32) (v4 : Int32) (v5 : Int32) (v6 : Int32) (σ : ab_S) : Option (Int32 × ab_S) := (if (σ.1 1 0 3) ≤ v6 then some ((-1), σ) else (if v6 = v3 then fX3_drawAct_b66 kk9 v1 v2 v3 v4 v5 v6 σ else (fX9_isIn v2 v6).bind fun q3 => (if q3 = 0 then (fX3_drawOf 12 σ).bind fun q5 => (fX1_twelfths v1 v5 v3 v6 v4 q5.2).bind fun q6 => (if q6.1 ≤ q5.1 then fX3_drawAct_b66 kk9 v1 v2 v3 v4 v5 v6 q6.2 else some (v6, q6.2)) else fX3_drawAct_b66 kk9 v1 v2 v3 v4 v5 v6 σ)))
def fX3_drawAct_b9 : Nat → Int32 → Int32 → Int32 → Int32 → Int32 → Int32 → ab_S → Option (Int32 × ab_S)
  | 0 => fun _ _ _ _ _ _ _ => none
  | n + 1 => fX3_drawAct_b9_o  (fX3_drawAct_b9 n)
def fX3_drawAct (x1 : Int32) (x2 : Int32) (x3 : Int32) (x4 : Int32) (σ : ab_S) : Option (Int32 × ab_S) := (fJ6_bitCount_0f7a4 x2).bind fun q1 => fX3_drawAct_b9 ab_N x1 x2 x3 x4 q1 0 σ
section
variable {p : Program} {l : Launch} {e : Env} {s : State} {m : MethodId} {args : Array Value} {below : List Frame} {meth : Method} {c : Code} {D : va_G} {cA : Nat → ClassId} {ad : Nat → Nat → Nat}
set_option maxRecDepth 100000 in
set_option maxHeartbeats 4000000 in
theorem gX3_drawAct_b66 {R : (Int32 × ab_S)} (C : ab_C yC p s m args meth c D cA ad cX3_drawAct 7 RX3 (some .int)) {kk9 : Int32 → Int32 → Int32 → Int32 → Int32 → Int32 → ab_S → Option (Int32 × ab_S)} (hk9 : ∀ (v1 : Int32) (v2 : Int32) (v3 : Int32) (v4 : Int32) (v5 : Int32) (v6 : Int32) (σ : ab_S), kk9 v1 v2 v3 v4 v5 v6 σ = some R → ab_G yC p l e s m args below meth c D cA ad 7 4 (some (.inl R.1)) R.2 9 [some (.inr (.inr (35, 0))), some (.inl v1), some (.inl v2), some (.inl v3), some (.inl v4), some (.inl v5), some (.inl v6)] [] σ) (v1 : Int32) (v2 : Int32) (v3 : Int32) (v4 : Int32) (v5 : Int32) (v6 : Int32) (σ : ab_S) (h : fX3_drawAct_b66 kk9 v1 v2 v3 v4 v5 v6 σ = some R) : ab_G yC p l e s m args below meth c D cA ad 7 4 (some (.inl R.1)) R.2 66 [some (.inr (.inr (35, 0))), some (.inl v1), some (.inl v2), some (.inl v3), some (.inl v4), some (.inl v5), some (.inl v6)] [] σ := by
  refine ab_iinc C dX3_drawAct_66 rfl (v := 1) rfl (Nat.le_of_ble_eq_true rfl) ?_
  refine ab_goto C (tgt := 9) dX3_drawAct_69 (by decide) ?_
  refine ab_weak (lv' := [some (.inr (.inr (35, 0))), some (.inl v1), some (.inl v2), some (.inl v3), some (.inl v4), some (.inl v5), some (.inl (v6 + 1))]) ⟨.inr rfl, ⟨.inr rfl, ⟨.inr rfl, ⟨.inr rfl, ⟨.inr rfl, ⟨.inr rfl, ⟨.inr rfl, trivial⟩⟩⟩⟩⟩⟩⟩ ?_
  exact hk9 _ _ _ _ _ _ _ h
set_option maxRecDepth 100000 in
set_option maxHeartbeats 4000000 in
theorem gX3_drawAct_b9_o {R : (Int32 × ab_S)} (C : ab_C yC p s m args meth c D cA ad cX3_drawAct 7 RX3 (some .int)) {kk9 : Int32 → Int32 → Int32 → Int32 → Int32 → Int32 → ab_S → Option (Int32 × ab_S)} (hk9 : ∀ (v1 : Int32) (v2 : Int32) (v3 : Int32) (v4 : Int32) (v5 : Int32) (v6 : Int32) (σ : ab_S), kk9 v1 v2 v3 v4 v5 v6 σ = some R → ab_G yC p l e s m args below meth c D cA ad 7 4 (some (.inl R.1)) R.2 9 [some (.inr (.inr (35, 0))), some (.inl v1), some (.inl v2), some (.inl v3), some (.inl v4), some (.inl v5), some (.inl v6)] [] σ) (v1 : Int32) (v2 : Int32) (v3 : Int32) (v4 : Int32) (v5 : Int32) (v6 : Int32) (σ : ab_S) (h : fX3_drawAct_b9_o kk9 v1 v2 v3 v4 v5 v6 σ = some R) : ab_G yC p l e s m args below meth c D cA ad 7 4 (some (.inl R.1)) R.2 9 [some (.inr (.inr (35, 0))), some (.inl v1), some (.inl v2), some (.inl v3), some (.inl v4), some (.inl v5), some (.inl v6)] [] σ := by
  refine ab_iload C dX3_drawAct_9 rfl ?_
  refine ab_aload_n C dX3_drawAct_11 rfl ?_
  refine ab_getR C dX3_drawAct_12 flX3_9 rkC_35 rfl mmC_35 ?_
  refine ab_getI C dX3_drawAct_15 flX3_51 rkC_1 rfl mmC_1 ?_
  refine ab_icmp_ge C (tgt := 72) dX3_drawAct_18 (by decide) (fun hc1 => ?_) (fun hc1 => ?_)
  · replace h := ab_pos hc1 h
    refine ab_iconst C dX3_drawAct_72 (v := (-1)) rfl ?_
    obtain rfl := Option.some.inj h
    exact ab_iret C dX3_drawAct_73
  · replace h := ab_neg hc1 h
    refine ab_iload C dX3_drawAct_21 rfl ?_
    refine ab_iload_n C dX3_drawAct_23 rfl ?_
    refine ab_icmp_eq C (tgt := 66) dX3_drawAct_24 (by decide) (fun hc2 => ?_) (fun hc2 => ?_)
    · replace h := ab_pos hc2 h
      refine ab_weak (lv' := [some (.inr (.inr (35, 0))), some (.inl v1), some (.inl v2), some (.inl v3), some (.inl v4), some (.inl v5), some (.inl v6)]) ⟨.inr rfl, ⟨.inr rfl, ⟨.inr rfl, ⟨.inr rfl, ⟨.inr rfl, ⟨.inr rfl, ⟨.inr rfl, trivial⟩⟩⟩⟩⟩⟩⟩ ?_
      exact gX3_drawAct_b66 C hk9 _ _ _ _ _ _ _ h
    · replace h := ab_neg hc2 h
      refine ab_iload_n C dX3_drawAct_27 rfl ?_
      refine ab_iload C dX3_drawAct_28 rfl ?_
      obtain ⟨q3, hq3, h⟩ := ab_bind h
      refine ab_invSN1 C dX3_drawAct_30 nlX3_40 ysX9_isIn (tX9_isIn l _ _ _ hq3) (Nat.le_of_ble_eq_true rfl) (Nat.le_of_ble_eq_true rfl) rfl (Nat.le_of_ble_eq_true rfl) ?_
      refine ab_if_eq C (tgt := 39) dX3_drawAct_33 (by decide) (fun hc4 => ?_) (fun hc4 => ?_)
      · replace h := ab_pos hc4 h
        refine ab_aload_n C dX3_drawAct_39 rfl ?_
        refine ab_bipush C dX3_drawAct_40 (v := 12) rfl ?_
        obtain ⟨q5, hq5, h⟩ := ab_bind h
        refine ab_inv1 C dX3_drawAct_42 mlX3_47 yvX3_drawOf rkC_35 ⟨_, _, rfl⟩ mmC_35 (tX3_drawOf l _ _ hq5) (Nat.le_of_ble_eq_true rfl) (Nat.le_of_ble_eq_true rfl) rfl (Nat.le_of_ble_eq_true rfl) ?_
        refine ab_aload_n C dX3_drawAct_45 rfl ?_
        refine ab_getR C dX3_drawAct_46 flX3_15 rkC_35 rfl mmC_35 ?_
        refine ab_iload_n C dX3_drawAct_49 rfl ?_
        refine ab_iload C dX3_drawAct_50 rfl ?_
        refine ab_iload_n C dX3_drawAct_52 rfl ?_
        refine ab_iload C dX3_drawAct_53 rfl ?_
        refine ab_iload C dX3_drawAct_55 rfl ?_
        obtain ⟨q6, hq6, h⟩ := ab_bind h
        refine ab_inv1 C dX3_drawAct_57 mlX3_63 yvX1_twelfths rkC_21 ⟨_, _, rfl⟩ mmC_21 (tX1_twelfths l _ _ _ _ _ _ hq6) (Nat.le_of_ble_eq_true rfl) (Nat.le_of_ble_eq_true rfl) rfl (Nat.le_of_ble_eq_true rfl) ?_
        refine ab_icmp_ge C (tgt := 66) dX3_drawAct_60 (by decide) (fun hc7 => ?_) (fun hc7 => ?_)
        · replace h := ab_pos hc7 h
          refine ab_weak (lv' := [some (.inr (.inr (35, 0))), some (.inl v1), some (.inl v2), some (.inl v3), some (.inl v4), some (.inl v5), some (.inl v6)]) ⟨.inr rfl, ⟨.inr rfl, ⟨.inr rfl, ⟨.inr rfl, ⟨.inr rfl, ⟨.inr rfl, ⟨.inr rfl, trivial⟩⟩⟩⟩⟩⟩⟩ ?_
          exact gX3_drawAct_b66 C hk9 _ _ _ _ _ _ _ h
        · replace h := ab_neg hc7 h
          refine ab_iload C dX3_drawAct_63 rfl ?_
          obtain rfl := Option.some.inj h
          exact ab_iret C dX3_drawAct_65
      · replace h := ab_neg hc4 h
        refine ab_goto C (tgt := 66) dX3_drawAct_36 (by decide) ?_
        refine ab_weak (lv' := [some (.inr (.inr (35, 0))), some (.inl v1), some (.inl v2), some (.inl v3), some (.inl v4), some (.inl v5), some (.inl v6)]) ⟨.inr rfl, ⟨.inr rfl, ⟨.inr rfl, ⟨.inr rfl, ⟨.inr rfl, ⟨.inr rfl, ⟨.inr rfl, trivial⟩⟩⟩⟩⟩⟩⟩ ?_
        exact gX3_drawAct_b66 C hk9 _ _ _ _ _ _ _ h
theorem gX3_drawAct_b9 {R : (Int32 × ab_S)} (C : ab_C yC p s m args meth c D cA ad cX3_drawAct 7 RX3 (some .int)) : ∀ (j : Nat) (v1 : Int32) (v2 : Int32) (v3 : Int32) (v4 : Int32) (v5 : Int32) (v6 : Int32) (σ : ab_S), fX3_drawAct_b9 j v1 v2 v3 v4 v5 v6 σ = some R → ab_G yC p l e s m args below meth c D cA ad 7 4 (some (.inl R.1)) R.2 9 [some (.inr (.inr (35, 0))), some (.inl v1), some (.inl v2), some (.inl v3), some (.inl v4), some (.inl v5), some (.inl v6)] [] σ := by
  intro j
  induction j with
  | zero => intro v1 v2 v3 v4 v5 v6 σ  h; cases h
  | succ j ih => intro v1 v2 v3 v4 v5 v6 σ  h; exact gX3_drawAct_b9_o C ih _ _ _ _ _ _ _ h
set_option maxRecDepth 100000 in
set_option maxHeartbeats 4000000 in
theorem tX3_drawAct (l : Launch) (x1 : Int32) (x2 : Int32) (x3 : Int32) (x4 : Int32) (σ : ab_S) {R : (Int32 × ab_S)} (h : fX3_drawAct x1 x2 x3 x4 σ = some R) : ab_M l yC yX3_drawAct cX3_drawAct 7 (some .int) 4 [.inr (.inr (35, 0)), .inl x1, .inl x2, .inl x3, .inl x4] σ (some (.inl R.1)) R.2 := by
  refine ab_M_intro ndC (by decide) (Nat.le_of_ble_eq_true rfl) ?_
  intro p e s m args below meth c D cA ad C
  have C : ab_C yC p s m args meth c D cA ad cX3_drawAct 7 RX3 (some .int) := C
  refine ab_weak (lv' := [some (.inr (.inr (35, 0))), some (.inl x1), some (.inl x2), some (.inl x3), some (.inl x4), none, none]) ⟨.inr rfl, ⟨.inr rfl, ⟨.inr rfl, ⟨.inr rfl, ⟨.inr rfl, ⟨.inl rfl, ⟨.inl rfl, trivial⟩⟩⟩⟩⟩⟩⟩ ?_
  refine ab_iload_n C dX3_drawAct_0 rfl ?_
  obtain ⟨q1, hq1, h⟩ := ab_bind h
  refine ab_invS1 C dX3_drawAct_1 mlX3_58 ysJ6_bitCount_0f7a4 (tJ6_bitCount_0f7a4 l _ _ hq1) (Nat.le_of_ble_eq_true rfl) (Nat.le_of_ble_eq_true rfl) rfl (Nat.le_of_ble_eq_true rfl) ?_
  refine ab_istore C dX3_drawAct_4 (Nat.le_of_ble_eq_true rfl) ?_
  refine ab_iconst C dX3_drawAct_6 (v := 0) rfl ?_
  refine ab_istore C dX3_drawAct_7 (Nat.le_of_ble_eq_true rfl) ?_
  refine ab_weak (lv' := [some (.inr (.inr (35, 0))), some (.inl x1), some (.inl x2), some (.inl x3), some (.inl x4), some (.inl q1), some (.inl 0)]) ⟨.inr rfl, ⟨.inr rfl, ⟨.inr rfl, ⟨.inr rfl, ⟨.inr rfl, ⟨.inr rfl, ⟨.inr rfl, trivial⟩⟩⟩⟩⟩⟩⟩ ?_
  exact gX3_drawAct_b9 C ab_N _ _ _ _ _ _ _ h
end
